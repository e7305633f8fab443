theorem dX12_edge_0 : decode cX12_edge 0 = .ok (.iconst (-1), 1) := by decide +kernel
theorem dX12_edge_1 : decode cX12_edge 1 = .ok (.istore_n 3, 1) := by decide +kernel
theorem dX12_edge_2 : decode cX12_edge 2 = .ok (.iconst 0, 1) := by decide +kernel
theorem dX12_edge_3 : decode cX12_edge 3 = .ok (.istore 4, 2) := by decide +kernel
theorem dX12_edge_5 : decode cX12_edge 5 = .ok (.iload 4, 2) := by decide +kernel
theorem dX12_edge_7 : decode cX12_edge 7 = .ok (.aload_n 0, 1) := by decide +kernel
theorem dX12_edge_8 : decode cX12_edge 8 = .ok (.getfield 261, 3) := by decide +kernel
theorem dX12_edge_11 : decode cX12_edge 11 = .ok (.if_icmp .ge 61, 3) := by decide +kernel
theorem dX12_edge_14 : decode cX12_edge 14 = .ok (.aload_n 0, 1) := by decide +kernel
theorem dX12_edge_15 : decode cX12_edge 15 = .ok (.iload 4, 2) := by decide +kernel
theorem dX12_edge_17 : decode cX12_edge 17 = .ok (.iload_n 1, 1) := by decide +kernel
theorem dX12_edge_18 : decode cX12_edge 18 = .ok (.invokevirtual 457, 3) := by decide +kernel
theorem dX12_edge_21 : decode cX12_edge 21 = .ok (.ifCond .eq 45, 3) := by decide +kernel
theorem dX12_edge_24 : decode cX12_edge 24 = .ok (.iload_n 3, 1) := by decide +kernel
theorem dX12_edge_25 : decode cX12_edge 25 = .ok (.iconst (-1), 1) := by decide +kernel
theorem dX12_edge_26 : decode cX12_edge 26 = .ok (.if_icmp .eq 32, 3) := by decide +kernel
theorem dX12_edge_29 : decode cX12_edge 29 = .ok (.iload_n 2, 1) := by decide +kernel
theorem dX12_edge_30 : decode cX12_edge 30 = .ok (.ifCond .eq 17, 3) := by decide +kernel
theorem dX12_edge_33 : decode cX12_edge 33 = .ok (.aload_n 0, 1) := by decide +kernel
theorem dX12_edge_34 : decode cX12_edge 34 = .ok (.getfield 37, 3) := by decide +kernel
theorem dX12_edge_37 : decode cX12_edge 37 = .ok (.iload 4, 2) := by decide +kernel
theorem dX12_edge_39 : decode cX12_edge 39 = .ok (.iaload, 1) := by decide +kernel
theorem dX12_edge_40 : decode cX12_edge 40 = .ok (.iload_n 3, 1) := by decide +kernel
theorem dX12_edge_41 : decode cX12_edge 41 = .ok (.if_icmp .le 25, 3) := by decide +kernel
theorem dX12_edge_44 : decode cX12_edge 44 = .ok (.goto 14, 3) := by decide +kernel
theorem dX12_edge_47 : decode cX12_edge 47 = .ok (.aload_n 0, 1) := by decide +kernel
theorem dX12_edge_48 : decode cX12_edge 48 = .ok (.getfield 37, 3) := by decide +kernel
theorem dX12_edge_51 : decode cX12_edge 51 = .ok (.iload 4, 2) := by decide +kernel
theorem dX12_edge_53 : decode cX12_edge 53 = .ok (.iaload, 1) := by decide +kernel
theorem dX12_edge_54 : decode cX12_edge 54 = .ok (.iload_n 3, 1) := by decide +kernel
theorem dX12_edge_55 : decode cX12_edge 55 = .ok (.if_icmp .ge 11, 3) := by decide +kernel
theorem dX12_edge_58 : decode cX12_edge 58 = .ok (.aload_n 0, 1) := by decide +kernel
theorem dX12_edge_59 : decode cX12_edge 59 = .ok (.getfield 37, 3) := by decide +kernel
theorem dX12_edge_62 : decode cX12_edge 62 = .ok (.iload 4, 2) := by decide +kernel
theorem dX12_edge_64 : decode cX12_edge 64 = .ok (.iaload, 1) := by decide +kernel
theorem dX12_edge_65 : decode cX12_edge 65 = .ok (.istore_n 3, 1) := by decide +kernel
theorem dX12_edge_66 : decode cX12_edge 66 = .ok (.iinc 4 1, 3) := by decide +kernel
theorem dX12_edge_69 : decode cX12_edge 69 = .ok (.goto (-64), 3) := by decide +kernel
theorem dX12_edge_72 : decode cX12_edge 72 = .ok (.iload_n 3, 1) := by decide +kernel
theorem dX12_edge_73 : decode cX12_edge 73 = .ok (.ireturn, 1) := by decide +kernel
noncomputable def B_X12_edge_0 : pb_C := (i_const (.int (-1)) (i_istore 3 (i_const (.int 0) (i_istore 4 (i_jmp 5 [true, true, true, true, true])))))
noncomputable def B_X12_edge_5 : pb_C := (i_iload 4 (i_aload 0 (i_getI 64 7 (i_ic_ge (i_iload 3 i_iret) (i_aload 0 (i_iload 4 (i_iload 1 (i_callV 64 2 1 M_X12_went (i_if_eq (i_iinc 4 1 (i_jmp 5 [true, true, true, true, true])) (i_iload 3 (i_const (.int (-1)) (i_ic_eq (i_aload 0 (i_getR 64 71 (i_iload 4 (i_ald 71 200 (i_istore 3 (i_iinc 4 1 (i_jmp 5 [true, true, true, true, true]))))))) (i_iload 2 (i_if_eq (i_aload 0 (i_getR 64 71 (i_iload 4 (i_ald 71 200 (i_iload 3 (i_ic_ge (i_iinc 4 1 (i_jmp 5 [true, true, true, true, true])) (i_aload 0 (i_getR 64 71 (i_iload 4 (i_ald 71 200 (i_istore 3 (i_iinc 4 1 (i_jmp 5 [true, true, true, true, true]))))))))))))) (i_aload 0 (i_getR 64 71 (i_iload 4 (i_ald 71 200 (i_iload 3 (i_ic_le (i_iinc 4 1 (i_jmp 5 [true, true, true, true, true])) (i_aload 0 (i_getR 64 71 (i_iload 4 (i_ald 71 200 (i_istore 3 (i_iinc 4 1 (i_jmp 5 [true, true, true, true, true])))))))))))))))))))))))))))
noncomputable def T_X12_edge : Nat → pb_C := pb_tt [(0, B_X12_edge_0), (5, B_X12_edge_5)]
noncomputable def M_X12_edge : pb_F := pb_M T_X12_edge 5
set_option maxRecDepth 100000 in
set_option maxHeartbeats 4000000 in
theorem S_X12_edge (l : Launch) : pb_Sound l yX12_edge cX12_edge 5 (some .int) 3 M_X12_edge := by
  refine pb_sound_of (by decide) m_9_132 ?_
  intro Γ hl0 hRm0 hm X E hr J
  have hnL : ∀ j, j < 5 → j < Γ.2.2.2.2.2.2.2.2.2.2.2.1 := fun j h => by rw [hm]; exact h
  have hR : ∀ (d' mL : Nat), d' + 1 ≤ 3 ∧ 8 + (mL + 11) + d' * 64 ≤ 3 * 64 → (pb_rm d').frames + 1 ≤ Γ.2.2.2.1.frames ∧ 8 + (mL + 11) + (pb_rm d').locals ≤ Γ.2.2.2.1.locals := by rw [hRm0]; exact fun _ _ h => h
  have hRm : 1 ≤ 3 ∧ 64 ≤ 3 * 64 → 1 ≤ Γ.2.2.2.1.frames ∧ 64 ≤ Γ.2.2.2.1.locals := by rw [hRm0]; exact fun h => h
  exact pb_tt_snd _ (List.forall_mem_cons.mpr ⟨(s_iconst (pc := 0) X dX12_edge_0 rfl (s_istore_n (pc := 1) X dX12_edge_1 rfl (hnL _ (by decide)) (s_iconst (pc := 2) X dX12_edge_2 rfl (s_istore (pc := 3) X dX12_edge_3 (hnL _ (by decide)) (s_jmp (pc := 5) J [true, true, true, true, true]))))), List.forall_mem_cons.mpr ⟨(s_iload (pc := 5) X dX12_edge_5 (s_aload_n (pc := 7) X dX12_edge_7 rfl (s_getI (pc := 8) X dX12_edge_8 g_X12_261 (s_ic_ge (pc := 11) X dX12_edge_11 (by decide) (s_iload_n (pc := 72) X dX12_edge_72 rfl (s_iret (pc := 73) X E hr dX12_edge_73)) (s_aload_n (pc := 14) X dX12_edge_14 rfl (s_iload (pc := 15) X dX12_edge_15 (s_iload_n (pc := 17) X dX12_edge_17 rfl (s_callV (pc := 18) X dX12_edge_18 (S_X12_went _) q_X12_457 h_64 rfl (hR _ _ (by decide)) (s_if_eq (pc := 21) X dX12_edge_21 (by decide) (s_iinc (pc := 66) X dX12_edge_66 rfl (s_goto (pc := 69) X dX12_edge_69 (by decide) (s_jmp (pc := 5) J [true, true, true, true, true]))) (s_iload_n (pc := 24) X dX12_edge_24 rfl (s_iconst (pc := 25) X dX12_edge_25 rfl (s_ic_eq (pc := 26) X dX12_edge_26 (by decide) (s_aload_n (pc := 58) X dX12_edge_58 rfl (s_getR (pc := 59) X dX12_edge_59 g_X12_37 (s_iload (pc := 62) X dX12_edge_62 (s_iald (pc := 64) X dX12_edge_64 h_71 (s_istore_n (pc := 65) X dX12_edge_65 rfl (hnL _ (by decide)) (s_iinc (pc := 66) X dX12_edge_66 rfl (s_goto (pc := 69) X dX12_edge_69 (by decide) (s_jmp (pc := 5) J [true, true, true, true, true])))))))) (s_iload_n (pc := 29) X dX12_edge_29 rfl (s_if_eq (pc := 30) X dX12_edge_30 (by decide) (s_aload_n (pc := 47) X dX12_edge_47 rfl (s_getR (pc := 48) X dX12_edge_48 g_X12_37 (s_iload (pc := 51) X dX12_edge_51 (s_iald (pc := 53) X dX12_edge_53 h_71 (s_iload_n (pc := 54) X dX12_edge_54 rfl (s_ic_ge (pc := 55) X dX12_edge_55 (by decide) (s_iinc (pc := 66) X dX12_edge_66 rfl (s_goto (pc := 69) X dX12_edge_69 (by decide) (s_jmp (pc := 5) J [true, true, true, true, true]))) (s_aload_n (pc := 58) X dX12_edge_58 rfl (s_getR (pc := 59) X dX12_edge_59 g_X12_37 (s_iload (pc := 62) X dX12_edge_62 (s_iald (pc := 64) X dX12_edge_64 h_71 (s_istore_n (pc := 65) X dX12_edge_65 rfl (hnL _ (by decide)) (s_iinc (pc := 66) X dX12_edge_66 rfl (s_goto (pc := 69) X dX12_edge_69 (by decide) (s_jmp (pc := 5) J [true, true, true, true, true])))))))))))))) (s_aload_n (pc := 33) X dX12_edge_33 rfl (s_getR (pc := 34) X dX12_edge_34 g_X12_37 (s_iload (pc := 37) X dX12_edge_37 (s_iald (pc := 39) X dX12_edge_39 h_71 (s_iload_n (pc := 40) X dX12_edge_40 rfl (s_ic_le (pc := 41) X dX12_edge_41 (by decide) (s_iinc (pc := 66) X dX12_edge_66 rfl (s_goto (pc := 69) X dX12_edge_69 (by decide) (s_jmp (pc := 5) J [true, true, true, true, true]))) (s_goto (pc := 44) X dX12_edge_44 (by decide) (s_aload_n (pc := 58) X dX12_edge_58 rfl (s_getR (pc := 59) X dX12_edge_59 g_X12_37 (s_iload (pc := 62) X dX12_edge_62 (s_iald (pc := 64) X dX12_edge_64 h_71 (s_istore_n (pc := 65) X dX12_edge_65 rfl (hnL _ (by decide)) (s_iinc (pc := 66) X dX12_edge_66 rfl (s_goto (pc := 69) X dX12_edge_69 (by decide) (s_jmp (pc := 5) J [true, true, true, true, true]))))))))))))))))))))))))))))), fun _ h => absurd h List.not_mem_nil⟩⟩)
theorem dX12_isGap_0 : decode cX12_isGap 0 = .ok (.aload_n 0, 1) := by decide +kernel
theorem dX12_isGap_1 : decode cX12_isGap 1 = .ok (.iload_n 1, 1) := by decide +kernel
theorem dX12_isGap_2 : decode cX12_isGap 2 = .ok (.iload_n 2, 1) := by decide +kernel
theorem dX12_isGap_3 : decode cX12_isGap 3 = .ok (.invokevirtual 543, 3) := by decide +kernel
theorem dX12_isGap_6 : decode cX12_isGap 6 = .ok (.ifCond .ne 37, 3) := by decide +kernel
theorem dX12_isGap_9 : decode cX12_isGap 9 = .ok (.aload_n 0, 1) := by decide +kernel
theorem dX12_isGap_10 : decode cX12_isGap 10 = .ok (.iload_n 1, 1) := by decide +kernel
theorem dX12_isGap_11 : decode cX12_isGap 11 = .ok (.iconst 0, 1) := by decide +kernel
theorem dX12_isGap_12 : decode cX12_isGap 12 = .ok (.invokevirtual 546, 3) := by decide +kernel
theorem dX12_isGap_15 : decode cX12_isGap 15 = .ok (.iconst (-1), 1) := by decide +kernel
theorem dX12_isGap_16 : decode cX12_isGap 16 = .ok (.if_icmp .eq 27, 3) := by decide +kernel
theorem dX12_isGap_19 : decode cX12_isGap 19 = .ok (.aload_n 0, 1) := by decide +kernel
theorem dX12_isGap_20 : decode cX12_isGap 20 = .ok (.iload_n 1, 1) := by decide +kernel
theorem dX12_isGap_21 : decode cX12_isGap 21 = .ok (.iconst 0, 1) := by decide +kernel
theorem dX12_isGap_22 : decode cX12_isGap 22 = .ok (.invokevirtual 546, 3) := by decide +kernel
theorem dX12_isGap_25 : decode cX12_isGap 25 = .ok (.iload_n 2, 1) := by decide +kernel
theorem dX12_isGap_26 : decode cX12_isGap 26 = .ok (.if_icmp .ge 17, 3) := by decide +kernel
theorem dX12_isGap_29 : decode cX12_isGap 29 = .ok (.iload_n 2, 1) := by decide +kernel
theorem dX12_isGap_30 : decode cX12_isGap 30 = .ok (.aload_n 0, 1) := by decide +kernel
theorem dX12_isGap_31 : decode cX12_isGap 31 = .ok (.iload_n 1, 1) := by decide +kernel
theorem dX12_isGap_32 : decode cX12_isGap 32 = .ok (.iconst 1, 1) := by decide +kernel
theorem dX12_isGap_33 : decode cX12_isGap 33 = .ok (.invokevirtual 546, 3) := by decide +kernel
theorem dX12_isGap_36 : decode cX12_isGap 36 = .ok (.if_icmp .ge 7, 3) := by decide +kernel
theorem dX12_isGap_39 : decode cX12_isGap 39 = .ok (.iconst 1, 1) := by decide +kernel
theorem dX12_isGap_40 : decode cX12_isGap 40 = .ok (.goto 4, 3) := by decide +kernel
theorem dX12_isGap_43 : decode cX12_isGap 43 = .ok (.iconst 0, 1) := by decide +kernel
theorem dX12_isGap_44 : decode cX12_isGap 44 = .ok (.ireturn, 1) := by decide +kernel
noncomputable def B_X12_isGap_0 : pb_C := (i_aload 0 (i_iload 1 (i_iload 2 (i_callV 64 2 1 M_X12_hasLine (i_if_ne (i_const (.int 0) i_zret) (i_aload 0 (i_iload 1 (i_const (.int 0) (i_callV 64 2 1 M_X12_edge (i_const (.int (-1)) (i_ic_eq (i_const (.int 0) i_zret) (i_aload 0 (i_iload 1 (i_const (.int 0) (i_callV 64 2 1 M_X12_edge (i_iload 2 (i_ic_ge (i_const (.int 0) i_zret) (i_iload 2 (i_aload 0 (i_iload 1 (i_const (.int 1) (i_callV 64 2 1 M_X12_edge (i_ic_ge (i_const (.int 0) i_zret) (i_const (.int 1) i_zret))))))))))))))))))))))))
noncomputable def T_X12_isGap : Nat → pb_C := pb_tt [(0, B_X12_isGap_0)]
noncomputable def M_X12_isGap : pb_F := pb_M T_X12_isGap 3
set_option maxRecDepth 100000 in
set_option maxHeartbeats 4000000 in
theorem S_X12_isGap (l : Launch) : pb_Sound l yX12_isGap cX12_isGap 3 (some .boolean) 4 M_X12_isGap := by
  refine pb_sound_of (by decide) m_9_124 ?_
  intro Γ hl0 hRm0 hm X E hr J
  have hnL : ∀ j, j < 3 → j < Γ.2.2.2.2.2.2.2.2.2.2.2.1 := fun j h => by rw [hm]; exact h
  have hR : ∀ (d' mL : Nat), d' + 1 ≤ 4 ∧ 8 + (mL + 11) + d' * 64 ≤ 4 * 64 → (pb_rm d').frames + 1 ≤ Γ.2.2.2.1.frames ∧ 8 + (mL + 11) + (pb_rm d').locals ≤ Γ.2.2.2.1.locals := by rw [hRm0]; exact fun _ _ h => h
  have hRm : 1 ≤ 4 ∧ 64 ≤ 4 * 64 → 1 ≤ Γ.2.2.2.1.frames ∧ 64 ≤ Γ.2.2.2.1.locals := by rw [hRm0]; exact fun h => h
  exact pb_tt_snd _ (List.forall_mem_cons.mpr ⟨(s_aload_n (pc := 0) X dX12_isGap_0 rfl (s_iload_n (pc := 1) X dX12_isGap_1 rfl (s_iload_n (pc := 2) X dX12_isGap_2 rfl (s_callV (pc := 3) X dX12_isGap_3 (S_X12_hasLine _) q_X12_543 h_64 rfl (hR _ _ (by decide)) (s_if_ne (pc := 6) X dX12_isGap_6 (by decide) (s_iconst (pc := 43) X dX12_isGap_43 rfl (s_zret (pc := 44) X E hr dX12_isGap_44)) (s_aload_n (pc := 9) X dX12_isGap_9 rfl (s_iload_n (pc := 10) X dX12_isGap_10 rfl (s_iconst (pc := 11) X dX12_isGap_11 rfl (s_callV (pc := 12) X dX12_isGap_12 (S_X12_edge _) q_X12_546 h_64 rfl (hR _ _ (by decide)) (s_iconst (pc := 15) X dX12_isGap_15 rfl (s_ic_eq (pc := 16) X dX12_isGap_16 (by decide) (s_iconst (pc := 43) X dX12_isGap_43 rfl (s_zret (pc := 44) X E hr dX12_isGap_44)) (s_aload_n (pc := 19) X dX12_isGap_19 rfl (s_iload_n (pc := 20) X dX12_isGap_20 rfl (s_iconst (pc := 21) X dX12_isGap_21 rfl (s_callV (pc := 22) X dX12_isGap_22 (S_X12_edge _) q_X12_546 h_64 rfl (hR _ _ (by decide)) (s_iload_n (pc := 25) X dX12_isGap_25 rfl (s_ic_ge (pc := 26) X dX12_isGap_26 (by decide) (s_iconst (pc := 43) X dX12_isGap_43 rfl (s_zret (pc := 44) X E hr dX12_isGap_44)) (s_iload_n (pc := 29) X dX12_isGap_29 rfl (s_aload_n (pc := 30) X dX12_isGap_30 rfl (s_iload_n (pc := 31) X dX12_isGap_31 rfl (s_iconst (pc := 32) X dX12_isGap_32 rfl (s_callV (pc := 33) X dX12_isGap_33 (S_X12_edge _) q_X12_546 h_64 rfl (hR _ _ (by decide)) (s_ic_ge (pc := 36) X dX12_isGap_36 (by decide) (s_iconst (pc := 43) X dX12_isGap_43 rfl (s_zret (pc := 44) X E hr dX12_isGap_44)) (s_iconst (pc := 39) X dX12_isGap_39 rfl (s_goto (pc := 40) X dX12_isGap_40 (by decide) (s_zret (pc := 44) X E hr dX12_isGap_44)))))))))))))))))))))))))), fun _ h => absurd h List.not_mem_nil⟩)
theorem dX12_gaps_0 : decode cX12_gaps 0 = .ok (.aload_n 0, 1) := by decide +kernel
theorem dX12_gaps_1 : decode cX12_gaps 1 = .ok (.iload_n 1, 1) := by decide +kernel
theorem dX12_gaps_2 : decode cX12_gaps 2 = .ok (.invokevirtual 284, 3) := by decide +kernel
theorem dX12_gaps_5 : decode cX12_gaps 5 = .ok (.ifCond .ne 9, 3) := by decide +kernel
theorem dX12_gaps_8 : decode cX12_gaps 8 = .ok (.aload_n 0, 1) := by decide +kernel
theorem dX12_gaps_9 : decode cX12_gaps 9 = .ok (.iconst 1, 1) := by decide +kernel
theorem dX12_gaps_10 : decode cX12_gaps 10 = .ok (.invokevirtual 267, 3) := by decide +kernel
theorem dX12_gaps_13 : decode cX12_gaps 13 = .ok (.ireturn, 1) := by decide +kernel
theorem dX12_gaps_14 : decode cX12_gaps 14 = .ok (.iconst 0, 1) := by decide +kernel
theorem dX12_gaps_15 : decode cX12_gaps 15 = .ok (.istore_n 2, 1) := by decide +kernel
theorem dX12_gaps_16 : decode cX12_gaps 16 = .ok (.iconst 0, 1) := by decide +kernel
theorem dX12_gaps_17 : decode cX12_gaps 17 = .ok (.istore_n 3, 1) := by decide +kernel
theorem dX12_gaps_18 : decode cX12_gaps 18 = .ok (.iload_n 3, 1) := by decide +kernel
theorem dX12_gaps_19 : decode cX12_gaps 19 = .ok (.sipush 520, 3) := by decide +kernel
theorem dX12_gaps_22 : decode cX12_gaps 22 = .ok (.if_icmp .ge 26, 3) := by decide +kernel
theorem dX12_gaps_25 : decode cX12_gaps 25 = .ok (.iload_n 2, 1) := by decide +kernel
theorem dX12_gaps_26 : decode cX12_gaps 26 = .ok (.aload_n 0, 1) := by decide +kernel
theorem dX12_gaps_27 : decode cX12_gaps 27 = .ok (.iload_n 1, 1) := by decide +kernel
theorem dX12_gaps_28 : decode cX12_gaps 28 = .ok (.iload_n 3, 1) := by decide +kernel
theorem dX12_gaps_29 : decode cX12_gaps 29 = .ok (.invokevirtual 550, 3) := by decide +kernel
theorem dX12_gaps_32 : decode cX12_gaps 32 = .ok (.ifCond .eq 7, 3) := by decide +kernel
theorem dX12_gaps_35 : decode cX12_gaps 35 = .ok (.iconst 1, 1) := by decide +kernel
theorem dX12_gaps_36 : decode cX12_gaps 36 = .ok (.goto 4, 3) := by decide +kernel
theorem dX12_gaps_39 : decode cX12_gaps 39 = .ok (.iconst 0, 1) := by decide +kernel
theorem dX12_gaps_40 : decode cX12_gaps 40 = .ok (.iadd, 1) := by decide +kernel
theorem dX12_gaps_41 : decode cX12_gaps 41 = .ok (.istore_n 2, 1) := by decide +kernel
theorem dX12_gaps_42 : decode cX12_gaps 42 = .ok (.iinc 3 1, 3) := by decide +kernel
theorem dX12_gaps_45 : decode cX12_gaps 45 = .ok (.goto (-27), 3) := by decide +kernel
theorem dX12_gaps_48 : decode cX12_gaps 48 = .ok (.aload_n 0, 1) := by decide +kernel
theorem dX12_gaps_49 : decode cX12_gaps 49 = .ok (.iload_n 2, 1) := by decide +kernel
theorem dX12_gaps_50 : decode cX12_gaps 50 = .ok (.invokevirtual 237, 3) := by decide +kernel
theorem dX12_gaps_53 : decode cX12_gaps 53 = .ok (.ireturn, 1) := by decide +kernel
noncomputable def B_X12_gaps_0 : pb_C := (i_aload 0 (i_iload 1 (i_callV 64 1 1 M_X12_isFamily (i_if_ne (i_const (.int 0) (i_istore 2 (i_const (.int 0) (i_istore 3 (i_jmp 18 [true, true, true, true]))))) (i_aload 0 (i_const (.int 1) (i_callV 64 1 1 M_X12_refuse i_iret)))))))
noncomputable def B_X12_gaps_18 : pb_C := (i_iload 3 (i_const (.int 520) (i_ic_ge (i_aload 0 (i_iload 2 (i_callV 64 1 1 M_X12_gives i_iret))) (i_iload 2 (i_aload 0 (i_iload 1 (i_iload 3 (i_callV 64 2 1 M_X12_isGap (i_if_eq (i_const (.int 0) (i_ibin (· + ·) (i_istore 2 (i_iinc 3 1 (i_jmp 18 [true, true, true, true]))))) (i_const (.int 1) (i_ibin (· + ·) (i_istore 2 (i_iinc 3 1 (i_jmp 18 [true, true, true, true]))))))))))))))
noncomputable def T_X12_gaps : Nat → pb_C := pb_tt [(0, B_X12_gaps_0), (18, B_X12_gaps_18)]
noncomputable def M_X12_gaps : pb_F := pb_M T_X12_gaps 4
set_option maxRecDepth 100000 in
set_option maxHeartbeats 4000000 in
theorem S_X12_gaps (l : Launch) : pb_Sound l yX12_gaps cX12_gaps 4 (some .int) 5 M_X12_gaps := by
  refine pb_sound_of (by decide) m_9_120 ?_
  intro Γ hl0 hRm0 hm X E hr J
  have hnL : ∀ j, j < 4 → j < Γ.2.2.2.2.2.2.2.2.2.2.2.1 := fun j h => by rw [hm]; exact h
  have hR : ∀ (d' mL : Nat), d' + 1 ≤ 5 ∧ 8 + (mL + 11) + d' * 64 ≤ 5 * 64 → (pb_rm d').frames + 1 ≤ Γ.2.2.2.1.frames ∧ 8 + (mL + 11) + (pb_rm d').locals ≤ Γ.2.2.2.1.locals := by rw [hRm0]; exact fun _ _ h => h
  have hRm : 1 ≤ 5 ∧ 64 ≤ 5 * 64 → 1 ≤ Γ.2.2.2.1.frames ∧ 64 ≤ Γ.2.2.2.1.locals := by rw [hRm0]; exact fun h => h
  exact pb_tt_snd _ (List.forall_mem_cons.mpr ⟨(s_aload_n (pc := 0) X dX12_gaps_0 rfl (s_iload_n (pc := 1) X dX12_gaps_1 rfl (s_callV (pc := 2) X dX12_gaps_2 (S_X12_isFamily _) q_X12_284 h_64 rfl (hR _ _ (by decide)) (s_if_ne (pc := 5) X dX12_gaps_5 (by decide) (s_iconst (pc := 14) X dX12_gaps_14 rfl (s_istore_n (pc := 15) X dX12_gaps_15 rfl (hnL _ (by decide)) (s_iconst (pc := 16) X dX12_gaps_16 rfl (s_istore_n (pc := 17) X dX12_gaps_17 rfl (hnL _ (by decide)) (s_jmp (pc := 18) J [true, true, true, true]))))) (s_aload_n (pc := 8) X dX12_gaps_8 rfl (s_iconst (pc := 9) X dX12_gaps_9 rfl (s_callV (pc := 10) X dX12_gaps_10 (S_X12_refuse _) q_X12_267 h_64 rfl (hR _ _ (by decide)) (s_iret (pc := 13) X E hr dX12_gaps_13)))))))), List.forall_mem_cons.mpr ⟨(s_iload_n (pc := 18) X dX12_gaps_18 rfl (s_sipush (pc := 19) X dX12_gaps_19 rfl (s_ic_ge (pc := 22) X dX12_gaps_22 (by decide) (s_aload_n (pc := 48) X dX12_gaps_48 rfl (s_iload_n (pc := 49) X dX12_gaps_49 rfl (s_callV (pc := 50) X dX12_gaps_50 (S_X12_gives _) q_X12_237 h_64 rfl (hR _ _ (by decide)) (s_iret (pc := 53) X E hr dX12_gaps_53)))) (s_iload_n (pc := 25) X dX12_gaps_25 rfl (s_aload_n (pc := 26) X dX12_gaps_26 rfl (s_iload_n (pc := 27) X dX12_gaps_27 rfl (s_iload_n (pc := 28) X dX12_gaps_28 rfl (s_callV (pc := 29) X dX12_gaps_29 (S_X12_isGap _) q_X12_550 h_64 rfl (hR _ _ (by decide)) (s_if_eq (pc := 32) X dX12_gaps_32 (by decide) (s_iconst (pc := 39) X dX12_gaps_39 rfl (s_iadd (pc := 40) X dX12_gaps_40 (s_istore_n (pc := 41) X dX12_gaps_41 rfl (hnL _ (by decide)) (s_iinc (pc := 42) X dX12_gaps_42 rfl (s_goto (pc := 45) X dX12_gaps_45 (by decide) (s_jmp (pc := 18) J [true, true, true, true])))))) (s_iconst (pc := 35) X dX12_gaps_35 rfl (s_goto (pc := 36) X dX12_gaps_36 (by decide) (s_iadd (pc := 40) X dX12_gaps_40 (s_istore_n (pc := 41) X dX12_gaps_41 rfl (hnL _ (by decide)) (s_iinc (pc := 42) X dX12_gaps_42 rfl (s_goto (pc := 45) X dX12_gaps_45 (by decide) (s_jmp (pc := 18) J [true, true, true, true])))))))))))))))), fun _ h => absurd h List.not_mem_nil⟩⟩)
theorem dX12_bound_0 : decode cX12_bound 0 = .ok (.aload_n 0, 1) := by decide +kernel
theorem dX12_bound_1 : decode cX12_bound 1 = .ok (.iload_n 1, 1) := by decide +kernel
theorem dX12_bound_2 : decode cX12_bound 2 = .ok (.invokevirtual 284, 3) := by decide +kernel
theorem dX12_bound_5 : decode cX12_bound 5 = .ok (.ifCond .eq 32, 3) := by decide +kernel
theorem dX12_bound_8 : decode cX12_bound 8 = .ok (.iload_n 2, 1) := by decide +kernel
theorem dX12_bound_9 : decode cX12_bound 9 = .ok (.invokestatic 287, 3) := by decide +kernel
theorem dX12_bound_12 : decode cX12_bound 12 = .ok (.ifCond .eq 25, 3) := by decide +kernel
theorem dX12_bound_15 : decode cX12_bound 15 = .ok (.iload_n 3, 1) := by decide +kernel
theorem dX12_bound_16 : decode cX12_bound 16 = .ok (.iconst 1, 1) := by decide +kernel
theorem dX12_bound_17 : decode cX12_bound 17 = .ok (.if_icmp .lt 20, 3) := by decide +kernel
theorem dX12_bound_20 : decode cX12_bound 20 = .ok (.iload_n 3, 1) := by decide +kernel
theorem dX12_bound_21 : decode cX12_bound 21 = .ok (.bipush 60, 2) := by decide +kernel
theorem dX12_bound_23 : decode cX12_bound 23 = .ok (.if_icmp .gt 14, 3) := by decide +kernel
theorem dX12_bound_26 : decode cX12_bound 26 = .ok (.iload 4, 2) := by decide +kernel
theorem dX12_bound_28 : decode cX12_bound 28 = .ok (.ifCond .lt 9, 3) := by decide +kernel
theorem dX12_bound_31 : decode cX12_bound 31 = .ok (.iload 4, 2) := by decide +kernel
theorem dX12_bound_33 : decode cX12_bound 33 = .ok (.iconst 1, 1) := by decide +kernel
theorem dX12_bound_34 : decode cX12_bound 34 = .ok (.if_icmp .le 9, 3) := by decide +kernel
theorem dX12_bound_37 : decode cX12_bound 37 = .ok (.aload_n 0, 1) := by decide +kernel
theorem dX12_bound_38 : decode cX12_bound 38 = .ok (.iconst 1, 1) := by decide +kernel
theorem dX12_bound_39 : decode cX12_bound 39 = .ok (.invokevirtual 267, 3) := by decide +kernel
theorem dX12_bound_42 : decode cX12_bound 42 = .ok (.ireturn, 1) := by decide +kernel
theorem dX12_bound_43 : decode cX12_bound 43 = .ok (.aload_n 0, 1) := by decide +kernel
theorem dX12_bound_44 : decode cX12_bound 44 = .ok (.iload_n 1, 1) := by decide +kernel
theorem dX12_bound_45 : decode cX12_bound 45 = .ok (.iload_n 2, 1) := by decide +kernel
theorem dX12_bound_46 : decode cX12_bound 46 = .ok (.invokevirtual 550, 3) := by decide +kernel
theorem dX12_bound_49 : decode cX12_bound 49 = .ok (.ifCond .ne 10, 3) := by decide +kernel
theorem dX12_bound_52 : decode cX12_bound 52 = .ok (.aload_n 0, 1) := by decide +kernel
theorem dX12_bound_53 : decode cX12_bound 53 = .ok (.bipush 6, 2) := by decide +kernel
theorem dX12_bound_55 : decode cX12_bound 55 = .ok (.invokevirtual 267, 3) := by decide +kernel
theorem dX12_bound_58 : decode cX12_bound 58 = .ok (.ireturn, 1) := by decide +kernel
theorem dX12_bound_59 : decode cX12_bound 59 = .ok (.iconst (-1), 1) := by decide +kernel
theorem dX12_bound_60 : decode cX12_bound 60 = .ok (.istore 5, 2) := by decide +kernel
theorem dX12_bound_62 : decode cX12_bound 62 = .ok (.iconst 0, 1) := by decide +kernel
theorem dX12_bound_63 : decode cX12_bound 63 = .ok (.iload_n 2, 1) := by decide +kernel
theorem dX12_bound_64 : decode cX12_bound 64 = .ok (.iload_n 3, 1) := by decide +kernel
theorem dX12_bound_65 : decode cX12_bound 65 = .ok (.isub, 1) := by decide +kernel
theorem dX12_bound_66 : decode cX12_bound 66 = .ok (.invokestatic 509, 3) := by decide +kernel
theorem dX12_bound_69 : decode cX12_bound 69 = .ok (.istore 6, 2) := by decide +kernel
theorem dX12_bound_71 : decode cX12_bound 71 = .ok (.iload 6, 2) := by decide +kernel
theorem dX12_bound_73 : decode cX12_bound 73 = .ok (.sipush 519, 3) := by decide +kernel
theorem dX12_bound_76 : decode cX12_bound 76 = .ok (.iload_n 2, 1) := by decide +kernel
theorem dX12_bound_77 : decode cX12_bound 77 = .ok (.iload_n 3, 1) := by decide +kernel
theorem dX12_bound_78 : decode cX12_bound 78 = .ok (.iadd, 1) := by decide +kernel
theorem dX12_bound_79 : decode cX12_bound 79 = .ok (.invokestatic 343, 3) := by decide +kernel
theorem dX12_bound_82 : decode cX12_bound 82 = .ok (.if_icmp .gt 65, 3) := by decide +kernel
theorem dX12_bound_85 : decode cX12_bound 85 = .ok (.aload_n 0, 1) := by decide +kernel
theorem dX12_bound_86 : decode cX12_bound 86 = .ok (.iload_n 1, 1) := by decide +kernel
theorem dX12_bound_87 : decode cX12_bound 87 = .ok (.iload 6, 2) := by decide +kernel
theorem dX12_bound_89 : decode cX12_bound 89 = .ok (.invokevirtual 543, 3) := by decide +kernel
theorem dX12_bound_92 : decode cX12_bound 92 = .ok (.ifCond .ne 6, 3) := by decide +kernel
theorem dX12_bound_95 : decode cX12_bound 95 = .ok (.goto 46, 3) := by decide +kernel
theorem dX12_bound_98 : decode cX12_bound 98 = .ok (.aload_n 0, 1) := by decide +kernel
theorem dX12_bound_99 : decode cX12_bound 99 = .ok (.iload_n 1, 1) := by decide +kernel
theorem dX12_bound_100 : decode cX12_bound 100 = .ok (.iload 6, 2) := by decide +kernel
theorem dX12_bound_102 : decode cX12_bound 102 = .ok (.iconst (-1), 1) := by decide +kernel
theorem dX12_bound_103 : decode cX12_bound 103 = .ok (.iconst 0, 1) := by decide +kernel
theorem dX12_bound_104 : decode cX12_bound 104 = .ok (.invokevirtual 463, 3) := by decide +kernel
theorem dX12_bound_107 : decode cX12_bound 107 = .ok (.istore 7, 2) := by decide +kernel
theorem dX12_bound_109 : decode cX12_bound 109 = .ok (.iload 5, 2) := by decide +kernel
theorem dX12_bound_111 : decode cX12_bound 111 = .ok (.iconst (-1), 1) := by decide +kernel
theorem dX12_bound_112 : decode cX12_bound 112 = .ok (.if_icmp .eq 25, 3) := by decide +kernel
theorem dX12_bound_115 : decode cX12_bound 115 = .ok (.iload 4, 2) := by decide +kernel
theorem dX12_bound_117 : decode cX12_bound 117 = .ok (.ifCond .ne 13, 3) := by decide +kernel
theorem dX12_bound_120 : decode cX12_bound 120 = .ok (.iload 7, 2) := by decide +kernel
theorem dX12_bound_122 : decode cX12_bound 122 = .ok (.iload 5, 2) := by decide +kernel
theorem dX12_bound_124 : decode cX12_bound 124 = .ok (.if_icmp .ge 17, 3) := by decide +kernel
theorem dX12_bound_127 : decode cX12_bound 127 = .ok (.goto 10, 3) := by decide +kernel
theorem dX12_bound_130 : decode cX12_bound 130 = .ok (.iload 7, 2) := by decide +kernel
theorem dX12_bound_132 : decode cX12_bound 132 = .ok (.iload 5, 2) := by decide +kernel
theorem dX12_bound_134 : decode cX12_bound 134 = .ok (.if_icmp .le 7, 3) := by decide +kernel
theorem dX12_bound_137 : decode cX12_bound 137 = .ok (.iload 7, 2) := by decide +kernel
theorem dX12_bound_139 : decode cX12_bound 139 = .ok (.istore 5, 2) := by decide +kernel
theorem dX12_bound_141 : decode cX12_bound 141 = .ok (.iinc 6 1, 3) := by decide +kernel
theorem dX12_bound_144 : decode cX12_bound 144 = .ok (.goto (-73), 3) := by decide +kernel
theorem dX12_bound_147 : decode cX12_bound 147 = .ok (.iload 5, 2) := by decide +kernel
theorem dX12_bound_149 : decode cX12_bound 149 = .ok (.iconst (-1), 1) := by decide +kernel
theorem dX12_bound_150 : decode cX12_bound 150 = .ok (.if_icmp .ne 12, 3) := by decide +kernel
theorem dX12_bound_153 : decode cX12_bound 153 = .ok (.aload_n 0, 1) := by decide +kernel
theorem dX12_bound_154 : decode cX12_bound 154 = .ok (.bipush 6, 2) := by decide +kernel
theorem dX12_bound_156 : decode cX12_bound 156 = .ok (.invokevirtual 267, 3) := by decide +kernel
theorem dX12_bound_159 : decode cX12_bound 159 = .ok (.goto 9, 3) := by decide +kernel
theorem dX12_bound_162 : decode cX12_bound 162 = .ok (.aload_n 0, 1) := by decide +kernel
theorem dX12_bound_163 : decode cX12_bound 163 = .ok (.iload 5, 2) := by decide +kernel
theorem dX12_bound_165 : decode cX12_bound 165 = .ok (.invokevirtual 237, 3) := by decide +kernel
theorem dX12_bound_168 : decode cX12_bound 168 = .ok (.ireturn, 1) := by decide +kernel
noncomputable def B_X12_bound_0 : pb_C := (i_aload 0 (i_iload 1 (i_callV 64 1 1 M_X12_isFamily (i_if_eq (i_aload 0 (i_const (.int 1) (i_callV 64 1 1 M_X12_refuse i_iret))) (i_iload 2 (i_callS 1 1 M_X12_isWeek (i_if_eq (i_aload 0 (i_const (.int 1) (i_callV 64 1 1 M_X12_refuse i_iret))) (i_iload 3 (i_const (.int 1) (i_ic_lt (i_aload 0 (i_const (.int 1) (i_callV 64 1 1 M_X12_refuse i_iret))) (i_iload 3 (i_const (.int 60) (i_ic_gt (i_aload 0 (i_const (.int 1) (i_callV 64 1 1 M_X12_refuse i_iret))) (i_iload 4 (i_if_lt (i_aload 0 (i_const (.int 1) (i_callV 64 1 1 M_X12_refuse i_iret))) (i_iload 4 (i_const (.int 1) (i_ic_le (i_aload 0 (i_iload 1 (i_iload 2 (i_callV 64 2 1 M_X12_isGap (i_if_ne (i_const (.int (-1)) (i_istore 5 (i_const (.int 0) (i_iload 2 (i_iload 3 (i_ibin (· - ·) (i_mI2 pb_max (i_istore 6 (i_jmp 71 [true, true, true, true, true, true, true, false]))))))))) (i_aload 0 (i_const (.int 6) (i_callV 64 1 1 M_X12_refuse i_iret)))))))) (i_aload 0 (i_const (.int 1) (i_callV 64 1 1 M_X12_refuse i_iret)))))))))))))))))))))
noncomputable def B_X12_bound_71 : pb_C := (i_iload 6 (i_const (.int 519) (i_iload 2 (i_iload 3 (i_ibin (· + ·) (i_mI2 pb_min (i_ic_gt (i_iload 5 (i_const (.int (-1)) (i_ic_ne (i_aload 0 (i_iload 5 (i_callV 64 1 1 M_X12_gives i_iret))) (i_aload 0 (i_const (.int 6) (i_callV 64 1 1 M_X12_refuse i_iret)))))) (i_aload 0 (i_iload 1 (i_iload 6 (i_callV 64 2 1 M_X12_hasLine (i_if_ne (i_aload 0 (i_iload 1 (i_iload 6 (i_const (.int (-1)) (i_const (.int 0) (i_callV 64 4 1 M_X12_spentOf (i_istore 7 (i_iload 5 (i_const (.int (-1)) (i_ic_eq (i_iload 7 (i_istore 5 (i_iinc 6 1 (i_jmp 71 [true, true, true, true, true, true, true, false])))) (i_iload 4 (i_if_ne (i_iload 7 (i_iload 5 (i_ic_le (i_iinc 6 1 (i_jmp 71 [true, true, true, true, true, true, true, false])) (i_iload 7 (i_istore 5 (i_iinc 6 1 (i_jmp 71 [true, true, true, true, true, true, true, false]))))))) (i_iload 7 (i_iload 5 (i_ic_ge (i_iinc 6 1 (i_jmp 71 [true, true, true, true, true, true, true, false])) (i_iload 7 (i_istore 5 (i_iinc 6 1 (i_jmp 71 [true, true, true, true, true, true, true, false]))))))))))))))))))) (i_iinc 6 1 (i_jmp 71 [true, true, true, true, true, true, true, false]))))))))))))))
noncomputable def T_X12_bound : Nat → pb_C := pb_tt [(0, B_X12_bound_0), (71, B_X12_bound_71)]
noncomputable def M_X12_bound : pb_F := pb_M T_X12_bound 8
set_option maxRecDepth 100000 in
set_option maxHeartbeats 4000000 in
theorem S_X12_bound (l : Launch) : pb_Sound l yX12_bound cX12_bound 8 (some .int) 7 M_X12_bound := by
  refine pb_sound_of (by decide) m_9_136 ?_
  intro Γ hl0 hRm0 hm X E hr J
  have hnL : ∀ j, j < 8 → j < Γ.2.2.2.2.2.2.2.2.2.2.2.1 := fun j h => by rw [hm]; exact h
  have hR : ∀ (d' mL : Nat), d' + 1 ≤ 7 ∧ 8 + (mL + 11) + d' * 64 ≤ 7 * 64 → (pb_rm d').frames + 1 ≤ Γ.2.2.2.1.frames ∧ 8 + (mL + 11) + (pb_rm d').locals ≤ Γ.2.2.2.1.locals := by rw [hRm0]; exact fun _ _ h => h
  have hRm : 1 ≤ 7 ∧ 64 ≤ 7 * 64 → 1 ≤ Γ.2.2.2.1.frames ∧ 64 ≤ Γ.2.2.2.1.locals := by rw [hRm0]; exact fun h => h
  exact pb_tt_snd _ (List.forall_mem_cons.mpr ⟨(s_aload_n (pc := 0) X dX12_bound_0 rfl (s_iload_n (pc := 1) X dX12_bound_1 rfl (s_callV (pc := 2) X dX12_bound_2 (S_X12_isFamily _) q_X12_284 h_64 rfl (hR _ _ (by decide)) (s_if_eq (pc := 5) X dX12_bound_5 (by decide) (s_aload_n (pc := 37) X dX12_bound_37 rfl (s_iconst (pc := 38) X dX12_bound_38 rfl (s_callV (pc := 39) X dX12_bound_39 (S_X12_refuse _) q_X12_267 h_64 rfl (hR _ _ (by decide)) (s_iret (pc := 42) X E hr dX12_bound_42)))) (s_iload_n (pc := 8) X dX12_bound_8 rfl (s_callS (pc := 9) X dX12_bound_9 (S_X12_isWeek _) q_X12_287 (hR _ _ (by decide)) (s_if_eq (pc := 12) X dX12_bound_12 (by decide) (s_aload_n (pc := 37) X dX12_bound_37 rfl (s_iconst (pc := 38) X dX12_bound_38 rfl (s_callV (pc := 39) X dX12_bound_39 (S_X12_refuse _) q_X12_267 h_64 rfl (hR _ _ (by decide)) (s_iret (pc := 42) X E hr dX12_bound_42)))) (s_iload_n (pc := 15) X dX12_bound_15 rfl (s_iconst (pc := 16) X dX12_bound_16 rfl (s_ic_lt (pc := 17) X dX12_bound_17 (by decide) (s_aload_n (pc := 37) X dX12_bound_37 rfl (s_iconst (pc := 38) X dX12_bound_38 rfl (s_callV (pc := 39) X dX12_bound_39 (S_X12_refuse _) q_X12_267 h_64 rfl (hR _ _ (by decide)) (s_iret (pc := 42) X E hr dX12_bound_42)))) (s_iload_n (pc := 20) X dX12_bound_20 rfl (s_bipush (pc := 21) X dX12_bound_21 rfl (s_ic_gt (pc := 23) X dX12_bound_23 (by decide) (s_aload_n (pc := 37) X dX12_bound_37 rfl (s_iconst (pc := 38) X dX12_bound_38 rfl (s_callV (pc := 39) X dX12_bound_39 (S_X12_refuse _) q_X12_267 h_64 rfl (hR _ _ (by decide)) (s_iret (pc := 42) X E hr dX12_bound_42)))) (s_iload (pc := 26) X dX12_bound_26 (s_if_lt (pc := 28) X dX12_bound_28 (by decide) (s_aload_n (pc := 37) X dX12_bound_37 rfl (s_iconst (pc := 38) X dX12_bound_38 rfl (s_callV (pc := 39) X dX12_bound_39 (S_X12_refuse _) q_X12_267 h_64 rfl (hR _ _ (by decide)) (s_iret (pc := 42) X E hr dX12_bound_42)))) (s_iload (pc := 31) X dX12_bound_31 (s_iconst (pc := 33) X dX12_bound_33 rfl (s_ic_le (pc := 34) X dX12_bound_34 (by decide) (s_aload_n (pc := 43) X dX12_bound_43 rfl (s_iload_n (pc := 44) X dX12_bound_44 rfl (s_iload_n (pc := 45) X dX12_bound_45 rfl (s_callV (pc := 46) X dX12_bound_46 (S_X12_isGap _) q_X12_550 h_64 rfl (hR _ _ (by decide)) (s_if_ne (pc := 49) X dX12_bound_49 (by decide) (s_iconst (pc := 59) X dX12_bound_59 rfl (s_istore (pc := 60) X dX12_bound_60 (hnL _ (by decide)) (s_iconst (pc := 62) X dX12_bound_62 rfl (s_iload_n (pc := 63) X dX12_bound_63 rfl (s_iload_n (pc := 64) X dX12_bound_64 rfl (s_isub (pc := 65) X dX12_bound_65 (s_mmax (pc := 66) X dX12_bound_66 m_9_59 mm_mmax (hRm (by decide)) (s_istore (pc := 69) X dX12_bound_69 (hnL _ (by decide)) (s_jmp (pc := 71) J [true, true, true, true, true, true, true, false]))))))))) (s_aload_n (pc := 52) X dX12_bound_52 rfl (s_bipush (pc := 53) X dX12_bound_53 rfl (s_callV (pc := 55) X dX12_bound_55 (S_X12_refuse _) q_X12_267 h_64 rfl (hR _ _ (by decide)) (s_iret (pc := 58) X E hr dX12_bound_58))))))))) (s_aload_n (pc := 37) X dX12_bound_37 rfl (s_iconst (pc := 38) X dX12_bound_38 rfl (s_callV (pc := 39) X dX12_bound_39 (S_X12_refuse _) q_X12_267 h_64 rfl (hR _ _ (by decide)) (s_iret (pc := 42) X E hr dX12_bound_42)))))))))))))))))))))), List.forall_mem_cons.mpr ⟨(s_iload (pc := 71) X dX12_bound_71 (s_sipush (pc := 73) X dX12_bound_73 rfl (s_iload_n (pc := 76) X dX12_bound_76 rfl (s_iload_n (pc := 77) X dX12_bound_77 rfl (s_iadd (pc := 78) X dX12_bound_78 (s_mmin (pc := 79) X dX12_bound_79 m_8_111 mm_mmin (hRm (by decide)) (s_ic_gt (pc := 82) X dX12_bound_82 (by decide) (s_iload (pc := 147) X dX12_bound_147 (s_iconst (pc := 149) X dX12_bound_149 rfl (s_ic_ne (pc := 150) X dX12_bound_150 (by decide) (s_aload_n (pc := 162) X dX12_bound_162 rfl (s_iload (pc := 163) X dX12_bound_163 (s_callV (pc := 165) X dX12_bound_165 (S_X12_gives _) q_X12_237 h_64 rfl (hR _ _ (by decide)) (s_iret (pc := 168) X E hr dX12_bound_168)))) (s_aload_n (pc := 153) X dX12_bound_153 rfl (s_bipush (pc := 154) X dX12_bound_154 rfl (s_callV (pc := 156) X dX12_bound_156 (S_X12_refuse _) q_X12_267 h_64 rfl (hR _ _ (by decide)) (s_goto (pc := 159) X dX12_bound_159 (by decide) (s_iret (pc := 168) X E hr dX12_bound_168)))))))) (s_aload_n (pc := 85) X dX12_bound_85 rfl (s_iload_n (pc := 86) X dX12_bound_86 rfl (s_iload (pc := 87) X dX12_bound_87 (s_callV (pc := 89) X dX12_bound_89 (S_X12_hasLine _) q_X12_543 h_64 rfl (hR _ _ (by decide)) (s_if_ne (pc := 92) X dX12_bound_92 (by decide) (s_aload_n (pc := 98) X dX12_bound_98 rfl (s_iload_n (pc := 99) X dX12_bound_99 rfl (s_iload (pc := 100) X dX12_bound_100 (s_iconst (pc := 102) X dX12_bound_102 rfl (s_iconst (pc := 103) X dX12_bound_103 rfl (s_callV (pc := 104) X dX12_bound_104 (S_X12_spentOf _) q_X12_463 h_64 rfl (hR _ _ (by decide)) (s_istore (pc := 107) X dX12_bound_107 (hnL _ (by decide)) (s_iload (pc := 109) X dX12_bound_109 (s_iconst (pc := 111) X dX12_bound_111 rfl (s_ic_eq (pc := 112) X dX12_bound_112 (by decide) (s_iload (pc := 137) X dX12_bound_137 (s_istore (pc := 139) X dX12_bound_139 (hnL _ (by decide)) (s_iinc (pc := 141) X dX12_bound_141 rfl (s_goto (pc := 144) X dX12_bound_144 (by decide) (s_jmp (pc := 71) J [true, true, true, true, true, true, true, false]))))) (s_iload (pc := 115) X dX12_bound_115 (s_if_ne (pc := 117) X dX12_bound_117 (by decide) (s_iload (pc := 130) X dX12_bound_130 (s_iload (pc := 132) X dX12_bound_132 (s_ic_le (pc := 134) X dX12_bound_134 (by decide) (s_iinc (pc := 141) X dX12_bound_141 rfl (s_goto (pc := 144) X dX12_bound_144 (by decide) (s_jmp (pc := 71) J [true, true, true, true, true, true, true, false]))) (s_iload (pc := 137) X dX12_bound_137 (s_istore (pc := 139) X dX12_bound_139 (hnL _ (by decide)) (s_iinc (pc := 141) X dX12_bound_141 rfl (s_goto (pc := 144) X dX12_bound_144 (by decide) (s_jmp (pc := 71) J [true, true, true, true, true, true, true, false])))))))) (s_iload (pc := 120) X dX12_bound_120 (s_iload (pc := 122) X dX12_bound_122 (s_ic_ge (pc := 124) X dX12_bound_124 (by decide) (s_iinc (pc := 141) X dX12_bound_141 rfl (s_goto (pc := 144) X dX12_bound_144 (by decide) (s_jmp (pc := 71) J [true, true, true, true, true, true, true, false]))) (s_goto (pc := 127) X dX12_bound_127 (by decide) (s_iload (pc := 137) X dX12_bound_137 (s_istore (pc := 139) X dX12_bound_139 (hnL _ (by decide)) (s_iinc (pc := 141) X dX12_bound_141 rfl (s_goto (pc := 144) X dX12_bound_144 (by decide) (s_jmp (pc := 71) J [true, true, true, true, true, true, true, false]))))))))))))))))))))) (s_goto (pc := 95) X dX12_bound_95 (by decide) (s_iinc (pc := 141) X dX12_bound_141 rfl (s_goto (pc := 144) X dX12_bound_144 (by decide) (s_jmp (pc := 71) J [true, true, true, true, true, true, true, false])))))))))))))))), fun _ h => absurd h List.not_mem_nil⟩⟩)
theorem dX12_loss_0 : decode cX12_loss 0 = .ok (.aload_n 0, 1) := by decide +kernel
theorem dX12_loss_1 : decode cX12_loss 1 = .ok (.iload_n 1, 1) := by decide +kernel
theorem dX12_loss_2 : decode cX12_loss 2 = .ok (.invokevirtual 284, 3) := by decide +kernel
theorem dX12_loss_5 : decode cX12_loss 5 = .ok (.ifCond .eq 10, 3) := by decide +kernel
theorem dX12_loss_8 : decode cX12_loss 8 = .ok (.iload_n 2, 1) := by decide +kernel
theorem dX12_loss_9 : decode cX12_loss 9 = .ok (.invokestatic 287, 3) := by decide +kernel
theorem dX12_loss_12 : decode cX12_loss 12 = .ok (.ifCond .ne 9, 3) := by decide +kernel
theorem dX12_loss_15 : decode cX12_loss 15 = .ok (.aload_n 0, 1) := by decide +kernel
theorem dX12_loss_16 : decode cX12_loss 16 = .ok (.iconst 1, 1) := by decide +kernel
theorem dX12_loss_17 : decode cX12_loss 17 = .ok (.invokevirtual 267, 3) := by decide +kernel
theorem dX12_loss_20 : decode cX12_loss 20 = .ok (.ireturn, 1) := by decide +kernel
theorem dX12_loss_21 : decode cX12_loss 21 = .ok (.aload_n 0, 1) := by decide +kernel
theorem dX12_loss_22 : decode cX12_loss 22 = .ok (.getfield 553, 3) := by decide +kernel
theorem dX12_loss_25 : decode cX12_loss 25 = .ok (.bipush 12, 2) := by decide +kernel
theorem dX12_loss_27 : decode cX12_loss 27 = .ok (.if_icmp .ne 9, 3) := by decide +kernel
theorem dX12_loss_30 : decode cX12_loss 30 = .ok (.aload_n 0, 1) := by decide +kernel
theorem dX12_loss_31 : decode cX12_loss 31 = .ok (.iconst 4, 1) := by decide +kernel
theorem dX12_loss_32 : decode cX12_loss 32 = .ok (.invokevirtual 267, 3) := by decide +kernel
theorem dX12_loss_35 : decode cX12_loss 35 = .ok (.ireturn, 1) := by decide +kernel
theorem dX12_loss_36 : decode cX12_loss 36 = .ok (.aload_n 0, 1) := by decide +kernel
theorem dX12_loss_37 : decode cX12_loss 37 = .ok (.getfield 225, 3) := by decide +kernel
theorem dX12_loss_40 : decode cX12_loss 40 = .ok (.aload_n 0, 1) := by decide +kernel
theorem dX12_loss_41 : decode cX12_loss 41 = .ok (.getfield 553, 3) := by decide +kernel
theorem dX12_loss_44 : decode cX12_loss 44 = .ok (.iload_n 1, 1) := by decide +kernel
theorem dX12_loss_45 : decode cX12_loss 45 = .ok (.iastore, 1) := by decide +kernel
theorem dX12_loss_46 : decode cX12_loss 46 = .ok (.aload_n 0, 1) := by decide +kernel
theorem dX12_loss_47 : decode cX12_loss 47 = .ok (.getfield 228, 3) := by decide +kernel
theorem dX12_loss_50 : decode cX12_loss 50 = .ok (.aload_n 0, 1) := by decide +kernel
theorem dX12_loss_51 : decode cX12_loss 51 = .ok (.getfield 553, 3) := by decide +kernel
theorem dX12_loss_54 : decode cX12_loss 54 = .ok (.iload_n 2, 1) := by decide +kernel
theorem dX12_loss_55 : decode cX12_loss 55 = .ok (.iastore, 1) := by decide +kernel
theorem dX12_loss_56 : decode cX12_loss 56 = .ok (.aload_n 0, 1) := by decide +kernel
theorem dX12_loss_57 : decode cX12_loss 57 = .ok (.dup, 1) := by decide +kernel
theorem dX12_loss_58 : decode cX12_loss 58 = .ok (.getfield 553, 3) := by decide +kernel
theorem dX12_loss_61 : decode cX12_loss 61 = .ok (.iconst 1, 1) := by decide +kernel
theorem dX12_loss_62 : decode cX12_loss 62 = .ok (.iadd, 1) := by decide +kernel
theorem dX12_loss_63 : decode cX12_loss 63 = .ok (.putfield 553, 3) := by decide +kernel
theorem dX12_loss_66 : decode cX12_loss 66 = .ok (.aload_n 0, 1) := by decide +kernel
theorem dX12_loss_67 : decode cX12_loss 67 = .ok (.aload_n 0, 1) := by decide +kernel
theorem dX12_loss_68 : decode cX12_loss 68 = .ok (.getfield 553, 3) := by decide +kernel
theorem dX12_loss_71 : decode cX12_loss 71 = .ok (.iconst 1, 1) := by decide +kernel
theorem dX12_loss_72 : decode cX12_loss 72 = .ok (.isub, 1) := by decide +kernel
theorem dX12_loss_73 : decode cX12_loss 73 = .ok (.invokevirtual 237, 3) := by decide +kernel
theorem dX12_loss_76 : decode cX12_loss 76 = .ok (.ireturn, 1) := by decide +kernel
noncomputable def B_X12_loss_0 : pb_C := (i_aload 0 (i_iload 1 (i_callV 64 1 1 M_X12_isFamily (i_if_eq (i_aload 0 (i_const (.int 1) (i_callV 64 1 1 M_X12_refuse i_iret))) (i_iload 2 (i_callS 1 1 M_X12_isWeek (i_if_ne (i_aload 0 (i_getI 64 98 (i_const (.int 12) (i_ic_ne (i_aload 0 (i_getR 64 128 (i_aload 0 (i_getI 64 98 (i_iload 1 (i_ast 128 12 (fun x => x) (i_aload 0 (i_getR 64 129 (i_aload 0 (i_getI 64 98 (i_iload 2 (i_ast 129 12 (fun x => x) (i_aload 0 (i_dupR (i_getI 64 98 (i_const (.int 1) (i_ibin (· + ·) (i_putI 64 98 (i_aload 0 (i_aload 0 (i_getI 64 98 (i_const (.int 1) (i_ibin (· - ·) (i_callV 64 1 1 M_X12_gives i_iret)))))))))))))))))))))))) (i_aload 0 (i_const (.int 4) (i_callV 64 1 1 M_X12_refuse i_iret))))))) (i_aload 0 (i_const (.int 1) (i_callV 64 1 1 M_X12_refuse i_iret))))))))))
noncomputable def T_X12_loss : Nat → pb_C := pb_tt [(0, B_X12_loss_0)]
noncomputable def M_X12_loss : pb_F := pb_M T_X12_loss 3
set_option maxRecDepth 100000 in
set_option maxHeartbeats 4000000 in
theorem S_X12_loss (l : Launch) : pb_Sound l yX12_loss cX12_loss 3 (some .int) 2 M_X12_loss := by
  refine pb_sound_of (by decide) m_9_140 ?_
  intro Γ hl0 hRm0 hm X E hr J
  have hnL : ∀ j, j < 3 → j < Γ.2.2.2.2.2.2.2.2.2.2.2.1 := fun j h => by rw [hm]; exact h
  have hR : ∀ (d' mL : Nat), d' + 1 ≤ 2 ∧ 8 + (mL + 11) + d' * 64 ≤ 2 * 64 → (pb_rm d').frames + 1 ≤ Γ.2.2.2.1.frames ∧ 8 + (mL + 11) + (pb_rm d').locals ≤ Γ.2.2.2.1.locals := by rw [hRm0]; exact fun _ _ h => h
  have hRm : 1 ≤ 2 ∧ 64 ≤ 2 * 64 → 1 ≤ Γ.2.2.2.1.frames ∧ 64 ≤ Γ.2.2.2.1.locals := by rw [hRm0]; exact fun h => h
  exact pb_tt_snd _ (List.forall_mem_cons.mpr ⟨(s_aload_n (pc := 0) X dX12_loss_0 rfl (s_iload_n (pc := 1) X dX12_loss_1 rfl (s_callV (pc := 2) X dX12_loss_2 (S_X12_isFamily _) q_X12_284 h_64 rfl (hR _ _ (by decide)) (s_if_eq (pc := 5) X dX12_loss_5 (by decide) (s_aload_n (pc := 15) X dX12_loss_15 rfl (s_iconst (pc := 16) X dX12_loss_16 rfl (s_callV (pc := 17) X dX12_loss_17 (S_X12_refuse _) q_X12_267 h_64 rfl (hR _ _ (by decide)) (s_iret (pc := 20) X E hr dX12_loss_20)))) (s_iload_n (pc := 8) X dX12_loss_8 rfl (s_callS (pc := 9) X dX12_loss_9 (S_X12_isWeek _) q_X12_287 (hR _ _ (by decide)) (s_if_ne (pc := 12) X dX12_loss_12 (by decide) (s_aload_n (pc := 21) X dX12_loss_21 rfl (s_getI (pc := 22) X dX12_loss_22 g_X12_553 (s_bipush (pc := 25) X dX12_loss_25 rfl (s_ic_ne (pc := 27) X dX12_loss_27 (by decide) (s_aload_n (pc := 36) X dX12_loss_36 rfl (s_getR (pc := 37) X dX12_loss_37 g_X12_225 (s_aload_n (pc := 40) X dX12_loss_40 rfl (s_getI (pc := 41) X dX12_loss_41 g_X12_553 (s_iload_n (pc := 44) X dX12_loss_44 rfl (s_iast (pc := 45) X dX12_loss_45 h_128 (s_aload_n (pc := 46) X dX12_loss_46 rfl (s_getR (pc := 47) X dX12_loss_47 g_X12_228 (s_aload_n (pc := 50) X dX12_loss_50 rfl (s_getI (pc := 51) X dX12_loss_51 g_X12_553 (s_iload_n (pc := 54) X dX12_loss_54 rfl (s_iast (pc := 55) X dX12_loss_55 h_129 (s_aload_n (pc := 56) X dX12_loss_56 rfl (s_dupR (pc := 57) X dX12_loss_57 (s_getI (pc := 58) X dX12_loss_58 g_X12_553 (s_iconst (pc := 61) X dX12_loss_61 rfl (s_iadd (pc := 62) X dX12_loss_62 (s_putI (pc := 63) X dX12_loss_63 p_X12_553 (s_aload_n (pc := 66) X dX12_loss_66 rfl (s_aload_n (pc := 67) X dX12_loss_67 rfl (s_getI (pc := 68) X dX12_loss_68 g_X12_553 (s_iconst (pc := 71) X dX12_loss_71 rfl (s_isub (pc := 72) X dX12_loss_72 (s_callV (pc := 73) X dX12_loss_73 (S_X12_gives _) q_X12_237 h_64 rfl (hR _ _ (by decide)) (s_iret (pc := 76) X E hr dX12_loss_76))))))))))))))))))))))))) (s_aload_n (pc := 30) X dX12_loss_30 rfl (s_iconst (pc := 31) X dX12_loss_31 rfl (s_callV (pc := 32) X dX12_loss_32 (S_X12_refuse _) q_X12_267 h_64 rfl (hR _ _ (by decide)) (s_iret (pc := 35) X E hr dX12_loss_35)))))))) (s_aload_n (pc := 15) X dX12_loss_15 rfl (s_iconst (pc := 16) X dX12_loss_16 rfl (s_callV (pc := 17) X dX12_loss_17 (S_X12_refuse _) q_X12_267 h_64 rfl (hR _ _ (by decide)) (s_iret (pc := 20) X E hr dX12_loss_20))))))))))), fun _ h => absurd h List.not_mem_nil⟩)
theorem dX12_areWeeks_0 : decode cX12_areWeeks 0 = .ok (.aload_n 0, 1) := by decide +kernel
theorem dX12_areWeeks_1 : decode cX12_areWeeks 1 = .ok (.getfield 228, 3) := by decide +kernel
theorem dX12_areWeeks_4 : decode cX12_areWeeks 4 = .ok (.iload_n 1, 1) := by decide +kernel
theorem dX12_areWeeks_5 : decode cX12_areWeeks 5 = .ok (.iaload, 1) := by decide +kernel
theorem dX12_areWeeks_6 : decode cX12_areWeeks 6 = .ok (.iload_n 2, 1) := by decide +kernel
theorem dX12_areWeeks_7 : decode cX12_areWeeks 7 = .ok (.if_icmp .lt 21, 3) := by decide +kernel
theorem dX12_areWeeks_10 : decode cX12_areWeeks 10 = .ok (.aload_n 0, 1) := by decide +kernel
theorem dX12_areWeeks_11 : decode cX12_areWeeks 11 = .ok (.getfield 228, 3) := by decide +kernel
theorem dX12_areWeeks_14 : decode cX12_areWeeks 14 = .ok (.iload_n 1, 1) := by decide +kernel
theorem dX12_areWeeks_15 : decode cX12_areWeeks 15 = .ok (.iaload, 1) := by decide +kernel
theorem dX12_areWeeks_16 : decode cX12_areWeeks 16 = .ok (.iload_n 2, 1) := by decide +kernel
theorem dX12_areWeeks_17 : decode cX12_areWeeks 17 = .ok (.iadd, 1) := by decide +kernel
theorem dX12_areWeeks_18 : decode cX12_areWeeks 18 = .ok (.sipush 520, 3) := by decide +kernel
theorem dX12_areWeeks_21 : decode cX12_areWeeks 21 = .ok (.if_icmp .gt 7, 3) := by decide +kernel
theorem dX12_areWeeks_24 : decode cX12_areWeeks 24 = .ok (.iconst 1, 1) := by decide +kernel
theorem dX12_areWeeks_25 : decode cX12_areWeeks 25 = .ok (.goto 4, 3) := by decide +kernel
theorem dX12_areWeeks_28 : decode cX12_areWeeks 28 = .ok (.iconst 0, 1) := by decide +kernel
theorem dX12_areWeeks_29 : decode cX12_areWeeks 29 = .ok (.ireturn, 1) := by decide +kernel
noncomputable def B_X12_areWeeks_0 : pb_C := (i_aload 0 (i_getR 64 129 (i_iload 1 (i_ald 129 12 (i_iload 2 (i_ic_lt (i_const (.int 0) i_zret) (i_aload 0 (i_getR 64 129 (i_iload 1 (i_ald 129 12 (i_iload 2 (i_ibin (· + ·) (i_const (.int 520) (i_ic_gt (i_const (.int 0) i_zret) (i_const (.int 1) i_zret)))))))))))))))
noncomputable def T_X12_areWeeks : Nat → pb_C := pb_tt [(0, B_X12_areWeeks_0)]
noncomputable def M_X12_areWeeks : pb_F := pb_M T_X12_areWeeks 3
set_option maxRecDepth 100000 in
set_option maxHeartbeats 4000000 in
theorem S_X12_areWeeks (l : Launch) : pb_Sound l yX12_areWeeks cX12_areWeeks 3 (some .boolean) 1 M_X12_areWeeks := by
  refine pb_sound_of (by decide) m_9_148 ?_
  intro Γ hl0 hRm0 hm X E hr J
  have hnL : ∀ j, j < 3 → j < Γ.2.2.2.2.2.2.2.2.2.2.2.1 := fun j h => by rw [hm]; exact h
  have hR : ∀ (d' mL : Nat), d' + 1 ≤ 1 ∧ 8 + (mL + 11) + d' * 64 ≤ 1 * 64 → (pb_rm d').frames + 1 ≤ Γ.2.2.2.1.frames ∧ 8 + (mL + 11) + (pb_rm d').locals ≤ Γ.2.2.2.1.locals := by rw [hRm0]; exact fun _ _ h => h
  have hRm : 1 ≤ 1 ∧ 64 ≤ 1 * 64 → 1 ≤ Γ.2.2.2.1.frames ∧ 64 ≤ Γ.2.2.2.1.locals := by rw [hRm0]; exact fun h => h
  exact pb_tt_snd _ (List.forall_mem_cons.mpr ⟨(s_aload_n (pc := 0) X dX12_areWeeks_0 rfl (s_getR (pc := 1) X dX12_areWeeks_1 g_X12_228 (s_iload_n (pc := 4) X dX12_areWeeks_4 rfl (s_iald (pc := 5) X dX12_areWeeks_5 h_129 (s_iload_n (pc := 6) X dX12_areWeeks_6 rfl (s_ic_lt (pc := 7) X dX12_areWeeks_7 (by decide) (s_iconst (pc := 28) X dX12_areWeeks_28 rfl (s_zret (pc := 29) X E hr dX12_areWeeks_29)) (s_aload_n (pc := 10) X dX12_areWeeks_10 rfl (s_getR (pc := 11) X dX12_areWeeks_11 g_X12_228 (s_iload_n (pc := 14) X dX12_areWeeks_14 rfl (s_iald (pc := 15) X dX12_areWeeks_15 h_129 (s_iload_n (pc := 16) X dX12_areWeeks_16 rfl (s_iadd (pc := 17) X dX12_areWeeks_17 (s_sipush (pc := 18) X dX12_areWeeks_18 rfl (s_ic_gt (pc := 21) X dX12_areWeeks_21 (by decide) (s_iconst (pc := 28) X dX12_areWeeks_28 rfl (s_zret (pc := 29) X E hr dX12_areWeeks_29)) (s_iconst (pc := 24) X dX12_areWeeks_24 rfl (s_goto (pc := 25) X dX12_areWeeks_25 (by decide) (s_zret (pc := 29) X E hr dX12_areWeeks_29))))))))))))))))), fun _ h => absurd h List.not_mem_nil⟩)
theorem dX12_hasAll_0 : decode cX12_hasAll 0 = .ok (.iload_n 2, 1) := by decide +kernel
theorem dX12_hasAll_1 : decode cX12_hasAll 1 = .ok (.istore 4, 2) := by decide +kernel
theorem dX12_hasAll_3 : decode cX12_hasAll 3 = .ok (.iload 4, 2) := by decide +kernel
theorem dX12_hasAll_5 : decode cX12_hasAll 5 = .ok (.iload_n 3, 1) := by decide +kernel
theorem dX12_hasAll_6 : decode cX12_hasAll 6 = .ok (.if_icmp .ge 21, 3) := by decide +kernel
theorem dX12_hasAll_9 : decode cX12_hasAll 9 = .ok (.aload_n 0, 1) := by decide +kernel
theorem dX12_hasAll_10 : decode cX12_hasAll 10 = .ok (.iload_n 1, 1) := by decide +kernel
theorem dX12_hasAll_11 : decode cX12_hasAll 11 = .ok (.iload 4, 2) := by decide +kernel
theorem dX12_hasAll_13 : decode cX12_hasAll 13 = .ok (.invokevirtual 543, 3) := by decide +kernel
theorem dX12_hasAll_16 : decode cX12_hasAll 16 = .ok (.ifCond .ne 5, 3) := by decide +kernel
theorem dX12_hasAll_19 : decode cX12_hasAll 19 = .ok (.iconst 0, 1) := by decide +kernel
theorem dX12_hasAll_20 : decode cX12_hasAll 20 = .ok (.ireturn, 1) := by decide +kernel
theorem dX12_hasAll_21 : decode cX12_hasAll 21 = .ok (.iinc 4 1, 3) := by decide +kernel
theorem dX12_hasAll_24 : decode cX12_hasAll 24 = .ok (.goto (-21), 3) := by decide +kernel
theorem dX12_hasAll_27 : decode cX12_hasAll 27 = .ok (.iconst 1, 1) := by decide +kernel
theorem dX12_hasAll_28 : decode cX12_hasAll 28 = .ok (.ireturn, 1) := by decide +kernel
noncomputable def B_X12_hasAll_0 : pb_C := (i_iload 2 (i_istore 4 (i_jmp 3 [true, true, false, true, true])))
noncomputable def B_X12_hasAll_3 : pb_C := (i_iload 4 (i_iload 3 (i_ic_ge (i_const (.int 1) i_zret) (i_aload 0 (i_iload 1 (i_iload 4 (i_callV 64 2 1 M_X12_hasLine (i_if_ne (i_iinc 4 1 (i_jmp 3 [true, true, false, true, true])) (i_const (.int 0) i_zret)))))))))
noncomputable def T_X12_hasAll : Nat → pb_C := pb_tt [(0, B_X12_hasAll_0), (3, B_X12_hasAll_3)]
noncomputable def M_X12_hasAll : pb_F := pb_M T_X12_hasAll 5
set_option maxRecDepth 100000 in
set_option maxHeartbeats 4000000 in
theorem S_X12_hasAll (l : Launch) : pb_Sound l yX12_hasAll cX12_hasAll 5 (some .boolean) 4 M_X12_hasAll := by
  refine pb_sound_of (by decide) m_9_152 ?_
  intro Γ hl0 hRm0 hm X E hr J
  have hnL : ∀ j, j < 5 → j < Γ.2.2.2.2.2.2.2.2.2.2.2.1 := fun j h => by rw [hm]; exact h
  have hR : ∀ (d' mL : Nat), d' + 1 ≤ 4 ∧ 8 + (mL + 11) + d' * 64 ≤ 4 * 64 → (pb_rm d').frames + 1 ≤ Γ.2.2.2.1.frames ∧ 8 + (mL + 11) + (pb_rm d').locals ≤ Γ.2.2.2.1.locals := by rw [hRm0]; exact fun _ _ h => h
  have hRm : 1 ≤ 4 ∧ 64 ≤ 4 * 64 → 1 ≤ Γ.2.2.2.1.frames ∧ 64 ≤ Γ.2.2.2.1.locals := by rw [hRm0]; exact fun h => h
  exact pb_tt_snd _ (List.forall_mem_cons.mpr ⟨(s_iload_n (pc := 0) X dX12_hasAll_0 rfl (s_istore (pc := 1) X dX12_hasAll_1 (hnL _ (by decide)) (s_jmp (pc := 3) J [true, true, false, true, true]))), List.forall_mem_cons.mpr ⟨(s_iload (pc := 3) X dX12_hasAll_3 (s_iload_n (pc := 5) X dX12_hasAll_5 rfl (s_ic_ge (pc := 6) X dX12_hasAll_6 (by decide) (s_iconst (pc := 27) X dX12_hasAll_27 rfl (s_zret (pc := 28) X E hr dX12_hasAll_28)) (s_aload_n (pc := 9) X dX12_hasAll_9 rfl (s_iload_n (pc := 10) X dX12_hasAll_10 rfl (s_iload (pc := 11) X dX12_hasAll_11 (s_callV (pc := 13) X dX12_hasAll_13 (S_X12_hasLine _) q_X12_543 h_64 rfl (hR _ _ (by decide)) (s_if_ne (pc := 16) X dX12_hasAll_16 (by decide) (s_iinc (pc := 21) X dX12_hasAll_21 rfl (s_goto (pc := 24) X dX12_hasAll_24 (by decide) (s_jmp (pc := 3) J [true, true, false, true, true]))) (s_iconst (pc := 19) X dX12_hasAll_19 rfl (s_zret (pc := 20) X E hr dX12_hasAll_20)))))))))), fun _ h => absurd h List.not_mem_nil⟩⟩)
theorem dX12_isLike_0 : decode cX12_isLike 0 = .ok (.iload_n 2, 1) := by decide +kernel
theorem dX12_isLike_1 : decode cX12_isLike 1 = .ok (.aload_n 0, 1) := by decide +kernel
theorem dX12_isLike_2 : decode cX12_isLike 2 = .ok (.getfield 225, 3) := by decide +kernel
theorem dX12_isLike_5 : decode cX12_isLike 5 = .ok (.iload_n 1, 1) := by decide +kernel
theorem dX12_isLike_6 : decode cX12_isLike 6 = .ok (.iaload, 1) := by decide +kernel
theorem dX12_isLike_7 : decode cX12_isLike 7 = .ok (.if_icmp .eq 23, 3) := by decide +kernel
theorem dX12_isLike_10 : decode cX12_isLike 10 = .ok (.aload_n 0, 1) := by decide +kernel
theorem dX12_isLike_11 : decode cX12_isLike 11 = .ok (.getfield 28, 3) := by decide +kernel
theorem dX12_isLike_14 : decode cX12_isLike 14 = .ok (.iload_n 2, 1) := by decide +kernel
theorem dX12_isLike_15 : decode cX12_isLike 15 = .ok (.iaload, 1) := by decide +kernel
theorem dX12_isLike_16 : decode cX12_isLike 16 = .ok (.aload_n 0, 1) := by decide +kernel
theorem dX12_isLike_17 : decode cX12_isLike 17 = .ok (.getfield 28, 3) := by decide +kernel
theorem dX12_isLike_20 : decode cX12_isLike 20 = .ok (.aload_n 0, 1) := by decide +kernel
theorem dX12_isLike_21 : decode cX12_isLike 21 = .ok (.getfield 225, 3) := by decide +kernel
theorem dX12_isLike_24 : decode cX12_isLike 24 = .ok (.iload_n 1, 1) := by decide +kernel
theorem dX12_isLike_25 : decode cX12_isLike 25 = .ok (.iaload, 1) := by decide +kernel
theorem dX12_isLike_26 : decode cX12_isLike 26 = .ok (.iaload, 1) := by decide +kernel
theorem dX12_isLike_27 : decode cX12_isLike 27 = .ok (.if_icmp .eq 5, 3) := by decide +kernel
theorem dX12_isLike_30 : decode cX12_isLike 30 = .ok (.iconst 0, 1) := by decide +kernel
theorem dX12_isLike_31 : decode cX12_isLike 31 = .ok (.ireturn, 1) := by decide +kernel
theorem dX12_isLike_32 : decode cX12_isLike 32 = .ok (.iconst 0, 1) := by decide +kernel
theorem dX12_isLike_33 : decode cX12_isLike 33 = .ok (.istore 4, 2) := by decide +kernel
theorem dX12_isLike_35 : decode cX12_isLike 35 = .ok (.iload 4, 2) := by decide +kernel
theorem dX12_isLike_37 : decode cX12_isLike 37 = .ok (.aload_n 0, 1) := by decide +kernel
theorem dX12_isLike_38 : decode cX12_isLike 38 = .ok (.getfield 553, 3) := by decide +kernel
theorem dX12_isLike_41 : decode cX12_isLike 41 = .ok (.if_icmp .ge 58, 3) := by decide +kernel
theorem dX12_isLike_44 : decode cX12_isLike 44 = .ok (.aload_n 0, 1) := by decide +kernel
theorem dX12_isLike_45 : decode cX12_isLike 45 = .ok (.getfield 225, 3) := by decide +kernel
theorem dX12_isLike_48 : decode cX12_isLike 48 = .ok (.iload 4, 2) := by decide +kernel
theorem dX12_isLike_50 : decode cX12_isLike 50 = .ok (.iaload, 1) := by decide +kernel
theorem dX12_isLike_51 : decode cX12_isLike 51 = .ok (.iload_n 2, 1) := by decide +kernel
theorem dX12_isLike_52 : decode cX12_isLike 52 = .ok (.if_icmp .ne 41, 3) := by decide +kernel
theorem dX12_isLike_55 : decode cX12_isLike 55 = .ok (.aload_n 0, 1) := by decide +kernel
theorem dX12_isLike_56 : decode cX12_isLike 56 = .ok (.getfield 228, 3) := by decide +kernel
theorem dX12_isLike_59 : decode cX12_isLike 59 = .ok (.iload 4, 2) := by decide +kernel
theorem dX12_isLike_61 : decode cX12_isLike 61 = .ok (.iaload, 1) := by decide +kernel
theorem dX12_isLike_62 : decode cX12_isLike 62 = .ok (.aload_n 0, 1) := by decide +kernel
theorem dX12_isLike_63 : decode cX12_isLike 63 = .ok (.getfield 228, 3) := by decide +kernel
theorem dX12_isLike_66 : decode cX12_isLike 66 = .ok (.iload_n 1, 1) := by decide +kernel
theorem dX12_isLike_67 : decode cX12_isLike 67 = .ok (.iaload, 1) := by decide +kernel
theorem dX12_isLike_68 : decode cX12_isLike 68 = .ok (.iload_n 3, 1) := by decide +kernel
theorem dX12_isLike_69 : decode cX12_isLike 69 = .ok (.isub, 1) := by decide +kernel
theorem dX12_isLike_70 : decode cX12_isLike 70 = .ok (.if_icmp .lt 23, 3) := by decide +kernel
theorem dX12_isLike_73 : decode cX12_isLike 73 = .ok (.aload_n 0, 1) := by decide +kernel
theorem dX12_isLike_74 : decode cX12_isLike 74 = .ok (.getfield 228, 3) := by decide +kernel
theorem dX12_isLike_77 : decode cX12_isLike 77 = .ok (.iload 4, 2) := by decide +kernel
theorem dX12_isLike_79 : decode cX12_isLike 79 = .ok (.iaload, 1) := by decide +kernel
theorem dX12_isLike_80 : decode cX12_isLike 80 = .ok (.aload_n 0, 1) := by decide +kernel
theorem dX12_isLike_81 : decode cX12_isLike 81 = .ok (.getfield 228, 3) := by decide +kernel
theorem dX12_isLike_84 : decode cX12_isLike 84 = .ok (.iload_n 1, 1) := by decide +kernel
theorem dX12_isLike_85 : decode cX12_isLike 85 = .ok (.iaload, 1) := by decide +kernel
theorem dX12_isLike_86 : decode cX12_isLike 86 = .ok (.iload_n 3, 1) := by decide +kernel
theorem dX12_isLike_87 : decode cX12_isLike 87 = .ok (.iadd, 1) := by decide +kernel
theorem dX12_isLike_88 : decode cX12_isLike 88 = .ok (.if_icmp .ge 5, 3) := by decide +kernel
theorem dX12_isLike_91 : decode cX12_isLike 91 = .ok (.iconst 0, 1) := by decide +kernel
theorem dX12_isLike_92 : decode cX12_isLike 92 = .ok (.ireturn, 1) := by decide +kernel
theorem dX12_isLike_93 : decode cX12_isLike 93 = .ok (.iinc 4 1, 3) := by decide +kernel
theorem dX12_isLike_96 : decode cX12_isLike 96 = .ok (.goto (-61), 3) := by decide +kernel
theorem dX12_isLike_99 : decode cX12_isLike 99 = .ok (.aload_n 0, 1) := by decide +kernel
theorem dX12_isLike_100 : decode cX12_isLike 100 = .ok (.iload_n 2, 1) := by decide +kernel
theorem dX12_isLike_101 : decode cX12_isLike 101 = .ok (.aload_n 0, 1) := by decide +kernel
theorem dX12_isLike_102 : decode cX12_isLike 102 = .ok (.getfield 228, 3) := by decide +kernel
theorem dX12_isLike_105 : decode cX12_isLike 105 = .ok (.iload_n 1, 1) := by decide +kernel
theorem dX12_isLike_106 : decode cX12_isLike 106 = .ok (.iaload, 1) := by decide +kernel
theorem dX12_isLike_107 : decode cX12_isLike 107 = .ok (.iload_n 3, 1) := by decide +kernel
theorem dX12_isLike_108 : decode cX12_isLike 108 = .ok (.isub, 1) := by decide +kernel
theorem dX12_isLike_109 : decode cX12_isLike 109 = .ok (.aload_n 0, 1) := by decide +kernel
theorem dX12_isLike_110 : decode cX12_isLike 110 = .ok (.getfield 228, 3) := by decide +kernel
theorem dX12_isLike_113 : decode cX12_isLike 113 = .ok (.iload_n 1, 1) := by decide +kernel
theorem dX12_isLike_114 : decode cX12_isLike 114 = .ok (.iaload, 1) := by decide +kernel
theorem dX12_isLike_115 : decode cX12_isLike 115 = .ok (.iload_n 3, 1) := by decide +kernel
theorem dX12_isLike_116 : decode cX12_isLike 116 = .ok (.iadd, 1) := by decide +kernel
theorem dX12_isLike_117 : decode cX12_isLike 117 = .ok (.invokevirtual 556, 3) := by decide +kernel
theorem dX12_isLike_120 : decode cX12_isLike 120 = .ok (.ireturn, 1) := by decide +kernel
noncomputable def B_X12_isLike_0 : pb_C := (i_iload 2 (i_aload 0 (i_getR 64 128 (i_iload 1 (i_ald 128 12 (i_ic_eq (i_const (.int 0) i_zret) (i_aload 0 (i_getR 64 68 (i_iload 2 (i_ald 68 12 (i_aload 0 (i_getR 64 68 (i_aload 0 (i_getR 64 128 (i_iload 1 (i_ald 128 12 (i_ald 68 12 (i_ic_eq (i_const (.int 0) (i_istore 4 (i_jmp 35 [true, true, true, true, true]))) (i_const (.int 0) i_zret)))))))))))))))))))
noncomputable def B_X12_isLike_35 : pb_C := (i_iload 4 (i_aload 0 (i_getI 64 98 (i_ic_ge (i_aload 0 (i_iload 2 (i_aload 0 (i_getR 64 129 (i_iload 1 (i_ald 129 12 (i_iload 3 (i_ibin (· - ·) (i_aload 0 (i_getR 64 129 (i_iload 1 (i_ald 129 12 (i_iload 3 (i_ibin (· + ·) (i_callV 64 3 1 M_X12_hasAll i_zret))))))))))))))) (i_aload 0 (i_getR 64 128 (i_iload 4 (i_ald 128 12 (i_iload 2 (i_ic_ne (i_iinc 4 1 (i_jmp 35 [true, true, true, true, true])) (i_aload 0 (i_getR 64 129 (i_iload 4 (i_ald 129 12 (i_aload 0 (i_getR 64 129 (i_iload 1 (i_ald 129 12 (i_iload 3 (i_ibin (· - ·) (i_ic_lt (i_iinc 4 1 (i_jmp 35 [true, true, true, true, true])) (i_aload 0 (i_getR 64 129 (i_iload 4 (i_ald 129 12 (i_aload 0 (i_getR 64 129 (i_iload 1 (i_ald 129 12 (i_iload 3 (i_ibin (· + ·) (i_ic_ge (i_iinc 4 1 (i_jmp 35 [true, true, true, true, true])) (i_const (.int 0) i_zret)))))))))))))))))))))))))))))))))
noncomputable def T_X12_isLike : Nat → pb_C := pb_tt [(0, B_X12_isLike_0), (35, B_X12_isLike_35)]
noncomputable def M_X12_isLike : pb_F := pb_M T_X12_isLike 5
set_option maxRecDepth 100000 in
set_option maxHeartbeats 4000000 in
theorem S_X12_isLike (l : Launch) : pb_Sound l yX12_isLike cX12_isLike 5 (some .boolean) 5 M_X12_isLike := by
  refine pb_sound_of (by decide) m_9_156 ?_
  intro Γ hl0 hRm0 hm X E hr J
  have hnL : ∀ j, j < 5 → j < Γ.2.2.2.2.2.2.2.2.2.2.2.1 := fun j h => by rw [hm]; exact h
  have hR : ∀ (d' mL : Nat), d' + 1 ≤ 5 ∧ 8 + (mL + 11) + d' * 64 ≤ 5 * 64 → (pb_rm d').frames + 1 ≤ Γ.2.2.2.1.frames ∧ 8 + (mL + 11) + (pb_rm d').locals ≤ Γ.2.2.2.1.locals := by rw [hRm0]; exact fun _ _ h => h
  have hRm : 1 ≤ 5 ∧ 64 ≤ 5 * 64 → 1 ≤ Γ.2.2.2.1.frames ∧ 64 ≤ Γ.2.2.2.1.locals := by rw [hRm0]; exact fun h => h
  exact pb_tt_snd _ (List.forall_mem_cons.mpr ⟨(s_iload_n (pc := 0) X dX12_isLike_0 rfl (s_aload_n (pc := 1) X dX12_isLike_1 rfl (s_getR (pc := 2) X dX12_isLike_2 g_X12_225 (s_iload_n (pc := 5) X dX12_isLike_5 rfl (s_iald (pc := 6) X dX12_isLike_6 h_128 (s_ic_eq (pc := 7) X dX12_isLike_7 (by decide) (s_iconst (pc := 30) X dX12_isLike_30 rfl (s_zret (pc := 31) X E hr dX12_isLike_31)) (s_aload_n (pc := 10) X dX12_isLike_10 rfl (s_getR (pc := 11) X dX12_isLike_11 g_X12_28 (s_iload_n (pc := 14) X dX12_isLike_14 rfl (s_iald (pc := 15) X dX12_isLike_15 h_68 (s_aload_n (pc := 16) X dX12_isLike_16 rfl (s_getR (pc := 17) X dX12_isLike_17 g_X12_28 (s_aload_n (pc := 20) X dX12_isLike_20 rfl (s_getR (pc := 21) X dX12_isLike_21 g_X12_225 (s_iload_n (pc := 24) X dX12_isLike_24 rfl (s_iald (pc := 25) X dX12_isLike_25 h_128 (s_iald (pc := 26) X dX12_isLike_26 h_68 (s_ic_eq (pc := 27) X dX12_isLike_27 (by decide) (s_iconst (pc := 32) X dX12_isLike_32 rfl (s_istore (pc := 33) X dX12_isLike_33 (hnL _ (by decide)) (s_jmp (pc := 35) J [true, true, true, true, true]))) (s_iconst (pc := 30) X dX12_isLike_30 rfl (s_zret (pc := 31) X E hr dX12_isLike_31)))))))))))))))))))), List.forall_mem_cons.mpr ⟨(s_iload (pc := 35) X dX12_isLike_35 (s_aload_n (pc := 37) X dX12_isLike_37 rfl (s_getI (pc := 38) X dX12_isLike_38 g_X12_553 (s_ic_ge (pc := 41) X dX12_isLike_41 (by decide) (s_aload_n (pc := 99) X dX12_isLike_99 rfl (s_iload_n (pc := 100) X dX12_isLike_100 rfl (s_aload_n (pc := 101) X dX12_isLike_101 rfl (s_getR (pc := 102) X dX12_isLike_102 g_X12_228 (s_iload_n (pc := 105) X dX12_isLike_105 rfl (s_iald (pc := 106) X dX12_isLike_106 h_129 (s_iload_n (pc := 107) X dX12_isLike_107 rfl (s_isub (pc := 108) X dX12_isLike_108 (s_aload_n (pc := 109) X dX12_isLike_109 rfl (s_getR (pc := 110) X dX12_isLike_110 g_X12_228 (s_iload_n (pc := 113) X dX12_isLike_113 rfl (s_iald (pc := 114) X dX12_isLike_114 h_129 (s_iload_n (pc := 115) X dX12_isLike_115 rfl (s_iadd (pc := 116) X dX12_isLike_116 (s_callV (pc := 117) X dX12_isLike_117 (S_X12_hasAll _) q_X12_556 h_64 rfl (hR _ _ (by decide)) (s_zret (pc := 120) X E hr dX12_isLike_120)))))))))))))))) (s_aload_n (pc := 44) X dX12_isLike_44 rfl (s_getR (pc := 45) X dX12_isLike_45 g_X12_225 (s_iload (pc := 48) X dX12_isLike_48 (s_iald (pc := 50) X dX12_isLike_50 h_128 (s_iload_n (pc := 51) X dX12_isLike_51 rfl (s_ic_ne (pc := 52) X dX12_isLike_52 (by decide) (s_iinc (pc := 93) X dX12_isLike_93 rfl (s_goto (pc := 96) X dX12_isLike_96 (by decide) (s_jmp (pc := 35) J [true, true, true, true, true]))) (s_aload_n (pc := 55) X dX12_isLike_55 rfl (s_getR (pc := 56) X dX12_isLike_56 g_X12_228 (s_iload (pc := 59) X dX12_isLike_59 (s_iald (pc := 61) X dX12_isLike_61 h_129 (s_aload_n (pc := 62) X dX12_isLike_62 rfl (s_getR (pc := 63) X dX12_isLike_63 g_X12_228 (s_iload_n (pc := 66) X dX12_isLike_66 rfl (s_iald (pc := 67) X dX12_isLike_67 h_129 (s_iload_n (pc := 68) X dX12_isLike_68 rfl (s_isub (pc := 69) X dX12_isLike_69 (s_ic_lt (pc := 70) X dX12_isLike_70 (by decide) (s_iinc (pc := 93) X dX12_isLike_93 rfl (s_goto (pc := 96) X dX12_isLike_96 (by decide) (s_jmp (pc := 35) J [true, true, true, true, true]))) (s_aload_n (pc := 73) X dX12_isLike_73 rfl (s_getR (pc := 74) X dX12_isLike_74 g_X12_228 (s_iload (pc := 77) X dX12_isLike_77 (s_iald (pc := 79) X dX12_isLike_79 h_129 (s_aload_n (pc := 80) X dX12_isLike_80 rfl (s_getR (pc := 81) X dX12_isLike_81 g_X12_228 (s_iload_n (pc := 84) X dX12_isLike_84 rfl (s_iald (pc := 85) X dX12_isLike_85 h_129 (s_iload_n (pc := 86) X dX12_isLike_86 rfl (s_iadd (pc := 87) X dX12_isLike_87 (s_ic_ge (pc := 88) X dX12_isLike_88 (by decide) (s_iinc (pc := 93) X dX12_isLike_93 rfl (s_goto (pc := 96) X dX12_isLike_96 (by decide) (s_jmp (pc := 35) J [true, true, true, true, true]))) (s_iconst (pc := 91) X dX12_isLike_91 rfl (s_zret (pc := 92) X E hr dX12_isLike_92)))))))))))))))))))))))))))))))))), fun _ h => absurd h List.not_mem_nil⟩⟩)
theorem dX12_differs_0 : decode cX12_differs 0 = .ok (.lconst 0, 1) := by decide +kernel
theorem dX12_differs_1 : decode cX12_differs 1 = .ok (.lstore 6, 2) := by decide +kernel
theorem dX12_differs_3 : decode cX12_differs 3 = .ok (.iload_n 2, 1) := by decide +kernel
theorem dX12_differs_4 : decode cX12_differs 4 = .ok (.iload 5, 2) := by decide +kernel
theorem dX12_differs_6 : decode cX12_differs 6 = .ok (.isub, 1) := by decide +kernel
theorem dX12_differs_7 : decode cX12_differs 7 = .ok (.istore 8, 2) := by decide +kernel
theorem dX12_differs_9 : decode cX12_differs 9 = .ok (.iload 8, 2) := by decide +kernel
theorem dX12_differs_11 : decode cX12_differs 11 = .ok (.iload_n 2, 1) := by decide +kernel
theorem dX12_differs_12 : decode cX12_differs 12 = .ok (.iload 5, 2) := by decide +kernel
theorem dX12_differs_14 : decode cX12_differs 14 = .ok (.iadd, 1) := by decide +kernel
theorem dX12_differs_15 : decode cX12_differs 15 = .ok (.if_icmp .ge 46, 3) := by decide +kernel
theorem dX12_differs_18 : decode cX12_differs 18 = .ok (.lload 6, 2) := by decide +kernel
theorem dX12_differs_20 : decode cX12_differs 20 = .ok (.iload 8, 2) := by decide +kernel
theorem dX12_differs_22 : decode cX12_differs 22 = .ok (.iload_n 2, 1) := by decide +kernel
theorem dX12_differs_23 : decode cX12_differs 23 = .ok (.if_icmp .ge 18, 3) := by decide +kernel
theorem dX12_differs_26 : decode cX12_differs 26 = .ok (.aload_n 0, 1) := by decide +kernel
theorem dX12_differs_27 : decode cX12_differs 27 = .ok (.iload_n 1, 1) := by decide +kernel
theorem dX12_differs_28 : decode cX12_differs 28 = .ok (.iload 8, 2) := by decide +kernel
theorem dX12_differs_30 : decode cX12_differs 30 = .ok (.iload_n 3, 1) := by decide +kernel
theorem dX12_differs_31 : decode cX12_differs 31 = .ok (.iload 4, 2) := by decide +kernel
theorem dX12_differs_33 : decode cX12_differs 33 = .ok (.invokevirtual 463, 3) := by decide +kernel
theorem dX12_differs_36 : decode cX12_differs 36 = .ok (.ineg, 1) := by decide +kernel
theorem dX12_differs_37 : decode cX12_differs 37 = .ok (.i2l, 1) := by decide +kernel
theorem dX12_differs_38 : decode cX12_differs 38 = .ok (.goto 14, 3) := by decide +kernel
theorem dX12_differs_41 : decode cX12_differs 41 = .ok (.aload_n 0, 1) := by decide +kernel
theorem dX12_differs_42 : decode cX12_differs 42 = .ok (.iload_n 1, 1) := by decide +kernel
theorem dX12_differs_43 : decode cX12_differs 43 = .ok (.iload 8, 2) := by decide +kernel
theorem dX12_differs_45 : decode cX12_differs 45 = .ok (.iload_n 3, 1) := by decide +kernel
theorem dX12_differs_46 : decode cX12_differs 46 = .ok (.iload 4, 2) := by decide +kernel
theorem dX12_differs_48 : decode cX12_differs 48 = .ok (.invokevirtual 463, 3) := by decide +kernel
theorem dX12_differs_51 : decode cX12_differs 51 = .ok (.i2l, 1) := by decide +kernel
theorem dX12_differs_52 : decode cX12_differs 52 = .ok (.ladd, 1) := by decide +kernel
theorem dX12_differs_53 : decode cX12_differs 53 = .ok (.lstore 6, 2) := by decide +kernel
theorem dX12_differs_55 : decode cX12_differs 55 = .ok (.iinc 8 1, 3) := by decide +kernel
theorem dX12_differs_58 : decode cX12_differs 58 = .ok (.goto (-49), 3) := by decide +kernel
theorem dX12_differs_61 : decode cX12_differs 61 = .ok (.lload 6, 2) := by decide +kernel
theorem dX12_differs_63 : decode cX12_differs 63 = .ok (.lreturn, 1) := by decide +kernel
noncomputable def B_X12_differs_0 : pb_C := (i_const (.long 0) (i_lstore 6 (i_iload 2 (i_iload 5 (i_ibin (· - ·) (i_istore 8 (i_jmp 9 [true, true, true, true, true, true, true, false, true])))))))
noncomputable def B_X12_differs_9 : pb_C := (i_iload 8 (i_iload 2 (i_iload 5 (i_ibin (· + ·) (i_ic_ge (i_lload 6 i_lret) (i_lload 6 (i_iload 8 (i_iload 2 (i_ic_ge (i_aload 0 (i_iload 1 (i_iload 8 (i_iload 3 (i_iload 4 (i_callV 64 4 1 M_X12_spentOf (i_i2l (i_lbin (· + ·) (i_lstore 6 (i_iinc 8 1 (i_jmp 9 [true, true, true, true, true, true, true, false, true]))))))))))) (i_aload 0 (i_iload 1 (i_iload 8 (i_iload 3 (i_iload 4 (i_callV 64 4 1 M_X12_spentOf (i_iun (fun x => -x) (i_i2l (i_lbin (· + ·) (i_lstore 6 (i_iinc 8 1 (i_jmp 9 [true, true, true, true, true, true, true, false, true])))))))))))))))))))))
noncomputable def T_X12_differs : Nat → pb_C := pb_tt [(0, B_X12_differs_0), (9, B_X12_differs_9)]
noncomputable def M_X12_differs : pb_F := pb_M T_X12_differs 9
set_option maxRecDepth 100000 in
set_option maxHeartbeats 4000000 in
theorem S_X12_differs (l : Launch) : pb_Sound l yX12_differs cX12_differs 9 (some .long) 7 M_X12_differs := by
  refine pb_sound_of (by decide) m_9_160 ?_
  intro Γ hl0 hRm0 hm X E hr J
  have hnL : ∀ j, j < 9 → j < Γ.2.2.2.2.2.2.2.2.2.2.2.1 := fun j h => by rw [hm]; exact h
  have hR : ∀ (d' mL : Nat), d' + 1 ≤ 7 ∧ 8 + (mL + 11) + d' * 64 ≤ 7 * 64 → (pb_rm d').frames + 1 ≤ Γ.2.2.2.1.frames ∧ 8 + (mL + 11) + (pb_rm d').locals ≤ Γ.2.2.2.1.locals := by rw [hRm0]; exact fun _ _ h => h
  have hRm : 1 ≤ 7 ∧ 64 ≤ 7 * 64 → 1 ≤ Γ.2.2.2.1.frames ∧ 64 ≤ Γ.2.2.2.1.locals := by rw [hRm0]; exact fun h => h
  exact pb_tt_snd _ (List.forall_mem_cons.mpr ⟨(s_lconst (pc := 0) X dX12_differs_0 rfl (s_lstore (pc := 1) X dX12_differs_1 (hnL _ (by decide)) (s_iload_n (pc := 3) X dX12_differs_3 rfl (s_iload (pc := 4) X dX12_differs_4 (s_isub (pc := 6) X dX12_differs_6 (s_istore (pc := 7) X dX12_differs_7 (hnL _ (by decide)) (s_jmp (pc := 9) J [true, true, true, true, true, true, true, false, true]))))))), List.forall_mem_cons.mpr ⟨(s_iload (pc := 9) X dX12_differs_9 (s_iload_n (pc := 11) X dX12_differs_11 rfl (s_iload (pc := 12) X dX12_differs_12 (s_iadd (pc := 14) X dX12_differs_14 (s_ic_ge (pc := 15) X dX12_differs_15 (by decide) (s_lload (pc := 61) X dX12_differs_61 (s_lret (pc := 63) X E hr dX12_differs_63)) (s_lload (pc := 18) X dX12_differs_18 (s_iload (pc := 20) X dX12_differs_20 (s_iload_n (pc := 22) X dX12_differs_22 rfl (s_ic_ge (pc := 23) X dX12_differs_23 (by decide) (s_aload_n (pc := 41) X dX12_differs_41 rfl (s_iload_n (pc := 42) X dX12_differs_42 rfl (s_iload (pc := 43) X dX12_differs_43 (s_iload_n (pc := 45) X dX12_differs_45 rfl (s_iload (pc := 46) X dX12_differs_46 (s_callV (pc := 48) X dX12_differs_48 (S_X12_spentOf _) q_X12_463 h_64 rfl (hR _ _ (by decide)) (s_i2l (pc := 51) X dX12_differs_51 (s_ladd (pc := 52) X dX12_differs_52 (s_lstore (pc := 53) X dX12_differs_53 (hnL _ (by decide)) (s_iinc (pc := 55) X dX12_differs_55 rfl (s_goto (pc := 58) X dX12_differs_58 (by decide) (s_jmp (pc := 9) J [true, true, true, true, true, true, true, false, true])))))))))))) (s_aload_n (pc := 26) X dX12_differs_26 rfl (s_iload_n (pc := 27) X dX12_differs_27 rfl (s_iload (pc := 28) X dX12_differs_28 (s_iload_n (pc := 30) X dX12_differs_30 rfl (s_iload (pc := 31) X dX12_differs_31 (s_callV (pc := 33) X dX12_differs_33 (S_X12_spentOf _) q_X12_463 h_64 rfl (hR _ _ (by decide)) (s_ineg (pc := 36) X dX12_differs_36 (s_i2l (pc := 37) X dX12_differs_37 (s_goto (pc := 38) X dX12_differs_38 (by decide) (s_ladd (pc := 52) X dX12_differs_52 (s_lstore (pc := 53) X dX12_differs_53 (hnL _ (by decide)) (s_iinc (pc := 55) X dX12_differs_55 rfl (s_goto (pc := 58) X dX12_differs_58 (by decide) (s_jmp (pc := 9) J [true, true, true, true, true, true, true, false, true]))))))))))))))))))))))), fun _ h => absurd h List.not_mem_nil⟩⟩)
theorem dX12_fell_0 : decode cX12_fell 0 = .ok (.iload_n 1, 1) := by decide +kernel
theorem dX12_fell_1 : decode cX12_fell 1 = .ok (.ifCond .lt 39, 3) := by decide +kernel
theorem dX12_fell_4 : decode cX12_fell 4 = .ok (.iload_n 1, 1) := by decide +kernel
theorem dX12_fell_5 : decode cX12_fell 5 = .ok (.aload_n 0, 1) := by decide +kernel
theorem dX12_fell_6 : decode cX12_fell 6 = .ok (.getfield 553, 3) := by decide +kernel
theorem dX12_fell_9 : decode cX12_fell 9 = .ok (.if_icmp .ge 31, 3) := by decide +kernel
theorem dX12_fell_12 : decode cX12_fell 12 = .ok (.iload_n 2, 1) := by decide +kernel
theorem dX12_fell_13 : decode cX12_fell 13 = .ok (.invokestatic 460, 3) := by decide +kernel
theorem dX12_fell_16 : decode cX12_fell 16 = .ok (.ifCond .eq 24, 3) := by decide +kernel
theorem dX12_fell_19 : decode cX12_fell 19 = .ok (.aload_n 0, 1) := by decide +kernel
theorem dX12_fell_20 : decode cX12_fell 20 = .ok (.iload_n 3, 1) := by decide +kernel
theorem dX12_fell_21 : decode cX12_fell 21 = .ok (.invokevirtual 451, 3) := by decide +kernel
theorem dX12_fell_24 : decode cX12_fell 24 = .ok (.ifCond .eq 16, 3) := by decide +kernel
theorem dX12_fell_27 : decode cX12_fell 27 = .ok (.iload 4, 2) := by decide +kernel
theorem dX12_fell_29 : decode cX12_fell 29 = .ok (.iconst 1, 1) := by decide +kernel
theorem dX12_fell_30 : decode cX12_fell 30 = .ok (.if_icmp .lt 10, 3) := by decide +kernel
theorem dX12_fell_33 : decode cX12_fell 33 = .ok (.iload 4, 2) := by decide +kernel
theorem dX12_fell_35 : decode cX12_fell 35 = .ok (.bipush 26, 2) := by decide +kernel
theorem dX12_fell_37 : decode cX12_fell 37 = .ok (.if_icmp .le 9, 3) := by decide +kernel
theorem dX12_fell_40 : decode cX12_fell 40 = .ok (.aload_n 0, 1) := by decide +kernel
theorem dX12_fell_41 : decode cX12_fell 41 = .ok (.iconst 1, 1) := by decide +kernel
theorem dX12_fell_42 : decode cX12_fell 42 = .ok (.invokevirtual 267, 3) := by decide +kernel
theorem dX12_fell_45 : decode cX12_fell 45 = .ok (.ireturn, 1) := by decide +kernel
theorem dX12_fell_46 : decode cX12_fell 46 = .ok (.aload_n 0, 1) := by decide +kernel
theorem dX12_fell_47 : decode cX12_fell 47 = .ok (.iload_n 1, 1) := by decide +kernel
theorem dX12_fell_48 : decode cX12_fell 48 = .ok (.iload 4, 2) := by decide +kernel
theorem dX12_fell_50 : decode cX12_fell 50 = .ok (.invokevirtual 559, 3) := by decide +kernel
theorem dX12_fell_53 : decode cX12_fell 53 = .ok (.ifCond .eq 34, 3) := by decide +kernel
theorem dX12_fell_56 : decode cX12_fell 56 = .ok (.aload_n 0, 1) := by decide +kernel
theorem dX12_fell_57 : decode cX12_fell 57 = .ok (.aload_n 0, 1) := by decide +kernel
theorem dX12_fell_58 : decode cX12_fell 58 = .ok (.getfield 225, 3) := by decide +kernel
theorem dX12_fell_61 : decode cX12_fell 61 = .ok (.iload_n 1, 1) := by decide +kernel
theorem dX12_fell_62 : decode cX12_fell 62 = .ok (.iaload, 1) := by decide +kernel
theorem dX12_fell_63 : decode cX12_fell 63 = .ok (.aload_n 0, 1) := by decide +kernel
theorem dX12_fell_64 : decode cX12_fell 64 = .ok (.getfield 228, 3) := by decide +kernel
theorem dX12_fell_67 : decode cX12_fell 67 = .ok (.iload_n 1, 1) := by decide +kernel
theorem dX12_fell_68 : decode cX12_fell 68 = .ok (.iaload, 1) := by decide +kernel
theorem dX12_fell_69 : decode cX12_fell 69 = .ok (.iload 4, 2) := by decide +kernel
theorem dX12_fell_71 : decode cX12_fell 71 = .ok (.isub, 1) := by decide +kernel
theorem dX12_fell_72 : decode cX12_fell 72 = .ok (.aload_n 0, 1) := by decide +kernel
theorem dX12_fell_73 : decode cX12_fell 73 = .ok (.getfield 228, 3) := by decide +kernel
theorem dX12_fell_76 : decode cX12_fell 76 = .ok (.iload_n 1, 1) := by decide +kernel
theorem dX12_fell_77 : decode cX12_fell 77 = .ok (.iaload, 1) := by decide +kernel
theorem dX12_fell_78 : decode cX12_fell 78 = .ok (.iload 4, 2) := by decide +kernel
theorem dX12_fell_80 : decode cX12_fell 80 = .ok (.iadd, 1) := by decide +kernel
theorem dX12_fell_81 : decode cX12_fell 81 = .ok (.invokevirtual 556, 3) := by decide +kernel
theorem dX12_fell_84 : decode cX12_fell 84 = .ok (.ifCond .ne 10, 3) := by decide +kernel
theorem dX12_fell_87 : decode cX12_fell 87 = .ok (.aload_n 0, 1) := by decide +kernel
theorem dX12_fell_88 : decode cX12_fell 88 = .ok (.bipush 6, 2) := by decide +kernel
theorem dX12_fell_90 : decode cX12_fell 90 = .ok (.invokevirtual 267, 3) := by decide +kernel
theorem dX12_fell_93 : decode cX12_fell 93 = .ok (.ireturn, 1) := by decide +kernel
theorem dX12_fell_94 : decode cX12_fell 94 = .ok (.iconst 0, 1) := by decide +kernel
theorem dX12_fell_95 : decode cX12_fell 95 = .ok (.istore 5, 2) := by decide +kernel
theorem dX12_fell_97 : decode cX12_fell 97 = .ok (.lconst 0, 1) := by decide +kernel
theorem dX12_fell_98 : decode cX12_fell 98 = .ok (.lstore 6, 2) := by decide +kernel
theorem dX12_fell_100 : decode cX12_fell 100 = .ok (.iconst 0, 1) := by decide +kernel
theorem dX12_fell_101 : decode cX12_fell 101 = .ok (.istore 8, 2) := by decide +kernel
theorem dX12_fell_103 : decode cX12_fell 103 = .ok (.iload 8, 2) := by decide +kernel
theorem dX12_fell_105 : decode cX12_fell 105 = .ok (.aload_n 0, 1) := by decide +kernel
theorem dX12_fell_106 : decode cX12_fell 106 = .ok (.getfield 258, 3) := by decide +kernel
theorem dX12_fell_109 : decode cX12_fell 109 = .ok (.if_icmp .ge 48, 3) := by decide +kernel
theorem dX12_fell_112 : decode cX12_fell 112 = .ok (.aload_n 0, 1) := by decide +kernel
theorem dX12_fell_113 : decode cX12_fell 113 = .ok (.iload_n 1, 1) := by decide +kernel
theorem dX12_fell_114 : decode cX12_fell 114 = .ok (.iload 8, 2) := by decide +kernel
theorem dX12_fell_116 : decode cX12_fell 116 = .ok (.iload 4, 2) := by decide +kernel
theorem dX12_fell_118 : decode cX12_fell 118 = .ok (.invokevirtual 562, 3) := by decide +kernel
theorem dX12_fell_121 : decode cX12_fell 121 = .ok (.ifCond .ne 6, 3) := by decide +kernel
theorem dX12_fell_124 : decode cX12_fell 124 = .ok (.goto 27, 3) := by decide +kernel
theorem dX12_fell_127 : decode cX12_fell 127 = .ok (.iinc 5 1, 3) := by decide +kernel
theorem dX12_fell_130 : decode cX12_fell 130 = .ok (.lload 6, 2) := by decide +kernel
theorem dX12_fell_132 : decode cX12_fell 132 = .ok (.aload_n 0, 1) := by decide +kernel
theorem dX12_fell_133 : decode cX12_fell 133 = .ok (.iload 8, 2) := by decide +kernel
theorem dX12_fell_135 : decode cX12_fell 135 = .ok (.aload_n 0, 1) := by decide +kernel
theorem dX12_fell_136 : decode cX12_fell 136 = .ok (.getfield 228, 3) := by decide +kernel
theorem dX12_fell_139 : decode cX12_fell 139 = .ok (.iload_n 1, 1) := by decide +kernel
theorem dX12_fell_140 : decode cX12_fell 140 = .ok (.iaload, 1) := by decide +kernel
theorem dX12_fell_141 : decode cX12_fell 141 = .ok (.iload_n 2, 1) := by decide +kernel
theorem dX12_fell_142 : decode cX12_fell 142 = .ok (.iload_n 3, 1) := by decide +kernel
theorem dX12_fell_143 : decode cX12_fell 143 = .ok (.iload 4, 2) := by decide +kernel
theorem dX12_fell_145 : decode cX12_fell 145 = .ok (.invokevirtual 565, 3) := by decide +kernel
theorem dX12_fell_148 : decode cX12_fell 148 = .ok (.ladd, 1) := by decide +kernel
theorem dX12_fell_149 : decode cX12_fell 149 = .ok (.lstore 6, 2) := by decide +kernel
theorem dX12_fell_151 : decode cX12_fell 151 = .ok (.iinc 8 1, 3) := by decide +kernel
theorem dX12_fell_154 : decode cX12_fell 154 = .ok (.goto (-51), 3) := by decide +kernel
theorem dX12_fell_157 : decode cX12_fell 157 = .ok (.iload 5, 2) := by decide +kernel
theorem dX12_fell_159 : decode cX12_fell 159 = .ok (.ifCond .ne 10, 3) := by decide +kernel
theorem dX12_fell_162 : decode cX12_fell 162 = .ok (.aload_n 0, 1) := by decide +kernel
theorem dX12_fell_163 : decode cX12_fell 163 = .ok (.bipush 6, 2) := by decide +kernel
theorem dX12_fell_165 : decode cX12_fell 165 = .ok (.invokevirtual 267, 3) := by decide +kernel
theorem dX12_fell_168 : decode cX12_fell 168 = .ok (.ireturn, 1) := by decide +kernel
theorem dX12_fell_169 : decode cX12_fell 169 = .ok (.aload_n 0, 1) := by decide +kernel
theorem dX12_fell_170 : decode cX12_fell 170 = .ok (.aload_n 0, 1) := by decide +kernel
theorem dX12_fell_171 : decode cX12_fell 171 = .ok (.aload_n 0, 1) := by decide +kernel
theorem dX12_fell_172 : decode cX12_fell 172 = .ok (.getfield 225, 3) := by decide +kernel
theorem dX12_fell_175 : decode cX12_fell 175 = .ok (.iload_n 1, 1) := by decide +kernel
theorem dX12_fell_176 : decode cX12_fell 176 = .ok (.iaload, 1) := by decide +kernel
theorem dX12_fell_177 : decode cX12_fell 177 = .ok (.aload_n 0, 1) := by decide +kernel
theorem dX12_fell_178 : decode cX12_fell 178 = .ok (.getfield 228, 3) := by decide +kernel
theorem dX12_fell_181 : decode cX12_fell 181 = .ok (.iload_n 1, 1) := by decide +kernel
theorem dX12_fell_182 : decode cX12_fell 182 = .ok (.iaload, 1) := by decide +kernel
theorem dX12_fell_183 : decode cX12_fell 183 = .ok (.iload_n 2, 1) := by decide +kernel
theorem dX12_fell_184 : decode cX12_fell 184 = .ok (.iload_n 3, 1) := by decide +kernel
theorem dX12_fell_185 : decode cX12_fell 185 = .ok (.iload 4, 2) := by decide +kernel
theorem dX12_fell_187 : decode cX12_fell 187 = .ok (.invokevirtual 565, 3) := by decide +kernel
theorem dX12_fell_190 : decode cX12_fell 190 = .ok (.iload 5, 2) := by decide +kernel
theorem dX12_fell_192 : decode cX12_fell 192 = .ok (.i2l, 1) := by decide +kernel
theorem dX12_fell_193 : decode cX12_fell 193 = .ok (.lmul, 1) := by decide +kernel
theorem dX12_fell_194 : decode cX12_fell 194 = .ok (.lload 6, 2) := by decide +kernel
theorem dX12_fell_196 : decode cX12_fell 196 = .ok (.lsub, 1) := by decide +kernel
theorem dX12_fell_197 : decode cX12_fell 197 = .ok (.iload 5, 2) := by decide +kernel
theorem dX12_fell_199 : decode cX12_fell 199 = .ok (.i2l, 1) := by decide +kernel
theorem dX12_fell_200 : decode cX12_fell 200 = .ok (.invokevirtual 531, 3) := by decide +kernel
theorem dX12_fell_203 : decode cX12_fell 203 = .ok (.ireturn, 1) := by decide +kernel
noncomputable def B_X12_fell_0 : pb_C := (i_iload 1 (i_if_lt (i_aload 0 (i_const (.int 1) (i_callV 64 1 1 M_X12_refuse i_iret))) (i_iload 1 (i_aload 0 (i_getI 64 98 (i_ic_ge (i_aload 0 (i_const (.int 1) (i_callV 64 1 1 M_X12_refuse i_iret))) (i_iload 2 (i_callS 1 1 M_X12_isKind (i_if_eq (i_aload 0 (i_const (.int 1) (i_callV 64 1 1 M_X12_refuse i_iret))) (i_aload 0 (i_iload 3 (i_callV 64 1 1 M_X12_isEdition (i_if_eq (i_aload 0 (i_const (.int 1) (i_callV 64 1 1 M_X12_refuse i_iret))) (i_iload 4 (i_const (.int 1) (i_ic_lt (i_aload 0 (i_const (.int 1) (i_callV 64 1 1 M_X12_refuse i_iret))) (i_iload 4 (i_const (.int 26) (i_ic_le (i_aload 0 (i_iload 1 (i_iload 4 (i_callV 64 2 1 M_X12_areWeeks (i_if_eq (i_aload 0 (i_const (.int 6) (i_callV 64 1 1 M_X12_refuse i_iret))) (i_aload 0 (i_aload 0 (i_getR 64 128 (i_iload 1 (i_ald 128 12 (i_aload 0 (i_getR 64 129 (i_iload 1 (i_ald 129 12 (i_iload 4 (i_ibin (· - ·) (i_aload 0 (i_getR 64 129 (i_iload 1 (i_ald 129 12 (i_iload 4 (i_ibin (· + ·) (i_callV 64 3 1 M_X12_hasAll (i_if_ne (i_const (.int 0) (i_istore 5 (i_const (.long 0) (i_lstore 6 (i_const (.int 0) (i_istore 8 (i_jmp 103 [true, true, true, true, true, true, true, false, true]))))))) (i_aload 0 (i_const (.int 6) (i_callV 64 1 1 M_X12_refuse i_iret))))))))))))))))))))))))))) (i_aload 0 (i_const (.int 1) (i_callV 64 1 1 M_X12_refuse i_iret))))))))))))))))))))))
noncomputable def B_X12_fell_103 : pb_C := (i_iload 8 (i_aload 0 (i_getI 64 6 (i_ic_ge (i_iload 5 (i_if_ne (i_aload 0 (i_aload 0 (i_aload 0 (i_getR 64 128 (i_iload 1 (i_ald 128 12 (i_aload 0 (i_getR 64 129 (i_iload 1 (i_ald 129 12 (i_iload 2 (i_iload 3 (i_iload 4 (i_callV 64 5 2 M_X12_differs (i_iload 5 (i_i2l (i_lbin (· * ·) (i_lload 6 (i_lbin (· - ·) (i_iload 5 (i_i2l (i_callV 64 2 1 M_X12_fraction i_iret)))))))))))))))))))))) (i_aload 0 (i_const (.int 6) (i_callV 64 1 1 M_X12_refuse i_iret))))) (i_aload 0 (i_iload 1 (i_iload 8 (i_iload 4 (i_callV 64 3 1 M_X12_isLike (i_if_ne (i_iinc 5 1 (i_lload 6 (i_aload 0 (i_iload 8 (i_aload 0 (i_getR 64 129 (i_iload 1 (i_ald 129 12 (i_iload 2 (i_iload 3 (i_iload 4 (i_callV 64 5 2 M_X12_differs (i_lbin (· + ·) (i_lstore 6 (i_iinc 8 1 (i_jmp 103 [true, true, true, true, true, true, true, false, true])))))))))))))))) (i_iinc 8 1 (i_jmp 103 [true, true, true, true, true, true, true, false, true]))))))))))))
noncomputable def T_X12_fell : Nat → pb_C := pb_tt [(0, B_X12_fell_0), (103, B_X12_fell_103)]
noncomputable def M_X12_fell : pb_F := pb_M T_X12_fell 9
set_option maxRecDepth 100000 in
set_option maxHeartbeats 4000000 in
theorem S_X12_fell (l : Launch) : pb_Sound l yX12_fell cX12_fell 9 (some .int) 8 M_X12_fell := by
  refine pb_sound_of (by decide) m_9_144 ?_
  intro Γ hl0 hRm0 hm X E hr J
  have hnL : ∀ j, j < 9 → j < Γ.2.2.2.2.2.2.2.2.2.2.2.1 := fun j h => by rw [hm]; exact h
  have hR : ∀ (d' mL : Nat), d' + 1 ≤ 8 ∧ 8 + (mL + 11) + d' * 64 ≤ 8 * 64 → (pb_rm d').frames + 1 ≤ Γ.2.2.2.1.frames ∧ 8 + (mL + 11) + (pb_rm d').locals ≤ Γ.2.2.2.1.locals := by rw [hRm0]; exact fun _ _ h => h
  have hRm : 1 ≤ 8 ∧ 64 ≤ 8 * 64 → 1 ≤ Γ.2.2.2.1.frames ∧ 64 ≤ Γ.2.2.2.1.locals := by rw [hRm0]; exact fun h => h
  exact pb_tt_snd _ (List.forall_mem_cons.mpr ⟨(s_iload_n (pc := 0) X dX12_fell_0 rfl (s_if_lt (pc := 1) X dX12_fell_1 (by decide) (s_aload_n (pc := 40) X dX12_fell_40 rfl (s_iconst (pc := 41) X dX12_fell_41 rfl (s_callV (pc := 42) X dX12_fell_42 (S_X12_refuse _) q_X12_267 h_64 rfl (hR _ _ (by decide)) (s_iret (pc := 45) X E hr dX12_fell_45)))) (s_iload_n (pc := 4) X dX12_fell_4 rfl (s_aload_n (pc := 5) X dX12_fell_5 rfl (s_getI (pc := 6) X dX12_fell_6 g_X12_553 (s_ic_ge (pc := 9) X dX12_fell_9 (by decide) (s_aload_n (pc := 40) X dX12_fell_40 rfl (s_iconst (pc := 41) X dX12_fell_41 rfl (s_callV (pc := 42) X dX12_fell_42 (S_X12_refuse _) q_X12_267 h_64 rfl (hR _ _ (by decide)) (s_iret (pc := 45) X E hr dX12_fell_45)))) (s_iload_n (pc := 12) X dX12_fell_12 rfl (s_callS (pc := 13) X dX12_fell_13 (S_X12_isKind _) q_X12_460 (hR _ _ (by decide)) (s_if_eq (pc := 16) X dX12_fell_16 (by decide) (s_aload_n (pc := 40) X dX12_fell_40 rfl (s_iconst (pc := 41) X dX12_fell_41 rfl (s_callV (pc := 42) X dX12_fell_42 (S_X12_refuse _) q_X12_267 h_64 rfl (hR _ _ (by decide)) (s_iret (pc := 45) X E hr dX12_fell_45)))) (s_aload_n (pc := 19) X dX12_fell_19 rfl (s_iload_n (pc := 20) X dX12_fell_20 rfl (s_callV (pc := 21) X dX12_fell_21 (S_X12_isEdition _) q_X12_451 h_64 rfl (hR _ _ (by decide)) (s_if_eq (pc := 24) X dX12_fell_24 (by decide) (s_aload_n (pc := 40) X dX12_fell_40 rfl (s_iconst (pc := 41) X dX12_fell_41 rfl (s_callV (pc := 42) X dX12_fell_42 (S_X12_refuse _) q_X12_267 h_64 rfl (hR _ _ (by decide)) (s_iret (pc := 45) X E hr dX12_fell_45)))) (s_iload (pc := 27) X dX12_fell_27 (s_iconst (pc := 29) X dX12_fell_29 rfl (s_ic_lt (pc := 30) X dX12_fell_30 (by decide) (s_aload_n (pc := 40) X dX12_fell_40 rfl (s_iconst (pc := 41) X dX12_fell_41 rfl (s_callV (pc := 42) X dX12_fell_42 (S_X12_refuse _) q_X12_267 h_64 rfl (hR _ _ (by decide)) (s_iret (pc := 45) X E hr dX12_fell_45)))) (s_iload (pc := 33) X dX12_fell_33 (s_bipush (pc := 35) X dX12_fell_35 rfl (s_ic_le (pc := 37) X dX12_fell_37 (by decide) (s_aload_n (pc := 46) X dX12_fell_46 rfl (s_iload_n (pc := 47) X dX12_fell_47 rfl (s_iload (pc := 48) X dX12_fell_48 (s_callV (pc := 50) X dX12_fell_50 (S_X12_areWeeks _) q_X12_559 h_64 rfl (hR _ _ (by decide)) (s_if_eq (pc := 53) X dX12_fell_53 (by decide) (s_aload_n (pc := 87) X dX12_fell_87 rfl (s_bipush (pc := 88) X dX12_fell_88 rfl (s_callV (pc := 90) X dX12_fell_90 (S_X12_refuse _) q_X12_267 h_64 rfl (hR _ _ (by decide)) (s_iret (pc := 93) X E hr dX12_fell_93)))) (s_aload_n (pc := 56) X dX12_fell_56 rfl (s_aload_n (pc := 57) X dX12_fell_57 rfl (s_getR (pc := 58) X dX12_fell_58 g_X12_225 (s_iload_n (pc := 61) X dX12_fell_61 rfl (s_iald (pc := 62) X dX12_fell_62 h_128 (s_aload_n (pc := 63) X dX12_fell_63 rfl (s_getR (pc := 64) X dX12_fell_64 g_X12_228 (s_iload_n (pc := 67) X dX12_fell_67 rfl (s_iald (pc := 68) X dX12_fell_68 h_129 (s_iload (pc := 69) X dX12_fell_69 (s_isub (pc := 71) X dX12_fell_71 (s_aload_n (pc := 72) X dX12_fell_72 rfl (s_getR (pc := 73) X dX12_fell_73 g_X12_228 (s_iload_n (pc := 76) X dX12_fell_76 rfl (s_iald (pc := 77) X dX12_fell_77 h_129 (s_iload (pc := 78) X dX12_fell_78 (s_iadd (pc := 80) X dX12_fell_80 (s_callV (pc := 81) X dX12_fell_81 (S_X12_hasAll _) q_X12_556 h_64 rfl (hR _ _ (by decide)) (s_if_ne (pc := 84) X dX12_fell_84 (by decide) (s_iconst (pc := 94) X dX12_fell_94 rfl (s_istore (pc := 95) X dX12_fell_95 (hnL _ (by decide)) (s_lconst (pc := 97) X dX12_fell_97 rfl (s_lstore (pc := 98) X dX12_fell_98 (hnL _ (by decide)) (s_iconst (pc := 100) X dX12_fell_100 rfl (s_istore (pc := 101) X dX12_fell_101 (hnL _ (by decide)) (s_jmp (pc := 103) J [true, true, true, true, true, true, true, false, true]))))))) (s_aload_n (pc := 87) X dX12_fell_87 rfl (s_bipush (pc := 88) X dX12_fell_88 rfl (s_callV (pc := 90) X dX12_fell_90 (S_X12_refuse _) q_X12_267 h_64 rfl (hR _ _ (by decide)) (s_iret (pc := 93) X E hr dX12_fell_93)))))))))))))))))))))))))))) (s_aload_n (pc := 40) X dX12_fell_40 rfl (s_iconst (pc := 41) X dX12_fell_41 rfl (s_callV (pc := 42) X dX12_fell_42 (S_X12_refuse _) q_X12_267 h_64 rfl (hR _ _ (by decide)) (s_iret (pc := 45) X E hr dX12_fell_45))))))))))))))))))))))), List.forall_mem_cons.mpr ⟨(s_iload (pc := 103) X dX12_fell_103 (s_aload_n (pc := 105) X dX12_fell_105 rfl (s_getI (pc := 106) X dX12_fell_106 g_X12_258 (s_ic_ge (pc := 109) X dX12_fell_109 (by decide) (s_iload (pc := 157) X dX12_fell_157 (s_if_ne (pc := 159) X dX12_fell_159 (by decide) (s_aload_n (pc := 169) X dX12_fell_169 rfl (s_aload_n (pc := 170) X dX12_fell_170 rfl (s_aload_n (pc := 171) X dX12_fell_171 rfl (s_getR (pc := 172) X dX12_fell_172 g_X12_225 (s_iload_n (pc := 175) X dX12_fell_175 rfl (s_iald (pc := 176) X dX12_fell_176 h_128 (s_aload_n (pc := 177) X dX12_fell_177 rfl (s_getR (pc := 178) X dX12_fell_178 g_X12_228 (s_iload_n (pc := 181) X dX12_fell_181 rfl (s_iald (pc := 182) X dX12_fell_182 h_129 (s_iload_n (pc := 183) X dX12_fell_183 rfl (s_iload_n (pc := 184) X dX12_fell_184 rfl (s_iload (pc := 185) X dX12_fell_185 (s_callV (pc := 187) X dX12_fell_187 (S_X12_differs _) q_X12_565 h_64 rfl (hR _ _ (by decide)) (s_iload (pc := 190) X dX12_fell_190 (s_i2l (pc := 192) X dX12_fell_192 (s_lmul (pc := 193) X dX12_fell_193 (s_lload (pc := 194) X dX12_fell_194 (s_lsub (pc := 196) X dX12_fell_196 (s_iload (pc := 197) X dX12_fell_197 (s_i2l (pc := 199) X dX12_fell_199 (s_callV (pc := 200) X dX12_fell_200 (S_X12_fraction _) q_X12_531 h_64 rfl (hR _ _ (by decide)) (s_iret (pc := 203) X E hr dX12_fell_203))))))))))))))))))))))) (s_aload_n (pc := 162) X dX12_fell_162 rfl (s_bipush (pc := 163) X dX12_fell_163 rfl (s_callV (pc := 165) X dX12_fell_165 (S_X12_refuse _) q_X12_267 h_64 rfl (hR _ _ (by decide)) (s_iret (pc := 168) X E hr dX12_fell_168)))))) (s_aload_n (pc := 112) X dX12_fell_112 rfl (s_iload_n (pc := 113) X dX12_fell_113 rfl (s_iload (pc := 114) X dX12_fell_114 (s_iload (pc := 116) X dX12_fell_116 (s_callV (pc := 118) X dX12_fell_118 (S_X12_isLike _) q_X12_562 h_64 rfl (hR _ _ (by decide)) (s_if_ne (pc := 121) X dX12_fell_121 (by decide) (s_iinc (pc := 127) X dX12_fell_127 rfl (s_lload (pc := 130) X dX12_fell_130 (s_aload_n (pc := 132) X dX12_fell_132 rfl (s_iload (pc := 133) X dX12_fell_133 (s_aload_n (pc := 135) X dX12_fell_135 rfl (s_getR (pc := 136) X dX12_fell_136 g_X12_228 (s_iload_n (pc := 139) X dX12_fell_139 rfl (s_iald (pc := 140) X dX12_fell_140 h_129 (s_iload_n (pc := 141) X dX12_fell_141 rfl (s_iload_n (pc := 142) X dX12_fell_142 rfl (s_iload (pc := 143) X dX12_fell_143 (s_callV (pc := 145) X dX12_fell_145 (S_X12_differs _) q_X12_565 h_64 rfl (hR _ _ (by decide)) (s_ladd (pc := 148) X dX12_fell_148 (s_lstore (pc := 149) X dX12_fell_149 (hnL _ (by decide)) (s_iinc (pc := 151) X dX12_fell_151 rfl (s_goto (pc := 154) X dX12_fell_154 (by decide) (s_jmp (pc := 103) J [true, true, true, true, true, true, true, false, true]))))))))))))))))) (s_goto (pc := 124) X dX12_fell_124 (by decide) (s_iinc (pc := 151) X dX12_fell_151 rfl (s_goto (pc := 154) X dX12_fell_154 (by decide) (s_jmp (pc := 103) J [true, true, true, true, true, true, true, false, true])))))))))))))), fun _ h => absurd h List.not_mem_nil⟩⟩)
theorem dX12_likes_0 : decode cX12_likes 0 = .ok (.iload_n 1, 1) := by decide +kernel
theorem dX12_likes_1 : decode cX12_likes 1 = .ok (.ifCond .lt 22, 3) := by decide +kernel
theorem dX12_likes_4 : decode cX12_likes 4 = .ok (.iload_n 1, 1) := by decide +kernel
theorem dX12_likes_5 : decode cX12_likes 5 = .ok (.aload_n 0, 1) := by decide +kernel
theorem dX12_likes_6 : decode cX12_likes 6 = .ok (.getfield 553, 3) := by decide +kernel
theorem dX12_likes_9 : decode cX12_likes 9 = .ok (.if_icmp .ge 14, 3) := by decide +kernel
theorem dX12_likes_12 : decode cX12_likes 12 = .ok (.iload_n 2, 1) := by decide +kernel
theorem dX12_likes_13 : decode cX12_likes 13 = .ok (.iconst 1, 1) := by decide +kernel
theorem dX12_likes_14 : decode cX12_likes 14 = .ok (.if_icmp .lt 9, 3) := by decide +kernel
theorem dX12_likes_17 : decode cX12_likes 17 = .ok (.iload_n 2, 1) := by decide +kernel
theorem dX12_likes_18 : decode cX12_likes 18 = .ok (.bipush 26, 2) := by decide +kernel
theorem dX12_likes_20 : decode cX12_likes 20 = .ok (.if_icmp .le 9, 3) := by decide +kernel
theorem dX12_likes_23 : decode cX12_likes 23 = .ok (.aload_n 0, 1) := by decide +kernel
theorem dX12_likes_24 : decode cX12_likes 24 = .ok (.iconst 1, 1) := by decide +kernel
theorem dX12_likes_25 : decode cX12_likes 25 = .ok (.invokevirtual 267, 3) := by decide +kernel
theorem dX12_likes_28 : decode cX12_likes 28 = .ok (.ireturn, 1) := by decide +kernel
theorem dX12_likes_29 : decode cX12_likes 29 = .ok (.aload_n 0, 1) := by decide +kernel
theorem dX12_likes_30 : decode cX12_likes 30 = .ok (.iload_n 1, 1) := by decide +kernel
theorem dX12_likes_31 : decode cX12_likes 31 = .ok (.iload_n 2, 1) := by decide +kernel
theorem dX12_likes_32 : decode cX12_likes 32 = .ok (.invokevirtual 559, 3) := by decide +kernel
theorem dX12_likes_35 : decode cX12_likes 35 = .ok (.ifCond .ne 10, 3) := by decide +kernel
theorem dX12_likes_38 : decode cX12_likes 38 = .ok (.aload_n 0, 1) := by decide +kernel
theorem dX12_likes_39 : decode cX12_likes 39 = .ok (.bipush 6, 2) := by decide +kernel
theorem dX12_likes_41 : decode cX12_likes 41 = .ok (.invokevirtual 267, 3) := by decide +kernel
theorem dX12_likes_44 : decode cX12_likes 44 = .ok (.ireturn, 1) := by decide +kernel
theorem dX12_likes_45 : decode cX12_likes 45 = .ok (.iconst 0, 1) := by decide +kernel
theorem dX12_likes_46 : decode cX12_likes 46 = .ok (.istore_n 3, 1) := by decide +kernel
theorem dX12_likes_47 : decode cX12_likes 47 = .ok (.iconst 0, 1) := by decide +kernel
theorem dX12_likes_48 : decode cX12_likes 48 = .ok (.istore 4, 2) := by decide +kernel
theorem dX12_likes_50 : decode cX12_likes 50 = .ok (.iload 4, 2) := by decide +kernel
theorem dX12_likes_52 : decode cX12_likes 52 = .ok (.aload_n 0, 1) := by decide +kernel
theorem dX12_likes_53 : decode cX12_likes 53 = .ok (.getfield 258, 3) := by decide +kernel
theorem dX12_likes_56 : decode cX12_likes 56 = .ok (.if_icmp .ge 28, 3) := by decide +kernel
theorem dX12_likes_59 : decode cX12_likes 59 = .ok (.iload_n 3, 1) := by decide +kernel
theorem dX12_likes_60 : decode cX12_likes 60 = .ok (.aload_n 0, 1) := by decide +kernel
theorem dX12_likes_61 : decode cX12_likes 61 = .ok (.iload_n 1, 1) := by decide +kernel
theorem dX12_likes_62 : decode cX12_likes 62 = .ok (.iload 4, 2) := by decide +kernel
theorem dX12_likes_64 : decode cX12_likes 64 = .ok (.iload_n 2, 1) := by decide +kernel
theorem dX12_likes_65 : decode cX12_likes 65 = .ok (.invokevirtual 562, 3) := by decide +kernel
theorem dX12_likes_68 : decode cX12_likes 68 = .ok (.ifCond .eq 7, 3) := by decide +kernel
theorem dX12_likes_71 : decode cX12_likes 71 = .ok (.iconst 1, 1) := by decide +kernel
theorem dX12_likes_72 : decode cX12_likes 72 = .ok (.goto 4, 3) := by decide +kernel
theorem dX12_likes_75 : decode cX12_likes 75 = .ok (.iconst 0, 1) := by decide +kernel
theorem dX12_likes_76 : decode cX12_likes 76 = .ok (.iadd, 1) := by decide +kernel
theorem dX12_likes_77 : decode cX12_likes 77 = .ok (.istore_n 3, 1) := by decide +kernel
theorem dX12_likes_78 : decode cX12_likes 78 = .ok (.iinc 4 1, 3) := by decide +kernel
theorem dX12_likes_81 : decode cX12_likes 81 = .ok (.goto (-31), 3) := by decide +kernel
theorem dX12_likes_84 : decode cX12_likes 84 = .ok (.aload_n 0, 1) := by decide +kernel
theorem dX12_likes_85 : decode cX12_likes 85 = .ok (.iload_n 3, 1) := by decide +kernel
theorem dX12_likes_86 : decode cX12_likes 86 = .ok (.invokevirtual 237, 3) := by decide +kernel
theorem dX12_likes_89 : decode cX12_likes 89 = .ok (.ireturn, 1) := by decide +kernel
noncomputable def B_X12_likes_0 : pb_C := (i_iload 1 (i_if_lt (i_aload 0 (i_const (.int 1) (i_callV 64 1 1 M_X12_refuse i_iret))) (i_iload 1 (i_aload 0 (i_getI 64 98 (i_ic_ge (i_aload 0 (i_const (.int 1) (i_callV 64 1 1 M_X12_refuse i_iret))) (i_iload 2 (i_const (.int 1) (i_ic_lt (i_aload 0 (i_const (.int 1) (i_callV 64 1 1 M_X12_refuse i_iret))) (i_iload 2 (i_const (.int 26) (i_ic_le (i_aload 0 (i_iload 1 (i_iload 2 (i_callV 64 2 1 M_X12_areWeeks (i_if_ne (i_const (.int 0) (i_istore 3 (i_const (.int 0) (i_istore 4 (i_jmp 50 [true, true, true, true, true]))))) (i_aload 0 (i_const (.int 6) (i_callV 64 1 1 M_X12_refuse i_iret)))))))) (i_aload 0 (i_const (.int 1) (i_callV 64 1 1 M_X12_refuse i_iret)))))))))))))))
noncomputable def B_X12_likes_50 : pb_C := (i_iload 4 (i_aload 0 (i_getI 64 6 (i_ic_ge (i_aload 0 (i_iload 3 (i_callV 64 1 1 M_X12_gives i_iret))) (i_iload 3 (i_aload 0 (i_iload 1 (i_iload 4 (i_iload 2 (i_callV 64 3 1 M_X12_isLike (i_if_eq (i_const (.int 0) (i_ibin (· + ·) (i_istore 3 (i_iinc 4 1 (i_jmp 50 [true, true, true, true, true]))))) (i_const (.int 1) (i_ibin (· + ·) (i_istore 3 (i_iinc 4 1 (i_jmp 50 [true, true, true, true, true]))))))))))))))))
noncomputable def T_X12_likes : Nat → pb_C := pb_tt [(0, B_X12_likes_0), (50, B_X12_likes_50)]
noncomputable def M_X12_likes : pb_F := pb_M T_X12_likes 5
set_option maxRecDepth 100000 in
set_option maxHeartbeats 4000000 in
theorem S_X12_likes (l : Launch) : pb_Sound l yX12_likes cX12_likes 5 (some .int) 6 M_X12_likes := by
  refine pb_sound_of (by decide) m_9_164 ?_
  intro Γ hl0 hRm0 hm X E hr J
  have hnL : ∀ j, j < 5 → j < Γ.2.2.2.2.2.2.2.2.2.2.2.1 := fun j h => by rw [hm]; exact h
  have hR : ∀ (d' mL : Nat), d' + 1 ≤ 6 ∧ 8 + (mL + 11) + d' * 64 ≤ 6 * 64 → (pb_rm d').frames + 1 ≤ Γ.2.2.2.1.frames ∧ 8 + (mL + 11) + (pb_rm d').locals ≤ Γ.2.2.2.1.locals := by rw [hRm0]; exact fun _ _ h => h
  have hRm : 1 ≤ 6 ∧ 64 ≤ 6 * 64 → 1 ≤ Γ.2.2.2.1.frames ∧ 64 ≤ Γ.2.2.2.1.locals := by rw [hRm0]; exact fun h => h
  exact pb_tt_snd _ (List.forall_mem_cons.mpr ⟨(s_iload_n (pc := 0) X dX12_likes_0 rfl (s_if_lt (pc := 1) X dX12_likes_1 (by decide) (s_aload_n (pc := 23) X dX12_likes_23 rfl (s_iconst (pc := 24) X dX12_likes_24 rfl (s_callV (pc := 25) X dX12_likes_25 (S_X12_refuse _) q_X12_267 h_64 rfl (hR _ _ (by decide)) (s_iret (pc := 28) X E hr dX12_likes_28)))) (s_iload_n (pc := 4) X dX12_likes_4 rfl (s_aload_n (pc := 5) X dX12_likes_5 rfl (s_getI (pc := 6) X dX12_likes_6 g_X12_553 (s_ic_ge (pc := 9) X dX12_likes_9 (by decide) (s_aload_n (pc := 23) X dX12_likes_23 rfl (s_iconst (pc := 24) X dX12_likes_24 rfl (s_callV (pc := 25) X dX12_likes_25 (S_X12_refuse _) q_X12_267 h_64 rfl (hR _ _ (by decide)) (s_iret (pc := 28) X E hr dX12_likes_28)))) (s_iload_n (pc := 12) X dX12_likes_12 rfl (s_iconst (pc := 13) X dX12_likes_13 rfl (s_ic_lt (pc := 14) X dX12_likes_14 (by decide) (s_aload_n (pc := 23) X dX12_likes_23 rfl (s_iconst (pc := 24) X dX12_likes_24 rfl (s_callV (pc := 25) X dX12_likes_25 (S_X12_refuse _) q_X12_267 h_64 rfl (hR _ _ (by decide)) (s_iret (pc := 28) X E hr dX12_likes_28)))) (s_iload_n (pc := 17) X dX12_likes_17 rfl (s_bipush (pc := 18) X dX12_likes_18 rfl (s_ic_le (pc := 20) X dX12_likes_20 (by decide) (s_aload_n (pc := 29) X dX12_likes_29 rfl (s_iload_n (pc := 30) X dX12_likes_30 rfl (s_iload_n (pc := 31) X dX12_likes_31 rfl (s_callV (pc := 32) X dX12_likes_32 (S_X12_areWeeks _) q_X12_559 h_64 rfl (hR _ _ (by decide)) (s_if_ne (pc := 35) X dX12_likes_35 (by decide) (s_iconst (pc := 45) X dX12_likes_45 rfl (s_istore_n (pc := 46) X dX12_likes_46 rfl (hnL _ (by decide)) (s_iconst (pc := 47) X dX12_likes_47 rfl (s_istore (pc := 48) X dX12_likes_48 (hnL _ (by decide)) (s_jmp (pc := 50) J [true, true, true, true, true]))))) (s_aload_n (pc := 38) X dX12_likes_38 rfl (s_bipush (pc := 39) X dX12_likes_39 rfl (s_callV (pc := 41) X dX12_likes_41 (S_X12_refuse _) q_X12_267 h_64 rfl (hR _ _ (by decide)) (s_iret (pc := 44) X E hr dX12_likes_44))))))))) (s_aload_n (pc := 23) X dX12_likes_23 rfl (s_iconst (pc := 24) X dX12_likes_24 rfl (s_callV (pc := 25) X dX12_likes_25 (S_X12_refuse _) q_X12_267 h_64 rfl (hR _ _ (by decide)) (s_iret (pc := 28) X E hr dX12_likes_28)))))))))))))))), List.forall_mem_cons.mpr ⟨(s_iload (pc := 50) X dX12_likes_50 (s_aload_n (pc := 52) X dX12_likes_52 rfl (s_getI (pc := 53) X dX12_likes_53 g_X12_258 (s_ic_ge (pc := 56) X dX12_likes_56 (by decide) (s_aload_n (pc := 84) X dX12_likes_84 rfl (s_iload_n (pc := 85) X dX12_likes_85 rfl (s_callV (pc := 86) X dX12_likes_86 (S_X12_gives _) q_X12_237 h_64 rfl (hR _ _ (by decide)) (s_iret (pc := 89) X E hr dX12_likes_89)))) (s_iload_n (pc := 59) X dX12_likes_59 rfl (s_aload_n (pc := 60) X dX12_likes_60 rfl (s_iload_n (pc := 61) X dX12_likes_61 rfl (s_iload (pc := 62) X dX12_likes_62 (s_iload_n (pc := 64) X dX12_likes_64 rfl (s_callV (pc := 65) X dX12_likes_65 (S_X12_isLike _) q_X12_562 h_64 rfl (hR _ _ (by decide)) (s_if_eq (pc := 68) X dX12_likes_68 (by decide) (s_iconst (pc := 75) X dX12_likes_75 rfl (s_iadd (pc := 76) X dX12_likes_76 (s_istore_n (pc := 77) X dX12_likes_77 rfl (hnL _ (by decide)) (s_iinc (pc := 78) X dX12_likes_78 rfl (s_goto (pc := 81) X dX12_likes_81 (by decide) (s_jmp (pc := 50) J [true, true, true, true, true])))))) (s_iconst (pc := 71) X dX12_likes_71 rfl (s_goto (pc := 72) X dX12_likes_72 (by decide) (s_iadd (pc := 76) X dX12_likes_76 (s_istore_n (pc := 77) X dX12_likes_77 rfl (hnL _ (by decide)) (s_iinc (pc := 78) X dX12_likes_78 rfl (s_goto (pc := 81) X dX12_likes_81 (by decide) (s_jmp (pc := 50) J [true, true, true, true, true])))))))))))))))))), fun _ h => absurd h List.not_mem_nil⟩⟩)
