theorem m_1_37 : Cond.methodLink RX8 3 objectInit ∈ pb_tbl := pb_tm1 (i := 37) rfl rfl
theorem m_1_30 : Cond.instanceMethod objectInit ∈ pb_tbl := pb_tm1 (i := 30) rfl rfl
theorem m_objinit : Cond.instanceMethod objectInit ∈ pb_tbl ∧ Cond.code objectInit ⟨#[0xb1]⟩ 1 none ∈ pb_tbl := ⟨m_1_30, pb_tm1 (i := 31) rfl rfl⟩
theorem m_arr_long : Cond.arrayClass .long ∈ pb_tbl := pb_tm1 (i := 48) rfl rfl
theorem m_arr_int : Cond.arrayClass .int ∈ pb_tbl := pb_tm1 (i := 49) rfl rfl
theorem m_1_36 : Cond.code yX8_init cX8_init 1 none ∈ pb_tbl := pb_tm1 (i := 36) rfl rfl
theorem m_1_55 : Cond.methodLink RX1 3 objectInit ∈ pb_tbl := pb_tm1 (i := 55) rfl rfl
theorem m_arr_boolean : Cond.arrayClass .boolean ∈ pb_tbl := pb_tm1 (i := 151) rfl rfl
theorem m_1_54 : Cond.code yX1_init cX1_init 1 none ∈ pb_tbl := pb_tm1 (i := 54) rfl rfl
theorem m_1_157 : Cond.methodLink RX5 3 objectInit ∈ pb_tbl := pb_tm1 (i := 157) rfl rfl
theorem m_arr_byte : Cond.arrayClass .byte ∈ pb_tbl := pb_tm1 (i := 219) rfl rfl
theorem m_1_156 : Cond.code yX5_init cX5_init 1 none ∈ pb_tbl := pb_tm1 (i := 156) rfl rfl
theorem m_1_225 : Cond.methodLink RX0 3 objectInit ∈ pb_tbl := pb_tm1 (i := 225) rfl rfl
theorem m_1_224 : Cond.code yX0_init cX0_init 2 none ∈ pb_tbl := pb_tm1 (i := 224) rfl rfl
theorem m_2_17 : Cond.methodLink RX6 3 objectInit ∈ pb_tbl := pb_tm2 (i := 17) rfl rfl
theorem m_2_16 : Cond.code yX6_init cX6_init 2 none ∈ pb_tbl := pb_tm2 (i := 16) rfl rfl
theorem m_2_66 : Cond.methodLink RX7 5 objectInit ∈ pb_tbl := pb_tm2 (i := 66) rfl rfl
theorem m_2_65 : Cond.code yX7_init cX7_init 3 none ∈ pb_tbl := pb_tm2 (i := 65) rfl rfl
theorem m_2_106 : Cond.methodLink RX3 3 objectInit ∈ pb_tbl := pb_tm2 (i := 106) rfl rfl
theorem m_2_105 : Cond.code yX3_init cX3_init 1 none ∈ pb_tbl := pb_tm2 (i := 105) rfl rfl
theorem m_2_132 : Cond.methodLink RX4 3 objectInit ∈ pb_tbl := pb_tm2 (i := 132) rfl rfl
theorem m_2_131 : Cond.code yX4_init cX4_init 3 none ∈ pb_tbl := pb_tm2 (i := 131) rfl rfl
theorem m_2_160 : Cond.methodLink RX9 3 objectInit ∈ pb_tbl := pb_tm2 (i := 160) rfl rfl
theorem m_2_159 : Cond.code yX9_init cX9_init 2 none ∈ pb_tbl := pb_tm2 (i := 159) rfl rfl
theorem m_2_190 : Cond.methodLink RX10 1 objectInit ∈ pb_tbl := pb_tm2 (i := 190) rfl rfl
theorem m_2_189 : Cond.code yX10_init cX10_init 2 none ∈ pb_tbl := pb_tm2 (i := 189) rfl rfl
theorem m_2_214 : Cond.methodLink RX2 3 objectInit ∈ pb_tbl := pb_tm2 (i := 214) rfl rfl
theorem m_2_213 : Cond.code yX2_init cX2_init 3 none ∈ pb_tbl := pb_tm2 (i := 213) rfl rfl
theorem m_1_29 : Cond.methodLink RX11 1 objectInit ∈ pb_tbl := pb_tm1 (i := 29) rfl rfl
theorem m_1_32 : Cond.classLink RX11 20 RX8 ∈ pb_tbl := pb_tm1 (i := 32) rfl rfl
theorem m_1_33 : Cond.instantiable RX8 3 ∈ pb_tbl := pb_tm1 (i := 33) rfl rfl
theorem m_1_34 : Cond.methodLinkNest RX11 22 yX8_init "PennyBooks" ∈ pb_nests := pb_nm1 (i := 34) rfl rfl
theorem m_1_35 : Cond.instanceMethod yX8_init ∈ pb_tbl := pb_tm1 (i := 35) rfl rfl
theorem m_1_50 : Cond.classLink RX11 27 RX1 ∈ pb_tbl := pb_tm1 (i := 50) rfl rfl
theorem m_1_51 : Cond.instantiable RX1 20 ∈ pb_tbl := pb_tm1 (i := 51) rfl rfl
theorem m_1_52 : Cond.methodLinkNest RX11 29 yX1_init "PennyBooks" ∈ pb_nests := pb_nm1 (i := 52) rfl rfl
theorem m_1_53 : Cond.instanceMethod yX1_init ∈ pb_tbl := pb_tm1 (i := 53) rfl rfl
theorem m_1_152 : Cond.classLink RX11 34 RX5 ∈ pb_tbl := pb_tm1 (i := 152) rfl rfl
theorem m_1_153 : Cond.instantiable RX5 19 ∈ pb_tbl := pb_tm1 (i := 153) rfl rfl
theorem m_1_154 : Cond.methodLinkNest RX11 36 yX5_init "PennyBooks" ∈ pb_nests := pb_nm1 (i := 154) rfl rfl
theorem m_1_155 : Cond.instanceMethod yX5_init ∈ pb_tbl := pb_tm1 (i := 155) rfl rfl
theorem m_1_220 : Cond.classLink RX11 41 RX0 ∈ pb_tbl := pb_tm1 (i := 220) rfl rfl
theorem m_1_221 : Cond.instantiable RX0 8 ∈ pb_tbl := pb_tm1 (i := 221) rfl rfl
theorem m_1_222 : Cond.methodLink RX11 43 yX0_init ∈ pb_tbl := pb_tm1 (i := 222) rfl rfl
theorem m_1_223 : Cond.instanceMethod yX0_init ∈ pb_tbl := pb_tm1 (i := 223) rfl rfl
theorem m_2_12 : Cond.classLink RX11 50 RX6 ∈ pb_tbl := pb_tm2 (i := 12) rfl rfl
theorem m_2_13 : Cond.instantiable RX6 13 ∈ pb_tbl := pb_tm2 (i := 13) rfl rfl
theorem m_2_14 : Cond.methodLink RX11 52 yX6_init ∈ pb_tbl := pb_tm2 (i := 14) rfl rfl
theorem m_2_15 : Cond.instanceMethod yX6_init ∈ pb_tbl := pb_tm2 (i := 15) rfl rfl
theorem m_2_61 : Cond.classLink RX11 57 RX7 ∈ pb_tbl := pb_tm2 (i := 61) rfl rfl
theorem m_2_62 : Cond.instantiable RX7 10 ∈ pb_tbl := pb_tm2 (i := 62) rfl rfl
theorem m_2_63 : Cond.methodLink RX11 59 yX7_init ∈ pb_tbl := pb_tm2 (i := 63) rfl rfl
theorem m_2_64 : Cond.instanceMethod yX7_init ∈ pb_tbl := pb_tm2 (i := 64) rfl rfl
theorem m_2_101 : Cond.classLink RX11 66 RX3 ∈ pb_tbl := pb_tm2 (i := 101) rfl rfl
theorem m_2_102 : Cond.instantiable RX3 6 ∈ pb_tbl := pb_tm2 (i := 102) rfl rfl
theorem m_2_103 : Cond.methodLinkNest RX11 68 yX3_init "PennyBooks" ∈ pb_nests := pb_nm2 (i := 103) rfl rfl
theorem m_2_104 : Cond.instanceMethod yX3_init ∈ pb_tbl := pb_tm2 (i := 104) rfl rfl
theorem m_2_127 : Cond.classLink RX11 73 RX4 ∈ pb_tbl := pb_tm2 (i := 127) rfl rfl
theorem m_2_128 : Cond.instantiable RX4 6 ∈ pb_tbl := pb_tm2 (i := 128) rfl rfl
theorem m_2_129 : Cond.methodLink RX11 75 yX4_init ∈ pb_tbl := pb_tm2 (i := 129) rfl rfl
theorem m_2_130 : Cond.instanceMethod yX4_init ∈ pb_tbl := pb_tm2 (i := 130) rfl rfl
theorem m_2_155 : Cond.classLink RX11 80 RX9 ∈ pb_tbl := pb_tm2 (i := 155) rfl rfl
theorem m_2_156 : Cond.instantiable RX9 7 ∈ pb_tbl := pb_tm2 (i := 156) rfl rfl
theorem m_2_157 : Cond.methodLink RX11 82 yX9_init ∈ pb_tbl := pb_tm2 (i := 157) rfl rfl
theorem m_2_158 : Cond.instanceMethod yX9_init ∈ pb_tbl := pb_tm2 (i := 158) rfl rfl
theorem m_2_185 : Cond.classLink RX11 87 RX10 ∈ pb_tbl := pb_tm2 (i := 185) rfl rfl
theorem m_2_186 : Cond.instantiable RX10 5 ∈ pb_tbl := pb_tm2 (i := 186) rfl rfl
theorem m_2_187 : Cond.methodLink RX11 89 yX10_init ∈ pb_tbl := pb_tm2 (i := 187) rfl rfl
theorem m_2_188 : Cond.instanceMethod yX10_init ∈ pb_tbl := pb_tm2 (i := 188) rfl rfl
theorem m_2_209 : Cond.classLink RX11 94 RX2 ∈ pb_tbl := pb_tm2 (i := 209) rfl rfl
theorem m_2_210 : Cond.instantiable RX2 7 ∈ pb_tbl := pb_tm2 (i := 210) rfl rfl
theorem m_2_211 : Cond.methodLink RX11 96 yX2_init ∈ pb_tbl := pb_tm2 (i := 211) rfl rfl
theorem m_2_212 : Cond.instanceMethod yX2_init ∈ pb_tbl := pb_tm2 (i := 212) rfl rfl
theorem m_1_28 : Cond.code yX11_init cX11_init 1 none ∈ pb_tbl := pb_tm1 (i := 28) rfl rfl
theorem m_6_150 : Cond.methodLink RX12 1 objectInit ∈ pb_tbl := pb_tm6 (i := 150) rfl rfl
theorem m_6_149 : Cond.code yX12_init cX12_init 1 none ∈ pb_tbl := pb_tm6 (i := 149) rfl rfl
theorem dX8_init_0 : decode cX8_init 0 = .ok (.aload_n 0, 1) := by decide +kernel
theorem dX8_init_1 : decode cX8_init 1 = .ok (.invokespecial 3, 3) := by decide +kernel
theorem dX8_init_4 : decode cX8_init 4 = .ok (.aload_n 0, 1) := by decide +kernel
theorem dX8_init_5 : decode cX8_init 5 = .ok (.sipush 240, 3) := by decide +kernel
theorem dX8_init_8 : decode cX8_init 8 = .ok (.newarray .long, 2) := by decide +kernel
theorem dX8_init_10 : decode cX8_init 10 = .ok (.putfield 11, 3) := by decide +kernel
theorem dX8_init_13 : decode cX8_init 13 = .ok (.aload_n 0, 1) := by decide +kernel
theorem dX8_init_14 : decode cX8_init 14 = .ok (.iconst 4, 1) := by decide +kernel
theorem dX8_init_15 : decode cX8_init 15 = .ok (.newarray .int, 2) := by decide +kernel
theorem dX8_init_17 : decode cX8_init 17 = .ok (.putfield 15, 3) := by decide +kernel
theorem dX8_init_20 : decode cX8_init 20 = .ok (.aload_n 0, 1) := by decide +kernel
theorem dX8_init_21 : decode cX8_init 21 = .ok (.iconst 4, 1) := by decide +kernel
theorem dX8_init_22 : decode cX8_init 22 = .ok (.newarray .int, 2) := by decide +kernel
theorem dX8_init_24 : decode cX8_init 24 = .ok (.dup, 1) := by decide +kernel
theorem dX8_init_25 : decode cX8_init 25 = .ok (.iconst 0, 1) := by decide +kernel
theorem dX8_init_26 : decode cX8_init 26 = .ok (.iconst (-1), 1) := by decide +kernel
theorem dX8_init_27 : decode cX8_init 27 = .ok (.iastore, 1) := by decide +kernel
theorem dX8_init_28 : decode cX8_init 28 = .ok (.dup, 1) := by decide +kernel
theorem dX8_init_29 : decode cX8_init 29 = .ok (.iconst 1, 1) := by decide +kernel
theorem dX8_init_30 : decode cX8_init 30 = .ok (.iconst (-1), 1) := by decide +kernel
theorem dX8_init_31 : decode cX8_init 31 = .ok (.iastore, 1) := by decide +kernel
theorem dX8_init_32 : decode cX8_init 32 = .ok (.dup, 1) := by decide +kernel
theorem dX8_init_33 : decode cX8_init 33 = .ok (.iconst 2, 1) := by decide +kernel
theorem dX8_init_34 : decode cX8_init 34 = .ok (.iconst (-1), 1) := by decide +kernel
theorem dX8_init_35 : decode cX8_init 35 = .ok (.iastore, 1) := by decide +kernel
theorem dX8_init_36 : decode cX8_init 36 = .ok (.dup, 1) := by decide +kernel
theorem dX8_init_37 : decode cX8_init 37 = .ok (.iconst 3, 1) := by decide +kernel
theorem dX8_init_38 : decode cX8_init 38 = .ok (.iconst (-1), 1) := by decide +kernel
theorem dX8_init_39 : decode cX8_init 39 = .ok (.iastore, 1) := by decide +kernel
theorem dX8_init_40 : decode cX8_init 40 = .ok (.putfield 19, 3) := by decide +kernel
theorem dX8_init_43 : decode cX8_init 43 = .ok (.return_, 1) := by decide +kernel
set_option maxRecDepth 100000 in
def B2_X8_init : pb_C2 := (c_aload 0 (c_obj (c_aload 0 (c_const (.int 240) (c_newa 3 240 3 248 (c_putT (tyX8 0) 8 0 (c_aload 0 (c_const (.int 4) (c_newa 0 4 3 248 (c_putT (tyX8 1) 8 1 (c_aload 0 (c_const (.int 4) (c_newa 0 4 3 248 (c_dup (c_const (.int 0) (c_const (.int (-1)) (c_ast (c_dup (c_const (.int 1) (c_const (.int (-1)) (c_ast (c_dup (c_const (.int 2) (c_const (.int (-1)) (c_ast (c_dup (c_const (.int 3) (c_const (.int (-1)) (c_ast (c_putT (tyX8 2) 8 2 (c_vret 3 248)))))))))))))))))))))))))))))))
def F2_X8_init : pb_F2 := fun av E => bif Nat.ble (pb_cat av) 1 then (B2_X8_init (pb_ini 1 av) [] E 0 0).map (·.1) else none
set_option maxRecDepth 100000 in
set_option maxHeartbeats 8000000 in
theorem S2_X8_init (l : Launch) : pb_Sound2 l yX8_init cX8_init 1 2 3 248 F2_X8_init := by
  refine pb_sound2_of (by decide) rfl m_1_36 ?_
  intro Γ hl0 hRm0 hm X hE hini
  have hRc : 3 ≤ Γ.2.2.2.1.cells ∧ 248 ≤ Γ.2.2.2.1.slots := by rw [hRm0]; exact ⟨Nat.le_refl _, Nat.le_refl _⟩
  have hRo : 1 ≤ Γ.2.2.2.1.frames ∧ 64 ≤ Γ.2.2.2.1.locals := by rw [hRm0]; exact ⟨by decide, by decide⟩
  have hR : ∀ (d' mL MC' MS' : Nat), d' + 1 ≤ 2 ∧ 8 + (mL + 11) + d' * 64 ≤ 2 * 64 → (pb_rm2 d' MC' MS').frames + 1 ≤ Γ.2.2.2.1.frames ∧ 8 + (mL + 11) + (pb_rm2 d' MC' MS').locals ≤ Γ.2.2.2.1.locals := by rw [hRm0]; exact fun _ _ _ _ h => h
  exact (k_aload_n (pc := 0) X dX8_init_0 rfl (k_obj (pc := 1) X dX8_init_1 m_1_37 m_objinit hRo (k_aload_n (pc := 4) X dX8_init_4 rfl (k_sipush (pc := 5) X dX8_init_5 rfl (k_newa (pc := 8) X dX8_init_8 (ty := .long) rfl m_arr_long (fun _ => rfl) (fun _ _ => Iff.rfl) (fun _ => rfl) (by decide) (by decide) hRc (k_putF (pc := 10) X hini dX8_init_10 rfl (by decide) u_X8 m_1_38 tyX8_ok nmX8 rfl rfl (k_aload_n (pc := 13) X dX8_init_13 rfl (k_iconst (pc := 14) X dX8_init_14 rfl (k_newa (pc := 15) X dX8_init_15 (ty := .int) rfl m_arr_int (fun _ => rfl) (fun _ _ => Iff.rfl) (fun _ => rfl) (by decide) (by decide) hRc (k_putF (pc := 17) X hini dX8_init_17 rfl (by decide) u_X8 m_1_39 tyX8_ok nmX8 rfl rfl (k_aload_n (pc := 20) X dX8_init_20 rfl (k_iconst (pc := 21) X dX8_init_21 rfl (k_newa (pc := 22) X dX8_init_22 (ty := .int) rfl m_arr_int (fun _ => rfl) (fun _ _ => Iff.rfl) (fun _ => rfl) (by decide) (by decide) hRc (k_dup (pc := 24) X dX8_init_24 (k_iconst (pc := 25) X dX8_init_25 rfl (k_iconst (pc := 26) X dX8_init_26 rfl (k_ast (pc := 27) X dX8_init_27 (k_dup (pc := 28) X dX8_init_28 (k_iconst (pc := 29) X dX8_init_29 rfl (k_iconst (pc := 30) X dX8_init_30 rfl (k_ast (pc := 31) X dX8_init_31 (k_dup (pc := 32) X dX8_init_32 (k_iconst (pc := 33) X dX8_init_33 rfl (k_iconst (pc := 34) X dX8_init_34 rfl (k_ast (pc := 35) X dX8_init_35 (k_dup (pc := 36) X dX8_init_36 (k_iconst (pc := 37) X dX8_init_37 rfl (k_iconst (pc := 38) X dX8_init_38 rfl (k_ast (pc := 39) X dX8_init_39 (k_putF (pc := 40) X hini dX8_init_40 rfl (by decide) u_X8 m_1_40 tyX8_ok nmX8 rfl rfl (k_vret (pc := 43) X hE dX8_init_43)))))))))))))))))))))))))))))))
theorem dX1_init_0 : decode cX1_init 0 = .ok (.aload_n 0, 1) := by decide +kernel
theorem dX1_init_1 : decode cX1_init 1 = .ok (.invokespecial 3, 3) := by decide +kernel
theorem dX1_init_4 : decode cX1_init 4 = .ok (.aload_n 0, 1) := by decide +kernel
theorem dX1_init_5 : decode cX1_init 5 = .ok (.bipush 12, 2) := by decide +kernel
theorem dX1_init_7 : decode cX1_init 7 = .ok (.newarray .int, 2) := by decide +kernel
theorem dX1_init_9 : decode cX1_init 9 = .ok (.putfield 9, 3) := by decide +kernel
theorem dX1_init_12 : decode cX1_init 12 = .ok (.aload_n 0, 1) := by decide +kernel
theorem dX1_init_13 : decode cX1_init 13 = .ok (.bipush 12, 2) := by decide +kernel
theorem dX1_init_15 : decode cX1_init 15 = .ok (.newarray .int, 2) := by decide +kernel
theorem dX1_init_17 : decode cX1_init 17 = .ok (.putfield 15, 3) := by decide +kernel
theorem dX1_init_20 : decode cX1_init 20 = .ok (.aload_n 0, 1) := by decide +kernel
theorem dX1_init_21 : decode cX1_init 21 = .ok (.sipush 200, 3) := by decide +kernel
theorem dX1_init_24 : decode cX1_init 24 = .ok (.newarray .int, 2) := by decide +kernel
theorem dX1_init_26 : decode cX1_init 26 = .ok (.putfield 18, 3) := by decide +kernel
theorem dX1_init_29 : decode cX1_init 29 = .ok (.aload_n 0, 1) := by decide +kernel
theorem dX1_init_30 : decode cX1_init 30 = .ok (.sipush 200, 3) := by decide +kernel
theorem dX1_init_33 : decode cX1_init 33 = .ok (.newarray .int, 2) := by decide +kernel
theorem dX1_init_35 : decode cX1_init 35 = .ok (.putfield 21, 3) := by decide +kernel
theorem dX1_init_38 : decode cX1_init 38 = .ok (.aload_n 0, 1) := by decide +kernel
theorem dX1_init_39 : decode cX1_init 39 = .ok (.sipush 200, 3) := by decide +kernel
theorem dX1_init_42 : decode cX1_init 42 = .ok (.newarray .int, 2) := by decide +kernel
theorem dX1_init_44 : decode cX1_init 44 = .ok (.putfield 24, 3) := by decide +kernel
theorem dX1_init_47 : decode cX1_init 47 = .ok (.aload_n 0, 1) := by decide +kernel
theorem dX1_init_48 : decode cX1_init 48 = .ok (.sipush 200, 3) := by decide +kernel
theorem dX1_init_51 : decode cX1_init 51 = .ok (.newarray .int, 2) := by decide +kernel
theorem dX1_init_53 : decode cX1_init 53 = .ok (.putfield 27, 3) := by decide +kernel
theorem dX1_init_56 : decode cX1_init 56 = .ok (.aload_n 0, 1) := by decide +kernel
theorem dX1_init_57 : decode cX1_init 57 = .ok (.sipush 200, 3) := by decide +kernel
theorem dX1_init_60 : decode cX1_init 60 = .ok (.newarray .boolean, 2) := by decide +kernel
theorem dX1_init_62 : decode cX1_init 62 = .ok (.putfield 30, 3) := by decide +kernel
theorem dX1_init_65 : decode cX1_init 65 = .ok (.aload_n 0, 1) := by decide +kernel
theorem dX1_init_66 : decode cX1_init 66 = .ok (.sipush 200, 3) := by decide +kernel
theorem dX1_init_69 : decode cX1_init 69 = .ok (.newarray .int, 2) := by decide +kernel
theorem dX1_init_71 : decode cX1_init 71 = .ok (.putfield 34, 3) := by decide +kernel
theorem dX1_init_74 : decode cX1_init 74 = .ok (.aload_n 0, 1) := by decide +kernel
theorem dX1_init_75 : decode cX1_init 75 = .ok (.sipush 600, 3) := by decide +kernel
theorem dX1_init_78 : decode cX1_init 78 = .ok (.newarray .long, 2) := by decide +kernel
theorem dX1_init_80 : decode cX1_init 80 = .ok (.putfield 37, 3) := by decide +kernel
theorem dX1_init_83 : decode cX1_init 83 = .ok (.aload_n 0, 1) := by decide +kernel
theorem dX1_init_84 : decode cX1_init 84 = .ok (.sipush 200, 3) := by decide +kernel
theorem dX1_init_87 : decode cX1_init 87 = .ok (.newarray .int, 2) := by decide +kernel
theorem dX1_init_89 : decode cX1_init 89 = .ok (.putfield 41, 3) := by decide +kernel
theorem dX1_init_92 : decode cX1_init 92 = .ok (.aload_n 0, 1) := by decide +kernel
theorem dX1_init_93 : decode cX1_init 93 = .ok (.sipush 200, 3) := by decide +kernel
theorem dX1_init_96 : decode cX1_init 96 = .ok (.newarray .int, 2) := by decide +kernel
theorem dX1_init_98 : decode cX1_init 98 = .ok (.putfield 44, 3) := by decide +kernel
theorem dX1_init_101 : decode cX1_init 101 = .ok (.aload_n 0, 1) := by decide +kernel
theorem dX1_init_102 : decode cX1_init 102 = .ok (.bipush 60, 2) := by decide +kernel
theorem dX1_init_104 : decode cX1_init 104 = .ok (.newarray .int, 2) := by decide +kernel
theorem dX1_init_106 : decode cX1_init 106 = .ok (.putfield 47, 3) := by decide +kernel
theorem dX1_init_109 : decode cX1_init 109 = .ok (.aload_n 0, 1) := by decide +kernel
theorem dX1_init_110 : decode cX1_init 110 = .ok (.bipush 60, 2) := by decide +kernel
theorem dX1_init_112 : decode cX1_init 112 = .ok (.newarray .int, 2) := by decide +kernel
theorem dX1_init_114 : decode cX1_init 114 = .ok (.putfield 50, 3) := by decide +kernel
theorem dX1_init_117 : decode cX1_init 117 = .ok (.aload_n 0, 1) := by decide +kernel
theorem dX1_init_118 : decode cX1_init 118 = .ok (.bipush 60, 2) := by decide +kernel
theorem dX1_init_120 : decode cX1_init 120 = .ok (.newarray .int, 2) := by decide +kernel
theorem dX1_init_122 : decode cX1_init 122 = .ok (.putfield 53, 3) := by decide +kernel
theorem dX1_init_125 : decode cX1_init 125 = .ok (.aload_n 0, 1) := by decide +kernel
theorem dX1_init_126 : decode cX1_init 126 = .ok (.iconst 3, 1) := by decide +kernel
theorem dX1_init_127 : decode cX1_init 127 = .ok (.newarray .long, 2) := by decide +kernel
theorem dX1_init_129 : decode cX1_init 129 = .ok (.putfield 56, 3) := by decide +kernel
theorem dX1_init_132 : decode cX1_init 132 = .ok (.aload_n 0, 1) := by decide +kernel
theorem dX1_init_133 : decode cX1_init 133 = .ok (.sipush 9999, 3) := by decide +kernel
theorem dX1_init_136 : decode cX1_init 136 = .ok (.putfield 59, 3) := by decide +kernel
theorem dX1_init_139 : decode cX1_init 139 = .ok (.return_, 1) := by decide +kernel
set_option maxRecDepth 100000 in
def B2_X1_init : pb_C2 := (c_aload 0 (c_obj (c_aload 0 (c_const (.int 12) (c_newa 0 12 15 2407 (c_putT (tyX1 1) 1 1 (c_aload 0 (c_const (.int 12) (c_newa 0 12 15 2407 (c_putT (tyX1 2) 1 2 (c_aload 0 (c_const (.int 200) (c_newa 0 200 15 2407 (c_putT (tyX1 4) 1 4 (c_aload 0 (c_const (.int 200) (c_newa 0 200 15 2407 (c_putT (tyX1 5) 1 5 (c_aload 0 (c_const (.int 200) (c_newa 0 200 15 2407 (c_putT (tyX1 6) 1 6 (c_aload 0 (c_const (.int 200) (c_newa 0 200 15 2407 (c_putT (tyX1 7) 1 7 (c_aload 0 (c_const (.int 200) (c_newa 1 200 15 2407 (c_putT (tyX1 8) 1 8 (c_aload 0 (c_const (.int 200) (c_newa 0 200 15 2407 (c_putT (tyX1 9) 1 9 (c_aload 0 (c_const (.int 600) (c_newa 3 600 15 2407 (c_putT (tyX1 10) 1 10 (c_aload 0 (c_const (.int 200) (c_newa 0 200 15 2407 (c_putT (tyX1 11) 1 11 (c_aload 0 (c_const (.int 200) (c_newa 0 200 15 2407 (c_putT (tyX1 12) 1 12 (c_aload 0 (c_const (.int 60) (c_newa 0 60 15 2407 (c_putT (tyX1 14) 1 14 (c_aload 0 (c_const (.int 60) (c_newa 0 60 15 2407 (c_putT (tyX1 15) 1 15 (c_aload 0 (c_const (.int 60) (c_newa 0 60 15 2407 (c_putT (tyX1 16) 1 16 (c_aload 0 (c_const (.int 3) (c_newa 3 3 15 2407 (c_putT (tyX1 17) 1 17 (c_aload 0 (c_const (.int 9999) (c_putT (tyX1 19) 1 19 (c_vret 15 2407))))))))))))))))))))))))))))))))))))))))))))))))))))))))))))))))))
def F2_X1_init : pb_F2 := fun av E => bif Nat.ble (pb_cat av) 1 then (B2_X1_init (pb_ini 1 av) [] E 0 0).map (·.1) else none
set_option maxRecDepth 100000 in
set_option maxHeartbeats 8000000 in
theorem S2_X1_init (l : Launch) : pb_Sound2 l yX1_init cX1_init 1 2 15 2407 F2_X1_init := by
  refine pb_sound2_of (by decide) rfl m_1_54 ?_
  intro Γ hl0 hRm0 hm X hE hini
  have hRc : 15 ≤ Γ.2.2.2.1.cells ∧ 2407 ≤ Γ.2.2.2.1.slots := by rw [hRm0]; exact ⟨Nat.le_refl _, Nat.le_refl _⟩
  have hRo : 1 ≤ Γ.2.2.2.1.frames ∧ 64 ≤ Γ.2.2.2.1.locals := by rw [hRm0]; exact ⟨by decide, by decide⟩
  have hR : ∀ (d' mL MC' MS' : Nat), d' + 1 ≤ 2 ∧ 8 + (mL + 11) + d' * 64 ≤ 2 * 64 → (pb_rm2 d' MC' MS').frames + 1 ≤ Γ.2.2.2.1.frames ∧ 8 + (mL + 11) + (pb_rm2 d' MC' MS').locals ≤ Γ.2.2.2.1.locals := by rw [hRm0]; exact fun _ _ _ _ h => h
  exact (k_aload_n (pc := 0) X dX1_init_0 rfl (k_obj (pc := 1) X dX1_init_1 m_1_55 m_objinit hRo (k_aload_n (pc := 4) X dX1_init_4 rfl (k_bipush (pc := 5) X dX1_init_5 rfl (k_newa (pc := 7) X dX1_init_7 (ty := .int) rfl m_arr_int (fun _ => rfl) (fun _ _ => Iff.rfl) (fun _ => rfl) (by decide) (by decide) hRc (k_putF (pc := 9) X hini dX1_init_9 rfl (by decide) u_X1 m_1_59 tyX1_ok nmX1 rfl rfl (k_aload_n (pc := 12) X dX1_init_12 rfl (k_bipush (pc := 13) X dX1_init_13 rfl (k_newa (pc := 15) X dX1_init_15 (ty := .int) rfl m_arr_int (fun _ => rfl) (fun _ _ => Iff.rfl) (fun _ => rfl) (by decide) (by decide) hRc (k_putF (pc := 17) X hini dX1_init_17 rfl (by decide) u_X1 m_1_62 tyX1_ok nmX1 rfl rfl (k_aload_n (pc := 20) X dX1_init_20 rfl (k_sipush (pc := 21) X dX1_init_21 rfl (k_newa (pc := 24) X dX1_init_24 (ty := .int) rfl m_arr_int (fun _ => rfl) (fun _ _ => Iff.rfl) (fun _ => rfl) (by decide) (by decide) hRc (k_putF (pc := 26) X hini dX1_init_26 rfl (by decide) u_X1 m_1_72 tyX1_ok nmX1 rfl rfl (k_aload_n (pc := 29) X dX1_init_29 rfl (k_sipush (pc := 30) X dX1_init_30 rfl (k_newa (pc := 33) X dX1_init_33 (ty := .int) rfl m_arr_int (fun _ => rfl) (fun _ _ => Iff.rfl) (fun _ => rfl) (by decide) (by decide) hRc (k_putF (pc := 35) X hini dX1_init_35 rfl (by decide) u_X1 m_1_77 tyX1_ok nmX1 rfl rfl (k_aload_n (pc := 38) X dX1_init_38 rfl (k_sipush (pc := 39) X dX1_init_39 rfl (k_newa (pc := 42) X dX1_init_42 (ty := .int) rfl m_arr_int (fun _ => rfl) (fun _ _ => Iff.rfl) (fun _ => rfl) (by decide) (by decide) hRc (k_putF (pc := 44) X hini dX1_init_44 rfl (by decide) u_X1 m_1_84 tyX1_ok nmX1 rfl rfl (k_aload_n (pc := 47) X dX1_init_47 rfl (k_sipush (pc := 48) X dX1_init_48 rfl (k_newa (pc := 51) X dX1_init_51 (ty := .int) rfl m_arr_int (fun _ => rfl) (fun _ _ => Iff.rfl) (fun _ => rfl) (by decide) (by decide) hRc (k_putF (pc := 53) X hini dX1_init_53 rfl (by decide) u_X1 m_1_86 tyX1_ok nmX1 rfl rfl (k_aload_n (pc := 56) X dX1_init_56 rfl (k_sipush (pc := 57) X dX1_init_57 rfl (k_newa (pc := 60) X dX1_init_60 (ty := .boolean) rfl m_arr_boolean (fun _ => rfl) (fun _ _ => Iff.rfl) (fun _ => rfl) (by decide) (by decide) hRc (k_putF (pc := 62) X hini dX1_init_62 rfl (by decide) u_X1 m_1_88 tyX1_ok nmX1 rfl rfl (k_aload_n (pc := 65) X dX1_init_65 rfl (k_sipush (pc := 66) X dX1_init_66 rfl (k_newa (pc := 69) X dX1_init_69 (ty := .int) rfl m_arr_int (fun _ => rfl) (fun _ _ => Iff.rfl) (fun _ => rfl) (by decide) (by decide) hRc (k_putF (pc := 71) X hini dX1_init_71 rfl (by decide) u_X1 m_1_90 tyX1_ok nmX1 rfl rfl (k_aload_n (pc := 74) X dX1_init_74 rfl (k_sipush (pc := 75) X dX1_init_75 rfl (k_newa (pc := 78) X dX1_init_78 (ty := .long) rfl m_arr_long (fun _ => rfl) (fun _ _ => Iff.rfl) (fun _ => rfl) (by decide) (by decide) hRc (k_putF (pc := 80) X hini dX1_init_80 rfl (by decide) u_X1 m_1_91 tyX1_ok nmX1 rfl rfl (k_aload_n (pc := 83) X dX1_init_83 rfl (k_sipush (pc := 84) X dX1_init_84 rfl (k_newa (pc := 87) X dX1_init_87 (ty := .int) rfl m_arr_int (fun _ => rfl) (fun _ _ => Iff.rfl) (fun _ => rfl) (by decide) (by decide) hRc (k_putF (pc := 89) X hini dX1_init_89 rfl (by decide) u_X1 m_1_92 tyX1_ok nmX1 rfl rfl (k_aload_n (pc := 92) X dX1_init_92 rfl (k_sipush (pc := 93) X dX1_init_93 rfl (k_newa (pc := 96) X dX1_init_96 (ty := .int) rfl m_arr_int (fun _ => rfl) (fun _ _ => Iff.rfl) (fun _ => rfl) (by decide) (by decide) hRc (k_putF (pc := 98) X hini dX1_init_98 rfl (by decide) u_X1 m_1_93 tyX1_ok nmX1 rfl rfl (k_aload_n (pc := 101) X dX1_init_101 rfl (k_bipush (pc := 102) X dX1_init_102 rfl (k_newa (pc := 104) X dX1_init_104 (ty := .int) rfl m_arr_int (fun _ => rfl) (fun _ _ => Iff.rfl) (fun _ => rfl) (by decide) (by decide) hRc (k_putF (pc := 106) X hini dX1_init_106 rfl (by decide) u_X1 m_1_103 tyX1_ok nmX1 rfl rfl (k_aload_n (pc := 109) X dX1_init_109 rfl (k_bipush (pc := 110) X dX1_init_110 rfl (k_newa (pc := 112) X dX1_init_112 (ty := .int) rfl m_arr_int (fun _ => rfl) (fun _ _ => Iff.rfl) (fun _ => rfl) (by decide) (by decide) hRc (k_putF (pc := 114) X hini dX1_init_114 rfl (by decide) u_X1 m_1_104 tyX1_ok nmX1 rfl rfl (k_aload_n (pc := 117) X dX1_init_117 rfl (k_bipush (pc := 118) X dX1_init_118 rfl (k_newa (pc := 120) X dX1_init_120 (ty := .int) rfl m_arr_int (fun _ => rfl) (fun _ _ => Iff.rfl) (fun _ => rfl) (by decide) (by decide) hRc (k_putF (pc := 122) X hini dX1_init_122 rfl (by decide) u_X1 m_1_105 tyX1_ok nmX1 rfl rfl (k_aload_n (pc := 125) X dX1_init_125 rfl (k_iconst (pc := 126) X dX1_init_126 rfl (k_newa (pc := 127) X dX1_init_127 (ty := .long) rfl m_arr_long (fun _ => rfl) (fun _ _ => Iff.rfl) (fun _ => rfl) (by decide) (by decide) hRc (k_putF (pc := 129) X hini dX1_init_129 rfl (by decide) u_X1 m_1_106 tyX1_ok nmX1 rfl rfl (k_aload_n (pc := 132) X dX1_init_132 rfl (k_sipush (pc := 133) X dX1_init_133 rfl (k_put (pc := 136) X dX1_init_136 rfl (by decide) u_X1 m_1_109 tyX1_ok nmX1 rfl (k_vret (pc := 139) X hE dX1_init_139))))))))))))))))))))))))))))))))))))))))))))))))))))))))))))))))))
theorem dX5_init_0 : decode cX5_init 0 = .ok (.aload_n 0, 1) := by decide +kernel
theorem dX5_init_1 : decode cX5_init 1 = .ok (.invokespecial 3, 3) := by decide +kernel
theorem dX5_init_4 : decode cX5_init 4 = .ok (.aload_n 0, 1) := by decide +kernel
theorem dX5_init_5 : decode cX5_init 5 = .ok (.sipush 600, 3) := by decide +kernel
theorem dX5_init_8 : decode cX5_init 8 = .ok (.newarray .byte, 2) := by decide +kernel
theorem dX5_init_10 : decode cX5_init 10 = .ok (.putfield 9, 3) := by decide +kernel
theorem dX5_init_13 : decode cX5_init 13 = .ok (.aload_n 0, 1) := by decide +kernel
theorem dX5_init_14 : decode cX5_init 14 = .ok (.bipush 32, 2) := by decide +kernel
theorem dX5_init_16 : decode cX5_init 16 = .ok (.newarray .int, 2) := by decide +kernel
theorem dX5_init_18 : decode cX5_init 18 = .ok (.putfield 15, 3) := by decide +kernel
theorem dX5_init_21 : decode cX5_init 21 = .ok (.aload_n 0, 1) := by decide +kernel
theorem dX5_init_22 : decode cX5_init 22 = .ok (.sipush 600, 3) := by decide +kernel
theorem dX5_init_25 : decode cX5_init 25 = .ok (.newarray .long, 2) := by decide +kernel
theorem dX5_init_27 : decode cX5_init 27 = .ok (.putfield 19, 3) := by decide +kernel
theorem dX5_init_30 : decode cX5_init 30 = .ok (.return_, 1) := by decide +kernel
set_option maxRecDepth 100000 in
def B2_X5_init : pb_C2 := (c_aload 0 (c_obj (c_aload 0 (c_const (.int 600) (c_newa 2 600 3 1232 (c_putT (tyX5 0) 5 0 (c_aload 0 (c_const (.int 32) (c_newa 0 32 3 1232 (c_putT (tyX5 10) 5 10 (c_aload 0 (c_const (.int 600) (c_newa 3 600 3 1232 (c_putT (tyX5 12) 5 12 (c_vret 3 1232)))))))))))))))
def F2_X5_init : pb_F2 := fun av E => bif Nat.ble (pb_cat av) 1 then (B2_X5_init (pb_ini 1 av) [] E 0 0).map (·.1) else none
set_option maxRecDepth 100000 in
set_option maxHeartbeats 8000000 in
theorem S2_X5_init (l : Launch) : pb_Sound2 l yX5_init cX5_init 1 2 3 1232 F2_X5_init := by
  refine pb_sound2_of (by decide) rfl m_1_156 ?_
  intro Γ hl0 hRm0 hm X hE hini
  have hRc : 3 ≤ Γ.2.2.2.1.cells ∧ 1232 ≤ Γ.2.2.2.1.slots := by rw [hRm0]; exact ⟨Nat.le_refl _, Nat.le_refl _⟩
  have hRo : 1 ≤ Γ.2.2.2.1.frames ∧ 64 ≤ Γ.2.2.2.1.locals := by rw [hRm0]; exact ⟨by decide, by decide⟩
  have hR : ∀ (d' mL MC' MS' : Nat), d' + 1 ≤ 2 ∧ 8 + (mL + 11) + d' * 64 ≤ 2 * 64 → (pb_rm2 d' MC' MS').frames + 1 ≤ Γ.2.2.2.1.frames ∧ 8 + (mL + 11) + (pb_rm2 d' MC' MS').locals ≤ Γ.2.2.2.1.locals := by rw [hRm0]; exact fun _ _ _ _ h => h
  exact (k_aload_n (pc := 0) X dX5_init_0 rfl (k_obj (pc := 1) X dX5_init_1 m_1_157 m_objinit hRo (k_aload_n (pc := 4) X dX5_init_4 rfl (k_sipush (pc := 5) X dX5_init_5 rfl (k_newa (pc := 8) X dX5_init_8 (ty := .byte) rfl m_arr_byte (fun _ => rfl) (fun _ _ => Iff.rfl) (fun _ => rfl) (by decide) (by decide) hRc (k_putF (pc := 10) X hini dX5_init_10 rfl (by decide) u_X5 m_1_158 tyX5_ok nmX5 rfl rfl (k_aload_n (pc := 13) X dX5_init_13 rfl (k_bipush (pc := 14) X dX5_init_14 rfl (k_newa (pc := 16) X dX5_init_16 (ty := .int) rfl m_arr_int (fun _ => rfl) (fun _ _ => Iff.rfl) (fun _ => rfl) (by decide) (by decide) hRc (k_putF (pc := 18) X hini dX5_init_18 rfl (by decide) u_X5 m_1_169 tyX5_ok nmX5 rfl rfl (k_aload_n (pc := 21) X dX5_init_21 rfl (k_sipush (pc := 22) X dX5_init_22 rfl (k_newa (pc := 25) X dX5_init_25 (ty := .long) rfl m_arr_long (fun _ => rfl) (fun _ _ => Iff.rfl) (fun _ => rfl) (by decide) (by decide) hRc (k_putF (pc := 27) X hini dX5_init_27 rfl (by decide) u_X5 m_1_171 tyX5_ok nmX5 rfl rfl (k_vret (pc := 30) X hE dX5_init_30)))))))))))))))
theorem dX0_init_0 : decode cX0_init 0 = .ok (.aload_n 0, 1) := by decide +kernel
theorem dX0_init_1 : decode cX0_init 1 = .ok (.invokespecial 3, 3) := by decide +kernel
theorem dX0_init_4 : decode cX0_init 4 = .ok (.aload_n 0, 1) := by decide +kernel
theorem dX0_init_5 : decode cX0_init 5 = .ok (.sipush 3000, 3) := by decide +kernel
theorem dX0_init_8 : decode cX0_init 8 = .ok (.newarray .long, 2) := by decide +kernel
theorem dX0_init_10 : decode cX0_init 10 = .ok (.putfield 9, 3) := by decide +kernel
theorem dX0_init_13 : decode cX0_init 13 = .ok (.aload_n 0, 1) := by decide +kernel
theorem dX0_init_14 : decode cX0_init 14 = .ok (.iconst 5, 1) := by decide +kernel
theorem dX0_init_15 : decode cX0_init 15 = .ok (.newarray .int, 2) := by decide +kernel
theorem dX0_init_17 : decode cX0_init 17 = .ok (.putfield 15, 3) := by decide +kernel
theorem dX0_init_20 : decode cX0_init 20 = .ok (.aload_n 0, 1) := by decide +kernel
theorem dX0_init_21 : decode cX0_init 21 = .ok (.sipush 1000, 3) := by decide +kernel
theorem dX0_init_24 : decode cX0_init 24 = .ok (.newarray .int, 2) := by decide +kernel
theorem dX0_init_26 : decode cX0_init 26 = .ok (.putfield 19, 3) := by decide +kernel
theorem dX0_init_29 : decode cX0_init 29 = .ok (.aload_n 0, 1) := by decide +kernel
theorem dX0_init_30 : decode cX0_init 30 = .ok (.sipush 1000, 3) := by decide +kernel
theorem dX0_init_33 : decode cX0_init 33 = .ok (.newarray .int, 2) := by decide +kernel
theorem dX0_init_35 : decode cX0_init 35 = .ok (.putfield 22, 3) := by decide +kernel
theorem dX0_init_38 : decode cX0_init 38 = .ok (.aload_n 0, 1) := by decide +kernel
theorem dX0_init_39 : decode cX0_init 39 = .ok (.bipush 64, 2) := by decide +kernel
theorem dX0_init_41 : decode cX0_init 41 = .ok (.newarray .long, 2) := by decide +kernel
theorem dX0_init_43 : decode cX0_init 43 = .ok (.putfield 25, 3) := by decide +kernel
theorem dX0_init_46 : decode cX0_init 46 = .ok (.aload_n 0, 1) := by decide +kernel
theorem dX0_init_47 : decode cX0_init 47 = .ok (.aload_n 1, 1) := by decide +kernel
theorem dX0_init_48 : decode cX0_init 48 = .ok (.putfield 28, 3) := by decide +kernel
theorem dX0_init_51 : decode cX0_init 51 = .ok (.return_, 1) := by decide +kernel
set_option maxRecDepth 100000 in
def B2_X0_init : pb_C2 := (c_aload 0 (c_obj (c_aload 0 (c_const (.int 3000) (c_newa 3 3000 5 5069 (c_putT (tyX0 2) 0 2 (c_aload 0 (c_const (.int 5) (c_newa 0 5 5 5069 (c_putT (tyX0 3) 0 3 (c_aload 0 (c_const (.int 1000) (c_newa 0 1000 5 5069 (c_putT (tyX0 4) 0 4 (c_aload 0 (c_const (.int 1000) (c_newa 0 1000 5 5069 (c_putT (tyX0 5) 0 5 (c_aload 0 (c_const (.int 64) (c_newa 3 64 5 5069 (c_putT (tyX0 6) 0 6 (c_aload 0 (c_aload 1 (c_putT (tyX0 0) 0 0 (c_vret 5 5069))))))))))))))))))))))))))
def F2_X0_init : pb_F2 := fun av E => bif Nat.ble (pb_cat av) 2 then (B2_X0_init (pb_ini 2 av) [] E 0 0).map (·.1) else none
set_option maxRecDepth 100000 in
set_option maxHeartbeats 8000000 in
theorem S2_X0_init (l : Launch) : pb_Sound2 l yX0_init cX0_init 2 2 5 5069 F2_X0_init := by
  refine pb_sound2_of (by decide) rfl m_1_224 ?_
  intro Γ hl0 hRm0 hm X hE hini
  have hRc : 5 ≤ Γ.2.2.2.1.cells ∧ 5069 ≤ Γ.2.2.2.1.slots := by rw [hRm0]; exact ⟨Nat.le_refl _, Nat.le_refl _⟩
  have hRo : 1 ≤ Γ.2.2.2.1.frames ∧ 64 ≤ Γ.2.2.2.1.locals := by rw [hRm0]; exact ⟨by decide, by decide⟩
  have hR : ∀ (d' mL MC' MS' : Nat), d' + 1 ≤ 2 ∧ 8 + (mL + 11) + d' * 64 ≤ 2 * 64 → (pb_rm2 d' MC' MS').frames + 1 ≤ Γ.2.2.2.1.frames ∧ 8 + (mL + 11) + (pb_rm2 d' MC' MS').locals ≤ Γ.2.2.2.1.locals := by rw [hRm0]; exact fun _ _ _ _ h => h
  exact (k_aload_n (pc := 0) X dX0_init_0 rfl (k_obj (pc := 1) X dX0_init_1 m_1_225 m_objinit hRo (k_aload_n (pc := 4) X dX0_init_4 rfl (k_sipush (pc := 5) X dX0_init_5 rfl (k_newa (pc := 8) X dX0_init_8 (ty := .long) rfl m_arr_long (fun _ => rfl) (fun _ _ => Iff.rfl) (fun _ => rfl) (by decide) (by decide) hRc (k_putF (pc := 10) X hini dX0_init_10 rfl (by decide) u_X0 m_1_229 tyX0_ok nmX0 rfl rfl (k_aload_n (pc := 13) X dX0_init_13 rfl (k_iconst (pc := 14) X dX0_init_14 rfl (k_newa (pc := 15) X dX0_init_15 (ty := .int) rfl m_arr_int (fun _ => rfl) (fun _ _ => Iff.rfl) (fun _ => rfl) (by decide) (by decide) hRc (k_putF (pc := 17) X hini dX0_init_17 rfl (by decide) u_X0 m_1_230 tyX0_ok nmX0 rfl rfl (k_aload_n (pc := 20) X dX0_init_20 rfl (k_sipush (pc := 21) X dX0_init_21 rfl (k_newa (pc := 24) X dX0_init_24 (ty := .int) rfl m_arr_int (fun _ => rfl) (fun _ _ => Iff.rfl) (fun _ => rfl) (by decide) (by decide) hRc (k_putF (pc := 26) X hini dX0_init_26 rfl (by decide) u_X0 m_1_231 tyX0_ok nmX0 rfl rfl (k_aload_n (pc := 29) X dX0_init_29 rfl (k_sipush (pc := 30) X dX0_init_30 rfl (k_newa (pc := 33) X dX0_init_33 (ty := .int) rfl m_arr_int (fun _ => rfl) (fun _ _ => Iff.rfl) (fun _ => rfl) (by decide) (by decide) hRc (k_putF (pc := 35) X hini dX0_init_35 rfl (by decide) u_X0 m_1_232 tyX0_ok nmX0 rfl rfl (k_aload_n (pc := 38) X dX0_init_38 rfl (k_bipush (pc := 39) X dX0_init_39 rfl (k_newa (pc := 41) X dX0_init_41 (ty := .long) rfl m_arr_long (fun _ => rfl) (fun _ _ => Iff.rfl) (fun _ => rfl) (by decide) (by decide) hRc (k_putF (pc := 43) X hini dX0_init_43 rfl (by decide) u_X0 m_1_233 tyX0_ok nmX0 rfl rfl (k_aload_n (pc := 46) X dX0_init_46 rfl (k_aload_n (pc := 47) X dX0_init_47 rfl (k_putF (pc := 48) X hini dX0_init_48 rfl (by decide) u_X0 m_1_226 tyX0_ok nmX0 rfl rfl (k_vret (pc := 51) X hE dX0_init_51))))))))))))))))))))))))))
theorem dX6_init_0 : decode cX6_init 0 = .ok (.aload_n 0, 1) := by decide +kernel
theorem dX6_init_1 : decode cX6_init 1 = .ok (.invokespecial 3, 3) := by decide +kernel
theorem dX6_init_4 : decode cX6_init 4 = .ok (.aload_n 0, 1) := by decide +kernel
theorem dX6_init_5 : decode cX6_init 5 = .ok (.bipush 40, 2) := by decide +kernel
theorem dX6_init_7 : decode cX6_init 7 = .ok (.newarray .int, 2) := by decide +kernel
theorem dX6_init_9 : decode cX6_init 9 = .ok (.putfield 11, 3) := by decide +kernel
theorem dX6_init_12 : decode cX6_init 12 = .ok (.aload_n 0, 1) := by decide +kernel
theorem dX6_init_13 : decode cX6_init 13 = .ok (.bipush 40, 2) := by decide +kernel
theorem dX6_init_15 : decode cX6_init 15 = .ok (.newarray .int, 2) := by decide +kernel
theorem dX6_init_17 : decode cX6_init 17 = .ok (.putfield 15, 3) := by decide +kernel
theorem dX6_init_20 : decode cX6_init 20 = .ok (.aload_n 0, 1) := by decide +kernel
theorem dX6_init_21 : decode cX6_init 21 = .ok (.bipush 40, 2) := by decide +kernel
theorem dX6_init_23 : decode cX6_init 23 = .ok (.newarray .int, 2) := by decide +kernel
theorem dX6_init_25 : decode cX6_init 25 = .ok (.putfield 18, 3) := by decide +kernel
theorem dX6_init_28 : decode cX6_init 28 = .ok (.aload_n 0, 1) := by decide +kernel
theorem dX6_init_29 : decode cX6_init 29 = .ok (.bipush 9, 2) := by decide +kernel
theorem dX6_init_31 : decode cX6_init 31 = .ok (.newarray .int, 2) := by decide +kernel
theorem dX6_init_33 : decode cX6_init 33 = .ok (.putfield 21, 3) := by decide +kernel
theorem dX6_init_36 : decode cX6_init 36 = .ok (.aload_n 0, 1) := by decide +kernel
theorem dX6_init_37 : decode cX6_init 37 = .ok (.bipush 63, 2) := by decide +kernel
theorem dX6_init_39 : decode cX6_init 39 = .ok (.newarray .int, 2) := by decide +kernel
theorem dX6_init_41 : decode cX6_init 41 = .ok (.putfield 24, 3) := by decide +kernel
theorem dX6_init_44 : decode cX6_init 44 = .ok (.aload_n 0, 1) := by decide +kernel
theorem dX6_init_45 : decode cX6_init 45 = .ok (.bipush 9, 2) := by decide +kernel
theorem dX6_init_47 : decode cX6_init 47 = .ok (.newarray .int, 2) := by decide +kernel
theorem dX6_init_49 : decode cX6_init 49 = .ok (.putfield 27, 3) := by decide +kernel
theorem dX6_init_52 : decode cX6_init 52 = .ok (.aload_n 0, 1) := by decide +kernel
theorem dX6_init_53 : decode cX6_init 53 = .ok (.bipush 9, 2) := by decide +kernel
theorem dX6_init_55 : decode cX6_init 55 = .ok (.newarray .int, 2) := by decide +kernel
theorem dX6_init_57 : decode cX6_init 57 = .ok (.putfield 30, 3) := by decide +kernel
theorem dX6_init_60 : decode cX6_init 60 = .ok (.aload_n 0, 1) := by decide +kernel
theorem dX6_init_61 : decode cX6_init 61 = .ok (.aload_n 1, 1) := by decide +kernel
theorem dX6_init_62 : decode cX6_init 62 = .ok (.putfield 33, 3) := by decide +kernel
theorem dX6_init_65 : decode cX6_init 65 = .ok (.return_, 1) := by decide +kernel
set_option maxRecDepth 100000 in
def B2_X6_init : pb_C2 := (c_aload 0 (c_obj (c_aload 0 (c_const (.int 40) (c_newa 0 40 7 210 (c_putT (tyX6 2) 6 2 (c_aload 0 (c_const (.int 40) (c_newa 0 40 7 210 (c_putT (tyX6 3) 6 3 (c_aload 0 (c_const (.int 40) (c_newa 0 40 7 210 (c_putT (tyX6 4) 6 4 (c_aload 0 (c_const (.int 9) (c_newa 0 9 7 210 (c_putT (tyX6 6) 6 6 (c_aload 0 (c_const (.int 63) (c_newa 0 63 7 210 (c_putT (tyX6 7) 6 7 (c_aload 0 (c_const (.int 9) (c_newa 0 9 7 210 (c_putT (tyX6 8) 6 8 (c_aload 0 (c_const (.int 9) (c_newa 0 9 7 210 (c_putT (tyX6 9) 6 9 (c_aload 0 (c_aload 1 (c_putT (tyX6 0) 6 0 (c_vret 7 210))))))))))))))))))))))))))))))))))
def F2_X6_init : pb_F2 := fun av E => bif Nat.ble (pb_cat av) 2 then (B2_X6_init (pb_ini 2 av) [] E 0 0).map (·.1) else none
set_option maxRecDepth 100000 in
set_option maxHeartbeats 8000000 in
theorem S2_X6_init (l : Launch) : pb_Sound2 l yX6_init cX6_init 2 2 7 210 F2_X6_init := by
  refine pb_sound2_of (by decide) rfl m_2_16 ?_
  intro Γ hl0 hRm0 hm X hE hini
  have hRc : 7 ≤ Γ.2.2.2.1.cells ∧ 210 ≤ Γ.2.2.2.1.slots := by rw [hRm0]; exact ⟨Nat.le_refl _, Nat.le_refl _⟩
  have hRo : 1 ≤ Γ.2.2.2.1.frames ∧ 64 ≤ Γ.2.2.2.1.locals := by rw [hRm0]; exact ⟨by decide, by decide⟩
  have hR : ∀ (d' mL MC' MS' : Nat), d' + 1 ≤ 2 ∧ 8 + (mL + 11) + d' * 64 ≤ 2 * 64 → (pb_rm2 d' MC' MS').frames + 1 ≤ Γ.2.2.2.1.frames ∧ 8 + (mL + 11) + (pb_rm2 d' MC' MS').locals ≤ Γ.2.2.2.1.locals := by rw [hRm0]; exact fun _ _ _ _ h => h
  exact (k_aload_n (pc := 0) X dX6_init_0 rfl (k_obj (pc := 1) X dX6_init_1 m_2_17 m_objinit hRo (k_aload_n (pc := 4) X dX6_init_4 rfl (k_bipush (pc := 5) X dX6_init_5 rfl (k_newa (pc := 7) X dX6_init_7 (ty := .int) rfl m_arr_int (fun _ => rfl) (fun _ _ => Iff.rfl) (fun _ => rfl) (by decide) (by decide) hRc (k_putF (pc := 9) X hini dX6_init_9 rfl (by decide) u_X6 m_2_20 tyX6_ok nmX6 rfl rfl (k_aload_n (pc := 12) X dX6_init_12 rfl (k_bipush (pc := 13) X dX6_init_13 rfl (k_newa (pc := 15) X dX6_init_15 (ty := .int) rfl m_arr_int (fun _ => rfl) (fun _ _ => Iff.rfl) (fun _ => rfl) (by decide) (by decide) hRc (k_putF (pc := 17) X hini dX6_init_17 rfl (by decide) u_X6 m_2_21 tyX6_ok nmX6 rfl rfl (k_aload_n (pc := 20) X dX6_init_20 rfl (k_bipush (pc := 21) X dX6_init_21 rfl (k_newa (pc := 23) X dX6_init_23 (ty := .int) rfl m_arr_int (fun _ => rfl) (fun _ _ => Iff.rfl) (fun _ => rfl) (by decide) (by decide) hRc (k_putF (pc := 25) X hini dX6_init_25 rfl (by decide) u_X6 m_2_22 tyX6_ok nmX6 rfl rfl (k_aload_n (pc := 28) X dX6_init_28 rfl (k_bipush (pc := 29) X dX6_init_29 rfl (k_newa (pc := 31) X dX6_init_31 (ty := .int) rfl m_arr_int (fun _ => rfl) (fun _ _ => Iff.rfl) (fun _ => rfl) (by decide) (by decide) hRc (k_putF (pc := 33) X hini dX6_init_33 rfl (by decide) u_X6 m_2_24 tyX6_ok nmX6 rfl rfl (k_aload_n (pc := 36) X dX6_init_36 rfl (k_bipush (pc := 37) X dX6_init_37 rfl (k_newa (pc := 39) X dX6_init_39 (ty := .int) rfl m_arr_int (fun _ => rfl) (fun _ _ => Iff.rfl) (fun _ => rfl) (by decide) (by decide) hRc (k_putF (pc := 41) X hini dX6_init_41 rfl (by decide) u_X6 m_2_25 tyX6_ok nmX6 rfl rfl (k_aload_n (pc := 44) X dX6_init_44 rfl (k_bipush (pc := 45) X dX6_init_45 rfl (k_newa (pc := 47) X dX6_init_47 (ty := .int) rfl m_arr_int (fun _ => rfl) (fun _ _ => Iff.rfl) (fun _ => rfl) (by decide) (by decide) hRc (k_putF (pc := 49) X hini dX6_init_49 rfl (by decide) u_X6 m_2_26 tyX6_ok nmX6 rfl rfl (k_aload_n (pc := 52) X dX6_init_52 rfl (k_bipush (pc := 53) X dX6_init_53 rfl (k_newa (pc := 55) X dX6_init_55 (ty := .int) rfl m_arr_int (fun _ => rfl) (fun _ _ => Iff.rfl) (fun _ => rfl) (by decide) (by decide) hRc (k_putF (pc := 57) X hini dX6_init_57 rfl (by decide) u_X6 m_2_27 tyX6_ok nmX6 rfl rfl (k_aload_n (pc := 60) X dX6_init_60 rfl (k_aload_n (pc := 61) X dX6_init_61 rfl (k_putF (pc := 62) X hini dX6_init_62 rfl (by decide) u_X6 m_2_18 tyX6_ok nmX6 rfl rfl (k_vret (pc := 65) X hE dX6_init_65))))))))))))))))))))))))))))))))))
theorem dX7_init_0 : decode cX7_init 0 = .ok (.aload_n 0, 1) := by decide +kernel
theorem dX7_init_1 : decode cX7_init 1 = .ok (.invokespecial 5, 3) := by decide +kernel
theorem dX7_init_4 : decode cX7_init 4 = .ok (.aload_n 0, 1) := by decide +kernel
theorem dX7_init_5 : decode cX7_init 5 = .ok (.bipush 10, 2) := by decide +kernel
theorem dX7_init_7 : decode cX7_init 7 = .ok (.putfield 11, 3) := by decide +kernel
theorem dX7_init_10 : decode cX7_init 10 = .ok (.aload_n 0, 1) := by decide +kernel
theorem dX7_init_11 : decode cX7_init 11 = .ok (.bipush 16, 2) := by decide +kernel
theorem dX7_init_13 : decode cX7_init 13 = .ok (.newarray .int, 2) := by decide +kernel
theorem dX7_init_15 : decode cX7_init 15 = .ok (.putfield 15, 3) := by decide +kernel
theorem dX7_init_18 : decode cX7_init 18 = .ok (.aload_n 0, 1) := by decide +kernel
theorem dX7_init_19 : decode cX7_init 19 = .ok (.bipush 16, 2) := by decide +kernel
theorem dX7_init_21 : decode cX7_init 21 = .ok (.newarray .int, 2) := by decide +kernel
theorem dX7_init_23 : decode cX7_init 23 = .ok (.putfield 19, 3) := by decide +kernel
theorem dX7_init_26 : decode cX7_init 26 = .ok (.aload_n 0, 1) := by decide +kernel
theorem dX7_init_27 : decode cX7_init 27 = .ok (.bipush 16, 2) := by decide +kernel
theorem dX7_init_29 : decode cX7_init 29 = .ok (.newarray .int, 2) := by decide +kernel
theorem dX7_init_31 : decode cX7_init 31 = .ok (.putfield 22, 3) := by decide +kernel
theorem dX7_init_34 : decode cX7_init 34 = .ok (.aload_n 0, 1) := by decide +kernel
theorem dX7_init_35 : decode cX7_init 35 = .ok (.sipush 1936, 3) := by decide +kernel
theorem dX7_init_38 : decode cX7_init 38 = .ok (.newarray .int, 2) := by decide +kernel
theorem dX7_init_40 : decode cX7_init 40 = .ok (.putfield 25, 3) := by decide +kernel
theorem dX7_init_43 : decode cX7_init 43 = .ok (.aload_n 0, 1) := by decide +kernel
theorem dX7_init_44 : decode cX7_init 44 = .ok (.sipush 2001, 3) := by decide +kernel
theorem dX7_init_47 : decode cX7_init 47 = .ok (.newarray .long, 2) := by decide +kernel
theorem dX7_init_49 : decode cX7_init 49 = .ok (.putfield 28, 3) := by decide +kernel
theorem dX7_init_52 : decode cX7_init 52 = .ok (.aload_n 0, 1) := by decide +kernel
theorem dX7_init_53 : decode cX7_init 53 = .ok (.aload_n 1, 1) := by decide +kernel
theorem dX7_init_54 : decode cX7_init 54 = .ok (.putfield 32, 3) := by decide +kernel
theorem dX7_init_57 : decode cX7_init 57 = .ok (.aload_n 0, 1) := by decide +kernel
theorem dX7_init_58 : decode cX7_init 58 = .ok (.aload_n 2, 1) := by decide +kernel
theorem dX7_init_59 : decode cX7_init 59 = .ok (.putfield 36, 3) := by decide +kernel
theorem dX7_init_62 : decode cX7_init 62 = .ok (.return_, 1) := by decide +kernel
set_option maxRecDepth 100000 in
def B2_X7_init : pb_C2 := (c_aload 0 (c_obj (c_aload 0 (c_const (.int 10) (c_putT (tyX7 2) 7 2 (c_aload 0 (c_const (.int 16) (c_newa 0 16 5 3985 (c_putT (tyX7 3) 7 3 (c_aload 0 (c_const (.int 16) (c_newa 0 16 5 3985 (c_putT (tyX7 4) 7 4 (c_aload 0 (c_const (.int 16) (c_newa 0 16 5 3985 (c_putT (tyX7 5) 7 5 (c_aload 0 (c_const (.int 1936) (c_newa 0 1936 5 3985 (c_putT (tyX7 6) 7 6 (c_aload 0 (c_const (.int 2001) (c_newa 3 2001 5 3985 (c_putT (tyX7 7) 7 7 (c_aload 0 (c_aload 1 (c_putT (tyX7 0) 7 0 (c_aload 0 (c_aload 2 (c_putT (tyX7 1) 7 1 (c_vret 5 3985))))))))))))))))))))))))))))))))
def F2_X7_init : pb_F2 := fun av E => bif Nat.ble (pb_cat av) 3 then (B2_X7_init (pb_ini 3 av) [] E 0 0).map (·.1) else none
set_option maxRecDepth 100000 in
set_option maxHeartbeats 8000000 in
theorem S2_X7_init (l : Launch) : pb_Sound2 l yX7_init cX7_init 3 2 5 3985 F2_X7_init := by
  refine pb_sound2_of (by decide) rfl m_2_65 ?_
  intro Γ hl0 hRm0 hm X hE hini
  have hRc : 5 ≤ Γ.2.2.2.1.cells ∧ 3985 ≤ Γ.2.2.2.1.slots := by rw [hRm0]; exact ⟨Nat.le_refl _, Nat.le_refl _⟩
  have hRo : 1 ≤ Γ.2.2.2.1.frames ∧ 64 ≤ Γ.2.2.2.1.locals := by rw [hRm0]; exact ⟨by decide, by decide⟩
  have hR : ∀ (d' mL MC' MS' : Nat), d' + 1 ≤ 2 ∧ 8 + (mL + 11) + d' * 64 ≤ 2 * 64 → (pb_rm2 d' MC' MS').frames + 1 ≤ Γ.2.2.2.1.frames ∧ 8 + (mL + 11) + (pb_rm2 d' MC' MS').locals ≤ Γ.2.2.2.1.locals := by rw [hRm0]; exact fun _ _ _ _ h => h
  exact (k_aload_n (pc := 0) X dX7_init_0 rfl (k_obj (pc := 1) X dX7_init_1 m_2_66 m_objinit hRo (k_aload_n (pc := 4) X dX7_init_4 rfl (k_bipush (pc := 5) X dX7_init_5 rfl (k_put (pc := 7) X dX7_init_7 rfl (by decide) u_X7 m_2_69 tyX7_ok nmX7 rfl (k_aload_n (pc := 10) X dX7_init_10 rfl (k_bipush (pc := 11) X dX7_init_11 rfl (k_newa (pc := 13) X dX7_init_13 (ty := .int) rfl m_arr_int (fun _ => rfl) (fun _ _ => Iff.rfl) (fun _ => rfl) (by decide) (by decide) hRc (k_putF (pc := 15) X hini dX7_init_15 rfl (by decide) u_X7 m_2_71 tyX7_ok nmX7 rfl rfl (k_aload_n (pc := 18) X dX7_init_18 rfl (k_bipush (pc := 19) X dX7_init_19 rfl (k_newa (pc := 21) X dX7_init_21 (ty := .int) rfl m_arr_int (fun _ => rfl) (fun _ _ => Iff.rfl) (fun _ => rfl) (by decide) (by decide) hRc (k_putF (pc := 23) X hini dX7_init_23 rfl (by decide) u_X7 m_2_72 tyX7_ok nmX7 rfl rfl (k_aload_n (pc := 26) X dX7_init_26 rfl (k_bipush (pc := 27) X dX7_init_27 rfl (k_newa (pc := 29) X dX7_init_29 (ty := .int) rfl m_arr_int (fun _ => rfl) (fun _ _ => Iff.rfl) (fun _ => rfl) (by decide) (by decide) hRc (k_putF (pc := 31) X hini dX7_init_31 rfl (by decide) u_X7 m_2_73 tyX7_ok nmX7 rfl rfl (k_aload_n (pc := 34) X dX7_init_34 rfl (k_sipush (pc := 35) X dX7_init_35 rfl (k_newa (pc := 38) X dX7_init_38 (ty := .int) rfl m_arr_int (fun _ => rfl) (fun _ _ => Iff.rfl) (fun _ => rfl) (by decide) (by decide) hRc (k_putF (pc := 40) X hini dX7_init_40 rfl (by decide) u_X7 m_2_74 tyX7_ok nmX7 rfl rfl (k_aload_n (pc := 43) X dX7_init_43 rfl (k_sipush (pc := 44) X dX7_init_44 rfl (k_newa (pc := 47) X dX7_init_47 (ty := .long) rfl m_arr_long (fun _ => rfl) (fun _ _ => Iff.rfl) (fun _ => rfl) (by decide) (by decide) hRc (k_putF (pc := 49) X hini dX7_init_49 rfl (by decide) u_X7 m_2_75 tyX7_ok nmX7 rfl rfl (k_aload_n (pc := 52) X dX7_init_52 rfl (k_aload_n (pc := 53) X dX7_init_53 rfl (k_putF (pc := 54) X hini dX7_init_54 rfl (by decide) u_X7 m_2_67 tyX7_ok nmX7 rfl rfl (k_aload_n (pc := 57) X dX7_init_57 rfl (k_aload_n (pc := 58) X dX7_init_58 rfl (k_putF (pc := 59) X hini dX7_init_59 rfl (by decide) u_X7 m_2_68 tyX7_ok nmX7 rfl rfl (k_vret (pc := 62) X hE dX7_init_62))))))))))))))))))))))))))))))))
theorem dX3_init_0 : decode cX3_init 0 = .ok (.aload_n 0, 1) := by decide +kernel
theorem dX3_init_1 : decode cX3_init 1 = .ok (.invokespecial 3, 3) := by decide +kernel
theorem dX3_init_4 : decode cX3_init 4 = .ok (.aload_n 0, 1) := by decide +kernel
theorem dX3_init_5 : decode cX3_init 5 = .ok (.bipush 40, 2) := by decide +kernel
theorem dX3_init_7 : decode cX3_init 7 = .ok (.newarray .int, 2) := by decide +kernel
theorem dX3_init_9 : decode cX3_init 9 = .ok (.putfield 11, 3) := by decide +kernel
theorem dX3_init_12 : decode cX3_init 12 = .ok (.aload_n 0, 1) := by decide +kernel
theorem dX3_init_13 : decode cX3_init 13 = .ok (.bipush 40, 2) := by decide +kernel
theorem dX3_init_15 : decode cX3_init 15 = .ok (.newarray .int, 2) := by decide +kernel
theorem dX3_init_17 : decode cX3_init 17 = .ok (.putfield 15, 3) := by decide +kernel
theorem dX3_init_20 : decode cX3_init 20 = .ok (.aload_n 0, 1) := by decide +kernel
theorem dX3_init_21 : decode cX3_init 21 = .ok (.bipush 40, 2) := by decide +kernel
theorem dX3_init_23 : decode cX3_init 23 = .ok (.newarray .int, 2) := by decide +kernel
theorem dX3_init_25 : decode cX3_init 25 = .ok (.putfield 18, 3) := by decide +kernel
theorem dX3_init_28 : decode cX3_init 28 = .ok (.aload_n 0, 1) := by decide +kernel
theorem dX3_init_29 : decode cX3_init 29 = .ok (.bipush 40, 2) := by decide +kernel
theorem dX3_init_31 : decode cX3_init 31 = .ok (.newarray .int, 2) := by decide +kernel
theorem dX3_init_33 : decode cX3_init 33 = .ok (.putfield 21, 3) := by decide +kernel
theorem dX3_init_36 : decode cX3_init 36 = .ok (.aload_n 0, 1) := by decide +kernel
theorem dX3_init_37 : decode cX3_init 37 = .ok (.iconst 4, 1) := by decide +kernel
theorem dX3_init_38 : decode cX3_init 38 = .ok (.newarray .int, 2) := by decide +kernel
theorem dX3_init_40 : decode cX3_init 40 = .ok (.dup, 1) := by decide +kernel
theorem dX3_init_41 : decode cX3_init 41 = .ok (.iconst 0, 1) := by decide +kernel
theorem dX3_init_42 : decode cX3_init 42 = .ok (.bipush 30, 2) := by decide +kernel
theorem dX3_init_44 : decode cX3_init 44 = .ok (.iastore, 1) := by decide +kernel
theorem dX3_init_45 : decode cX3_init 45 = .ok (.dup, 1) := by decide +kernel
theorem dX3_init_46 : decode cX3_init 46 = .ok (.iconst 1, 1) := by decide +kernel
theorem dX3_init_47 : decode cX3_init 47 = .ok (.bipush 50, 2) := by decide +kernel
theorem dX3_init_49 : decode cX3_init 49 = .ok (.iastore, 1) := by decide +kernel
theorem dX3_init_50 : decode cX3_init 50 = .ok (.dup, 1) := by decide +kernel
theorem dX3_init_51 : decode cX3_init 51 = .ok (.iconst 2, 1) := by decide +kernel
theorem dX3_init_52 : decode cX3_init 52 = .ok (.bipush 70, 2) := by decide +kernel
theorem dX3_init_54 : decode cX3_init 54 = .ok (.iastore, 1) := by decide +kernel
theorem dX3_init_55 : decode cX3_init 55 = .ok (.dup, 1) := by decide +kernel
theorem dX3_init_56 : decode cX3_init 56 = .ok (.iconst 3, 1) := by decide +kernel
theorem dX3_init_57 : decode cX3_init 57 = .ok (.bipush 100, 2) := by decide +kernel
theorem dX3_init_59 : decode cX3_init 59 = .ok (.iastore, 1) := by decide +kernel
theorem dX3_init_60 : decode cX3_init 60 = .ok (.putfield 24, 3) := by decide +kernel
theorem dX3_init_63 : decode cX3_init 63 = .ok (.return_, 1) := by decide +kernel
set_option maxRecDepth 100000 in
def B2_X3_init : pb_C2 := (c_aload 0 (c_obj (c_aload 0 (c_const (.int 40) (c_newa 0 40 5 164 (c_putT (tyX3 1) 3 1 (c_aload 0 (c_const (.int 40) (c_newa 0 40 5 164 (c_putT (tyX3 2) 3 2 (c_aload 0 (c_const (.int 40) (c_newa 0 40 5 164 (c_putT (tyX3 3) 3 3 (c_aload 0 (c_const (.int 40) (c_newa 0 40 5 164 (c_putT (tyX3 4) 3 4 (c_aload 0 (c_const (.int 4) (c_newa 0 4 5 164 (c_dup (c_const (.int 0) (c_const (.int 30) (c_ast (c_dup (c_const (.int 1) (c_const (.int 50) (c_ast (c_dup (c_const (.int 2) (c_const (.int 70) (c_ast (c_dup (c_const (.int 3) (c_const (.int 100) (c_ast (c_putT (tyX3 5) 3 5 (c_vret 5 164)))))))))))))))))))))))))))))))))))))))
def F2_X3_init : pb_F2 := fun av E => bif Nat.ble (pb_cat av) 1 then (B2_X3_init (pb_ini 1 av) [] E 0 0).map (·.1) else none
set_option maxRecDepth 100000 in
set_option maxHeartbeats 8000000 in
theorem S2_X3_init (l : Launch) : pb_Sound2 l yX3_init cX3_init 1 2 5 164 F2_X3_init := by
  refine pb_sound2_of (by decide) rfl m_2_105 ?_
  intro Γ hl0 hRm0 hm X hE hini
  have hRc : 5 ≤ Γ.2.2.2.1.cells ∧ 164 ≤ Γ.2.2.2.1.slots := by rw [hRm0]; exact ⟨Nat.le_refl _, Nat.le_refl _⟩
  have hRo : 1 ≤ Γ.2.2.2.1.frames ∧ 64 ≤ Γ.2.2.2.1.locals := by rw [hRm0]; exact ⟨by decide, by decide⟩
  have hR : ∀ (d' mL MC' MS' : Nat), d' + 1 ≤ 2 ∧ 8 + (mL + 11) + d' * 64 ≤ 2 * 64 → (pb_rm2 d' MC' MS').frames + 1 ≤ Γ.2.2.2.1.frames ∧ 8 + (mL + 11) + (pb_rm2 d' MC' MS').locals ≤ Γ.2.2.2.1.locals := by rw [hRm0]; exact fun _ _ _ _ h => h
  exact (k_aload_n (pc := 0) X dX3_init_0 rfl (k_obj (pc := 1) X dX3_init_1 m_2_106 m_objinit hRo (k_aload_n (pc := 4) X dX3_init_4 rfl (k_bipush (pc := 5) X dX3_init_5 rfl (k_newa (pc := 7) X dX3_init_7 (ty := .int) rfl m_arr_int (fun _ => rfl) (fun _ _ => Iff.rfl) (fun _ => rfl) (by decide) (by decide) hRc (k_putF (pc := 9) X hini dX3_init_9 rfl (by decide) u_X3 m_2_109 tyX3_ok nmX3 rfl rfl (k_aload_n (pc := 12) X dX3_init_12 rfl (k_bipush (pc := 13) X dX3_init_13 rfl (k_newa (pc := 15) X dX3_init_15 (ty := .int) rfl m_arr_int (fun _ => rfl) (fun _ _ => Iff.rfl) (fun _ => rfl) (by decide) (by decide) hRc (k_putF (pc := 17) X hini dX3_init_17 rfl (by decide) u_X3 m_2_110 tyX3_ok nmX3 rfl rfl (k_aload_n (pc := 20) X dX3_init_20 rfl (k_bipush (pc := 21) X dX3_init_21 rfl (k_newa (pc := 23) X dX3_init_23 (ty := .int) rfl m_arr_int (fun _ => rfl) (fun _ _ => Iff.rfl) (fun _ => rfl) (by decide) (by decide) hRc (k_putF (pc := 25) X hini dX3_init_25 rfl (by decide) u_X3 m_2_111 tyX3_ok nmX3 rfl rfl (k_aload_n (pc := 28) X dX3_init_28 rfl (k_bipush (pc := 29) X dX3_init_29 rfl (k_newa (pc := 31) X dX3_init_31 (ty := .int) rfl m_arr_int (fun _ => rfl) (fun _ _ => Iff.rfl) (fun _ => rfl) (by decide) (by decide) hRc (k_putF (pc := 33) X hini dX3_init_33 rfl (by decide) u_X3 m_2_112 tyX3_ok nmX3 rfl rfl (k_aload_n (pc := 36) X dX3_init_36 rfl (k_iconst (pc := 37) X dX3_init_37 rfl (k_newa (pc := 38) X dX3_init_38 (ty := .int) rfl m_arr_int (fun _ => rfl) (fun _ _ => Iff.rfl) (fun _ => rfl) (by decide) (by decide) hRc (k_dup (pc := 40) X dX3_init_40 (k_iconst (pc := 41) X dX3_init_41 rfl (k_bipush (pc := 42) X dX3_init_42 rfl (k_ast (pc := 44) X dX3_init_44 (k_dup (pc := 45) X dX3_init_45 (k_iconst (pc := 46) X dX3_init_46 rfl (k_bipush (pc := 47) X dX3_init_47 rfl (k_ast (pc := 49) X dX3_init_49 (k_dup (pc := 50) X dX3_init_50 (k_iconst (pc := 51) X dX3_init_51 rfl (k_bipush (pc := 52) X dX3_init_52 rfl (k_ast (pc := 54) X dX3_init_54 (k_dup (pc := 55) X dX3_init_55 (k_iconst (pc := 56) X dX3_init_56 rfl (k_bipush (pc := 57) X dX3_init_57 rfl (k_ast (pc := 59) X dX3_init_59 (k_putF (pc := 60) X hini dX3_init_60 rfl (by decide) u_X3 m_2_113 tyX3_ok nmX3 rfl rfl (k_vret (pc := 63) X hE dX3_init_63)))))))))))))))))))))))))))))))))))))))
theorem dX4_init_0 : decode cX4_init 0 = .ok (.aload_n 0, 1) := by decide +kernel
theorem dX4_init_1 : decode cX4_init 1 = .ok (.invokespecial 3, 3) := by decide +kernel
theorem dX4_init_4 : decode cX4_init 4 = .ok (.aload_n 0, 1) := by decide +kernel
theorem dX4_init_5 : decode cX4_init 5 = .ok (.iconst 3, 1) := by decide +kernel
theorem dX4_init_6 : decode cX4_init 6 = .ok (.putfield 9, 3) := by decide +kernel
theorem dX4_init_9 : decode cX4_init 9 = .ok (.aload_n 0, 1) := by decide +kernel
theorem dX4_init_10 : decode cX4_init 10 = .ok (.sipush 200, 3) := by decide +kernel
theorem dX4_init_13 : decode cX4_init 13 = .ok (.newarray .int, 2) := by decide +kernel
theorem dX4_init_15 : decode cX4_init 15 = .ok (.putfield 15, 3) := by decide +kernel
theorem dX4_init_18 : decode cX4_init 18 = .ok (.aload_n 0, 1) := by decide +kernel
theorem dX4_init_19 : decode cX4_init 19 = .ok (.sipush 200, 3) := by decide +kernel
theorem dX4_init_22 : decode cX4_init 22 = .ok (.newarray .int, 2) := by decide +kernel
theorem dX4_init_24 : decode cX4_init 24 = .ok (.putfield 19, 3) := by decide +kernel
theorem dX4_init_27 : decode cX4_init 27 = .ok (.aload_n 0, 1) := by decide +kernel
theorem dX4_init_28 : decode cX4_init 28 = .ok (.aload_n 1, 1) := by decide +kernel
theorem dX4_init_29 : decode cX4_init 29 = .ok (.putfield 22, 3) := by decide +kernel
theorem dX4_init_32 : decode cX4_init 32 = .ok (.aload_n 0, 1) := by decide +kernel
theorem dX4_init_33 : decode cX4_init 33 = .ok (.aload_n 2, 1) := by decide +kernel
theorem dX4_init_34 : decode cX4_init 34 = .ok (.putfield 26, 3) := by decide +kernel
theorem dX4_init_37 : decode cX4_init 37 = .ok (.return_, 1) := by decide +kernel
set_option maxRecDepth 100000 in
def B2_X4_init : pb_C2 := (c_aload 0 (c_obj (c_aload 0 (c_const (.int 3) (c_putT (tyX4 2) 4 2 (c_aload 0 (c_const (.int 200) (c_newa 0 200 2 400 (c_putT (tyX4 4) 4 4 (c_aload 0 (c_const (.int 200) (c_newa 0 200 2 400 (c_putT (tyX4 5) 4 5 (c_aload 0 (c_aload 1 (c_putT (tyX4 0) 4 0 (c_aload 0 (c_aload 2 (c_putT (tyX4 1) 4 1 (c_vret 2 400))))))))))))))))))))
def F2_X4_init : pb_F2 := fun av E => bif Nat.ble (pb_cat av) 3 then (B2_X4_init (pb_ini 3 av) [] E 0 0).map (·.1) else none
set_option maxRecDepth 100000 in
set_option maxHeartbeats 8000000 in
theorem S2_X4_init (l : Launch) : pb_Sound2 l yX4_init cX4_init 3 2 2 400 F2_X4_init := by
  refine pb_sound2_of (by decide) rfl m_2_131 ?_
  intro Γ hl0 hRm0 hm X hE hini
  have hRc : 2 ≤ Γ.2.2.2.1.cells ∧ 400 ≤ Γ.2.2.2.1.slots := by rw [hRm0]; exact ⟨Nat.le_refl _, Nat.le_refl _⟩
  have hRo : 1 ≤ Γ.2.2.2.1.frames ∧ 64 ≤ Γ.2.2.2.1.locals := by rw [hRm0]; exact ⟨by decide, by decide⟩
  have hR : ∀ (d' mL MC' MS' : Nat), d' + 1 ≤ 2 ∧ 8 + (mL + 11) + d' * 64 ≤ 2 * 64 → (pb_rm2 d' MC' MS').frames + 1 ≤ Γ.2.2.2.1.frames ∧ 8 + (mL + 11) + (pb_rm2 d' MC' MS').locals ≤ Γ.2.2.2.1.locals := by rw [hRm0]; exact fun _ _ _ _ h => h
  exact (k_aload_n (pc := 0) X dX4_init_0 rfl (k_obj (pc := 1) X dX4_init_1 m_2_132 m_objinit hRo (k_aload_n (pc := 4) X dX4_init_4 rfl (k_iconst (pc := 5) X dX4_init_5 rfl (k_put (pc := 6) X dX4_init_6 rfl (by decide) u_X4 m_2_135 tyX4_ok nmX4 rfl (k_aload_n (pc := 9) X dX4_init_9 rfl (k_sipush (pc := 10) X dX4_init_10 rfl (k_newa (pc := 13) X dX4_init_13 (ty := .int) rfl m_arr_int (fun _ => rfl) (fun _ _ => Iff.rfl) (fun _ => rfl) (by decide) (by decide) hRc (k_putF (pc := 15) X hini dX4_init_15 rfl (by decide) u_X4 m_2_138 tyX4_ok nmX4 rfl rfl (k_aload_n (pc := 18) X dX4_init_18 rfl (k_sipush (pc := 19) X dX4_init_19 rfl (k_newa (pc := 22) X dX4_init_22 (ty := .int) rfl m_arr_int (fun _ => rfl) (fun _ _ => Iff.rfl) (fun _ => rfl) (by decide) (by decide) hRc (k_putF (pc := 24) X hini dX4_init_24 rfl (by decide) u_X4 m_2_140 tyX4_ok nmX4 rfl rfl (k_aload_n (pc := 27) X dX4_init_27 rfl (k_aload_n (pc := 28) X dX4_init_28 rfl (k_putF (pc := 29) X hini dX4_init_29 rfl (by decide) u_X4 m_2_133 tyX4_ok nmX4 rfl rfl (k_aload_n (pc := 32) X dX4_init_32 rfl (k_aload_n (pc := 33) X dX4_init_33 rfl (k_putF (pc := 34) X hini dX4_init_34 rfl (by decide) u_X4 m_2_134 tyX4_ok nmX4 rfl rfl (k_vret (pc := 37) X hE dX4_init_37))))))))))))))))))))
theorem dX9_init_0 : decode cX9_init 0 = .ok (.aload_n 0, 1) := by decide +kernel
theorem dX9_init_1 : decode cX9_init 1 = .ok (.invokespecial 3, 3) := by decide +kernel
theorem dX9_init_4 : decode cX9_init 4 = .ok (.aload_n 0, 1) := by decide +kernel
theorem dX9_init_5 : decode cX9_init 5 = .ok (.bipush 8, 2) := by decide +kernel
theorem dX9_init_7 : decode cX9_init 7 = .ok (.newarray .int, 2) := by decide +kernel
theorem dX9_init_9 : decode cX9_init 9 = .ok (.putfield 9, 3) := by decide +kernel
theorem dX9_init_12 : decode cX9_init 12 = .ok (.aload_n 0, 1) := by decide +kernel
theorem dX9_init_13 : decode cX9_init 13 = .ok (.sipush 520, 3) := by decide +kernel
theorem dX9_init_16 : decode cX9_init 16 = .ok (.newarray .int, 2) := by decide +kernel
theorem dX9_init_18 : decode cX9_init 18 = .ok (.putfield 15, 3) := by decide +kernel
theorem dX9_init_21 : decode cX9_init 21 = .ok (.aload_n 0, 1) := by decide +kernel
theorem dX9_init_22 : decode cX9_init 22 = .ok (.aload_n 1, 1) := by decide +kernel
theorem dX9_init_23 : decode cX9_init 23 = .ok (.putfield 18, 3) := by decide +kernel
theorem dX9_init_26 : decode cX9_init 26 = .ok (.return_, 1) := by decide +kernel
set_option maxRecDepth 100000 in
def B2_X9_init : pb_C2 := (c_aload 0 (c_obj (c_aload 0 (c_const (.int 8) (c_newa 0 8 2 528 (c_putT (tyX9 1) 9 1 (c_aload 0 (c_const (.int 520) (c_newa 0 520 2 528 (c_putT (tyX9 2) 9 2 (c_aload 0 (c_aload 1 (c_putT (tyX9 0) 9 0 (c_vret 2 528))))))))))))))
def F2_X9_init : pb_F2 := fun av E => bif Nat.ble (pb_cat av) 2 then (B2_X9_init (pb_ini 2 av) [] E 0 0).map (·.1) else none
set_option maxRecDepth 100000 in
set_option maxHeartbeats 8000000 in
theorem S2_X9_init (l : Launch) : pb_Sound2 l yX9_init cX9_init 2 2 2 528 F2_X9_init := by
  refine pb_sound2_of (by decide) rfl m_2_159 ?_
  intro Γ hl0 hRm0 hm X hE hini
  have hRc : 2 ≤ Γ.2.2.2.1.cells ∧ 528 ≤ Γ.2.2.2.1.slots := by rw [hRm0]; exact ⟨Nat.le_refl _, Nat.le_refl _⟩
  have hRo : 1 ≤ Γ.2.2.2.1.frames ∧ 64 ≤ Γ.2.2.2.1.locals := by rw [hRm0]; exact ⟨by decide, by decide⟩
  have hR : ∀ (d' mL MC' MS' : Nat), d' + 1 ≤ 2 ∧ 8 + (mL + 11) + d' * 64 ≤ 2 * 64 → (pb_rm2 d' MC' MS').frames + 1 ≤ Γ.2.2.2.1.frames ∧ 8 + (mL + 11) + (pb_rm2 d' MC' MS').locals ≤ Γ.2.2.2.1.locals := by rw [hRm0]; exact fun _ _ _ _ h => h
  exact (k_aload_n (pc := 0) X dX9_init_0 rfl (k_obj (pc := 1) X dX9_init_1 m_2_160 m_objinit hRo (k_aload_n (pc := 4) X dX9_init_4 rfl (k_bipush (pc := 5) X dX9_init_5 rfl (k_newa (pc := 7) X dX9_init_7 (ty := .int) rfl m_arr_int (fun _ => rfl) (fun _ _ => Iff.rfl) (fun _ => rfl) (by decide) (by decide) hRc (k_putF (pc := 9) X hini dX9_init_9 rfl (by decide) u_X9 m_2_162 tyX9_ok nmX9 rfl rfl (k_aload_n (pc := 12) X dX9_init_12 rfl (k_sipush (pc := 13) X dX9_init_13 rfl (k_newa (pc := 16) X dX9_init_16 (ty := .int) rfl m_arr_int (fun _ => rfl) (fun _ _ => Iff.rfl) (fun _ => rfl) (by decide) (by decide) hRc (k_putF (pc := 18) X hini dX9_init_18 rfl (by decide) u_X9 m_2_163 tyX9_ok nmX9 rfl rfl (k_aload_n (pc := 21) X dX9_init_21 rfl (k_aload_n (pc := 22) X dX9_init_22 rfl (k_putF (pc := 23) X hini dX9_init_23 rfl (by decide) u_X9 m_2_161 tyX9_ok nmX9 rfl rfl (k_vret (pc := 26) X hE dX9_init_26))))))))))))))
theorem dX10_init_0 : decode cX10_init 0 = .ok (.aload_n 0, 1) := by decide +kernel
theorem dX10_init_1 : decode cX10_init 1 = .ok (.invokespecial 1, 3) := by decide +kernel
theorem dX10_init_4 : decode cX10_init 4 = .ok (.aload_n 0, 1) := by decide +kernel
theorem dX10_init_5 : decode cX10_init 5 = .ok (.bipush 8, 2) := by decide +kernel
theorem dX10_init_7 : decode cX10_init 7 = .ok (.newarray .int, 2) := by decide +kernel
theorem dX10_init_9 : decode cX10_init 9 = .ok (.putfield 9, 3) := by decide +kernel
theorem dX10_init_12 : decode cX10_init 12 = .ok (.aload_n 0, 1) := by decide +kernel
theorem dX10_init_13 : decode cX10_init 13 = .ok (.bipush 8, 2) := by decide +kernel
theorem dX10_init_15 : decode cX10_init 15 = .ok (.newarray .int, 2) := by decide +kernel
theorem dX10_init_17 : decode cX10_init 17 = .ok (.putfield 13, 3) := by decide +kernel
theorem dX10_init_20 : decode cX10_init 20 = .ok (.aload_n 0, 1) := by decide +kernel
theorem dX10_init_21 : decode cX10_init 21 = .ok (.bipush 16, 2) := by decide +kernel
theorem dX10_init_23 : decode cX10_init 23 = .ok (.newarray .int, 2) := by decide +kernel
theorem dX10_init_25 : decode cX10_init 25 = .ok (.putfield 16, 3) := by decide +kernel
theorem dX10_init_28 : decode cX10_init 28 = .ok (.aload_n 0, 1) := by decide +kernel
theorem dX10_init_29 : decode cX10_init 29 = .ok (.aload_n 1, 1) := by decide +kernel
theorem dX10_init_30 : decode cX10_init 30 = .ok (.putfield 19, 3) := by decide +kernel
theorem dX10_init_33 : decode cX10_init 33 = .ok (.return_, 1) := by decide +kernel
set_option maxRecDepth 100000 in
def B2_X10_init : pb_C2 := (c_aload 0 (c_obj (c_aload 0 (c_const (.int 8) (c_newa 0 8 3 32 (c_putT (tyX10 2) 10 2 (c_aload 0 (c_const (.int 8) (c_newa 0 8 3 32 (c_putT (tyX10 3) 10 3 (c_aload 0 (c_const (.int 16) (c_newa 0 16 3 32 (c_putT (tyX10 4) 10 4 (c_aload 0 (c_aload 1 (c_putT (tyX10 0) 10 0 (c_vret 3 32))))))))))))))))))
def F2_X10_init : pb_F2 := fun av E => bif Nat.ble (pb_cat av) 2 then (B2_X10_init (pb_ini 2 av) [] E 0 0).map (·.1) else none
set_option maxRecDepth 100000 in
set_option maxHeartbeats 8000000 in
theorem S2_X10_init (l : Launch) : pb_Sound2 l yX10_init cX10_init 2 2 3 32 F2_X10_init := by
  refine pb_sound2_of (by decide) rfl m_2_189 ?_
  intro Γ hl0 hRm0 hm X hE hini
  have hRc : 3 ≤ Γ.2.2.2.1.cells ∧ 32 ≤ Γ.2.2.2.1.slots := by rw [hRm0]; exact ⟨Nat.le_refl _, Nat.le_refl _⟩
  have hRo : 1 ≤ Γ.2.2.2.1.frames ∧ 64 ≤ Γ.2.2.2.1.locals := by rw [hRm0]; exact ⟨by decide, by decide⟩
  have hR : ∀ (d' mL MC' MS' : Nat), d' + 1 ≤ 2 ∧ 8 + (mL + 11) + d' * 64 ≤ 2 * 64 → (pb_rm2 d' MC' MS').frames + 1 ≤ Γ.2.2.2.1.frames ∧ 8 + (mL + 11) + (pb_rm2 d' MC' MS').locals ≤ Γ.2.2.2.1.locals := by rw [hRm0]; exact fun _ _ _ _ h => h
  exact (k_aload_n (pc := 0) X dX10_init_0 rfl (k_obj (pc := 1) X dX10_init_1 m_2_190 m_objinit hRo (k_aload_n (pc := 4) X dX10_init_4 rfl (k_bipush (pc := 5) X dX10_init_5 rfl (k_newa (pc := 7) X dX10_init_7 (ty := .int) rfl m_arr_int (fun _ => rfl) (fun _ _ => Iff.rfl) (fun _ => rfl) (by decide) (by decide) hRc (k_putF (pc := 9) X hini dX10_init_9 rfl (by decide) u_X10 m_2_194 tyX10_ok nmX10 rfl rfl (k_aload_n (pc := 12) X dX10_init_12 rfl (k_bipush (pc := 13) X dX10_init_13 rfl (k_newa (pc := 15) X dX10_init_15 (ty := .int) rfl m_arr_int (fun _ => rfl) (fun _ _ => Iff.rfl) (fun _ => rfl) (by decide) (by decide) hRc (k_putF (pc := 17) X hini dX10_init_17 rfl (by decide) u_X10 m_2_196 tyX10_ok nmX10 rfl rfl (k_aload_n (pc := 20) X dX10_init_20 rfl (k_bipush (pc := 21) X dX10_init_21 rfl (k_newa (pc := 23) X dX10_init_23 (ty := .int) rfl m_arr_int (fun _ => rfl) (fun _ _ => Iff.rfl) (fun _ => rfl) (by decide) (by decide) hRc (k_putF (pc := 25) X hini dX10_init_25 rfl (by decide) u_X10 m_2_197 tyX10_ok nmX10 rfl rfl (k_aload_n (pc := 28) X dX10_init_28 rfl (k_aload_n (pc := 29) X dX10_init_29 rfl (k_putF (pc := 30) X hini dX10_init_30 rfl (by decide) u_X10 m_2_191 tyX10_ok nmX10 rfl rfl (k_vret (pc := 33) X hE dX10_init_33))))))))))))))))))
theorem dX2_init_0 : decode cX2_init 0 = .ok (.aload_n 0, 1) := by decide +kernel
theorem dX2_init_1 : decode cX2_init 1 = .ok (.invokespecial 3, 3) := by decide +kernel
theorem dX2_init_4 : decode cX2_init 4 = .ok (.aload_n 0, 1) := by decide +kernel
theorem dX2_init_5 : decode cX2_init 5 = .ok (.bipush 12, 2) := by decide +kernel
theorem dX2_init_7 : decode cX2_init 7 = .ok (.newarray .int, 2) := by decide +kernel
theorem dX2_init_9 : decode cX2_init 9 = .ok (.putfield 11, 3) := by decide +kernel
theorem dX2_init_12 : decode cX2_init 12 = .ok (.aload_n 0, 1) := by decide +kernel
theorem dX2_init_13 : decode cX2_init 13 = .ok (.bipush 12, 2) := by decide +kernel
theorem dX2_init_15 : decode cX2_init 15 = .ok (.newarray .int, 2) := by decide +kernel
theorem dX2_init_17 : decode cX2_init 17 = .ok (.putfield 15, 3) := by decide +kernel
theorem dX2_init_20 : decode cX2_init 20 = .ok (.aload_n 0, 1) := by decide +kernel
theorem dX2_init_21 : decode cX2_init 21 = .ok (.aload_n 1, 1) := by decide +kernel
theorem dX2_init_22 : decode cX2_init 22 = .ok (.putfield 18, 3) := by decide +kernel
theorem dX2_init_25 : decode cX2_init 25 = .ok (.aload_n 0, 1) := by decide +kernel
theorem dX2_init_26 : decode cX2_init 26 = .ok (.aload_n 2, 1) := by decide +kernel
theorem dX2_init_27 : decode cX2_init 27 = .ok (.putfield 22, 3) := by decide +kernel
theorem dX2_init_30 : decode cX2_init 30 = .ok (.return_, 1) := by decide +kernel
set_option maxRecDepth 100000 in
def B2_X2_init : pb_C2 := (c_aload 0 (c_obj (c_aload 0 (c_const (.int 12) (c_newa 0 12 2 24 (c_putT (tyX2 3) 2 3 (c_aload 0 (c_const (.int 12) (c_newa 0 12 2 24 (c_putT (tyX2 4) 2 4 (c_aload 0 (c_aload 1 (c_putT (tyX2 0) 2 0 (c_aload 0 (c_aload 2 (c_putT (tyX2 1) 2 1 (c_vret 2 24)))))))))))))))))
def F2_X2_init : pb_F2 := fun av E => bif Nat.ble (pb_cat av) 3 then (B2_X2_init (pb_ini 3 av) [] E 0 0).map (·.1) else none
set_option maxRecDepth 100000 in
set_option maxHeartbeats 8000000 in
theorem S2_X2_init (l : Launch) : pb_Sound2 l yX2_init cX2_init 3 2 2 24 F2_X2_init := by
  refine pb_sound2_of (by decide) rfl m_2_213 ?_
  intro Γ hl0 hRm0 hm X hE hini
  have hRc : 2 ≤ Γ.2.2.2.1.cells ∧ 24 ≤ Γ.2.2.2.1.slots := by rw [hRm0]; exact ⟨Nat.le_refl _, Nat.le_refl _⟩
  have hRo : 1 ≤ Γ.2.2.2.1.frames ∧ 64 ≤ Γ.2.2.2.1.locals := by rw [hRm0]; exact ⟨by decide, by decide⟩
  have hR : ∀ (d' mL MC' MS' : Nat), d' + 1 ≤ 2 ∧ 8 + (mL + 11) + d' * 64 ≤ 2 * 64 → (pb_rm2 d' MC' MS').frames + 1 ≤ Γ.2.2.2.1.frames ∧ 8 + (mL + 11) + (pb_rm2 d' MC' MS').locals ≤ Γ.2.2.2.1.locals := by rw [hRm0]; exact fun _ _ _ _ h => h
  exact (k_aload_n (pc := 0) X dX2_init_0 rfl (k_obj (pc := 1) X dX2_init_1 m_2_214 m_objinit hRo (k_aload_n (pc := 4) X dX2_init_4 rfl (k_bipush (pc := 5) X dX2_init_5 rfl (k_newa (pc := 7) X dX2_init_7 (ty := .int) rfl m_arr_int (fun _ => rfl) (fun _ _ => Iff.rfl) (fun _ => rfl) (by decide) (by decide) hRc (k_putF (pc := 9) X hini dX2_init_9 rfl (by decide) u_X2 m_2_219 tyX2_ok nmX2 rfl rfl (k_aload_n (pc := 12) X dX2_init_12 rfl (k_bipush (pc := 13) X dX2_init_13 rfl (k_newa (pc := 15) X dX2_init_15 (ty := .int) rfl m_arr_int (fun _ => rfl) (fun _ _ => Iff.rfl) (fun _ => rfl) (by decide) (by decide) hRc (k_putF (pc := 17) X hini dX2_init_17 rfl (by decide) u_X2 m_2_220 tyX2_ok nmX2 rfl rfl (k_aload_n (pc := 20) X dX2_init_20 rfl (k_aload_n (pc := 21) X dX2_init_21 rfl (k_putF (pc := 22) X hini dX2_init_22 rfl (by decide) u_X2 m_2_215 tyX2_ok nmX2 rfl rfl (k_aload_n (pc := 25) X dX2_init_25 rfl (k_aload_n (pc := 26) X dX2_init_26 rfl (k_putF (pc := 27) X hini dX2_init_27 rfl (by decide) u_X2 m_2_216 tyX2_ok nmX2 rfl rfl (k_vret (pc := 30) X hE dX2_init_30)))))))))))))))))
theorem dX11_init_0 : decode cX11_init 0 = .ok (.aload_n 0, 1) := by decide +kernel
theorem dX11_init_1 : decode cX11_init 1 = .ok (.invokespecial 1, 3) := by decide +kernel
theorem dX11_init_4 : decode cX11_init 4 = .ok (.aload_n 0, 1) := by decide +kernel
theorem dX11_init_5 : decode cX11_init 5 = .ok (.iconst 0, 1) := by decide +kernel
theorem dX11_init_6 : decode cX11_init 6 = .ok (.putfield 9, 3) := by decide +kernel
theorem dX11_init_9 : decode cX11_init 9 = .ok (.aload_n 0, 1) := by decide +kernel
theorem dX11_init_10 : decode cX11_init 10 = .ok (.lconst 0, 1) := by decide +kernel
theorem dX11_init_11 : decode cX11_init 11 = .ok (.putfield 13, 3) := by decide +kernel
theorem dX11_init_14 : decode cX11_init 14 = .ok (.aload_n 0, 1) := by decide +kernel
theorem dX11_init_15 : decode cX11_init 15 = .ok (.lconst 1, 1) := by decide +kernel
theorem dX11_init_16 : decode cX11_init 16 = .ok (.putfield 17, 3) := by decide +kernel
theorem dX11_init_19 : decode cX11_init 19 = .ok (.aload_n 0, 1) := by decide +kernel
theorem dX11_init_20 : decode cX11_init 20 = .ok (.new 20, 3) := by decide +kernel
theorem dX11_init_23 : decode cX11_init 23 = .ok (.dup, 1) := by decide +kernel
theorem dX11_init_24 : decode cX11_init 24 = .ok (.invokespecial 22, 3) := by decide +kernel
theorem dX11_init_27 : decode cX11_init 27 = .ok (.putfield 23, 3) := by decide +kernel
theorem dX11_init_30 : decode cX11_init 30 = .ok (.aload_n 0, 1) := by decide +kernel
theorem dX11_init_31 : decode cX11_init 31 = .ok (.new 27, 3) := by decide +kernel
theorem dX11_init_34 : decode cX11_init 34 = .ok (.dup, 1) := by decide +kernel
theorem dX11_init_35 : decode cX11_init 35 = .ok (.invokespecial 29, 3) := by decide +kernel
theorem dX11_init_38 : decode cX11_init 38 = .ok (.putfield 30, 3) := by decide +kernel
theorem dX11_init_41 : decode cX11_init 41 = .ok (.aload_n 0, 1) := by decide +kernel
theorem dX11_init_42 : decode cX11_init 42 = .ok (.new 34, 3) := by decide +kernel
theorem dX11_init_45 : decode cX11_init 45 = .ok (.dup, 1) := by decide +kernel
theorem dX11_init_46 : decode cX11_init 46 = .ok (.invokespecial 36, 3) := by decide +kernel
theorem dX11_init_49 : decode cX11_init 49 = .ok (.putfield 37, 3) := by decide +kernel
theorem dX11_init_52 : decode cX11_init 52 = .ok (.aload_n 0, 1) := by decide +kernel
theorem dX11_init_53 : decode cX11_init 53 = .ok (.new 41, 3) := by decide +kernel
theorem dX11_init_56 : decode cX11_init 56 = .ok (.dup, 1) := by decide +kernel
theorem dX11_init_57 : decode cX11_init 57 = .ok (.aload_n 0, 1) := by decide +kernel
theorem dX11_init_58 : decode cX11_init 58 = .ok (.getfield 30, 3) := by decide +kernel
theorem dX11_init_61 : decode cX11_init 61 = .ok (.invokespecial 43, 3) := by decide +kernel
theorem dX11_init_64 : decode cX11_init 64 = .ok (.putfield 46, 3) := by decide +kernel
theorem dX11_init_67 : decode cX11_init 67 = .ok (.aload_n 0, 1) := by decide +kernel
theorem dX11_init_68 : decode cX11_init 68 = .ok (.new 50, 3) := by decide +kernel
theorem dX11_init_71 : decode cX11_init 71 = .ok (.dup, 1) := by decide +kernel
theorem dX11_init_72 : decode cX11_init 72 = .ok (.aload_n 0, 1) := by decide +kernel
theorem dX11_init_73 : decode cX11_init 73 = .ok (.getfield 30, 3) := by decide +kernel
theorem dX11_init_76 : decode cX11_init 76 = .ok (.invokespecial 52, 3) := by decide +kernel
theorem dX11_init_79 : decode cX11_init 79 = .ok (.putfield 53, 3) := by decide +kernel
theorem dX11_init_82 : decode cX11_init 82 = .ok (.aload_n 0, 1) := by decide +kernel
theorem dX11_init_83 : decode cX11_init 83 = .ok (.new 57, 3) := by decide +kernel
theorem dX11_init_86 : decode cX11_init 86 = .ok (.dup, 1) := by decide +kernel
theorem dX11_init_87 : decode cX11_init 87 = .ok (.aload_n 0, 1) := by decide +kernel
theorem dX11_init_88 : decode cX11_init 88 = .ok (.getfield 30, 3) := by decide +kernel
theorem dX11_init_91 : decode cX11_init 91 = .ok (.aload_n 0, 1) := by decide +kernel
theorem dX11_init_92 : decode cX11_init 92 = .ok (.getfield 46, 3) := by decide +kernel
theorem dX11_init_95 : decode cX11_init 95 = .ok (.invokespecial 59, 3) := by decide +kernel
theorem dX11_init_98 : decode cX11_init 98 = .ok (.putfield 62, 3) := by decide +kernel
theorem dX11_init_101 : decode cX11_init 101 = .ok (.aload_n 0, 1) := by decide +kernel
theorem dX11_init_102 : decode cX11_init 102 = .ok (.new 66, 3) := by decide +kernel
theorem dX11_init_105 : decode cX11_init 105 = .ok (.dup, 1) := by decide +kernel
theorem dX11_init_106 : decode cX11_init 106 = .ok (.invokespecial 68, 3) := by decide +kernel
theorem dX11_init_109 : decode cX11_init 109 = .ok (.putfield 69, 3) := by decide +kernel
theorem dX11_init_112 : decode cX11_init 112 = .ok (.aload_n 0, 1) := by decide +kernel
theorem dX11_init_113 : decode cX11_init 113 = .ok (.new 73, 3) := by decide +kernel
theorem dX11_init_116 : decode cX11_init 116 = .ok (.dup, 1) := by decide +kernel
theorem dX11_init_117 : decode cX11_init 117 = .ok (.aload_n 0, 1) := by decide +kernel
theorem dX11_init_118 : decode cX11_init 118 = .ok (.getfield 30, 3) := by decide +kernel
theorem dX11_init_121 : decode cX11_init 121 = .ok (.aload_n 0, 1) := by decide +kernel
theorem dX11_init_122 : decode cX11_init 122 = .ok (.getfield 46, 3) := by decide +kernel
theorem dX11_init_125 : decode cX11_init 125 = .ok (.invokespecial 75, 3) := by decide +kernel
theorem dX11_init_128 : decode cX11_init 128 = .ok (.putfield 76, 3) := by decide +kernel
theorem dX11_init_131 : decode cX11_init 131 = .ok (.aload_n 0, 1) := by decide +kernel
theorem dX11_init_132 : decode cX11_init 132 = .ok (.new 80, 3) := by decide +kernel
theorem dX11_init_135 : decode cX11_init 135 = .ok (.dup, 1) := by decide +kernel
theorem dX11_init_136 : decode cX11_init 136 = .ok (.aload_n 0, 1) := by decide +kernel
theorem dX11_init_137 : decode cX11_init 137 = .ok (.getfield 30, 3) := by decide +kernel
theorem dX11_init_140 : decode cX11_init 140 = .ok (.invokespecial 82, 3) := by decide +kernel
theorem dX11_init_143 : decode cX11_init 143 = .ok (.putfield 83, 3) := by decide +kernel
theorem dX11_init_146 : decode cX11_init 146 = .ok (.aload_n 0, 1) := by decide +kernel
theorem dX11_init_147 : decode cX11_init 147 = .ok (.new 87, 3) := by decide +kernel
theorem dX11_init_150 : decode cX11_init 150 = .ok (.dup, 1) := by decide +kernel
theorem dX11_init_151 : decode cX11_init 151 = .ok (.aload_n 0, 1) := by decide +kernel
theorem dX11_init_152 : decode cX11_init 152 = .ok (.getfield 30, 3) := by decide +kernel
theorem dX11_init_155 : decode cX11_init 155 = .ok (.invokespecial 89, 3) := by decide +kernel
theorem dX11_init_158 : decode cX11_init 158 = .ok (.putfield 90, 3) := by decide +kernel
theorem dX11_init_161 : decode cX11_init 161 = .ok (.aload_n 0, 1) := by decide +kernel
theorem dX11_init_162 : decode cX11_init 162 = .ok (.new 94, 3) := by decide +kernel
theorem dX11_init_165 : decode cX11_init 165 = .ok (.dup, 1) := by decide +kernel
theorem dX11_init_166 : decode cX11_init 166 = .ok (.aload_n 0, 1) := by decide +kernel
theorem dX11_init_167 : decode cX11_init 167 = .ok (.getfield 30, 3) := by decide +kernel
theorem dX11_init_170 : decode cX11_init 170 = .ok (.aload_n 0, 1) := by decide +kernel
theorem dX11_init_171 : decode cX11_init 171 = .ok (.getfield 46, 3) := by decide +kernel
theorem dX11_init_174 : decode cX11_init 174 = .ok (.invokespecial 96, 3) := by decide +kernel
theorem dX11_init_177 : decode cX11_init 177 = .ok (.putfield 97, 3) := by decide +kernel
theorem dX11_init_180 : decode cX11_init 180 = .ok (.return_, 1) := by decide +kernel
set_option maxRecDepth 100000 in
def B2_X11_init : pb_C2 := (c_aload 0 (c_obj (c_aload 0 (c_const (.int 0) (c_putT (tyX11 0) 11 0 (c_aload 0 (c_const (.long 0) (c_putT (tyX11 1) 11 1 (c_aload 0 (c_const (.long 1) (c_putT (tyX11 2) 11 2 (c_aload 0 (c_new 8 [.null, .null, .null] 63 14403 (c_dup (c_call 0 3 248 63 14403 F2_X8_init (c_putT (tyX11 3) 11 3 (c_aload 0 (c_new 1 [.int 0, .null, .null, .int 0, .null, .null, .null, .null, .null, .null, .null, .null, .null, .int 0, .null, .null, .null, .null, .int 0, .int 0] 63 14403 (c_dup (c_call 0 15 2407 63 14403 F2_X1_init (c_putT (tyX11 4) 11 4 (c_aload 0 (c_new 5 [.null, .int 0, .int 0, .int 0, .int 0, .int 0, .long 0, .int 0, .int 0, .int 0, .null, .int 0, .null, .int 0, .int 0, .int 0, .int 0, .int 0, .int 0] 63 14403 (c_dup (c_call 0 3 1232 63 14403 F2_X5_init (c_putT (tyX11 5) 11 5 (c_aload 0 (c_new 0 [.null, .int 0, .null, .null, .null, .null, .null, .int 0] 63 14403 (c_dup (c_aload 0 (c_get 11 4 (c_call 1 5 5069 63 14403 F2_X0_init (c_putT (tyX11 6) 11 6 (c_aload 0 (c_new 6 [.null, .int 0, .null, .null, .null, .int 0, .null, .null, .null, .null, .int 0, .int 0, .int 0] 63 14403 (c_dup (c_aload 0 (c_get 11 4 (c_call 1 7 210 63 14403 F2_X6_init (c_putT (tyX11 7) 11 7 (c_aload 0 (c_new 7 [.null, .null, .int 0, .null, .null, .null, .null, .null, .int 0, .int 0] 63 14403 (c_dup (c_aload 0 (c_get 11 4 (c_aload 0 (c_get 11 6 (c_call 2 5 3985 63 14403 F2_X7_init (c_putT (tyX11 8) 11 8 (c_aload 0 (c_new 3 [.int 0, .null, .null, .null, .null, .null] 63 14403 (c_dup (c_call 0 5 164 63 14403 F2_X3_init (c_putT (tyX11 9) 11 9 (c_aload 0 (c_new 4 [.null, .null, .int 0, .int 0, .null, .null] 63 14403 (c_dup (c_aload 0 (c_get 11 4 (c_aload 0 (c_get 11 6 (c_call 2 2 400 63 14403 F2_X4_init (c_putT (tyX11 10) 11 10 (c_aload 0 (c_new 9 [.null, .null, .null, .int 0, .int 0, .int 0, .int 0] 63 14403 (c_dup (c_aload 0 (c_get 11 4 (c_call 1 2 528 63 14403 F2_X9_init (c_putT (tyX11 11) 11 11 (c_aload 0 (c_new 10 [.null, .int 0, .null, .null, .null] 63 14403 (c_dup (c_aload 0 (c_get 11 4 (c_call 1 3 32 63 14403 F2_X10_init (c_putT (tyX11 12) 11 12 (c_aload 0 (c_new 2 [.null, .null, .int 0, .null, .null, .long 0, .long 0] 63 14403 (c_dup (c_aload 0 (c_get 11 4 (c_aload 0 (c_get 11 6 (c_call 2 2 24 63 14403 F2_X2_init (c_putT (tyX11 13) 11 13 (c_vret 63 14403)))))))))))))))))))))))))))))))))))))))))))))))))))))))))))))))))))))))))))))))))))))))
def F2_X11_init : pb_F2 := fun av E => bif Nat.ble (pb_cat av) 1 then (B2_X11_init (pb_ini 1 av) [] E 0 0).map (·.1) else none
set_option maxRecDepth 100000 in
set_option maxHeartbeats 8000000 in
theorem S2_X11_init (l : Launch) : pb_Sound2 l yX11_init cX11_init 1 4 63 14403 F2_X11_init := by
  refine pb_sound2_of (by decide) rfl m_1_28 ?_
  intro Γ hl0 hRm0 hm X hE hini
  have hRc : 63 ≤ Γ.2.2.2.1.cells ∧ 14403 ≤ Γ.2.2.2.1.slots := by rw [hRm0]; exact ⟨Nat.le_refl _, Nat.le_refl _⟩
  have hRo : 1 ≤ Γ.2.2.2.1.frames ∧ 64 ≤ Γ.2.2.2.1.locals := by rw [hRm0]; exact ⟨by decide, by decide⟩
  have hR : ∀ (d' mL MC' MS' : Nat), d' + 1 ≤ 4 ∧ 8 + (mL + 11) + d' * 64 ≤ 4 * 64 → (pb_rm2 d' MC' MS').frames + 1 ≤ Γ.2.2.2.1.frames ∧ 8 + (mL + 11) + (pb_rm2 d' MC' MS').locals ≤ Γ.2.2.2.1.locals := by rw [hRm0]; exact fun _ _ _ _ h => h
  exact (k_aload_n (pc := 0) X dX11_init_0 rfl (k_obj (pc := 1) X dX11_init_1 m_1_29 m_objinit hRo (k_aload_n (pc := 4) X dX11_init_4 rfl (k_iconst (pc := 5) X dX11_init_5 rfl (k_put (pc := 6) X dX11_init_6 rfl (by decide) u_X11 m_3_0 tyX11_ok nmX11 rfl (k_aload_n (pc := 9) X dX11_init_9 rfl (k_lconst (pc := 10) X dX11_init_10 rfl (k_put (pc := 11) X dX11_init_11 rfl (by decide) u_X11 m_3_1 tyX11_ok nmX11 rfl (k_aload_n (pc := 14) X dX11_init_14 rfl (k_lconst (pc := 15) X dX11_init_15 rfl (k_put (pc := 16) X dX11_init_16 rfl (by decide) u_X11 m_3_2 tyX11_ok nmX11 rfl (k_aload_n (pc := 19) X dX11_init_19 rfl (k_new (pc := 20) X dX11_init_20 (ty := tyX8) rfl u_X8 tyX8_ok m_1_32 m_1_33 m_1_2 (by decide +kernel) rfl hRc (k_dup (pc := 23) X dX11_init_23 (k_call (pc := 24) X dX11_init_24 (S2_X8_init _) (Or.inr ⟨_, m_1_34⟩) ⟨m_1_35, m_1_2⟩ rfl ⟨by decide +kernel, by decide +kernel, by decide +kernel⟩ (hR _ _ _ _ (by decide)) hRc (k_putF (pc := 27) X hini dX11_init_27 rfl (by decide) u_X11 m_3_3 tyX11_ok nmX11 rfl rfl (k_aload_n (pc := 30) X dX11_init_30 rfl (k_new (pc := 31) X dX11_init_31 (ty := tyX1) rfl u_X1 tyX1_ok m_1_50 m_1_51 m_1_3 (by decide +kernel) rfl hRc (k_dup (pc := 34) X dX11_init_34 (k_call (pc := 35) X dX11_init_35 (S2_X1_init _) (Or.inr ⟨_, m_1_52⟩) ⟨m_1_53, m_1_3⟩ rfl ⟨by decide +kernel, by decide +kernel, by decide +kernel⟩ (hR _ _ _ _ (by decide)) hRc (k_putF (pc := 38) X hini dX11_init_38 rfl (by decide) u_X11 m_3_4 tyX11_ok nmX11 rfl rfl (k_aload_n (pc := 41) X dX11_init_41 rfl (k_new (pc := 42) X dX11_init_42 (ty := tyX5) rfl u_X5 tyX5_ok m_1_152 m_1_153 m_1_4 (by decide +kernel) rfl hRc (k_dup (pc := 45) X dX11_init_45 (k_call (pc := 46) X dX11_init_46 (S2_X5_init _) (Or.inr ⟨_, m_1_154⟩) ⟨m_1_155, m_1_4⟩ rfl ⟨by decide +kernel, by decide +kernel, by decide +kernel⟩ (hR _ _ _ _ (by decide)) hRc (k_putF (pc := 49) X hini dX11_init_49 rfl (by decide) u_X11 m_3_5 tyX11_ok nmX11 rfl rfl (k_aload_n (pc := 52) X dX11_init_52 rfl (k_new (pc := 53) X dX11_init_53 (ty := tyX0) rfl u_X0 tyX0_ok m_1_220 m_1_221 m_1_5 (by decide +kernel) rfl hRc (k_dup (pc := 56) X dX11_init_56 (k_aload_n (pc := 57) X dX11_init_57 rfl (k_get (pc := 58) X dX11_init_58 rfl (by decide) u_X11 m_3_4 (k_call (pc := 61) X dX11_init_61 (S2_X0_init _) (Or.inl m_1_222) ⟨m_1_223, m_1_5⟩ rfl ⟨by decide +kernel, by decide +kernel, by decide +kernel⟩ (hR _ _ _ _ (by decide)) hRc (k_putF (pc := 64) X hini dX11_init_64 rfl (by decide) u_X11 m_3_6 tyX11_ok nmX11 rfl rfl (k_aload_n (pc := 67) X dX11_init_67 rfl (k_new (pc := 68) X dX11_init_68 (ty := tyX6) rfl u_X6 tyX6_ok m_2_12 m_2_13 m_1_6 (by decide +kernel) rfl hRc (k_dup (pc := 71) X dX11_init_71 (k_aload_n (pc := 72) X dX11_init_72 rfl (k_get (pc := 73) X dX11_init_73 rfl (by decide) u_X11 m_3_4 (k_call (pc := 76) X dX11_init_76 (S2_X6_init _) (Or.inl m_2_14) ⟨m_2_15, m_1_6⟩ rfl ⟨by decide +kernel, by decide +kernel, by decide +kernel⟩ (hR _ _ _ _ (by decide)) hRc (k_putF (pc := 79) X hini dX11_init_79 rfl (by decide) u_X11 m_3_7 tyX11_ok nmX11 rfl rfl (k_aload_n (pc := 82) X dX11_init_82 rfl (k_new (pc := 83) X dX11_init_83 (ty := tyX7) rfl u_X7 tyX7_ok m_2_61 m_2_62 m_1_7 (by decide +kernel) rfl hRc (k_dup (pc := 86) X dX11_init_86 (k_aload_n (pc := 87) X dX11_init_87 rfl (k_get (pc := 88) X dX11_init_88 rfl (by decide) u_X11 m_3_4 (k_aload_n (pc := 91) X dX11_init_91 rfl (k_get (pc := 92) X dX11_init_92 rfl (by decide) u_X11 m_3_6 (k_call (pc := 95) X dX11_init_95 (S2_X7_init _) (Or.inl m_2_63) ⟨m_2_64, m_1_7⟩ rfl ⟨by decide +kernel, by decide +kernel, by decide +kernel⟩ (hR _ _ _ _ (by decide)) hRc (k_putF (pc := 98) X hini dX11_init_98 rfl (by decide) u_X11 m_3_8 tyX11_ok nmX11 rfl rfl (k_aload_n (pc := 101) X dX11_init_101 rfl (k_new (pc := 102) X dX11_init_102 (ty := tyX3) rfl u_X3 tyX3_ok m_2_101 m_2_102 m_1_8 (by decide +kernel) rfl hRc (k_dup (pc := 105) X dX11_init_105 (k_call (pc := 106) X dX11_init_106 (S2_X3_init _) (Or.inr ⟨_, m_2_103⟩) ⟨m_2_104, m_1_8⟩ rfl ⟨by decide +kernel, by decide +kernel, by decide +kernel⟩ (hR _ _ _ _ (by decide)) hRc (k_putF (pc := 109) X hini dX11_init_109 rfl (by decide) u_X11 m_3_9 tyX11_ok nmX11 rfl rfl (k_aload_n (pc := 112) X dX11_init_112 rfl (k_new (pc := 113) X dX11_init_113 (ty := tyX4) rfl u_X4 tyX4_ok m_2_127 m_2_128 m_1_9 (by decide +kernel) rfl hRc (k_dup (pc := 116) X dX11_init_116 (k_aload_n (pc := 117) X dX11_init_117 rfl (k_get (pc := 118) X dX11_init_118 rfl (by decide) u_X11 m_3_4 (k_aload_n (pc := 121) X dX11_init_121 rfl (k_get (pc := 122) X dX11_init_122 rfl (by decide) u_X11 m_3_6 (k_call (pc := 125) X dX11_init_125 (S2_X4_init _) (Or.inl m_2_129) ⟨m_2_130, m_1_9⟩ rfl ⟨by decide +kernel, by decide +kernel, by decide +kernel⟩ (hR _ _ _ _ (by decide)) hRc (k_putF (pc := 128) X hini dX11_init_128 rfl (by decide) u_X11 m_3_10 tyX11_ok nmX11 rfl rfl (k_aload_n (pc := 131) X dX11_init_131 rfl (k_new (pc := 132) X dX11_init_132 (ty := tyX9) rfl u_X9 tyX9_ok m_2_155 m_2_156 m_1_10 (by decide +kernel) rfl hRc (k_dup (pc := 135) X dX11_init_135 (k_aload_n (pc := 136) X dX11_init_136 rfl (k_get (pc := 137) X dX11_init_137 rfl (by decide) u_X11 m_3_4 (k_call (pc := 140) X dX11_init_140 (S2_X9_init _) (Or.inl m_2_157) ⟨m_2_158, m_1_10⟩ rfl ⟨by decide +kernel, by decide +kernel, by decide +kernel⟩ (hR _ _ _ _ (by decide)) hRc (k_putF (pc := 143) X hini dX11_init_143 rfl (by decide) u_X11 m_3_11 tyX11_ok nmX11 rfl rfl (k_aload_n (pc := 146) X dX11_init_146 rfl (k_new (pc := 147) X dX11_init_147 (ty := tyX10) rfl u_X10 tyX10_ok m_2_185 m_2_186 m_1_11 (by decide +kernel) rfl hRc (k_dup (pc := 150) X dX11_init_150 (k_aload_n (pc := 151) X dX11_init_151 rfl (k_get (pc := 152) X dX11_init_152 rfl (by decide) u_X11 m_3_4 (k_call (pc := 155) X dX11_init_155 (S2_X10_init _) (Or.inl m_2_187) ⟨m_2_188, m_1_11⟩ rfl ⟨by decide +kernel, by decide +kernel, by decide +kernel⟩ (hR _ _ _ _ (by decide)) hRc (k_putF (pc := 158) X hini dX11_init_158 rfl (by decide) u_X11 m_3_12 tyX11_ok nmX11 rfl rfl (k_aload_n (pc := 161) X dX11_init_161 rfl (k_new (pc := 162) X dX11_init_162 (ty := tyX2) rfl u_X2 tyX2_ok m_2_209 m_2_210 m_1_12 (by decide +kernel) rfl hRc (k_dup (pc := 165) X dX11_init_165 (k_aload_n (pc := 166) X dX11_init_166 rfl (k_get (pc := 167) X dX11_init_167 rfl (by decide) u_X11 m_3_4 (k_aload_n (pc := 170) X dX11_init_170 rfl (k_get (pc := 171) X dX11_init_171 rfl (by decide) u_X11 m_3_6 (k_call (pc := 174) X dX11_init_174 (S2_X2_init _) (Or.inl m_2_211) ⟨m_2_212, m_1_12⟩ rfl ⟨by decide +kernel, by decide +kernel, by decide +kernel⟩ (hR _ _ _ _ (by decide)) hRc (k_putF (pc := 177) X hini dX11_init_177 rfl (by decide) u_X11 m_3_13 tyX11_ok nmX11 rfl rfl (k_vret (pc := 180) X hE dX11_init_180)))))))))))))))))))))))))))))))))))))))))))))))))))))))))))))))))))))))))))))))))))))))
theorem dX12_init_0 : decode cX12_init 0 = .ok (.aload_n 0, 1) := by decide +kernel
theorem dX12_init_1 : decode cX12_init 1 = .ok (.invokespecial 1, 3) := by decide +kernel
theorem dX12_init_4 : decode cX12_init 4 = .ok (.aload_n 0, 1) := by decide +kernel
theorem dX12_init_5 : decode cX12_init 5 = .ok (.lconst 1, 1) := by decide +kernel
theorem dX12_init_6 : decode cX12_init 6 = .ok (.putfield 7, 3) := by decide +kernel
theorem dX12_init_9 : decode cX12_init 9 = .ok (.aload_n 0, 1) := by decide +kernel
theorem dX12_init_10 : decode cX12_init 10 = .ok (.iconst 4, 1) := by decide +kernel
theorem dX12_init_11 : decode cX12_init 11 = .ok (.newarray .int, 2) := by decide +kernel
theorem dX12_init_13 : decode cX12_init 13 = .ok (.putfield 13, 3) := by decide +kernel
theorem dX12_init_16 : decode cX12_init 16 = .ok (.aload_n 0, 1) := by decide +kernel
theorem dX12_init_17 : decode cX12_init 17 = .ok (.iconst 4, 1) := by decide +kernel
theorem dX12_init_18 : decode cX12_init 18 = .ok (.newarray .int, 2) := by decide +kernel
theorem dX12_init_20 : decode cX12_init 20 = .ok (.dup, 1) := by decide +kernel
theorem dX12_init_21 : decode cX12_init 21 = .ok (.iconst 0, 1) := by decide +kernel
theorem dX12_init_22 : decode cX12_init 22 = .ok (.iconst (-1), 1) := by decide +kernel
theorem dX12_init_23 : decode cX12_init 23 = .ok (.iastore, 1) := by decide +kernel
theorem dX12_init_24 : decode cX12_init 24 = .ok (.dup, 1) := by decide +kernel
theorem dX12_init_25 : decode cX12_init 25 = .ok (.iconst 1, 1) := by decide +kernel
theorem dX12_init_26 : decode cX12_init 26 = .ok (.iconst (-1), 1) := by decide +kernel
theorem dX12_init_27 : decode cX12_init 27 = .ok (.iastore, 1) := by decide +kernel
theorem dX12_init_28 : decode cX12_init 28 = .ok (.dup, 1) := by decide +kernel
theorem dX12_init_29 : decode cX12_init 29 = .ok (.iconst 2, 1) := by decide +kernel
theorem dX12_init_30 : decode cX12_init 30 = .ok (.iconst (-1), 1) := by decide +kernel
theorem dX12_init_31 : decode cX12_init 31 = .ok (.iastore, 1) := by decide +kernel
theorem dX12_init_32 : decode cX12_init 32 = .ok (.dup, 1) := by decide +kernel
theorem dX12_init_33 : decode cX12_init 33 = .ok (.iconst 3, 1) := by decide +kernel
theorem dX12_init_34 : decode cX12_init 34 = .ok (.iconst (-1), 1) := by decide +kernel
theorem dX12_init_35 : decode cX12_init 35 = .ok (.iastore, 1) := by decide +kernel
theorem dX12_init_36 : decode cX12_init 36 = .ok (.putfield 17, 3) := by decide +kernel
theorem dX12_init_39 : decode cX12_init 39 = .ok (.aload_n 0, 1) := by decide +kernel
theorem dX12_init_40 : decode cX12_init 40 = .ok (.sipush 240, 3) := by decide +kernel
theorem dX12_init_43 : decode cX12_init 43 = .ok (.newarray .long, 2) := by decide +kernel
theorem dX12_init_45 : decode cX12_init 45 = .ok (.putfield 20, 3) := by decide +kernel
theorem dX12_init_48 : decode cX12_init 48 = .ok (.aload_n 0, 1) := by decide +kernel
theorem dX12_init_49 : decode cX12_init 49 = .ok (.sipush 9999, 3) := by decide +kernel
theorem dX12_init_52 : decode cX12_init 52 = .ok (.putfield 24, 3) := by decide +kernel
theorem dX12_init_55 : decode cX12_init 55 = .ok (.aload_n 0, 1) := by decide +kernel
theorem dX12_init_56 : decode cX12_init 56 = .ok (.bipush 12, 2) := by decide +kernel
theorem dX12_init_58 : decode cX12_init 58 = .ok (.newarray .int, 2) := by decide +kernel
theorem dX12_init_60 : decode cX12_init 60 = .ok (.putfield 28, 3) := by decide +kernel
theorem dX12_init_63 : decode cX12_init 63 = .ok (.aload_n 0, 1) := by decide +kernel
theorem dX12_init_64 : decode cX12_init 64 = .ok (.bipush 12, 2) := by decide +kernel
theorem dX12_init_66 : decode cX12_init 66 = .ok (.newarray .int, 2) := by decide +kernel
theorem dX12_init_68 : decode cX12_init 68 = .ok (.putfield 31, 3) := by decide +kernel
theorem dX12_init_71 : decode cX12_init 71 = .ok (.aload_n 0, 1) := by decide +kernel
theorem dX12_init_72 : decode cX12_init 72 = .ok (.sipush 200, 3) := by decide +kernel
theorem dX12_init_75 : decode cX12_init 75 = .ok (.newarray .int, 2) := by decide +kernel
theorem dX12_init_77 : decode cX12_init 77 = .ok (.putfield 34, 3) := by decide +kernel
theorem dX12_init_80 : decode cX12_init 80 = .ok (.aload_n 0, 1) := by decide +kernel
theorem dX12_init_81 : decode cX12_init 81 = .ok (.sipush 200, 3) := by decide +kernel
theorem dX12_init_84 : decode cX12_init 84 = .ok (.newarray .int, 2) := by decide +kernel
theorem dX12_init_86 : decode cX12_init 86 = .ok (.putfield 37, 3) := by decide +kernel
theorem dX12_init_89 : decode cX12_init 89 = .ok (.aload_n 0, 1) := by decide +kernel
theorem dX12_init_90 : decode cX12_init 90 = .ok (.sipush 200, 3) := by decide +kernel
theorem dX12_init_93 : decode cX12_init 93 = .ok (.newarray .int, 2) := by decide +kernel
theorem dX12_init_95 : decode cX12_init 95 = .ok (.putfield 40, 3) := by decide +kernel
theorem dX12_init_98 : decode cX12_init 98 = .ok (.aload_n 0, 1) := by decide +kernel
theorem dX12_init_99 : decode cX12_init 99 = .ok (.sipush 200, 3) := by decide +kernel
theorem dX12_init_102 : decode cX12_init 102 = .ok (.newarray .int, 2) := by decide +kernel
theorem dX12_init_104 : decode cX12_init 104 = .ok (.putfield 43, 3) := by decide +kernel
theorem dX12_init_107 : decode cX12_init 107 = .ok (.aload_n 0, 1) := by decide +kernel
theorem dX12_init_108 : decode cX12_init 108 = .ok (.sipush 200, 3) := by decide +kernel
theorem dX12_init_111 : decode cX12_init 111 = .ok (.newarray .int, 2) := by decide +kernel
theorem dX12_init_113 : decode cX12_init 113 = .ok (.putfield 46, 3) := by decide +kernel
theorem dX12_init_116 : decode cX12_init 116 = .ok (.aload_n 0, 1) := by decide +kernel
theorem dX12_init_117 : decode cX12_init 117 = .ok (.sipush 200, 3) := by decide +kernel
theorem dX12_init_120 : decode cX12_init 120 = .ok (.newarray .int, 2) := by decide +kernel
theorem dX12_init_122 : decode cX12_init 122 = .ok (.putfield 49, 3) := by decide +kernel
theorem dX12_init_125 : decode cX12_init 125 = .ok (.aload_n 0, 1) := by decide +kernel
theorem dX12_init_126 : decode cX12_init 126 = .ok (.bipush 60, 2) := by decide +kernel
theorem dX12_init_128 : decode cX12_init 128 = .ok (.newarray .int, 2) := by decide +kernel
theorem dX12_init_130 : decode cX12_init 130 = .ok (.putfield 52, 3) := by decide +kernel
theorem dX12_init_133 : decode cX12_init 133 = .ok (.aload_n 0, 1) := by decide +kernel
theorem dX12_init_134 : decode cX12_init 134 = .ok (.bipush 60, 2) := by decide +kernel
theorem dX12_init_136 : decode cX12_init 136 = .ok (.newarray .int, 2) := by decide +kernel
theorem dX12_init_138 : decode cX12_init 138 = .ok (.putfield 55, 3) := by decide +kernel
theorem dX12_init_141 : decode cX12_init 141 = .ok (.aload_n 0, 1) := by decide +kernel
theorem dX12_init_142 : decode cX12_init 142 = .ok (.bipush 60, 2) := by decide +kernel
theorem dX12_init_144 : decode cX12_init 144 = .ok (.newarray .int, 2) := by decide +kernel
theorem dX12_init_146 : decode cX12_init 146 = .ok (.putfield 58, 3) := by decide +kernel
theorem dX12_init_149 : decode cX12_init 149 = .ok (.aload_n 0, 1) := by decide +kernel
theorem dX12_init_150 : decode cX12_init 150 = .ok (.sipush 600, 3) := by decide +kernel
theorem dX12_init_153 : decode cX12_init 153 = .ok (.newarray .long, 2) := by decide +kernel
theorem dX12_init_155 : decode cX12_init 155 = .ok (.putfield 61, 3) := by decide +kernel
theorem dX12_init_158 : decode cX12_init 158 = .ok (.aload_n 0, 1) := by decide +kernel
theorem dX12_init_159 : decode cX12_init 159 = .ok (.iconst 3, 1) := by decide +kernel
theorem dX12_init_160 : decode cX12_init 160 = .ok (.newarray .long, 2) := by decide +kernel
theorem dX12_init_162 : decode cX12_init 162 = .ok (.putfield 64, 3) := by decide +kernel
theorem dX12_init_165 : decode cX12_init 165 = .ok (.aload_n 0, 1) := by decide +kernel
theorem dX12_init_166 : decode cX12_init 166 = .ok (.sipush 200, 3) := by decide +kernel
theorem dX12_init_169 : decode cX12_init 169 = .ok (.newarray .boolean, 2) := by decide +kernel
theorem dX12_init_171 : decode cX12_init 171 = .ok (.putfield 67, 3) := by decide +kernel
theorem dX12_init_174 : decode cX12_init 174 = .ok (.aload_n 0, 1) := by decide +kernel
theorem dX12_init_175 : decode cX12_init 175 = .ok (.sipush 600, 3) := by decide +kernel
theorem dX12_init_178 : decode cX12_init 178 = .ok (.newarray .byte, 2) := by decide +kernel
theorem dX12_init_180 : decode cX12_init 180 = .ok (.putfield 71, 3) := by decide +kernel
theorem dX12_init_183 : decode cX12_init 183 = .ok (.aload_n 0, 1) := by decide +kernel
theorem dX12_init_184 : decode cX12_init 184 = .ok (.sipush 600, 3) := by decide +kernel
theorem dX12_init_187 : decode cX12_init 187 = .ok (.newarray .byte, 2) := by decide +kernel
theorem dX12_init_189 : decode cX12_init 189 = .ok (.putfield 75, 3) := by decide +kernel
theorem dX12_init_192 : decode cX12_init 192 = .ok (.aload_n 0, 1) := by decide +kernel
theorem dX12_init_193 : decode cX12_init 193 = .ok (.iconst (-1), 1) := by decide +kernel
theorem dX12_init_194 : decode cX12_init 194 = .ok (.putfield 78, 3) := by decide +kernel
theorem dX12_init_197 : decode cX12_init 197 = .ok (.aload_n 0, 1) := by decide +kernel
theorem dX12_init_198 : decode cX12_init 198 = .ok (.iconst (-1), 1) := by decide +kernel
theorem dX12_init_199 : decode cX12_init 199 = .ok (.putfield 81, 3) := by decide +kernel
theorem dX12_init_202 : decode cX12_init 202 = .ok (.aload_n 0, 1) := by decide +kernel
theorem dX12_init_203 : decode cX12_init 203 = .ok (.bipush 6, 2) := by decide +kernel
theorem dX12_init_205 : decode cX12_init 205 = .ok (.newarray .int, 2) := by decide +kernel
theorem dX12_init_207 : decode cX12_init 207 = .ok (.putfield 84, 3) := by decide +kernel
theorem dX12_init_210 : decode cX12_init 210 = .ok (.aload_n 0, 1) := by decide +kernel
theorem dX12_init_211 : decode cX12_init 211 = .ok (.sipush 186, 3) := by decide +kernel
theorem dX12_init_214 : decode cX12_init 214 = .ok (.newarray .int, 2) := by decide +kernel
theorem dX12_init_216 : decode cX12_init 216 = .ok (.putfield 87, 3) := by decide +kernel
theorem dX12_init_219 : decode cX12_init 219 = .ok (.aload_n 0, 1) := by decide +kernel
theorem dX12_init_220 : decode cX12_init 220 = .ok (.sipush 186, 3) := by decide +kernel
theorem dX12_init_223 : decode cX12_init 223 = .ok (.newarray .int, 2) := by decide +kernel
theorem dX12_init_225 : decode cX12_init 225 = .ok (.putfield 90, 3) := by decide +kernel
theorem dX12_init_228 : decode cX12_init 228 = .ok (.aload_n 0, 1) := by decide +kernel
theorem dX12_init_229 : decode cX12_init 229 = .ok (.sipush 186, 3) := by decide +kernel
theorem dX12_init_232 : decode cX12_init 232 = .ok (.newarray .int, 2) := by decide +kernel
theorem dX12_init_234 : decode cX12_init 234 = .ok (.putfield 93, 3) := by decide +kernel
theorem dX12_init_237 : decode cX12_init 237 = .ok (.aload_n 0, 1) := by decide +kernel
theorem dX12_init_238 : decode cX12_init 238 = .ok (.sipush 186, 3) := by decide +kernel
theorem dX12_init_241 : decode cX12_init 241 = .ok (.newarray .int, 2) := by decide +kernel
theorem dX12_init_243 : decode cX12_init 243 = .ok (.putfield 96, 3) := by decide +kernel
theorem dX12_init_246 : decode cX12_init 246 = .ok (.aload_n 0, 1) := by decide +kernel
theorem dX12_init_247 : decode cX12_init 247 = .ok (.sipush 186, 3) := by decide +kernel
theorem dX12_init_250 : decode cX12_init 250 = .ok (.newarray .int, 2) := by decide +kernel
theorem dX12_init_252 : decode cX12_init 252 = .ok (.putfield 99, 3) := by decide +kernel
theorem dX12_init_255 : decode cX12_init 255 = .ok (.aload_n 0, 1) := by decide +kernel
theorem dX12_init_256 : decode cX12_init 256 = .ok (.sipush 1500, 3) := by decide +kernel
theorem dX12_init_259 : decode cX12_init 259 = .ok (.newarray .int, 2) := by decide +kernel
theorem dX12_init_261 : decode cX12_init 261 = .ok (.putfield 102, 3) := by decide +kernel
theorem dX12_init_264 : decode cX12_init 264 = .ok (.aload_n 0, 1) := by decide +kernel
theorem dX12_init_265 : decode cX12_init 265 = .ok (.sipush 1500, 3) := by decide +kernel
theorem dX12_init_268 : decode cX12_init 268 = .ok (.newarray .int, 2) := by decide +kernel
theorem dX12_init_270 : decode cX12_init 270 = .ok (.putfield 105, 3) := by decide +kernel
theorem dX12_init_273 : decode cX12_init 273 = .ok (.aload_n 0, 1) := by decide +kernel
theorem dX12_init_274 : decode cX12_init 274 = .ok (.sipush 1500, 3) := by decide +kernel
theorem dX12_init_277 : decode cX12_init 277 = .ok (.newarray .int, 2) := by decide +kernel
theorem dX12_init_279 : decode cX12_init 279 = .ok (.putfield 108, 3) := by decide +kernel
theorem dX12_init_282 : decode cX12_init 282 = .ok (.aload_n 0, 1) := by decide +kernel
theorem dX12_init_283 : decode cX12_init 283 = .ok (.sipush 1500, 3) := by decide +kernel
theorem dX12_init_286 : decode cX12_init 286 = .ok (.newarray .int, 2) := by decide +kernel
theorem dX12_init_288 : decode cX12_init 288 = .ok (.putfield 111, 3) := by decide +kernel
theorem dX12_init_291 : decode cX12_init 291 = .ok (.aload_n 0, 1) := by decide +kernel
theorem dX12_init_292 : decode cX12_init 292 = .ok (.sipush 1500, 3) := by decide +kernel
theorem dX12_init_295 : decode cX12_init 295 = .ok (.newarray .int, 2) := by decide +kernel
theorem dX12_init_297 : decode cX12_init 297 = .ok (.putfield 114, 3) := by decide +kernel
theorem dX12_init_300 : decode cX12_init 300 = .ok (.aload_n 0, 1) := by decide +kernel
theorem dX12_init_301 : decode cX12_init 301 = .ok (.sipush 1500, 3) := by decide +kernel
theorem dX12_init_304 : decode cX12_init 304 = .ok (.newarray .long, 2) := by decide +kernel
theorem dX12_init_306 : decode cX12_init 306 = .ok (.putfield 117, 3) := by decide +kernel
theorem dX12_init_309 : decode cX12_init 309 = .ok (.aload_n 0, 1) := by decide +kernel
theorem dX12_init_310 : decode cX12_init 310 = .ok (.sipush 1500, 3) := by decide +kernel
theorem dX12_init_313 : decode cX12_init 313 = .ok (.newarray .boolean, 2) := by decide +kernel
theorem dX12_init_315 : decode cX12_init 315 = .ok (.putfield 120, 3) := by decide +kernel
theorem dX12_init_318 : decode cX12_init 318 = .ok (.aload_n 0, 1) := by decide +kernel
theorem dX12_init_319 : decode cX12_init 319 = .ok (.sipush 1500, 3) := by decide +kernel
theorem dX12_init_322 : decode cX12_init 322 = .ok (.newarray .boolean, 2) := by decide +kernel
theorem dX12_init_324 : decode cX12_init 324 = .ok (.putfield 123, 3) := by decide +kernel
theorem dX12_init_327 : decode cX12_init 327 = .ok (.aload_n 0, 1) := by decide +kernel
theorem dX12_init_328 : decode cX12_init 328 = .ok (.sipush 4000, 3) := by decide +kernel
theorem dX12_init_331 : decode cX12_init 331 = .ok (.newarray .int, 2) := by decide +kernel
theorem dX12_init_333 : decode cX12_init 333 = .ok (.putfield 126, 3) := by decide +kernel
theorem dX12_init_336 : decode cX12_init 336 = .ok (.aload_n 0, 1) := by decide +kernel
theorem dX12_init_337 : decode cX12_init 337 = .ok (.sipush 4000, 3) := by decide +kernel
theorem dX12_init_340 : decode cX12_init 340 = .ok (.newarray .int, 2) := by decide +kernel
theorem dX12_init_342 : decode cX12_init 342 = .ok (.putfield 129, 3) := by decide +kernel
theorem dX12_init_345 : decode cX12_init 345 = .ok (.aload_n 0, 1) := by decide +kernel
theorem dX12_init_346 : decode cX12_init 346 = .ok (.bipush 8, 2) := by decide +kernel
theorem dX12_init_348 : decode cX12_init 348 = .ok (.newarray .int, 2) := by decide +kernel
theorem dX12_init_350 : decode cX12_init 350 = .ok (.putfield 132, 3) := by decide +kernel
theorem dX12_init_353 : decode cX12_init 353 = .ok (.aload_n 0, 1) := by decide +kernel
theorem dX12_init_354 : decode cX12_init 354 = .ok (.bipush 8, 2) := by decide +kernel
theorem dX12_init_356 : decode cX12_init 356 = .ok (.newarray .int, 2) := by decide +kernel
theorem dX12_init_358 : decode cX12_init 358 = .ok (.putfield 135, 3) := by decide +kernel
theorem dX12_init_361 : decode cX12_init 361 = .ok (.aload_n 0, 1) := by decide +kernel
theorem dX12_init_362 : decode cX12_init 362 = .ok (.iconst (-1), 1) := by decide +kernel
theorem dX12_init_363 : decode cX12_init 363 = .ok (.putfield 138, 3) := by decide +kernel
theorem dX12_init_366 : decode cX12_init 366 = .ok (.aload_n 0, 1) := by decide +kernel
theorem dX12_init_367 : decode cX12_init 367 = .ok (.iconst 4, 1) := by decide +kernel
theorem dX12_init_368 : decode cX12_init 368 = .ok (.newarray .long, 2) := by decide +kernel
theorem dX12_init_370 : decode cX12_init 370 = .ok (.putfield 141, 3) := by decide +kernel
theorem dX12_init_373 : decode cX12_init 373 = .ok (.aload_n 0, 1) := by decide +kernel
theorem dX12_init_374 : decode cX12_init 374 = .ok (.sipush 700, 3) := by decide +kernel
theorem dX12_init_377 : decode cX12_init 377 = .ok (.newarray .long, 2) := by decide +kernel
theorem dX12_init_379 : decode cX12_init 379 = .ok (.putfield 144, 3) := by decide +kernel
theorem dX12_init_382 : decode cX12_init 382 = .ok (.aload_n 0, 1) := by decide +kernel
theorem dX12_init_383 : decode cX12_init 383 = .ok (.bipush 40, 2) := by decide +kernel
theorem dX12_init_385 : decode cX12_init 385 = .ok (.newarray .int, 2) := by decide +kernel
theorem dX12_init_387 : decode cX12_init 387 = .ok (.putfield 147, 3) := by decide +kernel
theorem dX12_init_390 : decode cX12_init 390 = .ok (.aload_n 0, 1) := by decide +kernel
theorem dX12_init_391 : decode cX12_init 391 = .ok (.bipush 40, 2) := by decide +kernel
theorem dX12_init_393 : decode cX12_init 393 = .ok (.newarray .int, 2) := by decide +kernel
theorem dX12_init_395 : decode cX12_init 395 = .ok (.putfield 150, 3) := by decide +kernel
theorem dX12_init_398 : decode cX12_init 398 = .ok (.aload_n 0, 1) := by decide +kernel
theorem dX12_init_399 : decode cX12_init 399 = .ok (.bipush 40, 2) := by decide +kernel
theorem dX12_init_401 : decode cX12_init 401 = .ok (.newarray .int, 2) := by decide +kernel
theorem dX12_init_403 : decode cX12_init 403 = .ok (.putfield 153, 3) := by decide +kernel
theorem dX12_init_406 : decode cX12_init 406 = .ok (.aload_n 0, 1) := by decide +kernel
theorem dX12_init_407 : decode cX12_init 407 = .ok (.sipush 200, 3) := by decide +kernel
theorem dX12_init_410 : decode cX12_init 410 = .ok (.newarray .int, 2) := by decide +kernel
theorem dX12_init_412 : decode cX12_init 412 = .ok (.putfield 156, 3) := by decide +kernel
theorem dX12_init_415 : decode cX12_init 415 = .ok (.aload_n 0, 1) := by decide +kernel
theorem dX12_init_416 : decode cX12_init 416 = .ok (.bipush 9, 2) := by decide +kernel
theorem dX12_init_418 : decode cX12_init 418 = .ok (.newarray .int, 2) := by decide +kernel
theorem dX12_init_420 : decode cX12_init 420 = .ok (.putfield 159, 3) := by decide +kernel
theorem dX12_init_423 : decode cX12_init 423 = .ok (.aload_n 0, 1) := by decide +kernel
theorem dX12_init_424 : decode cX12_init 424 = .ok (.bipush 9, 2) := by decide +kernel
theorem dX12_init_426 : decode cX12_init 426 = .ok (.newarray .int, 2) := by decide +kernel
theorem dX12_init_428 : decode cX12_init 428 = .ok (.putfield 162, 3) := by decide +kernel
theorem dX12_init_431 : decode cX12_init 431 = .ok (.aload_n 0, 1) := by decide +kernel
theorem dX12_init_432 : decode cX12_init 432 = .ok (.bipush 10, 2) := by decide +kernel
theorem dX12_init_434 : decode cX12_init 434 = .ok (.putfield 165, 3) := by decide +kernel
theorem dX12_init_437 : decode cX12_init 437 = .ok (.aload_n 0, 1) := by decide +kernel
theorem dX12_init_438 : decode cX12_init 438 = .ok (.iconst 3, 1) := by decide +kernel
theorem dX12_init_439 : decode cX12_init 439 = .ok (.putfield 168, 3) := by decide +kernel
theorem dX12_init_442 : decode cX12_init 442 = .ok (.aload_n 0, 1) := by decide +kernel
theorem dX12_init_443 : decode cX12_init 443 = .ok (.bipush 16, 2) := by decide +kernel
theorem dX12_init_445 : decode cX12_init 445 = .ok (.newarray .int, 2) := by decide +kernel
theorem dX12_init_447 : decode cX12_init 447 = .ok (.putfield 171, 3) := by decide +kernel
theorem dX12_init_450 : decode cX12_init 450 = .ok (.aload_n 0, 1) := by decide +kernel
theorem dX12_init_451 : decode cX12_init 451 = .ok (.bipush 16, 2) := by decide +kernel
theorem dX12_init_453 : decode cX12_init 453 = .ok (.newarray .int, 2) := by decide +kernel
theorem dX12_init_455 : decode cX12_init 455 = .ok (.putfield 174, 3) := by decide +kernel
theorem dX12_init_458 : decode cX12_init 458 = .ok (.aload_n 0, 1) := by decide +kernel
theorem dX12_init_459 : decode cX12_init 459 = .ok (.sipush 8320, 3) := by decide +kernel
theorem dX12_init_462 : decode cX12_init 462 = .ok (.newarray .int, 2) := by decide +kernel
theorem dX12_init_464 : decode cX12_init 464 = .ok (.putfield 177, 3) := by decide +kernel
theorem dX12_init_467 : decode cX12_init 467 = .ok (.aload_n 0, 1) := by decide +kernel
theorem dX12_init_468 : decode cX12_init 468 = .ok (.sipush 2001, 3) := by decide +kernel
theorem dX12_init_471 : decode cX12_init 471 = .ok (.newarray .long, 2) := by decide +kernel
theorem dX12_init_473 : decode cX12_init 473 = .ok (.putfield 180, 3) := by decide +kernel
theorem dX12_init_476 : decode cX12_init 476 = .ok (.aload_n 0, 1) := by decide +kernel
theorem dX12_init_477 : decode cX12_init 477 = .ok (.sipush 2001, 3) := by decide +kernel
theorem dX12_init_480 : decode cX12_init 480 = .ok (.newarray .long, 2) := by decide +kernel
theorem dX12_init_482 : decode cX12_init 482 = .ok (.putfield 183, 3) := by decide +kernel
theorem dX12_init_485 : decode cX12_init 485 = .ok (.aload_n 0, 1) := by decide +kernel
theorem dX12_init_486 : decode cX12_init 486 = .ok (.bipush 16, 2) := by decide +kernel
theorem dX12_init_488 : decode cX12_init 488 = .ok (.newarray .int, 2) := by decide +kernel
theorem dX12_init_490 : decode cX12_init 490 = .ok (.putfield 186, 3) := by decide +kernel
theorem dX12_init_493 : decode cX12_init 493 = .ok (.aload_n 0, 1) := by decide +kernel
theorem dX12_init_494 : decode cX12_init 494 = .ok (.bipush 16, 2) := by decide +kernel
theorem dX12_init_496 : decode cX12_init 496 = .ok (.newarray .int, 2) := by decide +kernel
theorem dX12_init_498 : decode cX12_init 498 = .ok (.putfield 189, 3) := by decide +kernel
theorem dX12_init_501 : decode cX12_init 501 = .ok (.aload_n 0, 1) := by decide +kernel
theorem dX12_init_502 : decode cX12_init 502 = .ok (.bipush 40, 2) := by decide +kernel
theorem dX12_init_504 : decode cX12_init 504 = .ok (.newarray .int, 2) := by decide +kernel
theorem dX12_init_506 : decode cX12_init 506 = .ok (.putfield 192, 3) := by decide +kernel
theorem dX12_init_509 : decode cX12_init 509 = .ok (.aload_n 0, 1) := by decide +kernel
theorem dX12_init_510 : decode cX12_init 510 = .ok (.bipush 40, 2) := by decide +kernel
theorem dX12_init_512 : decode cX12_init 512 = .ok (.newarray .int, 2) := by decide +kernel
theorem dX12_init_514 : decode cX12_init 514 = .ok (.putfield 195, 3) := by decide +kernel
theorem dX12_init_517 : decode cX12_init 517 = .ok (.aload_n 0, 1) := by decide +kernel
theorem dX12_init_518 : decode cX12_init 518 = .ok (.bipush 40, 2) := by decide +kernel
theorem dX12_init_520 : decode cX12_init 520 = .ok (.newarray .int, 2) := by decide +kernel
theorem dX12_init_522 : decode cX12_init 522 = .ok (.putfield 198, 3) := by decide +kernel
theorem dX12_init_525 : decode cX12_init 525 = .ok (.aload_n 0, 1) := by decide +kernel
theorem dX12_init_526 : decode cX12_init 526 = .ok (.bipush 40, 2) := by decide +kernel
theorem dX12_init_528 : decode cX12_init 528 = .ok (.newarray .int, 2) := by decide +kernel
theorem dX12_init_530 : decode cX12_init 530 = .ok (.putfield 201, 3) := by decide +kernel
theorem dX12_init_533 : decode cX12_init 533 = .ok (.aload_n 0, 1) := by decide +kernel
theorem dX12_init_534 : decode cX12_init 534 = .ok (.iconst 4, 1) := by decide +kernel
theorem dX12_init_535 : decode cX12_init 535 = .ok (.newarray .int, 2) := by decide +kernel
theorem dX12_init_537 : decode cX12_init 537 = .ok (.dup, 1) := by decide +kernel
theorem dX12_init_538 : decode cX12_init 538 = .ok (.iconst 0, 1) := by decide +kernel
theorem dX12_init_539 : decode cX12_init 539 = .ok (.bipush 30, 2) := by decide +kernel
theorem dX12_init_541 : decode cX12_init 541 = .ok (.iastore, 1) := by decide +kernel
theorem dX12_init_542 : decode cX12_init 542 = .ok (.dup, 1) := by decide +kernel
theorem dX12_init_543 : decode cX12_init 543 = .ok (.iconst 1, 1) := by decide +kernel
theorem dX12_init_544 : decode cX12_init 544 = .ok (.bipush 50, 2) := by decide +kernel
theorem dX12_init_546 : decode cX12_init 546 = .ok (.iastore, 1) := by decide +kernel
theorem dX12_init_547 : decode cX12_init 547 = .ok (.dup, 1) := by decide +kernel
theorem dX12_init_548 : decode cX12_init 548 = .ok (.iconst 2, 1) := by decide +kernel
theorem dX12_init_549 : decode cX12_init 549 = .ok (.bipush 70, 2) := by decide +kernel
theorem dX12_init_551 : decode cX12_init 551 = .ok (.iastore, 1) := by decide +kernel
theorem dX12_init_552 : decode cX12_init 552 = .ok (.dup, 1) := by decide +kernel
theorem dX12_init_553 : decode cX12_init 553 = .ok (.iconst 3, 1) := by decide +kernel
theorem dX12_init_554 : decode cX12_init 554 = .ok (.bipush 100, 2) := by decide +kernel
theorem dX12_init_556 : decode cX12_init 556 = .ok (.iastore, 1) := by decide +kernel
theorem dX12_init_557 : decode cX12_init 557 = .ok (.putfield 204, 3) := by decide +kernel
theorem dX12_init_560 : decode cX12_init 560 = .ok (.aload_n 0, 1) := by decide +kernel
theorem dX12_init_561 : decode cX12_init 561 = .ok (.sipush 200, 3) := by decide +kernel
theorem dX12_init_564 : decode cX12_init 564 = .ok (.newarray .int, 2) := by decide +kernel
theorem dX12_init_566 : decode cX12_init 566 = .ok (.putfield 207, 3) := by decide +kernel
theorem dX12_init_569 : decode cX12_init 569 = .ok (.aload_n 0, 1) := by decide +kernel
theorem dX12_init_570 : decode cX12_init 570 = .ok (.sipush 200, 3) := by decide +kernel
theorem dX12_init_573 : decode cX12_init 573 = .ok (.newarray .int, 2) := by decide +kernel
theorem dX12_init_575 : decode cX12_init 575 = .ok (.putfield 210, 3) := by decide +kernel
theorem dX12_init_578 : decode cX12_init 578 = .ok (.aload_n 0, 1) := by decide +kernel
theorem dX12_init_579 : decode cX12_init 579 = .ok (.bipush 8, 2) := by decide +kernel
theorem dX12_init_581 : decode cX12_init 581 = .ok (.newarray .int, 2) := by decide +kernel
theorem dX12_init_583 : decode cX12_init 583 = .ok (.putfield 213, 3) := by decide +kernel
theorem dX12_init_586 : decode cX12_init 586 = .ok (.aload_n 0, 1) := by decide +kernel
theorem dX12_init_587 : decode cX12_init 587 = .ok (.bipush 8, 2) := by decide +kernel
theorem dX12_init_589 : decode cX12_init 589 = .ok (.newarray .int, 2) := by decide +kernel
theorem dX12_init_591 : decode cX12_init 591 = .ok (.putfield 216, 3) := by decide +kernel
theorem dX12_init_594 : decode cX12_init 594 = .ok (.aload_n 0, 1) := by decide +kernel
theorem dX12_init_595 : decode cX12_init 595 = .ok (.bipush 8, 2) := by decide +kernel
theorem dX12_init_597 : decode cX12_init 597 = .ok (.newarray .int, 2) := by decide +kernel
theorem dX12_init_599 : decode cX12_init 599 = .ok (.putfield 219, 3) := by decide +kernel
theorem dX12_init_602 : decode cX12_init 602 = .ok (.aload_n 0, 1) := by decide +kernel
theorem dX12_init_603 : decode cX12_init 603 = .ok (.bipush 8, 2) := by decide +kernel
theorem dX12_init_605 : decode cX12_init 605 = .ok (.newarray .int, 2) := by decide +kernel
theorem dX12_init_607 : decode cX12_init 607 = .ok (.putfield 222, 3) := by decide +kernel
theorem dX12_init_610 : decode cX12_init 610 = .ok (.aload_n 0, 1) := by decide +kernel
theorem dX12_init_611 : decode cX12_init 611 = .ok (.bipush 12, 2) := by decide +kernel
theorem dX12_init_613 : decode cX12_init 613 = .ok (.newarray .int, 2) := by decide +kernel
theorem dX12_init_615 : decode cX12_init 615 = .ok (.putfield 225, 3) := by decide +kernel
theorem dX12_init_618 : decode cX12_init 618 = .ok (.aload_n 0, 1) := by decide +kernel
theorem dX12_init_619 : decode cX12_init 619 = .ok (.bipush 12, 2) := by decide +kernel
theorem dX12_init_621 : decode cX12_init 621 = .ok (.newarray .int, 2) := by decide +kernel
theorem dX12_init_623 : decode cX12_init 623 = .ok (.putfield 228, 3) := by decide +kernel
theorem dX12_init_626 : decode cX12_init 626 = .ok (.return_, 1) := by decide +kernel
set_option maxRecDepth 100000 in
def B2_X12_init : pb_C2 := (c_aload 0 (c_obj (c_aload 0 (c_const (.long 1) (c_putT (tyX12 2) 12 2 (c_aload 0 (c_const (.int 4) (c_newa 0 4 65 38655 (c_putT (tyX12 3) 12 3 (c_aload 0 (c_const (.int 4) (c_newa 0 4 65 38655 (c_dup (c_const (.int 0) (c_const (.int (-1)) (c_ast (c_dup (c_const (.int 1) (c_const (.int (-1)) (c_ast (c_dup (c_const (.int 2) (c_const (.int (-1)) (c_ast (c_dup (c_const (.int 3) (c_const (.int (-1)) (c_ast (c_putT (tyX12 4) 12 4 (c_aload 0 (c_const (.int 240) (c_newa 3 240 65 38655 (c_putT (tyX12 5) 12 5 (c_aload 0 (c_const (.int 9999) (c_putT (tyX12 10) 12 10 (c_aload 0 (c_const (.int 12) (c_newa 0 12 65 38655 (c_putT (tyX12 12) 12 12 (c_aload 0 (c_const (.int 12) (c_newa 0 12 65 38655 (c_putT (tyX12 13) 12 13 (c_aload 0 (c_const (.int 200) (c_newa 0 200 65 38655 (c_putT (tyX12 14) 12 14 (c_aload 0 (c_const (.int 200) (c_newa 0 200 65 38655 (c_putT (tyX12 15) 12 15 (c_aload 0 (c_const (.int 200) (c_newa 0 200 65 38655 (c_putT (tyX12 16) 12 16 (c_aload 0 (c_const (.int 200) (c_newa 0 200 65 38655 (c_putT (tyX12 17) 12 17 (c_aload 0 (c_const (.int 200) (c_newa 0 200 65 38655 (c_putT (tyX12 18) 12 18 (c_aload 0 (c_const (.int 200) (c_newa 0 200 65 38655 (c_putT (tyX12 19) 12 19 (c_aload 0 (c_const (.int 60) (c_newa 0 60 65 38655 (c_putT (tyX12 20) 12 20 (c_aload 0 (c_const (.int 60) (c_newa 0 60 65 38655 (c_putT (tyX12 21) 12 21 (c_aload 0 (c_const (.int 60) (c_newa 0 60 65 38655 (c_putT (tyX12 22) 12 22 (c_aload 0 (c_const (.int 600) (c_newa 3 600 65 38655 (c_putT (tyX12 23) 12 23 (c_aload 0 (c_const (.int 3) (c_newa 3 3 65 38655 (c_putT (tyX12 24) 12 24 (c_aload 0 (c_const (.int 200) (c_newa 1 200 65 38655 (c_putT (tyX12 25) 12 25 (c_aload 0 (c_const (.int 600) (c_newa 2 600 65 38655 (c_putT (tyX12 26) 12 26 (c_aload 0 (c_const (.int 600) (c_newa 2 600 65 38655 (c_putT (tyX12 27) 12 27 (c_aload 0 (c_const (.int (-1)) (c_putT (tyX12 34) 12 34 (c_aload 0 (c_const (.int (-1)) (c_putT (tyX12 35) 12 35 (c_aload 0 (c_const (.int 6) (c_newa 0 6 65 38655 (c_putT (tyX12 40) 12 40 (c_aload 0 (c_const (.int 186) (c_newa 0 186 65 38655 (c_putT (tyX12 41) 12 41 (c_aload 0 (c_const (.int 186) (c_newa 0 186 65 38655 (c_putT (tyX12 42) 12 42 (c_aload 0 (c_const (.int 186) (c_newa 0 186 65 38655 (c_putT (tyX12 43) 12 43 (c_aload 0 (c_const (.int 186) (c_newa 0 186 65 38655 (c_putT (tyX12 44) 12 44 (c_aload 0 (c_const (.int 186) (c_newa 0 186 65 38655 (c_putT (tyX12 45) 12 45 (c_aload 0 (c_const (.int 1500) (c_newa 0 1500 65 38655 (c_putT (tyX12 46) 12 46 (c_aload 0 (c_const (.int 1500) (c_newa 0 1500 65 38655 (c_putT (tyX12 47) 12 47 (c_aload 0 (c_const (.int 1500) (c_newa 0 1500 65 38655 (c_putT (tyX12 48) 12 48 (c_aload 0 (c_const (.int 1500) (c_newa 0 1500 65 38655 (c_putT (tyX12 49) 12 49 (c_aload 0 (c_const (.int 1500) (c_newa 0 1500 65 38655 (c_putT (tyX12 50) 12 50 (c_aload 0 (c_const (.int 1500) (c_newa 3 1500 65 38655 (c_putT (tyX12 51) 12 51 (c_aload 0 (c_const (.int 1500) (c_newa 1 1500 65 38655 (c_putT (tyX12 52) 12 52 (c_aload 0 (c_const (.int 1500) (c_newa 1 1500 65 38655 (c_putT (tyX12 53) 12 53 (c_aload 0 (c_const (.int 4000) (c_newa 0 4000 65 38655 (c_putT (tyX12 54) 12 54 (c_aload 0 (c_const (.int 4000) (c_newa 0 4000 65 38655 (c_putT (tyX12 55) 12 55 (c_aload 0 (c_const (.int 8) (c_newa 0 8 65 38655 (c_putT (tyX12 56) 12 56 (c_aload 0 (c_const (.int 8) (c_newa 0 8 65 38655 (c_putT (tyX12 57) 12 57 (c_aload 0 (c_const (.int (-1)) (c_putT (tyX12 58) 12 58 (c_aload 0 (c_const (.int 4) (c_newa 3 4 65 38655 (c_putT (tyX12 59) 12 59 (c_aload 0 (c_const (.int 700) (c_newa 3 700 65 38655 (c_putT (tyX12 60) 12 60 (c_aload 0 (c_const (.int 40) (c_newa 0 40 65 38655 (c_putT (tyX12 64) 12 64 (c_aload 0 (c_const (.int 40) (c_newa 0 40 65 38655 (c_putT (tyX12 65) 12 65 (c_aload 0 (c_const (.int 40) (c_newa 0 40 65 38655 (c_putT (tyX12 66) 12 66 (c_aload 0 (c_const (.int 200) (c_newa 0 200 65 38655 (c_putT (tyX12 68) 12 68 (c_aload 0 (c_const (.int 9) (c_newa 0 9 65 38655 (c_putT (tyX12 69) 12 69 (c_aload 0 (c_const (.int 9) (c_newa 0 9 65 38655 (c_putT (tyX12 70) 12 70 (c_aload 0 (c_const (.int 10) (c_putT (tyX12 76) 12 76 (c_aload 0 (c_const (.int 3) (c_putT (tyX12 77) 12 77 (c_aload 0 (c_const (.int 16) (c_newa 0 16 65 38655 (c_putT (tyX12 78) 12 78 (c_aload 0 (c_const (.int 16) (c_newa 0 16 65 38655 (c_putT (tyX12 79) 12 79 (c_aload 0 (c_const (.int 8320) (c_newa 0 8320 65 38655 (c_putT (tyX12 80) 12 80 (c_aload 0 (c_const (.int 2001) (c_newa 3 2001 65 38655 (c_putT (tyX12 81) 12 81 (c_aload 0 (c_const (.int 2001) (c_newa 3 2001 65 38655 (c_putT (tyX12 82) 12 82 (c_aload 0 (c_const (.int 16) (c_newa 0 16 65 38655 (c_putT (tyX12 83) 12 83 (c_aload 0 (c_const (.int 16) (c_newa 0 16 65 38655 (c_putT (tyX12 84) 12 84 (c_aload 0 (c_const (.int 40) (c_newa 0 40 65 38655 (c_putT (tyX12 86) 12 86 (c_aload 0 (c_const (.int 40) (c_newa 0 40 65 38655 (c_putT (tyX12 87) 12 87 (c_aload 0 (c_const (.int 40) (c_newa 0 40 65 38655 (c_putT (tyX12 88) 12 88 (c_aload 0 (c_const (.int 40) (c_newa 0 40 65 38655 (c_putT (tyX12 89) 12 89 (c_aload 0 (c_const (.int 4) (c_newa 0 4 65 38655 (c_dup (c_const (.int 0) (c_const (.int 30) (c_ast (c_dup (c_const (.int 1) (c_const (.int 50) (c_ast (c_dup (c_const (.int 2) (c_const (.int 70) (c_ast (c_dup (c_const (.int 3) (c_const (.int 100) (c_ast (c_putT (tyX12 90) 12 90 (c_aload 0 (c_const (.int 200) (c_newa 0 200 65 38655 (c_putT (tyX12 91) 12 91 (c_aload 0 (c_const (.int 200) (c_newa 0 200 65 38655 (c_putT (tyX12 92) 12 92 (c_aload 0 (c_const (.int 8) (c_newa 0 8 65 38655 (c_putT (tyX12 93) 12 93 (c_aload 0 (c_const (.int 8) (c_newa 0 8 65 38655 (c_putT (tyX12 94) 12 94 (c_aload 0 (c_const (.int 8) (c_newa 0 8 65 38655 (c_putT (tyX12 95) 12 95 (c_aload 0 (c_const (.int 8) (c_newa 0 8 65 38655 (c_putT (tyX12 96) 12 96 (c_aload 0 (c_const (.int 12) (c_newa 0 12 65 38655 (c_putT (tyX12 99) 12 99 (c_aload 0 (c_const (.int 12) (c_newa 0 12 65 38655 (c_putT (tyX12 100) 12 100 (c_vret 65 38655))))))))))))))))))))))))))))))))))))))))))))))))))))))))))))))))))))))))))))))))))))))))))))))))))))))))))))))))))))))))))))))))))))))))))))))))))))))))))))))))))))))))))))))))))))))))))))))))))))))))))))))))))))))))))))))))))))))))))))))))))))))))))))))))))))))))))))))))))))))))))))))))))))))))))))))))))))))))))))
def F2_X12_init : pb_F2 := fun av E => bif Nat.ble (pb_cat av) 1 then (B2_X12_init (pb_ini 1 av) [] E 0 0).map (·.1) else none
set_option maxRecDepth 100000 in
set_option maxHeartbeats 8000000 in
theorem S2_X12_init (l : Launch) : pb_Sound2 l yX12_init cX12_init 1 2 65 38655 F2_X12_init := by
  refine pb_sound2_of (by decide) rfl m_6_149 ?_
  intro Γ hl0 hRm0 hm X hE hini
  have hRc : 65 ≤ Γ.2.2.2.1.cells ∧ 38655 ≤ Γ.2.2.2.1.slots := by rw [hRm0]; exact ⟨Nat.le_refl _, Nat.le_refl _⟩
  have hRo : 1 ≤ Γ.2.2.2.1.frames ∧ 64 ≤ Γ.2.2.2.1.locals := by rw [hRm0]; exact ⟨by decide, by decide⟩
  have hR : ∀ (d' mL MC' MS' : Nat), d' + 1 ≤ 2 ∧ 8 + (mL + 11) + d' * 64 ≤ 2 * 64 → (pb_rm2 d' MC' MS').frames + 1 ≤ Γ.2.2.2.1.frames ∧ 8 + (mL + 11) + (pb_rm2 d' MC' MS').locals ≤ Γ.2.2.2.1.locals := by rw [hRm0]; exact fun _ _ _ _ h => h
  exact (k_aload_n (pc := 0) X dX12_init_0 rfl (k_obj (pc := 1) X dX12_init_1 m_6_150 m_objinit hRo (k_aload_n (pc := 4) X dX12_init_4 rfl (k_lconst (pc := 5) X dX12_init_5 rfl (k_put (pc := 6) X dX12_init_6 rfl (by decide) u_X12 m_6_153 tyX12_ok nmX12 rfl (k_aload_n (pc := 9) X dX12_init_9 rfl (k_iconst (pc := 10) X dX12_init_10 rfl (k_newa (pc := 11) X dX12_init_11 (ty := .int) rfl m_arr_int (fun _ => rfl) (fun _ _ => Iff.rfl) (fun _ => rfl) (by decide) (by decide) hRc (k_putF (pc := 13) X hini dX12_init_13 rfl (by decide) u_X12 m_6_154 tyX12_ok nmX12 rfl rfl (k_aload_n (pc := 16) X dX12_init_16 rfl (k_iconst (pc := 17) X dX12_init_17 rfl (k_newa (pc := 18) X dX12_init_18 (ty := .int) rfl m_arr_int (fun _ => rfl) (fun _ _ => Iff.rfl) (fun _ => rfl) (by decide) (by decide) hRc (k_dup (pc := 20) X dX12_init_20 (k_iconst (pc := 21) X dX12_init_21 rfl (k_iconst (pc := 22) X dX12_init_22 rfl (k_ast (pc := 23) X dX12_init_23 (k_dup (pc := 24) X dX12_init_24 (k_iconst (pc := 25) X dX12_init_25 rfl (k_iconst (pc := 26) X dX12_init_26 rfl (k_ast (pc := 27) X dX12_init_27 (k_dup (pc := 28) X dX12_init_28 (k_iconst (pc := 29) X dX12_init_29 rfl (k_iconst (pc := 30) X dX12_init_30 rfl (k_ast (pc := 31) X dX12_init_31 (k_dup (pc := 32) X dX12_init_32 (k_iconst (pc := 33) X dX12_init_33 rfl (k_iconst (pc := 34) X dX12_init_34 rfl (k_ast (pc := 35) X dX12_init_35 (k_putF (pc := 36) X hini dX12_init_36 rfl (by decide) u_X12 m_6_155 tyX12_ok nmX12 rfl rfl (k_aload_n (pc := 39) X dX12_init_39 rfl (k_sipush (pc := 40) X dX12_init_40 rfl (k_newa (pc := 43) X dX12_init_43 (ty := .long) rfl m_arr_long (fun _ => rfl) (fun _ _ => Iff.rfl) (fun _ => rfl) (by decide) (by decide) hRc (k_putF (pc := 45) X hini dX12_init_45 rfl (by decide) u_X12 m_6_156 tyX12_ok nmX12 rfl rfl (k_aload_n (pc := 48) X dX12_init_48 rfl (k_sipush (pc := 49) X dX12_init_49 rfl (k_put (pc := 52) X dX12_init_52 rfl (by decide) u_X12 m_6_161 tyX12_ok nmX12 rfl (k_aload_n (pc := 55) X dX12_init_55 rfl (k_bipush (pc := 56) X dX12_init_56 rfl (k_newa (pc := 58) X dX12_init_58 (ty := .int) rfl m_arr_int (fun _ => rfl) (fun _ _ => Iff.rfl) (fun _ => rfl) (by decide) (by decide) hRc (k_putF (pc := 60) X hini dX12_init_60 rfl (by decide) u_X12 m_6_163 tyX12_ok nmX12 rfl rfl (k_aload_n (pc := 63) X dX12_init_63 rfl (k_bipush (pc := 64) X dX12_init_64 rfl (k_newa (pc := 66) X dX12_init_66 (ty := .int) rfl m_arr_int (fun _ => rfl) (fun _ _ => Iff.rfl) (fun _ => rfl) (by decide) (by decide) hRc (k_putF (pc := 68) X hini dX12_init_68 rfl (by decide) u_X12 m_6_164 tyX12_ok nmX12 rfl rfl (k_aload_n (pc := 71) X dX12_init_71 rfl (k_sipush (pc := 72) X dX12_init_72 rfl (k_newa (pc := 75) X dX12_init_75 (ty := .int) rfl m_arr_int (fun _ => rfl) (fun _ _ => Iff.rfl) (fun _ => rfl) (by decide) (by decide) hRc (k_putF (pc := 77) X hini dX12_init_77 rfl (by decide) u_X12 m_6_165 tyX12_ok nmX12 rfl rfl (k_aload_n (pc := 80) X dX12_init_80 rfl (k_sipush (pc := 81) X dX12_init_81 rfl (k_newa (pc := 84) X dX12_init_84 (ty := .int) rfl m_arr_int (fun _ => rfl) (fun _ _ => Iff.rfl) (fun _ => rfl) (by decide) (by decide) hRc (k_putF (pc := 86) X hini dX12_init_86 rfl (by decide) u_X12 m_6_166 tyX12_ok nmX12 rfl rfl (k_aload_n (pc := 89) X dX12_init_89 rfl (k_sipush (pc := 90) X dX12_init_90 rfl (k_newa (pc := 93) X dX12_init_93 (ty := .int) rfl m_arr_int (fun _ => rfl) (fun _ _ => Iff.rfl) (fun _ => rfl) (by decide) (by decide) hRc (k_putF (pc := 95) X hini dX12_init_95 rfl (by decide) u_X12 m_6_167 tyX12_ok nmX12 rfl rfl (k_aload_n (pc := 98) X dX12_init_98 rfl (k_sipush (pc := 99) X dX12_init_99 rfl (k_newa (pc := 102) X dX12_init_102 (ty := .int) rfl m_arr_int (fun _ => rfl) (fun _ _ => Iff.rfl) (fun _ => rfl) (by decide) (by decide) hRc (k_putF (pc := 104) X hini dX12_init_104 rfl (by decide) u_X12 m_6_168 tyX12_ok nmX12 rfl rfl (k_aload_n (pc := 107) X dX12_init_107 rfl (k_sipush (pc := 108) X dX12_init_108 rfl (k_newa (pc := 111) X dX12_init_111 (ty := .int) rfl m_arr_int (fun _ => rfl) (fun _ _ => Iff.rfl) (fun _ => rfl) (by decide) (by decide) hRc (k_putF (pc := 113) X hini dX12_init_113 rfl (by decide) u_X12 m_6_169 tyX12_ok nmX12 rfl rfl (k_aload_n (pc := 116) X dX12_init_116 rfl (k_sipush (pc := 117) X dX12_init_117 rfl (k_newa (pc := 120) X dX12_init_120 (ty := .int) rfl m_arr_int (fun _ => rfl) (fun _ _ => Iff.rfl) (fun _ => rfl) (by decide) (by decide) hRc (k_putF (pc := 122) X hini dX12_init_122 rfl (by decide) u_X12 m_6_170 tyX12_ok nmX12 rfl rfl (k_aload_n (pc := 125) X dX12_init_125 rfl (k_bipush (pc := 126) X dX12_init_126 rfl (k_newa (pc := 128) X dX12_init_128 (ty := .int) rfl m_arr_int (fun _ => rfl) (fun _ _ => Iff.rfl) (fun _ => rfl) (by decide) (by decide) hRc (k_putF (pc := 130) X hini dX12_init_130 rfl (by decide) u_X12 m_6_171 tyX12_ok nmX12 rfl rfl (k_aload_n (pc := 133) X dX12_init_133 rfl (k_bipush (pc := 134) X dX12_init_134 rfl (k_newa (pc := 136) X dX12_init_136 (ty := .int) rfl m_arr_int (fun _ => rfl) (fun _ _ => Iff.rfl) (fun _ => rfl) (by decide) (by decide) hRc (k_putF (pc := 138) X hini dX12_init_138 rfl (by decide) u_X12 m_6_172 tyX12_ok nmX12 rfl rfl (k_aload_n (pc := 141) X dX12_init_141 rfl (k_bipush (pc := 142) X dX12_init_142 rfl (k_newa (pc := 144) X dX12_init_144 (ty := .int) rfl m_arr_int (fun _ => rfl) (fun _ _ => Iff.rfl) (fun _ => rfl) (by decide) (by decide) hRc (k_putF (pc := 146) X hini dX12_init_146 rfl (by decide) u_X12 m_6_173 tyX12_ok nmX12 rfl rfl (k_aload_n (pc := 149) X dX12_init_149 rfl (k_sipush (pc := 150) X dX12_init_150 rfl (k_newa (pc := 153) X dX12_init_153 (ty := .long) rfl m_arr_long (fun _ => rfl) (fun _ _ => Iff.rfl) (fun _ => rfl) (by decide) (by decide) hRc (k_putF (pc := 155) X hini dX12_init_155 rfl (by decide) u_X12 m_6_174 tyX12_ok nmX12 rfl rfl (k_aload_n (pc := 158) X dX12_init_158 rfl (k_iconst (pc := 159) X dX12_init_159 rfl (k_newa (pc := 160) X dX12_init_160 (ty := .long) rfl m_arr_long (fun _ => rfl) (fun _ _ => Iff.rfl) (fun _ => rfl) (by decide) (by decide) hRc (k_putF (pc := 162) X hini dX12_init_162 rfl (by decide) u_X12 m_6_175 tyX12_ok nmX12 rfl rfl (k_aload_n (pc := 165) X dX12_init_165 rfl (k_sipush (pc := 166) X dX12_init_166 rfl (k_newa (pc := 169) X dX12_init_169 (ty := .boolean) rfl m_arr_boolean (fun _ => rfl) (fun _ _ => Iff.rfl) (fun _ => rfl) (by decide) (by decide) hRc (k_putF (pc := 171) X hini dX12_init_171 rfl (by decide) u_X12 m_6_176 tyX12_ok nmX12 rfl rfl (k_aload_n (pc := 174) X dX12_init_174 rfl (k_sipush (pc := 175) X dX12_init_175 rfl (k_newa (pc := 178) X dX12_init_178 (ty := .byte) rfl m_arr_byte (fun _ => rfl) (fun _ _ => Iff.rfl) (fun _ => rfl) (by decide) (by decide) hRc (k_putF (pc := 180) X hini dX12_init_180 rfl (by decide) u_X12 m_6_177 tyX12_ok nmX12 rfl rfl (k_aload_n (pc := 183) X dX12_init_183 rfl (k_sipush (pc := 184) X dX12_init_184 rfl (k_newa (pc := 187) X dX12_init_187 (ty := .byte) rfl m_arr_byte (fun _ => rfl) (fun _ _ => Iff.rfl) (fun _ => rfl) (by decide) (by decide) hRc (k_putF (pc := 189) X hini dX12_init_189 rfl (by decide) u_X12 m_6_178 tyX12_ok nmX12 rfl rfl (k_aload_n (pc := 192) X dX12_init_192 rfl (k_iconst (pc := 193) X dX12_init_193 rfl (k_put (pc := 194) X dX12_init_194 rfl (by decide) u_X12 m_6_185 tyX12_ok nmX12 rfl (k_aload_n (pc := 197) X dX12_init_197 rfl (k_iconst (pc := 198) X dX12_init_198 rfl (k_put (pc := 199) X dX12_init_199 rfl (by decide) u_X12 m_6_186 tyX12_ok nmX12 rfl (k_aload_n (pc := 202) X dX12_init_202 rfl (k_bipush (pc := 203) X dX12_init_203 rfl (k_newa (pc := 205) X dX12_init_205 (ty := .int) rfl m_arr_int (fun _ => rfl) (fun _ _ => Iff.rfl) (fun _ => rfl) (by decide) (by decide) hRc (k_putF (pc := 207) X hini dX12_init_207 rfl (by decide) u_X12 m_6_191 tyX12_ok nmX12 rfl rfl (k_aload_n (pc := 210) X dX12_init_210 rfl (k_sipush (pc := 211) X dX12_init_211 rfl (k_newa (pc := 214) X dX12_init_214 (ty := .int) rfl m_arr_int (fun _ => rfl) (fun _ _ => Iff.rfl) (fun _ => rfl) (by decide) (by decide) hRc (k_putF (pc := 216) X hini dX12_init_216 rfl (by decide) u_X12 m_6_192 tyX12_ok nmX12 rfl rfl (k_aload_n (pc := 219) X dX12_init_219 rfl (k_sipush (pc := 220) X dX12_init_220 rfl (k_newa (pc := 223) X dX12_init_223 (ty := .int) rfl m_arr_int (fun _ => rfl) (fun _ _ => Iff.rfl) (fun _ => rfl) (by decide) (by decide) hRc (k_putF (pc := 225) X hini dX12_init_225 rfl (by decide) u_X12 m_6_193 tyX12_ok nmX12 rfl rfl (k_aload_n (pc := 228) X dX12_init_228 rfl (k_sipush (pc := 229) X dX12_init_229 rfl (k_newa (pc := 232) X dX12_init_232 (ty := .int) rfl m_arr_int (fun _ => rfl) (fun _ _ => Iff.rfl) (fun _ => rfl) (by decide) (by decide) hRc (k_putF (pc := 234) X hini dX12_init_234 rfl (by decide) u_X12 m_6_194 tyX12_ok nmX12 rfl rfl (k_aload_n (pc := 237) X dX12_init_237 rfl (k_sipush (pc := 238) X dX12_init_238 rfl (k_newa (pc := 241) X dX12_init_241 (ty := .int) rfl m_arr_int (fun _ => rfl) (fun _ _ => Iff.rfl) (fun _ => rfl) (by decide) (by decide) hRc (k_putF (pc := 243) X hini dX12_init_243 rfl (by decide) u_X12 m_6_195 tyX12_ok nmX12 rfl rfl (k_aload_n (pc := 246) X dX12_init_246 rfl (k_sipush (pc := 247) X dX12_init_247 rfl (k_newa (pc := 250) X dX12_init_250 (ty := .int) rfl m_arr_int (fun _ => rfl) (fun _ _ => Iff.rfl) (fun _ => rfl) (by decide) (by decide) hRc (k_putF (pc := 252) X hini dX12_init_252 rfl (by decide) u_X12 m_6_196 tyX12_ok nmX12 rfl rfl (k_aload_n (pc := 255) X dX12_init_255 rfl (k_sipush (pc := 256) X dX12_init_256 rfl (k_newa (pc := 259) X dX12_init_259 (ty := .int) rfl m_arr_int (fun _ => rfl) (fun _ _ => Iff.rfl) (fun _ => rfl) (by decide) (by decide) hRc (k_putF (pc := 261) X hini dX12_init_261 rfl (by decide) u_X12 m_6_197 tyX12_ok nmX12 rfl rfl (k_aload_n (pc := 264) X dX12_init_264 rfl (k_sipush (pc := 265) X dX12_init_265 rfl (k_newa (pc := 268) X dX12_init_268 (ty := .int) rfl m_arr_int (fun _ => rfl) (fun _ _ => Iff.rfl) (fun _ => rfl) (by decide) (by decide) hRc (k_putF (pc := 270) X hini dX12_init_270 rfl (by decide) u_X12 m_6_198 tyX12_ok nmX12 rfl rfl (k_aload_n (pc := 273) X dX12_init_273 rfl (k_sipush (pc := 274) X dX12_init_274 rfl (k_newa (pc := 277) X dX12_init_277 (ty := .int) rfl m_arr_int (fun _ => rfl) (fun _ _ => Iff.rfl) (fun _ => rfl) (by decide) (by decide) hRc (k_putF (pc := 279) X hini dX12_init_279 rfl (by decide) u_X12 m_6_199 tyX12_ok nmX12 rfl rfl (k_aload_n (pc := 282) X dX12_init_282 rfl (k_sipush (pc := 283) X dX12_init_283 rfl (k_newa (pc := 286) X dX12_init_286 (ty := .int) rfl m_arr_int (fun _ => rfl) (fun _ _ => Iff.rfl) (fun _ => rfl) (by decide) (by decide) hRc (k_putF (pc := 288) X hini dX12_init_288 rfl (by decide) u_X12 m_6_200 tyX12_ok nmX12 rfl rfl (k_aload_n (pc := 291) X dX12_init_291 rfl (k_sipush (pc := 292) X dX12_init_292 rfl (k_newa (pc := 295) X dX12_init_295 (ty := .int) rfl m_arr_int (fun _ => rfl) (fun _ _ => Iff.rfl) (fun _ => rfl) (by decide) (by decide) hRc (k_putF (pc := 297) X hini dX12_init_297 rfl (by decide) u_X12 m_6_201 tyX12_ok nmX12 rfl rfl (k_aload_n (pc := 300) X dX12_init_300 rfl (k_sipush (pc := 301) X dX12_init_301 rfl (k_newa (pc := 304) X dX12_init_304 (ty := .long) rfl m_arr_long (fun _ => rfl) (fun _ _ => Iff.rfl) (fun _ => rfl) (by decide) (by decide) hRc (k_putF (pc := 306) X hini dX12_init_306 rfl (by decide) u_X12 m_6_202 tyX12_ok nmX12 rfl rfl (k_aload_n (pc := 309) X dX12_init_309 rfl (k_sipush (pc := 310) X dX12_init_310 rfl (k_newa (pc := 313) X dX12_init_313 (ty := .boolean) rfl m_arr_boolean (fun _ => rfl) (fun _ _ => Iff.rfl) (fun _ => rfl) (by decide) (by decide) hRc (k_putF (pc := 315) X hini dX12_init_315 rfl (by decide) u_X12 m_6_203 tyX12_ok nmX12 rfl rfl (k_aload_n (pc := 318) X dX12_init_318 rfl (k_sipush (pc := 319) X dX12_init_319 rfl (k_newa (pc := 322) X dX12_init_322 (ty := .boolean) rfl m_arr_boolean (fun _ => rfl) (fun _ _ => Iff.rfl) (fun _ => rfl) (by decide) (by decide) hRc (k_putF (pc := 324) X hini dX12_init_324 rfl (by decide) u_X12 m_6_204 tyX12_ok nmX12 rfl rfl (k_aload_n (pc := 327) X dX12_init_327 rfl (k_sipush (pc := 328) X dX12_init_328 rfl (k_newa (pc := 331) X dX12_init_331 (ty := .int) rfl m_arr_int (fun _ => rfl) (fun _ _ => Iff.rfl) (fun _ => rfl) (by decide) (by decide) hRc (k_putF (pc := 333) X hini dX12_init_333 rfl (by decide) u_X12 m_6_205 tyX12_ok nmX12 rfl rfl (k_aload_n (pc := 336) X dX12_init_336 rfl (k_sipush (pc := 337) X dX12_init_337 rfl (k_newa (pc := 340) X dX12_init_340 (ty := .int) rfl m_arr_int (fun _ => rfl) (fun _ _ => Iff.rfl) (fun _ => rfl) (by decide) (by decide) hRc (k_putF (pc := 342) X hini dX12_init_342 rfl (by decide) u_X12 m_6_206 tyX12_ok nmX12 rfl rfl (k_aload_n (pc := 345) X dX12_init_345 rfl (k_bipush (pc := 346) X dX12_init_346 rfl (k_newa (pc := 348) X dX12_init_348 (ty := .int) rfl m_arr_int (fun _ => rfl) (fun _ _ => Iff.rfl) (fun _ => rfl) (by decide) (by decide) hRc (k_putF (pc := 350) X hini dX12_init_350 rfl (by decide) u_X12 m_6_207 tyX12_ok nmX12 rfl rfl (k_aload_n (pc := 353) X dX12_init_353 rfl (k_bipush (pc := 354) X dX12_init_354 rfl (k_newa (pc := 356) X dX12_init_356 (ty := .int) rfl m_arr_int (fun _ => rfl) (fun _ _ => Iff.rfl) (fun _ => rfl) (by decide) (by decide) hRc (k_putF (pc := 358) X hini dX12_init_358 rfl (by decide) u_X12 m_6_208 tyX12_ok nmX12 rfl rfl (k_aload_n (pc := 361) X dX12_init_361 rfl (k_iconst (pc := 362) X dX12_init_362 rfl (k_put (pc := 363) X dX12_init_363 rfl (by decide) u_X12 m_6_209 tyX12_ok nmX12 rfl (k_aload_n (pc := 366) X dX12_init_366 rfl (k_iconst (pc := 367) X dX12_init_367 rfl (k_newa (pc := 368) X dX12_init_368 (ty := .long) rfl m_arr_long (fun _ => rfl) (fun _ _ => Iff.rfl) (fun _ => rfl) (by decide) (by decide) hRc (k_putF (pc := 370) X hini dX12_init_370 rfl (by decide) u_X12 m_6_210 tyX12_ok nmX12 rfl rfl (k_aload_n (pc := 373) X dX12_init_373 rfl (k_sipush (pc := 374) X dX12_init_374 rfl (k_newa (pc := 377) X dX12_init_377 (ty := .long) rfl m_arr_long (fun _ => rfl) (fun _ _ => Iff.rfl) (fun _ => rfl) (by decide) (by decide) hRc (k_putF (pc := 379) X hini dX12_init_379 rfl (by decide) u_X12 m_6_211 tyX12_ok nmX12 rfl rfl (k_aload_n (pc := 382) X dX12_init_382 rfl (k_bipush (pc := 383) X dX12_init_383 rfl (k_newa (pc := 385) X dX12_init_385 (ty := .int) rfl m_arr_int (fun _ => rfl) (fun _ _ => Iff.rfl) (fun _ => rfl) (by decide) (by decide) hRc (k_putF (pc := 387) X hini dX12_init_387 rfl (by decide) u_X12 m_6_215 tyX12_ok nmX12 rfl rfl (k_aload_n (pc := 390) X dX12_init_390 rfl (k_bipush (pc := 391) X dX12_init_391 rfl (k_newa (pc := 393) X dX12_init_393 (ty := .int) rfl m_arr_int (fun _ => rfl) (fun _ _ => Iff.rfl) (fun _ => rfl) (by decide) (by decide) hRc (k_putF (pc := 395) X hini dX12_init_395 rfl (by decide) u_X12 m_6_216 tyX12_ok nmX12 rfl rfl (k_aload_n (pc := 398) X dX12_init_398 rfl (k_bipush (pc := 399) X dX12_init_399 rfl (k_newa (pc := 401) X dX12_init_401 (ty := .int) rfl m_arr_int (fun _ => rfl) (fun _ _ => Iff.rfl) (fun _ => rfl) (by decide) (by decide) hRc (k_putF (pc := 403) X hini dX12_init_403 rfl (by decide) u_X12 m_6_217 tyX12_ok nmX12 rfl rfl (k_aload_n (pc := 406) X dX12_init_406 rfl (k_sipush (pc := 407) X dX12_init_407 rfl (k_newa (pc := 410) X dX12_init_410 (ty := .int) rfl m_arr_int (fun _ => rfl) (fun _ _ => Iff.rfl) (fun _ => rfl) (by decide) (by decide) hRc (k_putF (pc := 412) X hini dX12_init_412 rfl (by decide) u_X12 m_6_219 tyX12_ok nmX12 rfl rfl (k_aload_n (pc := 415) X dX12_init_415 rfl (k_bipush (pc := 416) X dX12_init_416 rfl (k_newa (pc := 418) X dX12_init_418 (ty := .int) rfl m_arr_int (fun _ => rfl) (fun _ _ => Iff.rfl) (fun _ => rfl) (by decide) (by decide) hRc (k_putF (pc := 420) X hini dX12_init_420 rfl (by decide) u_X12 m_6_220 tyX12_ok nmX12 rfl rfl (k_aload_n (pc := 423) X dX12_init_423 rfl (k_bipush (pc := 424) X dX12_init_424 rfl (k_newa (pc := 426) X dX12_init_426 (ty := .int) rfl m_arr_int (fun _ => rfl) (fun _ _ => Iff.rfl) (fun _ => rfl) (by decide) (by decide) hRc (k_putF (pc := 428) X hini dX12_init_428 rfl (by decide) u_X12 m_6_221 tyX12_ok nmX12 rfl rfl (k_aload_n (pc := 431) X dX12_init_431 rfl (k_bipush (pc := 432) X dX12_init_432 rfl (k_put (pc := 434) X dX12_init_434 rfl (by decide) u_X12 m_6_227 tyX12_ok nmX12 rfl (k_aload_n (pc := 437) X dX12_init_437 rfl (k_iconst (pc := 438) X dX12_init_438 rfl (k_put (pc := 439) X dX12_init_439 rfl (by decide) u_X12 m_6_228 tyX12_ok nmX12 rfl (k_aload_n (pc := 442) X dX12_init_442 rfl (k_bipush (pc := 443) X dX12_init_443 rfl (k_newa (pc := 445) X dX12_init_445 (ty := .int) rfl m_arr_int (fun _ => rfl) (fun _ _ => Iff.rfl) (fun _ => rfl) (by decide) (by decide) hRc (k_putF (pc := 447) X hini dX12_init_447 rfl (by decide) u_X12 m_6_229 tyX12_ok nmX12 rfl rfl (k_aload_n (pc := 450) X dX12_init_450 rfl (k_bipush (pc := 451) X dX12_init_451 rfl (k_newa (pc := 453) X dX12_init_453 (ty := .int) rfl m_arr_int (fun _ => rfl) (fun _ _ => Iff.rfl) (fun _ => rfl) (by decide) (by decide) hRc (k_putF (pc := 455) X hini dX12_init_455 rfl (by decide) u_X12 m_6_230 tyX12_ok nmX12 rfl rfl (k_aload_n (pc := 458) X dX12_init_458 rfl (k_sipush (pc := 459) X dX12_init_459 rfl (k_newa (pc := 462) X dX12_init_462 (ty := .int) rfl m_arr_int (fun _ => rfl) (fun _ _ => Iff.rfl) (fun _ => rfl) (by decide) (by decide) hRc (k_putF (pc := 464) X hini dX12_init_464 rfl (by decide) u_X12 m_6_231 tyX12_ok nmX12 rfl rfl (k_aload_n (pc := 467) X dX12_init_467 rfl (k_sipush (pc := 468) X dX12_init_468 rfl (k_newa (pc := 471) X dX12_init_471 (ty := .long) rfl m_arr_long (fun _ => rfl) (fun _ _ => Iff.rfl) (fun _ => rfl) (by decide) (by decide) hRc (k_putF (pc := 473) X hini dX12_init_473 rfl (by decide) u_X12 m_6_232 tyX12_ok nmX12 rfl rfl (k_aload_n (pc := 476) X dX12_init_476 rfl (k_sipush (pc := 477) X dX12_init_477 rfl (k_newa (pc := 480) X dX12_init_480 (ty := .long) rfl m_arr_long (fun _ => rfl) (fun _ _ => Iff.rfl) (fun _ => rfl) (by decide) (by decide) hRc (k_putF (pc := 482) X hini dX12_init_482 rfl (by decide) u_X12 m_6_233 tyX12_ok nmX12 rfl rfl (k_aload_n (pc := 485) X dX12_init_485 rfl (k_bipush (pc := 486) X dX12_init_486 rfl (k_newa (pc := 488) X dX12_init_488 (ty := .int) rfl m_arr_int (fun _ => rfl) (fun _ _ => Iff.rfl) (fun _ => rfl) (by decide) (by decide) hRc (k_putF (pc := 490) X hini dX12_init_490 rfl (by decide) u_X12 m_6_234 tyX12_ok nmX12 rfl rfl (k_aload_n (pc := 493) X dX12_init_493 rfl (k_bipush (pc := 494) X dX12_init_494 rfl (k_newa (pc := 496) X dX12_init_496 (ty := .int) rfl m_arr_int (fun _ => rfl) (fun _ _ => Iff.rfl) (fun _ => rfl) (by decide) (by decide) hRc (k_putF (pc := 498) X hini dX12_init_498 rfl (by decide) u_X12 m_6_235 tyX12_ok nmX12 rfl rfl (k_aload_n (pc := 501) X dX12_init_501 rfl (k_bipush (pc := 502) X dX12_init_502 rfl (k_newa (pc := 504) X dX12_init_504 (ty := .int) rfl m_arr_int (fun _ => rfl) (fun _ _ => Iff.rfl) (fun _ => rfl) (by decide) (by decide) hRc (k_putF (pc := 506) X hini dX12_init_506 rfl (by decide) u_X12 m_6_237 tyX12_ok nmX12 rfl rfl (k_aload_n (pc := 509) X dX12_init_509 rfl (k_bipush (pc := 510) X dX12_init_510 rfl (k_newa (pc := 512) X dX12_init_512 (ty := .int) rfl m_arr_int (fun _ => rfl) (fun _ _ => Iff.rfl) (fun _ => rfl) (by decide) (by decide) hRc (k_putF (pc := 514) X hini dX12_init_514 rfl (by decide) u_X12 m_6_238 tyX12_ok nmX12 rfl rfl (k_aload_n (pc := 517) X dX12_init_517 rfl (k_bipush (pc := 518) X dX12_init_518 rfl (k_newa (pc := 520) X dX12_init_520 (ty := .int) rfl m_arr_int (fun _ => rfl) (fun _ _ => Iff.rfl) (fun _ => rfl) (by decide) (by decide) hRc (k_putF (pc := 522) X hini dX12_init_522 rfl (by decide) u_X12 m_6_239 tyX12_ok nmX12 rfl rfl (k_aload_n (pc := 525) X dX12_init_525 rfl (k_bipush (pc := 526) X dX12_init_526 rfl (k_newa (pc := 528) X dX12_init_528 (ty := .int) rfl m_arr_int (fun _ => rfl) (fun _ _ => Iff.rfl) (fun _ => rfl) (by decide) (by decide) hRc (k_putF (pc := 530) X hini dX12_init_530 rfl (by decide) u_X12 m_7_0 tyX12_ok nmX12 rfl rfl (k_aload_n (pc := 533) X dX12_init_533 rfl (k_iconst (pc := 534) X dX12_init_534 rfl (k_newa (pc := 535) X dX12_init_535 (ty := .int) rfl m_arr_int (fun _ => rfl) (fun _ _ => Iff.rfl) (fun _ => rfl) (by decide) (by decide) hRc (k_dup (pc := 537) X dX12_init_537 (k_iconst (pc := 538) X dX12_init_538 rfl (k_bipush (pc := 539) X dX12_init_539 rfl (k_ast (pc := 541) X dX12_init_541 (k_dup (pc := 542) X dX12_init_542 (k_iconst (pc := 543) X dX12_init_543 rfl (k_bipush (pc := 544) X dX12_init_544 rfl (k_ast (pc := 546) X dX12_init_546 (k_dup (pc := 547) X dX12_init_547 (k_iconst (pc := 548) X dX12_init_548 rfl (k_bipush (pc := 549) X dX12_init_549 rfl (k_ast (pc := 551) X dX12_init_551 (k_dup (pc := 552) X dX12_init_552 (k_iconst (pc := 553) X dX12_init_553 rfl (k_bipush (pc := 554) X dX12_init_554 rfl (k_ast (pc := 556) X dX12_init_556 (k_putF (pc := 557) X hini dX12_init_557 rfl (by decide) u_X12 m_7_1 tyX12_ok nmX12 rfl rfl (k_aload_n (pc := 560) X dX12_init_560 rfl (k_sipush (pc := 561) X dX12_init_561 rfl (k_newa (pc := 564) X dX12_init_564 (ty := .int) rfl m_arr_int (fun _ => rfl) (fun _ _ => Iff.rfl) (fun _ => rfl) (by decide) (by decide) hRc (k_putF (pc := 566) X hini dX12_init_566 rfl (by decide) u_X12 m_7_2 tyX12_ok nmX12 rfl rfl (k_aload_n (pc := 569) X dX12_init_569 rfl (k_sipush (pc := 570) X dX12_init_570 rfl (k_newa (pc := 573) X dX12_init_573 (ty := .int) rfl m_arr_int (fun _ => rfl) (fun _ _ => Iff.rfl) (fun _ => rfl) (by decide) (by decide) hRc (k_putF (pc := 575) X hini dX12_init_575 rfl (by decide) u_X12 m_7_3 tyX12_ok nmX12 rfl rfl (k_aload_n (pc := 578) X dX12_init_578 rfl (k_bipush (pc := 579) X dX12_init_579 rfl (k_newa (pc := 581) X dX12_init_581 (ty := .int) rfl m_arr_int (fun _ => rfl) (fun _ _ => Iff.rfl) (fun _ => rfl) (by decide) (by decide) hRc (k_putF (pc := 583) X hini dX12_init_583 rfl (by decide) u_X12 m_7_4 tyX12_ok nmX12 rfl rfl (k_aload_n (pc := 586) X dX12_init_586 rfl (k_bipush (pc := 587) X dX12_init_587 rfl (k_newa (pc := 589) X dX12_init_589 (ty := .int) rfl m_arr_int (fun _ => rfl) (fun _ _ => Iff.rfl) (fun _ => rfl) (by decide) (by decide) hRc (k_putF (pc := 591) X hini dX12_init_591 rfl (by decide) u_X12 m_7_5 tyX12_ok nmX12 rfl rfl (k_aload_n (pc := 594) X dX12_init_594 rfl (k_bipush (pc := 595) X dX12_init_595 rfl (k_newa (pc := 597) X dX12_init_597 (ty := .int) rfl m_arr_int (fun _ => rfl) (fun _ _ => Iff.rfl) (fun _ => rfl) (by decide) (by decide) hRc (k_putF (pc := 599) X hini dX12_init_599 rfl (by decide) u_X12 m_7_6 tyX12_ok nmX12 rfl rfl (k_aload_n (pc := 602) X dX12_init_602 rfl (k_bipush (pc := 603) X dX12_init_603 rfl (k_newa (pc := 605) X dX12_init_605 (ty := .int) rfl m_arr_int (fun _ => rfl) (fun _ _ => Iff.rfl) (fun _ => rfl) (by decide) (by decide) hRc (k_putF (pc := 607) X hini dX12_init_607 rfl (by decide) u_X12 m_7_7 tyX12_ok nmX12 rfl rfl (k_aload_n (pc := 610) X dX12_init_610 rfl (k_bipush (pc := 611) X dX12_init_611 rfl (k_newa (pc := 613) X dX12_init_613 (ty := .int) rfl m_arr_int (fun _ => rfl) (fun _ _ => Iff.rfl) (fun _ => rfl) (by decide) (by decide) hRc (k_putF (pc := 615) X hini dX12_init_615 rfl (by decide) u_X12 m_7_10 tyX12_ok nmX12 rfl rfl (k_aload_n (pc := 618) X dX12_init_618 rfl (k_bipush (pc := 619) X dX12_init_619 rfl (k_newa (pc := 621) X dX12_init_621 (ty := .int) rfl m_arr_int (fun _ => rfl) (fun _ _ => Iff.rfl) (fun _ => rfl) (by decide) (by decide) hRc (k_putF (pc := 623) X hini dX12_init_623 rfl (by decide) u_X12 m_7_11 tyX12_ok nmX12 rfl rfl (k_vret (pc := 626) X hE dX12_init_626))))))))))))))))))))))))))))))))))))))))))))))))))))))))))))))))))))))))))))))))))))))))))))))))))))))))))))))))))))))))))))))))))))))))))))))))))))))))))))))))))))))))))))))))))))))))))))))))))))))))))))))))))))))))))))))))))))))))))))))))))))))))))))))))))))))))))))))))))))))))))))))))))))))))))))))))))))))))))))
