/-! ===== what the tables say, by place ===== -/
theorem pb_tm1 {i : Nat} {w : Cond} (hi : tables_1_1[i]? = some w) (hg : goodWord w = true) : w ∈ pb_tbl := by
  have h := List.mem_of_getElem? hi
  have h1 : w ∈ tables_1 := List.mem_append_left _ h
  exact List.mem_filter.mpr ⟨List.mem_append_right _ h1, hg⟩
theorem pb_nm1 {i : Nat} {w : Cond} (hi : tables_1_1[i]? = some w) (hg : pb_isNest w = true) : w ∈ pb_nests := by
  have h := List.mem_of_getElem? hi
  have h1 : w ∈ tables_1 := List.mem_append_left _ h
  exact List.mem_filter.mpr ⟨List.mem_append_right _ h1, hg⟩
theorem pb_tm2 {i : Nat} {w : Cond} (hi : tables_1_2[i]? = some w) (hg : goodWord w = true) : w ∈ pb_tbl := by
  have h := List.mem_of_getElem? hi
  have h1 : w ∈ tables_1 := List.mem_append_right _ (List.mem_append_left _ h)
  exact List.mem_filter.mpr ⟨List.mem_append_right _ h1, hg⟩
theorem pb_nm2 {i : Nat} {w : Cond} (hi : tables_1_2[i]? = some w) (hg : pb_isNest w = true) : w ∈ pb_nests := by
  have h := List.mem_of_getElem? hi
  have h1 : w ∈ tables_1 := List.mem_append_right _ (List.mem_append_left _ h)
  exact List.mem_filter.mpr ⟨List.mem_append_right _ h1, hg⟩
theorem pb_tm3 {i : Nat} {w : Cond} (hi : tables_1_3[i]? = some w) (hg : goodWord w = true) : w ∈ pb_tbl := by
  have h := List.mem_of_getElem? hi
  have h1 : w ∈ tables_1 := List.mem_append_right _ (List.mem_append_right _ (List.mem_append_left _ h))
  exact List.mem_filter.mpr ⟨List.mem_append_right _ h1, hg⟩
theorem pb_nm3 {i : Nat} {w : Cond} (hi : tables_1_3[i]? = some w) (hg : pb_isNest w = true) : w ∈ pb_nests := by
  have h := List.mem_of_getElem? hi
  have h1 : w ∈ tables_1 := List.mem_append_right _ (List.mem_append_right _ (List.mem_append_left _ h))
  exact List.mem_filter.mpr ⟨List.mem_append_right _ h1, hg⟩
theorem pb_tm4 {i : Nat} {w : Cond} (hi : tables_1_4[i]? = some w) (hg : goodWord w = true) : w ∈ pb_tbl := by
  have h := List.mem_of_getElem? hi
  have h1 : w ∈ tables_1 := List.mem_append_right _ (List.mem_append_right _ (List.mem_append_right _ (List.mem_append_left _ h)))
  exact List.mem_filter.mpr ⟨List.mem_append_right _ h1, hg⟩
theorem pb_nm4 {i : Nat} {w : Cond} (hi : tables_1_4[i]? = some w) (hg : pb_isNest w = true) : w ∈ pb_nests := by
  have h := List.mem_of_getElem? hi
  have h1 : w ∈ tables_1 := List.mem_append_right _ (List.mem_append_right _ (List.mem_append_right _ (List.mem_append_left _ h)))
  exact List.mem_filter.mpr ⟨List.mem_append_right _ h1, hg⟩
theorem pb_tm5 {i : Nat} {w : Cond} (hi : tables_1_5[i]? = some w) (hg : goodWord w = true) : w ∈ pb_tbl := by
  have h := List.mem_of_getElem? hi
  have h1 : w ∈ tables_1 := List.mem_append_right _ (List.mem_append_right _ (List.mem_append_right _ (List.mem_append_right _ (List.mem_append_left _ h))))
  exact List.mem_filter.mpr ⟨List.mem_append_right _ h1, hg⟩
theorem pb_nm5 {i : Nat} {w : Cond} (hi : tables_1_5[i]? = some w) (hg : pb_isNest w = true) : w ∈ pb_nests := by
  have h := List.mem_of_getElem? hi
  have h1 : w ∈ tables_1 := List.mem_append_right _ (List.mem_append_right _ (List.mem_append_right _ (List.mem_append_right _ (List.mem_append_left _ h))))
  exact List.mem_filter.mpr ⟨List.mem_append_right _ h1, hg⟩
theorem pb_tm6 {i : Nat} {w : Cond} (hi : tables_1_6[i]? = some w) (hg : goodWord w = true) : w ∈ pb_tbl := by
  have h := List.mem_of_getElem? hi
  have h1 : w ∈ tables_1 := List.mem_append_right _ (List.mem_append_right _ (List.mem_append_right _ (List.mem_append_right _ (List.mem_append_right _ (List.mem_append_left _ h)))))
  exact List.mem_filter.mpr ⟨List.mem_append_right _ h1, hg⟩
theorem pb_nm6 {i : Nat} {w : Cond} (hi : tables_1_6[i]? = some w) (hg : pb_isNest w = true) : w ∈ pb_nests := by
  have h := List.mem_of_getElem? hi
  have h1 : w ∈ tables_1 := List.mem_append_right _ (List.mem_append_right _ (List.mem_append_right _ (List.mem_append_right _ (List.mem_append_right _ (List.mem_append_left _ h)))))
  exact List.mem_filter.mpr ⟨List.mem_append_right _ h1, hg⟩
theorem pb_tm7 {i : Nat} {w : Cond} (hi : tables_1_7[i]? = some w) (hg : goodWord w = true) : w ∈ pb_tbl := by
  have h := List.mem_of_getElem? hi
  have h1 : w ∈ tables_1 := List.mem_append_right _ (List.mem_append_right _ (List.mem_append_right _ (List.mem_append_right _ (List.mem_append_right _ (List.mem_append_right _ (List.mem_append_left _ h))))))
  exact List.mem_filter.mpr ⟨List.mem_append_right _ h1, hg⟩
theorem pb_nm7 {i : Nat} {w : Cond} (hi : tables_1_7[i]? = some w) (hg : pb_isNest w = true) : w ∈ pb_nests := by
  have h := List.mem_of_getElem? hi
  have h1 : w ∈ tables_1 := List.mem_append_right _ (List.mem_append_right _ (List.mem_append_right _ (List.mem_append_right _ (List.mem_append_right _ (List.mem_append_right _ (List.mem_append_left _ h))))))
  exact List.mem_filter.mpr ⟨List.mem_append_right _ h1, hg⟩
theorem pb_tm8 {i : Nat} {w : Cond} (hi : tables_1_8[i]? = some w) (hg : goodWord w = true) : w ∈ pb_tbl := by
  have h := List.mem_of_getElem? hi
  have h1 : w ∈ tables_1 := List.mem_append_right _ (List.mem_append_right _ (List.mem_append_right _ (List.mem_append_right _ (List.mem_append_right _ (List.mem_append_right _ (List.mem_append_right _ (List.mem_append_left _ h)))))))
  exact List.mem_filter.mpr ⟨List.mem_append_right _ h1, hg⟩
theorem pb_nm8 {i : Nat} {w : Cond} (hi : tables_1_8[i]? = some w) (hg : pb_isNest w = true) : w ∈ pb_nests := by
  have h := List.mem_of_getElem? hi
  have h1 : w ∈ tables_1 := List.mem_append_right _ (List.mem_append_right _ (List.mem_append_right _ (List.mem_append_right _ (List.mem_append_right _ (List.mem_append_right _ (List.mem_append_right _ (List.mem_append_left _ h)))))))
  exact List.mem_filter.mpr ⟨List.mem_append_right _ h1, hg⟩
theorem pb_tm9 {i : Nat} {w : Cond} (hi : tables_1_9[i]? = some w) (hg : goodWord w = true) : w ∈ pb_tbl := by
  have h := List.mem_of_getElem? hi
  have h1 : w ∈ tables_1 := List.mem_append_right _ (List.mem_append_right _ (List.mem_append_right _ (List.mem_append_right _ (List.mem_append_right _ (List.mem_append_right _ (List.mem_append_right _ (List.mem_append_right _ (h))))))))
  exact List.mem_filter.mpr ⟨List.mem_append_right _ h1, hg⟩
theorem pb_nm9 {i : Nat} {w : Cond} (hi : tables_1_9[i]? = some w) (hg : pb_isNest w = true) : w ∈ pb_nests := by
  have h := List.mem_of_getElem? hi
  have h1 : w ∈ tables_1 := List.mem_append_right _ (List.mem_append_right _ (List.mem_append_right _ (List.mem_append_right _ (List.mem_append_right _ (List.mem_append_right _ (List.mem_append_right _ (List.mem_append_right _ (h))))))))
  exact List.mem_filter.mpr ⟨List.mem_append_right _ h1, hg⟩
theorem pb_ps1 {i : Nat} {q : MethodName × Nat} (hi : lw_privs_1[i]? = some q) : Cond.selects q.1.cls q.1 q.1 ∈ pb_tbl := by
  have h := List.mem_of_getElem? hi
  have h1 : q ∈ lw_privs := List.mem_append_left _ h
  exact List.mem_filter.mpr ⟨List.mem_append_left _ (List.mem_map.mpr ⟨q, h1, rfl⟩), rfl⟩
theorem pb_ps2 {i : Nat} {q : MethodName × Nat} (hi : lw_privs_2[i]? = some q) : Cond.selects q.1.cls q.1 q.1 ∈ pb_tbl := by
  have h := List.mem_of_getElem? hi
  have h1 : q ∈ lw_privs := List.mem_append_right _ (List.mem_append_left _ h)
  exact List.mem_filter.mpr ⟨List.mem_append_left _ (List.mem_map.mpr ⟨q, h1, rfl⟩), rfl⟩
theorem pb_ps3 {i : Nat} {q : MethodName × Nat} (hi : lw_privs_3[i]? = some q) : Cond.selects q.1.cls q.1 q.1 ∈ pb_tbl := by
  have h := List.mem_of_getElem? hi
  have h1 : q ∈ lw_privs := List.mem_append_right _ (List.mem_append_right _ (List.mem_append_left _ h))
  exact List.mem_filter.mpr ⟨List.mem_append_left _ (List.mem_map.mpr ⟨q, h1, rfl⟩), rfl⟩
theorem pb_ps4 {i : Nat} {q : MethodName × Nat} (hi : lw_privs_4[i]? = some q) : Cond.selects q.1.cls q.1 q.1 ∈ pb_tbl := by
  have h := List.mem_of_getElem? hi
  have h1 : q ∈ lw_privs := List.mem_append_right _ (List.mem_append_right _ (List.mem_append_right _ (List.mem_append_left _ h)))
  exact List.mem_filter.mpr ⟨List.mem_append_left _ (List.mem_map.mpr ⟨q, h1, rfl⟩), rfl⟩
theorem pb_ps5 {i : Nat} {q : MethodName × Nat} (hi : lw_privs_5[i]? = some q) : Cond.selects q.1.cls q.1 q.1 ∈ pb_tbl := by
  have h := List.mem_of_getElem? hi
  have h1 : q ∈ lw_privs := List.mem_append_right _ (List.mem_append_right _ (List.mem_append_right _ (List.mem_append_right _ (List.mem_append_left _ h))))
  exact List.mem_filter.mpr ⟨List.mem_append_left _ (List.mem_map.mpr ⟨q, h1, rfl⟩), rfl⟩
theorem pb_ps6 {i : Nat} {q : MethodName × Nat} (hi : lw_privs_6[i]? = some q) : Cond.selects q.1.cls q.1 q.1 ∈ pb_tbl := by
  have h := List.mem_of_getElem? hi
  have h1 : q ∈ lw_privs := List.mem_append_right _ (List.mem_append_right _ (List.mem_append_right _ (List.mem_append_right _ (List.mem_append_right _ (List.mem_append_left _ h)))))
  exact List.mem_filter.mpr ⟨List.mem_append_left _ (List.mem_map.mpr ⟨q, h1, rfl⟩), rfl⟩
theorem pb_ps7 {i : Nat} {q : MethodName × Nat} (hi : lw_privs_7[i]? = some q) : Cond.selects q.1.cls q.1 q.1 ∈ pb_tbl := by
  have h := List.mem_of_getElem? hi
  have h1 : q ∈ lw_privs := List.mem_append_right _ (List.mem_append_right _ (List.mem_append_right _ (List.mem_append_right _ (List.mem_append_right _ (List.mem_append_right _ (h))))))
  exact List.mem_filter.mpr ⟨List.mem_append_left _ (List.mem_map.mpr ⟨q, h1, rfl⟩), rfl⟩
theorem m_3_0 : Cond.fieldLink RX11 9 "PennyBooks" "status" "I" ∈ pb_tbl := pb_tm3 (i := 0) rfl rfl
theorem m_3_14 : Cond.lays RX11 "PennyBooks" "status" "I" ∈ pb_tbl := pb_tm3 (i := 14) rfl rfl
theorem m_3_16 : Cond.lays RX11 "PennyBooks" "top" "J" ∈ pb_tbl := pb_tm3 (i := 16) rfl rfl
theorem m_3_18 : Cond.lays RX11 "PennyBooks" "bottom" "J" ∈ pb_tbl := pb_tm3 (i := 18) rfl rfl
theorem m_3_20 : Cond.laysFinal RX11 "PennyBooks" "trays" "LPennyBooks$Trays;" ∈ pb_tbl := pb_tm3 (i := 20) rfl rfl
theorem m_3_22 : Cond.laysFinal RX11 "PennyBooks" "ledger" "LPennyBooks$Ledger;" ∈ pb_tbl := pb_tm3 (i := 22) rfl rfl
theorem m_3_24 : Cond.laysFinal RX11 "PennyBooks" "reader" "LPennyBooks$Reader;" ∈ pb_tbl := pb_tm3 (i := 24) rfl rfl
theorem m_3_26 : Cond.laysFinal RX11 "PennyBooks" "judge" "LPennyBooks$Judge;" ∈ pb_tbl := pb_tm3 (i := 26) rfl rfl
theorem m_3_28 : Cond.laysFinal RX11 "PennyBooks" "sums" "LPennyBooks$Sums;" ∈ pb_tbl := pb_tm3 (i := 28) rfl rfl
theorem m_3_30 : Cond.laysFinal RX11 "PennyBooks" "sundries" "LPennyBooks$Sundries;" ∈ pb_tbl := pb_tm3 (i := 30) rfl rfl
theorem m_3_32 : Cond.laysFinal RX11 "PennyBooks" "mouths" "LPennyBooks$Mouths;" ∈ pb_tbl := pb_tm3 (i := 32) rfl rfl
theorem m_3_34 : Cond.laysFinal RX11 "PennyBooks" "prices" "LPennyBooks$Prices;" ∈ pb_tbl := pb_tm3 (i := 34) rfl rfl
theorem m_3_36 : Cond.laysFinal RX11 "PennyBooks" "weeks" "LPennyBooks$Weeks;" ∈ pb_tbl := pb_tm3 (i := 36) rfl rfl
theorem m_3_38 : Cond.laysFinal RX11 "PennyBooks" "weights" "LPennyBooks$Weights;" ∈ pb_tbl := pb_tm3 (i := 38) rfl rfl
theorem m_3_40 : Cond.laysFinal RX11 "PennyBooks" "losses" "LPennyBooks$Losses;" ∈ pb_tbl := pb_tm3 (i := 40) rfl rfl
theorem u_X11 : ∀ w ∈ u_ws RX11 TX11 14, w ∈ pb_tbl := by
  intro w hw
  obtain ⟨k, hk, rfl⟩ := List.mem_map.mp hw
  have hk := List.mem_range.mp hk
  match k, hk with
  | 0, _ => exact m_3_14
  | 1, _ => exact m_3_16
  | 2, _ => exact m_3_18
  | 3, _ => exact m_3_20
  | 4, _ => exact m_3_22
  | 5, _ => exact m_3_24
  | 6, _ => exact m_3_26
  | 7, _ => exact m_3_28
  | 8, _ => exact m_3_30
  | 9, _ => exact m_3_32
  | 10, _ => exact m_3_34
  | 11, _ => exact m_3_36
  | 12, _ => exact m_3_38
  | 13, _ => exact m_3_40
  | j + 14, h => omega
theorem h_0 : pb_sh[0]? = some (.inr (11, [.inr true, .inr false, .inr false, .inl 1, .inl 5, .inl 21, .inl 25, .inl 31, .inl 39, .inl 45, .inl 51, .inl 54, .inl 57, .inl 61])) := rfl
theorem g_X11_9 : pb_fd 0 0 (.inr true) RX11 9 := ⟨11, _, RX11, TX11, 14, h_0, rfl, rfl, by decide, u_X11, Or.inl m_3_0⟩
theorem m_3_46 : Cond.code yX11_status cX11_status 1 (some .int) ∈ pb_tbl := pb_tm3 (i := 46) rfl rfl
theorem m_3_1 : Cond.fieldLink RX11 13 "PennyBooks" "top" "J" ∈ pb_tbl := pb_tm3 (i := 1) rfl rfl
theorem g_X11_13 : pb_fd 0 1 (.inr false) RX11 13 := ⟨11, _, RX11, TX11, 14, h_0, rfl, rfl, by decide, u_X11, Or.inl m_3_1⟩
theorem m_3_50 : Cond.code yX11_top cX11_top 1 (some .long) ∈ pb_tbl := pb_tm3 (i := 50) rfl rfl
theorem m_3_2 : Cond.fieldLink RX11 17 "PennyBooks" "bottom" "J" ∈ pb_tbl := pb_tm3 (i := 2) rfl rfl
theorem g_X11_17 : pb_fd 0 2 (.inr false) RX11 17 := ⟨11, _, RX11, TX11, 14, h_0, rfl, rfl, by decide, u_X11, Or.inl m_3_2⟩
theorem m_3_54 : Cond.code yX11_bottom cX11_bottom 1 (some .long) ∈ pb_tbl := pb_tm3 (i := 54) rfl rfl
theorem m_3_61 : Cond.code yX11_outside cX11_outside 3 (some .boolean) ∈ pb_tbl := pb_tm3 (i := 61) rfl rfl
theorem m_3_71 : Cond.code yJ7_rangeCheck_23922 cJ7_rangeCheck_23922 3 none ∈ pb_tbl := pb_tm3 (i := 71) rfl rfl
theorem h_2 : pb_sh[2]? = some (.inl (3, 240)) := rfl
theorem m_3_69 : Cond.methodLink RJ7 13 yJ7_rangeCheck_23922 ∈ pb_tbl := pb_tm3 (i := 69) rfl rfl
theorem m_3_70 : Cond.static yJ7_rangeCheck_23922 ∈ pb_tbl := pb_tm3 (i := 70) rfl rfl
theorem m_1_14 : Cond.initialized RJ7 ∈ pb_tbl := pb_tm1 (i := 14) rfl rfl
theorem q_J7_13 : pb_cs RJ7 13 yJ7_rangeCheck_23922 3 := ⟨Or.inl m_3_69, m_3_70, m_1_14, by decide +kernel, by decide +kernel, by decide +kernel⟩
theorem m_3_68 : Cond.code yJ7_fill_bad5a cJ7_fill_bad5a 6 none ∈ pb_tbl := pb_tm3 (i := 68) rfl rfl
theorem m_1_39 : Cond.fieldLink RX8 15 "PennyBooks$Trays" "sorts" "[I" ∈ pb_tbl := pb_tm1 (i := 39) rfl rfl
theorem m_1_41 : Cond.laysFinal RX8 "PennyBooks$Trays" "cells" "[J" ∈ pb_tbl := pb_tm1 (i := 41) rfl rfl
theorem m_1_43 : Cond.laysFinal RX8 "PennyBooks$Trays" "sorts" "[I" ∈ pb_tbl := pb_tm1 (i := 43) rfl rfl
theorem m_1_45 : Cond.laysFinal RX8 "PennyBooks$Trays" "sizes" "[I" ∈ pb_tbl := pb_tm1 (i := 45) rfl rfl
theorem u_X8 : ∀ w ∈ u_ws RX8 TX8 3, w ∈ pb_tbl := by
  intro w hw
  obtain ⟨k, hk, rfl⟩ := List.mem_map.mp hw
  have hk := List.mem_range.mp hk
  match k, hk with
  | 0, _ => exact m_1_41
  | 1, _ => exact m_1_43
  | 2, _ => exact m_1_45
  | j + 3, h => omega
theorem h_1 : pb_sh[1]? = some (.inr (8, [.inl 2, .inl 3, .inl 4])) := rfl
theorem g_X8_15 : pb_fd 1 1 (.inl 3) RX8 15 := ⟨8, _, RX8, TX8, 3, h_1, rfl, rfl, by decide, u_X8, Or.inl m_1_39⟩
theorem h_3 : pb_sh[3]? = some (.inl (0, 4)) := rfl
theorem m_1_40 : Cond.fieldLink RX8 19 "PennyBooks$Trays" "sizes" "[I" ∈ pb_tbl := pb_tm1 (i := 40) rfl rfl
theorem g_X8_19 : pb_fd 1 2 (.inl 4) RX8 19 := ⟨8, _, RX8, TX8, 3, h_1, rfl, rfl, by decide, u_X8, Or.inl m_1_40⟩
theorem h_4 : pb_sh[4]? = some (.inl (0, 4)) := rfl
theorem m_1_38 : Cond.fieldLink RX8 11 "PennyBooks$Trays" "cells" "[J" ∈ pb_tbl := pb_tm1 (i := 38) rfl rfl
theorem g_X8_11 : pb_fd 1 0 (.inl 2) RX8 11 := ⟨8, _, RX8, TX8, 3, h_1, rfl, rfl, by decide, u_X8, Or.inl m_1_38⟩
theorem m_3_66 : Cond.methodLink RX8 22 yJ7_fill_bad5a ∈ pb_tbl := pb_tm3 (i := 66) rfl rfl
theorem m_3_67 : Cond.static yJ7_fill_bad5a ∈ pb_tbl := pb_tm3 (i := 67) rfl rfl
theorem q_X8_22 : pb_cs RX8 22 yJ7_fill_bad5a 4 := ⟨Or.inl m_3_66, m_3_67, m_1_14, by decide +kernel, by decide +kernel, by decide +kernel⟩
theorem m_3_65 : Cond.code yX8_lay cX8_lay 4 none ∈ pb_tbl := pb_tm3 (i := 65) rfl rfl
theorem m_3_59 : Cond.methodLink RX11 101 yX11_outside ∈ pb_tbl := pb_tm3 (i := 59) rfl rfl
theorem m_3_60 : Cond.static yX11_outside ∈ pb_tbl := pb_tm3 (i := 60) rfl rfl
theorem m_1_1 : Cond.initialized RX11 ∈ pb_tbl := pb_tm1 (i := 1) rfl rfl
theorem q_X11_101 : pb_cs RX11 101 yX11_outside 3 := ⟨Or.inl m_3_59, m_3_60, m_1_1, by decide +kernel, by decide +kernel, by decide +kernel⟩
theorem p_X11_9 : pb_fp 0 0 (.inr true) .int RX11 9 := ⟨11, _, RX11, TX11, 14, tyX11, h_0, rfl, rfl, by decide, u_X11, Or.inl m_3_0, tyX11_ok, nmX11, rfl, rfl⟩
theorem m_3_3 : Cond.fieldLink RX11 23 "PennyBooks" "trays" "LPennyBooks$Trays;" ∈ pb_tbl := pb_tm3 (i := 3) rfl rfl
theorem g_X11_23 : pb_fd 0 3 (.inl 1) RX11 23 := ⟨11, _, RX11, TX11, 14, h_0, rfl, rfl, by decide, u_X11, Or.inl m_3_3⟩
theorem m_3_62 : Cond.methodLink RX11 105 yX8_lay ∈ pb_tbl := pb_tm3 (i := 62) rfl rfl
theorem m_3_63 : Cond.instanceMethod yX8_lay ∈ pb_tbl := pb_tm3 (i := 63) rfl rfl
theorem m_3_64 : Cond.selects RX8 yX8_lay yX8_lay ∈ pb_tbl := pb_tm3 (i := 64) rfl rfl
theorem m_1_2 : Cond.initialized RX8 ∈ pb_tbl := pb_tm1 (i := 2) rfl rfl
theorem q_X11_105 : pb_ci RX11 105 yX8_lay 3 := ⟨Or.inl m_3_62, m_3_63, m_3_64, m_1_2, by decide +kernel, by decide +kernel, by decide +kernel⟩
theorem m_3_58 : Cond.code yX11_tray cX11_tray 5 (some .boolean) ∈ pb_tbl := pb_tm3 (i := 58) rfl rfl
theorem m_3_80 : Cond.methodLinkNest RX8 28 yX11_outside "PennyBooks" ∈ pb_nests := pb_nm3 (i := 80) rfl rfl
theorem q_X8_28 : pb_cs RX8 28 yX11_outside 3 := ⟨Or.inr ⟨_, m_3_80⟩, m_3_60, m_1_1, by decide +kernel, by decide +kernel, by decide +kernel⟩
theorem m_3_79 : Cond.code yX8_placeStatus cX8_placeStatus 3 (some .int) ∈ pb_tbl := pb_tm3 (i := 79) rfl rfl
theorem m_3_87 : Cond.code yX8_cut cX8_cut 3 (some .long) ∈ pb_tbl := pb_tm3 (i := 87) rfl rfl
theorem m_3_85 : Cond.methodLink RX8 32 yX8_cut ∈ pb_tbl := pb_tm3 (i := 85) rfl rfl
theorem m_3_86 : Cond.static yX8_cut ∈ pb_tbl := pb_tm3 (i := 86) rfl rfl
theorem q_X8_32 : pb_cs RX8 32 yX8_cut 2 := ⟨Or.inl m_3_85, m_3_86, m_1_2, by decide +kernel, by decide +kernel, by decide +kernel⟩
theorem m_3_84 : Cond.code yX8_put cX8_put 5 none ∈ pb_tbl := pb_tm3 (i := 84) rfl rfl
theorem m_3_76 : Cond.methodLink RX11 109 yX8_placeStatus ∈ pb_tbl := pb_tm3 (i := 76) rfl rfl
theorem m_3_77 : Cond.instanceMethod yX8_placeStatus ∈ pb_tbl := pb_tm3 (i := 77) rfl rfl
theorem m_3_78 : Cond.selects RX8 yX8_placeStatus yX8_placeStatus ∈ pb_tbl := pb_tm3 (i := 78) rfl rfl
theorem q_X11_109 : pb_ci RX11 109 yX8_placeStatus 2 := ⟨Or.inl m_3_76, m_3_77, m_3_78, m_1_2, by decide +kernel, by decide +kernel, by decide +kernel⟩
theorem m_3_81 : Cond.methodLink RX11 113 yX8_put ∈ pb_tbl := pb_tm3 (i := 81) rfl rfl
theorem m_3_82 : Cond.instanceMethod yX8_put ∈ pb_tbl := pb_tm3 (i := 82) rfl rfl
theorem m_3_83 : Cond.selects RX8 yX8_put yX8_put ∈ pb_tbl := pb_tm3 (i := 83) rfl rfl
theorem q_X11_113 : pb_ci RX11 113 yX8_put 3 := ⟨Or.inl m_3_81, m_3_82, m_3_83, m_1_2, by decide +kernel, by decide +kernel, by decide +kernel⟩
theorem m_3_75 : Cond.code yX11_write cX11_write 5 (some .boolean) ∈ pb_tbl := pb_tm3 (i := 75) rfl rfl
theorem m_3_95 : Cond.code yX8_at cX8_at 3 (some .long) ∈ pb_tbl := pb_tm3 (i := 95) rfl rfl
theorem m_3_96 : Cond.constantLong RX11 121 (-1) ∈ pb_tbl := pb_tm3 (i := 96) rfl rfl
theorem m_3_92 : Cond.methodLink RX11 117 yX8_at ∈ pb_tbl := pb_tm3 (i := 92) rfl rfl
theorem m_3_93 : Cond.instanceMethod yX8_at ∈ pb_tbl := pb_tm3 (i := 93) rfl rfl
theorem m_3_94 : Cond.selects RX8 yX8_at yX8_at ∈ pb_tbl := pb_tm3 (i := 94) rfl rfl
theorem q_X11_117 : pb_ci RX11 117 yX8_at 2 := ⟨Or.inl m_3_92, m_3_93, m_3_94, m_1_2, by decide +kernel, by decide +kernel, by decide +kernel⟩
theorem m_3_91 : Cond.code yX11_read cX11_read 3 (some .long) ∈ pb_tbl := pb_tm3 (i := 91) rfl rfl
theorem m_3_104 : Cond.code yX8_pourStatus cX8_pourStatus 7 (some .int) ∈ pb_tbl := pb_tm3 (i := 104) rfl rfl
theorem m_3_109 : Cond.methodLink RX8 36 arraycopyName ∈ pb_tbl := pb_tm3 (i := 109) rfl rfl
theorem m_3_108 : Cond.code yX8_move cX8_move 6 none ∈ pb_tbl := pb_tm3 (i := 108) rfl rfl
theorem m_3_101 : Cond.methodLink RX11 123 yX8_pourStatus ∈ pb_tbl := pb_tm3 (i := 101) rfl rfl
theorem m_3_102 : Cond.instanceMethod yX8_pourStatus ∈ pb_tbl := pb_tm3 (i := 102) rfl rfl
theorem m_3_103 : Cond.selects RX8 yX8_pourStatus yX8_pourStatus ∈ pb_tbl := pb_tm3 (i := 103) rfl rfl
theorem q_X11_123 : pb_ci RX11 123 yX8_pourStatus 5 := ⟨Or.inl m_3_101, m_3_102, m_3_103, m_1_2, by decide +kernel, by decide +kernel, by decide +kernel⟩
theorem m_3_105 : Cond.methodLink RX11 127 yX8_move ∈ pb_tbl := pb_tm3 (i := 105) rfl rfl
theorem m_3_106 : Cond.instanceMethod yX8_move ∈ pb_tbl := pb_tm3 (i := 106) rfl rfl
theorem m_3_107 : Cond.selects RX8 yX8_move yX8_move ∈ pb_tbl := pb_tm3 (i := 107) rfl rfl
theorem q_X11_127 : pb_ci RX11 127 yX8_move 5 := ⟨Or.inl m_3_105, m_3_106, m_3_107, m_1_2, by decide +kernel, by decide +kernel, by decide +kernel⟩
theorem m_3_100 : Cond.code yX11_pour cX11_pour 6 (some .boolean) ∈ pb_tbl := pb_tm3 (i := 100) rfl rfl
theorem m_1_59 : Cond.fieldLink RX1 9 "PennyBooks$Ledger" "classOf" "[I" ∈ pb_tbl := pb_tm1 (i := 59) rfl rfl
theorem m_1_110 : Cond.lays RX1 "PennyBooks$Ledger" "families" "I" ∈ pb_tbl := pb_tm1 (i := 110) rfl rfl
theorem m_1_112 : Cond.laysFinal RX1 "PennyBooks$Ledger" "classOf" "[I" ∈ pb_tbl := pb_tm1 (i := 112) rfl rfl
theorem m_1_114 : Cond.laysFinal RX1 "PennyBooks$Ledger" "landOf" "[I" ∈ pb_tbl := pb_tm1 (i := 114) rfl rfl
theorem m_1_116 : Cond.lays RX1 "PennyBooks$Ledger" "lines" "I" ∈ pb_tbl := pb_tm1 (i := 116) rfl rfl
theorem m_1_118 : Cond.laysFinal RX1 "PennyBooks$Ledger" "familyOf" "[I" ∈ pb_tbl := pb_tm1 (i := 118) rfl rfl
theorem m_1_120 : Cond.laysFinal RX1 "PennyBooks$Ledger" "weekOf" "[I" ∈ pb_tbl := pb_tm1 (i := 120) rfl rfl
theorem m_1_122 : Cond.laysFinal RX1 "PennyBooks$Ledger" "shopOf" "[I" ∈ pb_tbl := pb_tm1 (i := 122) rfl rfl
theorem m_1_124 : Cond.laysFinal RX1 "PennyBooks$Ledger" "handOf" "[I" ∈ pb_tbl := pb_tm1 (i := 124) rfl rfl
theorem m_1_126 : Cond.laysFinal RX1 "PennyBooks$Ledger" "came" "[Z" ∈ pb_tbl := pb_tm1 (i := 126) rfl rfl
theorem m_1_128 : Cond.laysFinal RX1 "PennyBooks$Ledger" "knownFrom" "[I" ∈ pb_tbl := pb_tm1 (i := 128) rfl rfl
theorem m_1_130 : Cond.laysFinal RX1 "PennyBooks$Ledger" "wordsOf" "[J" ∈ pb_tbl := pb_tm1 (i := 130) rfl rfl
theorem m_1_132 : Cond.laysFinal RX1 "PennyBooks$Ledger" "written" "[I" ∈ pb_tbl := pb_tm1 (i := 132) rfl rfl
theorem m_1_134 : Cond.laysFinal RX1 "PennyBooks$Ledger" "penceOf" "[I" ∈ pb_tbl := pb_tm1 (i := 134) rfl rfl
theorem m_1_136 : Cond.lays RX1 "PennyBooks$Ledger" "readings" "I" ∈ pb_tbl := pb_tm1 (i := 136) rfl rfl
theorem m_1_138 : Cond.laysFinal RX1 "PennyBooks$Ledger" "readLine" "[I" ∈ pb_tbl := pb_tm1 (i := 138) rfl rfl
theorem m_1_140 : Cond.laysFinal RX1 "PennyBooks$Ledger" "readPence" "[I" ∈ pb_tbl := pb_tm1 (i := 140) rfl rfl
theorem m_1_142 : Cond.laysFinal RX1 "PennyBooks$Ledger" "readFrom" "[I" ∈ pb_tbl := pb_tm1 (i := 142) rfl rfl
theorem m_1_144 : Cond.laysFinal RX1 "PennyBooks$Ledger" "nextWords" "[J" ∈ pb_tbl := pb_tm1 (i := 144) rfl rfl
theorem m_1_146 : Cond.lays RX1 "PennyBooks$Ledger" "latestDay" "I" ∈ pb_tbl := pb_tm1 (i := 146) rfl rfl
theorem m_1_148 : Cond.lays RX1 "PennyBooks$Ledger" "lookedFrom" "I" ∈ pb_tbl := pb_tm1 (i := 148) rfl rfl
theorem u_X1 : ∀ w ∈ u_ws RX1 TX1 20, w ∈ pb_tbl := by
  intro w hw
  obtain ⟨k, hk, rfl⟩ := List.mem_map.mp hw
  have hk := List.mem_range.mp hk
  match k, hk with
  | 0, _ => exact m_1_110
  | 1, _ => exact m_1_112
  | 2, _ => exact m_1_114
  | 3, _ => exact m_1_116
  | 4, _ => exact m_1_118
  | 5, _ => exact m_1_120
  | 6, _ => exact m_1_122
  | 7, _ => exact m_1_124
  | 8, _ => exact m_1_126
  | 9, _ => exact m_1_128
  | 10, _ => exact m_1_130
  | 11, _ => exact m_1_132
  | 12, _ => exact m_1_134
  | 13, _ => exact m_1_136
  | 14, _ => exact m_1_138
  | 15, _ => exact m_1_140
  | 16, _ => exact m_1_142
  | 17, _ => exact m_1_144
  | 18, _ => exact m_1_146
  | 19, _ => exact m_1_148
  | j + 20, h => omega
theorem h_5 : pb_sh[5]? = some (.inr (1, [.inr true, .inl 6, .inl 7, .inr true, .inl 8, .inl 9, .inl 10, .inl 11, .inl 12, .inl 13, .inl 14, .inl 15, .inl 16, .inr true, .inl 17, .inl 18, .inl 19, .inl 20, .inr true, .inr true])) := rfl
theorem g_X1_9 : pb_fd 5 1 (.inl 6) RX1 9 := ⟨1, _, RX1, TX1, 20, h_5, rfl, rfl, by decide, u_X1, Or.inl m_1_59⟩
theorem m_1_56 : Cond.fieldLink RX1 63 "PennyBooks$Ledger" "families" "I" ∈ pb_tbl := pb_tm1 (i := 56) rfl rfl
theorem g_X1_63 : pb_fd 5 0 (.inr true) RX1 63 := ⟨1, _, RX1, TX1, 20, h_5, rfl, rfl, by decide, u_X1, Or.inl m_1_56⟩
theorem h_6 : pb_sh[6]? = some (.inl (0, 12)) := rfl
theorem m_1_62 : Cond.fieldLink RX1 15 "PennyBooks$Ledger" "landOf" "[I" ∈ pb_tbl := pb_tm1 (i := 62) rfl rfl
theorem g_X1_15 : pb_fd 5 2 (.inl 7) RX1 15 := ⟨1, _, RX1, TX1, 20, h_5, rfl, rfl, by decide, u_X1, Or.inl m_1_62⟩
theorem h_7 : pb_sh[7]? = some (.inl (0, 12)) := rfl
theorem p_X1_63 : pb_fp 5 0 (.inr true) .int RX1 63 := ⟨1, _, RX1, TX1, 20, tyX1, h_5, rfl, rfl, by decide, u_X1, Or.inl m_1_56, tyX1_ok, nmX1, rfl, rfl⟩
theorem m_3_119 : Cond.code yX1_addFamily cX1_addFamily 3 (some .int) ∈ pb_tbl := pb_tm3 (i := 119) rfl rfl
theorem m_3_4 : Cond.fieldLink RX11 30 "PennyBooks" "ledger" "LPennyBooks$Ledger;" ∈ pb_tbl := pb_tm3 (i := 4) rfl rfl
theorem g_X11_30 : pb_fd 0 4 (.inl 5) RX11 30 := ⟨11, _, RX11, TX11, 14, h_0, rfl, rfl, by decide, u_X11, Or.inl m_3_4⟩
theorem m_1_58 : Cond.fieldLinkNest RX11 131 "PennyBooks$Ledger" "families" "I" "PennyBooks" ∈ pb_nests := pb_nm1 (i := 58) rfl rfl
theorem g_X11_131 : pb_fd 5 0 (.inr true) RX11 131 := ⟨1, _, RX1, TX1, 20, h_5, rfl, rfl, by decide, u_X1, Or.inr ⟨_, m_1_58⟩⟩
theorem m_3_116 : Cond.methodLink RX11 134 yX1_addFamily ∈ pb_tbl := pb_tm3 (i := 116) rfl rfl
theorem m_3_117 : Cond.instanceMethod yX1_addFamily ∈ pb_tbl := pb_tm3 (i := 117) rfl rfl
theorem m_3_118 : Cond.selects RX1 yX1_addFamily yX1_addFamily ∈ pb_tbl := pb_tm3 (i := 118) rfl rfl
theorem m_1_3 : Cond.initialized RX1 ∈ pb_tbl := pb_tm1 (i := 3) rfl rfl
theorem q_X11_134 : pb_ci RX11 134 yX1_addFamily 2 := ⟨Or.inl m_3_116, m_3_117, m_3_118, m_1_3, by decide +kernel, by decide +kernel, by decide +kernel⟩
theorem m_3_115 : Cond.code yX11_family cX11_family 3 (some .int) ∈ pb_tbl := pb_tm3 (i := 115) rfl rfl
theorem m_3_127 : Cond.constantLong RX1 79 (31) ∈ pb_tbl := pb_tm3 (i := 127) rfl rfl
theorem m_3_128 : Cond.methodLinkNest RX1 81 yX11_outside "PennyBooks" ∈ pb_nests := pb_nm3 (i := 128) rfl rfl
theorem q_X1_81 : pb_cs RX1 81 yX11_outside 3 := ⟨Or.inr ⟨_, m_3_128⟩, m_3_60, m_1_1, by decide +kernel, by decide +kernel, by decide +kernel⟩
theorem m_3_126 : Cond.code yX1_wordOrNone cX1_wordOrNone 5 (some .boolean) ∈ pb_tbl := pb_tm3 (i := 126) rfl rfl
theorem m_1_106 : Cond.fieldLink RX1 56 "PennyBooks$Ledger" "nextWords" "[J" ∈ pb_tbl := pb_tm1 (i := 106) rfl rfl
theorem g_X1_56 : pb_fd 5 17 (.inl 20) RX1 56 := ⟨1, _, RX1, TX1, 20, h_5, rfl, rfl, by decide, u_X1, Or.inl m_1_106⟩
theorem h_20 : pb_sh[20]? = some (.inl (3, 3)) := rfl
theorem m_3_132 : Cond.code yX1_tellWords cX1_tellWords 7 none ∈ pb_tbl := pb_tm3 (i := 132) rfl rfl
theorem m_3_124 : Cond.methodLink RX11 137 yX1_wordOrNone ∈ pb_tbl := pb_tm3 (i := 124) rfl rfl
theorem m_3_125 : Cond.static yX1_wordOrNone ∈ pb_tbl := pb_tm3 (i := 125) rfl rfl
theorem q_X11_137 : pb_cs RX11 137 yX1_wordOrNone 1 := ⟨Or.inl m_3_124, m_3_125, m_1_3, by decide +kernel, by decide +kernel, by decide +kernel⟩
theorem m_3_129 : Cond.methodLink RX11 141 yX1_tellWords ∈ pb_tbl := pb_tm3 (i := 129) rfl rfl
theorem m_3_130 : Cond.instanceMethod yX1_tellWords ∈ pb_tbl := pb_tm3 (i := 130) rfl rfl
theorem m_3_131 : Cond.selects RX1 yX1_tellWords yX1_tellWords ∈ pb_tbl := pb_tm3 (i := 131) rfl rfl
theorem q_X11_141 : pb_ci RX11 141 yX1_tellWords 3 := ⟨Or.inl m_3_129, m_3_130, m_3_131, m_1_3, by decide +kernel, by decide +kernel, by decide +kernel⟩
theorem m_3_123 : Cond.code yX11_words cX11_words 9 (some .boolean) ∈ pb_tbl := pb_tm3 (i := 123) rfl rfl
theorem m_3_144 : Cond.code yX1_hasFamily cX1_hasFamily 2 (some .boolean) ∈ pb_tbl := pb_tm3 (i := 144) rfl rfl
theorem m_3_141 : Cond.methodLink RX11 293 yX1_hasFamily ∈ pb_tbl := pb_tm3 (i := 141) rfl rfl
theorem m_3_142 : Cond.instanceMethod yX1_hasFamily ∈ pb_tbl := pb_tm3 (i := 142) rfl rfl
theorem m_3_143 : Cond.selects RX1 yX1_hasFamily yX1_hasFamily ∈ pb_tbl := pb_tm3 (i := 143) rfl rfl
theorem q_X11_293 : pb_ci RX11 293 yX1_hasFamily 1 := ⟨Or.inl m_3_141, m_3_142, m_3_143, m_1_3, by decide +kernel, by decide +kernel, by decide +kernel⟩
theorem m_3_140 : Cond.code yX11_noFamilyWeek cX11_noFamilyWeek 3 (some .boolean) ∈ pb_tbl := pb_tm3 (i := 140) rfl rfl
theorem m_3_147 : Cond.code yX11_badEntry cX11_badEntry 2 (some .boolean) ∈ pb_tbl := pb_tm3 (i := 147) rfl rfl
theorem m_1_66 : Cond.fieldLink RX1 66 "PennyBooks$Ledger" "lines" "I" ∈ pb_tbl := pb_tm1 (i := 66) rfl rfl
theorem g_X1_66 : pb_fd 5 3 (.inr true) RX1 66 := ⟨1, _, RX1, TX1, 20, h_5, rfl, rfl, by decide, u_X1, Or.inl m_1_66⟩
theorem m_1_72 : Cond.fieldLink RX1 18 "PennyBooks$Ledger" "familyOf" "[I" ∈ pb_tbl := pb_tm1 (i := 72) rfl rfl
theorem g_X1_18 : pb_fd 5 4 (.inl 8) RX1 18 := ⟨1, _, RX1, TX1, 20, h_5, rfl, rfl, by decide, u_X1, Or.inl m_1_72⟩
theorem h_8 : pb_sh[8]? = some (.inl (0, 200)) := rfl
theorem m_1_77 : Cond.fieldLink RX1 21 "PennyBooks$Ledger" "weekOf" "[I" ∈ pb_tbl := pb_tm1 (i := 77) rfl rfl
theorem g_X1_21 : pb_fd 5 5 (.inl 9) RX1 21 := ⟨1, _, RX1, TX1, 20, h_5, rfl, rfl, by decide, u_X1, Or.inl m_1_77⟩
theorem h_9 : pb_sh[9]? = some (.inl (0, 200)) := rfl
theorem m_1_84 : Cond.fieldLink RX1 24 "PennyBooks$Ledger" "shopOf" "[I" ∈ pb_tbl := pb_tm1 (i := 84) rfl rfl
theorem g_X1_24 : pb_fd 5 6 (.inl 10) RX1 24 := ⟨1, _, RX1, TX1, 20, h_5, rfl, rfl, by decide, u_X1, Or.inl m_1_84⟩
theorem h_10 : pb_sh[10]? = some (.inl (0, 200)) := rfl
theorem m_1_86 : Cond.fieldLink RX1 27 "PennyBooks$Ledger" "handOf" "[I" ∈ pb_tbl := pb_tm1 (i := 86) rfl rfl
theorem g_X1_27 : pb_fd 5 7 (.inl 11) RX1 27 := ⟨1, _, RX1, TX1, 20, h_5, rfl, rfl, by decide, u_X1, Or.inl m_1_86⟩
theorem h_11 : pb_sh[11]? = some (.inl (0, 200)) := rfl
theorem m_1_88 : Cond.fieldLink RX1 30 "PennyBooks$Ledger" "came" "[Z" ∈ pb_tbl := pb_tm1 (i := 88) rfl rfl
theorem g_X1_30 : pb_fd 5 8 (.inl 12) RX1 30 := ⟨1, _, RX1, TX1, 20, h_5, rfl, rfl, by decide, u_X1, Or.inl m_1_88⟩
theorem h_12 : pb_sh[12]? = some (.inl (1, 200)) := rfl
theorem m_1_90 : Cond.fieldLink RX1 34 "PennyBooks$Ledger" "knownFrom" "[I" ∈ pb_tbl := pb_tm1 (i := 90) rfl rfl
theorem g_X1_34 : pb_fd 5 9 (.inl 13) RX1 34 := ⟨1, _, RX1, TX1, 20, h_5, rfl, rfl, by decide, u_X1, Or.inl m_1_90⟩
theorem h_13 : pb_sh[13]? = some (.inl (0, 200)) := rfl
theorem m_1_92 : Cond.fieldLink RX1 41 "PennyBooks$Ledger" "written" "[I" ∈ pb_tbl := pb_tm1 (i := 92) rfl rfl
theorem g_X1_41 : pb_fd 5 11 (.inl 15) RX1 41 := ⟨1, _, RX1, TX1, 20, h_5, rfl, rfl, by decide, u_X1, Or.inl m_1_92⟩
theorem h_15 : pb_sh[15]? = some (.inl (0, 200)) := rfl
theorem m_1_93 : Cond.fieldLink RX1 44 "PennyBooks$Ledger" "penceOf" "[I" ∈ pb_tbl := pb_tm1 (i := 93) rfl rfl
theorem g_X1_44 : pb_fd 5 12 (.inl 16) RX1 44 := ⟨1, _, RX1, TX1, 20, h_5, rfl, rfl, by decide, u_X1, Or.inl m_1_93⟩
theorem h_16 : pb_sh[16]? = some (.inl (0, 200)) := rfl
theorem m_1_91 : Cond.fieldLink RX1 37 "PennyBooks$Ledger" "wordsOf" "[J" ∈ pb_tbl := pb_tm1 (i := 91) rfl rfl
theorem g_X1_37 : pb_fd 5 10 (.inl 14) RX1 37 := ⟨1, _, RX1, TX1, 20, h_5, rfl, rfl, by decide, u_X1, Or.inl m_1_91⟩
theorem m_3_156 : Cond.methodLink RX1 85 arraycopyName ∈ pb_tbl := pb_tm3 (i := 156) rfl rfl
theorem h_14 : pb_sh[14]? = some (.inl (3, 600)) := rfl
theorem m_3_157 : Cond.methodLink RX1 91 yX1_tellWords ∈ pb_tbl := pb_tm3 (i := 157) rfl rfl
theorem q_X1_91 : pb_ci RX1 91 yX1_tellWords 3 := ⟨Or.inl m_3_157, m_3_130, m_3_131, m_1_3, by decide +kernel, by decide +kernel, by decide +kernel⟩
theorem m_1_108 : Cond.fieldLink RX1 95 "PennyBooks$Ledger" "latestDay" "I" ∈ pb_tbl := pb_tm1 (i := 108) rfl rfl
theorem p_X1_95 : pb_fp 5 18 (.inr true) .int RX1 95 := ⟨1, _, RX1, TX1, 20, tyX1, h_5, rfl, rfl, by decide, u_X1, Or.inl m_1_108, tyX1_ok, nmX1, rfl, rfl⟩
theorem p_X1_66 : pb_fp 5 3 (.inr true) .int RX1 66 := ⟨1, _, RX1, TX1, 20, tyX1, h_5, rfl, rfl, by decide, u_X1, Or.inl m_1_66, tyX1_ok, nmX1, rfl, rfl⟩
theorem m_3_155 : Cond.code yX1_addLine cX1_addLine 9 (some .int) ∈ pb_tbl := pb_tm3 (i := 155) rfl rfl
theorem m_3_151 : Cond.code yX1_wordsTold cX1_wordsTold 1 (some .boolean) ∈ pb_tbl := pb_tm3 (i := 151) rfl rfl
theorem m_3_137 : Cond.methodLink RX11 145 yX11_noFamilyWeek ∈ pb_tbl := pb_tm3 (i := 137) rfl rfl
theorem m_3_139 : Cond.instanceMethod yX11_noFamilyWeek ∈ pb_tbl := pb_tm3 (i := 139) rfl rfl
theorem ms_X11_noFamilyWeek : Cond.selects yX11_noFamilyWeek.cls yX11_noFamilyWeek yX11_noFamilyWeek ∈ pb_tbl := pb_ps1 (i := 0) (q := (yX11_noFamilyWeek, 14)) rfl
theorem q_X11_145 : pb_ci RX11 145 yX11_noFamilyWeek 2 := ⟨Or.inl m_3_137, m_3_139, ms_X11_noFamilyWeek, m_1_1, by decide +kernel, by decide +kernel, by decide +kernel⟩
theorem m_3_145 : Cond.methodLink RX11 149 yX11_badEntry ∈ pb_tbl := pb_tm3 (i := 145) rfl rfl
theorem m_3_146 : Cond.static yX11_badEntry ∈ pb_tbl := pb_tm3 (i := 146) rfl rfl
theorem q_X11_149 : pb_cs RX11 149 yX11_badEntry 2 := ⟨Or.inl m_3_145, m_3_146, m_1_1, by decide +kernel, by decide +kernel, by decide +kernel⟩
theorem m_1_71 : Cond.fieldLinkNest RX11 152 "PennyBooks$Ledger" "lines" "I" "PennyBooks" ∈ pb_nests := pb_nm1 (i := 71) rfl rfl
theorem g_X11_152 : pb_fd 5 3 (.inr true) RX11 152 := ⟨1, _, RX1, TX1, 20, h_5, rfl, rfl, by decide, u_X1, Or.inr ⟨_, m_1_71⟩⟩
theorem m_1_107 : Cond.fieldLinkNest RX11 155 "PennyBooks$Ledger" "latestDay" "I" "PennyBooks" ∈ pb_nests := pb_nm1 (i := 107) rfl rfl
theorem g_X11_155 : pb_fd 5 18 (.inr true) RX11 155 := ⟨1, _, RX1, TX1, 20, h_5, rfl, rfl, by decide, u_X1, Or.inr ⟨_, m_1_107⟩⟩
theorem m_3_148 : Cond.methodLink RX11 158 yX1_wordsTold ∈ pb_tbl := pb_tm3 (i := 148) rfl rfl
theorem m_3_149 : Cond.instanceMethod yX1_wordsTold ∈ pb_tbl := pb_tm3 (i := 149) rfl rfl
theorem m_3_150 : Cond.selects RX1 yX1_wordsTold yX1_wordsTold ∈ pb_tbl := pb_tm3 (i := 150) rfl rfl
theorem q_X11_158 : pb_ci RX11 158 yX1_wordsTold 0 := ⟨Or.inl m_3_148, m_3_149, m_3_150, m_1_3, by decide +kernel, by decide +kernel, by decide +kernel⟩
theorem m_3_152 : Cond.methodLink RX11 162 yX1_addLine ∈ pb_tbl := pb_tm3 (i := 152) rfl rfl
theorem m_3_153 : Cond.instanceMethod yX1_addLine ∈ pb_tbl := pb_tm3 (i := 153) rfl rfl
theorem m_3_154 : Cond.selects RX1 yX1_addLine yX1_addLine ∈ pb_tbl := pb_tm3 (i := 154) rfl rfl
theorem q_X11_162 : pb_ci RX11 162 yX1_addLine 7 := ⟨Or.inl m_3_152, m_3_153, m_3_154, m_1_3, by decide +kernel, by decide +kernel, by decide +kernel⟩
theorem m_3_136 : Cond.code yX11_line cX11_line 8 (some .int) ∈ pb_tbl := pb_tm3 (i := 136) rfl rfl
theorem m_3_165 : Cond.code yX1_hasLine cX1_hasLine 2 (some .boolean) ∈ pb_tbl := pb_tm3 (i := 165) rfl rfl
theorem m_1_109 : Cond.fieldLink RX1 59 "PennyBooks$Ledger" "lookedFrom" "I" ∈ pb_tbl := pb_tm1 (i := 109) rfl rfl
theorem p_X1_59 : pb_fp 5 19 (.inr true) .int RX1 59 := ⟨1, _, RX1, TX1, 20, tyX1, h_5, rfl, rfl, by decide, u_X1, Or.inl m_1_109, tyX1_ok, nmX1, rfl, rfl⟩
theorem m_1_102 : Cond.fieldLink RX1 98 "PennyBooks$Ledger" "readings" "I" ∈ pb_tbl := pb_tm1 (i := 102) rfl rfl
theorem g_X1_98 : pb_fd 5 13 (.inr true) RX1 98 := ⟨1, _, RX1, TX1, 20, h_5, rfl, rfl, by decide, u_X1, Or.inl m_1_102⟩
theorem m_1_105 : Cond.fieldLink RX1 53 "PennyBooks$Ledger" "readFrom" "[I" ∈ pb_tbl := pb_tm1 (i := 105) rfl rfl
theorem g_X1_53 : pb_fd 5 16 (.inl 19) RX1 53 := ⟨1, _, RX1, TX1, 20, h_5, rfl, rfl, by decide, u_X1, Or.inl m_1_105⟩
theorem h_19 : pb_sh[19]? = some (.inl (0, 60)) := rfl
theorem m_1_103 : Cond.fieldLink RX1 47 "PennyBooks$Ledger" "readLine" "[I" ∈ pb_tbl := pb_tm1 (i := 103) rfl rfl
theorem g_X1_47 : pb_fd 5 14 (.inl 17) RX1 47 := ⟨1, _, RX1, TX1, 20, h_5, rfl, rfl, by decide, u_X1, Or.inl m_1_103⟩
theorem h_17 : pb_sh[17]? = some (.inl (0, 60)) := rfl
theorem m_1_104 : Cond.fieldLink RX1 50 "PennyBooks$Ledger" "readPence" "[I" ∈ pb_tbl := pb_tm1 (i := 104) rfl rfl
theorem g_X1_50 : pb_fd 5 15 (.inl 18) RX1 50 := ⟨1, _, RX1, TX1, 20, h_5, rfl, rfl, by decide, u_X1, Or.inl m_1_104⟩
theorem h_18 : pb_sh[18]? = some (.inl (0, 60)) := rfl
theorem m_3_173 : Cond.code yX1_lookFrom cX1_lookFrom 3 none ∈ pb_tbl := pb_tm3 (i := 173) rfl rfl
theorem p_X1_98 : pb_fp 5 13 (.inr true) .int RX1 98 := ⟨1, _, RX1, TX1, 20, tyX1, h_5, rfl, rfl, by decide, u_X1, Or.inl m_1_102, tyX1_ok, nmX1, rfl, rfl⟩
theorem g_X1_59 : pb_fd 5 19 (.inr true) RX1 59 := ⟨1, _, RX1, TX1, 20, h_5, rfl, rfl, by decide, u_X1, Or.inl m_1_109⟩
theorem m_3_170 : Cond.methodLink RX1 101 yX1_lookFrom ∈ pb_tbl := pb_tm3 (i := 170) rfl rfl
theorem m_3_171 : Cond.instanceMethod yX1_lookFrom ∈ pb_tbl := pb_tm3 (i := 171) rfl rfl
theorem m_3_172 : Cond.selects RX1 yX1_lookFrom yX1_lookFrom ∈ pb_tbl := pb_tm3 (i := 172) rfl rfl
theorem q_X1_101 : pb_ci RX1 101 yX1_lookFrom 1 := ⟨Or.inl m_3_170, m_3_171, m_3_172, m_1_3, by decide +kernel, by decide +kernel, by decide +kernel⟩
theorem m_3_169 : Cond.code yX1_addReading cX1_addReading 4 none ∈ pb_tbl := pb_tm3 (i := 169) rfl rfl
theorem m_3_162 : Cond.methodLink RX11 166 yX1_hasLine ∈ pb_tbl := pb_tm3 (i := 162) rfl rfl
theorem m_3_163 : Cond.instanceMethod yX1_hasLine ∈ pb_tbl := pb_tm3 (i := 163) rfl rfl
theorem m_3_164 : Cond.selects RX1 yX1_hasLine yX1_hasLine ∈ pb_tbl := pb_tm3 (i := 164) rfl rfl
theorem q_X11_166 : pb_ci RX11 166 yX1_hasLine 1 := ⟨Or.inl m_3_162, m_3_163, m_3_164, m_1_3, by decide +kernel, by decide +kernel, by decide +kernel⟩
theorem m_1_101 : Cond.fieldLinkNest RX11 170 "PennyBooks$Ledger" "readings" "I" "PennyBooks" ∈ pb_nests := pb_nm1 (i := 101) rfl rfl
theorem g_X11_170 : pb_fd 5 13 (.inr true) RX11 170 := ⟨1, _, RX1, TX1, 20, h_5, rfl, rfl, by decide, u_X1, Or.inr ⟨_, m_1_101⟩⟩
theorem m_3_166 : Cond.methodLink RX11 173 yX1_addReading ∈ pb_tbl := pb_tm3 (i := 166) rfl rfl
theorem m_3_167 : Cond.instanceMethod yX1_addReading ∈ pb_tbl := pb_tm3 (i := 167) rfl rfl
theorem m_3_168 : Cond.selects RX1 yX1_addReading yX1_addReading ∈ pb_tbl := pb_tm3 (i := 168) rfl rfl
theorem q_X11_173 : pb_ci RX11 173 yX1_addReading 3 := ⟨Or.inl m_3_166, m_3_167, m_3_168, m_1_3, by decide +kernel, by decide +kernel, by decide +kernel⟩
theorem m_3_161 : Cond.code yX11_reading cX11_reading 4 (some .boolean) ∈ pb_tbl := pb_tm3 (i := 161) rfl rfl
theorem m_3_178 : Cond.methodLink RX11 176 yX1_lookFrom ∈ pb_tbl := pb_tm3 (i := 178) rfl rfl
theorem q_X11_176 : pb_ci RX11 176 yX1_lookFrom 1 := ⟨Or.inl m_3_178, m_3_171, m_3_172, m_1_3, by decide +kernel, by decide +kernel, by decide +kernel⟩
theorem m_3_177 : Cond.code yX11_asof cX11_asof 2 (some .boolean) ∈ pb_tbl := pb_tm3 (i := 177) rfl rfl
theorem m_3_191 : Cond.code yX1_isKnown cX1_isKnown 2 (some .boolean) ∈ pb_tbl := pb_tm3 (i := 191) rfl rfl
theorem m_3_187 : Cond.methodLink RX1 73 yX1_hasLine ∈ pb_tbl := pb_tm3 (i := 187) rfl rfl
theorem q_X1_73 : pb_ci RX1 73 yX1_hasLine 1 := ⟨Or.inl m_3_187, m_3_163, m_3_164, m_1_3, by decide +kernel, by decide +kernel, by decide +kernel⟩
theorem m_3_188 : Cond.methodLink RX1 76 yX1_isKnown ∈ pb_tbl := pb_tm3 (i := 188) rfl rfl
theorem m_3_189 : Cond.instanceMethod yX1_isKnown ∈ pb_tbl := pb_tm3 (i := 189) rfl rfl
theorem m_3_190 : Cond.selects RX1 yX1_isKnown yX1_isKnown ∈ pb_tbl := pb_tm3 (i := 190) rfl rfl
theorem q_X1_76 : pb_ci RX1 76 yX1_isKnown 1 := ⟨Or.inl m_3_188, m_3_189, m_3_190, m_1_3, by decide +kernel, by decide +kernel, by decide +kernel⟩
theorem m_3_186 : Cond.code yX1_lineStatus cX1_lineStatus 2 (some .int) ∈ pb_tbl := pb_tm3 (i := 186) rfl rfl
theorem m_3_183 : Cond.methodLink RX11 180 yX1_lineStatus ∈ pb_tbl := pb_tm3 (i := 183) rfl rfl
theorem m_3_184 : Cond.instanceMethod yX1_lineStatus ∈ pb_tbl := pb_tm3 (i := 184) rfl rfl
theorem m_3_185 : Cond.selects RX1 yX1_lineStatus yX1_lineStatus ∈ pb_tbl := pb_tm3 (i := 185) rfl rfl
theorem q_X11_180 : pb_ci RX11 180 yX1_lineStatus 1 := ⟨Or.inl m_3_183, m_3_184, m_3_185, m_1_3, by decide +kernel, by decide +kernel, by decide +kernel⟩
theorem m_1_100 : Cond.fieldLinkNest RX11 184 "PennyBooks$Ledger" "penceOf" "[I" "PennyBooks" ∈ pb_nests := pb_nm1 (i := 100) rfl rfl
theorem g_X11_184 : pb_fd 5 12 (.inl 16) RX11 184 := ⟨1, _, RX1, TX1, 20, h_5, rfl, rfl, by decide, u_X1, Or.inr ⟨_, m_1_100⟩⟩
theorem m_3_182 : Cond.code yX11_pence cX11_pence 2 (some .int) ∈ pb_tbl := pb_tm3 (i := 182) rfl rfl
theorem m_1_159 : Cond.fieldLink RX5 23 "PennyBooks$Reader" "filled" "I" ∈ pb_tbl := pb_tm1 (i := 159) rfl rfl
theorem m_1_180 : Cond.laysFinal RX5 "PennyBooks$Reader" "tape" "[B" ∈ pb_tbl := pb_tm1 (i := 180) rfl rfl
theorem m_1_182 : Cond.lays RX5 "PennyBooks$Reader" "filled" "I" ∈ pb_tbl := pb_tm1 (i := 182) rfl rfl
theorem m_1_184 : Cond.lays RX5 "PennyBooks$Reader" "length" "I" ∈ pb_tbl := pb_tm1 (i := 184) rfl rfl
theorem m_1_186 : Cond.lays RX5 "PennyBooks$Reader" "token" "I" ∈ pb_tbl := pb_tm1 (i := 186) rfl rfl
theorem m_1_188 : Cond.lays RX5 "PennyBooks$Reader" "start" "I" ∈ pb_tbl := pb_tm1 (i := 188) rfl rfl
theorem m_1_190 : Cond.lays RX5 "PennyBooks$Reader" "end" "I" ∈ pb_tbl := pb_tm1 (i := 190) rfl rfl
theorem m_1_192 : Cond.lays RX5 "PennyBooks$Reader" "value" "J" ∈ pb_tbl := pb_tm1 (i := 192) rfl rfl
theorem m_1_194 : Cond.lays RX5 "PennyBooks$Reader" "state" "I" ∈ pb_tbl := pb_tm1 (i := 194) rfl rfl
theorem m_1_196 : Cond.lays RX5 "PennyBooks$Reader" "sum" "I" ∈ pb_tbl := pb_tm1 (i := 196) rfl rfl
theorem m_1_198 : Cond.lays RX5 "PennyBooks$Reader" "brackets" "I" ∈ pb_tbl := pb_tm1 (i := 198) rfl rfl
theorem m_1_200 : Cond.laysFinal RX5 "PennyBooks$Reader" "waiting" "[I" ∈ pb_tbl := pb_tm1 (i := 200) rfl rfl
theorem m_1_202 : Cond.lays RX5 "PennyBooks$Reader" "waits" "I" ∈ pb_tbl := pb_tm1 (i := 202) rfl rfl
theorem m_1_204 : Cond.laysFinal RX5 "PennyBooks$Reader" "code" "[J" ∈ pb_tbl := pb_tm1 (i := 204) rfl rfl
theorem m_1_206 : Cond.lays RX5 "PennyBooks$Reader" "size" "I" ∈ pb_tbl := pb_tm1 (i := 206) rfl rfl
theorem m_1_208 : Cond.lays RX5 "PennyBooks$Reader" "test" "I" ∈ pb_tbl := pb_tm1 (i := 208) rfl rfl
theorem m_1_210 : Cond.lays RX5 "PennyBooks$Reader" "everRead" "Z" ∈ pb_tbl := pb_tm1 (i := 210) rfl rfl
theorem m_1_212 : Cond.lays RX5 "PennyBooks$Reader" "fault" "I" ∈ pb_tbl := pb_tm1 (i := 212) rfl rfl
theorem m_1_214 : Cond.lays RX5 "PennyBooks$Reader" "place" "I" ∈ pb_tbl := pb_tm1 (i := 214) rfl rfl
theorem m_1_216 : Cond.lays RX5 "PennyBooks$Reader" "rules" "I" ∈ pb_tbl := pb_tm1 (i := 216) rfl rfl
theorem u_X5 : ∀ w ∈ u_ws RX5 TX5 19, w ∈ pb_tbl := by
  intro w hw
  obtain ⟨k, hk, rfl⟩ := List.mem_map.mp hw
  have hk := List.mem_range.mp hk
  match k, hk with
  | 0, _ => exact m_1_180
  | 1, _ => exact m_1_182
  | 2, _ => exact m_1_184
  | 3, _ => exact m_1_186
  | 4, _ => exact m_1_188
  | 5, _ => exact m_1_190
  | 6, _ => exact m_1_192
  | 7, _ => exact m_1_194
  | 8, _ => exact m_1_196
  | 9, _ => exact m_1_198
  | 10, _ => exact m_1_200
  | 11, _ => exact m_1_202
  | 12, _ => exact m_1_204
  | 13, _ => exact m_1_206
  | 14, _ => exact m_1_208
  | 15, _ => exact m_1_210
  | 16, _ => exact m_1_212
  | 17, _ => exact m_1_214
  | 18, _ => exact m_1_216
  | j + 19, h => omega
theorem h_21 : pb_sh[21]? = some (.inr (5, [.inl 22, .inr true, .inr true, .inr true, .inr true, .inr true, .inr false, .inr true, .inr true, .inr true, .inl 23, .inr true, .inl 24, .inr true, .inr true, .inr true, .inr true, .inr true, .inr true])) := rfl
theorem g_X5_23 : pb_fd 21 1 (.inr true) RX5 23 := ⟨5, _, RX5, TX5, 19, h_21, rfl, rfl, by decide, u_X5, Or.inl m_1_159⟩
theorem m_1_158 : Cond.fieldLink RX5 9 "PennyBooks$Reader" "tape" "[B" ∈ pb_tbl := pb_tm1 (i := 158) rfl rfl
theorem g_X5_9 : pb_fd 21 0 (.inl 22) RX5 9 := ⟨5, _, RX5, TX5, 19, h_21, rfl, rfl, by decide, u_X5, Or.inl m_1_158⟩
theorem h_22 : pb_sh[22]? = some (.inl (2, 600)) := rfl
theorem p_X5_23 : pb_fp 21 1 (.inr true) .int RX5 23 := ⟨5, _, RX5, TX5, 19, tyX5, h_21, rfl, rfl, by decide, u_X5, Or.inl m_1_159, tyX5_ok, nmX5, rfl, rfl⟩
theorem m_3_203 : Cond.code yX5_appendFour cX5_appendFour 3 none ∈ pb_tbl := pb_tm3 (i := 203) rfl rfl
theorem m_3_200 : Cond.methodLink RX5 27 yX5_appendFour ∈ pb_tbl := pb_tm3 (i := 200) rfl rfl
theorem m_3_202 : Cond.instanceMethod yX5_appendFour ∈ pb_tbl := pb_tm3 (i := 202) rfl rfl
theorem ms_X5_appendFour : Cond.selects yX5_appendFour.cls yX5_appendFour yX5_appendFour ∈ pb_tbl := pb_ps1 (i := 1) (q := (yX5_appendFour, 19)) rfl
theorem m_1_4 : Cond.initialized RX5 ∈ pb_tbl := pb_tm1 (i := 4) rfl rfl
theorem q_X5_27 : pb_ci RX5 27 yX5_appendFour 1 := ⟨Or.inl m_3_200, m_3_202, ms_X5_appendFour, m_1_4, by decide +kernel, by decide +kernel, by decide +kernel⟩
theorem m_3_199 : Cond.code yX5_append cX5_append 6 (some .int) ∈ pb_tbl := pb_tm3 (i := 199) rfl rfl
theorem m_3_5 : Cond.fieldLink RX11 37 "PennyBooks" "reader" "LPennyBooks$Reader;" ∈ pb_tbl := pb_tm3 (i := 5) rfl rfl
theorem g_X11_37 : pb_fd 0 5 (.inl 21) RX11 37 := ⟨11, _, RX11, TX11, 14, h_0, rfl, rfl, by decide, u_X11, Or.inl m_3_5⟩
theorem m_3_196 : Cond.methodLink RX11 188 yX5_append ∈ pb_tbl := pb_tm3 (i := 196) rfl rfl
theorem m_3_197 : Cond.instanceMethod yX5_append ∈ pb_tbl := pb_tm3 (i := 197) rfl rfl
theorem m_3_198 : Cond.selects RX5 yX5_append yX5_append ∈ pb_tbl := pb_tm3 (i := 198) rfl rfl
theorem q_X11_188 : pb_ci RX11 188 yX5_append 5 := ⟨Or.inl m_3_196, m_3_197, m_3_198, m_1_4, by decide +kernel, by decide +kernel, by decide +kernel⟩
theorem m_3_195 : Cond.code yX11_feed cX11_feed 6 (some .int) ∈ pb_tbl := pb_tm3 (i := 195) rfl rfl
theorem m_1_229 : Cond.fieldLink RX0 9 "PennyBooks$Judge" "code" "[J" ∈ pb_tbl := pb_tm1 (i := 229) rfl rfl
theorem m_1_235 : Cond.laysFinal RX0 "PennyBooks$Judge" "ledger" "LPennyBooks$Ledger;" ∈ pb_tbl := pb_tm1 (i := 235) rfl rfl
theorem m_1_237 : Cond.lays RX0 "PennyBooks$Judge" "editions" "I" ∈ pb_tbl := pb_tm1 (i := 237) rfl rfl
theorem m_1_239 : Cond.laysFinal RX0 "PennyBooks$Judge" "code" "[J" ∈ pb_tbl := pb_tm1 (i := 239) rfl rfl
theorem m_2_1 : Cond.laysFinal RX0 "PennyBooks$Judge" "sizes" "[I" ∈ pb_tbl := pb_tm2 (i := 1) rfl rfl
theorem m_2_3 : Cond.laysFinal RX0 "PennyBooks$Judge" "judgedAt" "[I" ∈ pb_tbl := pb_tm2 (i := 3) rfl rfl
theorem m_2_5 : Cond.laysFinal RX0 "PennyBooks$Judge" "verdicts" "[I" ∈ pb_tbl := pb_tm2 (i := 5) rfl rfl
theorem m_2_7 : Cond.laysFinal RX0 "PennyBooks$Judge" "stack" "[J" ∈ pb_tbl := pb_tm2 (i := 7) rfl rfl
theorem m_2_9 : Cond.lays RX0 "PennyBooks$Judge" "height" "I" ∈ pb_tbl := pb_tm2 (i := 9) rfl rfl
theorem u_X0 : ∀ w ∈ u_ws RX0 TX0 8, w ∈ pb_tbl := by
  intro w hw
  obtain ⟨k, hk, rfl⟩ := List.mem_map.mp hw
  have hk := List.mem_range.mp hk
  match k, hk with
  | 0, _ => exact m_1_235
  | 1, _ => exact m_1_237
  | 2, _ => exact m_1_239
  | 3, _ => exact m_2_1
  | 4, _ => exact m_2_3
  | 5, _ => exact m_2_5
  | 6, _ => exact m_2_7
  | 7, _ => exact m_2_9
  | j + 8, h => omega
theorem h_25 : pb_sh[25]? = some (.inr (0, [.inl 5, .inr true, .inl 26, .inl 27, .inl 28, .inl 29, .inl 30, .inr true])) := rfl
theorem g_X0_9 : pb_fd 25 2 (.inl 26) RX0 9 := ⟨0, _, RX0, TX0, 8, h_25, rfl, rfl, by decide, u_X0, Or.inl m_1_229⟩
theorem m_1_227 : Cond.fieldLink RX0 32 "PennyBooks$Judge" "editions" "I" ∈ pb_tbl := pb_tm1 (i := 227) rfl rfl
theorem g_X0_32 : pb_fd 25 1 (.inr true) RX0 32 := ⟨0, _, RX0, TX0, 8, h_25, rfl, rfl, by decide, u_X0, Or.inl m_1_227⟩
theorem m_4_175 : Cond.methodLink RX0 36 arraycopyName ∈ pb_tbl := pb_tm4 (i := 175) rfl rfl
theorem h_24 : pb_sh[24]? = some (.inl (3, 600)) := rfl
theorem h_26 : pb_sh[26]? = some (.inl (3, 3000)) := rfl
theorem m_1_230 : Cond.fieldLink RX0 15 "PennyBooks$Judge" "sizes" "[I" ∈ pb_tbl := pb_tm1 (i := 230) rfl rfl
theorem g_X0_15 : pb_fd 25 3 (.inl 27) RX0 15 := ⟨0, _, RX0, TX0, 8, h_25, rfl, rfl, by decide, u_X0, Or.inl m_1_230⟩
theorem h_27 : pb_sh[27]? = some (.inl (0, 5)) := rfl
theorem p_X0_32 : pb_fp 25 1 (.inr true) .int RX0 32 := ⟨0, _, RX0, TX0, 8, tyX0, h_25, rfl, rfl, by decide, u_X0, Or.inl m_1_227, tyX0_ok, nmX0, rfl, rfl⟩
theorem m_4_174 : Cond.code yX0_addEdition cX0_addEdition 3 (some .int) ∈ pb_tbl := pb_tm4 (i := 174) rfl rfl
theorem m_3_221 : Cond.code yX5_isLetter cX5_isLetter 1 (some .boolean) ∈ pb_tbl := pb_tm3 (i := 221) rfl rfl
theorem m_1_164 : Cond.fieldLink RX5 57 "PennyBooks$Reader" "end" "I" ∈ pb_tbl := pb_tm1 (i := 164) rfl rfl
theorem g_X5_57 : pb_fd 21 5 (.inr true) RX5 57 := ⟨5, _, RX5, TX5, 19, h_21, rfl, rfl, by decide, u_X5, Or.inl m_1_164⟩
theorem m_1_163 : Cond.fieldLink RX5 78 "PennyBooks$Reader" "start" "I" ∈ pb_tbl := pb_tm1 (i := 163) rfl rfl
theorem g_X5_78 : pb_fd 21 4 (.inr true) RX5 78 := ⟨5, _, RX5, TX5, 19, h_21, rfl, rfl, by decide, u_X5, Or.inl m_1_163⟩
theorem m_3_231 : Cond.code yX5_isLongWord cX5_isLongWord 1 (some .boolean) ∈ pb_tbl := pb_tm3 (i := 231) rfl rfl
theorem m_1_165 : Cond.fieldLink RX5 102 "PennyBooks$Reader" "value" "J" ∈ pb_tbl := pb_tm1 (i := 165) rfl rfl
theorem p_X5_102 : pb_fp 21 6 (.inr false) .long RX5 102 := ⟨5, _, RX5, TX5, 19, tyX5, h_21, rfl, rfl, by decide, u_X5, Or.inl m_1_165, tyX5_ok, nmX5, rfl, rfl⟩
theorem m_1_161 : Cond.fieldLink RX5 54 "PennyBooks$Reader" "length" "I" ∈ pb_tbl := pb_tm1 (i := 161) rfl rfl
theorem g_X5_54 : pb_fd 21 2 (.inr true) RX5 54 := ⟨5, _, RX5, TX5, 19, h_21, rfl, rfl, by decide, u_X5, Or.inl m_1_161⟩
theorem m_1_162 : Cond.fieldLink RX5 75 "PennyBooks$Reader" "token" "I" ∈ pb_tbl := pb_tm1 (i := 162) rfl rfl
theorem p_X5_75 : pb_fp 21 3 (.inr true) .int RX5 75 := ⟨5, _, RX5, TX5, 19, tyX5, h_21, rfl, rfl, by decide, u_X5, Or.inl m_1_162, tyX5_ok, nmX5, rfl, rfl⟩
theorem m_3_219 : Cond.methodLink RX5 81 yX5_isLetter ∈ pb_tbl := pb_tm3 (i := 219) rfl rfl
theorem m_3_220 : Cond.static yX5_isLetter ∈ pb_tbl := pb_tm3 (i := 220) rfl rfl
theorem q_X5_81 : pb_cs RX5 81 yX5_isLetter 1 := ⟨Or.inl m_3_219, m_3_220, m_1_4, by decide +kernel, by decide +kernel, by decide +kernel⟩
theorem g_X5_102 : pb_fd 21 6 (.inr false) RX5 102 := ⟨5, _, RX5, TX5, 19, h_21, rfl, rfl, by decide, u_X5, Or.inl m_1_165⟩
theorem p_X5_57 : pb_fp 21 5 (.inr true) .int RX5 57 := ⟨5, _, RX5, TX5, 19, tyX5, h_21, rfl, rfl, by decide, u_X5, Or.inl m_1_164, tyX5_ok, nmX5, rfl, rfl⟩
theorem m_3_226 : Cond.fieldLink RX5 106 "PennyBooks$Reader" "KEYWORDS" "[J" ∈ pb_tbl := pb_tm3 (i := 226) rfl rfl
theorem m_3_228 : Cond.methodLink RX5 109 yX5_isLongWord ∈ pb_tbl := pb_tm3 (i := 228) rfl rfl
theorem m_3_230 : Cond.instanceMethod yX5_isLongWord ∈ pb_tbl := pb_tm3 (i := 230) rfl rfl
theorem ms_X5_isLongWord : Cond.selects yX5_isLongWord.cls yX5_isLongWord yX5_isLongWord ∈ pb_tbl := pb_ps1 (i := 4) (q := (yX5_isLongWord, 19)) rfl
theorem q_X5_109 : pb_ci RX5 109 yX5_isLongWord 0 := ⟨Or.inl m_3_228, m_3_230, ms_X5_isLongWord, m_1_4, by decide +kernel, by decide +kernel, by decide +kernel⟩
theorem m_3_225 : Cond.code yX5_nextWord cX5_nextWord 2 none ∈ pb_tbl := pb_tm3 (i := 225) rfl rfl
theorem m_3_234 : Cond.code yX5_isDigit cX5_isDigit 1 (some .boolean) ∈ pb_tbl := pb_tm3 (i := 234) rfl rfl
theorem m_3_232 : Cond.methodLink RX5 88 yX5_isDigit ∈ pb_tbl := pb_tm3 (i := 232) rfl rfl
theorem m_3_233 : Cond.static yX5_isDigit ∈ pb_tbl := pb_tm3 (i := 233) rfl rfl
theorem q_X5_88 : pb_cs RX5 88 yX5_isDigit 1 := ⟨Or.inl m_3_232, m_3_233, m_1_4, by decide +kernel, by decide +kernel, by decide +kernel⟩
theorem m_3_239 : Cond.constantLong RX5 115 (10) ∈ pb_tbl := pb_tm3 (i := 239) rfl rfl
theorem m_4_0 : Cond.constantLong RX5 117 (48) ∈ pb_tbl := pb_tm4 (i := 0) rfl rfl
theorem m_3_238 : Cond.code yX5_nextNumber cX5_nextNumber 1 none ∈ pb_tbl := pb_tm3 (i := 238) rfl rfl
theorem m_4_14 : Cond.fieldLink RJ0 38 "java/lang/String" "COMPACT_STRINGS" "Z" ∈ pb_tbl := pb_tm4 (i := 14) rfl rfl
theorem m_9_166 : Cond.fieldLink RJ0 15 "java/lang/String" "coder" "B" ∈ pb_tbl := pb_tm9 (i := 166) rfl rfl
theorem m_4_13 : Cond.code yJ0_isLatin1_aae02 cJ0_isLatin1_aae02 1 (some .boolean) ∈ pb_tbl := pb_tm4 (i := 13) rfl rfl
theorem m_4_23 : Cond.code yJ0_coder_7d493 cJ0_coder_7d493 1 (some .byte) ∈ pb_tbl := pb_tm4 (i := 23) rfl rfl
theorem m_9_167 : Cond.fieldLink RJ0 9 "java/lang/String" "value" "[B" ∈ pb_tbl := pb_tm9 (i := 167) rfl rfl
theorem m_4_20 : Cond.methodLink RJ0 335 yJ0_coder_7d493 ∈ pb_tbl := pb_tm4 (i := 20) rfl rfl
theorem m_4_21 : Cond.instanceMethod yJ0_coder_7d493 ∈ pb_tbl := pb_tm4 (i := 21) rfl rfl
theorem m_4_22 : Cond.selects RJ0 yJ0_coder_7d493 yJ0_coder_7d493 ∈ pb_tbl := pb_tm4 (i := 22) rfl rfl
theorem m_1_17 : Cond.initialized RJ0 ∈ pb_tbl := pb_tm1 (i := 17) rfl rfl
theorem q_J0_335 : pb_ci RJ0 335 yJ0_coder_7d493 0 := ⟨Or.inl m_4_20, m_4_21, m_4_22, m_1_17, by decide +kernel, by decide +kernel, by decide +kernel⟩
theorem m_4_19 : Cond.code yJ0_length_8abf5 cJ0_length_8abf5 1 (some .int) ∈ pb_tbl := pb_tm4 (i := 19) rfl rfl
theorem m_4_29 : Cond.code yJ1_canEncode_9a6ad cJ1_canEncode_9a6ad 1 (some .boolean) ∈ pb_tbl := pb_tm4 (i := 29) rfl rfl
theorem m_4_36 : Cond.code yJ1_indexOfChar_4cfef cJ1_indexOfChar_4cfef 6 (some .int) ∈ pb_tbl := pb_tm4 (i := 36) rfl rfl
theorem m_4_27 : Cond.methodLink RJ1 88 yJ1_canEncode_9a6ad ∈ pb_tbl := pb_tm4 (i := 27) rfl rfl
theorem m_4_28 : Cond.static yJ1_canEncode_9a6ad ∈ pb_tbl := pb_tm4 (i := 28) rfl rfl
theorem m_1_18 : Cond.initialized RJ1 ∈ pb_tbl := pb_tm1 (i := 18) rfl rfl
theorem q_J1_88 : pb_cs RJ1 88 yJ1_canEncode_9a6ad 1 := ⟨Or.inl m_4_27, m_4_28, m_1_18, by decide +kernel, by decide +kernel, by decide +kernel⟩
theorem m_4_30 : Cond.methodLink RJ1 92 Lib.Math.max.name ∈ pb_tbl := pb_tm4 (i := 30) rfl rfl
theorem m_4_31 : Cond.static Lib.Math.max.name ∈ pb_tbl := pb_tm4 (i := 31) rfl rfl
theorem m_1_16 : Cond.initialized RJ9 ∈ pb_tbl := pb_tm1 (i := 16) rfl rfl
theorem mm_mmax : Cond.static Lib.Math.max.name ∈ pb_tbl ∧ Cond.initialized "java/lang/Math" ∈ pb_tbl ∧ Cond.code Lib.Math.max.name Lib.Math.max.code 2 (some .int) ∈ pb_tbl := ⟨m_4_31, m_1_16, pb_tm4 (i := 32) rfl rfl⟩
theorem m_4_33 : Cond.methodLink RJ1 38 Lib.Math.min.name ∈ pb_tbl := pb_tm4 (i := 33) rfl rfl
theorem m_3_213 : Cond.static Lib.Math.min.name ∈ pb_tbl := pb_tm3 (i := 213) rfl rfl
theorem mm_mmin : Cond.static Lib.Math.min.name ∈ pb_tbl ∧ Cond.initialized "java/lang/Math" ∈ pb_tbl ∧ Cond.code Lib.Math.min.name Lib.Math.min.code 2 (some .int) ∈ pb_tbl := ⟨m_3_213, m_1_16, pb_tm3 (i := 214) rfl rfl⟩
theorem m_4_34 : Cond.methodLink RJ1 95 yJ1_indexOfChar_4cfef ∈ pb_tbl := pb_tm4 (i := 34) rfl rfl
theorem m_4_35 : Cond.static yJ1_indexOfChar_4cfef ∈ pb_tbl := pb_tm4 (i := 35) rfl rfl
theorem q_J1_95 : pb_cs RJ1 95 yJ1_indexOfChar_4cfef 4 := ⟨Or.inl m_4_34, m_4_35, m_1_18, by decide +kernel, by decide +kernel, by decide +kernel⟩
theorem m_4_26 : Cond.code yJ1_indexOf_4cfef cJ1_indexOf_4cfef 4 (some .int) ∈ pb_tbl := pb_tm4 (i := 26) rfl rfl
theorem m_4_10 : Cond.methodLink RJ0 492 yJ0_isLatin1_aae02 ∈ pb_tbl := pb_tm4 (i := 10) rfl rfl
theorem m_4_11 : Cond.instanceMethod yJ0_isLatin1_aae02 ∈ pb_tbl := pb_tm4 (i := 11) rfl rfl
theorem m_4_12 : Cond.selects RJ0 yJ0_isLatin1_aae02 yJ0_isLatin1_aae02 ∈ pb_tbl := pb_tm4 (i := 12) rfl rfl
theorem q_J0_492 : pb_ci RJ0 492 yJ0_isLatin1_aae02 0 := ⟨Or.inl m_4_10, m_4_11, m_4_12, m_1_17, by decide +kernel, by decide +kernel, by decide +kernel⟩
theorem m_4_16 : Cond.methodLink RJ0 505 yJ0_length_8abf5 ∈ pb_tbl := pb_tm4 (i := 16) rfl rfl
theorem m_4_17 : Cond.instanceMethod yJ0_length_8abf5 ∈ pb_tbl := pb_tm4 (i := 17) rfl rfl
theorem m_4_18 : Cond.selects RJ0 yJ0_length_8abf5 yJ0_length_8abf5 ∈ pb_tbl := pb_tm4 (i := 18) rfl rfl
theorem q_J0_505 : pb_ci RJ0 505 yJ0_length_8abf5 0 := ⟨Or.inl m_4_16, m_4_17, m_4_18, m_1_17, by decide +kernel, by decide +kernel, by decide +kernel⟩
theorem m_4_24 : Cond.methodLink RJ0 637 yJ1_indexOf_4cfef ∈ pb_tbl := pb_tm4 (i := 24) rfl rfl
theorem m_4_25 : Cond.static yJ1_indexOf_4cfef ∈ pb_tbl := pb_tm4 (i := 25) rfl rfl
theorem q_J0_637 : pb_cs RJ0 637 yJ1_indexOf_4cfef 4 := ⟨Or.inl m_4_24, m_4_25, m_1_18, by decide +kernel, by decide +kernel, by decide +kernel⟩
theorem m_4_9 : Cond.code yJ0_indexOf_7cf53 cJ0_indexOf_7cf53 3 (some .int) ∈ pb_tbl := pb_tm4 (i := 9) rfl rfl
theorem m_4_6 : Cond.methodLink RJ0 633 yJ0_indexOf_7cf53 ∈ pb_tbl := pb_tm4 (i := 6) rfl rfl
theorem m_4_7 : Cond.instanceMethod yJ0_indexOf_7cf53 ∈ pb_tbl := pb_tm4 (i := 7) rfl rfl
theorem m_4_8 : Cond.selects RJ0 yJ0_indexOf_7cf53 yJ0_indexOf_7cf53 ∈ pb_tbl := pb_tm4 (i := 8) rfl rfl
theorem q_J0_633 : pb_ci RJ0 633 yJ0_indexOf_7cf53 2 := ⟨Or.inl m_4_6, m_4_7, m_4_8, m_1_17, by decide +kernel, by decide +kernel, by decide +kernel⟩
theorem m_4_5 : Cond.code yJ0_indexOf_0f7a4 cJ0_indexOf_0f7a4 2 (some .int) ∈ pb_tbl := pb_tm4 (i := 5) rfl rfl
theorem p_X5_78 : pb_fp 21 4 (.inr true) .int RX5 78 := ⟨5, _, RX5, TX5, 19, tyX5, h_21, rfl, rfl, by decide, u_X5, Or.inl m_1_163, tyX5_ok, nmX5, rfl, rfl⟩
theorem m_4_2 : Cond.methodLink RX5 96 yJ0_indexOf_0f7a4 ∈ pb_tbl := pb_tm4 (i := 2) rfl rfl
theorem m_4_3 : Cond.instanceMethod yJ0_indexOf_0f7a4 ∈ pb_tbl := pb_tm4 (i := 3) rfl rfl
theorem m_4_4 : Cond.selects RJ0 yJ0_indexOf_0f7a4 yJ0_indexOf_0f7a4 ∈ pb_tbl := pb_tm4 (i := 4) rfl rfl
theorem q_X5_96 : pb_ci RX5 96 yJ0_indexOf_0f7a4 1 := ⟨Or.inl m_4_2, m_4_3, m_4_4, m_1_17, by decide +kernel, by decide +kernel, by decide +kernel⟩
theorem m_3_235 : Cond.methodLink RX5 91 yX5_nextNumber ∈ pb_tbl := pb_tm3 (i := 235) rfl rfl
theorem m_3_237 : Cond.instanceMethod yX5_nextNumber ∈ pb_tbl := pb_tm3 (i := 237) rfl rfl
theorem ms_X5_nextNumber : Cond.selects yX5_nextNumber.cls yX5_nextNumber yX5_nextNumber ∈ pb_tbl := pb_ps1 (i := 5) (q := (yX5_nextNumber, 19)) rfl
theorem q_X5_91 : pb_ci RX5 91 yX5_nextNumber 0 := ⟨Or.inl m_3_235, m_3_237, ms_X5_nextNumber, m_1_4, by decide +kernel, by decide +kernel, by decide +kernel⟩
theorem m_3_222 : Cond.methodLink RX5 85 yX5_nextWord ∈ pb_tbl := pb_tm3 (i := 222) rfl rfl
theorem m_3_224 : Cond.instanceMethod yX5_nextWord ∈ pb_tbl := pb_tm3 (i := 224) rfl rfl
theorem ms_X5_nextWord : Cond.selects yX5_nextWord.cls yX5_nextWord yX5_nextWord ∈ pb_tbl := pb_ps1 (i := 3) (q := (yX5_nextWord, 19)) rfl
theorem q_X5_85 : pb_ci RX5 85 yX5_nextWord 0 := ⟨Or.inl m_3_222, m_3_224, ms_X5_nextWord, m_1_4, by decide +kernel, by decide +kernel, by decide +kernel⟩
theorem m_3_218 : Cond.code yX5_nextToken cX5_nextToken 1 none ∈ pb_tbl := pb_tm3 (i := 218) rfl rfl
theorem m_1_177 : Cond.fieldLink RX5 42 "PennyBooks$Reader" "fault" "I" ∈ pb_tbl := pb_tm1 (i := 177) rfl rfl
theorem p_X5_42 : pb_fp 21 16 (.inr true) .int RX5 42 := ⟨5, _, RX5, TX5, 19, tyX5, h_21, rfl, rfl, by decide, u_X5, Or.inl m_1_177, tyX5_ok, nmX5, rfl, rfl⟩
theorem m_1_178 : Cond.fieldLink RX5 45 "PennyBooks$Reader" "place" "I" ∈ pb_tbl := pb_tm1 (i := 178) rfl rfl
theorem p_X5_45 : pb_fp 21 17 (.inr true) .int RX5 45 := ⟨5, _, RX5, TX5, 19, tyX5, h_21, rfl, rfl, by decide, u_X5, Or.inl m_1_178, tyX5_ok, nmX5, rfl, rfl⟩
theorem m_4_93 : Cond.code yX5_refuse cX5_refuse 2 none ∈ pb_tbl := pb_tm4 (i := 93) rfl rfl
theorem m_1_170 : Cond.fieldLink RX5 63 "PennyBooks$Reader" "waits" "I" ∈ pb_tbl := pb_tm1 (i := 170) rfl rfl
theorem g_X5_63 : pb_fd 21 11 (.inr true) RX5 63 := ⟨5, _, RX5, TX5, 19, h_21, rfl, rfl, by decide, u_X5, Or.inl m_1_170⟩
theorem m_1_169 : Cond.fieldLink RX5 15 "PennyBooks$Reader" "waiting" "[I" ∈ pb_tbl := pb_tm1 (i := 169) rfl rfl
theorem g_X5_15 : pb_fd 21 10 (.inl 23) RX5 15 := ⟨5, _, RX5, TX5, 19, h_21, rfl, rfl, by decide, u_X5, Or.inl m_1_169⟩
theorem h_23 : pb_sh[23]? = some (.inl (0, 32)) := rfl
theorem p_X5_63 : pb_fp 21 11 (.inr true) .int RX5 63 := ⟨5, _, RX5, TX5, 19, tyX5, h_21, rfl, rfl, by decide, u_X5, Or.inl m_1_170, tyX5_ok, nmX5, rfl, rfl⟩
theorem m_4_105 : Cond.code yX5_hold cX5_hold 2 none ∈ pb_tbl := pb_tm4 (i := 105) rfl rfl
theorem g_X5_75 : pb_fd 21 3 (.inr true) RX5 75 := ⟨5, _, RX5, TX5, 19, h_21, rfl, rfl, by decide, u_X5, Or.inl m_1_162⟩
theorem m_4_121 : Cond.code yX5_atomStep cX5_atomStep 1 (some .int) ∈ pb_tbl := pb_tm4 (i := 121) rfl rfl
theorem m_1_173 : Cond.fieldLink RX5 66 "PennyBooks$Reader" "size" "I" ∈ pb_tbl := pb_tm1 (i := 173) rfl rfl
theorem g_X5_66 : pb_fd 21 13 (.inr true) RX5 66 := ⟨5, _, RX5, TX5, 19, h_21, rfl, rfl, by decide, u_X5, Or.inl m_1_173⟩
theorem m_1_171 : Cond.fieldLink RX5 19 "PennyBooks$Reader" "code" "[J" ∈ pb_tbl := pb_tm1 (i := 171) rfl rfl
theorem g_X5_19 : pb_fd 21 12 (.inl 24) RX5 19 := ⟨5, _, RX5, TX5, 19, h_21, rfl, rfl, by decide, u_X5, Or.inl m_1_171⟩
theorem p_X5_66 : pb_fp 21 13 (.inr true) .int RX5 66 := ⟨5, _, RX5, TX5, 19, tyX5, h_21, rfl, rfl, by decide, u_X5, Or.inl m_1_173, tyX5_ok, nmX5, rfl, rfl⟩
theorem m_4_109 : Cond.code yX5_emit cX5_emit 4 none ∈ pb_tbl := pb_tm4 (i := 109) rfl rfl
theorem m_1_168 : Cond.fieldLink RX5 167 "PennyBooks$Reader" "brackets" "I" ∈ pb_tbl := pb_tm1 (i := 168) rfl rfl
theorem g_X5_167 : pb_fd 21 9 (.inr true) RX5 167 := ⟨5, _, RX5, TX5, 19, h_21, rfl, rfl, by decide, u_X5, Or.inl m_1_168⟩
theorem m_4_90 : Cond.methodLink RX5 119 yX5_refuse ∈ pb_tbl := pb_tm4 (i := 90) rfl rfl
theorem m_4_92 : Cond.instanceMethod yX5_refuse ∈ pb_tbl := pb_tm4 (i := 92) rfl rfl
theorem ms_X5_refuse : Cond.selects yX5_refuse.cls yX5_refuse yX5_refuse ∈ pb_tbl := pb_ps1 (i := 7) (q := (yX5_refuse, 19)) rfl
theorem q_X5_119 : pb_ci RX5 119 yX5_refuse 1 := ⟨Or.inl m_4_90, m_4_92, ms_X5_refuse, m_1_4, by decide +kernel, by decide +kernel, by decide +kernel⟩
theorem m_4_118 : Cond.methodLink RX5 170 yX5_atomStep ∈ pb_tbl := pb_tm4 (i := 118) rfl rfl
theorem m_4_120 : Cond.instanceMethod yX5_atomStep ∈ pb_tbl := pb_tm4 (i := 120) rfl rfl
theorem ms_X5_atomStep : Cond.selects yX5_atomStep.cls yX5_atomStep yX5_atomStep ∈ pb_tbl := pb_ps1 (i := 14) (q := (yX5_atomStep, 19)) rfl
theorem q_X5_170 : pb_ci RX5 170 yX5_atomStep 0 := ⟨Or.inl m_4_118, m_4_120, ms_X5_atomStep, m_1_4, by decide +kernel, by decide +kernel, by decide +kernel⟩
theorem m_4_106 : Cond.methodLink RX5 148 yX5_emit ∈ pb_tbl := pb_tm4 (i := 106) rfl rfl
theorem m_4_108 : Cond.instanceMethod yX5_emit ∈ pb_tbl := pb_tm4 (i := 108) rfl rfl
theorem ms_X5_emit : Cond.selects yX5_emit.cls yX5_emit yX5_emit ∈ pb_tbl := pb_ps1 (i := 11) (q := (yX5_emit, 19)) rfl
theorem q_X5_148 : pb_ci RX5 148 yX5_emit 2 := ⟨Or.inl m_4_106, m_4_108, ms_X5_emit, m_1_4, by decide +kernel, by decide +kernel, by decide +kernel⟩
theorem m_1_166 : Cond.fieldLink RX5 60 "PennyBooks$Reader" "state" "I" ∈ pb_tbl := pb_tm1 (i := 166) rfl rfl
theorem p_X5_60 : pb_fp 21 7 (.inr true) .int RX5 60 := ⟨5, _, RX5, TX5, 19, tyX5, h_21, rfl, rfl, by decide, u_X5, Or.inl m_1_166, tyX5_ok, nmX5, rfl, rfl⟩
theorem p_X5_167 : pb_fp 21 9 (.inr true) .int RX5 167 := ⟨5, _, RX5, TX5, 19, tyX5, h_21, rfl, rfl, by decide, u_X5, Or.inl m_1_168, tyX5_ok, nmX5, rfl, rfl⟩
theorem m_4_102 : Cond.methodLink RX5 145 yX5_hold ∈ pb_tbl := pb_tm4 (i := 102) rfl rfl
theorem m_4_104 : Cond.instanceMethod yX5_hold ∈ pb_tbl := pb_tm4 (i := 104) rfl rfl
theorem ms_X5_hold : Cond.selects yX5_hold.cls yX5_hold yX5_hold ∈ pb_tbl := pb_ps1 (i := 10) (q := (yX5_hold, 19)) rfl
theorem q_X5_145 : pb_ci RX5 145 yX5_hold 1 := ⟨Or.inl m_4_102, m_4_104, ms_X5_hold, m_1_4, by decide +kernel, by decide +kernel, by decide +kernel⟩
theorem m_4_117 : Cond.code yX5_takeAtom cX5_takeAtom 1 none ∈ pb_tbl := pb_tm4 (i := 117) rfl rfl
theorem m_1_167 : Cond.fieldLink RX5 164 "PennyBooks$Reader" "sum" "I" ∈ pb_tbl := pb_tm1 (i := 167) rfl rfl
theorem p_X5_164 : pb_fp 21 8 (.inr true) .int RX5 164 := ⟨5, _, RX5, TX5, 19, tyX5, h_21, rfl, rfl, by decide, u_X5, Or.inl m_1_167, tyX5_ok, nmX5, rfl, rfl⟩
theorem m_4_113 : Cond.code yX5_openSum cX5_openSum 2 none ∈ pb_tbl := pb_tm4 (i := 113) rfl rfl
theorem m_4_110 : Cond.methodLink RX5 152 yX5_openSum ∈ pb_tbl := pb_tm4 (i := 110) rfl rfl
theorem m_4_112 : Cond.instanceMethod yX5_openSum ∈ pb_tbl := pb_tm4 (i := 112) rfl rfl
theorem ms_X5_openSum : Cond.selects yX5_openSum.cls yX5_openSum yX5_openSum ∈ pb_tbl := pb_ps1 (i := 12) (q := (yX5_openSum, 19)) rfl
theorem q_X5_152 : pb_ci RX5 152 yX5_openSum 1 := ⟨Or.inl m_4_110, m_4_112, ms_X5_openSum, m_1_4, by decide +kernel, by decide +kernel, by decide +kernel⟩
theorem m_4_140 : Cond.code yX5_takeBehindThen cX5_takeBehindThen 1 none ∈ pb_tbl := pb_tm4 (i := 140) rfl rfl
theorem m_4_132 : Cond.code yX0_bindingOf cX0_bindingOf 1 (some .int) ∈ pb_tbl := pb_tm4 (i := 132) rfl rfl
theorem m_4_130 : Cond.methodLink RX5 155 yX0_bindingOf ∈ pb_tbl := pb_tm4 (i := 130) rfl rfl
theorem m_4_131 : Cond.static yX0_bindingOf ∈ pb_tbl := pb_tm4 (i := 131) rfl rfl
theorem m_1_5 : Cond.initialized RX0 ∈ pb_tbl := pb_tm1 (i := 5) rfl rfl
theorem q_X5_155 : pb_cs RX5 155 yX0_bindingOf 1 := ⟨Or.inl m_4_130, m_4_131, m_1_5, by decide +kernel, by decide +kernel, by decide +kernel⟩
theorem m_4_136 : Cond.code yX5_release cX5_release 2 none ∈ pb_tbl := pb_tm4 (i := 136) rfl rfl
theorem m_4_133 : Cond.methodLink RX5 158 yX5_release ∈ pb_tbl := pb_tm4 (i := 133) rfl rfl
theorem m_4_135 : Cond.instanceMethod yX5_release ∈ pb_tbl := pb_tm4 (i := 135) rfl rfl
theorem ms_X5_release : Cond.selects yX5_release.cls yX5_release yX5_release ∈ pb_tbl := pb_ps2 (i := 1) (q := (yX5_release, 19)) rfl
theorem q_X5_158 : pb_ci RX5 158 yX5_release 1 := ⟨Or.inl m_4_133, m_4_135, ms_X5_release, m_1_4, by decide +kernel, by decide +kernel, by decide +kernel⟩
theorem m_1_175 : Cond.fieldLink RX5 161 "PennyBooks$Reader" "test" "I" ∈ pb_tbl := pb_tm1 (i := 175) rfl rfl
theorem p_X5_161 : pb_fp 21 14 (.inr true) .int RX5 161 := ⟨5, _, RX5, TX5, 19, tyX5, h_21, rfl, rfl, by decide, u_X5, Or.inl m_1_175, tyX5_ok, nmX5, rfl, rfl⟩
theorem m_4_129 : Cond.code yX5_takeBehindOne cX5_takeBehindOne 2 none ∈ pb_tbl := pb_tm4 (i := 129) rfl rfl
theorem m_4_125 : Cond.code yX5_takeName cX5_takeName 1 none ∈ pb_tbl := pb_tm4 (i := 125) rfl rfl
theorem g_X5_60 : pb_fd 21 7 (.inr true) RX5 60 := ⟨5, _, RX5, TX5, 19, h_21, rfl, rfl, by decide, u_X5, Or.inl m_1_166⟩
theorem m_4_114 : Cond.methodLink RX5 137 yX5_takeAtom ∈ pb_tbl := pb_tm4 (i := 114) rfl rfl
theorem m_4_116 : Cond.instanceMethod yX5_takeAtom ∈ pb_tbl := pb_tm4 (i := 116) rfl rfl
theorem ms_X5_takeAtom : Cond.selects yX5_takeAtom.cls yX5_takeAtom yX5_takeAtom ∈ pb_tbl := pb_ps1 (i := 13) (q := (yX5_takeAtom, 19)) rfl
theorem q_X5_137 : pb_ci RX5 137 yX5_takeAtom 0 := ⟨Or.inl m_4_114, m_4_116, ms_X5_takeAtom, m_1_4, by decide +kernel, by decide +kernel, by decide +kernel⟩
theorem m_4_101 : Cond.code yX5_takeAtOne cX5_takeAtOne 1 none ∈ pb_tbl := pb_tm4 (i := 101) rfl rfl
theorem m_1_179 : Cond.fieldLink RX5 39 "PennyBooks$Reader" "rules" "I" ∈ pb_tbl := pb_tm1 (i := 179) rfl rfl
theorem g_X5_39 : pb_fd 21 18 (.inr true) RX5 39 := ⟨5, _, RX5, TX5, 19, h_21, rfl, rfl, by decide, u_X5, Or.inl m_1_179⟩
theorem m_4_97 : Cond.code yX5_takeAtRule cX5_takeAtRule 1 none ∈ pb_tbl := pb_tm4 (i := 97) rfl rfl
theorem m_4_148 : Cond.code yX5_operatorStep cX5_operatorStep 1 (some .int) ∈ pb_tbl := pb_tm4 (i := 148) rfl rfl
theorem m_4_153 : Cond.methodLink RX5 186 Lib.Math.max.name ∈ pb_tbl := pb_tm4 (i := 153) rfl rfl
theorem m_4_152 : Cond.code yX5_closeBracket cX5_closeBracket 1 none ∈ pb_tbl := pb_tm4 (i := 152) rfl rfl
theorem m_4_161 : Cond.code yX5_comparisonStep cX5_comparisonStep 1 (some .int) ∈ pb_tbl := pb_tm4 (i := 161) rfl rfl
theorem m_4_158 : Cond.methodLink RX5 189 yX5_comparisonStep ∈ pb_tbl := pb_tm4 (i := 158) rfl rfl
theorem m_4_160 : Cond.instanceMethod yX5_comparisonStep ∈ pb_tbl := pb_tm4 (i := 160) rfl rfl
theorem ms_X5_comparisonStep : Cond.selects yX5_comparisonStep.cls yX5_comparisonStep yX5_comparisonStep ∈ pb_tbl := pb_ps2 (i := 7) (q := (yX5_comparisonStep, 19)) rfl
theorem q_X5_189 : pb_ci RX5 189 yX5_comparisonStep 0 := ⟨Or.inl m_4_158, m_4_160, ms_X5_comparisonStep, m_1_4, by decide +kernel, by decide +kernel, by decide +kernel⟩
theorem m_4_157 : Cond.code yX5_takeComparison cX5_takeComparison 2 none ∈ pb_tbl := pb_tm4 (i := 157) rfl rfl
theorem g_X5_161 : pb_fd 21 14 (.inr true) RX5 161 := ⟨5, _, RX5, TX5, 19, h_21, rfl, rfl, by decide, u_X5, Or.inl m_1_175⟩
theorem m_4_170 : Cond.constantLong RX5 195 (70) ∈ pb_tbl := pb_tm4 (i := 170) rfl rfl
theorem p_X5_39 : pb_fp 21 18 (.inr true) .int RX5 39 := ⟨5, _, RX5, TX5, 19, tyX5, h_21, rfl, rfl, by decide, u_X5, Or.inl m_1_179, tyX5_ok, nmX5, rfl, rfl⟩
theorem m_4_169 : Cond.code yX5_endRule cX5_endRule 1 none ∈ pb_tbl := pb_tm4 (i := 169) rfl rfl
theorem g_X5_164 : pb_fd 21 8 (.inr true) RX5 164 := ⟨5, _, RX5, TX5, 19, h_21, rfl, rfl, by decide, u_X5, Or.inl m_1_167⟩
theorem m_4_166 : Cond.methodLink RX5 192 yX5_endRule ∈ pb_tbl := pb_tm4 (i := 166) rfl rfl
theorem m_4_168 : Cond.instanceMethod yX5_endRule ∈ pb_tbl := pb_tm4 (i := 168) rfl rfl
theorem ms_X5_endRule : Cond.selects yX5_endRule.cls yX5_endRule yX5_endRule ∈ pb_tbl := pb_ps2 (i := 9) (q := (yX5_endRule, 19)) rfl
theorem q_X5_192 : pb_ci RX5 192 yX5_endRule 0 := ⟨Or.inl m_4_166, m_4_168, ms_X5_endRule, m_1_4, by decide +kernel, by decide +kernel, by decide +kernel⟩
theorem m_4_165 : Cond.code yX5_takeBehindResult cX5_takeBehindResult 2 none ∈ pb_tbl := pb_tm4 (i := 165) rfl rfl
theorem m_4_145 : Cond.methodLink RX5 174 yX5_operatorStep ∈ pb_tbl := pb_tm4 (i := 145) rfl rfl
theorem m_4_147 : Cond.instanceMethod yX5_operatorStep ∈ pb_tbl := pb_tm4 (i := 147) rfl rfl
theorem ms_X5_operatorStep : Cond.selects yX5_operatorStep.cls yX5_operatorStep yX5_operatorStep ∈ pb_tbl := pb_ps2 (i := 4) (q := (yX5_operatorStep, 19)) rfl
theorem q_X5_174 : pb_ci RX5 174 yX5_operatorStep 0 := ⟨Or.inl m_4_145, m_4_147, ms_X5_operatorStep, m_1_4, by decide +kernel, by decide +kernel, by decide +kernel⟩
theorem m_4_162 : Cond.methodLink RX5 183 yX5_takeBehindResult ∈ pb_tbl := pb_tm4 (i := 162) rfl rfl
theorem m_4_164 : Cond.instanceMethod yX5_takeBehindResult ∈ pb_tbl := pb_tm4 (i := 164) rfl rfl
theorem ms_X5_takeBehindResult : Cond.selects yX5_takeBehindResult.cls yX5_takeBehindResult yX5_takeBehindResult ∈ pb_tbl := pb_ps2 (i := 8) (q := (yX5_takeBehindResult, 19)) rfl
theorem q_X5_183 : pb_ci RX5 183 yX5_takeBehindResult 0 := ⟨Or.inl m_4_162, m_4_164, ms_X5_takeBehindResult, m_1_4, by decide +kernel, by decide +kernel, by decide +kernel⟩
theorem m_4_126 : Cond.methodLink RX5 131 yX5_takeBehindOne ∈ pb_tbl := pb_tm4 (i := 126) rfl rfl
theorem m_4_128 : Cond.instanceMethod yX5_takeBehindOne ∈ pb_tbl := pb_tm4 (i := 128) rfl rfl
theorem ms_X5_takeBehindOne : Cond.selects yX5_takeBehindOne.cls yX5_takeBehindOne yX5_takeBehindOne ∈ pb_tbl := pb_ps2 (i := 0) (q := (yX5_takeBehindOne, 19)) rfl
theorem q_X5_131 : pb_ci RX5 131 yX5_takeBehindOne 0 := ⟨Or.inl m_4_126, m_4_128, ms_X5_takeBehindOne, m_1_4, by decide +kernel, by decide +kernel, by decide +kernel⟩
theorem m_4_154 : Cond.methodLink RX5 180 yX5_takeComparison ∈ pb_tbl := pb_tm4 (i := 154) rfl rfl
theorem m_4_156 : Cond.instanceMethod yX5_takeComparison ∈ pb_tbl := pb_tm4 (i := 156) rfl rfl
theorem ms_X5_takeComparison : Cond.selects yX5_takeComparison.cls yX5_takeComparison yX5_takeComparison ∈ pb_tbl := pb_ps2 (i := 6) (q := (yX5_takeComparison, 19)) rfl
theorem q_X5_180 : pb_ci RX5 180 yX5_takeComparison 0 := ⟨Or.inl m_4_154, m_4_156, ms_X5_takeComparison, m_1_4, by decide +kernel, by decide +kernel, by decide +kernel⟩
theorem m_4_149 : Cond.methodLink RX5 177 yX5_closeBracket ∈ pb_tbl := pb_tm4 (i := 149) rfl rfl
theorem m_4_151 : Cond.instanceMethod yX5_closeBracket ∈ pb_tbl := pb_tm4 (i := 151) rfl rfl
theorem ms_X5_closeBracket : Cond.selects yX5_closeBracket.cls yX5_closeBracket yX5_closeBracket ∈ pb_tbl := pb_ps2 (i := 5) (q := (yX5_closeBracket, 19)) rfl
theorem q_X5_177 : pb_ci RX5 177 yX5_closeBracket 0 := ⟨Or.inl m_4_149, m_4_151, ms_X5_closeBracket, m_1_4, by decide +kernel, by decide +kernel, by decide +kernel⟩
theorem m_4_144 : Cond.code yX5_takeBehindAtom cX5_takeBehindAtom 2 none ∈ pb_tbl := pb_tm4 (i := 144) rfl rfl
theorem m_4_141 : Cond.methodLink RX5 140 yX5_takeBehindAtom ∈ pb_tbl := pb_tm4 (i := 141) rfl rfl
theorem m_4_143 : Cond.instanceMethod yX5_takeBehindAtom ∈ pb_tbl := pb_tm4 (i := 143) rfl rfl
theorem ms_X5_takeBehindAtom : Cond.selects yX5_takeBehindAtom.cls yX5_takeBehindAtom yX5_takeBehindAtom ∈ pb_tbl := pb_ps2 (i := 3) (q := (yX5_takeBehindAtom, 19)) rfl
theorem q_X5_140 : pb_ci RX5 140 yX5_takeBehindAtom 0 := ⟨Or.inl m_4_141, m_4_143, ms_X5_takeBehindAtom, m_1_4, by decide +kernel, by decide +kernel, by decide +kernel⟩
theorem m_4_94 : Cond.methodLink RX5 122 yX5_takeAtRule ∈ pb_tbl := pb_tm4 (i := 94) rfl rfl
theorem m_4_96 : Cond.instanceMethod yX5_takeAtRule ∈ pb_tbl := pb_tm4 (i := 96) rfl rfl
theorem ms_X5_takeAtRule : Cond.selects yX5_takeAtRule.cls yX5_takeAtRule yX5_takeAtRule ∈ pb_tbl := pb_ps1 (i := 8) (q := (yX5_takeAtRule, 19)) rfl
theorem q_X5_122 : pb_ci RX5 122 yX5_takeAtRule 0 := ⟨Or.inl m_4_94, m_4_96, ms_X5_takeAtRule, m_1_4, by decide +kernel, by decide +kernel, by decide +kernel⟩
theorem m_4_98 : Cond.methodLink RX5 125 yX5_takeAtOne ∈ pb_tbl := pb_tm4 (i := 98) rfl rfl
theorem m_4_100 : Cond.instanceMethod yX5_takeAtOne ∈ pb_tbl := pb_tm4 (i := 100) rfl rfl
theorem ms_X5_takeAtOne : Cond.selects yX5_takeAtOne.cls yX5_takeAtOne yX5_takeAtOne ∈ pb_tbl := pb_ps1 (i := 9) (q := (yX5_takeAtOne, 19)) rfl
theorem q_X5_125 : pb_ci RX5 125 yX5_takeAtOne 0 := ⟨Or.inl m_4_98, m_4_100, ms_X5_takeAtOne, m_1_4, by decide +kernel, by decide +kernel, by decide +kernel⟩
theorem m_4_122 : Cond.methodLink RX5 128 yX5_takeName ∈ pb_tbl := pb_tm4 (i := 122) rfl rfl
theorem m_4_124 : Cond.instanceMethod yX5_takeName ∈ pb_tbl := pb_tm4 (i := 124) rfl rfl
theorem ms_X5_takeName : Cond.selects yX5_takeName.cls yX5_takeName yX5_takeName ∈ pb_tbl := pb_ps1 (i := 15) (q := (yX5_takeName, 19)) rfl
theorem q_X5_128 : pb_ci RX5 128 yX5_takeName 0 := ⟨Or.inl m_4_122, m_4_124, ms_X5_takeName, m_1_4, by decide +kernel, by decide +kernel, by decide +kernel⟩
theorem m_4_137 : Cond.methodLink RX5 134 yX5_takeBehindThen ∈ pb_tbl := pb_tm4 (i := 137) rfl rfl
theorem m_4_139 : Cond.instanceMethod yX5_takeBehindThen ∈ pb_tbl := pb_tm4 (i := 139) rfl rfl
theorem ms_X5_takeBehindThen : Cond.selects yX5_takeBehindThen.cls yX5_takeBehindThen yX5_takeBehindThen ∈ pb_tbl := pb_ps2 (i := 2) (q := (yX5_takeBehindThen, 19)) rfl
theorem q_X5_134 : pb_ci RX5 134 yX5_takeBehindThen 0 := ⟨Or.inl m_4_137, m_4_139, ms_X5_takeBehindThen, m_1_4, by decide +kernel, by decide +kernel, by decide +kernel⟩
theorem m_4_89 : Cond.code yX5_takeToken cX5_takeToken 1 none ∈ pb_tbl := pb_tm4 (i := 89) rfl rfl
theorem m_3_212 : Cond.methodLink RX5 48 Lib.Math.min.name ∈ pb_tbl := pb_tm3 (i := 212) rfl rfl
theorem p_X5_54 : pb_fp 21 2 (.inr true) .int RX5 54 := ⟨5, _, RX5, TX5, 19, tyX5, h_21, rfl, rfl, by decide, u_X5, Or.inl m_1_161, tyX5_ok, nmX5, rfl, rfl⟩
theorem g_X5_42 : pb_fd 21 16 (.inr true) RX5 42 := ⟨5, _, RX5, TX5, 19, h_21, rfl, rfl, by decide, u_X5, Or.inl m_1_177⟩
theorem m_3_215 : Cond.methodLink RX5 69 yX5_nextToken ∈ pb_tbl := pb_tm3 (i := 215) rfl rfl
theorem m_3_217 : Cond.instanceMethod yX5_nextToken ∈ pb_tbl := pb_tm3 (i := 217) rfl rfl
theorem ms_X5_nextToken : Cond.selects yX5_nextToken.cls yX5_nextToken yX5_nextToken ∈ pb_tbl := pb_ps1 (i := 2) (q := (yX5_nextToken, 19)) rfl
theorem q_X5_69 : pb_ci RX5 69 yX5_nextToken 0 := ⟨Or.inl m_3_215, m_3_217, ms_X5_nextToken, m_1_4, by decide +kernel, by decide +kernel, by decide +kernel⟩
theorem m_4_86 : Cond.methodLink RX5 72 yX5_takeToken ∈ pb_tbl := pb_tm4 (i := 86) rfl rfl
theorem m_4_88 : Cond.instanceMethod yX5_takeToken ∈ pb_tbl := pb_tm4 (i := 88) rfl rfl
theorem ms_X5_takeToken : Cond.selects yX5_takeToken.cls yX5_takeToken yX5_takeToken ∈ pb_tbl := pb_ps1 (i := 6) (q := (yX5_takeToken, 19)) rfl
theorem q_X5_72 : pb_ci RX5 72 yX5_takeToken 0 := ⟨Or.inl m_4_86, m_4_88, ms_X5_takeToken, m_1_4, by decide +kernel, by decide +kernel, by decide +kernel⟩
theorem m_1_176 : Cond.fieldLink RX5 31 "PennyBooks$Reader" "everRead" "Z" ∈ pb_tbl := pb_tm1 (i := 176) rfl rfl
theorem p_X5_31 : pb_fp 21 15 (.inr true) .boolean RX5 31 := ⟨5, _, RX5, TX5, 19, tyX5, h_21, rfl, rfl, by decide, u_X5, Or.inl m_1_176, tyX5_ok, nmX5, rfl, rfl⟩
theorem m_3_211 : Cond.code yX5_readText cX5_readText 4 (some .boolean) ∈ pb_tbl := pb_tm3 (i := 211) rfl rfl
theorem m_1_160 : Cond.fieldLinkNest RX11 191 "PennyBooks$Reader" "filled" "I" "PennyBooks" ∈ pb_nests := pb_nm1 (i := 160) rfl rfl
theorem g_X11_191 : pb_fd 21 1 (.inr true) RX11 191 := ⟨5, _, RX5, TX5, 19, h_21, rfl, rfl, by decide, u_X5, Or.inr ⟨_, m_1_160⟩⟩
theorem m_3_6 : Cond.fieldLink RX11 46 "PennyBooks" "judge" "LPennyBooks$Judge;" ∈ pb_tbl := pb_tm3 (i := 6) rfl rfl
theorem g_X11_46 : pb_fd 0 6 (.inl 25) RX11 46 := ⟨11, _, RX11, TX11, 14, h_0, rfl, rfl, by decide, u_X11, Or.inl m_3_6⟩
theorem m_1_228 : Cond.fieldLinkNest RX11 194 "PennyBooks$Judge" "editions" "I" "PennyBooks" ∈ pb_nests := pb_nm1 (i := 228) rfl rfl
theorem g_X11_194 : pb_fd 25 1 (.inr true) RX11 194 := ⟨0, _, RX0, TX0, 8, h_25, rfl, rfl, by decide, u_X0, Or.inr ⟨_, m_1_228⟩⟩
theorem m_3_208 : Cond.methodLink RX11 197 yX5_readText ∈ pb_tbl := pb_tm3 (i := 208) rfl rfl
theorem m_3_209 : Cond.instanceMethod yX5_readText ∈ pb_tbl := pb_tm3 (i := 209) rfl rfl
theorem m_3_210 : Cond.selects RX5 yX5_readText yX5_readText ∈ pb_tbl := pb_tm3 (i := 210) rfl rfl
theorem q_X11_197 : pb_ci RX11 197 yX5_readText 1 := ⟨Or.inl m_3_208, m_3_209, m_3_210, m_1_4, by decide +kernel, by decide +kernel, by decide +kernel⟩
theorem m_1_172 : Cond.fieldLinkNest RX11 200 "PennyBooks$Reader" "code" "[J" "PennyBooks" ∈ pb_nests := pb_nm1 (i := 172) rfl rfl
theorem g_X11_200 : pb_fd 21 12 (.inl 24) RX11 200 := ⟨5, _, RX5, TX5, 19, h_21, rfl, rfl, by decide, u_X5, Or.inr ⟨_, m_1_172⟩⟩
theorem m_1_174 : Cond.fieldLinkNest RX11 204 "PennyBooks$Reader" "size" "I" "PennyBooks" ∈ pb_nests := pb_nm1 (i := 174) rfl rfl
theorem g_X11_204 : pb_fd 21 13 (.inr true) RX11 204 := ⟨5, _, RX5, TX5, 19, h_21, rfl, rfl, by decide, u_X5, Or.inr ⟨_, m_1_174⟩⟩
theorem m_4_171 : Cond.methodLink RX11 207 yX0_addEdition ∈ pb_tbl := pb_tm4 (i := 171) rfl rfl
theorem m_4_172 : Cond.instanceMethod yX0_addEdition ∈ pb_tbl := pb_tm4 (i := 172) rfl rfl
theorem m_4_173 : Cond.selects RX0 yX0_addEdition yX0_addEdition ∈ pb_tbl := pb_tm4 (i := 173) rfl rfl
theorem q_X11_207 : pb_ci RX11 207 yX0_addEdition 2 := ⟨Or.inl m_4_171, m_4_172, m_4_173, m_1_5, by decide +kernel, by decide +kernel, by decide +kernel⟩
theorem m_3_207 : Cond.code yX11_edition cX11_edition 2 (some .int) ∈ pb_tbl := pb_tm3 (i := 207) rfl rfl
theorem g_X5_31 : pb_fd 21 15 (.inr true) RX5 31 := ⟨5, _, RX5, TX5, 19, h_21, rfl, rfl, by decide, u_X5, Or.inl m_1_176⟩
theorem m_4_184 : Cond.methodLinkNest RX5 35 yX11_outside "PennyBooks" ∈ pb_nests := pb_nm4 (i := 184) rfl rfl
theorem q_X5_35 : pb_cs RX5 35 yX11_outside 3 := ⟨Or.inr ⟨_, m_4_184⟩, m_3_60, m_1_1, by decide +kernel, by decide +kernel, by decide +kernel⟩
theorem g_X5_45 : pb_fd 21 17 (.inr true) RX5 45 := ⟨5, _, RX5, TX5, 19, h_21, rfl, rfl, by decide, u_X5, Or.inl m_1_178⟩
theorem m_4_183 : Cond.code yX5_report cX5_report 2 (some .int) ∈ pb_tbl := pb_tm4 (i := 183) rfl rfl
theorem m_4_180 : Cond.methodLink RX11 211 yX5_report ∈ pb_tbl := pb_tm4 (i := 180) rfl rfl
theorem m_4_181 : Cond.instanceMethod yX5_report ∈ pb_tbl := pb_tm4 (i := 181) rfl rfl
theorem m_4_182 : Cond.selects RX5 yX5_report yX5_report ∈ pb_tbl := pb_tm4 (i := 182) rfl rfl
theorem q_X11_211 : pb_ci RX11 211 yX5_report 1 := ⟨Or.inl m_4_180, m_4_181, m_4_182, m_1_4, by decide +kernel, by decide +kernel, by decide +kernel⟩
theorem m_4_179 : Cond.code yX11_fault cX11_fault 2 (some .int) ∈ pb_tbl := pb_tm4 (i := 179) rfl rfl
theorem m_1_234 : Cond.fieldLink RX0 76 "PennyBooks$Judge" "height" "I" ∈ pb_tbl := pb_tm1 (i := 234) rfl rfl
theorem g_X0_76 : pb_fd 25 7 (.inr true) RX0 76 := ⟨0, _, RX0, TX0, 8, h_25, rfl, rfl, by decide, u_X0, Or.inl m_1_234⟩
theorem p_X0_76 : pb_fp 25 7 (.inr true) .int RX0 76 := ⟨0, _, RX0, TX0, 8, tyX0, h_25, rfl, rfl, by decide, u_X0, Or.inl m_1_234, tyX0_ok, nmX0, rfl, rfl⟩
theorem m_1_233 : Cond.fieldLink RX0 25 "PennyBooks$Judge" "stack" "[J" ∈ pb_tbl := pb_tm1 (i := 233) rfl rfl
theorem g_X0_25 : pb_fd 25 6 (.inl 30) RX0 25 := ⟨0, _, RX0, TX0, 8, h_25, rfl, rfl, by decide, u_X0, Or.inl m_1_233⟩
theorem h_30 : pb_sh[30]? = some (.inl (3, 64)) := rfl
theorem m_4_202 : Cond.code yX0_pop cX0_pop 1 (some .long) ∈ pb_tbl := pb_tm4 (i := 202) rfl rfl
theorem m_4_207 : Cond.constantLong RX0 93 (15) ∈ pb_tbl := pb_tm4 (i := 207) rfl rfl
theorem m_4_208 : Cond.methodLink RX0 95 Lib.MathLoose.max_long.x ∈ pb_tbl := pb_tm4 (i := 208) rfl rfl
theorem m_4_209 : Cond.static Lib.MathLoose.max_long.x ∈ pb_tbl := pb_tm4 (i := 209) rfl rfl
theorem mm_mmaxL : Cond.static Lib.MathLoose.max_long.x ∈ pb_tbl ∧ Cond.initialized "java/lang/Math" ∈ pb_tbl ∧ Cond.code Lib.MathLoose.max_long.x Lib.MathLoose.max_long.code 4 (some .long) ∈ pb_tbl := ⟨m_4_209, m_1_16, pb_tm4 (i := 210) rfl rfl⟩
theorem m_4_211 : Cond.methodLink RX0 98 Lib.MathLoose.min_long.x ∈ pb_tbl := pb_tm4 (i := 211) rfl rfl
theorem m_4_212 : Cond.static Lib.MathLoose.min_long.x ∈ pb_tbl := pb_tm4 (i := 212) rfl rfl
theorem mm_mminL : Cond.static Lib.MathLoose.min_long.x ∈ pb_tbl ∧ Cond.initialized "java/lang/Math" ∈ pb_tbl ∧ Cond.code Lib.MathLoose.min_long.x Lib.MathLoose.min_long.code 4 (some .long) ∈ pb_tbl := ⟨m_4_212, m_1_16, pb_tm4 (i := 213) rfl rfl⟩
theorem m_4_214 : Cond.constantLong RX0 101 (1000) ∈ pb_tbl := pb_tm4 (i := 214) rfl rfl
theorem m_4_206 : Cond.code yX0_packed cX0_packed 7 (some .int) ∈ pb_tbl := pb_tm4 (i := 206) rfl rfl
theorem m_4_222 : Cond.code yX0_push cX0_push 3 none ∈ pb_tbl := pb_tm4 (i := 222) rfl rfl
theorem m_4_226 : Cond.code yX1_hasWord cX1_hasWord 5 (some .boolean) ∈ pb_tbl := pb_tm4 (i := 226) rfl rfl
theorem m_4_229 : Cond.code yX0_joined cX0_joined 5 (some .long) ∈ pb_tbl := pb_tm4 (i := 229) rfl rfl
theorem m_4_199 : Cond.methodLink RX0 81 yX0_pop ∈ pb_tbl := pb_tm4 (i := 199) rfl rfl
theorem m_4_201 : Cond.instanceMethod yX0_pop ∈ pb_tbl := pb_tm4 (i := 201) rfl rfl
theorem ms_X0_pop : Cond.selects yX0_pop.cls yX0_pop yX0_pop ∈ pb_tbl := pb_ps2 (i := 11) (q := (yX0_pop, 8)) rfl
theorem q_X0_81 : pb_ci RX0 81 yX0_pop 0 := ⟨Or.inl m_4_199, m_4_201, ms_X0_pop, m_1_5, by decide +kernel, by decide +kernel, by decide +kernel⟩
theorem m_4_227 : Cond.methodLink RX0 121 yX0_joined ∈ pb_tbl := pb_tm4 (i := 227) rfl rfl
theorem m_4_228 : Cond.static yX0_joined ∈ pb_tbl := pb_tm4 (i := 228) rfl rfl
theorem q_X0_121 : pb_cs RX0 121 yX0_joined 3 := ⟨Or.inl m_4_227, m_4_228, m_1_5, by decide +kernel, by decide +kernel, by decide +kernel⟩
theorem m_4_219 : Cond.methodLink RX0 103 yX0_push ∈ pb_tbl := pb_tm4 (i := 219) rfl rfl
theorem m_4_221 : Cond.instanceMethod yX0_push ∈ pb_tbl := pb_tm4 (i := 221) rfl rfl
theorem ms_X0_push : Cond.selects yX0_push.cls yX0_push yX0_push ∈ pb_tbl := pb_ps2 (i := 13) (q := (yX0_push, 8)) rfl
theorem q_X0_103 : pb_ci RX0 103 yX0_push 1 := ⟨Or.inl m_4_219, m_4_221, ms_X0_push, m_1_5, by decide +kernel, by decide +kernel, by decide +kernel⟩
theorem m_1_226 : Cond.fieldLink RX0 28 "PennyBooks$Judge" "ledger" "LPennyBooks$Ledger;" ∈ pb_tbl := pb_tm1 (i := 226) rfl rfl
theorem g_X0_28 : pb_fd 25 0 (.inl 5) RX0 28 := ⟨0, _, RX0, TX0, 8, h_25, rfl, rfl, by decide, u_X0, Or.inl m_1_226⟩
theorem m_1_96 : Cond.fieldLinkNest RX0 51 "PennyBooks$Ledger" "penceOf" "[I" "PennyBooks" ∈ pb_nests := pb_nm1 (i := 96) rfl rfl
theorem g_X0_51 : pb_fd 5 12 (.inl 16) RX0 51 := ⟨1, _, RX1, TX1, 20, h_5, rfl, rfl, by decide, u_X1, Or.inr ⟨_, m_1_96⟩⟩
theorem m_1_83 : Cond.fieldLinkNest RX0 107 "PennyBooks$Ledger" "weekOf" "[I" "PennyBooks" ∈ pb_nests := pb_nm1 (i := 83) rfl rfl
theorem g_X0_107 : pb_fd 5 5 (.inl 9) RX0 107 := ⟨1, _, RX1, TX1, 20, h_5, rfl, rfl, by decide, u_X1, Or.inr ⟨_, m_1_83⟩⟩
theorem m_1_85 : Cond.fieldLinkNest RX0 110 "PennyBooks$Ledger" "shopOf" "[I" "PennyBooks" ∈ pb_nests := pb_nm1 (i := 85) rfl rfl
theorem g_X0_110 : pb_fd 5 6 (.inl 10) RX0 110 := ⟨1, _, RX1, TX1, 20, h_5, rfl, rfl, by decide, u_X1, Or.inr ⟨_, m_1_85⟩⟩
theorem m_4_223 : Cond.methodLink RX0 113 yX1_hasWord ∈ pb_tbl := pb_tm4 (i := 223) rfl rfl
theorem m_4_224 : Cond.instanceMethod yX1_hasWord ∈ pb_tbl := pb_tm4 (i := 224) rfl rfl
theorem m_4_225 : Cond.selects RX1 yX1_hasWord yX1_hasWord ∈ pb_tbl := pb_tm4 (i := 225) rfl rfl
theorem q_X0_113 : pb_ci RX0 113 yX1_hasWord 2 := ⟨Or.inl m_4_223, m_4_224, m_4_225, m_1_3, by decide +kernel, by decide +kernel, by decide +kernel⟩
theorem m_1_89 : Cond.fieldLinkNest RX0 117 "PennyBooks$Ledger" "came" "[Z" "PennyBooks" ∈ pb_nests := pb_nm1 (i := 89) rfl rfl
theorem g_X0_117 : pb_fd 5 8 (.inl 12) RX0 117 := ⟨1, _, RX1, TX1, 20, h_5, rfl, rfl, by decide, u_X1, Or.inr ⟨_, m_1_89⟩⟩
theorem m_4_218 : Cond.code yX0_take cX0_take 7 none ∈ pb_tbl := pb_tm4 (i := 218) rfl rfl
theorem m_4_204 : Cond.methodLink RX0 85 yX0_packed ∈ pb_tbl := pb_tm4 (i := 204) rfl rfl
theorem m_4_205 : Cond.static yX0_packed ∈ pb_tbl := pb_tm4 (i := 205) rfl rfl
theorem q_X0_85 : pb_cs RX0 85 yX0_packed 3 := ⟨Or.inl m_4_204, m_4_205, m_1_5, by decide +kernel, by decide +kernel, by decide +kernel⟩
theorem m_4_198 : Cond.constantLong RX0 79 (255) ∈ pb_tbl := pb_tm4 (i := 198) rfl rfl
theorem m_4_215 : Cond.methodLink RX0 89 yX0_take ∈ pb_tbl := pb_tm4 (i := 215) rfl rfl
theorem m_4_217 : Cond.instanceMethod yX0_take ∈ pb_tbl := pb_tm4 (i := 217) rfl rfl
theorem ms_X0_take : Cond.selects yX0_take.cls yX0_take yX0_take ∈ pb_tbl := pb_ps2 (i := 12) (q := (yX0_take, 8)) rfl
theorem q_X0_89 : pb_ci RX0 89 yX0_take 3 := ⟨Or.inl m_4_215, m_4_217, ms_X0_take, m_1_5, by decide +kernel, by decide +kernel, by decide +kernel⟩
theorem m_4_203 : Cond.methodLink RX0 58 Lib.Math.max.name ∈ pb_tbl := pb_tm4 (i := 203) rfl rfl
theorem m_4_197 : Cond.code yX0_judgeAnew cX0_judgeAnew 14 (some .int) ∈ pb_tbl := pb_tm4 (i := 197) rfl rfl
theorem m_4_193 : Cond.methodLinkNest RX0 42 yX11_outside "PennyBooks" ∈ pb_nests := pb_nm4 (i := 193) rfl rfl
theorem q_X0_42 : pb_cs RX0 42 yX11_outside 3 := ⟨Or.inr ⟨_, m_4_193⟩, m_3_60, m_1_1, by decide +kernel, by decide +kernel, by decide +kernel⟩
theorem m_1_67 : Cond.fieldLinkNest RX0 46 "PennyBooks$Ledger" "lines" "I" "PennyBooks" ∈ pb_nests := pb_nm1 (i := 67) rfl rfl
theorem g_X0_46 : pb_fd 5 3 (.inr true) RX0 46 := ⟨1, _, RX1, TX1, 20, h_5, rfl, rfl, by decide, u_X1, Or.inr ⟨_, m_1_67⟩⟩
theorem m_1_231 : Cond.fieldLink RX0 19 "PennyBooks$Judge" "judgedAt" "[I" ∈ pb_tbl := pb_tm1 (i := 231) rfl rfl
theorem g_X0_19 : pb_fd 25 4 (.inl 28) RX0 19 := ⟨0, _, RX0, TX0, 8, h_25, rfl, rfl, by decide, u_X0, Or.inl m_1_231⟩
theorem h_28 : pb_sh[28]? = some (.inl (0, 1000)) := rfl
theorem m_1_232 : Cond.fieldLink RX0 22 "PennyBooks$Judge" "verdicts" "[I" ∈ pb_tbl := pb_tm1 (i := 232) rfl rfl
theorem g_X0_22 : pb_fd 25 5 (.inl 29) RX0 22 := ⟨0, _, RX0, TX0, 8, h_25, rfl, rfl, by decide, u_X0, Or.inl m_1_232⟩
theorem m_4_194 : Cond.methodLink RX0 54 yX0_judgeAnew ∈ pb_tbl := pb_tm4 (i := 194) rfl rfl
theorem m_4_196 : Cond.instanceMethod yX0_judgeAnew ∈ pb_tbl := pb_tm4 (i := 196) rfl rfl
theorem ms_X0_judgeAnew : Cond.selects yX0_judgeAnew.cls yX0_judgeAnew yX0_judgeAnew ∈ pb_tbl := pb_ps2 (i := 10) (q := (yX0_judgeAnew, 8)) rfl
theorem q_X0_54 : pb_ci RX0 54 yX0_judgeAnew 2 := ⟨Or.inl m_4_194, m_4_196, ms_X0_judgeAnew, m_1_5, by decide +kernel, by decide +kernel, by decide +kernel⟩
theorem h_29 : pb_sh[29]? = some (.inl (0, 1000)) := rfl
theorem m_4_192 : Cond.code yX0_judgeBy cX0_judgeBy 4 (some .boolean) ∈ pb_tbl := pb_tm4 (i := 192) rfl rfl
theorem m_4_234 : Cond.code yX0_ruleOf cX0_ruleOf 3 (some .int) ∈ pb_tbl := pb_tm4 (i := 234) rfl rfl
theorem m_4_238 : Cond.code yX0_kindOf cX0_kindOf 3 (some .int) ∈ pb_tbl := pb_tm4 (i := 238) rfl rfl
theorem m_5_2 : Cond.code yX0_unitsOf cX0_unitsOf 3 (some .int) ∈ pb_tbl := pb_tm5 (i := 2) rfl rfl
theorem m_4_189 : Cond.methodLink RX11 214 yX0_judgeBy ∈ pb_tbl := pb_tm4 (i := 189) rfl rfl
theorem m_4_190 : Cond.instanceMethod yX0_judgeBy ∈ pb_tbl := pb_tm4 (i := 190) rfl rfl
theorem m_4_191 : Cond.selects RX0 yX0_judgeBy yX0_judgeBy ∈ pb_tbl := pb_tm4 (i := 191) rfl rfl
theorem q_X11_214 : pb_ci RX11 214 yX0_judgeBy 1 := ⟨Or.inl m_4_189, m_4_190, m_4_191, m_1_5, by decide +kernel, by decide +kernel, by decide +kernel⟩
theorem m_4_230 : Cond.methodLink RX11 217 yX1_isKnown ∈ pb_tbl := pb_tm4 (i := 230) rfl rfl
theorem q_X11_217 : pb_ci RX11 217 yX1_isKnown 1 := ⟨Or.inl m_4_230, m_3_189, m_3_190, m_1_3, by decide +kernel, by decide +kernel, by decide +kernel⟩
theorem m_4_231 : Cond.methodLink RX11 220 yX0_ruleOf ∈ pb_tbl := pb_tm4 (i := 231) rfl rfl
theorem m_4_232 : Cond.instanceMethod yX0_ruleOf ∈ pb_tbl := pb_tm4 (i := 232) rfl rfl
theorem m_4_233 : Cond.selects RX0 yX0_ruleOf yX0_ruleOf ∈ pb_tbl := pb_tm4 (i := 233) rfl rfl
theorem q_X11_220 : pb_ci RX11 220 yX0_ruleOf 2 := ⟨Or.inl m_4_231, m_4_232, m_4_233, m_1_5, by decide +kernel, by decide +kernel, by decide +kernel⟩
theorem m_4_239 : Cond.methodLink RX11 226 yX0_unitsOf ∈ pb_tbl := pb_tm4 (i := 239) rfl rfl
theorem m_5_0 : Cond.instanceMethod yX0_unitsOf ∈ pb_tbl := pb_tm5 (i := 0) rfl rfl
theorem m_5_1 : Cond.selects RX0 yX0_unitsOf yX0_unitsOf ∈ pb_tbl := pb_tm5 (i := 1) rfl rfl
theorem q_X11_226 : pb_ci RX11 226 yX0_unitsOf 2 := ⟨Or.inl m_4_239, m_5_0, m_5_1, m_1_5, by decide +kernel, by decide +kernel, by decide +kernel⟩
theorem m_4_235 : Cond.methodLink RX11 223 yX0_kindOf ∈ pb_tbl := pb_tm4 (i := 235) rfl rfl
theorem m_4_236 : Cond.instanceMethod yX0_kindOf ∈ pb_tbl := pb_tm4 (i := 236) rfl rfl
theorem m_4_237 : Cond.selects RX0 yX0_kindOf yX0_kindOf ∈ pb_tbl := pb_tm4 (i := 237) rfl rfl
theorem q_X11_223 : pb_ci RX11 223 yX0_kindOf 2 := ⟨Or.inl m_4_235, m_4_236, m_4_237, m_1_5, by decide +kernel, by decide +kernel, by decide +kernel⟩
theorem m_4_188 : Cond.code yX11_kind cX11_kind 4 (some .int) ∈ pb_tbl := pb_tm4 (i := 188) rfl rfl
theorem m_5_11 : Cond.methodLink RX0 63 yX1_isKnown ∈ pb_tbl := pb_tm5 (i := 11) rfl rfl
theorem q_X0_63 : pb_ci RX0 63 yX1_isKnown 1 := ⟨Or.inl m_5_11, m_3_189, m_3_190, m_1_3, by decide +kernel, by decide +kernel, by decide +kernel⟩
theorem m_5_12 : Cond.methodLink RX0 67 yX0_kindOf ∈ pb_tbl := pb_tm5 (i := 12) rfl rfl
theorem q_X0_67 : pb_ci RX0 67 yX0_kindOf 2 := ⟨Or.inl m_5_12, m_4_236, m_4_237, m_1_5, by decide +kernel, by decide +kernel, by decide +kernel⟩
theorem m_5_10 : Cond.code yX0_unlikeKinds cX0_unlikeKinds 5 (some .int) ∈ pb_tbl := pb_tm5 (i := 10) rfl rfl
theorem m_5_7 : Cond.methodLink RX11 229 yX0_unlikeKinds ∈ pb_tbl := pb_tm5 (i := 7) rfl rfl
theorem m_5_8 : Cond.instanceMethod yX0_unlikeKinds ∈ pb_tbl := pb_tm5 (i := 8) rfl rfl
theorem m_5_9 : Cond.selects RX0 yX0_unlikeKinds yX0_unlikeKinds ∈ pb_tbl := pb_tm5 (i := 9) rfl rfl
theorem q_X11_229 : pb_ci RX11 229 yX0_unlikeKinds 2 := ⟨Or.inl m_5_7, m_5_8, m_5_9, m_1_5, by decide +kernel, by decide +kernel, by decide +kernel⟩
theorem m_5_6 : Cond.code yX11_moved cX11_moved 3 (some .int) ∈ pb_tbl := pb_tm5 (i := 6) rfl rfl
theorem m_5_20 : Cond.code yX11_noSpending cX11_noSpending 5 (some .boolean) ∈ pb_tbl := pb_tm5 (i := 20) rfl rfl
theorem m_5_32 : Cond.code yX1_went cX1_went 2 (some .boolean) ∈ pb_tbl := pb_tm5 (i := 32) rfl rfl
theorem m_5_29 : Cond.methodLink RX1 69 yX1_went ∈ pb_tbl := pb_tm5 (i := 29) rfl rfl
theorem m_5_30 : Cond.instanceMethod yX1_went ∈ pb_tbl := pb_tm5 (i := 30) rfl rfl
theorem m_5_31 : Cond.selects RX1 yX1_went yX1_went ∈ pb_tbl := pb_tm5 (i := 31) rfl rfl
theorem q_X1_69 : pb_ci RX1 69 yX1_went 1 := ⟨Or.inl m_5_29, m_5_30, m_5_31, m_1_3, by decide +kernel, by decide +kernel, by decide +kernel⟩
theorem m_5_28 : Cond.code yX1_wentFrom_ cX1_wentFrom_ 4 (some .boolean) ∈ pb_tbl := pb_tm5 (i := 28) rfl rfl
theorem m_5_36 : Cond.code yX0_isOn cX0_isOn 4 (some .boolean) ∈ pb_tbl := pb_tm5 (i := 36) rfl rfl
theorem m_5_25 : Cond.methodLink RX0 70 yX1_wentFrom_ ∈ pb_tbl := pb_tm5 (i := 25) rfl rfl
theorem m_5_26 : Cond.instanceMethod yX1_wentFrom_ ∈ pb_tbl := pb_tm5 (i := 26) rfl rfl
theorem m_5_27 : Cond.selects RX1 yX1_wentFrom_ yX1_wentFrom_ ∈ pb_tbl := pb_tm5 (i := 27) rfl rfl
theorem q_X0_70 : pb_ci RX0 70 yX1_wentFrom_ 3 := ⟨Or.inl m_5_25, m_5_26, m_5_27, m_1_3, by decide +kernel, by decide +kernel, by decide +kernel⟩
theorem m_5_33 : Cond.methodLink RX0 73 yX0_isOn ∈ pb_tbl := pb_tm5 (i := 33) rfl rfl
theorem m_5_34 : Cond.instanceMethod yX0_isOn ∈ pb_tbl := pb_tm5 (i := 34) rfl rfl
theorem m_5_35 : Cond.selects RX0 yX0_isOn yX0_isOn ∈ pb_tbl := pb_tm5 (i := 35) rfl rfl
theorem q_X0_73 : pb_ci RX0 73 yX0_isOn 3 := ⟨Or.inl m_5_33, m_5_34, m_5_35, m_1_5, by decide +kernel, by decide +kernel, by decide +kernel⟩
theorem m_5_24 : Cond.code yX0_spentOn cX0_spentOn 7 (some .int) ∈ pb_tbl := pb_tm5 (i := 24) rfl rfl
theorem m_5_17 : Cond.methodLink RX11 232 yX11_noSpending ∈ pb_tbl := pb_tm5 (i := 17) rfl rfl
theorem m_5_19 : Cond.instanceMethod yX11_noSpending ∈ pb_tbl := pb_tm5 (i := 19) rfl rfl
theorem ms_X11_noSpending : Cond.selects yX11_noSpending.cls yX11_noSpending yX11_noSpending ∈ pb_tbl := pb_ps2 (i := 14) (q := (yX11_noSpending, 14)) rfl
theorem q_X11_232 : pb_ci RX11 232 yX11_noSpending 4 := ⟨Or.inl m_5_17, m_5_19, ms_X11_noSpending, m_1_1, by decide +kernel, by decide +kernel, by decide +kernel⟩
theorem m_5_21 : Cond.methodLink RX11 236 yX0_spentOn ∈ pb_tbl := pb_tm5 (i := 21) rfl rfl
theorem m_5_22 : Cond.instanceMethod yX0_spentOn ∈ pb_tbl := pb_tm5 (i := 22) rfl rfl
theorem m_5_23 : Cond.selects RX0 yX0_spentOn yX0_spentOn ∈ pb_tbl := pb_tm5 (i := 23) rfl rfl
theorem q_X11_236 : pb_ci RX11 236 yX0_spentOn 4 := ⟨Or.inl m_5_21, m_5_22, m_5_23, m_1_5, by decide +kernel, by decide +kernel, by decide +kernel⟩
theorem m_5_16 : Cond.code yX11_spent cX11_spent 5 (some .int) ∈ pb_tbl := pb_tm5 (i := 16) rfl rfl
theorem m_2_19 : Cond.fieldLink RX6 37 "PennyBooks$Sums" "told" "I" ∈ pb_tbl := pb_tm2 (i := 19) rfl rfl
theorem m_2_34 : Cond.laysFinal RX6 "PennyBooks$Sums" "ledger" "LPennyBooks$Ledger;" ∈ pb_tbl := pb_tm2 (i := 34) rfl rfl
theorem m_2_36 : Cond.lays RX6 "PennyBooks$Sums" "told" "I" ∈ pb_tbl := pb_tm2 (i := 36) rfl rfl
theorem m_2_38 : Cond.laysFinal RX6 "PennyBooks$Sums" "toldFamily" "[I" ∈ pb_tbl := pb_tm2 (i := 38) rfl rfl
theorem m_2_40 : Cond.laysFinal RX6 "PennyBooks$Sums" "toldWeek" "[I" ∈ pb_tbl := pb_tm2 (i := 40) rfl rfl
theorem m_2_42 : Cond.laysFinal RX6 "PennyBooks$Sums" "toldSum" "[I" ∈ pb_tbl := pb_tm2 (i := 42) rfl rfl
theorem m_2_44 : Cond.lays RX6 "PennyBooks$Sums" "went" "I" ∈ pb_tbl := pb_tm2 (i := 44) rfl rfl
theorem m_2_46 : Cond.laysFinal RX6 "PennyBooks$Sums" "wentLine" "[I" ∈ pb_tbl := pb_tm2 (i := 46) rfl rfl
theorem m_2_48 : Cond.laysFinal RX6 "PennyBooks$Sums" "adds" "[I" ∈ pb_tbl := pb_tm2 (i := 48) rfl rfl
theorem m_2_50 : Cond.laysFinal RX6 "PennyBooks$Sums" "tried" "[I" ∈ pb_tbl := pb_tm2 (i := 50) rfl rfl
theorem m_2_52 : Cond.laysFinal RX6 "PennyBooks$Sums" "first" "[I" ∈ pb_tbl := pb_tm2 (i := 52) rfl rfl
theorem m_2_54 : Cond.lays RX6 "PennyBooks$Sums" "fewest" "I" ∈ pb_tbl := pb_tm2 (i := 54) rfl rfl
theorem m_2_56 : Cond.lays RX6 "PennyBooks$Sums" "rivals" "I" ∈ pb_tbl := pb_tm2 (i := 56) rfl rfl
theorem m_2_58 : Cond.lays RX6 "PennyBooks$Sums" "carry" "I" ∈ pb_tbl := pb_tm2 (i := 58) rfl rfl
theorem u_X6 : ∀ w ∈ u_ws RX6 TX6 13, w ∈ pb_tbl := by
  intro w hw
  obtain ⟨k, hk, rfl⟩ := List.mem_map.mp hw
  have hk := List.mem_range.mp hk
  match k, hk with
  | 0, _ => exact m_2_34
  | 1, _ => exact m_2_36
  | 2, _ => exact m_2_38
  | 3, _ => exact m_2_40
  | 4, _ => exact m_2_42
  | 5, _ => exact m_2_44
  | 6, _ => exact m_2_46
  | 7, _ => exact m_2_48
  | 8, _ => exact m_2_50
  | 9, _ => exact m_2_52
  | 10, _ => exact m_2_54
  | 11, _ => exact m_2_56
  | 12, _ => exact m_2_58
  | j + 13, h => omega
theorem h_31 : pb_sh[31]? = some (.inr (6, [.inl 5, .inr true, .inl 32, .inl 33, .inl 34, .inr true, .inl 35, .inl 36, .inl 37, .inl 38, .inr true, .inr true, .inr true])) := rfl
theorem g_X6_37 : pb_fd 31 1 (.inr true) RX6 37 := ⟨6, _, RX6, TX6, 13, h_31, rfl, rfl, by decide, u_X6, Or.inl m_2_19⟩
theorem m_2_20 : Cond.fieldLink RX6 11 "PennyBooks$Sums" "toldFamily" "[I" ∈ pb_tbl := pb_tm2 (i := 20) rfl rfl
theorem g_X6_11 : pb_fd 31 2 (.inl 32) RX6 11 := ⟨6, _, RX6, TX6, 13, h_31, rfl, rfl, by decide, u_X6, Or.inl m_2_20⟩
theorem h_32 : pb_sh[32]? = some (.inl (0, 40)) := rfl
theorem m_2_21 : Cond.fieldLink RX6 15 "PennyBooks$Sums" "toldWeek" "[I" ∈ pb_tbl := pb_tm2 (i := 21) rfl rfl
theorem g_X6_15 : pb_fd 31 3 (.inl 33) RX6 15 := ⟨6, _, RX6, TX6, 13, h_31, rfl, rfl, by decide, u_X6, Or.inl m_2_21⟩
theorem h_33 : pb_sh[33]? = some (.inl (0, 40)) := rfl
theorem m_5_53 : Cond.code yX6_find cX6_find 4 (some .int) ∈ pb_tbl := pb_tm5 (i := 53) rfl rfl
theorem m_5_50 : Cond.methodLink RX6 41 yX6_find ∈ pb_tbl := pb_tm5 (i := 50) rfl rfl
theorem m_5_52 : Cond.instanceMethod yX6_find ∈ pb_tbl := pb_tm5 (i := 52) rfl rfl
theorem ms_X6_find : Cond.selects yX6_find.cls yX6_find yX6_find ∈ pb_tbl := pb_ps2 (i := 15) (q := (yX6_find, 13)) rfl
theorem m_1_6 : Cond.initialized RX6 ∈ pb_tbl := pb_tm1 (i := 6) rfl rfl
theorem q_X6_41 : pb_ci RX6 41 yX6_find 2 := ⟨Or.inl m_5_50, m_5_52, ms_X6_find, m_1_6, by decide +kernel, by decide +kernel, by decide +kernel⟩
theorem m_5_49 : Cond.code yX6_isTold cX6_isTold 3 (some .boolean) ∈ pb_tbl := pb_tm5 (i := 49) rfl rfl
theorem m_5_46 : Cond.methodLink RX6 45 yX6_isTold ∈ pb_tbl := pb_tm5 (i := 46) rfl rfl
theorem m_5_47 : Cond.instanceMethod yX6_isTold ∈ pb_tbl := pb_tm5 (i := 47) rfl rfl
theorem m_5_48 : Cond.selects RX6 yX6_isTold yX6_isTold ∈ pb_tbl := pb_tm5 (i := 48) rfl rfl
theorem q_X6_45 : pb_ci RX6 45 yX6_isTold 2 := ⟨Or.inl m_5_46, m_5_47, m_5_48, m_1_6, by decide +kernel, by decide +kernel, by decide +kernel⟩
theorem m_5_45 : Cond.code yX6_hasRoom cX6_hasRoom 3 (some .boolean) ∈ pb_tbl := pb_tm5 (i := 45) rfl rfl
theorem p_X6_37 : pb_fp 31 1 (.inr true) .int RX6 37 := ⟨6, _, RX6, TX6, 13, tyX6, h_31, rfl, rfl, by decide, u_X6, Or.inl m_2_19, tyX6_ok, nmX6, rfl, rfl⟩
theorem m_2_22 : Cond.fieldLink RX6 18 "PennyBooks$Sums" "toldSum" "[I" ∈ pb_tbl := pb_tm2 (i := 22) rfl rfl
theorem g_X6_18 : pb_fd 31 4 (.inl 34) RX6 18 := ⟨6, _, RX6, TX6, 13, h_31, rfl, rfl, by decide, u_X6, Or.inl m_2_22⟩
theorem h_34 : pb_sh[34]? = some (.inl (0, 40)) := rfl
theorem m_5_57 : Cond.code yX6_tell cX6_tell 5 none ∈ pb_tbl := pb_tm5 (i := 57) rfl rfl
theorem m_5_41 : Cond.constant RX11 240 (1000000) ∈ pb_tbl := pb_tm5 (i := 41) rfl rfl
theorem m_3_7 : Cond.fieldLink RX11 53 "PennyBooks" "sums" "LPennyBooks$Sums;" ∈ pb_tbl := pb_tm3 (i := 7) rfl rfl
theorem g_X11_53 : pb_fd 0 7 (.inl 31) RX11 53 := ⟨11, _, RX11, TX11, 14, h_0, rfl, rfl, by decide, u_X11, Or.inl m_3_7⟩
theorem m_5_42 : Cond.methodLink RX11 241 yX6_hasRoom ∈ pb_tbl := pb_tm5 (i := 42) rfl rfl
theorem m_5_43 : Cond.instanceMethod yX6_hasRoom ∈ pb_tbl := pb_tm5 (i := 43) rfl rfl
theorem m_5_44 : Cond.selects RX6 yX6_hasRoom yX6_hasRoom ∈ pb_tbl := pb_tm5 (i := 44) rfl rfl
theorem q_X11_241 : pb_ci RX11 241 yX6_hasRoom 2 := ⟨Or.inl m_5_42, m_5_43, m_5_44, m_1_6, by decide +kernel, by decide +kernel, by decide +kernel⟩
theorem m_5_54 : Cond.methodLink RX11 244 yX6_tell ∈ pb_tbl := pb_tm5 (i := 54) rfl rfl
theorem m_5_55 : Cond.instanceMethod yX6_tell ∈ pb_tbl := pb_tm5 (i := 55) rfl rfl
theorem m_5_56 : Cond.selects RX6 yX6_tell yX6_tell ∈ pb_tbl := pb_tm5 (i := 56) rfl rfl
theorem q_X11_244 : pb_ci RX11 244 yX6_tell 3 := ⟨Or.inl m_5_54, m_5_55, m_5_56, m_1_6, by decide +kernel, by decide +kernel, by decide +kernel⟩
theorem m_5_40 : Cond.code yX11_told cX11_told 4 (some .boolean) ∈ pb_tbl := pb_tm5 (i := 40) rfl rfl
theorem m_5_71 : Cond.methodLink RX1 105 yX1_wentFrom_ ∈ pb_tbl := pb_tm5 (i := 71) rfl rfl
theorem q_X1_105 : pb_ci RX1 105 yX1_wentFrom_ 3 := ⟨Or.inl m_5_71, m_5_26, m_5_27, m_1_3, by decide +kernel, by decide +kernel, by decide +kernel⟩
theorem m_5_70 : Cond.code yX1_spentOnAll cX1_spentOnAll 5 (some .int) ∈ pb_tbl := pb_tm5 (i := 70) rfl rfl
theorem m_2_18 : Cond.fieldLink RX6 33 "PennyBooks$Sums" "ledger" "LPennyBooks$Ledger;" ∈ pb_tbl := pb_tm2 (i := 18) rfl rfl
theorem g_X6_33 : pb_fd 31 0 (.inl 5) RX6 33 := ⟨6, _, RX6, TX6, 13, h_31, rfl, rfl, by decide, u_X6, Or.inl m_2_18⟩
theorem m_5_67 : Cond.methodLink RX6 49 yX1_spentOnAll ∈ pb_tbl := pb_tm5 (i := 67) rfl rfl
theorem m_5_68 : Cond.instanceMethod yX1_spentOnAll ∈ pb_tbl := pb_tm5 (i := 68) rfl rfl
theorem m_5_69 : Cond.selects RX1 yX1_spentOnAll yX1_spentOnAll ∈ pb_tbl := pb_tm5 (i := 69) rfl rfl
theorem q_X6_49 : pb_ci RX6 49 yX1_spentOnAll 2 := ⟨Or.inl m_5_67, m_5_68, m_5_69, m_1_3, by decide +kernel, by decide +kernel, by decide +kernel⟩
theorem m_5_66 : Cond.code yX6_outBy cX6_outBy 4 (some .int) ∈ pb_tbl := pb_tm5 (i := 66) rfl rfl
theorem m_5_62 : Cond.methodLink RX11 247 yX6_isTold ∈ pb_tbl := pb_tm5 (i := 62) rfl rfl
theorem q_X11_247 : pb_ci RX11 247 yX6_isTold 2 := ⟨Or.inl m_5_62, m_5_47, m_5_48, m_1_6, by decide +kernel, by decide +kernel, by decide +kernel⟩
theorem m_5_63 : Cond.methodLink RX11 250 yX6_outBy ∈ pb_tbl := pb_tm5 (i := 63) rfl rfl
theorem m_5_64 : Cond.instanceMethod yX6_outBy ∈ pb_tbl := pb_tm5 (i := 64) rfl rfl
theorem m_5_65 : Cond.selects RX6 yX6_outBy yX6_outBy ∈ pb_tbl := pb_tm5 (i := 65) rfl rfl
theorem q_X11_250 : pb_ci RX11 250 yX6_outBy 2 := ⟨Or.inl m_5_63, m_5_64, m_5_65, m_1_6, by decide +kernel, by decide +kernel, by decide +kernel⟩
theorem m_5_61 : Cond.code yX11_out cX11_out 3 (some .int) ∈ pb_tbl := pb_tm5 (i := 61) rfl rfl
theorem m_2_25 : Cond.fieldLink RX6 24 "PennyBooks$Sums" "adds" "[I" ∈ pb_tbl := pb_tm2 (i := 25) rfl rfl
theorem g_X6_24 : pb_fd 31 7 (.inl 36) RX6 24 := ⟨6, _, RX6, TX6, 13, h_31, rfl, rfl, by decide, u_X6, Or.inl m_2_25⟩
theorem h_36 : pb_sh[36]? = some (.inl (0, 63)) := rfl
theorem m_5_88 : Cond.code yX6_listSlips cX6_listSlips 7 none ∈ pb_tbl := pb_tm5 (i := 88) rfl rfl
theorem m_2_23 : Cond.fieldLink RX6 67 "PennyBooks$Sums" "went" "I" ∈ pb_tbl := pb_tm2 (i := 23) rfl rfl
theorem p_X6_67 : pb_fp 31 5 (.inr true) .int RX6 67 := ⟨6, _, RX6, TX6, 13, tyX6, h_31, rfl, rfl, by decide, u_X6, Or.inl m_2_23, tyX6_ok, nmX6, rfl, rfl⟩
theorem m_1_70 : Cond.fieldLinkNest RX6 85 "PennyBooks$Ledger" "lines" "I" "PennyBooks" ∈ pb_nests := pb_nm1 (i := 70) rfl rfl
theorem g_X6_85 : pb_fd 5 3 (.inr true) RX6 85 := ⟨1, _, RX1, TX1, 20, h_5, rfl, rfl, by decide, u_X1, Or.inr ⟨_, m_1_70⟩⟩
theorem m_5_84 : Cond.methodLink RX6 88 yX1_wentFrom_ ∈ pb_tbl := pb_tm5 (i := 84) rfl rfl
theorem q_X6_88 : pb_ci RX6 88 yX1_wentFrom_ 3 := ⟨Or.inl m_5_84, m_5_26, m_5_27, m_1_3, by decide +kernel, by decide +kernel, by decide +kernel⟩
theorem g_X6_67 : pb_fd 31 5 (.inr true) RX6 67 := ⟨6, _, RX6, TX6, 13, h_31, rfl, rfl, by decide, u_X6, Or.inl m_2_23⟩
theorem m_2_24 : Cond.fieldLink RX6 21 "PennyBooks$Sums" "wentLine" "[I" ∈ pb_tbl := pb_tm2 (i := 24) rfl rfl
theorem g_X6_21 : pb_fd 31 6 (.inl 35) RX6 21 := ⟨6, _, RX6, TX6, 13, h_31, rfl, rfl, by decide, u_X6, Or.inl m_2_24⟩
theorem h_35 : pb_sh[35]? = some (.inl (0, 9)) := rfl
theorem m_1_99 : Cond.fieldLinkNest RX6 92 "PennyBooks$Ledger" "penceOf" "[I" "PennyBooks" ∈ pb_nests := pb_nm1 (i := 99) rfl rfl
theorem g_X6_92 : pb_fd 5 12 (.inl 16) RX6 92 := ⟨1, _, RX1, TX1, 20, h_5, rfl, rfl, by decide, u_X1, Or.inr ⟨_, m_1_99⟩⟩
theorem m_5_85 : Cond.methodLink RX6 95 yX6_listSlips ∈ pb_tbl := pb_tm5 (i := 85) rfl rfl
theorem m_5_87 : Cond.instanceMethod yX6_listSlips ∈ pb_tbl := pb_tm5 (i := 87) rfl rfl
theorem ms_X6_listSlips : Cond.selects yX6_listSlips.cls yX6_listSlips yX6_listSlips ∈ pb_tbl := pb_ps3 (i := 1) (q := (yX6_listSlips, 13)) rfl
theorem q_X6_95 : pb_ci RX6 95 yX6_listSlips 2 := ⟨Or.inl m_5_85, m_5_87, ms_X6_listSlips, m_1_6, by decide +kernel, by decide +kernel, by decide +kernel⟩
theorem m_5_83 : Cond.code yX6_gather cX6_gather 4 (some .boolean) ∈ pb_tbl := pb_tm5 (i := 83) rfl rfl
theorem m_2_30 : Cond.fieldLink RX6 75 "PennyBooks$Sums" "rivals" "I" ∈ pb_tbl := pb_tm2 (i := 30) rfl rfl
theorem g_X6_75 : pb_fd 31 11 (.inr true) RX6 75 := ⟨6, _, RX6, TX6, 13, h_31, rfl, rfl, by decide, u_X6, Or.inl m_2_30⟩
theorem p_X6_75 : pb_fp 31 11 (.inr true) .int RX6 75 := ⟨6, _, RX6, TX6, 13, tyX6, h_31, rfl, rfl, by decide, u_X6, Or.inl m_2_30, tyX6_ok, nmX6, rfl, rfl⟩
theorem m_2_32 : Cond.fieldLink RX6 106 "PennyBooks$Sums" "carry" "I" ∈ pb_tbl := pb_tm2 (i := 32) rfl rfl
theorem p_X6_106 : pb_fp 31 12 (.inr true) .int RX6 106 := ⟨6, _, RX6, TX6, 13, tyX6, h_31, rfl, rfl, by decide, u_X6, Or.inl m_2_32, tyX6_ok, nmX6, rfl, rfl⟩
theorem m_2_26 : Cond.fieldLink RX6 27 "PennyBooks$Sums" "tried" "[I" ∈ pb_tbl := pb_tm2 (i := 26) rfl rfl
theorem g_X6_27 : pb_fd 31 8 (.inl 37) RX6 27 := ⟨6, _, RX6, TX6, 13, h_31, rfl, rfl, by decide, u_X6, Or.inl m_2_26⟩
theorem m_2_27 : Cond.fieldLink RX6 30 "PennyBooks$Sums" "first" "[I" ∈ pb_tbl := pb_tm2 (i := 27) rfl rfl
theorem g_X6_30 : pb_fd 31 9 (.inl 38) RX6 30 := ⟨6, _, RX6, TX6, 13, h_31, rfl, rfl, by decide, u_X6, Or.inl m_2_27⟩
theorem m_5_102 : Cond.methodLink RX6 109 arraycopyName ∈ pb_tbl := pb_tm5 (i := 102) rfl rfl
theorem h_37 : pb_sh[37]? = some (.inl (0, 9)) := rfl
theorem h_38 : pb_sh[38]? = some (.inl (0, 9)) := rfl
theorem m_5_101 : Cond.code yX6_found cX6_found 2 none ∈ pb_tbl := pb_tm5 (i := 101) rfl rfl
theorem m_5_98 : Cond.methodLink RX6 102 yX6_found ∈ pb_tbl := pb_tm5 (i := 98) rfl rfl
theorem m_5_100 : Cond.instanceMethod yX6_found ∈ pb_tbl := pb_tm5 (i := 100) rfl rfl
theorem ms_X6_found : Cond.selects yX6_found.cls yX6_found yX6_found ∈ pb_tbl := pb_ps3 (i := 4) (q := (yX6_found, 13)) rfl
theorem q_X6_102 : pb_ci RX6 102 yX6_found 1 := ⟨Or.inl m_5_98, m_5_100, ms_X6_found, m_1_6, by decide +kernel, by decide +kernel, by decide +kernel⟩
theorem m_5_97 : Cond.code yX6_tryCarry cX6_tryCarry 3 none ∈ pb_tbl := pb_tm5 (i := 97) rfl rfl
theorem m_5_90 : Cond.methodLink RX6 81 yX6_tryFrom ∈ pb_tbl := pb_tm5 (i := 90) rfl rfl
theorem m_5_92 : Cond.instanceMethod yX6_tryFrom ∈ pb_tbl := pb_tm5 (i := 92) rfl rfl
theorem ms_X6_tryFrom : Cond.selects yX6_tryFrom.cls yX6_tryFrom yX6_tryFrom ∈ pb_tbl := pb_ps3 (i := 2) (q := (yX6_tryFrom, 13)) rfl
theorem q_X6_81 : pb_ci RX6 81 yX6_tryFrom 3 := ⟨Or.inl m_5_90, m_5_92, ms_X6_tryFrom, m_1_6, by decide +kernel, by decide +kernel, by decide +kernel⟩
theorem m_5_94 : Cond.methodLink RX6 99 yX6_tryCarry ∈ pb_tbl := pb_tm5 (i := 94) rfl rfl
theorem m_5_96 : Cond.instanceMethod yX6_tryCarry ∈ pb_tbl := pb_tm5 (i := 96) rfl rfl
theorem ms_X6_tryCarry : Cond.selects yX6_tryCarry.cls yX6_tryCarry yX6_tryCarry ∈ pb_tbl := pb_ps3 (i := 3) (q := (yX6_tryCarry, 13)) rfl
theorem q_X6_99 : pb_ci RX6 99 yX6_tryCarry 2 := ⟨Or.inl m_5_94, m_5_96, ms_X6_tryCarry, m_1_6, by decide +kernel, by decide +kernel, by decide +kernel⟩
theorem m_5_93 : Cond.code yX6_tryFrom cX6_tryFrom 6 none ∈ pb_tbl := pb_tm5 (i := 93) rfl rfl
theorem m_5_80 : Cond.methodLink RX6 69 yX6_gather ∈ pb_tbl := pb_tm5 (i := 80) rfl rfl
theorem m_5_82 : Cond.instanceMethod yX6_gather ∈ pb_tbl := pb_tm5 (i := 82) rfl rfl
theorem ms_X6_gather : Cond.selects yX6_gather.cls yX6_gather yX6_gather ∈ pb_tbl := pb_ps3 (i := 0) (q := (yX6_gather, 13)) rfl
theorem q_X6_69 : pb_ci RX6 69 yX6_gather 2 := ⟨Or.inl m_5_80, m_5_82, ms_X6_gather, m_1_6, by decide +kernel, by decide +kernel, by decide +kernel⟩
theorem m_5_89 : Cond.methodLink RX6 72 yX6_outBy ∈ pb_tbl := pb_tm5 (i := 89) rfl rfl
theorem q_X6_72 : pb_ci RX6 72 yX6_outBy 2 := ⟨Or.inl m_5_89, m_5_64, m_5_65, m_1_6, by decide +kernel, by decide +kernel, by decide +kernel⟩
theorem m_2_28 : Cond.fieldLink RX6 78 "PennyBooks$Sums" "fewest" "I" ∈ pb_tbl := pb_tm2 (i := 28) rfl rfl
theorem p_X6_78 : pb_fp 31 10 (.inr true) .int RX6 78 := ⟨6, _, RX6, TX6, 13, tyX6, h_31, rfl, rfl, by decide, u_X6, Or.inl m_2_28, tyX6_ok, nmX6, rfl, rfl⟩
theorem m_5_79 : Cond.code yX6_explain cX6_explain 5 (some .boolean) ∈ pb_tbl := pb_tm5 (i := 79) rfl rfl
theorem m_5_76 : Cond.methodLink RX11 253 yX6_explain ∈ pb_tbl := pb_tm5 (i := 76) rfl rfl
theorem m_5_77 : Cond.instanceMethod yX6_explain ∈ pb_tbl := pb_tm5 (i := 77) rfl rfl
theorem m_5_78 : Cond.selects RX6 yX6_explain yX6_explain ∈ pb_tbl := pb_tm5 (i := 78) rfl rfl
theorem q_X11_253 : pb_ci RX11 253 yX6_explain 2 := ⟨Or.inl m_5_76, m_5_77, m_5_78, m_1_6, by decide +kernel, by decide +kernel, by decide +kernel⟩
theorem m_2_31 : Cond.fieldLinkNest RX11 262 "PennyBooks$Sums" "rivals" "I" "PennyBooks" ∈ pb_nests := pb_nm2 (i := 31) rfl rfl
theorem g_X11_262 : pb_fd 31 11 (.inr true) RX11 262 := ⟨6, _, RX6, TX6, 13, h_31, rfl, rfl, by decide, u_X6, Or.inr ⟨_, m_2_31⟩⟩
theorem m_2_29 : Cond.fieldLinkNest RX11 259 "PennyBooks$Sums" "fewest" "I" "PennyBooks" ∈ pb_nests := pb_nm2 (i := 29) rfl rfl
theorem g_X11_259 : pb_fd 31 10 (.inr true) RX11 259 := ⟨6, _, RX6, TX6, 13, h_31, rfl, rfl, by decide, u_X6, Or.inr ⟨_, m_2_29⟩⟩
theorem m_2_33 : Cond.fieldLinkNest RX11 256 "PennyBooks$Sums" "carry" "I" "PennyBooks" ∈ pb_nests := pb_nm2 (i := 33) rfl rfl
theorem g_X11_256 : pb_fd 31 12 (.inr true) RX11 256 := ⟨6, _, RX6, TX6, 13, h_31, rfl, rfl, by decide, u_X6, Or.inr ⟨_, m_2_33⟩⟩
theorem m_5_75 : Cond.code yX11_slips cX11_slips 4 (some .int) ∈ pb_tbl := pb_tm5 (i := 75) rfl rfl
theorem m_5_111 : Cond.methodLink RX6 54 yX1_went ∈ pb_tbl := pb_tm5 (i := 111) rfl rfl
theorem q_X6_54 : pb_ci RX6 54 yX1_went 1 := ⟨Or.inl m_5_111, m_5_30, m_5_31, m_1_3, by decide +kernel, by decide +kernel, by decide +kernel⟩
theorem m_1_76 : Cond.fieldLinkNest RX6 58 "PennyBooks$Ledger" "familyOf" "[I" "PennyBooks" ∈ pb_nests := pb_nm1 (i := 76) rfl rfl
theorem g_X6_58 : pb_fd 5 4 (.inl 8) RX6 58 := ⟨1, _, RX1, TX1, 20, h_5, rfl, rfl, by decide, u_X1, Or.inr ⟨_, m_1_76⟩⟩
theorem m_1_81 : Cond.fieldLinkNest RX6 61 "PennyBooks$Ledger" "weekOf" "[I" "PennyBooks" ∈ pb_nests := pb_nm1 (i := 81) rfl rfl
theorem g_X6_61 : pb_fd 5 5 (.inl 9) RX6 61 := ⟨1, _, RX1, TX1, 20, h_5, rfl, rfl, by decide, u_X1, Or.inr ⟨_, m_1_81⟩⟩
theorem m_5_112 : Cond.methodLink RX6 64 yX6_explain ∈ pb_tbl := pb_tm5 (i := 112) rfl rfl
theorem q_X6_64 : pb_ci RX6 64 yX6_explain 2 := ⟨Or.inl m_5_112, m_5_77, m_5_78, m_1_6, by decide +kernel, by decide +kernel, by decide +kernel⟩
theorem m_5_110 : Cond.code yX6_explainLine cX6_explainLine 2 (some .boolean) ∈ pb_tbl := pb_tm5 (i := 110) rfl rfl
theorem m_5_116 : Cond.code yX6_slipOf cX6_slipOf 3 (some .int) ∈ pb_tbl := pb_tm5 (i := 116) rfl rfl
theorem m_5_113 : Cond.methodLink RX11 268 yX6_slipOf ∈ pb_tbl := pb_tm5 (i := 113) rfl rfl
theorem m_5_114 : Cond.instanceMethod yX6_slipOf ∈ pb_tbl := pb_tm5 (i := 114) rfl rfl
theorem m_5_115 : Cond.selects RX6 yX6_slipOf yX6_slipOf ∈ pb_tbl := pb_tm5 (i := 115) rfl rfl
theorem q_X11_268 : pb_ci RX11 268 yX6_slipOf 1 := ⟨Or.inl m_5_113, m_5_114, m_5_115, m_1_6, by decide +kernel, by decide +kernel, by decide +kernel⟩
theorem m_5_107 : Cond.methodLink RX11 265 yX6_explainLine ∈ pb_tbl := pb_tm5 (i := 107) rfl rfl
theorem m_5_108 : Cond.instanceMethod yX6_explainLine ∈ pb_tbl := pb_tm5 (i := 108) rfl rfl
theorem m_5_109 : Cond.selects RX6 yX6_explainLine yX6_explainLine ∈ pb_tbl := pb_tm5 (i := 109) rfl rfl
theorem q_X11_265 : pb_ci RX11 265 yX6_explainLine 1 := ⟨Or.inl m_5_107, m_5_108, m_5_109, m_1_6, by decide +kernel, by decide +kernel, by decide +kernel⟩
theorem m_5_106 : Cond.code yX11_slip cX11_slip 2 (some .int) ∈ pb_tbl := pb_tm5 (i := 106) rfl rfl
theorem m_3_8 : Cond.fieldLink RX11 62 "PennyBooks" "sundries" "LPennyBooks$Sundries;" ∈ pb_tbl := pb_tm3 (i := 8) rfl rfl
theorem g_X11_62 : pb_fd 0 8 (.inl 39) RX11 62 := ⟨11, _, RX11, TX11, 14, h_0, rfl, rfl, by decide, u_X11, Or.inl m_3_8⟩
theorem m_2_70 : Cond.fieldLinkNest RX11 271 "PennyBooks$Sundries" "near" "I" "PennyBooks" ∈ pb_nests := pb_nm2 (i := 70) rfl rfl
theorem m_2_80 : Cond.laysFinal RX7 "PennyBooks$Sundries" "ledger" "LPennyBooks$Ledger;" ∈ pb_tbl := pb_tm2 (i := 80) rfl rfl
theorem m_2_82 : Cond.laysFinal RX7 "PennyBooks$Sundries" "judge" "LPennyBooks$Judge;" ∈ pb_tbl := pb_tm2 (i := 82) rfl rfl
theorem m_2_84 : Cond.lays RX7 "PennyBooks$Sundries" "near" "I" ∈ pb_tbl := pb_tm2 (i := 84) rfl rfl
theorem m_2_86 : Cond.laysFinal RX7 "PennyBooks$Sundries" "nearestLine" "[I" ∈ pb_tbl := pb_tm2 (i := 86) rfl rfl
theorem m_2_88 : Cond.laysFinal RX7 "PennyBooks$Sundries" "prices" "[I" ∈ pb_tbl := pb_tm2 (i := 88) rfl rfl
theorem m_2_90 : Cond.laysFinal RX7 "PennyBooks$Sundries" "most" "[I" ∈ pb_tbl := pb_tm2 (i := 90) rfl rfl
theorem m_2_92 : Cond.laysFinal RX7 "PennyBooks$Sundries" "unitsByWeek" "[I" ∈ pb_tbl := pb_tm2 (i := 92) rfl rfl
theorem m_2_94 : Cond.laysFinal RX7 "PennyBooks$Sundries" "waysTo" "[J" ∈ pb_tbl := pb_tm2 (i := 94) rfl rfl
theorem m_2_96 : Cond.lays RX7 "PennyBooks$Sundries" "fewest" "I" ∈ pb_tbl := pb_tm2 (i := 96) rfl rfl
theorem m_2_98 : Cond.lays RX7 "PennyBooks$Sundries" "greatest" "I" ∈ pb_tbl := pb_tm2 (i := 98) rfl rfl
theorem u_X7 : ∀ w ∈ u_ws RX7 TX7 10, w ∈ pb_tbl := by
  intro w hw
  obtain ⟨k, hk, rfl⟩ := List.mem_map.mp hw
  have hk := List.mem_range.mp hk
  match k, hk with
  | 0, _ => exact m_2_80
  | 1, _ => exact m_2_82
  | 2, _ => exact m_2_84
  | 3, _ => exact m_2_86
  | 4, _ => exact m_2_88
  | 5, _ => exact m_2_90
  | 6, _ => exact m_2_92
  | 7, _ => exact m_2_94
  | 8, _ => exact m_2_96
  | 9, _ => exact m_2_98
  | j + 10, h => omega
theorem h_39 : pb_sh[39]? = some (.inr (7, [.inl 5, .inl 25, .inr true, .inl 40, .inl 41, .inl 42, .inl 43, .inl 44, .inr true, .inr true])) := rfl
theorem p_X11_271 : pb_fp 39 2 (.inr true) .int RX11 271 := ⟨7, _, RX7, TX7, 10, tyX7, h_39, rfl, rfl, by decide, u_X7, Or.inr ⟨_, m_2_70⟩, tyX7_ok, nmX7, rfl, rfl⟩
theorem m_3_10 : Cond.fieldLink RX11 76 "PennyBooks" "prices" "LPennyBooks$Prices;" ∈ pb_tbl := pb_tm3 (i := 10) rfl rfl
theorem g_X11_76 : pb_fd 0 10 (.inl 51) RX11 76 := ⟨11, _, RX11, TX11, 14, h_0, rfl, rfl, by decide, u_X11, Or.inl m_3_10⟩
theorem m_2_136 : Cond.fieldLinkNest RX11 274 "PennyBooks$Prices" "shut" "I" "PennyBooks" ∈ pb_nests := pb_nm2 (i := 136) rfl rfl
theorem m_2_142 : Cond.laysFinal RX4 "PennyBooks$Prices" "ledger" "LPennyBooks$Ledger;" ∈ pb_tbl := pb_tm2 (i := 142) rfl rfl
theorem m_2_144 : Cond.laysFinal RX4 "PennyBooks$Prices" "judge" "LPennyBooks$Judge;" ∈ pb_tbl := pb_tm2 (i := 144) rfl rfl
theorem m_2_146 : Cond.lays RX4 "PennyBooks$Prices" "shut" "I" ∈ pb_tbl := pb_tm2 (i := 146) rfl rfl
theorem m_2_148 : Cond.lays RX4 "PennyBooks$Prices" "many" "I" ∈ pb_tbl := pb_tm2 (i := 148) rfl rfl
theorem m_2_150 : Cond.laysFinal RX4 "PennyBooks$Prices" "pence" "[I" ∈ pb_tbl := pb_tm2 (i := 150) rfl rfl
theorem m_2_152 : Cond.laysFinal RX4 "PennyBooks$Prices" "units" "[I" ∈ pb_tbl := pb_tm2 (i := 152) rfl rfl
theorem u_X4 : ∀ w ∈ u_ws RX4 TX4 6, w ∈ pb_tbl := by
  intro w hw
  obtain ⟨k, hk, rfl⟩ := List.mem_map.mp hw
  have hk := List.mem_range.mp hk
  match k, hk with
  | 0, _ => exact m_2_142
  | 1, _ => exact m_2_144
  | 2, _ => exact m_2_146
  | 3, _ => exact m_2_148
  | 4, _ => exact m_2_150
  | 5, _ => exact m_2_152
  | j + 6, h => omega
theorem h_51 : pb_sh[51]? = some (.inr (4, [.inl 5, .inl 25, .inr true, .inr true, .inl 52, .inl 53])) := rfl
theorem p_X11_274 : pb_fp 51 2 (.inr true) .int RX11 274 := ⟨4, _, RX4, TX4, 6, tyX4, h_51, rfl, rfl, by decide, u_X4, Or.inr ⟨_, m_2_136⟩, tyX4_ok, nmX4, rfl, rfl⟩
theorem m_5_120 : Cond.code yX11_rules cX11_rules 4 (some .boolean) ∈ pb_tbl := pb_tm5 (i := 120) rfl rfl
theorem m_2_67 : Cond.fieldLink RX7 32 "PennyBooks$Sundries" "ledger" "LPennyBooks$Ledger;" ∈ pb_tbl := pb_tm2 (i := 67) rfl rfl
theorem g_X7_32 : pb_fd 39 0 (.inl 5) RX7 32 := ⟨7, _, RX7, TX7, 10, h_39, rfl, rfl, by decide, u_X7, Or.inl m_2_67⟩
theorem m_5_133 : Cond.methodLink RX7 40 yX1_went ∈ pb_tbl := pb_tm5 (i := 133) rfl rfl
theorem q_X7_40 : pb_ci RX7 40 yX1_went 1 := ⟨Or.inl m_5_133, m_5_30, m_5_31, m_1_3, by decide +kernel, by decide +kernel, by decide +kernel⟩
theorem m_1_94 : Cond.fieldLinkNest RX7 46 "PennyBooks$Ledger" "penceOf" "[I" "PennyBooks" ∈ pb_nests := pb_nm1 (i := 94) rfl rfl
theorem g_X7_46 : pb_fd 5 12 (.inl 16) RX7 46 := ⟨1, _, RX1, TX1, 20, h_5, rfl, rfl, by decide, u_X1, Or.inr ⟨_, m_1_94⟩⟩
theorem m_2_68 : Cond.fieldLink RX7 36 "PennyBooks$Sundries" "judge" "LPennyBooks$Judge;" ∈ pb_tbl := pb_tm2 (i := 68) rfl rfl
theorem g_X7_36 : pb_fd 39 1 (.inl 25) RX7 36 := ⟨7, _, RX7, TX7, 10, h_39, rfl, rfl, by decide, u_X7, Or.inl m_2_68⟩
theorem m_5_134 : Cond.methodLink RX7 49 yX0_kindOf ∈ pb_tbl := pb_tm5 (i := 134) rfl rfl
theorem q_X7_49 : pb_ci RX7 49 yX0_kindOf 2 := ⟨Or.inl m_5_134, m_4_236, m_4_237, m_1_5, by decide +kernel, by decide +kernel, by decide +kernel⟩
theorem m_5_132 : Cond.code yX7_isSundries cX7_isSundries 3 (some .boolean) ∈ pb_tbl := pb_tm5 (i := 132) rfl rfl
theorem m_5_129 : Cond.methodLink RX11 290 yX7_isSundries ∈ pb_tbl := pb_tm5 (i := 129) rfl rfl
theorem m_5_130 : Cond.instanceMethod yX7_isSundries ∈ pb_tbl := pb_tm5 (i := 130) rfl rfl
theorem m_5_131 : Cond.selects RX7 yX7_isSundries yX7_isSundries ∈ pb_tbl := pb_tm5 (i := 131) rfl rfl
theorem m_1_7 : Cond.initialized RX7 ∈ pb_tbl := pb_tm1 (i := 7) rfl rfl
theorem q_X11_290 : pb_ci RX11 290 yX7_isSundries 2 := ⟨Or.inl m_5_129, m_5_130, m_5_131, m_1_7, by decide +kernel, by decide +kernel, by decide +kernel⟩
theorem m_5_128 : Cond.code yX11_sundriesStatus cX11_sundriesStatus 3 (some .int) ∈ pb_tbl := pb_tm5 (i := 128) rfl rfl
theorem h_40 : pb_sh[40]? = some (.inl (0, 16)) := rfl
theorem m_5_145 : Cond.code yJ7_fill_53178 cJ7_fill_53178 4 none ∈ pb_tbl := pb_tm5 (i := 145) rfl rfl
theorem h_42 : pb_sh[42]? = some (.inl (0, 16)) := rfl
theorem h_43 : pb_sh[43]? = some (.inl (0, 1936)) := rfl
theorem m_5_152 : Cond.code yX1_wentFrom cX1_wentFrom 3 (some .boolean) ∈ pb_tbl := pb_tm5 (i := 152) rfl rfl
theorem m_1_80 : Cond.fieldLinkNest RX7 77 "PennyBooks$Ledger" "weekOf" "[I" "PennyBooks" ∈ pb_nests := pb_nm1 (i := 80) rfl rfl
theorem g_X7_77 : pb_fd 5 5 (.inl 9) RX7 77 := ⟨1, _, RX1, TX1, 20, h_5, rfl, rfl, by decide, u_X1, Or.inr ⟨_, m_1_80⟩⟩
theorem m_5_146 : Cond.methodLink RX7 80 Lib.Math.abs.name ∈ pb_tbl := pb_tm5 (i := 146) rfl rfl
theorem m_5_147 : Cond.static Lib.Math.abs.name ∈ pb_tbl := pb_tm5 (i := 147) rfl rfl
theorem mm_mabs : Cond.static Lib.Math.abs.name ∈ pb_tbl ∧ Cond.initialized "java/lang/Math" ∈ pb_tbl ∧ Cond.code Lib.Math.abs.name Lib.Math.abs.code 1 (some .int) ∈ pb_tbl := ⟨m_5_147, m_1_16, pb_tm5 (i := 148) rfl rfl⟩
theorem m_5_163 : Cond.code yX7_isNearer cX7_isNearer 7 (some .boolean) ∈ pb_tbl := pb_tm5 (i := 163) rfl rfl
theorem m_5_157 : Cond.methodLink RX7 97 yX0_unitsOf ∈ pb_tbl := pb_tm5 (i := 157) rfl rfl
theorem q_X7_97 : pb_ci RX7 97 yX0_unitsOf 2 := ⟨Or.inl m_5_157, m_5_0, m_5_1, m_1_5, by decide +kernel, by decide +kernel, by decide +kernel⟩
theorem m_2_74 : Cond.fieldLink RX7 25 "PennyBooks$Sundries" "unitsByWeek" "[I" ∈ pb_tbl := pb_tm2 (i := 74) rfl rfl
theorem g_X7_25 : pb_fd 39 6 (.inl 43) RX7 25 := ⟨7, _, RX7, TX7, 10, h_39, rfl, rfl, by decide, u_X7, Or.inl m_2_74⟩
theorem m_2_73 : Cond.fieldLink RX7 22 "PennyBooks$Sundries" "most" "[I" ∈ pb_tbl := pb_tm2 (i := 73) rfl rfl
theorem g_X7_22 : pb_fd 39 5 (.inl 42) RX7 22 := ⟨7, _, RX7, TX7, 10, h_39, rfl, rfl, by decide, u_X7, Or.inl m_2_73⟩
theorem m_5_158 : Cond.methodLink RX7 100 Lib.Math.max.name ∈ pb_tbl := pb_tm5 (i := 158) rfl rfl
theorem m_5_159 : Cond.methodLink RX7 103 Lib.Math.min.name ∈ pb_tbl := pb_tm5 (i := 159) rfl rfl
theorem m_2_71 : Cond.fieldLink RX7 15 "PennyBooks$Sundries" "nearestLine" "[I" ∈ pb_tbl := pb_tm2 (i := 71) rfl rfl
theorem g_X7_15 : pb_fd 39 3 (.inl 40) RX7 15 := ⟨7, _, RX7, TX7, 10, h_39, rfl, rfl, by decide, u_X7, Or.inl m_2_71⟩
theorem m_5_160 : Cond.methodLink RX7 106 yX7_isNearer ∈ pb_tbl := pb_tm5 (i := 160) rfl rfl
theorem m_5_162 : Cond.instanceMethod yX7_isNearer ∈ pb_tbl := pb_tm5 (i := 162) rfl rfl
theorem ms_X7_isNearer : Cond.selects yX7_isNearer.cls yX7_isNearer yX7_isNearer ∈ pb_tbl := pb_ps3 (i := 8) (q := (yX7_isNearer, 10)) rfl
theorem q_X7_106 : pb_ci RX7 106 yX7_isNearer 3 := ⟨Or.inl m_5_160, m_5_162, ms_X7_isNearer, m_1_7, by decide +kernel, by decide +kernel, by decide +kernel⟩
theorem m_2_72 : Cond.fieldLink RX7 19 "PennyBooks$Sundries" "prices" "[I" ∈ pb_tbl := pb_tm2 (i := 72) rfl rfl
theorem g_X7_19 : pb_fd 39 4 (.inl 41) RX7 19 := ⟨7, _, RX7, TX7, 10, h_39, rfl, rfl, by decide, u_X7, Or.inl m_2_72⟩
theorem h_41 : pb_sh[41]? = some (.inl (0, 16)) := rfl
theorem m_5_156 : Cond.code yX7_addThing cX7_addThing 7 none ∈ pb_tbl := pb_tm5 (i := 156) rfl rfl
theorem m_5_143 : Cond.methodLink RX7 68 yJ7_fill_53178 ∈ pb_tbl := pb_tm5 (i := 143) rfl rfl
theorem m_5_144 : Cond.static yJ7_fill_53178 ∈ pb_tbl := pb_tm5 (i := 144) rfl rfl
theorem q_X7_68 : pb_cs RX7 68 yJ7_fill_53178 2 := ⟨Or.inl m_5_143, m_5_144, m_1_14, by decide +kernel, by decide +kernel, by decide +kernel⟩
theorem m_1_68 : Cond.fieldLinkNest RX7 74 "PennyBooks$Ledger" "lines" "I" "PennyBooks" ∈ pb_nests := pb_nm1 (i := 68) rfl rfl
theorem g_X7_74 : pb_fd 5 3 (.inr true) RX7 74 := ⟨1, _, RX1, TX1, 20, h_5, rfl, rfl, by decide, u_X1, Or.inr ⟨_, m_1_68⟩⟩
theorem m_2_69 : Cond.fieldLink RX7 11 "PennyBooks$Sundries" "near" "I" ∈ pb_tbl := pb_tm2 (i := 69) rfl rfl
theorem g_X7_11 : pb_fd 39 2 (.inr true) RX7 11 := ⟨7, _, RX7, TX7, 10, h_39, rfl, rfl, by decide, u_X7, Or.inl m_2_69⟩
theorem m_1_75 : Cond.fieldLinkNest RX7 86 "PennyBooks$Ledger" "familyOf" "[I" "PennyBooks" ∈ pb_nests := pb_nm1 (i := 75) rfl rfl
theorem g_X7_86 : pb_fd 5 4 (.inl 8) RX7 86 := ⟨1, _, RX1, TX1, 20, h_5, rfl, rfl, by decide, u_X1, Or.inr ⟨_, m_1_75⟩⟩
theorem m_5_149 : Cond.methodLink RX7 89 yX1_wentFrom ∈ pb_tbl := pb_tm5 (i := 149) rfl rfl
theorem m_5_150 : Cond.instanceMethod yX1_wentFrom ∈ pb_tbl := pb_tm5 (i := 150) rfl rfl
theorem m_5_151 : Cond.selects RX1 yX1_wentFrom yX1_wentFrom ∈ pb_tbl := pb_tm5 (i := 151) rfl rfl
theorem q_X7_89 : pb_ci RX7 89 yX1_wentFrom 2 := ⟨Or.inl m_5_149, m_5_150, m_5_151, m_1_3, by decide +kernel, by decide +kernel, by decide +kernel⟩
theorem m_5_153 : Cond.methodLink RX7 93 yX7_addThing ∈ pb_tbl := pb_tm5 (i := 153) rfl rfl
theorem m_5_155 : Cond.instanceMethod yX7_addThing ∈ pb_tbl := pb_tm5 (i := 155) rfl rfl
theorem ms_X7_addThing : Cond.selects yX7_addThing.cls yX7_addThing yX7_addThing ∈ pb_tbl := pb_ps3 (i := 7) (q := (yX7_addThing, 10)) rfl
theorem q_X7_93 : pb_ci RX7 93 yX7_addThing 3 := ⟨Or.inl m_5_153, m_5_155, ms_X7_addThing, m_1_7, by decide +kernel, by decide +kernel, by decide +kernel⟩
theorem m_5_142 : Cond.code yX7_gatherThings cX7_gatherThings 6 none ∈ pb_tbl := pb_tm5 (i := 142) rfl rfl
theorem h_44 : pb_sh[44]? = some (.inl (3, 2001)) := rfl
theorem m_5_170 : Cond.code yJ7_fill_d0a16 cJ7_fill_d0a16 5 none ∈ pb_tbl := pb_tm5 (i := 170) rfl rfl
theorem m_2_75 : Cond.fieldLink RX7 28 "PennyBooks$Sundries" "waysTo" "[J" ∈ pb_tbl := pb_tm2 (i := 75) rfl rfl
theorem g_X7_28 : pb_fd 39 7 (.inl 44) RX7 28 := ⟨7, _, RX7, TX7, 10, h_39, rfl, rfl, by decide, u_X7, Or.inl m_2_75⟩
theorem m_5_174 : Cond.code yX7_addAnyNumber cX7_addAnyNumber 4 none ∈ pb_tbl := pb_tm5 (i := 174) rfl rfl
theorem m_5_178 : Cond.code yX7_takeThoseAbove cX7_takeThoseAbove 4 none ∈ pb_tbl := pb_tm5 (i := 178) rfl rfl
theorem m_5_168 : Cond.methodLink RX7 110 yJ7_fill_d0a16 ∈ pb_tbl := pb_tm5 (i := 168) rfl rfl
theorem m_5_169 : Cond.static yJ7_fill_d0a16 ∈ pb_tbl := pb_tm5 (i := 169) rfl rfl
theorem q_X7_110 : pb_cs RX7 110 yJ7_fill_d0a16 2 := ⟨Or.inl m_5_168, m_5_169, m_1_14, by decide +kernel, by decide +kernel, by decide +kernel⟩
theorem m_5_171 : Cond.methodLink RX7 113 yX7_addAnyNumber ∈ pb_tbl := pb_tm5 (i := 171) rfl rfl
theorem m_5_173 : Cond.instanceMethod yX7_addAnyNumber ∈ pb_tbl := pb_tm5 (i := 173) rfl rfl
theorem ms_X7_addAnyNumber : Cond.selects yX7_addAnyNumber.cls yX7_addAnyNumber yX7_addAnyNumber ∈ pb_tbl := pb_ps3 (i := 10) (q := (yX7_addAnyNumber, 10)) rfl
theorem q_X7_113 : pb_ci RX7 113 yX7_addAnyNumber 2 := ⟨Or.inl m_5_171, m_5_173, ms_X7_addAnyNumber, m_1_7, by decide +kernel, by decide +kernel, by decide +kernel⟩
theorem m_5_175 : Cond.methodLink RX7 116 yX7_takeThoseAbove ∈ pb_tbl := pb_tm5 (i := 175) rfl rfl
theorem m_5_177 : Cond.instanceMethod yX7_takeThoseAbove ∈ pb_tbl := pb_tm5 (i := 177) rfl rfl
theorem ms_X7_takeThoseAbove : Cond.selects yX7_takeThoseAbove.cls yX7_takeThoseAbove yX7_takeThoseAbove ∈ pb_tbl := pb_ps3 (i := 11) (q := (yX7_takeThoseAbove, 10)) rfl
theorem q_X7_116 : pb_ci RX7 116 yX7_takeThoseAbove 2 := ⟨Or.inl m_5_175, m_5_177, ms_X7_takeThoseAbove, m_1_7, by decide +kernel, by decide +kernel, by decide +kernel⟩
theorem m_5_167 : Cond.code yX7_countWays cX7_countWays 4 none ∈ pb_tbl := pb_tm5 (i := 167) rfl rfl
theorem m_5_139 : Cond.methodLink RX7 55 yX7_gatherThings ∈ pb_tbl := pb_tm5 (i := 139) rfl rfl
theorem m_5_141 : Cond.instanceMethod yX7_gatherThings ∈ pb_tbl := pb_tm5 (i := 141) rfl rfl
theorem ms_X7_gatherThings : Cond.selects yX7_gatherThings.cls yX7_gatherThings yX7_gatherThings ∈ pb_tbl := pb_ps3 (i := 6) (q := (yX7_gatherThings, 10)) rfl
theorem q_X7_55 : pb_ci RX7 55 yX7_gatherThings 2 := ⟨Or.inl m_5_139, m_5_141, ms_X7_gatherThings, m_1_7, by decide +kernel, by decide +kernel, by decide +kernel⟩
theorem m_5_164 : Cond.methodLink RX7 59 yX7_countWays ∈ pb_tbl := pb_tm5 (i := 164) rfl rfl
theorem m_5_166 : Cond.instanceMethod yX7_countWays ∈ pb_tbl := pb_tm5 (i := 166) rfl rfl
theorem ms_X7_countWays : Cond.selects yX7_countWays.cls yX7_countWays yX7_countWays ∈ pb_tbl := pb_ps3 (i := 9) (q := (yX7_countWays, 10)) rfl
theorem q_X7_59 : pb_ci RX7 59 yX7_countWays 2 := ⟨Or.inl m_5_164, m_5_166, ms_X7_countWays, m_1_7, by decide +kernel, by decide +kernel, by decide +kernel⟩
theorem m_5_138 : Cond.code yX7_waysOf cX7_waysOf 3 (some .long) ∈ pb_tbl := pb_tm5 (i := 138) rfl rfl
theorem m_5_125 : Cond.methodLink RX11 277 yX11_sundriesStatus ∈ pb_tbl := pb_tm5 (i := 125) rfl rfl
theorem m_5_127 : Cond.instanceMethod yX11_sundriesStatus ∈ pb_tbl := pb_tm5 (i := 127) rfl rfl
theorem ms_X11_sundriesStatus : Cond.selects yX11_sundriesStatus.cls yX11_sundriesStatus yX11_sundriesStatus ∈ pb_tbl := pb_ps3 (i := 5) (q := (yX11_sundriesStatus, 14)) rfl
theorem q_X11_277 : pb_ci RX11 277 yX11_sundriesStatus 2 := ⟨Or.inl m_5_125, m_5_127, ms_X11_sundriesStatus, m_1_1, by decide +kernel, by decide +kernel, by decide +kernel⟩
theorem m_5_135 : Cond.methodLink RX11 280 yX7_waysOf ∈ pb_tbl := pb_tm5 (i := 135) rfl rfl
theorem m_5_136 : Cond.instanceMethod yX7_waysOf ∈ pb_tbl := pb_tm5 (i := 136) rfl rfl
theorem m_5_137 : Cond.selects RX7 yX7_waysOf yX7_waysOf ∈ pb_tbl := pb_tm5 (i := 137) rfl rfl
theorem q_X11_280 : pb_ci RX11 280 yX7_waysOf 2 := ⟨Or.inl m_5_135, m_5_136, m_5_137, m_1_7, by decide +kernel, by decide +kernel, by decide +kernel⟩
theorem m_5_124 : Cond.code yX11_ways cX11_ways 3 (some .long) ∈ pb_tbl := pb_tm5 (i := 124) rfl rfl
theorem m_2_76 : Cond.fieldLink RX7 62 "PennyBooks$Sundries" "fewest" "I" ∈ pb_tbl := pb_tm2 (i := 76) rfl rfl
theorem p_X7_62 : pb_fp 39 8 (.inr true) .int RX7 62 := ⟨7, _, RX7, TX7, 10, tyX7, h_39, rfl, rfl, by decide, u_X7, Or.inl m_2_76, tyX7_ok, nmX7, rfl, rfl⟩
theorem g_X7_62 : pb_fd 39 8 (.inr true) RX7 62 := ⟨7, _, RX7, TX7, 10, h_39, rfl, rfl, by decide, u_X7, Or.inl m_2_76⟩
theorem m_2_78 : Cond.fieldLink RX7 65 "PennyBooks$Sundries" "greatest" "I" ∈ pb_tbl := pb_tm2 (i := 78) rfl rfl
theorem p_X7_65 : pb_fp 39 9 (.inr true) .int RX7 65 := ⟨7, _, RX7, TX7, 10, tyX7, h_39, rfl, rfl, by decide, u_X7, Or.inl m_2_78, tyX7_ok, nmX7, rfl, rfl⟩
theorem m_5_186 : Cond.code yX7_findSpan cX7_findSpan 6 (some .boolean) ∈ pb_tbl := pb_tm5 (i := 186) rfl rfl
theorem m_5_183 : Cond.methodLink RX11 283 yX7_findSpan ∈ pb_tbl := pb_tm5 (i := 183) rfl rfl
theorem m_5_184 : Cond.instanceMethod yX7_findSpan ∈ pb_tbl := pb_tm5 (i := 184) rfl rfl
theorem m_5_185 : Cond.selects RX7 yX7_findSpan yX7_findSpan ∈ pb_tbl := pb_tm5 (i := 185) rfl rfl
theorem q_X11_283 : pb_ci RX11 283 yX7_findSpan 3 := ⟨Or.inl m_5_183, m_5_184, m_5_185, m_1_7, by decide +kernel, by decide +kernel, by decide +kernel⟩
theorem m_2_79 : Cond.fieldLinkNest RX11 287 "PennyBooks$Sundries" "greatest" "I" "PennyBooks" ∈ pb_nests := pb_nm2 (i := 79) rfl rfl
theorem g_X11_287 : pb_fd 39 9 (.inr true) RX11 287 := ⟨7, _, RX7, TX7, 10, h_39, rfl, rfl, by decide, u_X7, Or.inr ⟨_, m_2_79⟩⟩
theorem m_2_77 : Cond.fieldLinkNest RX11 286 "PennyBooks$Sundries" "fewest" "I" "PennyBooks" ∈ pb_nests := pb_nm2 (i := 77) rfl rfl
theorem g_X11_286 : pb_fd 39 8 (.inr true) RX11 286 := ⟨7, _, RX7, TX7, 10, h_39, rfl, rfl, by decide, u_X7, Or.inr ⟨_, m_2_77⟩⟩
theorem m_5_182 : Cond.code yX11_span cX11_span 6 (some .int) ∈ pb_tbl := pb_tm5 (i := 182) rfl rfl
theorem m_2_109 : Cond.fieldLink RX3 11 "PennyBooks$Mouths" "familyOf" "[I" ∈ pb_tbl := pb_tm2 (i := 109) rfl rfl
theorem m_2_114 : Cond.lays RX3 "PennyBooks$Mouths" "members" "I" ∈ pb_tbl := pb_tm2 (i := 114) rfl rfl
theorem m_2_116 : Cond.laysFinal RX3 "PennyBooks$Mouths" "familyOf" "[I" ∈ pb_tbl := pb_tm2 (i := 116) rfl rfl
theorem m_2_118 : Cond.laysFinal RX3 "PennyBooks$Mouths" "bornIn" "[I" ∈ pb_tbl := pb_tm2 (i := 118) rfl rfl
theorem m_2_120 : Cond.laysFinal RX3 "PennyBooks$Mouths" "thereFrom" "[I" ∈ pb_tbl := pb_tm2 (i := 120) rfl rfl
theorem m_2_122 : Cond.laysFinal RX3 "PennyBooks$Mouths" "thereTo" "[I" ∈ pb_tbl := pb_tm2 (i := 122) rfl rfl
theorem m_2_124 : Cond.laysFinal RX3 "PennyBooks$Mouths" "hundredths" "[I" ∈ pb_tbl := pb_tm2 (i := 124) rfl rfl
theorem u_X3 : ∀ w ∈ u_ws RX3 TX3 6, w ∈ pb_tbl := by
  intro w hw
  obtain ⟨k, hk, rfl⟩ := List.mem_map.mp hw
  have hk := List.mem_range.mp hk
  match k, hk with
  | 0, _ => exact m_2_114
  | 1, _ => exact m_2_116
  | 2, _ => exact m_2_118
  | 3, _ => exact m_2_120
  | 4, _ => exact m_2_122
  | 5, _ => exact m_2_124
  | j + 6, h => omega
theorem h_45 : pb_sh[45]? = some (.inr (3, [.inr true, .inl 46, .inl 47, .inl 48, .inl 49, .inl 50])) := rfl
theorem g_X3_11 : pb_fd 45 1 (.inl 46) RX3 11 := ⟨3, _, RX3, TX3, 6, h_45, rfl, rfl, by decide, u_X3, Or.inl m_2_109⟩
theorem m_2_107 : Cond.fieldLink RX3 27 "PennyBooks$Mouths" "members" "I" ∈ pb_tbl := pb_tm2 (i := 107) rfl rfl
theorem g_X3_27 : pb_fd 45 0 (.inr true) RX3 27 := ⟨3, _, RX3, TX3, 6, h_45, rfl, rfl, by decide, u_X3, Or.inl m_2_107⟩
theorem h_46 : pb_sh[46]? = some (.inl (0, 40)) := rfl
theorem m_2_110 : Cond.fieldLink RX3 15 "PennyBooks$Mouths" "bornIn" "[I" ∈ pb_tbl := pb_tm2 (i := 110) rfl rfl
theorem g_X3_15 : pb_fd 45 2 (.inl 47) RX3 15 := ⟨3, _, RX3, TX3, 6, h_45, rfl, rfl, by decide, u_X3, Or.inl m_2_110⟩
theorem h_47 : pb_sh[47]? = some (.inl (0, 40)) := rfl
theorem m_2_111 : Cond.fieldLink RX3 18 "PennyBooks$Mouths" "thereFrom" "[I" ∈ pb_tbl := pb_tm2 (i := 111) rfl rfl
theorem g_X3_18 : pb_fd 45 3 (.inl 48) RX3 18 := ⟨3, _, RX3, TX3, 6, h_45, rfl, rfl, by decide, u_X3, Or.inl m_2_111⟩
theorem h_48 : pb_sh[48]? = some (.inl (0, 40)) := rfl
theorem m_2_112 : Cond.fieldLink RX3 21 "PennyBooks$Mouths" "thereTo" "[I" ∈ pb_tbl := pb_tm2 (i := 112) rfl rfl
theorem g_X3_21 : pb_fd 45 4 (.inl 49) RX3 21 := ⟨3, _, RX3, TX3, 6, h_45, rfl, rfl, by decide, u_X3, Or.inl m_2_112⟩
theorem h_49 : pb_sh[49]? = some (.inl (0, 40)) := rfl
theorem p_X3_27 : pb_fp 45 0 (.inr true) .int RX3 27 := ⟨3, _, RX3, TX3, 6, tyX3, h_45, rfl, rfl, by decide, u_X3, Or.inl m_2_107, tyX3_ok, nmX3, rfl, rfl⟩
theorem m_5_194 : Cond.code yX3_addMember cX3_addMember 5 none ∈ pb_tbl := pb_tm5 (i := 194) rfl rfl
theorem m_3_9 : Cond.fieldLink RX11 69 "PennyBooks" "mouths" "LPennyBooks$Mouths;" ∈ pb_tbl := pb_tm3 (i := 9) rfl rfl
theorem g_X11_69 : pb_fd 0 9 (.inl 45) RX11 69 := ⟨11, _, RX11, TX11, 14, h_0, rfl, rfl, by decide, u_X11, Or.inl m_3_9⟩
theorem m_2_108 : Cond.fieldLinkNest RX11 296 "PennyBooks$Mouths" "members" "I" "PennyBooks" ∈ pb_nests := pb_nm2 (i := 108) rfl rfl
theorem g_X11_296 : pb_fd 45 0 (.inr true) RX11 296 := ⟨3, _, RX3, TX3, 6, h_45, rfl, rfl, by decide, u_X3, Or.inr ⟨_, m_2_108⟩⟩
theorem m_5_191 : Cond.methodLink RX11 299 yX3_addMember ∈ pb_tbl := pb_tm5 (i := 191) rfl rfl
theorem m_5_192 : Cond.instanceMethod yX3_addMember ∈ pb_tbl := pb_tm5 (i := 192) rfl rfl
theorem m_5_193 : Cond.selects RX3 yX3_addMember yX3_addMember ∈ pb_tbl := pb_tm5 (i := 193) rfl rfl
theorem m_1_8 : Cond.initialized RX3 ∈ pb_tbl := pb_tm1 (i := 8) rfl rfl
theorem q_X11_299 : pb_ci RX11 299 yX3_addMember 4 := ⟨Or.inl m_5_191, m_5_192, m_5_193, m_1_8, by decide +kernel, by decide +kernel, by decide +kernel⟩
theorem m_5_190 : Cond.code yX11_member cX11_member 6 (some .boolean) ∈ pb_tbl := pb_tm5 (i := 190) rfl rfl
theorem m_2_113 : Cond.fieldLink RX3 24 "PennyBooks$Mouths" "hundredths" "[I" ∈ pb_tbl := pb_tm2 (i := 113) rfl rfl
theorem g_X3_24 : pb_fd 45 5 (.inl 50) RX3 24 := ⟨3, _, RX3, TX3, 6, h_45, rfl, rfl, by decide, u_X3, Or.inl m_2_113⟩
theorem h_50 : pb_sh[50]? = some (.inl (0, 4)) := rfl
theorem m_5_202 : Cond.code yX3_rescale cX3_rescale 5 none ∈ pb_tbl := pb_tm5 (i := 202) rfl rfl
theorem m_5_199 : Cond.methodLink RX11 303 yX3_rescale ∈ pb_tbl := pb_tm5 (i := 199) rfl rfl
theorem m_5_200 : Cond.instanceMethod yX3_rescale ∈ pb_tbl := pb_tm5 (i := 200) rfl rfl
theorem m_5_201 : Cond.selects RX3 yX3_rescale yX3_rescale ∈ pb_tbl := pb_tm5 (i := 201) rfl rfl
theorem q_X11_303 : pb_ci RX11 303 yX3_rescale 4 := ⟨Or.inl m_5_199, m_5_200, m_5_201, m_1_8, by decide +kernel, by decide +kernel, by decide +kernel⟩
theorem m_5_198 : Cond.code yX11_scale cX11_scale 6 (some .boolean) ∈ pb_tbl := pb_tm5 (i := 198) rfl rfl
theorem m_5_211 : Cond.methodLink RX3 31 Lib.Math.max.name ∈ pb_tbl := pb_tm5 (i := 211) rfl rfl
theorem m_5_212 : Cond.methodLink RX3 37 Lib.Math.min.name ∈ pb_tbl := pb_tm5 (i := 212) rfl rfl
theorem m_5_210 : Cond.code yX3_together cX3_together 6 (some .int) ∈ pb_tbl := pb_tm5 (i := 210) rfl rfl
theorem m_5_207 : Cond.methodLink RX11 306 yX3_together ∈ pb_tbl := pb_tm5 (i := 207) rfl rfl
theorem m_5_208 : Cond.instanceMethod yX3_together ∈ pb_tbl := pb_tm5 (i := 208) rfl rfl
theorem m_5_209 : Cond.selects RX3 yX3_together yX3_together ∈ pb_tbl := pb_tm5 (i := 209) rfl rfl
theorem q_X11_306 : pb_ci RX11 306 yX3_together 2 := ⟨Or.inl m_5_207, m_5_208, m_5_209, m_1_8, by decide +kernel, by decide +kernel, by decide +kernel⟩
theorem m_5_206 : Cond.code yX11_mouths cX11_mouths 3 (some .int) ∈ pb_tbl := pb_tm5 (i := 206) rfl rfl
theorem m_5_227 : Cond.code yX11_commonDivisor cX11_commonDivisor 11 (some .long) ∈ pb_tbl := pb_tm5 (i := 227) rfl rfl
theorem m_5_222 : Cond.methodLink RX11 377 Lib.MathLoose.abs_long.x ∈ pb_tbl := pb_tm5 (i := 222) rfl rfl
theorem m_5_223 : Cond.static Lib.MathLoose.abs_long.x ∈ pb_tbl := pb_tm5 (i := 223) rfl rfl
theorem mm_mabsL : Cond.static Lib.MathLoose.abs_long.x ∈ pb_tbl ∧ Cond.initialized "java/lang/Math" ∈ pb_tbl ∧ Cond.code Lib.MathLoose.abs_long.x Lib.MathLoose.abs_long.code 2 (some .long) ∈ pb_tbl := ⟨m_5_223, m_1_16, pb_tm5 (i := 224) rfl rfl⟩
theorem m_5_225 : Cond.methodLink RX11 383 yX11_commonDivisor ∈ pb_tbl := pb_tm5 (i := 225) rfl rfl
theorem m_5_226 : Cond.static yX11_commonDivisor ∈ pb_tbl := pb_tm5 (i := 226) rfl rfl
theorem q_X11_383 : pb_cs RX11 383 yX11_commonDivisor 2 := ⟨Or.inl m_5_225, m_5_226, m_1_1, by decide +kernel, by decide +kernel, by decide +kernel⟩
theorem m_5_228 : Cond.methodLink RX11 387 Lib.MathLoose.max_long.x ∈ pb_tbl := pb_tm5 (i := 228) rfl rfl
theorem p_X11_13 : pb_fp 0 1 (.inr false) .long RX11 13 := ⟨11, _, RX11, TX11, 14, tyX11, h_0, rfl, rfl, by decide, u_X11, Or.inl m_3_1, tyX11_ok, nmX11, rfl, rfl⟩
theorem p_X11_17 : pb_fp 0 2 (.inr false) .long RX11 17 := ⟨11, _, RX11, TX11, 14, tyX11, h_0, rfl, rfl, by decide, u_X11, Or.inl m_3_2, tyX11_ok, nmX11, rfl, rfl⟩
theorem m_5_221 : Cond.code yX11_tellFraction cX11_tellFraction 7 (some .int) ∈ pb_tbl := pb_tm5 (i := 221) rfl rfl
theorem m_5_217 : Cond.constantLong RX11 309 (100) ∈ pb_tbl := pb_tm5 (i := 217) rfl rfl
theorem m_5_218 : Cond.methodLink RX11 311 yX11_tellFraction ∈ pb_tbl := pb_tm5 (i := 218) rfl rfl
theorem m_5_220 : Cond.instanceMethod yX11_tellFraction ∈ pb_tbl := pb_tm5 (i := 220) rfl rfl
theorem ms_X11_tellFraction : Cond.selects yX11_tellFraction.cls yX11_tellFraction yX11_tellFraction ∈ pb_tbl := pb_ps3 (i := 12) (q := (yX11_tellFraction, 14)) rfl
theorem q_X11_311 : pb_ci RX11 311 yX11_tellFraction 2 := ⟨Or.inl m_5_218, m_5_220, ms_X11_tellFraction, m_1_1, by decide +kernel, by decide +kernel, by decide +kernel⟩
theorem m_5_216 : Cond.code yX11_share cX11_share 5 (some .int) ∈ pb_tbl := pb_tm5 (i := 216) rfl rfl
theorem m_2_137 : Cond.fieldLink RX4 30 "PennyBooks$Prices" "many" "I" ∈ pb_tbl := pb_tm2 (i := 137) rfl rfl
theorem g_X4_30 : pb_fd 51 3 (.inr true) RX4 30 := ⟨4, _, RX4, TX4, 6, h_51, rfl, rfl, by decide, u_X4, Or.inl m_2_137⟩
theorem m_2_140 : Cond.fieldLink RX4 19 "PennyBooks$Prices" "units" "[I" ∈ pb_tbl := pb_tm2 (i := 140) rfl rfl
theorem g_X4_19 : pb_fd 51 5 (.inl 53) RX4 19 := ⟨4, _, RX4, TX4, 6, h_51, rfl, rfl, by decide, u_X4, Or.inl m_2_140⟩
theorem h_53 : pb_sh[53]? = some (.inl (0, 200)) := rfl
theorem m_2_138 : Cond.fieldLink RX4 15 "PennyBooks$Prices" "pence" "[I" ∈ pb_tbl := pb_tm2 (i := 138) rfl rfl
theorem g_X4_15 : pb_fd 51 4 (.inl 52) RX4 15 := ⟨4, _, RX4, TX4, 6, h_51, rfl, rfl, by decide, u_X4, Or.inl m_2_138⟩
theorem h_52 : pb_sh[52]? = some (.inl (0, 200)) := rfl
theorem p_X4_30 : pb_fp 51 3 (.inr true) .int RX4 30 := ⟨4, _, RX4, TX4, 6, tyX4, h_51, rfl, rfl, by decide, u_X4, Or.inl m_2_137, tyX4_ok, nmX4, rfl, rfl⟩
theorem m_6_3 : Cond.code yX4_insert cX4_insert 4 none ∈ pb_tbl := pb_tm6 (i := 3) rfl rfl
theorem m_6_7 : Cond.constant RJ6 265 (1431655765) ∈ pb_tbl := pb_tm6 (i := 7) rfl rfl
theorem m_6_8 : Cond.constant RJ6 266 (858993459) ∈ pb_tbl := pb_tm6 (i := 8) rfl rfl
theorem m_6_9 : Cond.constant RJ6 267 (252645135) ∈ pb_tbl := pb_tm6 (i := 9) rfl rfl
theorem m_6_6 : Cond.code yJ6_bitCount_0f7a4 cJ6_bitCount_0f7a4 1 (some .int) ∈ pb_tbl := pb_tm6 (i := 6) rfl rfl
theorem m_2_133 : Cond.fieldLink RX4 22 "PennyBooks$Prices" "ledger" "LPennyBooks$Ledger;" ∈ pb_tbl := pb_tm2 (i := 133) rfl rfl
theorem g_X4_22 : pb_fd 51 0 (.inl 5) RX4 22 := ⟨4, _, RX4, TX4, 6, h_51, rfl, rfl, by decide, u_X4, Or.inl m_2_133⟩
theorem m_1_64 : Cond.fieldLinkNest RX4 33 "PennyBooks$Ledger" "lines" "I" "PennyBooks" ∈ pb_nests := pb_nm1 (i := 64) rfl rfl
theorem g_X4_33 : pb_fd 5 3 (.inr true) RX4 33 := ⟨1, _, RX1, TX1, 20, h_5, rfl, rfl, by decide, u_X1, Or.inr ⟨_, m_1_64⟩⟩
theorem m_6_4 : Cond.methodLink RX4 64 yJ6_bitCount_0f7a4 ∈ pb_tbl := pb_tm6 (i := 4) rfl rfl
theorem m_6_5 : Cond.static yJ6_bitCount_0f7a4 ∈ pb_tbl := pb_tm6 (i := 5) rfl rfl
theorem m_1_22 : Cond.initialized RJ6 ∈ pb_tbl := pb_tm1 (i := 22) rfl rfl
theorem q_X4_64 : pb_cs RX4 64 yJ6_bitCount_0f7a4 1 := ⟨Or.inl m_6_4, m_6_5, m_1_22, by decide +kernel, by decide +kernel, by decide +kernel⟩
theorem m_2_135 : Cond.fieldLink RX4 9 "PennyBooks$Prices" "shut" "I" ∈ pb_tbl := pb_tm2 (i := 135) rfl rfl
theorem g_X4_9 : pb_fd 51 2 (.inr true) RX4 9 := ⟨4, _, RX4, TX4, 6, h_51, rfl, rfl, by decide, u_X4, Or.inl m_2_135⟩
theorem m_1_78 : Cond.fieldLinkNest RX4 38 "PennyBooks$Ledger" "weekOf" "[I" "PennyBooks" ∈ pb_nests := pb_nm1 (i := 78) rfl rfl
theorem g_X4_38 : pb_fd 5 5 (.inl 9) RX4 38 := ⟨1, _, RX1, TX1, 20, h_5, rfl, rfl, by decide, u_X1, Or.inr ⟨_, m_1_78⟩⟩
theorem m_5_237 : Cond.methodLink RX4 41 yX1_went ∈ pb_tbl := pb_tm5 (i := 237) rfl rfl
theorem q_X4_41 : pb_ci RX4 41 yX1_went 1 := ⟨Or.inl m_5_237, m_5_30, m_5_31, m_1_3, by decide +kernel, by decide +kernel, by decide +kernel⟩
theorem m_2_134 : Cond.fieldLink RX4 26 "PennyBooks$Prices" "judge" "LPennyBooks$Judge;" ∈ pb_tbl := pb_tm2 (i := 134) rfl rfl
theorem g_X4_26 : pb_fd 51 1 (.inl 25) RX4 26 := ⟨4, _, RX4, TX4, 6, h_51, rfl, rfl, by decide, u_X4, Or.inl m_2_134⟩
theorem m_5_238 : Cond.methodLink RX4 45 yX0_kindOf ∈ pb_tbl := pb_tm5 (i := 238) rfl rfl
theorem q_X4_45 : pb_ci RX4 45 yX0_kindOf 2 := ⟨Or.inl m_5_238, m_4_236, m_4_237, m_1_5, by decide +kernel, by decide +kernel, by decide +kernel⟩
theorem m_1_95 : Cond.fieldLinkNest RX4 51 "PennyBooks$Ledger" "penceOf" "[I" "PennyBooks" ∈ pb_nests := pb_nm1 (i := 95) rfl rfl
theorem g_X4_51 : pb_fd 5 12 (.inl 16) RX4 51 := ⟨1, _, RX1, TX1, 20, h_5, rfl, rfl, by decide, u_X1, Or.inr ⟨_, m_1_95⟩⟩
theorem m_5_239 : Cond.methodLink RX4 54 yX0_unitsOf ∈ pb_tbl := pb_tm5 (i := 239) rfl rfl
theorem q_X4_54 : pb_ci RX4 54 yX0_unitsOf 2 := ⟨Or.inl m_5_239, m_5_0, m_5_1, m_1_5, by decide +kernel, by decide +kernel, by decide +kernel⟩
theorem m_6_0 : Cond.methodLink RX4 57 yX4_insert ∈ pb_tbl := pb_tm6 (i := 0) rfl rfl
theorem m_6_2 : Cond.instanceMethod yX4_insert ∈ pb_tbl := pb_tm6 (i := 2) rfl rfl
theorem ms_X4_insert : Cond.selects yX4_insert.cls yX4_insert yX4_insert ∈ pb_tbl := pb_ps3 (i := 13) (q := (yX4_insert, 6)) rfl
theorem m_1_9 : Cond.initialized RX4 ∈ pb_tbl := pb_tm1 (i := 9) rfl rfl
theorem q_X4_57 : pb_ci RX4 57 yX4_insert 2 := ⟨Or.inl m_6_0, m_6_2, ms_X4_insert, m_1_9, by decide +kernel, by decide +kernel, by decide +kernel⟩
theorem m_1_74 : Cond.fieldLinkNest RX4 61 "PennyBooks$Ledger" "familyOf" "[I" "PennyBooks" ∈ pb_nests := pb_nm1 (i := 74) rfl rfl
theorem g_X4_61 : pb_fd 5 4 (.inl 8) RX4 61 := ⟨1, _, RX1, TX1, 20, h_5, rfl, rfl, by decide, u_X1, Or.inr ⟨_, m_1_74⟩⟩
theorem m_5_236 : Cond.code yX4_gather cX4_gather 7 (some .int) ∈ pb_tbl := pb_tm5 (i := 236) rfl rfl
theorem m_6_14 : Cond.methodLink RX4 70 Lib.Math.max.name ∈ pb_tbl := pb_tm6 (i := 14) rfl rfl
theorem m_6_13 : Cond.code yX4_placeOf cX4_placeOf 2 (some .int) ∈ pb_tbl := pb_tm6 (i := 13) rfl rfl
theorem m_5_233 : Cond.methodLink RX11 315 yX4_gather ∈ pb_tbl := pb_tm5 (i := 233) rfl rfl
theorem m_5_234 : Cond.instanceMethod yX4_gather ∈ pb_tbl := pb_tm5 (i := 234) rfl rfl
theorem m_5_235 : Cond.selects RX4 yX4_gather yX4_gather ∈ pb_tbl := pb_tm5 (i := 235) rfl rfl
theorem q_X11_315 : pb_ci RX11 315 yX4_gather 3 := ⟨Or.inl m_5_233, m_5_234, m_5_235, m_1_9, by decide +kernel, by decide +kernel, by decide +kernel⟩
theorem m_6_10 : Cond.methodLink RX11 319 yX4_placeOf ∈ pb_tbl := pb_tm6 (i := 10) rfl rfl
theorem m_6_11 : Cond.instanceMethod yX4_placeOf ∈ pb_tbl := pb_tm6 (i := 11) rfl rfl
theorem m_6_12 : Cond.selects RX4 yX4_placeOf yX4_placeOf ∈ pb_tbl := pb_tm6 (i := 12) rfl rfl
theorem q_X11_319 : pb_ci RX11 319 yX4_placeOf 1 := ⟨Or.inl m_6_10, m_6_11, m_6_12, m_1_9, by decide +kernel, by decide +kernel, by decide +kernel⟩
theorem m_2_139 : Cond.fieldLinkNest RX11 322 "PennyBooks$Prices" "pence" "[I" "PennyBooks" ∈ pb_nests := pb_nm2 (i := 139) rfl rfl
theorem g_X11_322 : pb_fd 51 4 (.inl 52) RX11 322 := ⟨4, _, RX4, TX4, 6, h_51, rfl, rfl, by decide, u_X4, Or.inr ⟨_, m_2_139⟩⟩
theorem m_2_141 : Cond.fieldLinkNest RX11 325 "PennyBooks$Prices" "units" "[I" "PennyBooks" ∈ pb_nests := pb_nm2 (i := 141) rfl rfl
theorem g_X11_325 : pb_fd 51 5 (.inl 53) RX11 325 := ⟨4, _, RX4, TX4, 6, h_51, rfl, rfl, by decide, u_X4, Or.inr ⟨_, m_2_141⟩⟩
theorem m_5_232 : Cond.code yX11_price cX11_price 7 (some .int) ∈ pb_tbl := pb_tm5 (i := 232) rfl rfl
theorem h_55 : pb_sh[55]? = some (.inl (0, 8)) := rfl
theorem m_2_162 : Cond.fieldLink RX9 9 "PennyBooks$Weeks" "hands" "[I" ∈ pb_tbl := pb_tm2 (i := 162) rfl rfl
theorem m_2_170 : Cond.laysFinal RX9 "PennyBooks$Weeks" "ledger" "LPennyBooks$Ledger;" ∈ pb_tbl := pb_tm2 (i := 170) rfl rfl
theorem m_2_172 : Cond.laysFinal RX9 "PennyBooks$Weeks" "hands" "[I" ∈ pb_tbl := pb_tm2 (i := 172) rfl rfl
theorem m_2_174 : Cond.laysFinal RX9 "PennyBooks$Weeks" "spentIn" "[I" ∈ pb_tbl := pb_tm2 (i := 174) rfl rfl
theorem m_2_176 : Cond.lays RX9 "PennyBooks$Weeks" "firstWeek" "I" ∈ pb_tbl := pb_tm2 (i := 176) rfl rfl
theorem m_2_178 : Cond.lays RX9 "PennyBooks$Weeks" "lastWeek" "I" ∈ pb_tbl := pb_tm2 (i := 178) rfl rfl
theorem m_2_180 : Cond.lays RX9 "PennyBooks$Weeks" "least" "I" ∈ pb_tbl := pb_tm2 (i := 180) rfl rfl
theorem m_2_182 : Cond.lays RX9 "PennyBooks$Weeks" "greatest" "I" ∈ pb_tbl := pb_tm2 (i := 182) rfl rfl
theorem u_X9 : ∀ w ∈ u_ws RX9 TX9 7, w ∈ pb_tbl := by
  intro w hw
  obtain ⟨k, hk, rfl⟩ := List.mem_map.mp hw
  have hk := List.mem_range.mp hk
  match k, hk with
  | 0, _ => exact m_2_170
  | 1, _ => exact m_2_172
  | 2, _ => exact m_2_174
  | 3, _ => exact m_2_176
  | 4, _ => exact m_2_178
  | 5, _ => exact m_2_180
  | 6, _ => exact m_2_182
  | j + 7, h => omega
theorem h_54 : pb_sh[54]? = some (.inr (9, [.inl 5, .inl 55, .inl 56, .inr true, .inr true, .inr true, .inr true])) := rfl
theorem g_X9_9 : pb_fd 54 1 (.inl 55) RX9 9 := ⟨9, _, RX9, TX9, 7, h_54, rfl, rfl, by decide, u_X9, Or.inl m_2_162⟩
theorem m_6_23 : Cond.methodLink RX9 22 yJ7_fill_53178 ∈ pb_tbl := pb_tm6 (i := 23) rfl rfl
theorem q_X9_22 : pb_cs RX9 22 yJ7_fill_53178 2 := ⟨Or.inl m_6_23, m_5_144, m_1_14, by decide +kernel, by decide +kernel, by decide +kernel⟩
theorem m_2_161 : Cond.fieldLink RX9 18 "PennyBooks$Weeks" "ledger" "LPennyBooks$Ledger;" ∈ pb_tbl := pb_tm2 (i := 161) rfl rfl
theorem g_X9_18 : pb_fd 54 0 (.inl 5) RX9 18 := ⟨9, _, RX9, TX9, 7, h_54, rfl, rfl, by decide, u_X9, Or.inl m_2_161⟩
theorem m_1_65 : Cond.fieldLinkNest RX9 28 "PennyBooks$Ledger" "lines" "I" "PennyBooks" ∈ pb_nests := pb_nm1 (i := 65) rfl rfl
theorem g_X9_28 : pb_fd 5 3 (.inr true) RX9 28 := ⟨1, _, RX1, TX1, 20, h_5, rfl, rfl, by decide, u_X1, Or.inr ⟨_, m_1_65⟩⟩
theorem m_1_79 : Cond.fieldLinkNest RX9 34 "PennyBooks$Ledger" "weekOf" "[I" "PennyBooks" ∈ pb_nests := pb_nm1 (i := 79) rfl rfl
theorem g_X9_34 : pb_fd 5 5 (.inl 9) RX9 34 := ⟨1, _, RX1, TX1, 20, h_5, rfl, rfl, by decide, u_X1, Or.inr ⟨_, m_1_79⟩⟩
theorem m_6_24 : Cond.methodLinkNest RX9 37 yX11_outside "PennyBooks" ∈ pb_nests := pb_nm6 (i := 24) rfl rfl
theorem q_X9_37 : pb_cs RX9 37 yX11_outside 3 := ⟨Or.inr ⟨_, m_6_24⟩, m_3_60, m_1_1, by decide +kernel, by decide +kernel, by decide +kernel⟩
theorem m_1_73 : Cond.fieldLinkNest RX9 41 "PennyBooks$Ledger" "familyOf" "[I" "PennyBooks" ∈ pb_nests := pb_nm1 (i := 73) rfl rfl
theorem g_X9_41 : pb_fd 5 4 (.inl 8) RX9 41 := ⟨1, _, RX1, TX1, 20, h_5, rfl, rfl, by decide, u_X1, Or.inr ⟨_, m_1_73⟩⟩
theorem m_6_25 : Cond.methodLink RX9 44 yX1_isKnown ∈ pb_tbl := pb_tm6 (i := 25) rfl rfl
theorem q_X9_44 : pb_ci RX9 44 yX1_isKnown 1 := ⟨Or.inl m_6_25, m_3_189, m_3_190, m_1_3, by decide +kernel, by decide +kernel, by decide +kernel⟩
theorem m_1_87 : Cond.fieldLinkNest RX9 48 "PennyBooks$Ledger" "handOf" "[I" "PennyBooks" ∈ pb_nests := pb_nm1 (i := 87) rfl rfl
theorem g_X9_48 : pb_fd 5 7 (.inl 11) RX9 48 := ⟨1, _, RX1, TX1, 20, h_5, rfl, rfl, by decide, u_X1, Or.inr ⟨_, m_1_87⟩⟩
theorem m_6_26 : Cond.methodLink RX9 51 Lib.Math.max.name ∈ pb_tbl := pb_tm6 (i := 26) rfl rfl
theorem m_6_22 : Cond.code yX9_unlikeHands cX9_unlikeHands 9 (some .int) ∈ pb_tbl := pb_tm6 (i := 22) rfl rfl
theorem m_6_35 : Cond.methodLink RX9 60 yX9_unlikeHands ∈ pb_tbl := pb_tm6 (i := 35) rfl rfl
theorem m_6_20 : Cond.instanceMethod yX9_unlikeHands ∈ pb_tbl := pb_tm6 (i := 20) rfl rfl
theorem m_6_21 : Cond.selects RX9 yX9_unlikeHands yX9_unlikeHands ∈ pb_tbl := pb_tm6 (i := 21) rfl rfl
theorem m_1_10 : Cond.initialized RX9 ∈ pb_tbl := pb_tm1 (i := 10) rfl rfl
theorem q_X9_60 : pb_ci RX9 60 yX9_unlikeHands 3 := ⟨Or.inl m_6_35, m_6_20, m_6_21, m_1_10, by decide +kernel, by decide +kernel, by decide +kernel⟩
theorem m_6_34 : Cond.code yX9_unlikeAt cX9_unlikeAt 5 (some .int) ∈ pb_tbl := pb_tm6 (i := 34) rfl rfl
theorem m_6_31 : Cond.methodLink RX9 57 yX9_unlikeAt ∈ pb_tbl := pb_tm6 (i := 31) rfl rfl
theorem m_6_33 : Cond.instanceMethod yX9_unlikeAt ∈ pb_tbl := pb_tm6 (i := 33) rfl rfl
theorem ms_X9_unlikeAt : Cond.selects yX9_unlikeAt.cls yX9_unlikeAt yX9_unlikeAt ∈ pb_tbl := pb_ps3 (i := 14) (q := (yX9_unlikeAt, 7)) rfl
theorem q_X9_57 : pb_ci RX9 57 yX9_unlikeAt 2 := ⟨Or.inl m_6_31, m_6_33, ms_X9_unlikeAt, m_1_10, by decide +kernel, by decide +kernel, by decide +kernel⟩
theorem m_6_30 : Cond.code yX9_bestChange cX9_bestChange 9 (some .int) ∈ pb_tbl := pb_tm6 (i := 30) rfl rfl
theorem m_3_11 : Cond.fieldLink RX11 83 "PennyBooks" "weeks" "LPennyBooks$Weeks;" ∈ pb_tbl := pb_tm3 (i := 11) rfl rfl
theorem g_X11_83 : pb_fd 0 11 (.inl 54) RX11 83 := ⟨11, _, RX11, TX11, 14, h_0, rfl, rfl, by decide, u_X11, Or.inl m_3_11⟩
theorem m_6_27 : Cond.methodLink RX11 331 yX9_bestChange ∈ pb_tbl := pb_tm6 (i := 27) rfl rfl
theorem m_6_28 : Cond.instanceMethod yX9_bestChange ∈ pb_tbl := pb_tm6 (i := 28) rfl rfl
theorem m_6_29 : Cond.selects RX9 yX9_bestChange yX9_bestChange ∈ pb_tbl := pb_tm6 (i := 29) rfl rfl
theorem q_X11_331 : pb_ci RX11 331 yX9_bestChange 2 := ⟨Or.inl m_6_27, m_6_28, m_6_29, m_1_10, by decide +kernel, by decide +kernel, by decide +kernel⟩
theorem m_6_19 : Cond.methodLink RX11 328 yX9_unlikeHands ∈ pb_tbl := pb_tm6 (i := 19) rfl rfl
theorem q_X11_328 : pb_ci RX11 328 yX9_unlikeHands 3 := ⟨Or.inl m_6_19, m_6_20, m_6_21, m_1_10, by decide +kernel, by decide +kernel, by decide +kernel⟩
theorem m_6_18 : Cond.code yX11_change cX11_change 4 (some .int) ∈ pb_tbl := pb_tm6 (i := 18) rfl rfl
theorem m_6_44 : Cond.methodLink RX10 23 yX8_at ∈ pb_tbl := pb_tm6 (i := 44) rfl rfl
theorem q_X10_23 : pb_ci RX10 23 yX8_at 2 := ⟨Or.inl m_6_44, m_3_93, m_3_94, m_1_2, by decide +kernel, by decide +kernel, by decide +kernel⟩
theorem m_6_45 : Cond.constantLong RX10 29 (100) ∈ pb_tbl := pb_tm6 (i := 45) rfl rfl
theorem m_2_196 : Cond.fieldLink RX10 13 "PennyBooks$Weights" "lacks" "[I" ∈ pb_tbl := pb_tm2 (i := 196) rfl rfl
theorem m_2_198 : Cond.laysFinal RX10 "PennyBooks$Weights" "ledger" "LPennyBooks$Ledger;" ∈ pb_tbl := pb_tm2 (i := 198) rfl rfl
theorem m_2_200 : Cond.lays RX10 "PennyBooks$Weights" "weighed" "I" ∈ pb_tbl := pb_tm2 (i := 200) rfl rfl
theorem m_2_202 : Cond.laysFinal RX10 "PennyBooks$Weights" "nearest" "[I" ∈ pb_tbl := pb_tm2 (i := 202) rfl rfl
theorem m_2_204 : Cond.laysFinal RX10 "PennyBooks$Weights" "lacks" "[I" ∈ pb_tbl := pb_tm2 (i := 204) rfl rfl
theorem m_2_206 : Cond.laysFinal RX10 "PennyBooks$Weights" "room" "[I" ∈ pb_tbl := pb_tm2 (i := 206) rfl rfl
theorem u_X10 : ∀ w ∈ u_ws RX10 TX10 5, w ∈ pb_tbl := by
  intro w hw
  obtain ⟨k, hk, rfl⟩ := List.mem_map.mp hw
  have hk := List.mem_range.mp hk
  match k, hk with
  | 0, _ => exact m_2_198
  | 1, _ => exact m_2_200
  | 2, _ => exact m_2_202
  | 3, _ => exact m_2_204
  | 4, _ => exact m_2_206
  | j + 5, h => omega
theorem h_57 : pb_sh[57]? = some (.inr (10, [.inl 5, .inr true, .inl 58, .inl 59, .inl 60])) := rfl
theorem g_X10_13 : pb_fd 57 3 (.inl 59) RX10 13 := ⟨10, _, RX10, TX10, 5, h_57, rfl, rfl, by decide, u_X10, Or.inl m_2_196⟩
theorem h_59 : pb_sh[59]? = some (.inl (0, 8)) := rfl
theorem m_6_43 : Cond.code yX10_takeMargins cX10_takeMargins 6 (some .boolean) ∈ pb_tbl := pb_tm6 (i := 43) rfl rfl
theorem h_60 : pb_sh[60]? = some (.inl (0, 16)) := rfl
theorem m_2_191 : Cond.fieldLink RX10 19 "PennyBooks$Weights" "ledger" "LPennyBooks$Ledger;" ∈ pb_tbl := pb_tm2 (i := 191) rfl rfl
theorem g_X10_19 : pb_fd 57 0 (.inl 5) RX10 19 := ⟨10, _, RX10, TX10, 5, h_57, rfl, rfl, by decide, u_X10, Or.inl m_2_191⟩
theorem m_1_60 : Cond.fieldLinkNest RX10 49 "PennyBooks$Ledger" "classOf" "[I" "PennyBooks" ∈ pb_nests := pb_nm1 (i := 60) rfl rfl
theorem g_X10_49 : pb_fd 5 1 (.inl 6) RX10 49 := ⟨1, _, RX1, TX1, 20, h_5, rfl, rfl, by decide, u_X1, Or.inr ⟨_, m_1_60⟩⟩
theorem m_1_63 : Cond.fieldLinkNest RX10 54 "PennyBooks$Ledger" "landOf" "[I" "PennyBooks" ∈ pb_nests := pb_nm1 (i := 63) rfl rfl
theorem g_X10_54 : pb_fd 5 2 (.inl 7) RX10 54 := ⟨1, _, RX1, TX1, 20, h_5, rfl, rfl, by decide, u_X1, Or.inr ⟨_, m_1_63⟩⟩
theorem m_6_54 : Cond.code yX10_cellOf cX10_cellOf 2 (some .int) ∈ pb_tbl := pb_tm6 (i := 54) rfl rfl
theorem m_6_64 : Cond.methodLink RX10 69 Lib.Math.max.name ∈ pb_tbl := pb_tm6 (i := 64) rfl rfl
theorem m_6_65 : Cond.methodLink RX10 65 Lib.Math.min.name ∈ pb_tbl := pb_tm6 (i := 65) rfl rfl
theorem m_2_197 : Cond.fieldLink RX10 16 "PennyBooks$Weights" "room" "[I" ∈ pb_tbl := pb_tm2 (i := 197) rfl rfl
theorem g_X10_16 : pb_fd 57 4 (.inl 60) RX10 16 := ⟨10, _, RX10, TX10, 5, h_57, rfl, rfl, by decide, u_X10, Or.inl m_2_197⟩
theorem m_6_63 : Cond.code yX10_cutBehind cX10_cutBehind 6 (some .int) ∈ pb_tbl := pb_tm6 (i := 63) rfl rfl
theorem m_6_59 : Cond.methodLink RX10 57 Lib.Math.abs.name ∈ pb_tbl := pb_tm6 (i := 59) rfl rfl
theorem m_6_60 : Cond.methodLink RX10 62 yX10_cutBehind ∈ pb_tbl := pb_tm6 (i := 60) rfl rfl
theorem m_6_62 : Cond.instanceMethod yX10_cutBehind ∈ pb_tbl := pb_tm6 (i := 62) rfl rfl
theorem ms_X10_cutBehind : Cond.selects yX10_cutBehind.cls yX10_cutBehind yX10_cutBehind ∈ pb_tbl := pb_ps4 (i := 1) (q := (yX10_cutBehind, 5)) rfl
theorem m_1_11 : Cond.initialized RX10 ∈ pb_tbl := pb_tm1 (i := 11) rfl rfl
theorem q_X10_62 : pb_ci RX10 62 yX10_cutBehind 1 := ⟨Or.inl m_6_60, m_6_62, ms_X10_cutBehind, m_1_11, by decide +kernel, by decide +kernel, by decide +kernel⟩
theorem m_6_58 : Cond.code yX10_leastUnlike cX10_leastUnlike 4 (some .int) ∈ pb_tbl := pb_tm6 (i := 58) rfl rfl
theorem m_2_192 : Cond.fieldLink RX10 31 "PennyBooks$Weights" "weighed" "I" ∈ pb_tbl := pb_tm2 (i := 192) rfl rfl
theorem p_X10_31 : pb_fp 57 1 (.inr true) .int RX10 31 := ⟨10, _, RX10, TX10, 5, tyX10, h_57, rfl, rfl, by decide, u_X10, Or.inl m_2_192, tyX10_ok, nmX10, rfl, rfl⟩
theorem m_6_50 : Cond.methodLink RX10 35 yJ7_fill_53178 ∈ pb_tbl := pb_tm6 (i := 50) rfl rfl
theorem q_X10_35 : pb_cs RX10 35 yJ7_fill_53178 2 := ⟨Or.inl m_6_50, m_5_144, m_1_14, by decide +kernel, by decide +kernel, by decide +kernel⟩
theorem m_6_55 : Cond.methodLink RX10 45 yX10_leastUnlike ∈ pb_tbl := pb_tm6 (i := 55) rfl rfl
theorem m_6_57 : Cond.instanceMethod yX10_leastUnlike ∈ pb_tbl := pb_tm6 (i := 57) rfl rfl
theorem ms_X10_leastUnlike : Cond.selects yX10_leastUnlike.cls yX10_leastUnlike yX10_leastUnlike ∈ pb_tbl := pb_ps4 (i := 0) (q := (yX10_leastUnlike, 5)) rfl
theorem q_X10_45 : pb_ci RX10 45 yX10_leastUnlike 0 := ⟨Or.inl m_6_55, m_6_57, ms_X10_leastUnlike, m_1_11, by decide +kernel, by decide +kernel, by decide +kernel⟩
theorem m_6_51 : Cond.methodLink RX10 41 yX10_cellOf ∈ pb_tbl := pb_tm6 (i := 51) rfl rfl
theorem m_6_53 : Cond.instanceMethod yX10_cellOf ∈ pb_tbl := pb_tm6 (i := 53) rfl rfl
theorem ms_X10_cellOf : Cond.selects yX10_cellOf.cls yX10_cellOf yX10_cellOf ∈ pb_tbl := pb_ps3 (i := 15) (q := (yX10_cellOf, 5)) rfl
theorem q_X10_41 : pb_ci RX10 41 yX10_cellOf 1 := ⟨Or.inl m_6_51, m_6_53, ms_X10_cellOf, m_1_11, by decide +kernel, by decide +kernel, by decide +kernel⟩
theorem m_2_194 : Cond.fieldLink RX10 9 "PennyBooks$Weights" "nearest" "[I" ∈ pb_tbl := pb_tm2 (i := 194) rfl rfl
theorem g_X10_9 : pb_fd 57 2 (.inl 58) RX10 9 := ⟨10, _, RX10, TX10, 5, h_57, rfl, rfl, by decide, u_X10, Or.inl m_2_194⟩
theorem h_58 : pb_sh[58]? = some (.inl (0, 8)) := rfl
theorem m_6_49 : Cond.code yX10_findNearest cX10_findNearest 5 (some .int) ∈ pb_tbl := pb_tm6 (i := 49) rfl rfl
theorem m_3_12 : Cond.fieldLink RX11 90 "PennyBooks" "weights" "LPennyBooks$Weights;" ∈ pb_tbl := pb_tm3 (i := 12) rfl rfl
theorem g_X11_90 : pb_fd 0 12 (.inl 57) RX11 90 := ⟨11, _, RX11, TX11, 14, h_0, rfl, rfl, by decide, u_X11, Or.inl m_3_12⟩
theorem m_6_46 : Cond.methodLink RX11 338 yX10_findNearest ∈ pb_tbl := pb_tm6 (i := 46) rfl rfl
theorem m_6_47 : Cond.instanceMethod yX10_findNearest ∈ pb_tbl := pb_tm6 (i := 47) rfl rfl
theorem m_6_48 : Cond.selects RX10 yX10_findNearest yX10_findNearest ∈ pb_tbl := pb_tm6 (i := 48) rfl rfl
theorem q_X11_338 : pb_ci RX11 338 yX10_findNearest 2 := ⟨Or.inl m_6_46, m_6_47, m_6_48, m_1_11, by decide +kernel, by decide +kernel, by decide +kernel⟩
theorem m_6_40 : Cond.methodLink RX11 334 yX10_takeMargins ∈ pb_tbl := pb_tm6 (i := 40) rfl rfl
theorem m_6_41 : Cond.instanceMethod yX10_takeMargins ∈ pb_tbl := pb_tm6 (i := 41) rfl rfl
theorem m_6_42 : Cond.selects RX10 yX10_takeMargins yX10_takeMargins ∈ pb_tbl := pb_tm6 (i := 42) rfl rfl
theorem q_X11_334 : pb_ci RX11 334 yX10_takeMargins 2 := ⟨Or.inl m_6_40, m_6_41, m_6_42, m_1_11, by decide +kernel, by decide +kernel, by decide +kernel⟩
theorem m_6_39 : Cond.code yX11_weights cX11_weights 4 (some .int) ∈ pb_tbl := pb_tm6 (i := 39) rfl rfl
theorem m_2_193 : Cond.fieldLinkNest RX11 341 "PennyBooks$Weights" "weighed" "I" "PennyBooks" ∈ pb_nests := pb_nm2 (i := 193) rfl rfl
theorem g_X11_341 : pb_fd 57 1 (.inr true) RX11 341 := ⟨10, _, RX10, TX10, 5, h_57, rfl, rfl, by decide, u_X10, Or.inr ⟨_, m_2_193⟩⟩
theorem m_2_195 : Cond.fieldLinkNest RX11 344 "PennyBooks$Weights" "nearest" "[I" "PennyBooks" ∈ pb_nests := pb_nm2 (i := 195) rfl rfl
theorem g_X11_344 : pb_fd 57 2 (.inl 58) RX11 344 := ⟨10, _, RX10, TX10, 5, h_57, rfl, rfl, by decide, u_X10, Or.inr ⟨_, m_2_195⟩⟩
theorem m_6_69 : Cond.code yX11_weight cX11_weight 2 (some .int) ∈ pb_tbl := pb_tm6 (i := 69) rfl rfl
theorem h_56 : pb_sh[56]? = some (.inl (0, 520)) := rfl
theorem m_2_163 : Cond.fieldLink RX9 15 "PennyBooks$Weeks" "spentIn" "[I" ∈ pb_tbl := pb_tm2 (i := 163) rfl rfl
theorem g_X9_15 : pb_fd 54 2 (.inl 56) RX9 15 := ⟨9, _, RX9, TX9, 7, h_54, rfl, rfl, by decide, u_X9, Or.inl m_2_163⟩
theorem m_2_164 : Cond.fieldLink RX9 64 "PennyBooks$Weeks" "firstWeek" "I" ∈ pb_tbl := pb_tm2 (i := 164) rfl rfl
theorem p_X9_64 : pb_fp 54 3 (.inr true) .int RX9 64 := ⟨9, _, RX9, TX9, 7, tyX9, h_54, rfl, rfl, by decide, u_X9, Or.inl m_2_164, tyX9_ok, nmX9, rfl, rfl⟩
theorem m_2_165 : Cond.fieldLink RX9 67 "PennyBooks$Weeks" "lastWeek" "I" ∈ pb_tbl := pb_tm2 (i := 165) rfl rfl
theorem p_X9_67 : pb_fp 54 4 (.inr true) .int RX9 67 := ⟨9, _, RX9, TX9, 7, tyX9, h_54, rfl, rfl, by decide, u_X9, Or.inl m_2_165, tyX9_ok, nmX9, rfl, rfl⟩
theorem m_6_82 : Cond.methodLink RX9 70 yX1_wentFrom ∈ pb_tbl := pb_tm6 (i := 82) rfl rfl
theorem q_X9_70 : pb_ci RX9 70 yX1_wentFrom 2 := ⟨Or.inl m_6_82, m_5_150, m_5_151, m_1_3, by decide +kernel, by decide +kernel, by decide +kernel⟩
theorem m_1_97 : Cond.fieldLinkNest RX9 74 "PennyBooks$Ledger" "penceOf" "[I" "PennyBooks" ∈ pb_nests := pb_nm1 (i := 97) rfl rfl
theorem g_X9_74 : pb_fd 5 12 (.inl 16) RX9 74 := ⟨1, _, RX1, TX1, 20, h_5, rfl, rfl, by decide, u_X1, Or.inr ⟨_, m_1_97⟩⟩
theorem g_X9_64 : pb_fd 54 3 (.inr true) RX9 64 := ⟨9, _, RX9, TX9, 7, h_54, rfl, rfl, by decide, u_X9, Or.inl m_2_164⟩
theorem m_6_83 : Cond.methodLink RX9 77 Lib.Math.min.name ∈ pb_tbl := pb_tm6 (i := 83) rfl rfl
theorem g_X9_67 : pb_fd 54 4 (.inr true) RX9 67 := ⟨9, _, RX9, TX9, 7, h_54, rfl, rfl, by decide, u_X9, Or.inl m_2_165⟩
theorem m_6_81 : Cond.code yX9_layOut cX9_layOut 4 none ∈ pb_tbl := pb_tm6 (i := 81) rfl rfl
theorem m_6_78 : Cond.methodLink RX9 80 yX9_layOut ∈ pb_tbl := pb_tm6 (i := 78) rfl rfl
theorem m_6_80 : Cond.instanceMethod yX9_layOut ∈ pb_tbl := pb_tm6 (i := 80) rfl rfl
theorem ms_X9_layOut : Cond.selects yX9_layOut.cls yX9_layOut yX9_layOut ∈ pb_tbl := pb_ps4 (i := 2) (q := (yX9_layOut, 7)) rfl
theorem q_X9_80 : pb_ci RX9 80 yX9_layOut 1 := ⟨Or.inl m_6_78, m_6_80, ms_X9_layOut, m_1_10, by decide +kernel, by decide +kernel, by decide +kernel⟩
theorem m_6_77 : Cond.code yX9_countGaps cX9_countGaps 4 (some .int) ∈ pb_tbl := pb_tm6 (i := 77) rfl rfl
theorem m_6_74 : Cond.methodLink RX11 347 yX9_countGaps ∈ pb_tbl := pb_tm6 (i := 74) rfl rfl
theorem m_6_75 : Cond.instanceMethod yX9_countGaps ∈ pb_tbl := pb_tm6 (i := 75) rfl rfl
theorem m_6_76 : Cond.selects RX9 yX9_countGaps yX9_countGaps ∈ pb_tbl := pb_tm6 (i := 76) rfl rfl
theorem q_X11_347 : pb_ci RX11 347 yX9_countGaps 1 := ⟨Or.inl m_6_74, m_6_75, m_6_76, m_1_10, by decide +kernel, by decide +kernel, by decide +kernel⟩
theorem m_6_73 : Cond.code yX11_gaps cX11_gaps 2 (some .int) ∈ pb_tbl := pb_tm6 (i := 73) rfl rfl
theorem m_2_166 : Cond.fieldLink RX9 84 "PennyBooks$Weeks" "least" "I" ∈ pb_tbl := pb_tm2 (i := 166) rfl rfl
theorem p_X9_84 : pb_fp 54 5 (.inr true) .int RX9 84 := ⟨9, _, RX9, TX9, 7, tyX9, h_54, rfl, rfl, by decide, u_X9, Or.inl m_2_166, tyX9_ok, nmX9, rfl, rfl⟩
theorem m_2_168 : Cond.fieldLink RX9 87 "PennyBooks$Weeks" "greatest" "I" ∈ pb_tbl := pb_tm2 (i := 168) rfl rfl
theorem p_X9_87 : pb_fp 54 6 (.inr true) .int RX9 87 := ⟨9, _, RX9, TX9, 7, tyX9, h_54, rfl, rfl, by decide, u_X9, Or.inl m_2_168, tyX9_ok, nmX9, rfl, rfl⟩
theorem g_X9_84 : pb_fd 54 5 (.inr true) RX9 84 := ⟨9, _, RX9, TX9, 7, h_54, rfl, rfl, by decide, u_X9, Or.inl m_2_166⟩
theorem g_X9_87 : pb_fd 54 6 (.inr true) RX9 87 := ⟨9, _, RX9, TX9, 7, h_54, rfl, rfl, by decide, u_X9, Or.inl m_2_168⟩
theorem m_6_91 : Cond.code yX9_findBounds cX9_findBounds 5 (some .boolean) ∈ pb_tbl := pb_tm6 (i := 91) rfl rfl
theorem m_6_88 : Cond.methodLink RX11 350 yX9_findBounds ∈ pb_tbl := pb_tm6 (i := 88) rfl rfl
theorem m_6_89 : Cond.instanceMethod yX9_findBounds ∈ pb_tbl := pb_tm6 (i := 89) rfl rfl
theorem m_6_90 : Cond.selects RX9 yX9_findBounds yX9_findBounds ∈ pb_tbl := pb_tm6 (i := 90) rfl rfl
theorem q_X11_350 : pb_ci RX11 350 yX9_findBounds 3 := ⟨Or.inl m_6_88, m_6_89, m_6_90, m_1_10, by decide +kernel, by decide +kernel, by decide +kernel⟩
theorem m_2_169 : Cond.fieldLinkNest RX11 356 "PennyBooks$Weeks" "greatest" "I" "PennyBooks" ∈ pb_nests := pb_nm2 (i := 169) rfl rfl
theorem g_X11_356 : pb_fd 54 6 (.inr true) RX11 356 := ⟨9, _, RX9, TX9, 7, h_54, rfl, rfl, by decide, u_X9, Or.inr ⟨_, m_2_169⟩⟩
theorem m_2_167 : Cond.fieldLinkNest RX11 353 "PennyBooks$Weeks" "least" "I" "PennyBooks" ∈ pb_nests := pb_nm2 (i := 167) rfl rfl
theorem g_X11_353 : pb_fd 54 5 (.inr true) RX11 353 := ⟨9, _, RX9, TX9, 7, h_54, rfl, rfl, by decide, u_X9, Or.inr ⟨_, m_2_167⟩⟩
theorem m_6_87 : Cond.code yX11_bound cX11_bound 5 (some .int) ∈ pb_tbl := pb_tm6 (i := 87) rfl rfl
theorem m_2_219 : Cond.fieldLink RX2 11 "PennyBooks$Losses" "familyOf" "[I" ∈ pb_tbl := pb_tm2 (i := 219) rfl rfl
theorem m_2_225 : Cond.laysFinal RX2 "PennyBooks$Losses" "ledger" "LPennyBooks$Ledger;" ∈ pb_tbl := pb_tm2 (i := 225) rfl rfl
theorem m_2_227 : Cond.laysFinal RX2 "PennyBooks$Losses" "judge" "LPennyBooks$Judge;" ∈ pb_tbl := pb_tm2 (i := 227) rfl rfl
theorem m_2_229 : Cond.lays RX2 "PennyBooks$Losses" "losses" "I" ∈ pb_tbl := pb_tm2 (i := 229) rfl rfl
theorem m_2_231 : Cond.laysFinal RX2 "PennyBooks$Losses" "familyOf" "[I" ∈ pb_tbl := pb_tm2 (i := 231) rfl rfl
theorem m_2_233 : Cond.laysFinal RX2 "PennyBooks$Losses" "weekOf" "[I" ∈ pb_tbl := pb_tm2 (i := 233) rfl rfl
theorem m_2_235 : Cond.lays RX2 "PennyBooks$Losses" "above" "J" ∈ pb_tbl := pb_tm2 (i := 235) rfl rfl
theorem m_2_237 : Cond.lays RX2 "PennyBooks$Losses" "below" "J" ∈ pb_tbl := pb_tm2 (i := 237) rfl rfl
theorem u_X2 : ∀ w ∈ u_ws RX2 TX2 7, w ∈ pb_tbl := by
  intro w hw
  obtain ⟨k, hk, rfl⟩ := List.mem_map.mp hw
  have hk := List.mem_range.mp hk
  match k, hk with
  | 0, _ => exact m_2_225
  | 1, _ => exact m_2_227
  | 2, _ => exact m_2_229
  | 3, _ => exact m_2_231
  | 4, _ => exact m_2_233
  | 5, _ => exact m_2_235
  | 6, _ => exact m_2_237
  | j + 7, h => omega
theorem h_61 : pb_sh[61]? = some (.inr (2, [.inl 5, .inl 25, .inr true, .inl 62, .inl 63, .inr false, .inr false])) := rfl
theorem g_X2_11 : pb_fd 61 3 (.inl 62) RX2 11 := ⟨2, _, RX2, TX2, 7, h_61, rfl, rfl, by decide, u_X2, Or.inl m_2_219⟩
theorem m_2_217 : Cond.fieldLink RX2 26 "PennyBooks$Losses" "losses" "I" ∈ pb_tbl := pb_tm2 (i := 217) rfl rfl
theorem g_X2_26 : pb_fd 61 2 (.inr true) RX2 26 := ⟨2, _, RX2, TX2, 7, h_61, rfl, rfl, by decide, u_X2, Or.inl m_2_217⟩
theorem h_62 : pb_sh[62]? = some (.inl (0, 12)) := rfl
theorem m_2_220 : Cond.fieldLink RX2 15 "PennyBooks$Losses" "weekOf" "[I" ∈ pb_tbl := pb_tm2 (i := 220) rfl rfl
theorem g_X2_15 : pb_fd 61 4 (.inl 63) RX2 15 := ⟨2, _, RX2, TX2, 7, h_61, rfl, rfl, by decide, u_X2, Or.inl m_2_220⟩
theorem h_63 : pb_sh[63]? = some (.inl (0, 12)) := rfl
theorem p_X2_26 : pb_fp 61 2 (.inr true) .int RX2 26 := ⟨2, _, RX2, TX2, 7, tyX2, h_61, rfl, rfl, by decide, u_X2, Or.inl m_2_217, tyX2_ok, nmX2, rfl, rfl⟩
theorem m_6_99 : Cond.code yX2_addLoss cX2_addLoss 3 (some .int) ∈ pb_tbl := pb_tm6 (i := 99) rfl rfl
theorem m_3_13 : Cond.fieldLink RX11 97 "PennyBooks" "losses" "LPennyBooks$Losses;" ∈ pb_tbl := pb_tm3 (i := 13) rfl rfl
theorem g_X11_97 : pb_fd 0 13 (.inl 61) RX11 97 := ⟨11, _, RX11, TX11, 14, h_0, rfl, rfl, by decide, u_X11, Or.inl m_3_13⟩
theorem m_2_218 : Cond.fieldLinkNest RX11 357 "PennyBooks$Losses" "losses" "I" "PennyBooks" ∈ pb_nests := pb_nm2 (i := 218) rfl rfl
theorem g_X11_357 : pb_fd 61 2 (.inr true) RX11 357 := ⟨2, _, RX2, TX2, 7, h_61, rfl, rfl, by decide, u_X2, Or.inr ⟨_, m_2_218⟩⟩
theorem m_6_96 : Cond.methodLink RX11 359 yX2_addLoss ∈ pb_tbl := pb_tm6 (i := 96) rfl rfl
theorem m_6_97 : Cond.instanceMethod yX2_addLoss ∈ pb_tbl := pb_tm6 (i := 97) rfl rfl
theorem m_6_98 : Cond.selects RX2 yX2_addLoss yX2_addLoss ∈ pb_tbl := pb_tm6 (i := 98) rfl rfl
theorem m_1_12 : Cond.initialized RX2 ∈ pb_tbl := pb_tm1 (i := 12) rfl rfl
theorem q_X11_359 : pb_ci RX11 359 yX2_addLoss 2 := ⟨Or.inl m_6_96, m_6_97, m_6_98, m_1_12, by decide +kernel, by decide +kernel, by decide +kernel⟩
theorem m_6_95 : Cond.code yX11_loss cX11_loss 3 (some .int) ∈ pb_tbl := pb_tm6 (i := 95) rfl rfl
theorem m_6_125 : Cond.constantLong RJ13 314 (6148914691236517205) ∈ pb_tbl := pb_tm6 (i := 125) rfl rfl
theorem m_6_126 : Cond.constantLong RJ13 316 (3689348814741910323) ∈ pb_tbl := pb_tm6 (i := 126) rfl rfl
theorem m_6_127 : Cond.constantLong RJ13 318 (1085102592571150095) ∈ pb_tbl := pb_tm6 (i := 127) rfl rfl
theorem m_6_124 : Cond.code yJ13_bitCount_95d88 cJ13_bitCount_95d88 2 (some .int) ∈ pb_tbl := pb_tm6 (i := 124) rfl rfl
theorem m_2_215 : Cond.fieldLink RX2 18 "PennyBooks$Losses" "ledger" "LPennyBooks$Ledger;" ∈ pb_tbl := pb_tm2 (i := 215) rfl rfl
theorem g_X2_18 : pb_fd 61 0 (.inl 5) RX2 18 := ⟨2, _, RX2, TX2, 7, h_61, rfl, rfl, by decide, u_X2, Or.inl m_2_215⟩
theorem m_1_69 : Cond.fieldLinkNest RX2 62 "PennyBooks$Ledger" "lines" "I" "PennyBooks" ∈ pb_nests := pb_nm1 (i := 69) rfl rfl
theorem g_X2_62 : pb_fd 5 3 (.inr true) RX2 62 := ⟨1, _, RX1, TX1, 20, h_5, rfl, rfl, by decide, u_X1, Or.inr ⟨_, m_1_69⟩⟩
theorem m_6_122 : Cond.methodLink RX2 70 yJ13_bitCount_95d88 ∈ pb_tbl := pb_tm6 (i := 122) rfl rfl
theorem m_6_123 : Cond.static yJ13_bitCount_95d88 ∈ pb_tbl := pb_tm6 (i := 123) rfl rfl
theorem m_1_23 : Cond.initialized RJ13 ∈ pb_tbl := pb_tm1 (i := 23) rfl rfl
theorem q_X2_70 : pb_cs RX2 70 yJ13_bitCount_95d88 1 := ⟨Or.inl m_6_122, m_6_123, m_1_23, by decide +kernel, by decide +kernel, by decide +kernel⟩
theorem m_1_82 : Cond.fieldLinkNest RX2 65 "PennyBooks$Ledger" "weekOf" "[I" "PennyBooks" ∈ pb_nests := pb_nm1 (i := 82) rfl rfl
theorem g_X2_65 : pb_fd 5 5 (.inl 9) RX2 65 := ⟨1, _, RX1, TX1, 20, h_5, rfl, rfl, by decide, u_X1, Or.inr ⟨_, m_1_82⟩⟩
theorem m_6_108 : Cond.methodLinkNest RX2 30 yX11_outside "PennyBooks" ∈ pb_nests := pb_nm6 (i := 108) rfl rfl
theorem q_X2_30 : pb_cs RX2 30 yX11_outside 3 := ⟨Or.inr ⟨_, m_6_108⟩, m_3_60, m_1_1, by decide +kernel, by decide +kernel, by decide +kernel⟩
theorem m_6_121 : Cond.methodLink RX2 66 yX1_wentFrom ∈ pb_tbl := pb_tm6 (i := 121) rfl rfl
theorem q_X2_66 : pb_ci RX2 66 yX1_wentFrom 2 := ⟨Or.inl m_6_121, m_5_150, m_5_151, m_1_3, by decide +kernel, by decide +kernel, by decide +kernel⟩
theorem m_6_120 : Cond.code yX2_wentInEach cX2_wentInEach 8 (some .boolean) ∈ pb_tbl := pb_tm6 (i := 120) rfl rfl
theorem m_6_131 : Cond.code yX2_lostNear cX2_lostNear 5 (some .boolean) ∈ pb_tbl := pb_tm6 (i := 131) rfl rfl
theorem m_1_61 : Cond.fieldLinkNest RX2 56 "PennyBooks$Ledger" "classOf" "[I" "PennyBooks" ∈ pb_nests := pb_nm1 (i := 61) rfl rfl
theorem g_X2_56 : pb_fd 5 1 (.inl 6) RX2 56 := ⟨1, _, RX1, TX1, 20, h_5, rfl, rfl, by decide, u_X1, Or.inr ⟨_, m_1_61⟩⟩
theorem m_6_117 : Cond.methodLink RX2 53 yX2_wentInEach ∈ pb_tbl := pb_tm6 (i := 117) rfl rfl
theorem m_6_119 : Cond.instanceMethod yX2_wentInEach ∈ pb_tbl := pb_tm6 (i := 119) rfl rfl
theorem ms_X2_wentInEach : Cond.selects yX2_wentInEach.cls yX2_wentInEach yX2_wentInEach ∈ pb_tbl := pb_ps4 (i := 4) (q := (yX2_wentInEach, 7)) rfl
theorem q_X2_53 : pb_ci RX2 53 yX2_wentInEach 3 := ⟨Or.inl m_6_117, m_6_119, ms_X2_wentInEach, m_1_12, by decide +kernel, by decide +kernel, by decide +kernel⟩
theorem m_6_128 : Cond.methodLink RX2 59 yX2_lostNear ∈ pb_tbl := pb_tm6 (i := 128) rfl rfl
theorem m_6_130 : Cond.instanceMethod yX2_lostNear ∈ pb_tbl := pb_tm6 (i := 130) rfl rfl
theorem ms_X2_lostNear : Cond.selects yX2_lostNear.cls yX2_lostNear yX2_lostNear ∈ pb_tbl := pb_ps4 (i := 5) (q := (yX2_lostNear, 7)) rfl
theorem q_X2_59 : pb_ci RX2 59 yX2_lostNear 3 := ⟨Or.inl m_6_128, m_6_130, ms_X2_lostNear, m_1_12, by decide +kernel, by decide +kernel, by decide +kernel⟩
theorem m_6_116 : Cond.code yX2_isLike cX2_isLike 6 (some .boolean) ∈ pb_tbl := pb_tm6 (i := 116) rfl rfl
theorem m_2_216 : Cond.fieldLink RX2 22 "PennyBooks$Losses" "judge" "LPennyBooks$Judge;" ∈ pb_tbl := pb_tm2 (i := 216) rfl rfl
theorem g_X2_22 : pb_fd 61 1 (.inl 25) RX2 22 := ⟨2, _, RX2, TX2, 7, h_61, rfl, rfl, by decide, u_X2, Or.inl m_2_216⟩
theorem m_6_136 : Cond.methodLink RX2 76 yX0_isOn ∈ pb_tbl := pb_tm6 (i := 136) rfl rfl
theorem q_X2_76 : pb_ci RX2 76 yX0_isOn 3 := ⟨Or.inl m_6_136, m_5_34, m_5_35, m_1_5, by decide +kernel, by decide +kernel, by decide +kernel⟩
theorem m_1_98 : Cond.fieldLinkNest RX2 81 "PennyBooks$Ledger" "penceOf" "[I" "PennyBooks" ∈ pb_nests := pb_nm1 (i := 98) rfl rfl
theorem g_X2_81 : pb_fd 5 12 (.inl 16) RX2 81 := ⟨1, _, RX1, TX1, 20, h_5, rfl, rfl, by decide, u_X1, Or.inr ⟨_, m_1_98⟩⟩
theorem m_6_135 : Cond.code yX2_turn cX2_turn 11 (some .long) ∈ pb_tbl := pb_tm6 (i := 135) rfl rfl
theorem m_1_57 : Cond.fieldLinkNest RX2 34 "PennyBooks$Ledger" "families" "I" "PennyBooks" ∈ pb_nests := pb_nm1 (i := 57) rfl rfl
theorem g_X2_34 : pb_fd 5 0 (.inr true) RX2 34 := ⟨1, _, RX1, TX1, 20, h_5, rfl, rfl, by decide, u_X1, Or.inr ⟨_, m_1_57⟩⟩
theorem m_6_132 : Cond.methodLink RX2 42 yX2_turn ∈ pb_tbl := pb_tm6 (i := 132) rfl rfl
theorem m_6_134 : Cond.instanceMethod yX2_turn ∈ pb_tbl := pb_tm6 (i := 134) rfl rfl
theorem ms_X2_turn : Cond.selects yX2_turn.cls yX2_turn yX2_turn ∈ pb_tbl := pb_ps4 (i := 6) (q := (yX2_turn, 7)) rfl
theorem q_X2_42 : pb_ci RX2 42 yX2_turn 5 := ⟨Or.inl m_6_132, m_6_134, ms_X2_turn, m_1_12, by decide +kernel, by decide +kernel, by decide +kernel⟩
theorem m_2_221 : Cond.fieldLink RX2 46 "PennyBooks$Losses" "above" "J" ∈ pb_tbl := pb_tm2 (i := 221) rfl rfl
theorem p_X2_46 : pb_fp 61 5 (.inr false) .long RX2 46 := ⟨2, _, RX2, TX2, 7, tyX2, h_61, rfl, rfl, by decide, u_X2, Or.inl m_2_221, tyX2_ok, nmX2, rfl, rfl⟩
theorem m_2_223 : Cond.fieldLink RX2 50 "PennyBooks$Losses" "below" "J" ∈ pb_tbl := pb_tm2 (i := 223) rfl rfl
theorem p_X2_50 : pb_fp 61 6 (.inr false) .long RX2 50 := ⟨2, _, RX2, TX2, 7, tyX2, h_61, rfl, rfl, by decide, u_X2, Or.inl m_2_223, tyX2_ok, nmX2, rfl, rfl⟩
theorem m_6_113 : Cond.methodLink RX2 39 yX2_isLike ∈ pb_tbl := pb_tm6 (i := 113) rfl rfl
theorem m_6_115 : Cond.instanceMethod yX2_isLike ∈ pb_tbl := pb_tm6 (i := 115) rfl rfl
theorem ms_X2_isLike : Cond.selects yX2_isLike.cls yX2_isLike yX2_isLike ∈ pb_tbl := pb_ps4 (i := 3) (q := (yX2_isLike, 7)) rfl
theorem q_X2_39 : pb_ci RX2 39 yX2_isLike 3 := ⟨Or.inl m_6_113, m_6_115, ms_X2_isLike, m_1_12, by decide +kernel, by decide +kernel, by decide +kernel⟩
theorem m_6_112 : Cond.code yX2_measure cX2_measure 11 (some .boolean) ∈ pb_tbl := pb_tm6 (i := 112) rfl rfl
theorem m_6_107 : Cond.code yX2_spanStatus cX2_spanStatus 4 (some .int) ∈ pb_tbl := pb_tm6 (i := 107) rfl rfl
theorem m_6_104 : Cond.methodLink RX11 362 yX2_spanStatus ∈ pb_tbl := pb_tm6 (i := 104) rfl rfl
theorem m_6_105 : Cond.instanceMethod yX2_spanStatus ∈ pb_tbl := pb_tm6 (i := 105) rfl rfl
theorem m_6_106 : Cond.selects RX2 yX2_spanStatus yX2_spanStatus ∈ pb_tbl := pb_tm6 (i := 106) rfl rfl
theorem q_X11_362 : pb_ci RX11 362 yX2_spanStatus 2 := ⟨Or.inl m_6_104, m_6_105, m_6_106, m_1_12, by decide +kernel, by decide +kernel, by decide +kernel⟩
theorem m_6_109 : Cond.methodLink RX11 365 yX2_measure ∈ pb_tbl := pb_tm6 (i := 109) rfl rfl
theorem m_6_110 : Cond.instanceMethod yX2_measure ∈ pb_tbl := pb_tm6 (i := 110) rfl rfl
theorem m_6_111 : Cond.selects RX2 yX2_measure yX2_measure ∈ pb_tbl := pb_tm6 (i := 111) rfl rfl
theorem q_X11_365 : pb_ci RX11 365 yX2_measure 4 := ⟨Or.inl m_6_109, m_6_110, m_6_111, m_1_12, by decide +kernel, by decide +kernel, by decide +kernel⟩
theorem m_2_222 : Cond.fieldLinkNest RX11 368 "PennyBooks$Losses" "above" "J" "PennyBooks" ∈ pb_nests := pb_nm2 (i := 222) rfl rfl
theorem g_X11_368 : pb_fd 61 5 (.inr false) RX11 368 := ⟨2, _, RX2, TX2, 7, h_61, rfl, rfl, by decide, u_X2, Or.inr ⟨_, m_2_222⟩⟩
theorem m_2_224 : Cond.fieldLinkNest RX11 371 "PennyBooks$Losses" "below" "J" "PennyBooks" ∈ pb_nests := pb_nm2 (i := 224) rfl rfl
theorem g_X11_371 : pb_fd 61 6 (.inr false) RX11 371 := ⟨2, _, RX2, TX2, 7, h_61, rfl, rfl, by decide, u_X2, Or.inr ⟨_, m_2_224⟩⟩
theorem m_6_103 : Cond.code yX11_fell cX11_fell 6 (some .int) ∈ pb_tbl := pb_tm6 (i := 103) rfl rfl
theorem m_6_144 : Cond.code yX2_countLikes cX2_countLikes 5 (some .int) ∈ pb_tbl := pb_tm6 (i := 144) rfl rfl
theorem m_6_141 : Cond.methodLink RX11 374 yX2_countLikes ∈ pb_tbl := pb_tm6 (i := 141) rfl rfl
theorem m_6_142 : Cond.instanceMethod yX2_countLikes ∈ pb_tbl := pb_tm6 (i := 142) rfl rfl
theorem m_6_143 : Cond.selects RX2 yX2_countLikes yX2_countLikes ∈ pb_tbl := pb_tm6 (i := 143) rfl rfl
theorem q_X11_374 : pb_ci RX11 374 yX2_countLikes 2 := ⟨Or.inl m_6_141, m_6_142, m_6_143, m_1_12, by decide +kernel, by decide +kernel, by decide +kernel⟩
theorem m_6_140 : Cond.code yX11_likes cX11_likes 3 (some .int) ∈ pb_tbl := pb_tm6 (i := 140) rfl rfl
theorem m_6_151 : Cond.fieldLink RX12 231 "PennyBooksModel" "status" "I" ∈ pb_tbl := pb_tm6 (i := 151) rfl rfl
theorem m_7_12 : Cond.lays RX12 "PennyBooksModel" "status" "I" ∈ pb_tbl := pb_tm7 (i := 12) rfl rfl
theorem m_7_14 : Cond.lays RX12 "PennyBooksModel" "top" "J" ∈ pb_tbl := pb_tm7 (i := 14) rfl rfl
theorem m_7_16 : Cond.lays RX12 "PennyBooksModel" "bottom" "J" ∈ pb_tbl := pb_tm7 (i := 16) rfl rfl
theorem m_7_18 : Cond.laysFinal RX12 "PennyBooksModel" "sort" "[I" ∈ pb_tbl := pb_tm7 (i := 18) rfl rfl
theorem m_7_20 : Cond.laysFinal RX12 "PennyBooksModel" "many" "[I" ∈ pb_tbl := pb_tm7 (i := 20) rfl rfl
theorem m_7_22 : Cond.laysFinal RX12 "PennyBooksModel" "trays" "[J" ∈ pb_tbl := pb_tm7 (i := 22) rfl rfl
theorem m_7_24 : Cond.lays RX12 "PennyBooksModel" "families" "I" ∈ pb_tbl := pb_tm7 (i := 24) rfl rfl
theorem m_7_26 : Cond.lays RX12 "PennyBooksModel" "lines" "I" ∈ pb_tbl := pb_tm7 (i := 26) rfl rfl
theorem m_7_28 : Cond.lays RX12 "PennyBooksModel" "readings" "I" ∈ pb_tbl := pb_tm7 (i := 28) rfl rfl
theorem m_7_30 : Cond.lays RX12 "PennyBooksModel" "latest" "I" ∈ pb_tbl := pb_tm7 (i := 30) rfl rfl
theorem m_7_32 : Cond.lays RX12 "PennyBooksModel" "asof" "I" ∈ pb_tbl := pb_tm7 (i := 32) rfl rfl
theorem m_7_34 : Cond.lays RX12 "PennyBooksModel" "hasWords" "Z" ∈ pb_tbl := pb_tm7 (i := 34) rfl rfl
theorem m_7_36 : Cond.laysFinal RX12 "PennyBooksModel" "fClass" "[I" ∈ pb_tbl := pb_tm7 (i := 36) rfl rfl
theorem m_7_38 : Cond.laysFinal RX12 "PennyBooksModel" "fLand" "[I" ∈ pb_tbl := pb_tm7 (i := 38) rfl rfl
theorem m_7_40 : Cond.laysFinal RX12 "PennyBooksModel" "lFamily" "[I" ∈ pb_tbl := pb_tm7 (i := 40) rfl rfl
theorem m_7_42 : Cond.laysFinal RX12 "PennyBooksModel" "lWeek" "[I" ∈ pb_tbl := pb_tm7 (i := 42) rfl rfl
theorem m_7_44 : Cond.laysFinal RX12 "PennyBooksModel" "lShop" "[I" ∈ pb_tbl := pb_tm7 (i := 44) rfl rfl
theorem m_7_46 : Cond.laysFinal RX12 "PennyBooksModel" "lPence" "[I" ∈ pb_tbl := pb_tm7 (i := 46) rfl rfl
theorem m_7_48 : Cond.laysFinal RX12 "PennyBooksModel" "lHand" "[I" ∈ pb_tbl := pb_tm7 (i := 48) rfl rfl
theorem m_7_50 : Cond.laysFinal RX12 "PennyBooksModel" "lKnown" "[I" ∈ pb_tbl := pb_tm7 (i := 50) rfl rfl
theorem m_7_52 : Cond.laysFinal RX12 "PennyBooksModel" "rLine" "[I" ∈ pb_tbl := pb_tm7 (i := 52) rfl rfl
theorem m_7_54 : Cond.laysFinal RX12 "PennyBooksModel" "rPence" "[I" ∈ pb_tbl := pb_tm7 (i := 54) rfl rfl
theorem m_7_56 : Cond.laysFinal RX12 "PennyBooksModel" "rKnown" "[I" ∈ pb_tbl := pb_tm7 (i := 56) rfl rfl
theorem m_7_58 : Cond.laysFinal RX12 "PennyBooksModel" "lWord" "[J" ∈ pb_tbl := pb_tm7 (i := 58) rfl rfl
theorem m_7_60 : Cond.laysFinal RX12 "PennyBooksModel" "nextWord" "[J" ∈ pb_tbl := pb_tm7 (i := 60) rfl rfl
theorem m_7_62 : Cond.laysFinal RX12 "PennyBooksModel" "isCame" "[Z" ∈ pb_tbl := pb_tm7 (i := 62) rfl rfl
theorem m_7_64 : Cond.laysFinal RX12 "PennyBooksModel" "tape" "[B" ∈ pb_tbl := pb_tm7 (i := 64) rfl rfl
theorem m_7_66 : Cond.laysFinal RX12 "PennyBooksModel" "text" "[B" ∈ pb_tbl := pb_tm7 (i := 66) rfl rfl
theorem m_7_68 : Cond.lays RX12 "PennyBooksModel" "taped" "I" ∈ pb_tbl := pb_tm7 (i := 68) rfl rfl
theorem m_7_70 : Cond.lays RX12 "PennyBooksModel" "size" "I" ∈ pb_tbl := pb_tm7 (i := 70) rfl rfl
theorem m_7_72 : Cond.lays RX12 "PennyBooksModel" "token" "I" ∈ pb_tbl := pb_tm7 (i := 72) rfl rfl
theorem m_7_74 : Cond.lays RX12 "PennyBooksModel" "from" "I" ∈ pb_tbl := pb_tm7 (i := 74) rfl rfl
theorem m_7_76 : Cond.lays RX12 "PennyBooksModel" "end" "I" ∈ pb_tbl := pb_tm7 (i := 76) rfl rfl
theorem m_7_78 : Cond.lays RX12 "PennyBooksModel" "value" "I" ∈ pb_tbl := pb_tm7 (i := 78) rfl rfl
theorem m_7_80 : Cond.lays RX12 "PennyBooksModel" "faultKind" "I" ∈ pb_tbl := pb_tm7 (i := 80) rfl rfl
theorem m_7_82 : Cond.lays RX12 "PennyBooksModel" "faultPlace" "I" ∈ pb_tbl := pb_tm7 (i := 82) rfl rfl
theorem m_7_84 : Cond.lays RX12 "PennyBooksModel" "faults" "I" ∈ pb_tbl := pb_tm7 (i := 84) rfl rfl
theorem m_7_86 : Cond.lays RX12 "PennyBooksModel" "editions" "I" ∈ pb_tbl := pb_tm7 (i := 86) rfl rfl
theorem m_7_88 : Cond.lays RX12 "PennyBooksModel" "signs" "I" ∈ pb_tbl := pb_tm7 (i := 88) rfl rfl
theorem m_7_90 : Cond.lays RX12 "PennyBooksModel" "ones" "I" ∈ pb_tbl := pb_tm7 (i := 90) rfl rfl
theorem m_7_92 : Cond.laysFinal RX12 "PennyBooksModel" "eRules" "[I" ∈ pb_tbl := pb_tm7 (i := 92) rfl rfl
theorem m_7_94 : Cond.laysFinal RX12 "PennyBooksModel" "testFrom" "[I" ∈ pb_tbl := pb_tm7 (i := 94) rfl rfl
theorem m_7_96 : Cond.laysFinal RX12 "PennyBooksModel" "testTo" "[I" ∈ pb_tbl := pb_tm7 (i := 96) rfl rfl
theorem m_7_98 : Cond.laysFinal RX12 "PennyBooksModel" "kindFrom" "[I" ∈ pb_tbl := pb_tm7 (i := 98) rfl rfl
theorem m_7_100 : Cond.laysFinal RX12 "PennyBooksModel" "kindTo" "[I" ∈ pb_tbl := pb_tm7 (i := 100) rfl rfl
theorem m_7_102 : Cond.laysFinal RX12 "PennyBooksModel" "unitsTo" "[I" ∈ pb_tbl := pb_tm7 (i := 102) rfl rfl
theorem m_7_104 : Cond.laysFinal RX12 "PennyBooksModel" "oneKind" "[I" ∈ pb_tbl := pb_tm7 (i := 104) rfl rfl
theorem m_7_106 : Cond.laysFinal RX12 "PennyBooksModel" "leftFrom" "[I" ∈ pb_tbl := pb_tm7 (i := 106) rfl rfl
theorem m_7_108 : Cond.laysFinal RX12 "PennyBooksModel" "leftTo" "[I" ∈ pb_tbl := pb_tm7 (i := 108) rfl rfl
theorem m_7_110 : Cond.laysFinal RX12 "PennyBooksModel" "rightTo" "[I" ∈ pb_tbl := pb_tm7 (i := 110) rfl rfl
theorem m_7_112 : Cond.laysFinal RX12 "PennyBooksModel" "compares" "[I" ∈ pb_tbl := pb_tm7 (i := 112) rfl rfl
theorem m_7_114 : Cond.laysFinal RX12 "PennyBooksModel" "oneWord" "[J" ∈ pb_tbl := pb_tm7 (i := 114) rfl rfl
theorem m_7_116 : Cond.laysFinal RX12 "PennyBooksModel" "isNot" "[Z" ∈ pb_tbl := pb_tm7 (i := 116) rfl rfl
theorem m_7_118 : Cond.laysFinal RX12 "PennyBooksModel" "begins" "[Z" ∈ pb_tbl := pb_tm7 (i := 118) rfl rfl
theorem m_7_120 : Cond.laysFinal RX12 "PennyBooksModel" "sign" "[I" ∈ pb_tbl := pb_tm7 (i := 120) rfl rfl
theorem m_7_122 : Cond.laysFinal RX12 "PennyBooksModel" "signOf" "[I" ∈ pb_tbl := pb_tm7 (i := 122) rfl rfl
theorem m_7_124 : Cond.laysFinal RX12 "PennyBooksModel" "waitsSum" "[I" ∈ pb_tbl := pb_tm7 (i := 124) rfl rfl
theorem m_7_126 : Cond.laysFinal RX12 "PennyBooksModel" "waitsItem" "[I" ∈ pb_tbl := pb_tm7 (i := 126) rfl rfl
theorem m_7_128 : Cond.lays RX12 "PennyBooksModel" "faultRules" "I" ∈ pb_tbl := pb_tm7 (i := 128) rfl rfl
theorem m_7_130 : Cond.laysFinal RX12 "PennyBooksModel" "variables" "[J" ∈ pb_tbl := pb_tm7 (i := 130) rfl rfl
theorem m_7_132 : Cond.laysFinal RX12 "PennyBooksModel" "stack" "[J" ∈ pb_tbl := pb_tm7 (i := 132) rfl rfl
theorem m_7_134 : Cond.lays RX12 "PennyBooksModel" "itsRule" "I" ∈ pb_tbl := pb_tm7 (i := 134) rfl rfl
theorem m_7_136 : Cond.lays RX12 "PennyBooksModel" "itsKind" "I" ∈ pb_tbl := pb_tm7 (i := 136) rfl rfl
theorem m_7_138 : Cond.lays RX12 "PennyBooksModel" "itsUnits" "I" ∈ pb_tbl := pb_tm7 (i := 138) rfl rfl
theorem m_7_140 : Cond.laysFinal RX12 "PennyBooksModel" "tFamily" "[I" ∈ pb_tbl := pb_tm7 (i := 140) rfl rfl
theorem m_7_142 : Cond.laysFinal RX12 "PennyBooksModel" "tWeek" "[I" ∈ pb_tbl := pb_tm7 (i := 142) rfl rfl
theorem m_7_144 : Cond.laysFinal RX12 "PennyBooksModel" "tSum" "[I" ∈ pb_tbl := pb_tm7 (i := 144) rfl rfl
theorem m_7_146 : Cond.lays RX12 "PennyBooksModel" "tolds" "I" ∈ pb_tbl := pb_tm7 (i := 146) rfl rfl
theorem m_7_148 : Cond.laysFinal RX12 "PennyBooksModel" "weekLine" "[I" ∈ pb_tbl := pb_tm7 (i := 148) rfl rfl
theorem m_7_150 : Cond.laysFinal RX12 "PennyBooksModel" "slip" "[I" ∈ pb_tbl := pb_tm7 (i := 150) rfl rfl
theorem m_7_152 : Cond.laysFinal RX12 "PennyBooksModel" "firstSlip" "[I" ∈ pb_tbl := pb_tm7 (i := 152) rfl rfl
theorem m_7_154 : Cond.lays RX12 "PennyBooksModel" "weekMany" "I" ∈ pb_tbl := pb_tm7 (i := 154) rfl rfl
theorem m_7_156 : Cond.lays RX12 "PennyBooksModel" "outBy" "I" ∈ pb_tbl := pb_tm7 (i := 156) rfl rfl
theorem m_7_158 : Cond.lays RX12 "PennyBooksModel" "few" "I" ∈ pb_tbl := pb_tm7 (i := 158) rfl rfl
theorem m_7_160 : Cond.lays RX12 "PennyBooksModel" "rivals" "I" ∈ pb_tbl := pb_tm7 (i := 160) rfl rfl
theorem m_7_162 : Cond.lays RX12 "PennyBooksModel" "firstCarry" "I" ∈ pb_tbl := pb_tm7 (i := 162) rfl rfl
theorem m_7_164 : Cond.lays RX12 "PennyBooksModel" "near" "I" ∈ pb_tbl := pb_tm7 (i := 164) rfl rfl
theorem m_7_166 : Cond.lays RX12 "PennyBooksModel" "shut" "I" ∈ pb_tbl := pb_tm7 (i := 166) rfl rfl
theorem m_7_168 : Cond.laysFinal RX12 "PennyBooksModel" "price" "[I" ∈ pb_tbl := pb_tm7 (i := 168) rfl rfl
theorem m_7_170 : Cond.laysFinal RX12 "PennyBooksModel" "most" "[I" ∈ pb_tbl := pb_tm7 (i := 170) rfl rfl
theorem m_7_172 : Cond.laysFinal RX12 "PennyBooksModel" "unitsIn" "[I" ∈ pb_tbl := pb_tm7 (i := 172) rfl rfl
theorem m_7_174 : Cond.laysFinal RX12 "PennyBooksModel" "manyWays" "[J" ∈ pb_tbl := pb_tm7 (i := 174) rfl rfl
theorem m_7_176 : Cond.laysFinal RX12 "PennyBooksModel" "fewer" "[J" ∈ pb_tbl := pb_tm7 (i := 176) rfl rfl
theorem m_7_178 : Cond.laysFinal RX12 "PennyBooksModel" "thingAway" "[I" ∈ pb_tbl := pb_tm7 (i := 178) rfl rfl
theorem m_7_180 : Cond.laysFinal RX12 "PennyBooksModel" "thingWeek" "[I" ∈ pb_tbl := pb_tm7 (i := 180) rfl rfl
theorem m_7_182 : Cond.lays RX12 "PennyBooksModel" "members" "I" ∈ pb_tbl := pb_tm7 (i := 182) rfl rfl
theorem m_7_184 : Cond.laysFinal RX12 "PennyBooksModel" "mFamily" "[I" ∈ pb_tbl := pb_tm7 (i := 184) rfl rfl
theorem m_7_186 : Cond.laysFinal RX12 "PennyBooksModel" "mBorn" "[I" ∈ pb_tbl := pb_tm7 (i := 186) rfl rfl
theorem m_7_188 : Cond.laysFinal RX12 "PennyBooksModel" "mFrom" "[I" ∈ pb_tbl := pb_tm7 (i := 188) rfl rfl
theorem m_7_190 : Cond.laysFinal RX12 "PennyBooksModel" "mTo" "[I" ∈ pb_tbl := pb_tm7 (i := 190) rfl rfl
theorem m_7_192 : Cond.laysFinal RX12 "PennyBooksModel" "mouth" "[I" ∈ pb_tbl := pb_tm7 (i := 192) rfl rfl
theorem m_7_194 : Cond.laysFinal RX12 "PennyBooksModel" "pricePence" "[I" ∈ pb_tbl := pb_tm7 (i := 194) rfl rfl
theorem m_7_196 : Cond.laysFinal RX12 "PennyBooksModel" "priceUnits" "[I" ∈ pb_tbl := pb_tm7 (i := 196) rfl rfl
theorem m_7_198 : Cond.laysFinal RX12 "PennyBooksModel" "handMany" "[I" ∈ pb_tbl := pb_tm7 (i := 198) rfl rfl
theorem m_7_200 : Cond.laysFinal RX12 "PennyBooksModel" "weight" "[I" ∈ pb_tbl := pb_tm7 (i := 200) rfl rfl
theorem m_7_202 : Cond.laysFinal RX12 "PennyBooksModel" "foundWeight" "[I" ∈ pb_tbl := pb_tm7 (i := 202) rfl rfl
theorem m_7_204 : Cond.laysFinal RX12 "PennyBooksModel" "has" "[I" ∈ pb_tbl := pb_tm7 (i := 204) rfl rfl
theorem m_7_206 : Cond.lays RX12 "PennyBooksModel" "weighed" "I" ∈ pb_tbl := pb_tm7 (i := 206) rfl rfl
theorem m_7_208 : Cond.lays RX12 "PennyBooksModel" "losses" "I" ∈ pb_tbl := pb_tm7 (i := 208) rfl rfl
theorem m_7_210 : Cond.laysFinal RX12 "PennyBooksModel" "oFamily" "[I" ∈ pb_tbl := pb_tm7 (i := 210) rfl rfl
theorem m_7_212 : Cond.laysFinal RX12 "PennyBooksModel" "oWeek" "[I" ∈ pb_tbl := pb_tm7 (i := 212) rfl rfl
theorem u_X12 : ∀ w ∈ u_ws RX12 TX12 101, w ∈ pb_tbl := by
  intro w hw
  obtain ⟨k, hk, rfl⟩ := List.mem_map.mp hw
  have hk := List.mem_range.mp hk
  match k, hk with
  | 0, _ => exact m_7_12
  | 1, _ => exact m_7_14
  | 2, _ => exact m_7_16
  | 3, _ => exact m_7_18
  | 4, _ => exact m_7_20
  | 5, _ => exact m_7_22
  | 6, _ => exact m_7_24
  | 7, _ => exact m_7_26
  | 8, _ => exact m_7_28
  | 9, _ => exact m_7_30
  | 10, _ => exact m_7_32
  | 11, _ => exact m_7_34
  | 12, _ => exact m_7_36
  | 13, _ => exact m_7_38
  | 14, _ => exact m_7_40
  | 15, _ => exact m_7_42
  | 16, _ => exact m_7_44
  | 17, _ => exact m_7_46
  | 18, _ => exact m_7_48
  | 19, _ => exact m_7_50
  | 20, _ => exact m_7_52
  | 21, _ => exact m_7_54
  | 22, _ => exact m_7_56
  | 23, _ => exact m_7_58
  | 24, _ => exact m_7_60
  | 25, _ => exact m_7_62
  | 26, _ => exact m_7_64
  | 27, _ => exact m_7_66
  | 28, _ => exact m_7_68
  | 29, _ => exact m_7_70
  | 30, _ => exact m_7_72
  | 31, _ => exact m_7_74
  | 32, _ => exact m_7_76
  | 33, _ => exact m_7_78
  | 34, _ => exact m_7_80
  | 35, _ => exact m_7_82
  | 36, _ => exact m_7_84
  | 37, _ => exact m_7_86
  | 38, _ => exact m_7_88
  | 39, _ => exact m_7_90
  | 40, _ => exact m_7_92
  | 41, _ => exact m_7_94
  | 42, _ => exact m_7_96
  | 43, _ => exact m_7_98
  | 44, _ => exact m_7_100
  | 45, _ => exact m_7_102
  | 46, _ => exact m_7_104
  | 47, _ => exact m_7_106
  | 48, _ => exact m_7_108
  | 49, _ => exact m_7_110
  | 50, _ => exact m_7_112
  | 51, _ => exact m_7_114
  | 52, _ => exact m_7_116
  | 53, _ => exact m_7_118
  | 54, _ => exact m_7_120
  | 55, _ => exact m_7_122
  | 56, _ => exact m_7_124
  | 57, _ => exact m_7_126
  | 58, _ => exact m_7_128
  | 59, _ => exact m_7_130
  | 60, _ => exact m_7_132
  | 61, _ => exact m_7_134
  | 62, _ => exact m_7_136
  | 63, _ => exact m_7_138
  | 64, _ => exact m_7_140
  | 65, _ => exact m_7_142
  | 66, _ => exact m_7_144
  | 67, _ => exact m_7_146
  | 68, _ => exact m_7_148
  | 69, _ => exact m_7_150
  | 70, _ => exact m_7_152
  | 71, _ => exact m_7_154
  | 72, _ => exact m_7_156
  | 73, _ => exact m_7_158
  | 74, _ => exact m_7_160
  | 75, _ => exact m_7_162
  | 76, _ => exact m_7_164
  | 77, _ => exact m_7_166
  | 78, _ => exact m_7_168
  | 79, _ => exact m_7_170
  | 80, _ => exact m_7_172
  | 81, _ => exact m_7_174
  | 82, _ => exact m_7_176
  | 83, _ => exact m_7_178
  | 84, _ => exact m_7_180
  | 85, _ => exact m_7_182
  | 86, _ => exact m_7_184
  | 87, _ => exact m_7_186
  | 88, _ => exact m_7_188
  | 89, _ => exact m_7_190
  | 90, _ => exact m_7_192
  | 91, _ => exact m_7_194
  | 92, _ => exact m_7_196
  | 93, _ => exact m_7_198
  | 94, _ => exact m_7_200
  | 95, _ => exact m_7_202
  | 96, _ => exact m_7_204
  | 97, _ => exact m_7_206
  | 98, _ => exact m_7_208
  | 99, _ => exact m_7_210
  | 100, _ => exact m_7_212
  | j + 101, h => omega
theorem h_64 : pb_sh[64]? = some (.inr (12, [.inr true, .inr false, .inr false, .inl 65, .inl 66, .inl 67, .inr true, .inr true, .inr true, .inr true, .inr true, .inr true, .inl 68, .inl 69, .inl 70, .inl 71, .inl 72, .inl 73, .inl 74, .inl 75, .inl 76, .inl 77, .inl 78, .inl 79, .inl 80, .inl 81, .inl 82, .inl 83, .inr true, .inr true, .inr true, .inr true, .inr true, .inr true, .inr true, .inr true, .inr true, .inr true, .inr true, .inr true, .inl 84, .inl 85, .inl 86, .inl 87, .inl 88, .inl 89, .inl 90, .inl 91, .inl 92, .inl 93, .inl 94, .inl 95, .inl 96, .inl 97, .inl 98, .inl 99, .inl 100, .inl 101, .inr true, .inl 102, .inl 103, .inr true, .inr true, .inr true, .inl 104, .inl 105, .inl 106, .inr true, .inl 107, .inl 108, .inl 109, .inr true, .inr true, .inr true, .inr true, .inr true, .inr true, .inr true, .inl 110, .inl 111, .inl 112, .inl 113, .inl 114, .inl 115, .inl 116, .inr true, .inl 117, .inl 118, .inl 119, .inl 120, .inl 121, .inl 122, .inl 123, .inl 124, .inl 125, .inl 126, .inl 127, .inr true, .inr true, .inl 128, .inl 129])) := rfl
theorem g_X12_231 : pb_fd 64 0 (.inr true) RX12 231 := ⟨12, _, RX12, TX12, 101, h_64, rfl, rfl, by decide, u_X12, Or.inl m_6_151⟩
theorem m_7_218 : Cond.code yX12_status cX12_status 1 (some .int) ∈ pb_tbl := pb_tm7 (i := 218) rfl rfl
theorem m_6_152 : Cond.fieldLink RX12 234 "PennyBooksModel" "top" "J" ∈ pb_tbl := pb_tm6 (i := 152) rfl rfl
theorem g_X12_234 : pb_fd 64 1 (.inr false) RX12 234 := ⟨12, _, RX12, TX12, 101, h_64, rfl, rfl, by decide, u_X12, Or.inl m_6_152⟩
theorem m_7_222 : Cond.code yX12_top cX12_top 1 (some .long) ∈ pb_tbl := pb_tm7 (i := 222) rfl rfl
theorem m_6_153 : Cond.fieldLink RX12 7 "PennyBooksModel" "bottom" "J" ∈ pb_tbl := pb_tm6 (i := 153) rfl rfl
theorem g_X12_7 : pb_fd 64 2 (.inr false) RX12 7 := ⟨12, _, RX12, TX12, 101, h_64, rfl, rfl, by decide, u_X12, Or.inl m_6_153⟩
theorem m_7_226 : Cond.code yX12_bottom cX12_bottom 1 (some .long) ∈ pb_tbl := pb_tm7 (i := 226) rfl rfl
theorem m_7_233 : Cond.code yX12_isTray cX12_isTray 1 (some .boolean) ∈ pb_tbl := pb_tm7 (i := 233) rfl rfl
theorem p_X12_231 : pb_fp 64 0 (.inr true) .int RX12 231 := ⟨12, _, RX12, TX12, 101, tyX12, h_64, rfl, rfl, by decide, u_X12, Or.inl m_6_151, tyX12_ok, nmX12, rfl, rfl⟩
theorem m_7_237 : Cond.code yX12_is cX12_is 2 (some .boolean) ∈ pb_tbl := pb_tm7 (i := 237) rfl rfl
theorem m_7_231 : Cond.methodLink RX12 241 yX12_isTray ∈ pb_tbl := pb_tm7 (i := 231) rfl rfl
theorem m_7_232 : Cond.static yX12_isTray ∈ pb_tbl := pb_tm7 (i := 232) rfl rfl
theorem m_1_13 : Cond.initialized RX12 ∈ pb_tbl := pb_tm1 (i := 13) rfl rfl
theorem q_X12_241 : pb_cs RX12 241 yX12_isTray 1 := ⟨Or.inl m_7_231, m_7_232, m_1_13, by decide +kernel, by decide +kernel, by decide +kernel⟩
theorem m_7_234 : Cond.methodLink RX12 245 yX12_is ∈ pb_tbl := pb_tm7 (i := 234) rfl rfl
theorem m_7_236 : Cond.instanceMethod yX12_is ∈ pb_tbl := pb_tm7 (i := 236) rfl rfl
theorem ms_X12_is : Cond.selects yX12_is.cls yX12_is yX12_is ∈ pb_tbl := pb_ps4 (i := 7) (q := (yX12_is, 101)) rfl
theorem q_X12_245 : pb_ci RX12 245 yX12_is 1 := ⟨Or.inl m_7_234, m_7_236, ms_X12_is, m_1_13, by decide +kernel, by decide +kernel, by decide +kernel⟩
theorem m_6_154 : Cond.fieldLink RX12 13 "PennyBooksModel" "sort" "[I" ∈ pb_tbl := pb_tm6 (i := 154) rfl rfl
theorem g_X12_13 : pb_fd 64 3 (.inl 65) RX12 13 := ⟨12, _, RX12, TX12, 101, h_64, rfl, rfl, by decide, u_X12, Or.inl m_6_154⟩
theorem h_65 : pb_sh[65]? = some (.inl (0, 4)) := rfl
theorem m_6_155 : Cond.fieldLink RX12 17 "PennyBooksModel" "many" "[I" ∈ pb_tbl := pb_tm6 (i := 155) rfl rfl
theorem g_X12_17 : pb_fd 64 4 (.inl 66) RX12 17 := ⟨12, _, RX12, TX12, 101, h_64, rfl, rfl, by decide, u_X12, Or.inl m_6_155⟩
theorem h_66 : pb_sh[66]? = some (.inl (0, 4)) := rfl
theorem m_6_156 : Cond.fieldLink RX12 20 "PennyBooksModel" "trays" "[J" ∈ pb_tbl := pb_tm6 (i := 156) rfl rfl
theorem g_X12_20 : pb_fd 64 5 (.inl 67) RX12 20 := ⟨12, _, RX12, TX12, 101, h_64, rfl, rfl, by decide, u_X12, Or.inl m_6_156⟩
theorem h_67 : pb_sh[67]? = some (.inl (3, 240)) := rfl
theorem m_7_230 : Cond.code yX12_tray cX12_tray 5 (some .boolean) ∈ pb_tbl := pb_tm7 (i := 230) rfl rfl
theorem m_8_5 : Cond.code yX12_wrongPlace cX12_wrongPlace 3 (some .int) ∈ pb_tbl := pb_tm8 (i := 5) rfl rfl
theorem m_8_8 : Cond.code yX12_cut cX12_cut 3 (some .long) ∈ pb_tbl := pb_tm8 (i := 8) rfl rfl
theorem m_8_2 : Cond.methodLink RX12 248 yX12_wrongPlace ∈ pb_tbl := pb_tm8 (i := 2) rfl rfl
theorem m_8_4 : Cond.instanceMethod yX12_wrongPlace ∈ pb_tbl := pb_tm8 (i := 4) rfl rfl
theorem ms_X12_wrongPlace : Cond.selects yX12_wrongPlace.cls yX12_wrongPlace yX12_wrongPlace ∈ pb_tbl := pb_ps4 (i := 8) (q := (yX12_wrongPlace, 101)) rfl
theorem q_X12_248 : pb_ci RX12 248 yX12_wrongPlace 2 := ⟨Or.inl m_8_2, m_8_4, ms_X12_wrongPlace, m_1_13, by decide +kernel, by decide +kernel, by decide +kernel⟩
theorem m_8_6 : Cond.methodLink RX12 252 yX12_cut ∈ pb_tbl := pb_tm8 (i := 6) rfl rfl
theorem m_8_7 : Cond.static yX12_cut ∈ pb_tbl := pb_tm8 (i := 7) rfl rfl
theorem q_X12_252 : pb_cs RX12 252 yX12_cut 2 := ⟨Or.inl m_8_6, m_8_7, m_1_13, by decide +kernel, by decide +kernel, by decide +kernel⟩
theorem m_8_1 : Cond.code yX12_write cX12_write 6 (some .boolean) ∈ pb_tbl := pb_tm8 (i := 1) rfl rfl
theorem m_8_13 : Cond.constantLong RX12 256 (-1) ∈ pb_tbl := pb_tm8 (i := 13) rfl rfl
theorem m_8_12 : Cond.code yX12_read cX12_read 3 (some .long) ∈ pb_tbl := pb_tm8 (i := 12) rfl rfl
theorem m_8_17 : Cond.code yX12_pour cX12_pour 8 (some .boolean) ∈ pb_tbl := pb_tm8 (i := 17) rfl rfl
theorem m_8_24 : Cond.code yX12_isQuarter cX12_isQuarter 1 (some .boolean) ∈ pb_tbl := pb_tm8 (i := 24) rfl rfl
theorem m_8_28 : Cond.code yX12_refuse cX12_refuse 2 (some .int) ∈ pb_tbl := pb_tm8 (i := 28) rfl rfl
theorem m_8_32 : Cond.code yX12_gives cX12_gives 2 (some .int) ∈ pb_tbl := pb_tm8 (i := 32) rfl rfl
theorem m_8_22 : Cond.methodLink RX12 264 yX12_isQuarter ∈ pb_tbl := pb_tm8 (i := 22) rfl rfl
theorem m_8_23 : Cond.static yX12_isQuarter ∈ pb_tbl := pb_tm8 (i := 23) rfl rfl
theorem q_X12_264 : pb_cs RX12 264 yX12_isQuarter 1 := ⟨Or.inl m_8_22, m_8_23, m_1_13, by decide +kernel, by decide +kernel, by decide +kernel⟩
theorem m_8_25 : Cond.methodLink RX12 267 yX12_refuse ∈ pb_tbl := pb_tm8 (i := 25) rfl rfl
theorem m_8_27 : Cond.instanceMethod yX12_refuse ∈ pb_tbl := pb_tm8 (i := 27) rfl rfl
theorem ms_X12_refuse : Cond.selects yX12_refuse.cls yX12_refuse yX12_refuse ∈ pb_tbl := pb_ps4 (i := 9) (q := (yX12_refuse, 101)) rfl
theorem q_X12_267 : pb_ci RX12 267 yX12_refuse 1 := ⟨Or.inl m_8_25, m_8_27, ms_X12_refuse, m_1_13, by decide +kernel, by decide +kernel, by decide +kernel⟩
theorem m_6_157 : Cond.fieldLink RX12 258 "PennyBooksModel" "families" "I" ∈ pb_tbl := pb_tm6 (i := 157) rfl rfl
theorem g_X12_258 : pb_fd 64 6 (.inr true) RX12 258 := ⟨12, _, RX12, TX12, 101, h_64, rfl, rfl, by decide, u_X12, Or.inl m_6_157⟩
theorem m_6_163 : Cond.fieldLink RX12 28 "PennyBooksModel" "fClass" "[I" ∈ pb_tbl := pb_tm6 (i := 163) rfl rfl
theorem g_X12_28 : pb_fd 64 12 (.inl 68) RX12 28 := ⟨12, _, RX12, TX12, 101, h_64, rfl, rfl, by decide, u_X12, Or.inl m_6_163⟩
theorem h_68 : pb_sh[68]? = some (.inl (0, 12)) := rfl
theorem m_6_164 : Cond.fieldLink RX12 31 "PennyBooksModel" "fLand" "[I" ∈ pb_tbl := pb_tm6 (i := 164) rfl rfl
theorem g_X12_31 : pb_fd 64 13 (.inl 69) RX12 31 := ⟨12, _, RX12, TX12, 101, h_64, rfl, rfl, by decide, u_X12, Or.inl m_6_164⟩
theorem h_69 : pb_sh[69]? = some (.inl (0, 12)) := rfl
theorem p_X12_258 : pb_fp 64 6 (.inr true) .int RX12 258 := ⟨12, _, RX12, TX12, 101, tyX12, h_64, rfl, rfl, by decide, u_X12, Or.inl m_6_157, tyX12_ok, nmX12, rfl, rfl⟩
theorem m_8_29 : Cond.methodLink RX12 237 yX12_gives ∈ pb_tbl := pb_tm8 (i := 29) rfl rfl
theorem m_8_31 : Cond.instanceMethod yX12_gives ∈ pb_tbl := pb_tm8 (i := 31) rfl rfl
theorem ms_X12_gives : Cond.selects yX12_gives.cls yX12_gives yX12_gives ∈ pb_tbl := pb_ps4 (i := 10) (q := (yX12_gives, 101)) rfl
theorem q_X12_237 : pb_ci RX12 237 yX12_gives 1 := ⟨Or.inl m_8_29, m_8_31, ms_X12_gives, m_1_13, by decide +kernel, by decide +kernel, by decide +kernel⟩
theorem m_8_21 : Cond.code yX12_family cX12_family 3 (some .int) ∈ pb_tbl := pb_tm8 (i := 21) rfl rfl
theorem m_8_40 : Cond.constantLong RX12 270 (1099511627776) ∈ pb_tbl := pb_tm8 (i := 40) rfl rfl
theorem m_8_41 : Cond.constantLong RX12 272 (31) ∈ pb_tbl := pb_tm8 (i := 41) rfl rfl
theorem m_8_42 : Cond.constantLong RX12 274 (26) ∈ pb_tbl := pb_tm8 (i := 42) rfl rfl
theorem m_8_39 : Cond.code yX12_isWord cX12_isWord 5 (some .boolean) ∈ pb_tbl := pb_tm8 (i := 39) rfl rfl
theorem m_8_37 : Cond.methodLink RX12 276 yX12_isWord ∈ pb_tbl := pb_tm8 (i := 37) rfl rfl
theorem m_8_38 : Cond.static yX12_isWord ∈ pb_tbl := pb_tm8 (i := 38) rfl rfl
theorem q_X12_276 : pb_cs RX12 276 yX12_isWord 1 := ⟨Or.inl m_8_37, m_8_38, m_1_13, by decide +kernel, by decide +kernel, by decide +kernel⟩
theorem m_6_175 : Cond.fieldLink RX12 64 "PennyBooksModel" "nextWord" "[J" ∈ pb_tbl := pb_tm6 (i := 175) rfl rfl
theorem g_X12_64 : pb_fd 64 24 (.inl 80) RX12 64 := ⟨12, _, RX12, TX12, 101, h_64, rfl, rfl, by decide, u_X12, Or.inl m_6_175⟩
theorem h_80 : pb_sh[80]? = some (.inl (3, 3)) := rfl
theorem m_6_162 : Cond.fieldLink RX12 280 "PennyBooksModel" "hasWords" "Z" ∈ pb_tbl := pb_tm6 (i := 162) rfl rfl
theorem p_X12_280 : pb_fp 64 11 (.inr true) .boolean RX12 280 := ⟨12, _, RX12, TX12, 101, tyX12, h_64, rfl, rfl, by decide, u_X12, Or.inl m_6_162, tyX12_ok, nmX12, rfl, rfl⟩
theorem m_8_36 : Cond.code yX12_words cX12_words 7 (some .boolean) ∈ pb_tbl := pb_tm8 (i := 36) rfl rfl
theorem m_8_50 : Cond.code yX12_isFamily cX12_isFamily 2 (some .boolean) ∈ pb_tbl := pb_tm8 (i := 50) rfl rfl
theorem m_8_53 : Cond.code yX12_isWeek cX12_isWeek 1 (some .boolean) ∈ pb_tbl := pb_tm8 (i := 53) rfl rfl
theorem m_8_56 : Cond.code yX12_isSum cX12_isSum 1 (some .boolean) ∈ pb_tbl := pb_tm8 (i := 56) rfl rfl
theorem m_8_59 : Cond.code yX12_isDay cX12_isDay 1 (some .boolean) ∈ pb_tbl := pb_tm8 (i := 59) rfl rfl
theorem m_8_47 : Cond.methodLink RX12 284 yX12_isFamily ∈ pb_tbl := pb_tm8 (i := 47) rfl rfl
theorem m_8_49 : Cond.instanceMethod yX12_isFamily ∈ pb_tbl := pb_tm8 (i := 49) rfl rfl
theorem ms_X12_isFamily : Cond.selects yX12_isFamily.cls yX12_isFamily yX12_isFamily ∈ pb_tbl := pb_ps4 (i := 11) (q := (yX12_isFamily, 101)) rfl
theorem q_X12_284 : pb_ci RX12 284 yX12_isFamily 1 := ⟨Or.inl m_8_47, m_8_49, ms_X12_isFamily, m_1_13, by decide +kernel, by decide +kernel, by decide +kernel⟩
theorem m_8_51 : Cond.methodLink RX12 287 yX12_isWeek ∈ pb_tbl := pb_tm8 (i := 51) rfl rfl
theorem m_8_52 : Cond.static yX12_isWeek ∈ pb_tbl := pb_tm8 (i := 52) rfl rfl
theorem q_X12_287 : pb_cs RX12 287 yX12_isWeek 1 := ⟨Or.inl m_8_51, m_8_52, m_1_13, by decide +kernel, by decide +kernel, by decide +kernel⟩
theorem m_8_54 : Cond.methodLink RX12 290 yX12_isSum ∈ pb_tbl := pb_tm8 (i := 54) rfl rfl
theorem m_8_55 : Cond.static yX12_isSum ∈ pb_tbl := pb_tm8 (i := 55) rfl rfl
theorem q_X12_290 : pb_cs RX12 290 yX12_isSum 1 := ⟨Or.inl m_8_54, m_8_55, m_1_13, by decide +kernel, by decide +kernel, by decide +kernel⟩
theorem m_8_57 : Cond.methodLink RX12 293 yX12_isDay ∈ pb_tbl := pb_tm8 (i := 57) rfl rfl
theorem m_8_58 : Cond.static yX12_isDay ∈ pb_tbl := pb_tm8 (i := 58) rfl rfl
theorem q_X12_293 : pb_cs RX12 293 yX12_isDay 1 := ⟨Or.inl m_8_57, m_8_58, m_1_13, by decide +kernel, by decide +kernel, by decide +kernel⟩
theorem m_6_158 : Cond.fieldLink RX12 261 "PennyBooksModel" "lines" "I" ∈ pb_tbl := pb_tm6 (i := 158) rfl rfl
theorem g_X12_261 : pb_fd 64 7 (.inr true) RX12 261 := ⟨12, _, RX12, TX12, 101, h_64, rfl, rfl, by decide, u_X12, Or.inl m_6_158⟩
theorem m_6_160 : Cond.fieldLink RX12 296 "PennyBooksModel" "latest" "I" ∈ pb_tbl := pb_tm6 (i := 160) rfl rfl
theorem g_X12_296 : pb_fd 64 9 (.inr true) RX12 296 := ⟨12, _, RX12, TX12, 101, h_64, rfl, rfl, by decide, u_X12, Or.inl m_6_160⟩
theorem g_X12_280 : pb_fd 64 11 (.inr true) RX12 280 := ⟨12, _, RX12, TX12, 101, h_64, rfl, rfl, by decide, u_X12, Or.inl m_6_162⟩
theorem p_X12_296 : pb_fp 64 9 (.inr true) .int RX12 296 := ⟨12, _, RX12, TX12, 101, tyX12, h_64, rfl, rfl, by decide, u_X12, Or.inl m_6_160, tyX12_ok, nmX12, rfl, rfl⟩
theorem m_6_165 : Cond.fieldLink RX12 34 "PennyBooksModel" "lFamily" "[I" ∈ pb_tbl := pb_tm6 (i := 165) rfl rfl
theorem g_X12_34 : pb_fd 64 14 (.inl 70) RX12 34 := ⟨12, _, RX12, TX12, 101, h_64, rfl, rfl, by decide, u_X12, Or.inl m_6_165⟩
theorem h_70 : pb_sh[70]? = some (.inl (0, 200)) := rfl
theorem m_6_166 : Cond.fieldLink RX12 37 "PennyBooksModel" "lWeek" "[I" ∈ pb_tbl := pb_tm6 (i := 166) rfl rfl
theorem g_X12_37 : pb_fd 64 15 (.inl 71) RX12 37 := ⟨12, _, RX12, TX12, 101, h_64, rfl, rfl, by decide, u_X12, Or.inl m_6_166⟩
theorem h_71 : pb_sh[71]? = some (.inl (0, 200)) := rfl
theorem m_6_167 : Cond.fieldLink RX12 40 "PennyBooksModel" "lShop" "[I" ∈ pb_tbl := pb_tm6 (i := 167) rfl rfl
theorem g_X12_40 : pb_fd 64 16 (.inl 72) RX12 40 := ⟨12, _, RX12, TX12, 101, h_64, rfl, rfl, by decide, u_X12, Or.inl m_6_167⟩
theorem h_72 : pb_sh[72]? = some (.inl (0, 200)) := rfl
theorem m_6_168 : Cond.fieldLink RX12 43 "PennyBooksModel" "lPence" "[I" ∈ pb_tbl := pb_tm6 (i := 168) rfl rfl
theorem g_X12_43 : pb_fd 64 17 (.inl 73) RX12 43 := ⟨12, _, RX12, TX12, 101, h_64, rfl, rfl, by decide, u_X12, Or.inl m_6_168⟩
theorem h_73 : pb_sh[73]? = some (.inl (0, 200)) := rfl
theorem m_6_176 : Cond.fieldLink RX12 67 "PennyBooksModel" "isCame" "[Z" ∈ pb_tbl := pb_tm6 (i := 176) rfl rfl
theorem g_X12_67 : pb_fd 64 25 (.inl 81) RX12 67 := ⟨12, _, RX12, TX12, 101, h_64, rfl, rfl, by decide, u_X12, Or.inl m_6_176⟩
theorem h_81 : pb_sh[81]? = some (.inl (1, 200)) := rfl
theorem m_6_169 : Cond.fieldLink RX12 46 "PennyBooksModel" "lHand" "[I" ∈ pb_tbl := pb_tm6 (i := 169) rfl rfl
theorem g_X12_46 : pb_fd 64 18 (.inl 74) RX12 46 := ⟨12, _, RX12, TX12, 101, h_64, rfl, rfl, by decide, u_X12, Or.inl m_6_169⟩
theorem h_74 : pb_sh[74]? = some (.inl (0, 200)) := rfl
theorem m_6_170 : Cond.fieldLink RX12 49 "PennyBooksModel" "lKnown" "[I" ∈ pb_tbl := pb_tm6 (i := 170) rfl rfl
theorem g_X12_49 : pb_fd 64 19 (.inl 75) RX12 49 := ⟨12, _, RX12, TX12, 101, h_64, rfl, rfl, by decide, u_X12, Or.inl m_6_170⟩
theorem h_75 : pb_sh[75]? = some (.inl (0, 200)) := rfl
theorem p_X12_261 : pb_fp 64 7 (.inr true) .int RX12 261 := ⟨12, _, RX12, TX12, 101, tyX12, h_64, rfl, rfl, by decide, u_X12, Or.inl m_6_158, tyX12_ok, nmX12, rfl, rfl⟩
theorem m_6_174 : Cond.fieldLink RX12 61 "PennyBooksModel" "lWord" "[J" ∈ pb_tbl := pb_tm6 (i := 174) rfl rfl
theorem g_X12_61 : pb_fd 64 23 (.inl 79) RX12 61 := ⟨12, _, RX12, TX12, 101, h_64, rfl, rfl, by decide, u_X12, Or.inl m_6_174⟩
theorem h_79 : pb_sh[79]? = some (.inl (3, 600)) := rfl
theorem m_8_46 : Cond.code yX12_line cX12_line 9 (some .int) ∈ pb_tbl := pb_tm8 (i := 46) rfl rfl
theorem m_8_67 : Cond.code yX12_isLine cX12_isLine 2 (some .boolean) ∈ pb_tbl := pb_tm8 (i := 67) rfl rfl
theorem m_8_64 : Cond.methodLink RX12 299 yX12_isLine ∈ pb_tbl := pb_tm8 (i := 64) rfl rfl
theorem m_8_66 : Cond.instanceMethod yX12_isLine ∈ pb_tbl := pb_tm8 (i := 66) rfl rfl
theorem ms_X12_isLine : Cond.selects yX12_isLine.cls yX12_isLine yX12_isLine ∈ pb_tbl := pb_ps4 (i := 12) (q := (yX12_isLine, 101)) rfl
theorem q_X12_299 : pb_ci RX12 299 yX12_isLine 1 := ⟨Or.inl m_8_64, m_8_66, ms_X12_isLine, m_1_13, by decide +kernel, by decide +kernel, by decide +kernel⟩
theorem m_6_159 : Cond.fieldLink RX12 302 "PennyBooksModel" "readings" "I" ∈ pb_tbl := pb_tm6 (i := 159) rfl rfl
theorem g_X12_302 : pb_fd 64 8 (.inr true) RX12 302 := ⟨12, _, RX12, TX12, 101, h_64, rfl, rfl, by decide, u_X12, Or.inl m_6_159⟩
theorem m_6_171 : Cond.fieldLink RX12 52 "PennyBooksModel" "rLine" "[I" ∈ pb_tbl := pb_tm6 (i := 171) rfl rfl
theorem g_X12_52 : pb_fd 64 20 (.inl 76) RX12 52 := ⟨12, _, RX12, TX12, 101, h_64, rfl, rfl, by decide, u_X12, Or.inl m_6_171⟩
theorem h_76 : pb_sh[76]? = some (.inl (0, 60)) := rfl
theorem m_6_172 : Cond.fieldLink RX12 55 "PennyBooksModel" "rPence" "[I" ∈ pb_tbl := pb_tm6 (i := 172) rfl rfl
theorem g_X12_55 : pb_fd 64 21 (.inl 77) RX12 55 := ⟨12, _, RX12, TX12, 101, h_64, rfl, rfl, by decide, u_X12, Or.inl m_6_172⟩
theorem h_77 : pb_sh[77]? = some (.inl (0, 60)) := rfl
theorem m_6_173 : Cond.fieldLink RX12 58 "PennyBooksModel" "rKnown" "[I" ∈ pb_tbl := pb_tm6 (i := 173) rfl rfl
theorem g_X12_58 : pb_fd 64 22 (.inl 78) RX12 58 := ⟨12, _, RX12, TX12, 101, h_64, rfl, rfl, by decide, u_X12, Or.inl m_6_173⟩
theorem h_78 : pb_sh[78]? = some (.inl (0, 60)) := rfl
theorem p_X12_302 : pb_fp 64 8 (.inr true) .int RX12 302 := ⟨12, _, RX12, TX12, 101, tyX12, h_64, rfl, rfl, by decide, u_X12, Or.inl m_6_159, tyX12_ok, nmX12, rfl, rfl⟩
theorem m_8_63 : Cond.code yX12_reading cX12_reading 4 (some .boolean) ∈ pb_tbl := pb_tm8 (i := 63) rfl rfl
theorem m_6_161 : Cond.fieldLink RX12 24 "PennyBooksModel" "asof" "I" ∈ pb_tbl := pb_tm6 (i := 161) rfl rfl
theorem p_X12_24 : pb_fp 64 10 (.inr true) .int RX12 24 := ⟨12, _, RX12, TX12, 101, tyX12, h_64, rfl, rfl, by decide, u_X12, Or.inl m_6_161, tyX12_ok, nmX12, rfl, rfl⟩
theorem m_8_71 : Cond.code yX12_asof cX12_asof 2 (some .boolean) ∈ pb_tbl := pb_tm8 (i := 71) rfl rfl
theorem g_X12_24 : pb_fd 64 10 (.inr true) RX12 24 := ⟨12, _, RX12, TX12, 101, h_64, rfl, rfl, by decide, u_X12, Or.inl m_6_161⟩
theorem m_8_79 : Cond.code yX12_isKnown cX12_isKnown 2 (some .boolean) ∈ pb_tbl := pb_tm8 (i := 79) rfl rfl
theorem m_8_83 : Cond.code yX12_penceOf cX12_penceOf 4 (some .int) ∈ pb_tbl := pb_tm8 (i := 83) rfl rfl
theorem m_8_76 : Cond.methodLink RX12 305 yX12_isKnown ∈ pb_tbl := pb_tm8 (i := 76) rfl rfl
theorem m_8_78 : Cond.instanceMethod yX12_isKnown ∈ pb_tbl := pb_tm8 (i := 78) rfl rfl
theorem ms_X12_isKnown : Cond.selects yX12_isKnown.cls yX12_isKnown yX12_isKnown ∈ pb_tbl := pb_ps4 (i := 13) (q := (yX12_isKnown, 101)) rfl
theorem q_X12_305 : pb_ci RX12 305 yX12_isKnown 1 := ⟨Or.inl m_8_76, m_8_78, ms_X12_isKnown, m_1_13, by decide +kernel, by decide +kernel, by decide +kernel⟩
theorem m_8_80 : Cond.methodLink RX12 308 yX12_penceOf ∈ pb_tbl := pb_tm8 (i := 80) rfl rfl
theorem m_8_82 : Cond.instanceMethod yX12_penceOf ∈ pb_tbl := pb_tm8 (i := 82) rfl rfl
theorem ms_X12_penceOf : Cond.selects yX12_penceOf.cls yX12_penceOf yX12_penceOf ∈ pb_tbl := pb_ps4 (i := 14) (q := (yX12_penceOf, 101)) rfl
theorem q_X12_308 : pb_ci RX12 308 yX12_penceOf 1 := ⟨Or.inl m_8_80, m_8_82, ms_X12_penceOf, m_1_13, by decide +kernel, by decide +kernel, by decide +kernel⟩
theorem m_8_75 : Cond.code yX12_pence cX12_pence 2 (some .int) ∈ pb_tbl := pb_tm8 (i := 75) rfl rfl
theorem m_6_177 : Cond.fieldLink RX12 71 "PennyBooksModel" "tape" "[B" ∈ pb_tbl := pb_tm6 (i := 177) rfl rfl
theorem g_X12_71 : pb_fd 64 26 (.inl 82) RX12 71 := ⟨12, _, RX12, TX12, 101, h_64, rfl, rfl, by decide, u_X12, Or.inl m_6_177⟩
theorem m_6_179 : Cond.fieldLink RX12 311 "PennyBooksModel" "taped" "I" ∈ pb_tbl := pb_tm6 (i := 179) rfl rfl
theorem g_X12_311 : pb_fd 64 28 (.inr true) RX12 311 := ⟨12, _, RX12, TX12, 101, h_64, rfl, rfl, by decide, u_X12, Or.inl m_6_179⟩
theorem h_82 : pb_sh[82]? = some (.inl (2, 600)) := rfl
theorem p_X12_311 : pb_fp 64 28 (.inr true) .int RX12 311 := ⟨12, _, RX12, TX12, 101, tyX12, h_64, rfl, rfl, by decide, u_X12, Or.inl m_6_179, tyX12_ok, nmX12, rfl, rfl⟩
theorem m_8_91 : Cond.code yX12_four cX12_four 3 none ∈ pb_tbl := pb_tm8 (i := 91) rfl rfl
theorem m_8_88 : Cond.methodLink RX12 314 yX12_four ∈ pb_tbl := pb_tm8 (i := 88) rfl rfl
theorem m_8_90 : Cond.instanceMethod yX12_four ∈ pb_tbl := pb_tm8 (i := 90) rfl rfl
theorem ms_X12_four : Cond.selects yX12_four.cls yX12_four yX12_four ∈ pb_tbl := pb_ps4 (i := 15) (q := (yX12_four, 101)) rfl
theorem q_X12_314 : pb_ci RX12 314 yX12_four 1 := ⟨Or.inl m_8_88, m_8_90, ms_X12_four, m_1_13, by decide +kernel, by decide +kernel, by decide +kernel⟩
theorem m_8_87 : Cond.code yX12_feed cX12_feed 6 (some .int) ∈ pb_tbl := pb_tm8 (i := 87) rfl rfl
theorem m_6_180 : Cond.fieldLink RX12 318 "PennyBooksModel" "size" "I" ∈ pb_tbl := pb_tm6 (i := 180) rfl rfl
theorem g_X12_318 : pb_fd 64 29 (.inr true) RX12 318 := ⟨12, _, RX12, TX12, 101, h_64, rfl, rfl, by decide, u_X12, Or.inl m_6_180⟩
theorem m_6_178 : Cond.fieldLink RX12 75 "PennyBooksModel" "text" "[B" ∈ pb_tbl := pb_tm6 (i := 178) rfl rfl
theorem g_X12_75 : pb_fd 64 27 (.inl 83) RX12 75 := ⟨12, _, RX12, TX12, 101, h_64, rfl, rfl, by decide, u_X12, Or.inl m_6_178⟩
theorem h_83 : pb_sh[83]? = some (.inl (2, 600)) := rfl
theorem m_8_103 : Cond.code yX12_at cX12_at 2 (some .int) ∈ pb_tbl := pb_tm8 (i := 103) rfl rfl
theorem m_8_106 : Cond.code yX12_isSmall cX12_isSmall 1 (some .boolean) ∈ pb_tbl := pb_tm8 (i := 106) rfl rfl
theorem m_8_109 : Cond.code yX12_isDigit cX12_isDigit 1 (some .boolean) ∈ pb_tbl := pb_tm8 (i := 109) rfl rfl
theorem m_6_183 : Cond.fieldLink RX12 321 "PennyBooksModel" "end" "I" ∈ pb_tbl := pb_tm6 (i := 183) rfl rfl
theorem g_X12_321 : pb_fd 64 32 (.inr true) RX12 321 := ⟨12, _, RX12, TX12, 101, h_64, rfl, rfl, by decide, u_X12, Or.inl m_6_183⟩
theorem m_8_100 : Cond.methodLink RX12 324 yX12_at ∈ pb_tbl := pb_tm8 (i := 100) rfl rfl
theorem m_8_102 : Cond.instanceMethod yX12_at ∈ pb_tbl := pb_tm8 (i := 102) rfl rfl
theorem ms_X12_at : Cond.selects yX12_at.cls yX12_at yX12_at ∈ pb_tbl := pb_ps5 (i := 1) (q := (yX12_at, 101)) rfl
theorem q_X12_324 : pb_ci RX12 324 yX12_at 1 := ⟨Or.inl m_8_100, m_8_102, ms_X12_at, m_1_13, by decide +kernel, by decide +kernel, by decide +kernel⟩
theorem p_X12_321 : pb_fp 64 32 (.inr true) .int RX12 321 := ⟨12, _, RX12, TX12, 101, tyX12, h_64, rfl, rfl, by decide, u_X12, Or.inl m_6_183, tyX12_ok, nmX12, rfl, rfl⟩
theorem m_6_182 : Cond.fieldLink RX12 327 "PennyBooksModel" "from" "I" ∈ pb_tbl := pb_tm6 (i := 182) rfl rfl
theorem p_X12_327 : pb_fp 64 31 (.inr true) .int RX12 327 := ⟨12, _, RX12, TX12, 101, tyX12, h_64, rfl, rfl, by decide, u_X12, Or.inl m_6_182, tyX12_ok, nmX12, rfl, rfl⟩
theorem m_6_184 : Cond.fieldLink RX12 330 "PennyBooksModel" "value" "I" ∈ pb_tbl := pb_tm6 (i := 184) rfl rfl
theorem p_X12_330 : pb_fp 64 33 (.inr true) .int RX12 330 := ⟨12, _, RX12, TX12, 101, tyX12, h_64, rfl, rfl, by decide, u_X12, Or.inl m_6_184, tyX12_ok, nmX12, rfl, rfl⟩
theorem m_8_104 : Cond.methodLink RX12 336 yX12_isSmall ∈ pb_tbl := pb_tm8 (i := 104) rfl rfl
theorem m_8_105 : Cond.static yX12_isSmall ∈ pb_tbl := pb_tm8 (i := 105) rfl rfl
theorem q_X12_336 : pb_cs RX12 336 yX12_isSmall 1 := ⟨Or.inl m_8_104, m_8_105, m_1_13, by decide +kernel, by decide +kernel, by decide +kernel⟩
theorem m_8_107 : Cond.methodLink RX12 339 yX12_isDigit ∈ pb_tbl := pb_tm8 (i := 107) rfl rfl
theorem m_8_108 : Cond.static yX12_isDigit ∈ pb_tbl := pb_tm8 (i := 108) rfl rfl
theorem q_X12_339 : pb_cs RX12 339 yX12_isDigit 1 := ⟨Or.inl m_8_107, m_8_108, m_1_13, by decide +kernel, by decide +kernel, by decide +kernel⟩
theorem m_6_181 : Cond.fieldLink RX12 333 "PennyBooksModel" "token" "I" ∈ pb_tbl := pb_tm6 (i := 181) rfl rfl
theorem p_X12_333 : pb_fp 64 30 (.inr true) .int RX12 333 := ⟨12, _, RX12, TX12, 101, tyX12, h_64, rfl, rfl, by decide, u_X12, Or.inl m_6_181, tyX12_ok, nmX12, rfl, rfl⟩
theorem g_X12_327 : pb_fd 64 31 (.inr true) RX12 327 := ⟨12, _, RX12, TX12, 101, h_64, rfl, rfl, by decide, u_X12, Or.inl m_6_182⟩
theorem m_8_110 : Cond.constant RX12 342 (1000000) ∈ pb_tbl := pb_tm8 (i := 110) rfl rfl
theorem g_X12_330 : pb_fd 64 33 (.inr true) RX12 330 := ⟨12, _, RX12, TX12, 101, h_64, rfl, rfl, by decide, u_X12, Or.inl m_6_184⟩
theorem m_8_111 : Cond.methodLink RX12 343 Lib.Math.min.name ∈ pb_tbl := pb_tm8 (i := 111) rfl rfl
theorem m_8_99 : Cond.code yX12_next cX12_next 3 none ∈ pb_tbl := pb_tm8 (i := 99) rfl rfl
theorem m_8_135 : Cond.code yJ0_checkIndex_df160 cJ0_checkIndex_df160 2 none ∈ pb_tbl := pb_tm8 (i := 135) rfl rfl
theorem m_8_138 : Cond.code yJ3_checkIndex_8e157 cJ3_checkIndex_8e157 3 (some .int) ∈ pb_tbl := pb_tm8 (i := 138) rfl rfl
theorem m_1_20 : Cond.initialized RJ3 ∈ pb_tbl := pb_tm1 (i := 20) rfl rfl
theorem m_8_136 : Cond.methodLink RJ0 1059 yJ3_checkIndex_8e157 ∈ pb_tbl := pb_tm8 (i := 136) rfl rfl
theorem m_8_137 : Cond.static yJ3_checkIndex_8e157 ∈ pb_tbl := pb_tm8 (i := 137) rfl rfl
theorem m_4_55 : Cond.fieldLink RJ0 1053 "jdk/internal/util/Preconditions" "SIOOBE_FORMATTER" "Ljava/util/function/BiFunction;" ∈ pb_tbl := pb_tm4 (i := 55) rfl rfl
theorem m_8_133 : Cond.methodLink RJ1 9 yJ0_checkIndex_df160 ∈ pb_tbl := pb_tm8 (i := 133) rfl rfl
theorem m_8_134 : Cond.static yJ0_checkIndex_df160 ∈ pb_tbl := pb_tm8 (i := 134) rfl rfl
theorem q_J1_9 : pb_cs RJ1 9 yJ0_checkIndex_df160 2 := ⟨Or.inl m_8_133, m_8_134, m_1_17, by decide +kernel, by decide +kernel, by decide +kernel⟩
theorem m_8_132 : Cond.code yJ1_charAt_3b067 cJ1_charAt_3b067 2 (some .char) ∈ pb_tbl := pb_tm8 (i := 132) rfl rfl
theorem m_8_130 : Cond.methodLink RJ0 495 yJ1_charAt_3b067 ∈ pb_tbl := pb_tm8 (i := 130) rfl rfl
theorem m_8_131 : Cond.static yJ1_charAt_3b067 ∈ pb_tbl := pb_tm8 (i := 131) rfl rfl
theorem q_J0_495 : pb_cs RJ0 495 yJ1_charAt_3b067 2 := ⟨Or.inl m_8_130, m_8_131, m_1_18, by decide +kernel, by decide +kernel, by decide +kernel⟩
theorem m_8_129 : Cond.code yJ0_charAt_5068e cJ0_charAt_5068e 2 (some .char) ∈ pb_tbl := pb_tm8 (i := 129) rfl rfl
theorem g_X12_333 : pb_fd 64 30 (.inr true) RX12 333 := ⟨12, _, RX12, TX12, 101, h_64, rfl, rfl, by decide, u_X12, Or.inl m_6_181⟩
theorem m_8_125 : Cond.methodLink RX12 348 yJ0_length_8abf5 ∈ pb_tbl := pb_tm8 (i := 125) rfl rfl
theorem q_X12_348 : pb_ci RX12 348 yJ0_length_8abf5 0 := ⟨Or.inl m_8_125, m_4_17, m_4_18, m_1_17, by decide +kernel, by decide +kernel, by decide +kernel⟩
theorem m_8_126 : Cond.methodLink RX12 354 yJ0_charAt_5068e ∈ pb_tbl := pb_tm8 (i := 126) rfl rfl
theorem m_8_127 : Cond.instanceMethod yJ0_charAt_5068e ∈ pb_tbl := pb_tm8 (i := 127) rfl rfl
theorem m_8_128 : Cond.selects RJ0 yJ0_charAt_5068e yJ0_charAt_5068e ∈ pb_tbl := pb_tm8 (i := 128) rfl rfl
theorem q_X12_354 : pb_ci RX12 354 yJ0_charAt_5068e 1 := ⟨Or.inl m_8_126, m_8_127, m_8_128, m_1_17, by decide +kernel, by decide +kernel, by decide +kernel⟩
theorem m_8_124 : Cond.code yX12_inWords cX12_inWords 7 (some .int) ∈ pb_tbl := pb_tm8 (i := 124) rfl rfl
theorem m_8_121 : Cond.methodLink RX12 360 yX12_inWords ∈ pb_tbl := pb_tm8 (i := 121) rfl rfl
theorem m_8_123 : Cond.instanceMethod yX12_inWords ∈ pb_tbl := pb_tm8 (i := 123) rfl rfl
theorem ms_X12_inWords : Cond.selects yX12_inWords.cls yX12_inWords yX12_inWords ∈ pb_tbl := pb_ps5 (i := 4) (q := (yX12_inWords, 101)) rfl
theorem q_X12_360 : pb_ci RX12 360 yX12_inWords 1 := ⟨Or.inl m_8_121, m_8_123, ms_X12_inWords, m_1_13, by decide +kernel, by decide +kernel, by decide +kernel⟩
theorem m_8_119 : Cond.code yX12_isKey cX12_isKey 2 (some .boolean) ∈ pb_tbl := pb_tm8 (i := 119) rfl rfl
theorem m_6_187 : Cond.fieldLink RX12 364 "PennyBooksModel" "faults" "I" ∈ pb_tbl := pb_tm6 (i := 187) rfl rfl
theorem g_X12_364 : pb_fd 64 36 (.inr true) RX12 364 := ⟨12, _, RX12, TX12, 101, h_64, rfl, rfl, by decide, u_X12, Or.inl m_6_187⟩
theorem p_X12_364 : pb_fp 64 36 (.inr true) .int RX12 364 := ⟨12, _, RX12, TX12, 101, tyX12, h_64, rfl, rfl, by decide, u_X12, Or.inl m_6_187, tyX12_ok, nmX12, rfl, rfl⟩
theorem m_6_186 : Cond.fieldLink RX12 81 "PennyBooksModel" "faultPlace" "I" ∈ pb_tbl := pb_tm6 (i := 186) rfl rfl
theorem p_X12_81 : pb_fp 64 35 (.inr true) .int RX12 81 := ⟨12, _, RX12, TX12, 101, tyX12, h_64, rfl, rfl, by decide, u_X12, Or.inl m_6_186, tyX12_ok, nmX12, rfl, rfl⟩
theorem m_8_149 : Cond.code yX12_fails cX12_fails 2 (some .boolean) ∈ pb_tbl := pb_tm8 (i := 149) rfl rfl
theorem m_8_96 : Cond.methodLink RX12 373 yX12_next ∈ pb_tbl := pb_tm8 (i := 96) rfl rfl
theorem m_8_98 : Cond.instanceMethod yX12_next ∈ pb_tbl := pb_tm8 (i := 98) rfl rfl
theorem ms_X12_next : Cond.selects yX12_next.cls yX12_next yX12_next ∈ pb_tbl := pb_ps5 (i := 0) (q := (yX12_next, 101)) rfl
theorem q_X12_373 : pb_ci RX12 373 yX12_next 0 := ⟨Or.inl m_8_96, m_8_98, ms_X12_next, m_1_13, by decide +kernel, by decide +kernel, by decide +kernel⟩
theorem m_8_146 : Cond.methodLink RX12 370 yX12_fails ∈ pb_tbl := pb_tm8 (i := 146) rfl rfl
theorem m_8_148 : Cond.instanceMethod yX12_fails ∈ pb_tbl := pb_tm8 (i := 148) rfl rfl
theorem ms_X12_fails : Cond.selects yX12_fails.cls yX12_fails yX12_fails ∈ pb_tbl := pb_ps5 (i := 5) (q := (yX12_fails, 101)) rfl
theorem q_X12_370 : pb_ci RX12 370 yX12_fails 1 := ⟨Or.inl m_8_146, m_8_148, ms_X12_fails, m_1_13, by decide +kernel, by decide +kernel, by decide +kernel⟩
theorem m_6_202 : Cond.fieldLink RX12 117 "PennyBooksModel" "oneWord" "[J" ∈ pb_tbl := pb_tm6 (i := 202) rfl rfl
theorem g_X12_117 : pb_fd 64 51 (.inl 95) RX12 117 := ⟨12, _, RX12, TX12, 101, h_64, rfl, rfl, by decide, u_X12, Or.inl m_6_202⟩
theorem h_95 : pb_sh[95]? = some (.inl (3, 1500)) := rfl
theorem m_8_161 : Cond.code yX12_name cX12_name 5 (some .boolean) ∈ pb_tbl := pb_tm8 (i := 161) rfl rfl
theorem m_8_116 : Cond.methodLink RX12 367 yX12_isKey ∈ pb_tbl := pb_tm8 (i := 116) rfl rfl
theorem m_8_118 : Cond.instanceMethod yX12_isKey ∈ pb_tbl := pb_tm8 (i := 118) rfl rfl
theorem ms_X12_isKey : Cond.selects yX12_isKey.cls yX12_isKey yX12_isKey ∈ pb_tbl := pb_ps5 (i := 3) (q := (yX12_isKey, 101)) rfl
theorem q_X12_367 : pb_ci RX12 367 yX12_isKey 1 := ⟨Or.inl m_8_116, m_8_118, ms_X12_isKey, m_1_13, by decide +kernel, by decide +kernel, by decide +kernel⟩
theorem m_8_165 : Cond.code yX12_wantKey cX12_wantKey 2 (some .boolean) ∈ pb_tbl := pb_tm8 (i := 165) rfl rfl
theorem m_8_182 : Cond.code yX12_isSign cX12_isSign 2 (some .boolean) ∈ pb_tbl := pb_tm8 (i := 182) rfl rfl
theorem m_6_205 : Cond.fieldLink RX12 126 "PennyBooksModel" "sign" "[I" ∈ pb_tbl := pb_tm6 (i := 205) rfl rfl
theorem g_X12_126 : pb_fd 64 54 (.inl 98) RX12 126 := ⟨12, _, RX12, TX12, 101, h_64, rfl, rfl, by decide, u_X12, Or.inl m_6_205⟩
theorem m_6_189 : Cond.fieldLink RX12 376 "PennyBooksModel" "signs" "I" ∈ pb_tbl := pb_tm6 (i := 189) rfl rfl
theorem g_X12_376 : pb_fd 64 38 (.inr true) RX12 376 := ⟨12, _, RX12, TX12, 101, h_64, rfl, rfl, by decide, u_X12, Or.inl m_6_189⟩
theorem h_98 : pb_sh[98]? = some (.inl (0, 4000)) := rfl
theorem m_6_206 : Cond.fieldLink RX12 129 "PennyBooksModel" "signOf" "[I" ∈ pb_tbl := pb_tm6 (i := 206) rfl rfl
theorem g_X12_129 : pb_fd 64 55 (.inl 99) RX12 129 := ⟨12, _, RX12, TX12, 101, h_64, rfl, rfl, by decide, u_X12, Or.inl m_6_206⟩
theorem h_99 : pb_sh[99]? = some (.inl (0, 4000)) := rfl
theorem p_X12_376 : pb_fp 64 38 (.inr true) .int RX12 376 := ⟨12, _, RX12, TX12, 101, tyX12, h_64, rfl, rfl, by decide, u_X12, Or.inl m_6_189, tyX12_ok, nmX12, rfl, rfl⟩
theorem m_8_178 : Cond.code yX12_puts cX12_puts 3 none ∈ pb_tbl := pb_tm8 (i := 178) rfl rfl
theorem m_6_207 : Cond.fieldLink RX12 132 "PennyBooksModel" "waitsSum" "[I" ∈ pb_tbl := pb_tm6 (i := 207) rfl rfl
theorem g_X12_132 : pb_fd 64 56 (.inl 100) RX12 132 := ⟨12, _, RX12, TX12, 101, h_64, rfl, rfl, by decide, u_X12, Or.inl m_6_207⟩
theorem h_100 : pb_sh[100]? = some (.inl (0, 8)) := rfl
theorem m_6_208 : Cond.fieldLink RX12 135 "PennyBooksModel" "waitsItem" "[I" ∈ pb_tbl := pb_tm6 (i := 208) rfl rfl
theorem g_X12_135 : pb_fd 64 57 (.inl 101) RX12 135 := ⟨12, _, RX12, TX12, 101, h_64, rfl, rfl, by decide, u_X12, Or.inl m_6_208⟩
theorem h_101 : pb_sh[101]? = some (.inl (0, 8)) := rfl
theorem m_8_175 : Cond.methodLink RX12 381 yX12_puts ∈ pb_tbl := pb_tm8 (i := 175) rfl rfl
theorem m_8_177 : Cond.instanceMethod yX12_puts ∈ pb_tbl := pb_tm8 (i := 177) rfl rfl
theorem ms_X12_puts : Cond.selects yX12_puts.cls yX12_puts yX12_puts ∈ pb_tbl := pb_ps5 (i := 12) (q := (yX12_puts, 101)) rfl
theorem q_X12_381 : pb_ci RX12 381 yX12_puts 2 := ⟨Or.inl m_8_175, m_8_177, ms_X12_puts, m_1_13, by decide +kernel, by decide +kernel, by decide +kernel⟩
theorem m_8_179 : Cond.methodLink RX12 385 yX12_isSign ∈ pb_tbl := pb_tm8 (i := 179) rfl rfl
theorem m_8_181 : Cond.instanceMethod yX12_isSign ∈ pb_tbl := pb_tm8 (i := 181) rfl rfl
theorem ms_X12_isSign : Cond.selects yX12_isSign.cls yX12_isSign yX12_isSign ∈ pb_tbl := pb_ps5 (i := 13) (q := (yX12_isSign, 101)) rfl
theorem q_X12_385 : pb_ci RX12 385 yX12_isSign 1 := ⟨Or.inl m_8_179, m_8_181, ms_X12_isSign, m_1_13, by decide +kernel, by decide +kernel, by decide +kernel⟩
theorem m_8_173 : Cond.code yX12_sum cX12_sum 4 (some .boolean) ∈ pb_tbl := pb_tm8 (i := 173) rfl rfl
theorem m_8_170 : Cond.methodLink RX12 400 yX12_sum ∈ pb_tbl := pb_tm8 (i := 170) rfl rfl
theorem m_8_172 : Cond.instanceMethod yX12_sum ∈ pb_tbl := pb_tm8 (i := 172) rfl rfl
theorem ms_X12_sum : Cond.selects yX12_sum.cls yX12_sum yX12_sum ∈ pb_tbl := pb_ps5 (i := 11) (q := (yX12_sum, 101)) rfl
theorem q_X12_400 : pb_ci RX12 400 yX12_sum 0 := ⟨Or.inl m_8_170, m_8_172, ms_X12_sum, m_1_13, by decide +kernel, by decide +kernel, by decide +kernel⟩
theorem m_6_199 : Cond.fieldLink RX12 108 "PennyBooksModel" "leftTo" "[I" ∈ pb_tbl := pb_tm6 (i := 199) rfl rfl
theorem g_X12_108 : pb_fd 64 48 (.inl 92) RX12 108 := ⟨12, _, RX12, TX12, 101, h_64, rfl, rfl, by decide, u_X12, Or.inl m_6_199⟩
theorem h_92 : pb_sh[92]? = some (.inl (0, 1500)) := rfl
theorem m_6_201 : Cond.fieldLink RX12 114 "PennyBooksModel" "compares" "[I" ∈ pb_tbl := pb_tm6 (i := 201) rfl rfl
theorem g_X12_114 : pb_fd 64 50 (.inl 94) RX12 114 := ⟨12, _, RX12, TX12, 101, h_64, rfl, rfl, by decide, u_X12, Or.inl m_6_201⟩
theorem h_94 : pb_sh[94]? = some (.inl (0, 1500)) := rfl
theorem m_6_200 : Cond.fieldLink RX12 111 "PennyBooksModel" "rightTo" "[I" ∈ pb_tbl := pb_tm6 (i := 200) rfl rfl
theorem g_X12_111 : pb_fd 64 49 (.inl 93) RX12 111 := ⟨12, _, RX12, TX12, 101, h_64, rfl, rfl, by decide, u_X12, Or.inl m_6_200⟩
theorem h_93 : pb_sh[93]? = some (.inl (0, 1500)) := rfl
theorem m_8_169 : Cond.code yX12_comparing cX12_comparing 2 (some .boolean) ∈ pb_tbl := pb_tm8 (i := 169) rfl rfl
theorem m_6_190 : Cond.fieldLink RX12 388 "PennyBooksModel" "ones" "I" ∈ pb_tbl := pb_tm6 (i := 190) rfl rfl
theorem g_X12_388 : pb_fd 64 39 (.inr true) RX12 388 := ⟨12, _, RX12, TX12, 101, h_64, rfl, rfl, by decide, u_X12, Or.inl m_6_190⟩
theorem m_6_204 : Cond.fieldLink RX12 123 "PennyBooksModel" "begins" "[Z" ∈ pb_tbl := pb_tm6 (i := 204) rfl rfl
theorem g_X12_123 : pb_fd 64 53 (.inl 97) RX12 123 := ⟨12, _, RX12, TX12, 101, h_64, rfl, rfl, by decide, u_X12, Or.inl m_6_204⟩
theorem h_97 : pb_sh[97]? = some (.inl (1, 1500)) := rfl
theorem m_6_203 : Cond.fieldLink RX12 120 "PennyBooksModel" "isNot" "[Z" ∈ pb_tbl := pb_tm6 (i := 203) rfl rfl
theorem g_X12_120 : pb_fd 64 52 (.inl 96) RX12 120 := ⟨12, _, RX12, TX12, 101, h_64, rfl, rfl, by decide, u_X12, Or.inl m_6_203⟩
theorem h_96 : pb_sh[96]? = some (.inl (1, 1500)) := rfl
theorem m_6_197 : Cond.fieldLink RX12 102 "PennyBooksModel" "oneKind" "[I" ∈ pb_tbl := pb_tm6 (i := 197) rfl rfl
theorem g_X12_102 : pb_fd 64 46 (.inl 90) RX12 102 := ⟨12, _, RX12, TX12, 101, h_64, rfl, rfl, by decide, u_X12, Or.inl m_6_197⟩
theorem h_90 : pb_sh[90]? = some (.inl (0, 1500)) := rfl
theorem m_6_198 : Cond.fieldLink RX12 105 "PennyBooksModel" "leftFrom" "[I" ∈ pb_tbl := pb_tm6 (i := 198) rfl rfl
theorem g_X12_105 : pb_fd 64 47 (.inl 91) RX12 105 := ⟨12, _, RX12, TX12, 101, h_64, rfl, rfl, by decide, u_X12, Or.inl m_6_198⟩
theorem h_91 : pb_sh[91]? = some (.inl (0, 1500)) := rfl
theorem m_8_166 : Cond.methodLink RX12 397 yX12_comparing ∈ pb_tbl := pb_tm8 (i := 166) rfl rfl
theorem m_8_168 : Cond.instanceMethod yX12_comparing ∈ pb_tbl := pb_tm8 (i := 168) rfl rfl
theorem ms_X12_comparing : Cond.selects yX12_comparing.cls yX12_comparing yX12_comparing ∈ pb_tbl := pb_ps5 (i := 10) (q := (yX12_comparing, 101)) rfl
theorem q_X12_397 : pb_ci RX12 397 yX12_comparing 1 := ⟨Or.inl m_8_166, m_8_168, ms_X12_comparing, m_1_13, by decide +kernel, by decide +kernel, by decide +kernel⟩
theorem m_8_162 : Cond.methodLink RX12 394 yX12_wantKey ∈ pb_tbl := pb_tm8 (i := 162) rfl rfl
theorem m_8_164 : Cond.instanceMethod yX12_wantKey ∈ pb_tbl := pb_tm8 (i := 164) rfl rfl
theorem ms_X12_wantKey : Cond.selects yX12_wantKey.cls yX12_wantKey yX12_wantKey ∈ pb_tbl := pb_ps5 (i := 9) (q := (yX12_wantKey, 101)) rfl
theorem q_X12_394 : pb_ci RX12 394 yX12_wantKey 1 := ⟨Or.inl m_8_162, m_8_164, ms_X12_wantKey, m_1_13, by decide +kernel, by decide +kernel, by decide +kernel⟩
theorem m_8_158 : Cond.methodLink RX12 391 yX12_name ∈ pb_tbl := pb_tm8 (i := 158) rfl rfl
theorem m_8_160 : Cond.instanceMethod yX12_name ∈ pb_tbl := pb_tm8 (i := 160) rfl rfl
theorem ms_X12_name : Cond.selects yX12_name.cls yX12_name yX12_name ∈ pb_tbl := pb_ps5 (i := 8) (q := (yX12_name, 101)) rfl
theorem q_X12_391 : pb_ci RX12 391 yX12_name 1 := ⟨Or.inl m_8_158, m_8_160, ms_X12_name, m_1_13, by decide +kernel, by decide +kernel, by decide +kernel⟩
theorem p_X12_388 : pb_fp 64 39 (.inr true) .int RX12 388 := ⟨12, _, RX12, TX12, 101, tyX12, h_64, rfl, rfl, by decide, u_X12, Or.inl m_6_190, tyX12_ok, nmX12, rfl, rfl⟩
theorem m_8_157 : Cond.code yX12_one cX12_one 4 (some .boolean) ∈ pb_tbl := pb_tm8 (i := 157) rfl rfl
theorem m_8_154 : Cond.methodLink RX12 404 yX12_one ∈ pb_tbl := pb_tm8 (i := 154) rfl rfl
theorem m_8_156 : Cond.instanceMethod yX12_one ∈ pb_tbl := pb_tm8 (i := 156) rfl rfl
theorem ms_X12_one : Cond.selects yX12_one.cls yX12_one yX12_one ∈ pb_tbl := pb_ps5 (i := 7) (q := (yX12_one, 101)) rfl
theorem q_X12_404 : pb_ci RX12 404 yX12_one 1 := ⟨Or.inl m_8_154, m_8_156, ms_X12_one, m_1_13, by decide +kernel, by decide +kernel, by decide +kernel⟩
theorem m_8_153 : Cond.code yX12_test cX12_test 3 (some .boolean) ∈ pb_tbl := pb_tm8 (i := 153) rfl rfl
theorem m_6_191 : Cond.fieldLink RX12 84 "PennyBooksModel" "eRules" "[I" ∈ pb_tbl := pb_tm6 (i := 191) rfl rfl
theorem g_X12_84 : pb_fd 64 40 (.inl 84) RX12 84 := ⟨12, _, RX12, TX12, 101, h_64, rfl, rfl, by decide, u_X12, Or.inl m_6_191⟩
theorem m_6_188 : Cond.fieldLink RX12 408 "PennyBooksModel" "editions" "I" ∈ pb_tbl := pb_tm6 (i := 188) rfl rfl
theorem g_X12_408 : pb_fd 64 37 (.inr true) RX12 408 := ⟨12, _, RX12, TX12, 101, h_64, rfl, rfl, by decide, u_X12, Or.inl m_6_188⟩
theorem h_84 : pb_sh[84]? = some (.inl (0, 6)) := rfl
theorem m_6_192 : Cond.fieldLink RX12 87 "PennyBooksModel" "testFrom" "[I" ∈ pb_tbl := pb_tm6 (i := 192) rfl rfl
theorem g_X12_87 : pb_fd 64 41 (.inl 85) RX12 87 := ⟨12, _, RX12, TX12, 101, h_64, rfl, rfl, by decide, u_X12, Or.inl m_6_192⟩
theorem h_85 : pb_sh[85]? = some (.inl (0, 186)) := rfl
theorem m_8_150 : Cond.methodLink RX12 411 yX12_test ∈ pb_tbl := pb_tm8 (i := 150) rfl rfl
theorem m_8_152 : Cond.instanceMethod yX12_test ∈ pb_tbl := pb_tm8 (i := 152) rfl rfl
theorem ms_X12_test : Cond.selects yX12_test.cls yX12_test yX12_test ∈ pb_tbl := pb_ps5 (i := 6) (q := (yX12_test, 101)) rfl
theorem q_X12_411 : pb_ci RX12 411 yX12_test 0 := ⟨Or.inl m_8_150, m_8_152, ms_X12_test, m_1_13, by decide +kernel, by decide +kernel, by decide +kernel⟩
theorem m_6_193 : Cond.fieldLink RX12 90 "PennyBooksModel" "testTo" "[I" ∈ pb_tbl := pb_tm6 (i := 193) rfl rfl
theorem g_X12_90 : pb_fd 64 42 (.inl 86) RX12 90 := ⟨12, _, RX12, TX12, 101, h_64, rfl, rfl, by decide, u_X12, Or.inl m_6_193⟩
theorem h_86 : pb_sh[86]? = some (.inl (0, 186)) := rfl
theorem m_6_194 : Cond.fieldLink RX12 93 "PennyBooksModel" "kindFrom" "[I" ∈ pb_tbl := pb_tm6 (i := 194) rfl rfl
theorem g_X12_93 : pb_fd 64 43 (.inl 87) RX12 93 := ⟨12, _, RX12, TX12, 101, h_64, rfl, rfl, by decide, u_X12, Or.inl m_6_194⟩
theorem h_87 : pb_sh[87]? = some (.inl (0, 186)) := rfl
theorem m_6_195 : Cond.fieldLink RX12 96 "PennyBooksModel" "kindTo" "[I" ∈ pb_tbl := pb_tm6 (i := 195) rfl rfl
theorem g_X12_96 : pb_fd 64 44 (.inl 88) RX12 96 := ⟨12, _, RX12, TX12, 101, h_64, rfl, rfl, by decide, u_X12, Or.inl m_6_195⟩
theorem h_88 : pb_sh[88]? = some (.inl (0, 186)) := rfl
theorem m_6_196 : Cond.fieldLink RX12 99 "PennyBooksModel" "unitsTo" "[I" ∈ pb_tbl := pb_tm6 (i := 196) rfl rfl
theorem g_X12_99 : pb_fd 64 45 (.inl 89) RX12 99 := ⟨12, _, RX12, TX12, 101, h_64, rfl, rfl, by decide, u_X12, Or.inl m_6_196⟩
theorem h_89 : pb_sh[89]? = some (.inl (0, 186)) := rfl
theorem m_8_115 : Cond.code yX12_rule cX12_rule 2 (some .boolean) ∈ pb_tbl := pb_tm8 (i := 115) rfl rfl
theorem p_X12_318 : pb_fp 64 29 (.inr true) .int RX12 318 := ⟨12, _, RX12, TX12, 101, tyX12, h_64, rfl, rfl, by decide, u_X12, Or.inl m_6_180, tyX12_ok, nmX12, rfl, rfl⟩
theorem m_6_185 : Cond.fieldLink RX12 78 "PennyBooksModel" "faultKind" "I" ∈ pb_tbl := pb_tm6 (i := 185) rfl rfl
theorem p_X12_78 : pb_fp 64 34 (.inr true) .int RX12 78 := ⟨12, _, RX12, TX12, 101, tyX12, h_64, rfl, rfl, by decide, u_X12, Or.inl m_6_185, tyX12_ok, nmX12, rfl, rfl⟩
theorem m_8_112 : Cond.methodLink RX12 414 yX12_rule ∈ pb_tbl := pb_tm8 (i := 112) rfl rfl
theorem m_8_114 : Cond.instanceMethod yX12_rule ∈ pb_tbl := pb_tm8 (i := 114) rfl rfl
theorem ms_X12_rule : Cond.selects yX12_rule.cls yX12_rule yX12_rule ∈ pb_tbl := pb_ps5 (i := 2) (q := (yX12_rule, 101)) rfl
theorem q_X12_414 : pb_ci RX12 414 yX12_rule 0 := ⟨Or.inl m_8_112, m_8_114, ms_X12_rule, m_1_13, by decide +kernel, by decide +kernel, by decide +kernel⟩
theorem m_6_209 : Cond.fieldLink RX12 138 "PennyBooksModel" "faultRules" "I" ∈ pb_tbl := pb_tm6 (i := 209) rfl rfl
theorem p_X12_138 : pb_fp 64 58 (.inr true) .int RX12 138 := ⟨12, _, RX12, TX12, 101, tyX12, h_64, rfl, rfl, by decide, u_X12, Or.inl m_6_209, tyX12_ok, nmX12, rfl, rfl⟩
theorem p_X12_408 : pb_fp 64 37 (.inr true) .int RX12 408 := ⟨12, _, RX12, TX12, 101, tyX12, h_64, rfl, rfl, by decide, u_X12, Or.inl m_6_188, tyX12_ok, nmX12, rfl, rfl⟩
theorem m_8_95 : Cond.code yX12_edition cX12_edition 5 (some .int) ∈ pb_tbl := pb_tm8 (i := 95) rfl rfl
theorem g_X12_138 : pb_fd 64 58 (.inr true) RX12 138 := ⟨12, _, RX12, TX12, 101, h_64, rfl, rfl, by decide, u_X12, Or.inl m_6_209⟩
theorem g_X12_81 : pb_fd 64 35 (.inr true) RX12 81 := ⟨12, _, RX12, TX12, 101, h_64, rfl, rfl, by decide, u_X12, Or.inl m_6_186⟩
theorem g_X12_78 : pb_fd 64 34 (.inr true) RX12 78 := ⟨12, _, RX12, TX12, 101, h_64, rfl, rfl, by decide, u_X12, Or.inl m_6_185⟩
theorem m_8_186 : Cond.code yX12_fault cX12_fault 2 (some .int) ∈ pb_tbl := pb_tm8 (i := 186) rfl rfl
theorem m_8_194 : Cond.code yX12_isEdition cX12_isEdition 2 (some .boolean) ∈ pb_tbl := pb_tm8 (i := 194) rfl rfl
theorem m_6_211 : Cond.fieldLink RX12 144 "PennyBooksModel" "stack" "[J" ∈ pb_tbl := pb_tm6 (i := 211) rfl rfl
theorem g_X12_144 : pb_fd 64 60 (.inl 103) RX12 144 := ⟨12, _, RX12, TX12, 101, h_64, rfl, rfl, by decide, u_X12, Or.inl m_6_211⟩
theorem h_103 : pb_sh[103]? = some (.inl (3, 700)) := rfl
theorem m_6_210 : Cond.fieldLink RX12 141 "PennyBooksModel" "variables" "[J" ∈ pb_tbl := pb_tm6 (i := 210) rfl rfl
theorem g_X12_141 : pb_fd 64 59 (.inl 102) RX12 141 := ⟨12, _, RX12, TX12, 101, h_64, rfl, rfl, by decide, u_X12, Or.inl m_6_210⟩
theorem h_102 : pb_sh[102]? = some (.inl (3, 4)) := rfl
theorem m_8_210 : Cond.code yX12_work cX12_work 10 (some .long) ∈ pb_tbl := pb_tm8 (i := 210) rfl rfl
theorem m_8_207 : Cond.methodLink RX12 417 yX12_work ∈ pb_tbl := pb_tm8 (i := 207) rfl rfl
theorem m_8_209 : Cond.instanceMethod yX12_work ∈ pb_tbl := pb_tm8 (i := 209) rfl rfl
theorem ms_X12_work : Cond.selects yX12_work.cls yX12_work yX12_work ∈ pb_tbl := pb_ps6 (i := 2) (q := (yX12_work, 101)) rfl
theorem q_X12_417 : pb_ci RX12 417 yX12_work 2 := ⟨Or.inl m_8_207, m_8_209, ms_X12_work, m_1_13, by decide +kernel, by decide +kernel, by decide +kernel⟩
theorem m_8_206 : Cond.code yX12_isOne cX12_isOne 7 (some .boolean) ∈ pb_tbl := pb_tm8 (i := 206) rfl rfl
theorem m_8_203 : Cond.methodLink RX12 421 yX12_isOne ∈ pb_tbl := pb_tm8 (i := 203) rfl rfl
theorem m_8_205 : Cond.instanceMethod yX12_isOne ∈ pb_tbl := pb_tm8 (i := 205) rfl rfl
theorem ms_X12_isOne : Cond.selects yX12_isOne.cls yX12_isOne yX12_isOne ∈ pb_tbl := pb_ps6 (i := 1) (q := (yX12_isOne, 101)) rfl
theorem q_X12_421 : pb_ci RX12 421 yX12_isOne 2 := ⟨Or.inl m_8_203, m_8_205, ms_X12_isOne, m_1_13, by decide +kernel, by decide +kernel, by decide +kernel⟩
theorem m_8_202 : Cond.code yX12_holds cX12_holds 6 (some .boolean) ∈ pb_tbl := pb_tm8 (i := 202) rfl rfl
theorem m_6_212 : Cond.fieldLink RX12 425 "PennyBooksModel" "itsRule" "I" ∈ pb_tbl := pb_tm6 (i := 212) rfl rfl
theorem p_X12_425 : pb_fp 64 61 (.inr true) .int RX12 425 := ⟨12, _, RX12, TX12, 101, tyX12, h_64, rfl, rfl, by decide, u_X12, Or.inl m_6_212, tyX12_ok, nmX12, rfl, rfl⟩
theorem m_6_213 : Cond.fieldLink RX12 428 "PennyBooksModel" "itsKind" "I" ∈ pb_tbl := pb_tm6 (i := 213) rfl rfl
theorem p_X12_428 : pb_fp 64 62 (.inr true) .int RX12 428 := ⟨12, _, RX12, TX12, 101, tyX12, h_64, rfl, rfl, by decide, u_X12, Or.inl m_6_213, tyX12_ok, nmX12, rfl, rfl⟩
theorem m_6_214 : Cond.fieldLink RX12 431 "PennyBooksModel" "itsUnits" "I" ∈ pb_tbl := pb_tm6 (i := 214) rfl rfl
theorem p_X12_431 : pb_fp 64 63 (.inr true) .int RX12 431 := ⟨12, _, RX12, TX12, 101, tyX12, h_64, rfl, rfl, by decide, u_X12, Or.inl m_6_214, tyX12_ok, nmX12, rfl, rfl⟩
theorem g_X12_425 : pb_fd 64 61 (.inr true) RX12 425 := ⟨12, _, RX12, TX12, 101, h_64, rfl, rfl, by decide, u_X12, Or.inl m_6_212⟩
theorem m_8_199 : Cond.methodLink RX12 434 yX12_holds ∈ pb_tbl := pb_tm8 (i := 199) rfl rfl
theorem m_8_201 : Cond.instanceMethod yX12_holds ∈ pb_tbl := pb_tm8 (i := 201) rfl rfl
theorem ms_X12_holds : Cond.selects yX12_holds.cls yX12_holds yX12_holds ∈ pb_tbl := pb_ps6 (i := 0) (q := (yX12_holds, 101)) rfl
theorem q_X12_434 : pb_ci RX12 434 yX12_holds 3 := ⟨Or.inl m_8_199, m_8_201, ms_X12_holds, m_1_13, by decide +kernel, by decide +kernel, by decide +kernel⟩
theorem m_8_211 : Cond.constantLong RX12 438 (15) ∈ pb_tbl := pb_tm8 (i := 211) rfl rfl
theorem m_8_212 : Cond.methodLink RX12 440 Lib.MathLoose.min_long.x ∈ pb_tbl := pb_tm8 (i := 212) rfl rfl
theorem m_8_213 : Cond.methodLink RX12 443 Lib.MathLoose.max_long.x ∈ pb_tbl := pb_tm8 (i := 213) rfl rfl
theorem m_8_214 : Cond.constantLong RX12 446 (1000) ∈ pb_tbl := pb_tm8 (i := 214) rfl rfl
theorem m_8_198 : Cond.code yX12_sortOut cX12_sortOut 5 none ∈ pb_tbl := pb_tm8 (i := 198) rfl rfl
theorem m_8_191 : Cond.methodLink RX12 451 yX12_isEdition ∈ pb_tbl := pb_tm8 (i := 191) rfl rfl
theorem m_8_193 : Cond.instanceMethod yX12_isEdition ∈ pb_tbl := pb_tm8 (i := 193) rfl rfl
theorem ms_X12_isEdition : Cond.selects yX12_isEdition.cls yX12_isEdition yX12_isEdition ∈ pb_tbl := pb_ps5 (i := 14) (q := (yX12_isEdition, 101)) rfl
theorem q_X12_451 : pb_ci RX12 451 yX12_isEdition 1 := ⟨Or.inl m_8_191, m_8_193, ms_X12_isEdition, m_1_13, by decide +kernel, by decide +kernel, by decide +kernel⟩
theorem m_8_195 : Cond.methodLink RX12 448 yX12_sortOut ∈ pb_tbl := pb_tm8 (i := 195) rfl rfl
theorem m_8_197 : Cond.instanceMethod yX12_sortOut ∈ pb_tbl := pb_tm8 (i := 197) rfl rfl
theorem ms_X12_sortOut : Cond.selects yX12_sortOut.cls yX12_sortOut yX12_sortOut ∈ pb_tbl := pb_ps5 (i := 15) (q := (yX12_sortOut, 101)) rfl
theorem q_X12_448 : pb_ci RX12 448 yX12_sortOut 2 := ⟨Or.inl m_8_195, m_8_197, ms_X12_sortOut, m_1_13, by decide +kernel, by decide +kernel, by decide +kernel⟩
theorem g_X12_431 : pb_fd 64 63 (.inr true) RX12 431 := ⟨12, _, RX12, TX12, 101, h_64, rfl, rfl, by decide, u_X12, Or.inl m_6_214⟩
theorem g_X12_428 : pb_fd 64 62 (.inr true) RX12 428 := ⟨12, _, RX12, TX12, 101, h_64, rfl, rfl, by decide, u_X12, Or.inl m_6_213⟩
theorem m_8_190 : Cond.code yX12_kind cX12_kind 4 (some .int) ∈ pb_tbl := pb_tm8 (i := 190) rfl rfl
theorem m_8_222 : Cond.code yX12_kindOf cX12_kindOf 3 (some .int) ∈ pb_tbl := pb_tm8 (i := 222) rfl rfl
theorem m_8_219 : Cond.methodLink RX12 454 yX12_kindOf ∈ pb_tbl := pb_tm8 (i := 219) rfl rfl
theorem m_8_221 : Cond.instanceMethod yX12_kindOf ∈ pb_tbl := pb_tm8 (i := 221) rfl rfl
theorem ms_X12_kindOf : Cond.selects yX12_kindOf.cls yX12_kindOf yX12_kindOf ∈ pb_tbl := pb_ps6 (i := 3) (q := (yX12_kindOf, 101)) rfl
theorem q_X12_454 : pb_ci RX12 454 yX12_kindOf 2 := ⟨Or.inl m_8_219, m_8_221, ms_X12_kindOf, m_1_13, by decide +kernel, by decide +kernel, by decide +kernel⟩
theorem m_8_218 : Cond.code yX12_moved cX12_moved 5 (some .int) ∈ pb_tbl := pb_tm8 (i := 218) rfl rfl
theorem m_8_229 : Cond.code yX12_isKind cX12_isKind 1 (some .boolean) ∈ pb_tbl := pb_tm8 (i := 229) rfl rfl
theorem m_8_237 : Cond.code yX12_went cX12_went 3 (some .boolean) ∈ pb_tbl := pb_tm8 (i := 237) rfl rfl
theorem m_8_234 : Cond.methodLink RX12 457 yX12_went ∈ pb_tbl := pb_tm8 (i := 234) rfl rfl
theorem m_8_236 : Cond.instanceMethod yX12_went ∈ pb_tbl := pb_tm8 (i := 236) rfl rfl
theorem ms_X12_went : Cond.selects yX12_went.cls yX12_went yX12_went ∈ pb_tbl := pb_ps6 (i := 5) (q := (yX12_went, 101)) rfl
theorem q_X12_457 : pb_ci RX12 457 yX12_went 2 := ⟨Or.inl m_8_234, m_8_236, ms_X12_went, m_1_13, by decide +kernel, by decide +kernel, by decide +kernel⟩
theorem m_8_233 : Cond.code yX12_spentOf cX12_spentOf 7 (some .int) ∈ pb_tbl := pb_tm8 (i := 233) rfl rfl
theorem m_8_227 : Cond.methodLink RX12 460 yX12_isKind ∈ pb_tbl := pb_tm8 (i := 227) rfl rfl
theorem m_8_228 : Cond.static yX12_isKind ∈ pb_tbl := pb_tm8 (i := 228) rfl rfl
theorem q_X12_460 : pb_cs RX12 460 yX12_isKind 1 := ⟨Or.inl m_8_227, m_8_228, m_1_13, by decide +kernel, by decide +kernel, by decide +kernel⟩
theorem m_8_230 : Cond.methodLink RX12 463 yX12_spentOf ∈ pb_tbl := pb_tm8 (i := 230) rfl rfl
theorem m_8_232 : Cond.instanceMethod yX12_spentOf ∈ pb_tbl := pb_tm8 (i := 232) rfl rfl
theorem ms_X12_spentOf : Cond.selects yX12_spentOf.cls yX12_spentOf yX12_spentOf ∈ pb_tbl := pb_ps6 (i := 4) (q := (yX12_spentOf, 101)) rfl
theorem q_X12_463 : pb_ci RX12 463 yX12_spentOf 4 := ⟨Or.inl m_8_230, m_8_232, ms_X12_spentOf, m_1_13, by decide +kernel, by decide +kernel, by decide +kernel⟩
theorem m_8_226 : Cond.code yX12_spent cX12_spent 5 (some .int) ∈ pb_tbl := pb_tm8 (i := 226) rfl rfl
theorem m_6_218 : Cond.fieldLink RX12 467 "PennyBooksModel" "tolds" "I" ∈ pb_tbl := pb_tm6 (i := 218) rfl rfl
theorem g_X12_467 : pb_fd 64 67 (.inr true) RX12 467 := ⟨12, _, RX12, TX12, 101, h_64, rfl, rfl, by decide, u_X12, Or.inl m_6_218⟩
theorem m_6_215 : Cond.fieldLink RX12 147 "PennyBooksModel" "tFamily" "[I" ∈ pb_tbl := pb_tm6 (i := 215) rfl rfl
theorem g_X12_147 : pb_fd 64 64 (.inl 104) RX12 147 := ⟨12, _, RX12, TX12, 101, h_64, rfl, rfl, by decide, u_X12, Or.inl m_6_215⟩
theorem h_104 : pb_sh[104]? = some (.inl (0, 40)) := rfl
theorem m_6_216 : Cond.fieldLink RX12 150 "PennyBooksModel" "tWeek" "[I" ∈ pb_tbl := pb_tm6 (i := 216) rfl rfl
theorem g_X12_150 : pb_fd 64 65 (.inl 105) RX12 150 := ⟨12, _, RX12, TX12, 101, h_64, rfl, rfl, by decide, u_X12, Or.inl m_6_216⟩
theorem h_105 : pb_sh[105]? = some (.inl (0, 40)) := rfl
theorem m_9_5 : Cond.code yX12_toldOf cX12_toldOf 4 (some .int) ∈ pb_tbl := pb_tm9 (i := 5) rfl rfl
theorem m_9_2 : Cond.methodLink RX12 470 yX12_toldOf ∈ pb_tbl := pb_tm9 (i := 2) rfl rfl
theorem m_9_4 : Cond.instanceMethod yX12_toldOf ∈ pb_tbl := pb_tm9 (i := 4) rfl rfl
theorem ms_X12_toldOf : Cond.selects yX12_toldOf.cls yX12_toldOf yX12_toldOf ∈ pb_tbl := pb_ps6 (i := 6) (q := (yX12_toldOf, 101)) rfl
theorem q_X12_470 : pb_ci RX12 470 yX12_toldOf 2 := ⟨Or.inl m_9_2, m_9_4, ms_X12_toldOf, m_1_13, by decide +kernel, by decide +kernel, by decide +kernel⟩
theorem p_X12_467 : pb_fp 64 67 (.inr true) .int RX12 467 := ⟨12, _, RX12, TX12, 101, tyX12, h_64, rfl, rfl, by decide, u_X12, Or.inl m_6_218, tyX12_ok, nmX12, rfl, rfl⟩
theorem m_6_217 : Cond.fieldLink RX12 153 "PennyBooksModel" "tSum" "[I" ∈ pb_tbl := pb_tm6 (i := 217) rfl rfl
theorem g_X12_153 : pb_fd 64 66 (.inl 106) RX12 153 := ⟨12, _, RX12, TX12, 101, h_64, rfl, rfl, by decide, u_X12, Or.inl m_6_217⟩
theorem h_106 : pb_sh[106]? = some (.inl (0, 40)) := rfl
theorem m_9_1 : Cond.code yX12_told cX12_told 5 (some .boolean) ∈ pb_tbl := pb_tm9 (i := 1) rfl rfl
theorem m_9_9 : Cond.code yX12_out cX12_out 4 (some .int) ∈ pb_tbl := pb_tm9 (i := 9) rfl rfl
theorem m_6_222 : Cond.fieldLink RX12 491 "PennyBooksModel" "weekMany" "I" ∈ pb_tbl := pb_tm6 (i := 222) rfl rfl
theorem g_X12_491 : pb_fd 64 71 (.inr true) RX12 491 := ⟨12, _, RX12, TX12, 101, h_64, rfl, rfl, by decide, u_X12, Or.inl m_6_222⟩
theorem m_6_226 : Cond.fieldLink RX12 485 "PennyBooksModel" "firstCarry" "I" ∈ pb_tbl := pb_tm6 (i := 226) rfl rfl
theorem g_X12_485 : pb_fd 64 75 (.inr true) RX12 485 := ⟨12, _, RX12, TX12, 101, h_64, rfl, rfl, by decide, u_X12, Or.inl m_6_226⟩
theorem m_6_220 : Cond.fieldLink RX12 159 "PennyBooksModel" "slip" "[I" ∈ pb_tbl := pb_tm6 (i := 220) rfl rfl
theorem g_X12_159 : pb_fd 64 69 (.inl 108) RX12 159 := ⟨12, _, RX12, TX12, 101, h_64, rfl, rfl, by decide, u_X12, Or.inl m_6_220⟩
theorem h_108 : pb_sh[108]? = some (.inl (0, 9)) := rfl
theorem m_6_221 : Cond.fieldLink RX12 162 "PennyBooksModel" "firstSlip" "[I" ∈ pb_tbl := pb_tm6 (i := 221) rfl rfl
theorem g_X12_162 : pb_fd 64 70 (.inl 109) RX12 162 := ⟨12, _, RX12, TX12, 101, h_64, rfl, rfl, by decide, u_X12, Or.inl m_6_221⟩
theorem h_109 : pb_sh[109]? = some (.inl (0, 9)) := rfl
theorem m_9_30 : Cond.code yX12_isEarlier cX12_isEarlier 3 (some .boolean) ∈ pb_tbl := pb_tm9 (i := 30) rfl rfl
theorem m_6_223 : Cond.fieldLink RX12 473 "PennyBooksModel" "outBy" "I" ∈ pb_tbl := pb_tm6 (i := 223) rfl rfl
theorem g_X12_473 : pb_fd 64 72 (.inr true) RX12 473 := ⟨12, _, RX12, TX12, 101, h_64, rfl, rfl, by decide, u_X12, Or.inl m_6_223⟩
theorem m_9_26 : Cond.methodLink RX12 476 Lib.Math.abs.name ∈ pb_tbl := pb_tm9 (i := 26) rfl rfl
theorem m_6_224 : Cond.fieldLink RX12 479 "PennyBooksModel" "few" "I" ∈ pb_tbl := pb_tm6 (i := 224) rfl rfl
theorem g_X12_479 : pb_fd 64 73 (.inr true) RX12 479 := ⟨12, _, RX12, TX12, 101, h_64, rfl, rfl, by decide, u_X12, Or.inl m_6_224⟩
theorem m_9_27 : Cond.methodLink RX12 482 yX12_isEarlier ∈ pb_tbl := pb_tm9 (i := 27) rfl rfl
theorem m_9_29 : Cond.instanceMethod yX12_isEarlier ∈ pb_tbl := pb_tm9 (i := 29) rfl rfl
theorem ms_X12_isEarlier : Cond.selects yX12_isEarlier.cls yX12_isEarlier yX12_isEarlier ∈ pb_tbl := pb_ps6 (i := 10) (q := (yX12_isEarlier, 101)) rfl
theorem q_X12_482 : pb_ci RX12 482 yX12_isEarlier 1 := ⟨Or.inl m_9_27, m_9_29, ms_X12_isEarlier, m_1_13, by decide +kernel, by decide +kernel, by decide +kernel⟩
theorem p_X12_485 : pb_fp 64 75 (.inr true) .int RX12 485 := ⟨12, _, RX12, TX12, 101, tyX12, h_64, rfl, rfl, by decide, u_X12, Or.inl m_6_226, tyX12_ok, nmX12, rfl, rfl⟩
theorem m_6_225 : Cond.fieldLink RX12 488 "PennyBooksModel" "rivals" "I" ∈ pb_tbl := pb_tm6 (i := 225) rfl rfl
theorem g_X12_488 : pb_fd 64 74 (.inr true) RX12 488 := ⟨12, _, RX12, TX12, 101, h_64, rfl, rfl, by decide, u_X12, Or.inl m_6_225⟩
theorem p_X12_488 : pb_fp 64 74 (.inr true) .int RX12 488 := ⟨12, _, RX12, TX12, 101, tyX12, h_64, rfl, rfl, by decide, u_X12, Or.inl m_6_225, tyX12_ok, nmX12, rfl, rfl⟩
theorem p_X12_479 : pb_fp 64 73 (.inr true) .int RX12 479 := ⟨12, _, RX12, TX12, 101, tyX12, h_64, rfl, rfl, by decide, u_X12, Or.inl m_6_224, tyX12_ok, nmX12, rfl, rfl⟩
theorem m_9_25 : Cond.code yX12_look cX12_look 7 none ∈ pb_tbl := pb_tm9 (i := 25) rfl rfl
theorem m_6_219 : Cond.fieldLink RX12 156 "PennyBooksModel" "weekLine" "[I" ∈ pb_tbl := pb_tm6 (i := 219) rfl rfl
theorem g_X12_156 : pb_fd 64 68 (.inl 107) RX12 156 := ⟨12, _, RX12, TX12, 101, h_64, rfl, rfl, by decide, u_X12, Or.inl m_6_219⟩
theorem h_107 : pb_sh[107]? = some (.inl (0, 200)) := rfl
theorem m_9_34 : Cond.code yX12_brings cX12_brings 7 (some .int) ∈ pb_tbl := pb_tm9 (i := 34) rfl rfl
theorem m_9_31 : Cond.methodLink RX12 497 yX12_brings ∈ pb_tbl := pb_tm9 (i := 31) rfl rfl
theorem m_9_33 : Cond.instanceMethod yX12_brings ∈ pb_tbl := pb_tm9 (i := 33) rfl rfl
theorem ms_X12_brings : Cond.selects yX12_brings.cls yX12_brings yX12_brings ∈ pb_tbl := pb_ps6 (i := 11) (q := (yX12_brings, 101)) rfl
theorem q_X12_497 : pb_ci RX12 497 yX12_brings 2 := ⟨Or.inl m_9_31, m_9_33, ms_X12_brings, m_1_13, by decide +kernel, by decide +kernel, by decide +kernel⟩
theorem m_9_22 : Cond.methodLink RX12 494 yX12_look ∈ pb_tbl := pb_tm9 (i := 22) rfl rfl
theorem m_9_24 : Cond.instanceMethod yX12_look ∈ pb_tbl := pb_tm9 (i := 24) rfl rfl
theorem ms_X12_look : Cond.selects yX12_look.cls yX12_look yX12_look ∈ pb_tbl := pb_ps6 (i := 9) (q := (yX12_look, 101)) rfl
theorem q_X12_494 : pb_ci RX12 494 yX12_look 2 := ⟨Or.inl m_9_22, m_9_24, ms_X12_look, m_1_13, by decide +kernel, by decide +kernel, by decide +kernel⟩
theorem m_9_38 : Cond.code yX12_third cX12_third 6 none ∈ pb_tbl := pb_tm9 (i := 38) rfl rfl
theorem m_9_35 : Cond.methodLink RX12 500 yX12_third ∈ pb_tbl := pb_tm9 (i := 35) rfl rfl
theorem m_9_37 : Cond.instanceMethod yX12_third ∈ pb_tbl := pb_tm9 (i := 37) rfl rfl
theorem ms_X12_third : Cond.selects yX12_third.cls yX12_third yX12_third ∈ pb_tbl := pb_ps6 (i := 12) (q := (yX12_third, 101)) rfl
theorem q_X12_500 : pb_ci RX12 500 yX12_third 2 := ⟨Or.inl m_9_35, m_9_37, ms_X12_third, m_1_13, by decide +kernel, by decide +kernel, by decide +kernel⟩
theorem m_9_21 : Cond.code yX12_slipsOf cX12_slipsOf 9 none ∈ pb_tbl := pb_tm9 (i := 21) rfl rfl
theorem p_X12_491 : pb_fp 64 71 (.inr true) .int RX12 491 := ⟨12, _, RX12, TX12, 101, tyX12, h_64, rfl, rfl, by decide, u_X12, Or.inl m_6_222, tyX12_ok, nmX12, rfl, rfl⟩
theorem p_X12_473 : pb_fp 64 72 (.inr true) .int RX12 473 := ⟨12, _, RX12, TX12, 101, tyX12, h_64, rfl, rfl, by decide, u_X12, Or.inl m_6_223, tyX12_ok, nmX12, rfl, rfl⟩
theorem m_9_18 : Cond.methodLink RX12 503 yX12_slipsOf ∈ pb_tbl := pb_tm9 (i := 18) rfl rfl
theorem m_9_20 : Cond.instanceMethod yX12_slipsOf ∈ pb_tbl := pb_tm9 (i := 20) rfl rfl
theorem ms_X12_slipsOf : Cond.selects yX12_slipsOf.cls yX12_slipsOf yX12_slipsOf ∈ pb_tbl := pb_ps6 (i := 8) (q := (yX12_slipsOf, 101)) rfl
theorem q_X12_503 : pb_ci RX12 503 yX12_slipsOf 2 := ⟨Or.inl m_9_18, m_9_20, ms_X12_slipsOf, m_1_13, by decide +kernel, by decide +kernel, by decide +kernel⟩
theorem m_9_17 : Cond.code yX12_explains cX12_explains 5 (some .boolean) ∈ pb_tbl := pb_tm9 (i := 17) rfl rfl
theorem m_9_14 : Cond.methodLink RX12 506 yX12_explains ∈ pb_tbl := pb_tm9 (i := 14) rfl rfl
theorem m_9_16 : Cond.instanceMethod yX12_explains ∈ pb_tbl := pb_tm9 (i := 16) rfl rfl
theorem ms_X12_explains : Cond.selects yX12_explains.cls yX12_explains yX12_explains ∈ pb_tbl := pb_ps6 (i := 7) (q := (yX12_explains, 101)) rfl
theorem q_X12_506 : pb_ci RX12 506 yX12_explains 2 := ⟨Or.inl m_9_14, m_9_16, ms_X12_explains, m_1_13, by decide +kernel, by decide +kernel, by decide +kernel⟩
theorem m_9_13 : Cond.code yX12_slips cX12_slips 4 (some .int) ∈ pb_tbl := pb_tm9 (i := 13) rfl rfl
theorem m_9_42 : Cond.code yX12_slip cX12_slip 4 (some .int) ∈ pb_tbl := pb_tm9 (i := 42) rfl rfl
theorem m_6_227 : Cond.fieldLink RX12 165 "PennyBooksModel" "near" "I" ∈ pb_tbl := pb_tm6 (i := 227) rfl rfl
theorem p_X12_165 : pb_fp 64 76 (.inr true) .int RX12 165 := ⟨12, _, RX12, TX12, 101, tyX12, h_64, rfl, rfl, by decide, u_X12, Or.inl m_6_227, tyX12_ok, nmX12, rfl, rfl⟩
theorem m_6_228 : Cond.fieldLink RX12 168 "PennyBooksModel" "shut" "I" ∈ pb_tbl := pb_tm6 (i := 228) rfl rfl
theorem p_X12_168 : pb_fp 64 77 (.inr true) .int RX12 168 := ⟨12, _, RX12, TX12, 101, tyX12, h_64, rfl, rfl, by decide, u_X12, Or.inl m_6_228, tyX12_ok, nmX12, rfl, rfl⟩
theorem m_9_46 : Cond.code yX12_rules cX12_rules 3 (some .boolean) ∈ pb_tbl := pb_tm9 (i := 46) rfl rfl
theorem m_9_54 : Cond.code yX12_wrongSundry cX12_wrongSundry 3 (some .int) ∈ pb_tbl := pb_tm9 (i := 54) rfl rfl
theorem m_6_229 : Cond.fieldLink RX12 171 "PennyBooksModel" "price" "[I" ∈ pb_tbl := pb_tm6 (i := 229) rfl rfl
theorem g_X12_171 : pb_fd 64 78 (.inl 110) RX12 171 := ⟨12, _, RX12, TX12, 101, h_64, rfl, rfl, by decide, u_X12, Or.inl m_6_229⟩
theorem h_110 : pb_sh[110]? = some (.inl (0, 16)) := rfl
theorem m_6_230 : Cond.fieldLink RX12 174 "PennyBooksModel" "most" "[I" ∈ pb_tbl := pb_tm6 (i := 230) rfl rfl
theorem g_X12_174 : pb_fd 64 79 (.inl 111) RX12 174 := ⟨12, _, RX12, TX12, 101, h_64, rfl, rfl, by decide, u_X12, Or.inl m_6_230⟩
theorem h_111 : pb_sh[111]? = some (.inl (0, 16)) := rfl
theorem m_6_234 : Cond.fieldLink RX12 186 "PennyBooksModel" "thingAway" "[I" ∈ pb_tbl := pb_tm6 (i := 234) rfl rfl
theorem g_X12_186 : pb_fd 64 83 (.inl 115) RX12 186 := ⟨12, _, RX12, TX12, 101, h_64, rfl, rfl, by decide, u_X12, Or.inl m_6_234⟩
theorem m_6_235 : Cond.fieldLink RX12 189 "PennyBooksModel" "thingWeek" "[I" ∈ pb_tbl := pb_tm6 (i := 235) rfl rfl
theorem g_X12_189 : pb_fd 64 84 (.inl 116) RX12 189 := ⟨12, _, RX12, TX12, 101, h_64, rfl, rfl, by decide, u_X12, Or.inl m_6_235⟩
theorem m_6_231 : Cond.fieldLink RX12 177 "PennyBooksModel" "unitsIn" "[I" ∈ pb_tbl := pb_tm6 (i := 231) rfl rfl
theorem g_X12_177 : pb_fd 64 80 (.inl 112) RX12 177 := ⟨12, _, RX12, TX12, 101, h_64, rfl, rfl, by decide, u_X12, Or.inl m_6_231⟩
theorem h_112 : pb_sh[112]? = some (.inl (0, 8320)) := rfl
theorem g_X12_165 : pb_fd 64 76 (.inr true) RX12 165 := ⟨12, _, RX12, TX12, 101, h_64, rfl, rfl, by decide, u_X12, Or.inl m_6_227⟩
theorem h_115 : pb_sh[115]? = some (.inl (0, 16)) := rfl
theorem h_116 : pb_sh[116]? = some (.inl (0, 16)) := rfl
theorem m_9_59 : Cond.methodLink RX12 509 Lib.Math.max.name ∈ pb_tbl := pb_tm9 (i := 59) rfl rfl
theorem m_9_58 : Cond.code yX12_things cX12_things 10 none ∈ pb_tbl := pb_tm9 (i := 58) rfl rfl
theorem m_6_232 : Cond.fieldLink RX12 180 "PennyBooksModel" "manyWays" "[J" ∈ pb_tbl := pb_tm6 (i := 232) rfl rfl
theorem g_X12_180 : pb_fd 64 81 (.inl 113) RX12 180 := ⟨12, _, RX12, TX12, 101, h_64, rfl, rfl, by decide, u_X12, Or.inl m_6_232⟩
theorem h_113 : pb_sh[113]? = some (.inl (3, 2001)) := rfl
theorem m_6_233 : Cond.fieldLink RX12 183 "PennyBooksModel" "fewer" "[J" ∈ pb_tbl := pb_tm6 (i := 233) rfl rfl
theorem g_X12_183 : pb_fd 64 82 (.inl 114) RX12 183 := ⟨12, _, RX12, TX12, 101, h_64, rfl, rfl, by decide, u_X12, Or.inl m_6_233⟩
theorem h_114 : pb_sh[114]? = some (.inl (3, 2001)) := rfl
theorem m_9_63 : Cond.code yX12_count cX12_count 5 none ∈ pb_tbl := pb_tm9 (i := 63) rfl rfl
theorem m_9_51 : Cond.methodLink RX12 511 yX12_wrongSundry ∈ pb_tbl := pb_tm9 (i := 51) rfl rfl
theorem m_9_53 : Cond.instanceMethod yX12_wrongSundry ∈ pb_tbl := pb_tm9 (i := 53) rfl rfl
theorem ms_X12_wrongSundry : Cond.selects yX12_wrongSundry.cls yX12_wrongSundry yX12_wrongSundry ∈ pb_tbl := pb_ps6 (i := 13) (q := (yX12_wrongSundry, 101)) rfl
theorem q_X12_511 : pb_ci RX12 511 yX12_wrongSundry 2 := ⟨Or.inl m_9_51, m_9_53, ms_X12_wrongSundry, m_1_13, by decide +kernel, by decide +kernel, by decide +kernel⟩
theorem m_9_55 : Cond.methodLink RX12 514 yX12_things ∈ pb_tbl := pb_tm9 (i := 55) rfl rfl
theorem m_9_57 : Cond.instanceMethod yX12_things ∈ pb_tbl := pb_tm9 (i := 57) rfl rfl
theorem ms_X12_things : Cond.selects yX12_things.cls yX12_things yX12_things ∈ pb_tbl := pb_ps6 (i := 14) (q := (yX12_things, 101)) rfl
theorem q_X12_514 : pb_ci RX12 514 yX12_things 2 := ⟨Or.inl m_9_55, m_9_57, ms_X12_things, m_1_13, by decide +kernel, by decide +kernel, by decide +kernel⟩
theorem m_9_60 : Cond.methodLink RX12 517 yX12_count ∈ pb_tbl := pb_tm9 (i := 60) rfl rfl
theorem m_9_62 : Cond.instanceMethod yX12_count ∈ pb_tbl := pb_tm9 (i := 62) rfl rfl
theorem ms_X12_count : Cond.selects yX12_count.cls yX12_count yX12_count ∈ pb_tbl := pb_ps6 (i := 15) (q := (yX12_count, 101)) rfl
theorem q_X12_517 : pb_ci RX12 517 yX12_count 1 := ⟨Or.inl m_9_60, m_9_62, ms_X12_count, m_1_13, by decide +kernel, by decide +kernel, by decide +kernel⟩
theorem m_9_50 : Cond.code yX12_ways cX12_ways 4 (some .long) ∈ pb_tbl := pb_tm9 (i := 50) rfl rfl
theorem m_9_67 : Cond.code yX12_span cX12_span 9 (some .int) ∈ pb_tbl := pb_tm9 (i := 67) rfl rfl
theorem m_6_236 : Cond.fieldLink RX12 520 "PennyBooksModel" "members" "I" ∈ pb_tbl := pb_tm6 (i := 236) rfl rfl
theorem g_X12_520 : pb_fd 64 85 (.inr true) RX12 520 := ⟨12, _, RX12, TX12, 101, h_64, rfl, rfl, by decide, u_X12, Or.inl m_6_236⟩
theorem m_6_237 : Cond.fieldLink RX12 192 "PennyBooksModel" "mFamily" "[I" ∈ pb_tbl := pb_tm6 (i := 237) rfl rfl
theorem g_X12_192 : pb_fd 64 86 (.inl 117) RX12 192 := ⟨12, _, RX12, TX12, 101, h_64, rfl, rfl, by decide, u_X12, Or.inl m_6_237⟩
theorem h_117 : pb_sh[117]? = some (.inl (0, 40)) := rfl
theorem m_6_238 : Cond.fieldLink RX12 195 "PennyBooksModel" "mBorn" "[I" ∈ pb_tbl := pb_tm6 (i := 238) rfl rfl
theorem g_X12_195 : pb_fd 64 87 (.inl 118) RX12 195 := ⟨12, _, RX12, TX12, 101, h_64, rfl, rfl, by decide, u_X12, Or.inl m_6_238⟩
theorem h_118 : pb_sh[118]? = some (.inl (0, 40)) := rfl
theorem m_6_239 : Cond.fieldLink RX12 198 "PennyBooksModel" "mFrom" "[I" ∈ pb_tbl := pb_tm6 (i := 239) rfl rfl
theorem g_X12_198 : pb_fd 64 88 (.inl 119) RX12 198 := ⟨12, _, RX12, TX12, 101, h_64, rfl, rfl, by decide, u_X12, Or.inl m_6_239⟩
theorem h_119 : pb_sh[119]? = some (.inl (0, 40)) := rfl
theorem m_7_0 : Cond.fieldLink RX12 201 "PennyBooksModel" "mTo" "[I" ∈ pb_tbl := pb_tm7 (i := 0) rfl rfl
theorem g_X12_201 : pb_fd 64 89 (.inl 120) RX12 201 := ⟨12, _, RX12, TX12, 101, h_64, rfl, rfl, by decide, u_X12, Or.inl m_7_0⟩
theorem h_120 : pb_sh[120]? = some (.inl (0, 40)) := rfl
theorem p_X12_520 : pb_fp 64 85 (.inr true) .int RX12 520 := ⟨12, _, RX12, TX12, 101, tyX12, h_64, rfl, rfl, by decide, u_X12, Or.inl m_6_236, tyX12_ok, nmX12, rfl, rfl⟩
theorem m_9_71 : Cond.code yX12_member cX12_member 5 (some .boolean) ∈ pb_tbl := pb_tm9 (i := 71) rfl rfl
theorem m_9_78 : Cond.code yX12_isPart cX12_isPart 1 (some .boolean) ∈ pb_tbl := pb_tm9 (i := 78) rfl rfl
theorem m_9_76 : Cond.methodLink RX12 523 yX12_isPart ∈ pb_tbl := pb_tm9 (i := 76) rfl rfl
theorem m_9_77 : Cond.static yX12_isPart ∈ pb_tbl := pb_tm9 (i := 77) rfl rfl
theorem q_X12_523 : pb_cs RX12 523 yX12_isPart 1 := ⟨Or.inl m_9_76, m_9_77, m_1_13, by decide +kernel, by decide +kernel, by decide +kernel⟩
theorem m_7_1 : Cond.fieldLink RX12 204 "PennyBooksModel" "mouth" "[I" ∈ pb_tbl := pb_tm7 (i := 1) rfl rfl
theorem g_X12_204 : pb_fd 64 90 (.inl 121) RX12 204 := ⟨12, _, RX12, TX12, 101, h_64, rfl, rfl, by decide, u_X12, Or.inl m_7_1⟩
theorem h_121 : pb_sh[121]? = some (.inl (0, 4)) := rfl
theorem m_9_75 : Cond.code yX12_scale cX12_scale 5 (some .boolean) ∈ pb_tbl := pb_tm9 (i := 75) rfl rfl
theorem m_9_86 : Cond.code yX12_mouthsOf cX12_mouthsOf 5 (some .int) ∈ pb_tbl := pb_tm9 (i := 86) rfl rfl
theorem m_9_83 : Cond.methodLink RX12 526 yX12_mouthsOf ∈ pb_tbl := pb_tm9 (i := 83) rfl rfl
theorem m_9_85 : Cond.instanceMethod yX12_mouthsOf ∈ pb_tbl := pb_tm9 (i := 85) rfl rfl
theorem ms_X12_mouthsOf : Cond.selects yX12_mouthsOf.cls yX12_mouthsOf yX12_mouthsOf ∈ pb_tbl := pb_ps7 (i := 0) (q := (yX12_mouthsOf, 101)) rfl
theorem q_X12_526 : pb_ci RX12 526 yX12_mouthsOf 2 := ⟨Or.inl m_9_83, m_9_85, ms_X12_mouthsOf, m_1_13, by decide +kernel, by decide +kernel, by decide +kernel⟩
theorem m_9_82 : Cond.code yX12_mouths cX12_mouths 3 (some .int) ∈ pb_tbl := pb_tm9 (i := 82) rfl rfl
theorem p_X12_234 : pb_fp 64 1 (.inr false) .long RX12 234 := ⟨12, _, RX12, TX12, 101, tyX12, h_64, rfl, rfl, by decide, u_X12, Or.inl m_6_152, tyX12_ok, nmX12, rfl, rfl⟩
theorem p_X12_7 : pb_fp 64 2 (.inr false) .long RX12 7 := ⟨12, _, RX12, TX12, 101, tyX12, h_64, rfl, rfl, by decide, u_X12, Or.inl m_6_153, tyX12_ok, nmX12, rfl, rfl⟩
theorem m_9_95 : Cond.code yX12_fraction cX12_fraction 11 (some .int) ∈ pb_tbl := pb_tm9 (i := 95) rfl rfl
theorem m_9_91 : Cond.constantLong RX12 529 (100) ∈ pb_tbl := pb_tm9 (i := 91) rfl rfl
theorem m_9_92 : Cond.methodLink RX12 531 yX12_fraction ∈ pb_tbl := pb_tm9 (i := 92) rfl rfl
theorem m_9_94 : Cond.instanceMethod yX12_fraction ∈ pb_tbl := pb_tm9 (i := 94) rfl rfl
theorem ms_X12_fraction : Cond.selects yX12_fraction.cls yX12_fraction yX12_fraction ∈ pb_tbl := pb_ps7 (i := 1) (q := (yX12_fraction, 101)) rfl
theorem q_X12_531 : pb_ci RX12 531 yX12_fraction 2 := ⟨Or.inl m_9_92, m_9_94, ms_X12_fraction, m_1_13, by decide +kernel, by decide +kernel, by decide +kernel⟩
theorem m_9_90 : Cond.code yX12_share cX12_share 6 (some .int) ∈ pb_tbl := pb_tm9 (i := 90) rfl rfl
theorem m_7_2 : Cond.fieldLink RX12 207 "PennyBooksModel" "pricePence" "[I" ∈ pb_tbl := pb_tm7 (i := 2) rfl rfl
theorem g_X12_207 : pb_fd 64 91 (.inl 122) RX12 207 := ⟨12, _, RX12, TX12, 101, h_64, rfl, rfl, by decide, u_X12, Or.inl m_7_2⟩
theorem h_122 : pb_sh[122]? = some (.inl (0, 200)) := rfl
theorem m_7_3 : Cond.fieldLink RX12 210 "PennyBooksModel" "priceUnits" "[I" ∈ pb_tbl := pb_tm7 (i := 3) rfl rfl
theorem g_X12_210 : pb_fd 64 92 (.inl 123) RX12 210 := ⟨12, _, RX12, TX12, 101, h_64, rfl, rfl, by decide, u_X12, Or.inl m_7_3⟩
theorem h_123 : pb_sh[123]? = some (.inl (0, 200)) := rfl
theorem g_X12_168 : pb_fd 64 77 (.inr true) RX12 168 := ⟨12, _, RX12, TX12, 101, h_64, rfl, rfl, by decide, u_X12, Or.inl m_6_228⟩
theorem m_9_99 : Cond.code yX12_price cX12_price 11 (some .int) ∈ pb_tbl := pb_tm9 (i := 99) rfl rfl
theorem m_7_4 : Cond.fieldLink RX12 213 "PennyBooksModel" "handMany" "[I" ∈ pb_tbl := pb_tm7 (i := 4) rfl rfl
theorem g_X12_213 : pb_fd 64 93 (.inl 124) RX12 213 := ⟨12, _, RX12, TX12, 101, h_64, rfl, rfl, by decide, u_X12, Or.inl m_7_4⟩
theorem h_124 : pb_sh[124]? = some (.inl (0, 8)) := rfl
theorem m_9_107 : Cond.code yX12_unlike cX12_unlike 7 (some .int) ∈ pb_tbl := pb_tm9 (i := 107) rfl rfl
theorem m_9_108 : Cond.constant RX12 539 (1000000000) ∈ pb_tbl := pb_tm9 (i := 108) rfl rfl
theorem m_9_104 : Cond.methodLink RX12 535 yX12_unlike ∈ pb_tbl := pb_tm9 (i := 104) rfl rfl
theorem m_9_106 : Cond.instanceMethod yX12_unlike ∈ pb_tbl := pb_tm9 (i := 106) rfl rfl
theorem ms_X12_unlike : Cond.selects yX12_unlike.cls yX12_unlike yX12_unlike ∈ pb_tbl := pb_ps7 (i := 2) (q := (yX12_unlike, 101)) rfl
theorem q_X12_535 : pb_ci RX12 535 yX12_unlike 3 := ⟨Or.inl m_9_104, m_9_106, ms_X12_unlike, m_1_13, by decide +kernel, by decide +kernel, by decide +kernel⟩
theorem m_9_103 : Cond.code yX12_change cX12_change 8 (some .int) ∈ pb_tbl := pb_tm9 (i := 103) rfl rfl
theorem m_7_8 : Cond.fieldLink RX12 540 "PennyBooksModel" "weighed" "I" ∈ pb_tbl := pb_tm7 (i := 8) rfl rfl
theorem p_X12_540 : pb_fp 64 97 (.inr true) .int RX12 540 := ⟨12, _, RX12, TX12, 101, tyX12, h_64, rfl, rfl, by decide, u_X12, Or.inl m_7_8, tyX12_ok, nmX12, rfl, rfl⟩
theorem m_7_5 : Cond.fieldLink RX12 216 "PennyBooksModel" "weight" "[I" ∈ pb_tbl := pb_tm7 (i := 5) rfl rfl
theorem g_X12_216 : pb_fd 64 94 (.inl 125) RX12 216 := ⟨12, _, RX12, TX12, 101, h_64, rfl, rfl, by decide, u_X12, Or.inl m_7_5⟩
theorem h_125 : pb_sh[125]? = some (.inl (0, 8)) := rfl
theorem m_7_7 : Cond.fieldLink RX12 222 "PennyBooksModel" "has" "[I" ∈ pb_tbl := pb_tm7 (i := 7) rfl rfl
theorem g_X12_222 : pb_fd 64 96 (.inl 127) RX12 222 := ⟨12, _, RX12, TX12, 101, h_64, rfl, rfl, by decide, u_X12, Or.inl m_7_7⟩
theorem h_127 : pb_sh[127]? = some (.inl (0, 8)) := rfl
theorem m_7_6 : Cond.fieldLink RX12 219 "PennyBooksModel" "foundWeight" "[I" ∈ pb_tbl := pb_tm7 (i := 6) rfl rfl
theorem g_X12_219 : pb_fd 64 95 (.inl 126) RX12 219 := ⟨12, _, RX12, TX12, 101, h_64, rfl, rfl, by decide, u_X12, Or.inl m_7_6⟩
theorem h_126 : pb_sh[126]? = some (.inl (0, 8)) := rfl
theorem m_9_112 : Cond.code yX12_weights cX12_weights 10 (some .int) ∈ pb_tbl := pb_tm9 (i := 112) rfl rfl
theorem g_X12_540 : pb_fd 64 97 (.inr true) RX12 540 := ⟨12, _, RX12, TX12, 101, h_64, rfl, rfl, by decide, u_X12, Or.inl m_7_8⟩
theorem m_9_116 : Cond.code yX12_weight cX12_weight 2 (some .int) ∈ pb_tbl := pb_tm9 (i := 116) rfl rfl
theorem m_9_128 : Cond.code yX12_hasLine cX12_hasLine 4 (some .boolean) ∈ pb_tbl := pb_tm9 (i := 128) rfl rfl
theorem m_9_132 : Cond.code yX12_edge cX12_edge 5 (some .int) ∈ pb_tbl := pb_tm9 (i := 132) rfl rfl
theorem m_9_125 : Cond.methodLink RX12 543 yX12_hasLine ∈ pb_tbl := pb_tm9 (i := 125) rfl rfl
theorem m_9_127 : Cond.instanceMethod yX12_hasLine ∈ pb_tbl := pb_tm9 (i := 127) rfl rfl
theorem ms_X12_hasLine : Cond.selects yX12_hasLine.cls yX12_hasLine yX12_hasLine ∈ pb_tbl := pb_ps7 (i := 4) (q := (yX12_hasLine, 101)) rfl
theorem q_X12_543 : pb_ci RX12 543 yX12_hasLine 2 := ⟨Or.inl m_9_125, m_9_127, ms_X12_hasLine, m_1_13, by decide +kernel, by decide +kernel, by decide +kernel⟩
theorem m_9_129 : Cond.methodLink RX12 546 yX12_edge ∈ pb_tbl := pb_tm9 (i := 129) rfl rfl
theorem m_9_131 : Cond.instanceMethod yX12_edge ∈ pb_tbl := pb_tm9 (i := 131) rfl rfl
theorem ms_X12_edge : Cond.selects yX12_edge.cls yX12_edge yX12_edge ∈ pb_tbl := pb_ps7 (i := 5) (q := (yX12_edge, 101)) rfl
theorem q_X12_546 : pb_ci RX12 546 yX12_edge 2 := ⟨Or.inl m_9_129, m_9_131, ms_X12_edge, m_1_13, by decide +kernel, by decide +kernel, by decide +kernel⟩
theorem m_9_124 : Cond.code yX12_isGap cX12_isGap 3 (some .boolean) ∈ pb_tbl := pb_tm9 (i := 124) rfl rfl
theorem m_9_121 : Cond.methodLink RX12 550 yX12_isGap ∈ pb_tbl := pb_tm9 (i := 121) rfl rfl
theorem m_9_123 : Cond.instanceMethod yX12_isGap ∈ pb_tbl := pb_tm9 (i := 123) rfl rfl
theorem ms_X12_isGap : Cond.selects yX12_isGap.cls yX12_isGap yX12_isGap ∈ pb_tbl := pb_ps7 (i := 3) (q := (yX12_isGap, 101)) rfl
theorem q_X12_550 : pb_ci RX12 550 yX12_isGap 2 := ⟨Or.inl m_9_121, m_9_123, ms_X12_isGap, m_1_13, by decide +kernel, by decide +kernel, by decide +kernel⟩
theorem m_9_120 : Cond.code yX12_gaps cX12_gaps 4 (some .int) ∈ pb_tbl := pb_tm9 (i := 120) rfl rfl
theorem m_9_136 : Cond.code yX12_bound cX12_bound 8 (some .int) ∈ pb_tbl := pb_tm9 (i := 136) rfl rfl
theorem m_7_9 : Cond.fieldLink RX12 553 "PennyBooksModel" "losses" "I" ∈ pb_tbl := pb_tm7 (i := 9) rfl rfl
theorem g_X12_553 : pb_fd 64 98 (.inr true) RX12 553 := ⟨12, _, RX12, TX12, 101, h_64, rfl, rfl, by decide, u_X12, Or.inl m_7_9⟩
theorem m_7_10 : Cond.fieldLink RX12 225 "PennyBooksModel" "oFamily" "[I" ∈ pb_tbl := pb_tm7 (i := 10) rfl rfl
theorem g_X12_225 : pb_fd 64 99 (.inl 128) RX12 225 := ⟨12, _, RX12, TX12, 101, h_64, rfl, rfl, by decide, u_X12, Or.inl m_7_10⟩
theorem h_128 : pb_sh[128]? = some (.inl (0, 12)) := rfl
theorem m_7_11 : Cond.fieldLink RX12 228 "PennyBooksModel" "oWeek" "[I" ∈ pb_tbl := pb_tm7 (i := 11) rfl rfl
theorem g_X12_228 : pb_fd 64 100 (.inl 129) RX12 228 := ⟨12, _, RX12, TX12, 101, h_64, rfl, rfl, by decide, u_X12, Or.inl m_7_11⟩
theorem h_129 : pb_sh[129]? = some (.inl (0, 12)) := rfl
theorem p_X12_553 : pb_fp 64 98 (.inr true) .int RX12 553 := ⟨12, _, RX12, TX12, 101, tyX12, h_64, rfl, rfl, by decide, u_X12, Or.inl m_7_9, tyX12_ok, nmX12, rfl, rfl⟩
theorem m_9_140 : Cond.code yX12_loss cX12_loss 3 (some .int) ∈ pb_tbl := pb_tm9 (i := 140) rfl rfl
theorem m_9_148 : Cond.code yX12_areWeeks cX12_areWeeks 3 (some .boolean) ∈ pb_tbl := pb_tm9 (i := 148) rfl rfl
theorem m_9_152 : Cond.code yX12_hasAll cX12_hasAll 5 (some .boolean) ∈ pb_tbl := pb_tm9 (i := 152) rfl rfl
theorem m_9_149 : Cond.methodLink RX12 556 yX12_hasAll ∈ pb_tbl := pb_tm9 (i := 149) rfl rfl
theorem m_9_151 : Cond.instanceMethod yX12_hasAll ∈ pb_tbl := pb_tm9 (i := 151) rfl rfl
theorem ms_X12_hasAll : Cond.selects yX12_hasAll.cls yX12_hasAll yX12_hasAll ∈ pb_tbl := pb_ps7 (i := 7) (q := (yX12_hasAll, 101)) rfl
theorem q_X12_556 : pb_ci RX12 556 yX12_hasAll 3 := ⟨Or.inl m_9_149, m_9_151, ms_X12_hasAll, m_1_13, by decide +kernel, by decide +kernel, by decide +kernel⟩
theorem m_9_156 : Cond.code yX12_isLike cX12_isLike 5 (some .boolean) ∈ pb_tbl := pb_tm9 (i := 156) rfl rfl
theorem m_9_160 : Cond.code yX12_differs cX12_differs 9 (some .long) ∈ pb_tbl := pb_tm9 (i := 160) rfl rfl
theorem m_9_145 : Cond.methodLink RX12 559 yX12_areWeeks ∈ pb_tbl := pb_tm9 (i := 145) rfl rfl
theorem m_9_147 : Cond.instanceMethod yX12_areWeeks ∈ pb_tbl := pb_tm9 (i := 147) rfl rfl
theorem ms_X12_areWeeks : Cond.selects yX12_areWeeks.cls yX12_areWeeks yX12_areWeeks ∈ pb_tbl := pb_ps7 (i := 6) (q := (yX12_areWeeks, 101)) rfl
theorem q_X12_559 : pb_ci RX12 559 yX12_areWeeks 2 := ⟨Or.inl m_9_145, m_9_147, ms_X12_areWeeks, m_1_13, by decide +kernel, by decide +kernel, by decide +kernel⟩
theorem m_9_157 : Cond.methodLink RX12 565 yX12_differs ∈ pb_tbl := pb_tm9 (i := 157) rfl rfl
theorem m_9_159 : Cond.instanceMethod yX12_differs ∈ pb_tbl := pb_tm9 (i := 159) rfl rfl
theorem ms_X12_differs : Cond.selects yX12_differs.cls yX12_differs yX12_differs ∈ pb_tbl := pb_ps7 (i := 9) (q := (yX12_differs, 101)) rfl
theorem q_X12_565 : pb_ci RX12 565 yX12_differs 5 := ⟨Or.inl m_9_157, m_9_159, ms_X12_differs, m_1_13, by decide +kernel, by decide +kernel, by decide +kernel⟩
theorem m_9_153 : Cond.methodLink RX12 562 yX12_isLike ∈ pb_tbl := pb_tm9 (i := 153) rfl rfl
theorem m_9_155 : Cond.instanceMethod yX12_isLike ∈ pb_tbl := pb_tm9 (i := 155) rfl rfl
theorem ms_X12_isLike : Cond.selects yX12_isLike.cls yX12_isLike yX12_isLike ∈ pb_tbl := pb_ps7 (i := 8) (q := (yX12_isLike, 101)) rfl
theorem q_X12_562 : pb_ci RX12 562 yX12_isLike 3 := ⟨Or.inl m_9_153, m_9_155, ms_X12_isLike, m_1_13, by decide +kernel, by decide +kernel, by decide +kernel⟩
theorem m_9_144 : Cond.code yX12_fell cX12_fell 9 (some .int) ∈ pb_tbl := pb_tm9 (i := 144) rfl rfl
theorem m_9_164 : Cond.code yX12_likes cX12_likes 5 (some .int) ∈ pb_tbl := pb_tm9 (i := 164) rfl rfl
theorem m_3_110 : Cond.static arraycopyName ∈ pb_tbl := pb_tm3 (i := 110) rfl rfl
theorem m_1_15 : Cond.initialized RJ10 ∈ pb_tbl := pb_tm1 (i := 15) rfl rfl
theorem m_nat : Cond.native arraycopyName ∈ pb_tbl ∧ Cond.static arraycopyName ∈ pb_tbl ∧ Cond.initialized "java/lang/System" ∈ pb_tbl := ⟨pb_tm3 (i := 111) rfl rfl, m_3_110, m_1_15⟩
