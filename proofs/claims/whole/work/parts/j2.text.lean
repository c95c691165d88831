/-! THE TEXT'S METHODS, their words and their steps -/
theorem gs_c_sLen : Cond.code sLen prog_23_method_54_code 1 (some .int) ∈ gw := gw_mem 764 (by decide +kernel) rfl
theorem gs_c_sCod : Cond.code sCod prog_23_method_152_code 1 (some .byte) ∈ gw := gw_mem 768 (by decide +kernel) rfl
theorem gs_c_sAt : Cond.code sAt prog_23_method_56_code 2 (some .char) ∈ gw := gw_mem 777 (by decide +kernel) rfl
theorem gs_c_sLat : Cond.code sLat prog_23_method_154_code 1 (some .boolean) ∈ gw := gw_mem 781 (by decide +kernel) rfl
theorem gs_c_sChk : Cond.code sChk prog_23_method_155_code 2 (none) ∈ gw := gw_mem 787 (by decide +kernel) rfl
theorem gs_c_sL1 : Cond.code sL1 prog_24_method_2_code 2 (some .char) ∈ gw := gw_mem 784 (by decide +kernel) rfl
theorem gs_c_sPre : Cond.code sPre prog_31_method_11_code 3 (some .int) ∈ gw := gw_mem 792 (by decide +kernel) rfl
theorem gs_i0 : Cond.initialized "java/lang/String" ∈ gw := gw_mem 160 (by decide +kernel) rfl
theorem gs_i1 : Cond.initialized "java/lang/StringLatin1" ∈ gw := gw_mem 161 (by decide +kernel) rfl
theorem gs_i3 : Cond.initialized "jdk/internal/util/Preconditions" ∈ gw := gw_mem 162 (by decide +kernel) rfl
theorem gs_m_sLen : Cond.instanceMethod sLen ∈ gw := gw_mem 762 (by decide +kernel) rfl
theorem gs_s_sLen : Cond.selects "java/lang/String" sLen sLen ∈ gw := gw_mem 763 (by decide +kernel) rfl
theorem gs_m_sCod : Cond.instanceMethod sCod ∈ gw := gw_mem 766 (by decide +kernel) rfl
theorem gs_s_sCod : Cond.selects "java/lang/String" sCod sCod ∈ gw := gw_mem 767 (by decide +kernel) rfl
theorem gs_m_sAt : Cond.instanceMethod sAt ∈ gw := gw_mem 775 (by decide +kernel) rfl
theorem gs_s_sAt : Cond.selects "java/lang/String" sAt sAt ∈ gw := gw_mem 776 (by decide +kernel) rfl
theorem gs_m_sLat : Cond.instanceMethod sLat ∈ gw := gw_mem 779 (by decide +kernel) rfl
theorem gs_s_sLat : Cond.selects "java/lang/String" sLat sLat ∈ gw := gw_mem 780 (by decide +kernel) rfl
theorem gs_m_sL1 : Cond.static sL1 ∈ gw := gw_mem 783 (by decide +kernel) rfl
theorem gs_m_sChk : Cond.static sChk ∈ gw := gw_mem 786 (by decide +kernel) rfl
theorem gs_m_sPre : Cond.static sPre ∈ gw := gw_mem 791 (by decide +kernel) rfl
theorem gs_l_335 : Cond.methodLink "java/lang/String" 335 sCod ∈ gw := gw_mem 765 (by decide +kernel) rfl
theorem gs_l_492 : Cond.methodLink "java/lang/String" 492 sLat ∈ gw := gw_mem 778 (by decide +kernel) rfl
theorem gs_l_495 : Cond.methodLink "java/lang/String" 495 sL1 ∈ gw := gw_mem 782 (by decide +kernel) rfl
theorem gs_l_1059 : Cond.methodLink "java/lang/String" 1059 sPre ∈ gw := gw_mem 790 (by decide +kernel) rfl
theorem gs_l_9 : Cond.methodLink "java/lang/StringLatin1" 9 sChk ∈ gw := gw_mem 785 (by decide +kernel) rfl
theorem gs_l_68 : Cond.methodLink "HayWriting$Tokens" 68 sLen ∈ gw := gw_mem 761 (by decide +kernel) rfl
theorem gs_l_77 : Cond.methodLink "HayWriting$Tokens" 77 sAt ∈ gw := gw_mem 774 (by decide +kernel) rfl
theorem gs_f_38 : Cond.fieldLink "java/lang/String" 38 "java/lang/String" "COMPACT_STRINGS" "Z" ∈ gw := gw_mem 769 (by decide +kernel) rfl
theorem gs_f_1053 : Cond.fieldLink "java/lang/String" 1053 "jdk/internal/util/Preconditions" "SIOOBE_FORMATTER" "Ljava/util/function/BiFunction;" ∈ gw := gw_mem 788 (by decide +kernel) rfl
theorem gs_f_9 : Cond.fieldLink "java/lang/String" 9 "java/lang/String" "value" "[B" ∈ gw := gw_mem 2507 (by decide +kernel) rfl
theorem gs_f_15 : Cond.fieldLink "java/lang/String" 15 "java/lang/String" "coder" "B" ∈ gw := gw_mem 2508 (by decide +kernel) rfl
theorem d_sPre_0 : decode prog_31_method_11_code 0 = .ok (.iload_n 0, 1) := by decide +kernel
theorem d_sPre_1 : decode prog_31_method_11_code 1 = .ok (.ifCond .lt 8, 3) := by decide +kernel
theorem d_sPre_4 : decode prog_31_method_11_code 4 = .ok (.iload_n 0, 1) := by decide +kernel
theorem d_sPre_5 : decode prog_31_method_11_code 5 = .ok (.iload_n 1, 1) := by decide +kernel
theorem d_sPre_6 : decode prog_31_method_11_code 6 = .ok (.if_icmp .lt 10, 3) := by decide +kernel
theorem d_sPre_16 : decode prog_31_method_11_code 16 = .ok (.iload_n 0, 1) := by decide +kernel
theorem d_sPre_17 : decode prog_31_method_11_code 17 = .ok (.ireturn, 1) := by decide +kernel
theorem d_sChk_0 : decode prog_23_method_155_code 0 = .ok (.iload_n 0, 1) := by decide +kernel
theorem d_sChk_1 : decode prog_23_method_155_code 1 = .ok (.iload_n 1, 1) := by decide +kernel
theorem d_sChk_2 : decode prog_23_method_155_code 2 = .ok (.getstatic 1053, 3) := by decide +kernel
theorem d_sChk_5 : decode prog_23_method_155_code 5 = .ok (.invokestatic 1059, 3) := by decide +kernel
theorem d_sChk_8 : decode prog_23_method_155_code 8 = .ok (.pop, 1) := by decide +kernel
theorem d_sChk_9 : decode prog_23_method_155_code 9 = .ok (.return_, 1) := by decide +kernel
theorem d_sL1_0 : decode prog_24_method_2_code 0 = .ok (.iload_n 1, 1) := by decide +kernel
theorem d_sL1_1 : decode prog_24_method_2_code 1 = .ok (.aload_n 0, 1) := by decide +kernel
theorem d_sL1_2 : decode prog_24_method_2_code 2 = .ok (.arraylength, 1) := by decide +kernel
theorem d_sL1_3 : decode prog_24_method_2_code 3 = .ok (.invokestatic 9, 3) := by decide +kernel
theorem d_sL1_6 : decode prog_24_method_2_code 6 = .ok (.aload_n 0, 1) := by decide +kernel
theorem d_sL1_7 : decode prog_24_method_2_code 7 = .ok (.iload_n 1, 1) := by decide +kernel
theorem d_sL1_8 : decode prog_24_method_2_code 8 = .ok (.baload, 1) := by decide +kernel
theorem d_sL1_9 : decode prog_24_method_2_code 9 = .ok (.sipush 255, 3) := by decide +kernel
theorem d_sL1_12 : decode prog_24_method_2_code 12 = .ok (.iand, 1) := by decide +kernel
theorem d_sL1_13 : decode prog_24_method_2_code 13 = .ok (.i2c, 1) := by decide +kernel
theorem d_sL1_14 : decode prog_24_method_2_code 14 = .ok (.ireturn, 1) := by decide +kernel
theorem d_sLat_0 : decode prog_23_method_154_code 0 = .ok (.getstatic 38, 3) := by decide +kernel
theorem d_sLat_3 : decode prog_23_method_154_code 3 = .ok (.ifCond .eq 14, 3) := by decide +kernel
theorem d_sLat_6 : decode prog_23_method_154_code 6 = .ok (.aload_n 0, 1) := by decide +kernel
theorem d_sLat_7 : decode prog_23_method_154_code 7 = .ok (.getfield 15, 3) := by decide +kernel
theorem d_sLat_10 : decode prog_23_method_154_code 10 = .ok (.ifCond .ne 7, 3) := by decide +kernel
theorem d_sLat_13 : decode prog_23_method_154_code 13 = .ok (.iconst 1, 1) := by decide +kernel
theorem d_sLat_14 : decode prog_23_method_154_code 14 = .ok (.goto 4, 3) := by decide +kernel
theorem d_sLat_18 : decode prog_23_method_154_code 18 = .ok (.ireturn, 1) := by decide +kernel
theorem d_sAt_0 : decode prog_23_method_56_code 0 = .ok (.aload_n 0, 1) := by decide +kernel
theorem d_sAt_1 : decode prog_23_method_56_code 1 = .ok (.invokevirtual 492, 3) := by decide +kernel
theorem d_sAt_4 : decode prog_23_method_56_code 4 = .ok (.ifCond .eq 12, 3) := by decide +kernel
theorem d_sAt_7 : decode prog_23_method_56_code 7 = .ok (.aload_n 0, 1) := by decide +kernel
theorem d_sAt_8 : decode prog_23_method_56_code 8 = .ok (.getfield 9, 3) := by decide +kernel
theorem d_sAt_11 : decode prog_23_method_56_code 11 = .ok (.iload_n 1, 1) := by decide +kernel
theorem d_sAt_12 : decode prog_23_method_56_code 12 = .ok (.invokestatic 495, 3) := by decide +kernel
theorem d_sAt_15 : decode prog_23_method_56_code 15 = .ok (.ireturn, 1) := by decide +kernel
theorem d_sCod_0 : decode prog_23_method_152_code 0 = .ok (.getstatic 38, 3) := by decide +kernel
theorem d_sCod_3 : decode prog_23_method_152_code 3 = .ok (.ifCond .eq 10, 3) := by decide +kernel
theorem d_sCod_6 : decode prog_23_method_152_code 6 = .ok (.aload_n 0, 1) := by decide +kernel
theorem d_sCod_7 : decode prog_23_method_152_code 7 = .ok (.getfield 15, 3) := by decide +kernel
theorem d_sCod_10 : decode prog_23_method_152_code 10 = .ok (.goto 4, 3) := by decide +kernel
theorem d_sCod_14 : decode prog_23_method_152_code 14 = .ok (.ireturn, 1) := by decide +kernel
theorem d_sLen_0 : decode prog_23_method_54_code 0 = .ok (.aload_n 0, 1) := by decide +kernel
theorem d_sLen_1 : decode prog_23_method_54_code 1 = .ok (.getfield 9, 3) := by decide +kernel
theorem d_sLen_4 : decode prog_23_method_54_code 4 = .ok (.arraylength, 1) := by decide +kernel
theorem d_sLen_5 : decode prog_23_method_54_code 5 = .ok (.aload_n 0, 1) := by decide +kernel
theorem d_sLen_6 : decode prog_23_method_54_code 6 = .ok (.invokevirtual 335, 3) := by decide +kernel
theorem d_sLen_9 : decode prog_23_method_54_code 9 = .ok (.ishr, 1) := by decide +kernel
theorem d_sLen_10 : decode prog_23_method_54_code 10 = .ok (.ireturn, 1) := by decide +kernel
