/-! String's own methods on the constants, walked: names, decode rows, words -/
def RJ0 : String := "java/lang/String"
def RJ1 : String := "java/lang/StringLatin1"
def RJ3 : String := "jdk/internal/util/Preconditions"
abbrev nc_coder : ByteArray := prog_18_method_152_code
def ny_coder : MethodName := ⟨RJ0, "coder", "()B"⟩
theorem nd_coder_0 : decode nc_coder 0 = .ok (.getstatic 38, 3) := by decide +kernel
theorem nd_coder_3 : decode nc_coder 3 = .ok (.ifCond .eq 10, 3) := by decide +kernel
theorem nd_coder_6 : decode nc_coder 6 = .ok (.aload_n 0, 1) := by decide +kernel
theorem nd_coder_7 : decode nc_coder 7 = .ok (.getfield 15, 3) := by decide +kernel
theorem nd_coder_10 : decode nc_coder 10 = .ok (.goto 4, 3) := by decide +kernel
theorem nd_coder_13 : decode nc_coder 13 = .ok (.iconst 1, 1) := by decide +kernel
theorem nd_coder_14 : decode nc_coder 14 = .ok (.ireturn, 1) := by decide +kernel
theorem nw_code_coder : Cond.code ny_coder nc_coder 1 (some .byte) ∈ mv_tbl := mv_tbl_of (k := 161) (by decide +kernel) rfl
theorem nw_kind_coder : Cond.instanceMethod ny_coder ∈ mv_tbl := mv_tbl_of (k := 159) (by decide +kernel) rfl
theorem nw_sel_coder : Cond.selects ny_coder.cls ny_coder ny_coder ∈ mv_tbl := mv_tbl_of (k := 160) (by decide +kernel) rfl
abbrev nc_lat1 : ByteArray := prog_18_method_154_code
def ny_lat1 : MethodName := ⟨RJ0, "isLatin1", "()Z"⟩
theorem nd_lat1_0 : decode nc_lat1 0 = .ok (.getstatic 38, 3) := by decide +kernel
theorem nd_lat1_3 : decode nc_lat1 3 = .ok (.ifCond .eq 14, 3) := by decide +kernel
theorem nd_lat1_6 : decode nc_lat1 6 = .ok (.aload_n 0, 1) := by decide +kernel
theorem nd_lat1_7 : decode nc_lat1 7 = .ok (.getfield 15, 3) := by decide +kernel
theorem nd_lat1_10 : decode nc_lat1 10 = .ok (.ifCond .ne 7, 3) := by decide +kernel
theorem nd_lat1_13 : decode nc_lat1 13 = .ok (.iconst 1, 1) := by decide +kernel
theorem nd_lat1_14 : decode nc_lat1 14 = .ok (.goto 4, 3) := by decide +kernel
theorem nd_lat1_17 : decode nc_lat1 17 = .ok (.iconst 0, 1) := by decide +kernel
theorem nd_lat1_18 : decode nc_lat1 18 = .ok (.ireturn, 1) := by decide +kernel
theorem nw_code_lat1 : Cond.code ny_lat1 nc_lat1 1 (some .boolean) ∈ mv_tbl := mv_tbl_of (k := 171) (by decide +kernel) rfl
theorem nw_kind_lat1 : Cond.instanceMethod ny_lat1 ∈ mv_tbl := mv_tbl_of (k := 169) (by decide +kernel) rfl
theorem nw_sel_lat1 : Cond.selects ny_lat1.cls ny_lat1 ny_lat1 ∈ mv_tbl := mv_tbl_of (k := 170) (by decide +kernel) rfl
abbrev nc_len : ByteArray := prog_18_method_54_code
def ny_len : MethodName := ⟨RJ0, "length", "()I"⟩
theorem nd_len_0 : decode nc_len 0 = .ok (.aload_n 0, 1) := by decide +kernel
theorem nd_len_1 : decode nc_len 1 = .ok (.getfield 9, 3) := by decide +kernel
theorem nd_len_4 : decode nc_len 4 = .ok (.arraylength, 1) := by decide +kernel
theorem nd_len_5 : decode nc_len 5 = .ok (.aload_n 0, 1) := by decide +kernel
theorem nd_len_6 : decode nc_len 6 = .ok (.invokevirtual 335, 3) := by decide +kernel
theorem nd_len_9 : decode nc_len 9 = .ok (.ishr, 1) := by decide +kernel
theorem nd_len_10 : decode nc_len 10 = .ok (.ireturn, 1) := by decide +kernel
theorem nw_code_len : Cond.code ny_len nc_len 1 (some .int) ∈ mv_tbl := mv_tbl_of (k := 157) (by decide +kernel) rfl
theorem nw_kind_len : Cond.instanceMethod ny_len ∈ mv_tbl := mv_tbl_of (k := 155) (by decide +kernel) rfl
theorem nw_sel_len : Cond.selects ny_len.cls ny_len ny_len ∈ mv_tbl := mv_tbl_of (k := 156) (by decide +kernel) rfl
abbrev nc_char : ByteArray := prog_18_method_56_code
def ny_char : MethodName := ⟨RJ0, "charAt", "(I)C"⟩
theorem nd_char_0 : decode nc_char 0 = .ok (.aload_n 0, 1) := by decide +kernel
theorem nd_char_1 : decode nc_char 1 = .ok (.invokevirtual 492, 3) := by decide +kernel
theorem nd_char_4 : decode nc_char 4 = .ok (.ifCond .eq 12, 3) := by decide +kernel
theorem nd_char_7 : decode nc_char 7 = .ok (.aload_n 0, 1) := by decide +kernel
theorem nd_char_8 : decode nc_char 8 = .ok (.getfield 9, 3) := by decide +kernel
theorem nd_char_11 : decode nc_char 11 = .ok (.iload_n 1, 1) := by decide +kernel
theorem nd_char_12 : decode nc_char 12 = .ok (.invokestatic 495, 3) := by decide +kernel
theorem nd_char_15 : decode nc_char 15 = .ok (.ireturn, 1) := by decide +kernel
theorem nd_char_16 : decode nc_char 16 = .ok (.aload_n 0, 1) := by decide +kernel
theorem nd_char_17 : decode nc_char 17 = .ok (.getfield 9, 3) := by decide +kernel
theorem nd_char_20 : decode nc_char 20 = .ok (.iload_n 1, 1) := by decide +kernel
theorem nd_char_21 : decode nc_char 21 = .ok (.invokestatic 498, 3) := by decide +kernel
theorem nd_char_24 : decode nc_char 24 = .ok (.ireturn, 1) := by decide +kernel
theorem nw_code_char : Cond.code ny_char nc_char 2 (some .char) ∈ mv_tbl := mv_tbl_of (k := 167) (by decide +kernel) rfl
theorem nw_kind_char : Cond.instanceMethod ny_char ∈ mv_tbl := mv_tbl_of (k := 165) (by decide +kernel) rfl
theorem nw_sel_char : Cond.selects ny_char.cls ny_char ny_char ∈ mv_tbl := mv_tbl_of (k := 166) (by decide +kernel) rfl
abbrev nc_ioI : ByteArray := prog_18_method_79_code
def ny_ioI : MethodName := ⟨RJ0, "indexOf", "(I)I"⟩
theorem nd_ioI_0 : decode nc_ioI 0 = .ok (.aload_n 0, 1) := by decide +kernel
theorem nd_ioI_1 : decode nc_ioI 1 = .ok (.iload_n 1, 1) := by decide +kernel
theorem nd_ioI_2 : decode nc_ioI 2 = .ok (.iconst 0, 1) := by decide +kernel
theorem nd_ioI_3 : decode nc_ioI 3 = .ok (.invokevirtual 633, 3) := by decide +kernel
theorem nd_ioI_6 : decode nc_ioI 6 = .ok (.ireturn, 1) := by decide +kernel
theorem nw_code_ioI : Cond.code ny_ioI nc_ioI 2 (some .int) ∈ mv_tbl := mv_tbl_of (k := 830) (by decide +kernel) rfl
theorem nw_kind_ioI : Cond.instanceMethod ny_ioI ∈ mv_tbl := mv_tbl_of (k := 828) (by decide +kernel) rfl
theorem nw_sel_ioI : Cond.selects ny_ioI.cls ny_ioI ny_ioI ∈ mv_tbl := mv_tbl_of (k := 829) (by decide +kernel) rfl
abbrev nc_ioII : ByteArray := prog_18_method_80_code
def ny_ioII : MethodName := ⟨RJ0, "indexOf", "(II)I"⟩
theorem nd_ioII_0 : decode nc_ioII 0 = .ok (.aload_n 0, 1) := by decide +kernel
theorem nd_ioII_1 : decode nc_ioII 1 = .ok (.invokevirtual 492, 3) := by decide +kernel
theorem nd_ioII_4 : decode nc_ioII 4 = .ok (.ifCond .eq 19, 3) := by decide +kernel
theorem nd_ioII_7 : decode nc_ioII 7 = .ok (.aload_n 0, 1) := by decide +kernel
theorem nd_ioII_8 : decode nc_ioII 8 = .ok (.getfield 9, 3) := by decide +kernel
theorem nd_ioII_11 : decode nc_ioII 11 = .ok (.iload_n 1, 1) := by decide +kernel
theorem nd_ioII_12 : decode nc_ioII 12 = .ok (.iload_n 2, 1) := by decide +kernel
theorem nd_ioII_13 : decode nc_ioII 13 = .ok (.aload_n 0, 1) := by decide +kernel
theorem nd_ioII_14 : decode nc_ioII 14 = .ok (.invokevirtual 505, 3) := by decide +kernel
theorem nd_ioII_17 : decode nc_ioII 17 = .ok (.invokestatic 637, 3) := by decide +kernel
theorem nd_ioII_20 : decode nc_ioII 20 = .ok (.goto 16, 3) := by decide +kernel
theorem nd_ioII_23 : decode nc_ioII 23 = .ok (.aload_n 0, 1) := by decide +kernel
theorem nd_ioII_24 : decode nc_ioII 24 = .ok (.getfield 9, 3) := by decide +kernel
theorem nd_ioII_27 : decode nc_ioII 27 = .ok (.iload_n 1, 1) := by decide +kernel
theorem nd_ioII_28 : decode nc_ioII 28 = .ok (.iload_n 2, 1) := by decide +kernel
theorem nd_ioII_29 : decode nc_ioII 29 = .ok (.aload_n 0, 1) := by decide +kernel
theorem nd_ioII_30 : decode nc_ioII 30 = .ok (.invokevirtual 505, 3) := by decide +kernel
theorem nd_ioII_33 : decode nc_ioII 33 = .ok (.invokestatic 640, 3) := by decide +kernel
theorem nd_ioII_36 : decode nc_ioII 36 = .ok (.ireturn, 1) := by decide +kernel
theorem nw_code_ioII : Cond.code ny_ioII nc_ioII 3 (some .int) ∈ mv_tbl := mv_tbl_of (k := 834) (by decide +kernel) rfl
theorem nw_kind_ioII : Cond.instanceMethod ny_ioII ∈ mv_tbl := mv_tbl_of (k := 832) (by decide +kernel) rfl
theorem nw_sel_ioII : Cond.selects ny_ioII.cls ny_ioII ny_ioII ∈ mv_tbl := mv_tbl_of (k := 833) (by decide +kernel) rfl
abbrev nc_schk : ByteArray := prog_18_method_155_code
def ny_schk : MethodName := ⟨RJ0, "checkIndex", "(II)V"⟩
theorem nd_schk_0 : decode nc_schk 0 = .ok (.iload_n 0, 1) := by decide +kernel
theorem nd_schk_1 : decode nc_schk 1 = .ok (.iload_n 1, 1) := by decide +kernel
theorem nd_schk_2 : decode nc_schk 2 = .ok (.getstatic 1053, 3) := by decide +kernel
theorem nd_schk_5 : decode nc_schk 5 = .ok (.invokestatic 1059, 3) := by decide +kernel
theorem nd_schk_8 : decode nc_schk 8 = .ok (.pop, 1) := by decide +kernel
theorem nd_schk_9 : decode nc_schk 9 = .ok (.return_, 1) := by decide +kernel
theorem nw_code_schk : Cond.code ny_schk nc_schk 2 none ∈ mv_tbl := mv_tbl_of (k := 177) (by decide +kernel) rfl
theorem nw_kind_schk : Cond.static ny_schk ∈ mv_tbl := mv_tbl_of (k := 176) (by decide +kernel) rfl
abbrev nc_pchk : ByteArray := prog_21_method_11_code
def ny_pchk : MethodName := ⟨RJ3, "checkIndex", "(IILjava/util/function/BiFunction;)I"⟩
theorem nd_pchk_0 : decode nc_pchk 0 = .ok (.iload_n 0, 1) := by decide +kernel
theorem nd_pchk_1 : decode nc_pchk 1 = .ok (.ifCond .lt 8, 3) := by decide +kernel
theorem nd_pchk_4 : decode nc_pchk 4 = .ok (.iload_n 0, 1) := by decide +kernel
theorem nd_pchk_5 : decode nc_pchk 5 = .ok (.iload_n 1, 1) := by decide +kernel
theorem nd_pchk_6 : decode nc_pchk 6 = .ok (.if_icmp .lt 10, 3) := by decide +kernel
theorem nd_pchk_9 : decode nc_pchk 9 = .ok (.aload_n 2, 1) := by decide +kernel
theorem nd_pchk_10 : decode nc_pchk 10 = .ok (.iload_n 0, 1) := by decide +kernel
theorem nd_pchk_11 : decode nc_pchk 11 = .ok (.iload_n 1, 1) := by decide +kernel
theorem nd_pchk_12 : decode nc_pchk 12 = .ok (.invokestatic 95, 3) := by decide +kernel
theorem nd_pchk_15 : decode nc_pchk 15 = .ok (.athrow, 1) := by decide +kernel
theorem nd_pchk_16 : decode nc_pchk 16 = .ok (.iload_n 0, 1) := by decide +kernel
theorem nd_pchk_17 : decode nc_pchk 17 = .ok (.ireturn, 1) := by decide +kernel
theorem nw_code_pchk : Cond.code ny_pchk nc_pchk 3 (some .int) ∈ mv_tbl := mv_tbl_of (k := 182) (by decide +kernel) rfl
theorem nw_kind_pchk : Cond.static ny_pchk ∈ mv_tbl := mv_tbl_of (k := 181) (by decide +kernel) rfl
abbrev nc_lchar : ByteArray := prog_19_method_2_code
def ny_lchar : MethodName := ⟨RJ1, "charAt", "([BI)C"⟩
theorem nd_lchar_0 : decode nc_lchar 0 = .ok (.iload_n 1, 1) := by decide +kernel
theorem nd_lchar_1 : decode nc_lchar 1 = .ok (.aload_n 0, 1) := by decide +kernel
theorem nd_lchar_2 : decode nc_lchar 2 = .ok (.arraylength, 1) := by decide +kernel
theorem nd_lchar_3 : decode nc_lchar 3 = .ok (.invokestatic 9, 3) := by decide +kernel
theorem nd_lchar_6 : decode nc_lchar 6 = .ok (.aload_n 0, 1) := by decide +kernel
theorem nd_lchar_7 : decode nc_lchar 7 = .ok (.iload_n 1, 1) := by decide +kernel
theorem nd_lchar_8 : decode nc_lchar 8 = .ok (.baload, 1) := by decide +kernel
theorem nd_lchar_9 : decode nc_lchar 9 = .ok (.sipush 255, 3) := by decide +kernel
theorem nd_lchar_12 : decode nc_lchar 12 = .ok (.iand, 1) := by decide +kernel
theorem nd_lchar_13 : decode nc_lchar 13 = .ok (.i2c, 1) := by decide +kernel
theorem nd_lchar_14 : decode nc_lchar 14 = .ok (.ireturn, 1) := by decide +kernel
theorem nw_code_lchar : Cond.code ny_lchar nc_lchar 2 (some .char) ∈ mv_tbl := mv_tbl_of (k := 174) (by decide +kernel) rfl
theorem nw_kind_lchar : Cond.static ny_lchar ∈ mv_tbl := mv_tbl_of (k := 173) (by decide +kernel) rfl
abbrev nc_can : ByteArray := prog_19_method_4_code
def ny_can : MethodName := ⟨RJ1, "canEncode", "(I)Z"⟩
theorem nd_can_0 : decode nc_can 0 = .ok (.iload_n 0, 1) := by decide +kernel
theorem nd_can_1 : decode nc_can 1 = .ok (.ifCond .lt 14, 3) := by decide +kernel
theorem nd_can_4 : decode nc_can 4 = .ok (.iload_n 0, 1) := by decide +kernel
theorem nd_can_5 : decode nc_can 5 = .ok (.sipush 255, 3) := by decide +kernel
theorem nd_can_8 : decode nc_can 8 = .ok (.if_icmp .gt 7, 3) := by decide +kernel
theorem nd_can_11 : decode nc_can 11 = .ok (.iconst 1, 1) := by decide +kernel
theorem nd_can_12 : decode nc_can 12 = .ok (.goto 4, 3) := by decide +kernel
theorem nd_can_15 : decode nc_can 15 = .ok (.iconst 0, 1) := by decide +kernel
theorem nd_can_16 : decode nc_can 16 = .ok (.ireturn, 1) := by decide +kernel
theorem nw_code_can : Cond.code ny_can nc_can 1 (some .boolean) ∈ mv_tbl := mv_tbl_of (k := 841) (by decide +kernel) rfl
theorem nw_kind_can : Cond.static ny_can ∈ mv_tbl := mv_tbl_of (k := 840) (by decide +kernel) rfl
abbrev nc_iof : ByteArray := prog_19_method_22_code
def ny_iof : MethodName := ⟨RJ1, "indexOf", "([BIII)I"⟩
theorem nd_iof_0 : decode nc_iof 0 = .ok (.iload_n 1, 1) := by decide +kernel
theorem nd_iof_1 : decode nc_iof 1 = .ok (.invokestatic 88, 3) := by decide +kernel
theorem nd_iof_4 : decode nc_iof 4 = .ok (.ifCond .ne 5, 3) := by decide +kernel
theorem nd_iof_7 : decode nc_iof 7 = .ok (.iconst (-1), 1) := by decide +kernel
theorem nd_iof_8 : decode nc_iof 8 = .ok (.ireturn, 1) := by decide +kernel
theorem nd_iof_9 : decode nc_iof 9 = .ok (.iload_n 2, 1) := by decide +kernel
theorem nd_iof_10 : decode nc_iof 10 = .ok (.iconst 0, 1) := by decide +kernel
theorem nd_iof_11 : decode nc_iof 11 = .ok (.invokestatic 92, 3) := by decide +kernel
theorem nd_iof_14 : decode nc_iof 14 = .ok (.istore_n 2, 1) := by decide +kernel
theorem nd_iof_15 : decode nc_iof 15 = .ok (.iload_n 3, 1) := by decide +kernel
theorem nd_iof_16 : decode nc_iof 16 = .ok (.aload_n 0, 1) := by decide +kernel
theorem nd_iof_17 : decode nc_iof 17 = .ok (.arraylength, 1) := by decide +kernel
theorem nd_iof_18 : decode nc_iof 18 = .ok (.invokestatic 38, 3) := by decide +kernel
theorem nd_iof_21 : decode nc_iof 21 = .ok (.istore_n 3, 1) := by decide +kernel
theorem nd_iof_22 : decode nc_iof 22 = .ok (.iload_n 2, 1) := by decide +kernel
theorem nd_iof_23 : decode nc_iof 23 = .ok (.iload_n 3, 1) := by decide +kernel
theorem nd_iof_24 : decode nc_iof 24 = .ok (.if_icmp .lt 5, 3) := by decide +kernel
theorem nd_iof_27 : decode nc_iof 27 = .ok (.iconst (-1), 1) := by decide +kernel
theorem nd_iof_28 : decode nc_iof 28 = .ok (.ireturn, 1) := by decide +kernel
theorem nd_iof_29 : decode nc_iof 29 = .ok (.aload_n 0, 1) := by decide +kernel
theorem nd_iof_30 : decode nc_iof 30 = .ok (.iload_n 1, 1) := by decide +kernel
theorem nd_iof_31 : decode nc_iof 31 = .ok (.iload_n 2, 1) := by decide +kernel
theorem nd_iof_32 : decode nc_iof 32 = .ok (.iload_n 3, 1) := by decide +kernel
theorem nd_iof_33 : decode nc_iof 33 = .ok (.invokestatic 95, 3) := by decide +kernel
theorem nd_iof_36 : decode nc_iof 36 = .ok (.ireturn, 1) := by decide +kernel
theorem nw_code_iof : Cond.code ny_iof nc_iof 4 (some .int) ∈ mv_tbl := mv_tbl_of (k := 838) (by decide +kernel) rfl
theorem nw_kind_iof : Cond.static ny_iof ∈ mv_tbl := mv_tbl_of (k := 837) (by decide +kernel) rfl
abbrev nc_ioc : ByteArray := prog_19_method_23_code
def ny_ioc : MethodName := ⟨RJ1, "indexOfChar", "([BIII)I"⟩
theorem nd_ioc_0 : decode nc_ioc 0 = .ok (.iload_n 1, 1) := by decide +kernel
theorem nd_ioc_1 : decode nc_ioc 1 = .ok (.i2b, 1) := by decide +kernel
theorem nd_ioc_2 : decode nc_ioc 2 = .ok (.istore 4, 2) := by decide +kernel
theorem nd_ioc_4 : decode nc_ioc 4 = .ok (.iload_n 2, 1) := by decide +kernel
theorem nd_ioc_5 : decode nc_ioc 5 = .ok (.istore 5, 2) := by decide +kernel
theorem nd_ioc_7 : decode nc_ioc 7 = .ok (.iload 5, 2) := by decide +kernel
theorem nd_ioc_9 : decode nc_ioc 9 = .ok (.iload_n 3, 1) := by decide +kernel
theorem nd_ioc_10 : decode nc_ioc 10 = .ok (.if_icmp .ge 21, 3) := by decide +kernel
theorem nd_ioc_13 : decode nc_ioc 13 = .ok (.aload_n 0, 1) := by decide +kernel
theorem nd_ioc_14 : decode nc_ioc 14 = .ok (.iload 5, 2) := by decide +kernel
theorem nd_ioc_16 : decode nc_ioc 16 = .ok (.baload, 1) := by decide +kernel
theorem nd_ioc_17 : decode nc_ioc 17 = .ok (.iload 4, 2) := by decide +kernel
theorem nd_ioc_19 : decode nc_ioc 19 = .ok (.if_icmp .ne 6, 3) := by decide +kernel
theorem nd_ioc_22 : decode nc_ioc 22 = .ok (.iload 5, 2) := by decide +kernel
theorem nd_ioc_24 : decode nc_ioc 24 = .ok (.ireturn, 1) := by decide +kernel
theorem nd_ioc_25 : decode nc_ioc 25 = .ok (.iinc 5 1, 3) := by decide +kernel
theorem nd_ioc_28 : decode nc_ioc 28 = .ok (.goto (-21), 3) := by decide +kernel
theorem nd_ioc_31 : decode nc_ioc 31 = .ok (.iconst (-1), 1) := by decide +kernel
theorem nd_ioc_32 : decode nc_ioc 32 = .ok (.ireturn, 1) := by decide +kernel
theorem nw_code_ioc : Cond.code ny_ioc nc_ioc 6 (some .int) ∈ mv_tbl := mv_tbl_of (k := 848) (by decide +kernel) rfl
theorem nw_kind_ioc : Cond.static ny_ioc ∈ mv_tbl := mv_tbl_of (k := 847) (by decide +kernel) rfl
theorem nw_ini_RJ0 : Cond.initialized RJ0 ∈ mv_tbl := mv_tbl_of (k := 117) (by decide +kernel) rfl
theorem nw_ini_RJ1 : Cond.initialized RJ1 ∈ mv_tbl := mv_tbl_of (k := 118) (by decide +kernel) rfl
theorem nw_ini_RJ3 : Cond.initialized RJ3 ∈ mv_tbl := mv_tbl_of (k := 119) (by decide +kernel) rfl
theorem nw_ml_RJ0_335 : Cond.methodLink RJ0 335 ny_coder ∈ mv_tbl := mv_tbl_of (k := 158) (by decide +kernel) rfl
theorem nw_ml_RJ0_492 : Cond.methodLink RJ0 492 ny_lat1 ∈ mv_tbl := mv_tbl_of (k := 168) (by decide +kernel) rfl
theorem nw_ml_RJ0_495 : Cond.methodLink RJ0 495 ny_lchar ∈ mv_tbl := mv_tbl_of (k := 172) (by decide +kernel) rfl
theorem nw_ml_RJ0_633 : Cond.methodLink RJ0 633 ny_ioII ∈ mv_tbl := mv_tbl_of (k := 831) (by decide +kernel) rfl
theorem nw_ml_RJ0_505 : Cond.methodLink RJ0 505 ny_len ∈ mv_tbl := mv_tbl_of (k := 835) (by decide +kernel) rfl
theorem nw_ml_RJ0_637 : Cond.methodLink RJ0 637 ny_iof ∈ mv_tbl := mv_tbl_of (k := 836) (by decide +kernel) rfl
theorem nw_ml_RJ0_1059 : Cond.methodLink RJ0 1059 ny_pchk ∈ mv_tbl := mv_tbl_of (k := 180) (by decide +kernel) rfl
theorem nw_ml_RJ1_9 : Cond.methodLink RJ1 9 ny_schk ∈ mv_tbl := mv_tbl_of (k := 175) (by decide +kernel) rfl
theorem nw_ml_RJ1_88 : Cond.methodLink RJ1 88 ny_can ∈ mv_tbl := mv_tbl_of (k := 839) (by decide +kernel) rfl
theorem nw_ml_RJ1_95 : Cond.methodLink RJ1 95 ny_ioc ∈ mv_tbl := mv_tbl_of (k := 846) (by decide +kernel) rfl
theorem nw_ml_RJ1_92 : Cond.methodLink RJ1 92 Lib.Math.max.name ∈ mv_tbl := mv_tbl_of (k := 842) (by decide +kernel) rfl
theorem nw_ml_RJ1_38 : Cond.methodLink RJ1 38 Lib.Math.min.name ∈ mv_tbl := mv_tbl_of (k := 843) (by decide +kernel) rfl
theorem nw_fl_RJ0_9 : Cond.fieldLink RJ0 9 "java/lang/String" "value" "[B" ∈ mv_tbl := mv_tbl_of (k := 2186) (by decide +kernel) rfl
theorem nw_fl_RJ0_15 : Cond.fieldLink RJ0 15 "java/lang/String" "coder" "B" ∈ mv_tbl := mv_tbl_of (k := 2187) (by decide +kernel) rfl
theorem nw_fl_RJ0_38 : Cond.fieldLink RJ0 38 "java/lang/String" "COMPACT_STRINGS" "Z" ∈ mv_tbl := mv_tbl_of (k := 162) (by decide +kernel) rfl
theorem nw_fl_RJ0_1053 : Cond.fieldLink RJ0 1053 "jdk/internal/util/Preconditions" "SIOOBE_FORMATTER" "Ljava/util/function/BiFunction;" ∈ mv_tbl := mv_tbl_of (k := 178) (by decide +kernel) rfl
