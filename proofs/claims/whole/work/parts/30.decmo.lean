/-! decode rows, by my own program -/
abbrev b_Mo_init : ByteArray := prog_7_method_1_code
theorem d_Mo_init_0 : decode b_Mo_init 0 = .ok (.aload_n 0, 1) := by decide +kernel
theorem d_Mo_init_1 : decode b_Mo_init 1 = .ok (.invokespecial 1, 3) := by decide +kernel
theorem d_Mo_init_4 : decode b_Mo_init 4 = .ok (.aload_n 0, 1) := by decide +kernel
theorem d_Mo_init_5 : decode b_Mo_init 5 = .ok (.iconst 0, 1) := by decide +kernel
theorem d_Mo_init_6 : decode b_Mo_init 6 = .ok (.putfield 7, 3) := by decide +kernel
theorem d_Mo_init_9 : decode b_Mo_init 9 = .ok (.aload_n 0, 1) := by decide +kernel
theorem d_Mo_init_10 : decode b_Mo_init 10 = .ok (.iconst 2, 1) := by decide +kernel
theorem d_Mo_init_11 : decode b_Mo_init 11 = .ok (.putfield 13, 3) := by decide +kernel
theorem d_Mo_init_14 : decode b_Mo_init 14 = .ok (.aload_n 0, 1) := by decide +kernel
theorem d_Mo_init_15 : decode b_Mo_init 15 = .ok (.bipush 16, 2) := by decide +kernel
theorem d_Mo_init_17 : decode b_Mo_init 17 = .ok (.bipush 50, 2) := by decide +kernel
theorem d_Mo_init_19 : decode b_Mo_init 19 = .ok (.multianewarray 16 2, 4) := by decide +kernel
theorem d_Mo_init_23 : decode b_Mo_init 23 = .ok (.putfield 18, 3) := by decide +kernel
theorem d_Mo_init_26 : decode b_Mo_init 26 = .ok (.aload_n 0, 1) := by decide +kernel
theorem d_Mo_init_27 : decode b_Mo_init 27 = .ok (.bipush 25, 2) := by decide +kernel
theorem d_Mo_init_29 : decode b_Mo_init 29 = .ok (.bipush 50, 2) := by decide +kernel
theorem d_Mo_init_31 : decode b_Mo_init 31 = .ok (.multianewarray 16 2, 4) := by decide +kernel
theorem d_Mo_init_35 : decode b_Mo_init 35 = .ok (.putfield 21, 3) := by decide +kernel
theorem d_Mo_init_38 : decode b_Mo_init 38 = .ok (.aload_n 0, 1) := by decide +kernel
theorem d_Mo_init_39 : decode b_Mo_init 39 = .ok (.bipush 25, 2) := by decide +kernel
theorem d_Mo_init_41 : decode b_Mo_init 41 = .ok (.newarray .int, 2) := by decide +kernel
theorem d_Mo_init_43 : decode b_Mo_init 43 = .ok (.putfield 24, 3) := by decide +kernel
theorem d_Mo_init_46 : decode b_Mo_init 46 = .ok (.aload_n 0, 1) := by decide +kernel
theorem d_Mo_init_47 : decode b_Mo_init 47 = .ok (.iconst 0, 1) := by decide +kernel
theorem d_Mo_init_48 : decode b_Mo_init 48 = .ok (.putfield 28, 3) := by decide +kernel
theorem d_Mo_init_51 : decode b_Mo_init 51 = .ok (.aload_n 0, 1) := by decide +kernel
theorem d_Mo_init_52 : decode b_Mo_init 52 = .ok (.bipush 50, 2) := by decide +kernel
theorem d_Mo_init_54 : decode b_Mo_init 54 = .ok (.newarray .int, 2) := by decide +kernel
theorem d_Mo_init_56 : decode b_Mo_init 56 = .ok (.putfield 31, 3) := by decide +kernel
theorem d_Mo_init_59 : decode b_Mo_init 59 = .ok (.aload_n 0, 1) := by decide +kernel
theorem d_Mo_init_60 : decode b_Mo_init 60 = .ok (.bipush 50, 2) := by decide +kernel
theorem d_Mo_init_62 : decode b_Mo_init 62 = .ok (.newarray .int, 2) := by decide +kernel
theorem d_Mo_init_64 : decode b_Mo_init 64 = .ok (.putfield 34, 3) := by decide +kernel
theorem d_Mo_init_67 : decode b_Mo_init 67 = .ok (.aload_n 0, 1) := by decide +kernel
theorem d_Mo_init_68 : decode b_Mo_init 68 = .ok (.bipush 50, 2) := by decide +kernel
theorem d_Mo_init_70 : decode b_Mo_init 70 = .ok (.newarray .int, 2) := by decide +kernel
theorem d_Mo_init_72 : decode b_Mo_init 72 = .ok (.putfield 37, 3) := by decide +kernel
theorem d_Mo_init_75 : decode b_Mo_init 75 = .ok (.aload_n 0, 1) := by decide +kernel
theorem d_Mo_init_76 : decode b_Mo_init 76 = .ok (.bipush 50, 2) := by decide +kernel
theorem d_Mo_init_78 : decode b_Mo_init 78 = .ok (.newarray .int, 2) := by decide +kernel
theorem d_Mo_init_80 : decode b_Mo_init 80 = .ok (.putfield 40, 3) := by decide +kernel
theorem d_Mo_init_83 : decode b_Mo_init 83 = .ok (.aload_n 0, 1) := by decide +kernel
theorem d_Mo_init_84 : decode b_Mo_init 84 = .ok (.bipush 50, 2) := by decide +kernel
theorem d_Mo_init_86 : decode b_Mo_init 86 = .ok (.newarray .int, 2) := by decide +kernel
theorem d_Mo_init_88 : decode b_Mo_init 88 = .ok (.putfield 43, 3) := by decide +kernel
theorem d_Mo_init_91 : decode b_Mo_init 91 = .ok (.aload_n 0, 1) := by decide +kernel
theorem d_Mo_init_92 : decode b_Mo_init 92 = .ok (.bipush 50, 2) := by decide +kernel
theorem d_Mo_init_94 : decode b_Mo_init 94 = .ok (.newarray .int, 2) := by decide +kernel
theorem d_Mo_init_96 : decode b_Mo_init 96 = .ok (.putfield 46, 3) := by decide +kernel
theorem d_Mo_init_99 : decode b_Mo_init 99 = .ok (.aload_n 0, 1) := by decide +kernel
theorem d_Mo_init_100 : decode b_Mo_init 100 = .ok (.bipush 50, 2) := by decide +kernel
theorem d_Mo_init_102 : decode b_Mo_init 102 = .ok (.newarray .int, 2) := by decide +kernel
theorem d_Mo_init_104 : decode b_Mo_init 104 = .ok (.putfield 49, 3) := by decide +kernel
theorem d_Mo_init_107 : decode b_Mo_init 107 = .ok (.aload_n 0, 1) := by decide +kernel
theorem d_Mo_init_108 : decode b_Mo_init 108 = .ok (.bipush 50, 2) := by decide +kernel
theorem d_Mo_init_110 : decode b_Mo_init 110 = .ok (.newarray .int, 2) := by decide +kernel
theorem d_Mo_init_112 : decode b_Mo_init 112 = .ok (.putfield 52, 3) := by decide +kernel
theorem d_Mo_init_115 : decode b_Mo_init 115 = .ok (.aload_n 0, 1) := by decide +kernel
theorem d_Mo_init_116 : decode b_Mo_init 116 = .ok (.bipush 50, 2) := by decide +kernel
theorem d_Mo_init_118 : decode b_Mo_init 118 = .ok (.newarray .int, 2) := by decide +kernel
theorem d_Mo_init_120 : decode b_Mo_init 120 = .ok (.putfield 55, 3) := by decide +kernel
theorem d_Mo_init_123 : decode b_Mo_init 123 = .ok (.aload_n 0, 1) := by decide +kernel
theorem d_Mo_init_124 : decode b_Mo_init 124 = .ok (.bipush 25, 2) := by decide +kernel
theorem d_Mo_init_126 : decode b_Mo_init 126 = .ok (.bipush 26, 2) := by decide +kernel
theorem d_Mo_init_128 : decode b_Mo_init 128 = .ok (.multianewarray 16 2, 4) := by decide +kernel
theorem d_Mo_init_132 : decode b_Mo_init 132 = .ok (.putfield 58, 3) := by decide +kernel
theorem d_Mo_init_135 : decode b_Mo_init 135 = .ok (.return_, 1) := by decide +kernel
abbrev ws_Mo_init : List Cond := .code y_Mo_init b_Mo_init 1 none :: TB
abbrev b_Mo_thrown : ByteArray := prog_7_method_2_code
theorem d_Mo_thrown_0 : decode b_Mo_thrown 0 = .ok (.aload_n 0, 1) := by decide +kernel
theorem d_Mo_thrown_1 : decode b_Mo_thrown 1 = .ok (.getfield 7, 3) := by decide +kernel
theorem d_Mo_thrown_4 : decode b_Mo_thrown 4 = .ok (.ireturn, 1) := by decide +kernel
abbrev ws_Mo_thrown : List Cond := .code y_Mo_thrown b_Mo_thrown 1 (Option.some .int) :: TB
abbrev b_Mo_refuse : ByteArray := prog_7_method_3_code
theorem d_Mo_refuse_0 : decode b_Mo_refuse 0 = .ok (.iload_n 2, 1) := by decide +kernel
theorem d_Mo_refuse_1 : decode b_Mo_refuse 1 = .ok (.ifCond .eq 8, 3) := by decide +kernel
theorem d_Mo_refuse_4 : decode b_Mo_refuse 4 = .ok (.aload_n 0, 1) := by decide +kernel
theorem d_Mo_refuse_5 : decode b_Mo_refuse 5 = .ok (.iload_n 1, 1) := by decide +kernel
theorem d_Mo_refuse_6 : decode b_Mo_refuse 6 = .ok (.putfield 7, 3) := by decide +kernel
theorem d_Mo_refuse_9 : decode b_Mo_refuse 9 = .ok (.iload_n 2, 1) := by decide +kernel
theorem d_Mo_refuse_10 : decode b_Mo_refuse 10 = .ok (.ireturn, 1) := by decide +kernel
abbrev ws_Mo_refuse : List Cond := .code y_Mo_refuse b_Mo_refuse 3 (Option.some .boolean) :: TB
abbrev b_Mo_none : ByteArray := prog_7_method_4_code
theorem d_Mo_none_0 : decode b_Mo_none 0 = .ok (.aload_n 0, 1) := by decide +kernel
theorem d_Mo_none_1 : decode b_Mo_none 1 = .ok (.iconst 0, 1) := by decide +kernel
theorem d_Mo_none_2 : decode b_Mo_none 2 = .ok (.putfield 7, 3) := by decide +kernel
theorem d_Mo_none_5 : decode b_Mo_none 5 = .ok (.aload_n 0, 1) := by decide +kernel
theorem d_Mo_none_6 : decode b_Mo_none 6 = .ok (.iconst 1, 1) := by decide +kernel
theorem d_Mo_none_7 : decode b_Mo_none 7 = .ok (.iload_n 1, 1) := by decide +kernel
theorem d_Mo_none_8 : decode b_Mo_none 8 = .ok (.ifCond .lt 9, 3) := by decide +kernel
theorem d_Mo_none_11 : decode b_Mo_none 11 = .ok (.iload_n 1, 1) := by decide +kernel
theorem d_Mo_none_12 : decode b_Mo_none 12 = .ok (.bipush 15, 2) := by decide +kernel
theorem d_Mo_none_14 : decode b_Mo_none 14 = .ok (.if_icmp .le 7, 3) := by decide +kernel
theorem d_Mo_none_17 : decode b_Mo_none 17 = .ok (.iconst 1, 1) := by decide +kernel
theorem d_Mo_none_18 : decode b_Mo_none 18 = .ok (.goto 4, 3) := by decide +kernel
theorem d_Mo_none_21 : decode b_Mo_none 21 = .ok (.iconst 0, 1) := by decide +kernel
theorem d_Mo_none_22 : decode b_Mo_none 22 = .ok (.invokevirtual 61, 3) := by decide +kernel
theorem d_Mo_none_25 : decode b_Mo_none 25 = .ok (.ireturn, 1) := by decide +kernel
abbrev ws_Mo_none : List Cond := .code y_Mo_none b_Mo_none 2 (Option.some .boolean) :: TB
abbrev b_Mo_degree : ByteArray := prog_7_method_5_code
theorem d_Mo_degree_0 : decode b_Mo_degree 0 = .ok (.bipush 49, 2) := by decide +kernel
theorem d_Mo_degree_2 : decode b_Mo_degree 2 = .ok (.istore_n 1, 1) := by decide +kernel
theorem d_Mo_degree_3 : decode b_Mo_degree 3 = .ok (.iload_n 1, 1) := by decide +kernel
theorem d_Mo_degree_4 : decode b_Mo_degree 4 = .ok (.ifCond .lt 15, 3) := by decide +kernel
theorem d_Mo_degree_7 : decode b_Mo_degree 7 = .ok (.aload_n 0, 1) := by decide +kernel
theorem d_Mo_degree_8 : decode b_Mo_degree 8 = .ok (.iload_n 1, 1) := by decide +kernel
theorem d_Mo_degree_9 : decode b_Mo_degree 9 = .ok (.iaload, 1) := by decide +kernel
theorem d_Mo_degree_10 : decode b_Mo_degree 10 = .ok (.ifCond .ne 9, 3) := by decide +kernel
theorem d_Mo_degree_13 : decode b_Mo_degree 13 = .ok (.iinc 1 (-1), 3) := by decide +kernel
theorem d_Mo_degree_16 : decode b_Mo_degree 16 = .ok (.goto (-13), 3) := by decide +kernel
theorem d_Mo_degree_19 : decode b_Mo_degree 19 = .ok (.iload_n 1, 1) := by decide +kernel
theorem d_Mo_degree_20 : decode b_Mo_degree 20 = .ok (.ireturn, 1) := by decide +kernel
abbrev ws_Mo_degree : List Cond := .code y_Mo_degree b_Mo_degree 2 (Option.some .int) :: TB
abbrev b_Mo_copy : ByteArray := prog_7_method_6_code
theorem d_Mo_copy_0 : decode b_Mo_copy 0 = .ok (.iconst 0, 1) := by decide +kernel
theorem d_Mo_copy_1 : decode b_Mo_copy 1 = .ok (.istore_n 2, 1) := by decide +kernel
theorem d_Mo_copy_2 : decode b_Mo_copy 2 = .ok (.iload_n 2, 1) := by decide +kernel
theorem d_Mo_copy_3 : decode b_Mo_copy 3 = .ok (.bipush 50, 2) := by decide +kernel
theorem d_Mo_copy_5 : decode b_Mo_copy 5 = .ok (.if_icmp .ge 15, 3) := by decide +kernel
theorem d_Mo_copy_8 : decode b_Mo_copy 8 = .ok (.aload_n 1, 1) := by decide +kernel
theorem d_Mo_copy_9 : decode b_Mo_copy 9 = .ok (.iload_n 2, 1) := by decide +kernel
theorem d_Mo_copy_10 : decode b_Mo_copy 10 = .ok (.aload_n 0, 1) := by decide +kernel
theorem d_Mo_copy_11 : decode b_Mo_copy 11 = .ok (.iload_n 2, 1) := by decide +kernel
theorem d_Mo_copy_12 : decode b_Mo_copy 12 = .ok (.iaload, 1) := by decide +kernel
theorem d_Mo_copy_13 : decode b_Mo_copy 13 = .ok (.iastore, 1) := by decide +kernel
theorem d_Mo_copy_14 : decode b_Mo_copy 14 = .ok (.iinc 2 1, 3) := by decide +kernel
theorem d_Mo_copy_17 : decode b_Mo_copy 17 = .ok (.goto (-15), 3) := by decide +kernel
theorem d_Mo_copy_20 : decode b_Mo_copy 20 = .ok (.return_, 1) := by decide +kernel
abbrev ws_Mo_copy : List Cond := .code y_Mo_copy b_Mo_copy 3 none :: TB
abbrev b_Mo_clear : ByteArray := prog_7_method_7_code
theorem d_Mo_clear_0 : decode b_Mo_clear 0 = .ok (.iconst 0, 1) := by decide +kernel
theorem d_Mo_clear_1 : decode b_Mo_clear 1 = .ok (.istore_n 1, 1) := by decide +kernel
theorem d_Mo_clear_2 : decode b_Mo_clear 2 = .ok (.iload_n 1, 1) := by decide +kernel
theorem d_Mo_clear_3 : decode b_Mo_clear 3 = .ok (.bipush 50, 2) := by decide +kernel
theorem d_Mo_clear_5 : decode b_Mo_clear 5 = .ok (.if_icmp .ge 13, 3) := by decide +kernel
theorem d_Mo_clear_8 : decode b_Mo_clear 8 = .ok (.aload_n 0, 1) := by decide +kernel
theorem d_Mo_clear_9 : decode b_Mo_clear 9 = .ok (.iload_n 1, 1) := by decide +kernel
theorem d_Mo_clear_10 : decode b_Mo_clear 10 = .ok (.iconst 0, 1) := by decide +kernel
theorem d_Mo_clear_11 : decode b_Mo_clear 11 = .ok (.iastore, 1) := by decide +kernel
theorem d_Mo_clear_12 : decode b_Mo_clear 12 = .ok (.iinc 1 1, 3) := by decide +kernel
theorem d_Mo_clear_15 : decode b_Mo_clear 15 = .ok (.goto (-13), 3) := by decide +kernel
theorem d_Mo_clear_18 : decode b_Mo_clear 18 = .ok (.return_, 1) := by decide +kernel
abbrev ws_Mo_clear : List Cond := .code y_Mo_clear b_Mo_clear 2 none :: TB
abbrev b_Mo_limit : ByteArray := prog_7_method_8_code
theorem d_Mo_limit_0 : decode b_Mo_limit 0 = .ok (.iload_n 0, 1) := by decide +kernel
theorem d_Mo_limit_1 : decode b_Mo_limit 1 = .ok (.tableswitch 78 2 13 #[63, 66, 78, 69, 78, 72, 78, 78, 78, 75, 78, 75], 63) := by decide +kernel
theorem d_Mo_limit_64 : decode b_Mo_limit 64 = .ok (.bipush 24, 2) := by decide +kernel
theorem d_Mo_limit_66 : decode b_Mo_limit 66 = .ok (.ireturn, 1) := by decide +kernel
theorem d_Mo_limit_67 : decode b_Mo_limit 67 = .ok (.bipush 18, 2) := by decide +kernel
theorem d_Mo_limit_69 : decode b_Mo_limit 69 = .ok (.ireturn, 1) := by decide +kernel
theorem d_Mo_limit_70 : decode b_Mo_limit 70 = .ok (.bipush 12, 2) := by decide +kernel
theorem d_Mo_limit_72 : decode b_Mo_limit 72 = .ok (.ireturn, 1) := by decide +kernel
theorem d_Mo_limit_73 : decode b_Mo_limit 73 = .ok (.bipush 10, 2) := by decide +kernel
theorem d_Mo_limit_75 : decode b_Mo_limit 75 = .ok (.ireturn, 1) := by decide +kernel
theorem d_Mo_limit_76 : decode b_Mo_limit 76 = .ok (.bipush 8, 2) := by decide +kernel
theorem d_Mo_limit_78 : decode b_Mo_limit 78 = .ok (.ireturn, 1) := by decide +kernel
theorem d_Mo_limit_79 : decode b_Mo_limit 79 = .ok (.iconst (-1), 1) := by decide +kernel
theorem d_Mo_limit_80 : decode b_Mo_limit 80 = .ok (.ireturn, 1) := by decide +kernel
abbrev ws_Mo_limit : List Cond := .code y_Mo_limit b_Mo_limit 1 (Option.some .int) :: TB
abbrev b_Mo_field : ByteArray := prog_7_method_9_code
theorem d_Mo_field_0 : decode b_Mo_field 0 = .ok (.aload_n 0, 1) := by decide +kernel
theorem d_Mo_field_1 : decode b_Mo_field 1 = .ok (.iconst 0, 1) := by decide +kernel
theorem d_Mo_field_2 : decode b_Mo_field 2 = .ok (.putfield 7, 3) := by decide +kernel
theorem d_Mo_field_5 : decode b_Mo_field 5 = .ok (.aload_n 0, 1) := by decide +kernel
theorem d_Mo_field_6 : decode b_Mo_field 6 = .ok (.iconst 1, 1) := by decide +kernel
theorem d_Mo_field_7 : decode b_Mo_field 7 = .ok (.iload_n 1, 1) := by decide +kernel
theorem d_Mo_field_8 : decode b_Mo_field 8 = .ok (.invokestatic 65, 3) := by decide +kernel
theorem d_Mo_field_11 : decode b_Mo_field 11 = .ok (.ifCond .ge 7, 3) := by decide +kernel
theorem d_Mo_field_14 : decode b_Mo_field 14 = .ok (.iconst 1, 1) := by decide +kernel
theorem d_Mo_field_15 : decode b_Mo_field 15 = .ok (.goto 4, 3) := by decide +kernel
theorem d_Mo_field_18 : decode b_Mo_field 18 = .ok (.iconst 0, 1) := by decide +kernel
theorem d_Mo_field_19 : decode b_Mo_field 19 = .ok (.invokevirtual 61, 3) := by decide +kernel
theorem d_Mo_field_22 : decode b_Mo_field 22 = .ok (.ifCond .eq 5, 3) := by decide +kernel
theorem d_Mo_field_25 : decode b_Mo_field 25 = .ok (.iconst 0, 1) := by decide +kernel
theorem d_Mo_field_26 : decode b_Mo_field 26 = .ok (.ireturn, 1) := by decide +kernel
theorem d_Mo_field_27 : decode b_Mo_field 27 = .ok (.aload_n 0, 1) := by decide +kernel
theorem d_Mo_field_28 : decode b_Mo_field 28 = .ok (.getfield 13, 3) := by decide +kernel
theorem d_Mo_field_31 : decode b_Mo_field 31 = .ok (.istore_n 2, 1) := by decide +kernel
theorem d_Mo_field_32 : decode b_Mo_field 32 = .ok (.aload_n 0, 1) := by decide +kernel
theorem d_Mo_field_33 : decode b_Mo_field 33 = .ok (.iload_n 1, 1) := by decide +kernel
theorem d_Mo_field_34 : decode b_Mo_field 34 = .ok (.putfield 13, 3) := by decide +kernel
theorem d_Mo_field_37 : decode b_Mo_field 37 = .ok (.aload_n 0, 1) := by decide +kernel
theorem d_Mo_field_38 : decode b_Mo_field 38 = .ok (.iconst 0, 1) := by decide +kernel
theorem d_Mo_field_39 : decode b_Mo_field 39 = .ok (.putfield 28, 3) := by decide +kernel
theorem d_Mo_field_42 : decode b_Mo_field 42 = .ok (.iconst 0, 1) := by decide +kernel
theorem d_Mo_field_43 : decode b_Mo_field 43 = .ok (.istore_n 3, 1) := by decide +kernel
theorem d_Mo_field_44 : decode b_Mo_field 44 = .ok (.iload_n 3, 1) := by decide +kernel
theorem d_Mo_field_45 : decode b_Mo_field 45 = .ok (.bipush 16, 2) := by decide +kernel
theorem d_Mo_field_47 : decode b_Mo_field 47 = .ok (.if_icmp .ge 18, 3) := by decide +kernel
theorem d_Mo_field_50 : decode b_Mo_field 50 = .ok (.aload_n 0, 1) := by decide +kernel
theorem d_Mo_field_51 : decode b_Mo_field 51 = .ok (.getfield 18, 3) := by decide +kernel
theorem d_Mo_field_54 : decode b_Mo_field 54 = .ok (.iload_n 3, 1) := by decide +kernel
theorem d_Mo_field_55 : decode b_Mo_field 55 = .ok (.aaload, 1) := by decide +kernel
theorem d_Mo_field_56 : decode b_Mo_field 56 = .ok (.invokestatic 69, 3) := by decide +kernel
theorem d_Mo_field_59 : decode b_Mo_field 59 = .ok (.iinc 3 1, 3) := by decide +kernel
theorem d_Mo_field_62 : decode b_Mo_field 62 = .ok (.goto (-18), 3) := by decide +kernel
theorem d_Mo_field_65 : decode b_Mo_field 65 = .ok (.iload_n 2, 1) := by decide +kernel
theorem d_Mo_field_66 : decode b_Mo_field 66 = .ok (.ireturn, 1) := by decide +kernel
abbrev ws_Mo_field : List Cond := .code y_Mo_field b_Mo_field 4 (Option.some .int) :: TB
abbrev b_Mo_inField : ByteArray := prog_7_method_10_code
theorem d_Mo_inField_0 : decode b_Mo_inField 0 = .ok (.iload_n 1, 1) := by decide +kernel
theorem d_Mo_inField_1 : decode b_Mo_inField 1 = .ok (.aload_n 0, 1) := by decide +kernel
theorem d_Mo_inField_2 : decode b_Mo_inField 2 = .ok (.getfield 13, 3) := by decide +kernel
theorem d_Mo_inField_5 : decode b_Mo_inField 5 = .ok (.irem, 1) := by decide +kernel
theorem d_Mo_inField_6 : decode b_Mo_inField 6 = .ok (.aload_n 0, 1) := by decide +kernel
theorem d_Mo_inField_7 : decode b_Mo_inField 7 = .ok (.getfield 13, 3) := by decide +kernel
theorem d_Mo_inField_10 : decode b_Mo_inField 10 = .ok (.iadd, 1) := by decide +kernel
theorem d_Mo_inField_11 : decode b_Mo_inField 11 = .ok (.aload_n 0, 1) := by decide +kernel
theorem d_Mo_inField_12 : decode b_Mo_inField 12 = .ok (.getfield 13, 3) := by decide +kernel
theorem d_Mo_inField_15 : decode b_Mo_inField 15 = .ok (.irem, 1) := by decide +kernel
theorem d_Mo_inField_16 : decode b_Mo_inField 16 = .ok (.ireturn, 1) := by decide +kernel
abbrev ws_Mo_inField : List Cond := .code y_Mo_inField b_Mo_inField 2 (Option.some .int) :: TB
abbrev b_Mo_set : ByteArray := prog_7_method_11_code
theorem d_Mo_set_0 : decode b_Mo_set 0 = .ok (.aload_n 0, 1) := by decide +kernel
theorem d_Mo_set_1 : decode b_Mo_set 1 = .ok (.iload_n 1, 1) := by decide +kernel
theorem d_Mo_set_2 : decode b_Mo_set 2 = .ok (.invokevirtual 73, 3) := by decide +kernel
theorem d_Mo_set_5 : decode b_Mo_set 5 = .ok (.ifCond .ne 26, 3) := by decide +kernel
theorem d_Mo_set_8 : decode b_Mo_set 8 = .ok (.aload_n 0, 1) := by decide +kernel
theorem d_Mo_set_9 : decode b_Mo_set 9 = .ok (.iconst 2, 1) := by decide +kernel
theorem d_Mo_set_10 : decode b_Mo_set 10 = .ok (.iload_n 2, 1) := by decide +kernel
theorem d_Mo_set_11 : decode b_Mo_set 11 = .ok (.ifCond .lt 9, 3) := by decide +kernel
theorem d_Mo_set_14 : decode b_Mo_set 14 = .ok (.iload_n 2, 1) := by decide +kernel
theorem d_Mo_set_15 : decode b_Mo_set 15 = .ok (.bipush 24, 2) := by decide +kernel
theorem d_Mo_set_17 : decode b_Mo_set 17 = .ok (.if_icmp .le 7, 3) := by decide +kernel
theorem d_Mo_set_20 : decode b_Mo_set 20 = .ok (.iconst 1, 1) := by decide +kernel
theorem d_Mo_set_21 : decode b_Mo_set 21 = .ok (.goto 4, 3) := by decide +kernel
theorem d_Mo_set_24 : decode b_Mo_set 24 = .ok (.iconst 0, 1) := by decide +kernel
theorem d_Mo_set_25 : decode b_Mo_set 25 = .ok (.invokevirtual 61, 3) := by decide +kernel
theorem d_Mo_set_28 : decode b_Mo_set 28 = .ok (.ifCond .eq 5, 3) := by decide +kernel
theorem d_Mo_set_31 : decode b_Mo_set 31 = .ok (.iconst 0, 1) := by decide +kernel
theorem d_Mo_set_32 : decode b_Mo_set 32 = .ok (.ireturn, 1) := by decide +kernel
theorem d_Mo_set_33 : decode b_Mo_set 33 = .ok (.aload_n 0, 1) := by decide +kernel
theorem d_Mo_set_34 : decode b_Mo_set 34 = .ok (.getfield 18, 3) := by decide +kernel
theorem d_Mo_set_37 : decode b_Mo_set 37 = .ok (.iload_n 1, 1) := by decide +kernel
theorem d_Mo_set_38 : decode b_Mo_set 38 = .ok (.aaload, 1) := by decide +kernel
theorem d_Mo_set_39 : decode b_Mo_set 39 = .ok (.iload_n 2, 1) := by decide +kernel
theorem d_Mo_set_40 : decode b_Mo_set 40 = .ok (.iaload, 1) := by decide +kernel
theorem d_Mo_set_41 : decode b_Mo_set 41 = .ok (.istore 4, 2) := by decide +kernel
theorem d_Mo_set_43 : decode b_Mo_set 43 = .ok (.aload_n 0, 1) := by decide +kernel
theorem d_Mo_set_44 : decode b_Mo_set 44 = .ok (.getfield 18, 3) := by decide +kernel
theorem d_Mo_set_47 : decode b_Mo_set 47 = .ok (.iload_n 1, 1) := by decide +kernel
theorem d_Mo_set_48 : decode b_Mo_set 48 = .ok (.aaload, 1) := by decide +kernel
theorem d_Mo_set_49 : decode b_Mo_set 49 = .ok (.iload_n 2, 1) := by decide +kernel
theorem d_Mo_set_50 : decode b_Mo_set 50 = .ok (.aload_n 0, 1) := by decide +kernel
theorem d_Mo_set_51 : decode b_Mo_set 51 = .ok (.iload_n 3, 1) := by decide +kernel
theorem d_Mo_set_52 : decode b_Mo_set 52 = .ok (.invokevirtual 77, 3) := by decide +kernel
theorem d_Mo_set_55 : decode b_Mo_set 55 = .ok (.iastore, 1) := by decide +kernel
theorem d_Mo_set_56 : decode b_Mo_set 56 = .ok (.iload 4, 2) := by decide +kernel
theorem d_Mo_set_58 : decode b_Mo_set 58 = .ok (.ireturn, 1) := by decide +kernel
abbrev ws_Mo_set : List Cond := .code y_Mo_set b_Mo_set 5 (Option.some .int) :: TB
abbrev b_Mo_get : ByteArray := prog_7_method_12_code
theorem d_Mo_get_0 : decode b_Mo_get 0 = .ok (.aload_n 0, 1) := by decide +kernel
theorem d_Mo_get_1 : decode b_Mo_get 1 = .ok (.iload_n 1, 1) := by decide +kernel
theorem d_Mo_get_2 : decode b_Mo_get 2 = .ok (.invokevirtual 73, 3) := by decide +kernel
theorem d_Mo_get_5 : decode b_Mo_get 5 = .ok (.ifCond .ne 26, 3) := by decide +kernel
theorem d_Mo_get_8 : decode b_Mo_get 8 = .ok (.aload_n 0, 1) := by decide +kernel
theorem d_Mo_get_9 : decode b_Mo_get 9 = .ok (.iconst 2, 1) := by decide +kernel
theorem d_Mo_get_10 : decode b_Mo_get 10 = .ok (.iload_n 2, 1) := by decide +kernel
theorem d_Mo_get_11 : decode b_Mo_get 11 = .ok (.ifCond .lt 9, 3) := by decide +kernel
theorem d_Mo_get_14 : decode b_Mo_get 14 = .ok (.iload_n 2, 1) := by decide +kernel
theorem d_Mo_get_15 : decode b_Mo_get 15 = .ok (.bipush 24, 2) := by decide +kernel
theorem d_Mo_get_17 : decode b_Mo_get 17 = .ok (.if_icmp .le 7, 3) := by decide +kernel
theorem d_Mo_get_20 : decode b_Mo_get 20 = .ok (.iconst 1, 1) := by decide +kernel
theorem d_Mo_get_21 : decode b_Mo_get 21 = .ok (.goto 4, 3) := by decide +kernel
theorem d_Mo_get_24 : decode b_Mo_get 24 = .ok (.iconst 0, 1) := by decide +kernel
theorem d_Mo_get_25 : decode b_Mo_get 25 = .ok (.invokevirtual 61, 3) := by decide +kernel
theorem d_Mo_get_28 : decode b_Mo_get 28 = .ok (.ifCond .eq 5, 3) := by decide +kernel
theorem d_Mo_get_31 : decode b_Mo_get 31 = .ok (.iconst 0, 1) := by decide +kernel
theorem d_Mo_get_32 : decode b_Mo_get 32 = .ok (.ireturn, 1) := by decide +kernel
theorem d_Mo_get_33 : decode b_Mo_get 33 = .ok (.aload_n 0, 1) := by decide +kernel
theorem d_Mo_get_34 : decode b_Mo_get 34 = .ok (.getfield 18, 3) := by decide +kernel
theorem d_Mo_get_37 : decode b_Mo_get 37 = .ok (.iload_n 1, 1) := by decide +kernel
theorem d_Mo_get_38 : decode b_Mo_get 38 = .ok (.aaload, 1) := by decide +kernel
theorem d_Mo_get_39 : decode b_Mo_get 39 = .ok (.iload_n 2, 1) := by decide +kernel
theorem d_Mo_get_40 : decode b_Mo_get 40 = .ok (.iaload, 1) := by decide +kernel
theorem d_Mo_get_41 : decode b_Mo_get 41 = .ok (.ireturn, 1) := by decide +kernel
abbrev ws_Mo_get : List Cond := .code y_Mo_get b_Mo_get 3 (Option.some .int) :: TB
abbrev b_Mo_under : ByteArray := prog_7_method_13_code
theorem d_Mo_under_0 : decode b_Mo_under 0 = .ok (.iconst 1, 1) := by decide +kernel
theorem d_Mo_under_1 : decode b_Mo_under 1 = .ok (.istore_n 2, 1) := by decide +kernel
theorem d_Mo_under_2 : decode b_Mo_under 2 = .ok (.iload_n 2, 1) := by decide +kernel
theorem d_Mo_under_3 : decode b_Mo_under 3 = .ok (.iload_n 1, 1) := by decide +kernel
theorem d_Mo_under_4 : decode b_Mo_under 4 = .ok (.imul, 1) := by decide +kernel
theorem d_Mo_under_5 : decode b_Mo_under 5 = .ok (.aload_n 0, 1) := by decide +kernel
theorem d_Mo_under_6 : decode b_Mo_under 6 = .ok (.getfield 13, 3) := by decide +kernel
theorem d_Mo_under_9 : decode b_Mo_under 9 = .ok (.irem, 1) := by decide +kernel
theorem d_Mo_under_10 : decode b_Mo_under 10 = .ok (.iconst 1, 1) := by decide +kernel
theorem d_Mo_under_11 : decode b_Mo_under 11 = .ok (.if_icmp .eq 9, 3) := by decide +kernel
theorem d_Mo_under_14 : decode b_Mo_under 14 = .ok (.iinc 2 1, 3) := by decide +kernel
theorem d_Mo_under_17 : decode b_Mo_under 17 = .ok (.goto (-15), 3) := by decide +kernel
theorem d_Mo_under_20 : decode b_Mo_under 20 = .ok (.iload_n 2, 1) := by decide +kernel
theorem d_Mo_under_21 : decode b_Mo_under 21 = .ok (.ireturn, 1) := by decide +kernel
abbrev ws_Mo_under : List Cond := .code y_Mo_under b_Mo_under 3 (Option.some .int) :: TB
abbrev b_Mo_times : ByteArray := prog_7_method_14_code
theorem d_Mo_times_0 : decode b_Mo_times 0 = .ok (.aload_n 0, 1) := by decide +kernel
theorem d_Mo_times_1 : decode b_Mo_times 1 = .ok (.getfield 37, 3) := by decide +kernel
theorem d_Mo_times_4 : decode b_Mo_times 4 = .ok (.invokestatic 69, 3) := by decide +kernel
theorem d_Mo_times_7 : decode b_Mo_times 7 = .ok (.aload_n 1, 1) := by decide +kernel
theorem d_Mo_times_8 : decode b_Mo_times 8 = .ok (.invokestatic 80, 3) := by decide +kernel
theorem d_Mo_times_11 : decode b_Mo_times 11 = .ok (.istore_n 3, 1) := by decide +kernel
theorem d_Mo_times_12 : decode b_Mo_times 12 = .ok (.aload_n 2, 1) := by decide +kernel
theorem d_Mo_times_13 : decode b_Mo_times 13 = .ok (.invokestatic 80, 3) := by decide +kernel
theorem d_Mo_times_16 : decode b_Mo_times 16 = .ok (.istore 4, 2) := by decide +kernel
theorem d_Mo_times_18 : decode b_Mo_times 18 = .ok (.iconst 0, 1) := by decide +kernel
theorem d_Mo_times_19 : decode b_Mo_times 19 = .ok (.istore 5, 2) := by decide +kernel
theorem d_Mo_times_21 : decode b_Mo_times 21 = .ok (.iload 5, 2) := by decide +kernel
theorem d_Mo_times_23 : decode b_Mo_times 23 = .ok (.iload_n 3, 1) := by decide +kernel
theorem d_Mo_times_24 : decode b_Mo_times 24 = .ok (.if_icmp .gt 60, 3) := by decide +kernel
theorem d_Mo_times_27 : decode b_Mo_times 27 = .ok (.iconst 0, 1) := by decide +kernel
theorem d_Mo_times_28 : decode b_Mo_times 28 = .ok (.istore 6, 2) := by decide +kernel
theorem d_Mo_times_30 : decode b_Mo_times 30 = .ok (.iload 6, 2) := by decide +kernel
theorem d_Mo_times_32 : decode b_Mo_times 32 = .ok (.iload 4, 2) := by decide +kernel
theorem d_Mo_times_34 : decode b_Mo_times 34 = .ok (.if_icmp .gt 44, 3) := by decide +kernel
theorem d_Mo_times_37 : decode b_Mo_times 37 = .ok (.aload_n 0, 1) := by decide +kernel
theorem d_Mo_times_38 : decode b_Mo_times 38 = .ok (.getfield 37, 3) := by decide +kernel
theorem d_Mo_times_41 : decode b_Mo_times 41 = .ok (.iload 5, 2) := by decide +kernel
theorem d_Mo_times_43 : decode b_Mo_times 43 = .ok (.iload 6, 2) := by decide +kernel
theorem d_Mo_times_45 : decode b_Mo_times 45 = .ok (.iadd, 1) := by decide +kernel
theorem d_Mo_times_46 : decode b_Mo_times 46 = .ok (.aload_n 0, 1) := by decide +kernel
theorem d_Mo_times_47 : decode b_Mo_times 47 = .ok (.getfield 37, 3) := by decide +kernel
theorem d_Mo_times_50 : decode b_Mo_times 50 = .ok (.iload 5, 2) := by decide +kernel
theorem d_Mo_times_52 : decode b_Mo_times 52 = .ok (.iload 6, 2) := by decide +kernel
theorem d_Mo_times_54 : decode b_Mo_times 54 = .ok (.iadd, 1) := by decide +kernel
theorem d_Mo_times_55 : decode b_Mo_times 55 = .ok (.iaload, 1) := by decide +kernel
theorem d_Mo_times_56 : decode b_Mo_times 56 = .ok (.aload_n 1, 1) := by decide +kernel
theorem d_Mo_times_57 : decode b_Mo_times 57 = .ok (.iload 5, 2) := by decide +kernel
theorem d_Mo_times_59 : decode b_Mo_times 59 = .ok (.iaload, 1) := by decide +kernel
theorem d_Mo_times_60 : decode b_Mo_times 60 = .ok (.aload_n 2, 1) := by decide +kernel
theorem d_Mo_times_61 : decode b_Mo_times 61 = .ok (.iload 6, 2) := by decide +kernel
theorem d_Mo_times_63 : decode b_Mo_times 63 = .ok (.iaload, 1) := by decide +kernel
theorem d_Mo_times_64 : decode b_Mo_times 64 = .ok (.imul, 1) := by decide +kernel
theorem d_Mo_times_65 : decode b_Mo_times 65 = .ok (.iadd, 1) := by decide +kernel
theorem d_Mo_times_66 : decode b_Mo_times 66 = .ok (.aload_n 0, 1) := by decide +kernel
theorem d_Mo_times_67 : decode b_Mo_times 67 = .ok (.getfield 13, 3) := by decide +kernel
theorem d_Mo_times_70 : decode b_Mo_times 70 = .ok (.irem, 1) := by decide +kernel
theorem d_Mo_times_71 : decode b_Mo_times 71 = .ok (.iastore, 1) := by decide +kernel
theorem d_Mo_times_72 : decode b_Mo_times 72 = .ok (.iinc 6 1, 3) := by decide +kernel
theorem d_Mo_times_75 : decode b_Mo_times 75 = .ok (.goto (-45), 3) := by decide +kernel
theorem d_Mo_times_78 : decode b_Mo_times 78 = .ok (.iinc 5 1, 3) := by decide +kernel
theorem d_Mo_times_81 : decode b_Mo_times 81 = .ok (.goto (-60), 3) := by decide +kernel
theorem d_Mo_times_84 : decode b_Mo_times 84 = .ok (.return_, 1) := by decide +kernel
abbrev ws_Mo_times : List Cond := .code y_Mo_times b_Mo_times 7 none :: TB
abbrev b_Mo_divided : ByteArray := prog_7_method_15_code
theorem d_Mo_divided_0 : decode b_Mo_divided 0 = .ok (.aload_n 1, 1) := by decide +kernel
theorem d_Mo_divided_1 : decode b_Mo_divided 1 = .ok (.aload_n 0, 1) := by decide +kernel
theorem d_Mo_divided_2 : decode b_Mo_divided 2 = .ok (.getfield 34, 3) := by decide +kernel
theorem d_Mo_divided_5 : decode b_Mo_divided 5 = .ok (.invokestatic 84, 3) := by decide +kernel
theorem d_Mo_divided_8 : decode b_Mo_divided 8 = .ok (.aload_n 0, 1) := by decide +kernel
theorem d_Mo_divided_9 : decode b_Mo_divided 9 = .ok (.getfield 31, 3) := by decide +kernel
theorem d_Mo_divided_12 : decode b_Mo_divided 12 = .ok (.invokestatic 69, 3) := by decide +kernel
theorem d_Mo_divided_15 : decode b_Mo_divided 15 = .ok (.aload_n 2, 1) := by decide +kernel
theorem d_Mo_divided_16 : decode b_Mo_divided 16 = .ok (.invokestatic 80, 3) := by decide +kernel
theorem d_Mo_divided_19 : decode b_Mo_divided 19 = .ok (.istore_n 3, 1) := by decide +kernel
theorem d_Mo_divided_20 : decode b_Mo_divided 20 = .ok (.aload_n 0, 1) := by decide +kernel
theorem d_Mo_divided_21 : decode b_Mo_divided 21 = .ok (.aload_n 2, 1) := by decide +kernel
theorem d_Mo_divided_22 : decode b_Mo_divided 22 = .ok (.iload_n 3, 1) := by decide +kernel
theorem d_Mo_divided_23 : decode b_Mo_divided 23 = .ok (.iaload, 1) := by decide +kernel
theorem d_Mo_divided_24 : decode b_Mo_divided 24 = .ok (.invokevirtual 88, 3) := by decide +kernel
theorem d_Mo_divided_27 : decode b_Mo_divided 27 = .ok (.istore 4, 2) := by decide +kernel
theorem d_Mo_divided_29 : decode b_Mo_divided 29 = .ok (.aload_n 1, 1) := by decide +kernel
theorem d_Mo_divided_30 : decode b_Mo_divided 30 = .ok (.invokestatic 80, 3) := by decide +kernel
theorem d_Mo_divided_33 : decode b_Mo_divided 33 = .ok (.istore 5, 2) := by decide +kernel
theorem d_Mo_divided_35 : decode b_Mo_divided 35 = .ok (.iload 5, 2) := by decide +kernel
theorem d_Mo_divided_37 : decode b_Mo_divided 37 = .ok (.iload_n 3, 1) := by decide +kernel
theorem d_Mo_divided_38 : decode b_Mo_divided 38 = .ok (.if_icmp .lt 88, 3) := by decide +kernel
theorem d_Mo_divided_41 : decode b_Mo_divided 41 = .ok (.aload_n 0, 1) := by decide +kernel
theorem d_Mo_divided_42 : decode b_Mo_divided 42 = .ok (.getfield 34, 3) := by decide +kernel
theorem d_Mo_divided_45 : decode b_Mo_divided 45 = .ok (.iload 5, 2) := by decide +kernel
theorem d_Mo_divided_47 : decode b_Mo_divided 47 = .ok (.iaload, 1) := by decide +kernel
theorem d_Mo_divided_48 : decode b_Mo_divided 48 = .ok (.iload 4, 2) := by decide +kernel
theorem d_Mo_divided_50 : decode b_Mo_divided 50 = .ok (.imul, 1) := by decide +kernel
theorem d_Mo_divided_51 : decode b_Mo_divided 51 = .ok (.aload_n 0, 1) := by decide +kernel
theorem d_Mo_divided_52 : decode b_Mo_divided 52 = .ok (.getfield 13, 3) := by decide +kernel
theorem d_Mo_divided_55 : decode b_Mo_divided 55 = .ok (.irem, 1) := by decide +kernel
theorem d_Mo_divided_56 : decode b_Mo_divided 56 = .ok (.istore 6, 2) := by decide +kernel
theorem d_Mo_divided_58 : decode b_Mo_divided 58 = .ok (.aload_n 0, 1) := by decide +kernel
theorem d_Mo_divided_59 : decode b_Mo_divided 59 = .ok (.getfield 31, 3) := by decide +kernel
theorem d_Mo_divided_62 : decode b_Mo_divided 62 = .ok (.iload 5, 2) := by decide +kernel
theorem d_Mo_divided_64 : decode b_Mo_divided 64 = .ok (.iload_n 3, 1) := by decide +kernel
theorem d_Mo_divided_65 : decode b_Mo_divided 65 = .ok (.isub, 1) := by decide +kernel
theorem d_Mo_divided_66 : decode b_Mo_divided 66 = .ok (.iload 6, 2) := by decide +kernel
theorem d_Mo_divided_68 : decode b_Mo_divided 68 = .ok (.iastore, 1) := by decide +kernel
theorem d_Mo_divided_69 : decode b_Mo_divided 69 = .ok (.iconst 0, 1) := by decide +kernel
theorem d_Mo_divided_70 : decode b_Mo_divided 70 = .ok (.istore 7, 2) := by decide +kernel
theorem d_Mo_divided_72 : decode b_Mo_divided 72 = .ok (.iload 7, 2) := by decide +kernel
theorem d_Mo_divided_74 : decode b_Mo_divided 74 = .ok (.iload_n 3, 1) := by decide +kernel
theorem d_Mo_divided_75 : decode b_Mo_divided 75 = .ok (.if_icmp .gt 45, 3) := by decide +kernel
theorem d_Mo_divided_78 : decode b_Mo_divided 78 = .ok (.aload_n 0, 1) := by decide +kernel
theorem d_Mo_divided_79 : decode b_Mo_divided 79 = .ok (.getfield 34, 3) := by decide +kernel
theorem d_Mo_divided_82 : decode b_Mo_divided 82 = .ok (.iload 5, 2) := by decide +kernel
theorem d_Mo_divided_84 : decode b_Mo_divided 84 = .ok (.iload_n 3, 1) := by decide +kernel
theorem d_Mo_divided_85 : decode b_Mo_divided 85 = .ok (.isub, 1) := by decide +kernel
theorem d_Mo_divided_86 : decode b_Mo_divided 86 = .ok (.iload 7, 2) := by decide +kernel
theorem d_Mo_divided_88 : decode b_Mo_divided 88 = .ok (.iadd, 1) := by decide +kernel
theorem d_Mo_divided_89 : decode b_Mo_divided 89 = .ok (.aload_n 0, 1) := by decide +kernel
theorem d_Mo_divided_90 : decode b_Mo_divided 90 = .ok (.aload_n 0, 1) := by decide +kernel
theorem d_Mo_divided_91 : decode b_Mo_divided 91 = .ok (.getfield 34, 3) := by decide +kernel
theorem d_Mo_divided_94 : decode b_Mo_divided 94 = .ok (.iload 5, 2) := by decide +kernel
theorem d_Mo_divided_96 : decode b_Mo_divided 96 = .ok (.iload_n 3, 1) := by decide +kernel
theorem d_Mo_divided_97 : decode b_Mo_divided 97 = .ok (.isub, 1) := by decide +kernel
theorem d_Mo_divided_98 : decode b_Mo_divided 98 = .ok (.iload 7, 2) := by decide +kernel
theorem d_Mo_divided_100 : decode b_Mo_divided 100 = .ok (.iadd, 1) := by decide +kernel
theorem d_Mo_divided_101 : decode b_Mo_divided 101 = .ok (.iaload, 1) := by decide +kernel
theorem d_Mo_divided_102 : decode b_Mo_divided 102 = .ok (.iload 6, 2) := by decide +kernel
theorem d_Mo_divided_104 : decode b_Mo_divided 104 = .ok (.aload_n 2, 1) := by decide +kernel
theorem d_Mo_divided_105 : decode b_Mo_divided 105 = .ok (.iload 7, 2) := by decide +kernel
theorem d_Mo_divided_107 : decode b_Mo_divided 107 = .ok (.iaload, 1) := by decide +kernel
theorem d_Mo_divided_108 : decode b_Mo_divided 108 = .ok (.imul, 1) := by decide +kernel
theorem d_Mo_divided_109 : decode b_Mo_divided 109 = .ok (.isub, 1) := by decide +kernel
theorem d_Mo_divided_110 : decode b_Mo_divided 110 = .ok (.invokevirtual 77, 3) := by decide +kernel
theorem d_Mo_divided_113 : decode b_Mo_divided 113 = .ok (.iastore, 1) := by decide +kernel
theorem d_Mo_divided_114 : decode b_Mo_divided 114 = .ok (.iinc 7 1, 3) := by decide +kernel
theorem d_Mo_divided_117 : decode b_Mo_divided 117 = .ok (.goto (-45), 3) := by decide +kernel
theorem d_Mo_divided_120 : decode b_Mo_divided 120 = .ok (.iinc 5 (-1), 3) := by decide +kernel
theorem d_Mo_divided_123 : decode b_Mo_divided 123 = .ok (.goto (-88), 3) := by decide +kernel
theorem d_Mo_divided_126 : decode b_Mo_divided 126 = .ok (.return_, 1) := by decide +kernel
abbrev ws_Mo_divided : List Cond := .code y_Mo_divided b_Mo_divided 8 none :: TB
abbrev b_Mo_common : ByteArray := prog_7_method_16_code
theorem d_Mo_common_0 : decode b_Mo_common 0 = .ok (.aload_n 1, 1) := by decide +kernel
theorem d_Mo_common_1 : decode b_Mo_common 1 = .ok (.aload_n 0, 1) := by decide +kernel
theorem d_Mo_common_2 : decode b_Mo_common 2 = .ok (.getfield 40, 3) := by decide +kernel
theorem d_Mo_common_5 : decode b_Mo_common 5 = .ok (.invokestatic 84, 3) := by decide +kernel
theorem d_Mo_common_8 : decode b_Mo_common 8 = .ok (.aload_n 2, 1) := by decide +kernel
theorem d_Mo_common_9 : decode b_Mo_common 9 = .ok (.aload_n 0, 1) := by decide +kernel
theorem d_Mo_common_10 : decode b_Mo_common 10 = .ok (.getfield 43, 3) := by decide +kernel
theorem d_Mo_common_13 : decode b_Mo_common 13 = .ok (.invokestatic 84, 3) := by decide +kernel
theorem d_Mo_common_16 : decode b_Mo_common 16 = .ok (.aload_n 0, 1) := by decide +kernel
theorem d_Mo_common_17 : decode b_Mo_common 17 = .ok (.getfield 43, 3) := by decide +kernel
theorem d_Mo_common_20 : decode b_Mo_common 20 = .ok (.invokestatic 80, 3) := by decide +kernel
theorem d_Mo_common_23 : decode b_Mo_common 23 = .ok (.ifCond .lt 40, 3) := by decide +kernel
theorem d_Mo_common_26 : decode b_Mo_common 26 = .ok (.aload_n 0, 1) := by decide +kernel
theorem d_Mo_common_27 : decode b_Mo_common 27 = .ok (.aload_n 0, 1) := by decide +kernel
theorem d_Mo_common_28 : decode b_Mo_common 28 = .ok (.getfield 40, 3) := by decide +kernel
theorem d_Mo_common_31 : decode b_Mo_common 31 = .ok (.aload_n 0, 1) := by decide +kernel
theorem d_Mo_common_32 : decode b_Mo_common 32 = .ok (.getfield 43, 3) := by decide +kernel
theorem d_Mo_common_35 : decode b_Mo_common 35 = .ok (.invokevirtual 91, 3) := by decide +kernel
theorem d_Mo_common_38 : decode b_Mo_common 38 = .ok (.aload_n 0, 1) := by decide +kernel
theorem d_Mo_common_39 : decode b_Mo_common 39 = .ok (.getfield 43, 3) := by decide +kernel
theorem d_Mo_common_42 : decode b_Mo_common 42 = .ok (.aload_n 0, 1) := by decide +kernel
theorem d_Mo_common_43 : decode b_Mo_common 43 = .ok (.getfield 40, 3) := by decide +kernel
theorem d_Mo_common_46 : decode b_Mo_common 46 = .ok (.invokestatic 84, 3) := by decide +kernel
theorem d_Mo_common_49 : decode b_Mo_common 49 = .ok (.aload_n 0, 1) := by decide +kernel
theorem d_Mo_common_50 : decode b_Mo_common 50 = .ok (.getfield 34, 3) := by decide +kernel
theorem d_Mo_common_53 : decode b_Mo_common 53 = .ok (.aload_n 0, 1) := by decide +kernel
theorem d_Mo_common_54 : decode b_Mo_common 54 = .ok (.getfield 43, 3) := by decide +kernel
theorem d_Mo_common_57 : decode b_Mo_common 57 = .ok (.invokestatic 84, 3) := by decide +kernel
theorem d_Mo_common_60 : decode b_Mo_common 60 = .ok (.goto (-44), 3) := by decide +kernel
theorem d_Mo_common_63 : decode b_Mo_common 63 = .ok (.aload_n 0, 1) := by decide +kernel
theorem d_Mo_common_64 : decode b_Mo_common 64 = .ok (.aload_n 0, 1) := by decide +kernel
theorem d_Mo_common_65 : decode b_Mo_common 65 = .ok (.getfield 40, 3) := by decide +kernel
theorem d_Mo_common_68 : decode b_Mo_common 68 = .ok (.invokevirtual 94, 3) := by decide +kernel
theorem d_Mo_common_71 : decode b_Mo_common 71 = .ok (.return_, 1) := by decide +kernel
abbrev ws_Mo_common : List Cond := .code y_Mo_common b_Mo_common 3 none :: TB
abbrev b_Mo_monic : ByteArray := prog_7_method_17_code
theorem d_Mo_monic_0 : decode b_Mo_monic 0 = .ok (.aload_n 1, 1) := by decide +kernel
theorem d_Mo_monic_1 : decode b_Mo_monic 1 = .ok (.invokestatic 80, 3) := by decide +kernel
theorem d_Mo_monic_4 : decode b_Mo_monic 4 = .ok (.istore_n 2, 1) := by decide +kernel
theorem d_Mo_monic_5 : decode b_Mo_monic 5 = .ok (.iload_n 2, 1) := by decide +kernel
theorem d_Mo_monic_6 : decode b_Mo_monic 6 = .ok (.ifCond .ge 7, 3) := by decide +kernel
theorem d_Mo_monic_9 : decode b_Mo_monic 9 = .ok (.iconst 0, 1) := by decide +kernel
theorem d_Mo_monic_10 : decode b_Mo_monic 10 = .ok (.goto 10, 3) := by decide +kernel
theorem d_Mo_monic_13 : decode b_Mo_monic 13 = .ok (.aload_n 0, 1) := by decide +kernel
theorem d_Mo_monic_14 : decode b_Mo_monic 14 = .ok (.aload_n 1, 1) := by decide +kernel
theorem d_Mo_monic_15 : decode b_Mo_monic 15 = .ok (.iload_n 2, 1) := by decide +kernel
theorem d_Mo_monic_16 : decode b_Mo_monic 16 = .ok (.iaload, 1) := by decide +kernel
theorem d_Mo_monic_17 : decode b_Mo_monic 17 = .ok (.invokevirtual 88, 3) := by decide +kernel
theorem d_Mo_monic_20 : decode b_Mo_monic 20 = .ok (.istore_n 3, 1) := by decide +kernel
theorem d_Mo_monic_21 : decode b_Mo_monic 21 = .ok (.iconst 0, 1) := by decide +kernel
theorem d_Mo_monic_22 : decode b_Mo_monic 22 = .ok (.istore 4, 2) := by decide +kernel
theorem d_Mo_monic_24 : decode b_Mo_monic 24 = .ok (.iload 4, 2) := by decide +kernel
theorem d_Mo_monic_26 : decode b_Mo_monic 26 = .ok (.iload_n 2, 1) := by decide +kernel
theorem d_Mo_monic_27 : decode b_Mo_monic 27 = .ok (.if_icmp .gt 24, 3) := by decide +kernel
theorem d_Mo_monic_30 : decode b_Mo_monic 30 = .ok (.aload_n 1, 1) := by decide +kernel
theorem d_Mo_monic_31 : decode b_Mo_monic 31 = .ok (.iload 4, 2) := by decide +kernel
theorem d_Mo_monic_33 : decode b_Mo_monic 33 = .ok (.aload_n 1, 1) := by decide +kernel
theorem d_Mo_monic_34 : decode b_Mo_monic 34 = .ok (.iload 4, 2) := by decide +kernel
theorem d_Mo_monic_36 : decode b_Mo_monic 36 = .ok (.iaload, 1) := by decide +kernel
theorem d_Mo_monic_37 : decode b_Mo_monic 37 = .ok (.iload_n 3, 1) := by decide +kernel
theorem d_Mo_monic_38 : decode b_Mo_monic 38 = .ok (.imul, 1) := by decide +kernel
theorem d_Mo_monic_39 : decode b_Mo_monic 39 = .ok (.aload_n 0, 1) := by decide +kernel
theorem d_Mo_monic_40 : decode b_Mo_monic 40 = .ok (.getfield 13, 3) := by decide +kernel
theorem d_Mo_monic_43 : decode b_Mo_monic 43 = .ok (.irem, 1) := by decide +kernel
theorem d_Mo_monic_44 : decode b_Mo_monic 44 = .ok (.iastore, 1) := by decide +kernel
theorem d_Mo_monic_45 : decode b_Mo_monic 45 = .ok (.iinc 4 1, 3) := by decide +kernel
theorem d_Mo_monic_48 : decode b_Mo_monic 48 = .ok (.goto (-24), 3) := by decide +kernel
theorem d_Mo_monic_51 : decode b_Mo_monic 51 = .ok (.return_, 1) := by decide +kernel
abbrev ws_Mo_monic : List Cond := .code y_Mo_monic b_Mo_monic 5 none :: TB
abbrev b_Mo_join : ByteArray := prog_7_method_18_code
theorem d_Mo_join_0 : decode b_Mo_join 0 = .ok (.aload_n 0, 1) := by decide +kernel
theorem d_Mo_join_1 : decode b_Mo_join 1 = .ok (.iload_n 1, 1) := by decide +kernel
theorem d_Mo_join_2 : decode b_Mo_join 2 = .ok (.invokevirtual 73, 3) := by decide +kernel
theorem d_Mo_join_5 : decode b_Mo_join 5 = .ok (.ifCond .ne 20, 3) := by decide +kernel
theorem d_Mo_join_8 : decode b_Mo_join 8 = .ok (.aload_n 0, 1) := by decide +kernel
theorem d_Mo_join_9 : decode b_Mo_join 9 = .ok (.iload_n 3, 1) := by decide +kernel
theorem d_Mo_join_10 : decode b_Mo_join 10 = .ok (.invokevirtual 73, 3) := by decide +kernel
theorem d_Mo_join_13 : decode b_Mo_join 13 = .ok (.ifCond .ne 12, 3) := by decide +kernel
theorem d_Mo_join_16 : decode b_Mo_join 16 = .ok (.aload_n 0, 1) := by decide +kernel
theorem d_Mo_join_17 : decode b_Mo_join 17 = .ok (.iload 4, 2) := by decide +kernel
theorem d_Mo_join_19 : decode b_Mo_join 19 = .ok (.invokevirtual 73, 3) := by decide +kernel
theorem d_Mo_join_22 : decode b_Mo_join 22 = .ok (.ifCond .eq 5, 3) := by decide +kernel
theorem d_Mo_join_25 : decode b_Mo_join 25 = .ok (.iconst 0, 1) := by decide +kernel
theorem d_Mo_join_26 : decode b_Mo_join 26 = .ok (.ireturn, 1) := by decide +kernel
theorem d_Mo_join_27 : decode b_Mo_join 27 = .ok (.aload_n 0, 1) := by decide +kernel
theorem d_Mo_join_28 : decode b_Mo_join 28 = .ok (.getfield 18, 3) := by decide +kernel
theorem d_Mo_join_31 : decode b_Mo_join 31 = .ok (.iload_n 3, 1) := by decide +kernel
theorem d_Mo_join_32 : decode b_Mo_join 32 = .ok (.aaload, 1) := by decide +kernel
theorem d_Mo_join_33 : decode b_Mo_join 33 = .ok (.astore 5, 2) := by decide +kernel
theorem d_Mo_join_35 : decode b_Mo_join 35 = .ok (.aload_n 0, 1) := by decide +kernel
theorem d_Mo_join_36 : decode b_Mo_join 36 = .ok (.getfield 18, 3) := by decide +kernel
theorem d_Mo_join_39 : decode b_Mo_join 39 = .ok (.iload 4, 2) := by decide +kernel
theorem d_Mo_join_41 : decode b_Mo_join 41 = .ok (.aaload, 1) := by decide +kernel
theorem d_Mo_join_42 : decode b_Mo_join 42 = .ok (.astore 6, 2) := by decide +kernel
theorem d_Mo_join_44 : decode b_Mo_join 44 = .ok (.aload_n 0, 1) := by decide +kernel
theorem d_Mo_join_45 : decode b_Mo_join 45 = .ok (.iconst 2, 1) := by decide +kernel
theorem d_Mo_join_46 : decode b_Mo_join 46 = .ok (.iload_n 2, 1) := by decide +kernel
theorem d_Mo_join_47 : decode b_Mo_join 47 = .ok (.ifCond .lt 27, 3) := by decide +kernel
theorem d_Mo_join_50 : decode b_Mo_join 50 = .ok (.iload_n 2, 1) := by decide +kernel
theorem d_Mo_join_51 : decode b_Mo_join 51 = .ok (.bipush 7, 2) := by decide +kernel
theorem d_Mo_join_53 : decode b_Mo_join 53 = .ok (.if_icmp .gt 21, 3) := by decide +kernel
theorem d_Mo_join_56 : decode b_Mo_join 56 = .ok (.iload_n 2, 1) := by decide +kernel
theorem d_Mo_join_57 : decode b_Mo_join 57 = .ok (.iconst 3, 1) := by decide +kernel
theorem d_Mo_join_58 : decode b_Mo_join 58 = .ok (.if_icmp .eq 8, 3) := by decide +kernel
theorem d_Mo_join_61 : decode b_Mo_join 61 = .ok (.iload_n 2, 1) := by decide +kernel
theorem d_Mo_join_62 : decode b_Mo_join 62 = .ok (.iconst 4, 1) := by decide +kernel
theorem d_Mo_join_63 : decode b_Mo_join 63 = .ok (.if_icmp .ne 15, 3) := by decide +kernel
theorem d_Mo_join_66 : decode b_Mo_join 66 = .ok (.aload 6, 2) := by decide +kernel
theorem d_Mo_join_68 : decode b_Mo_join 68 = .ok (.invokestatic 80, 3) := by decide +kernel
theorem d_Mo_join_71 : decode b_Mo_join 71 = .ok (.ifCond .ge 7, 3) := by decide +kernel
theorem d_Mo_join_74 : decode b_Mo_join 74 = .ok (.iconst 1, 1) := by decide +kernel
theorem d_Mo_join_75 : decode b_Mo_join 75 = .ok (.goto 4, 3) := by decide +kernel
theorem d_Mo_join_78 : decode b_Mo_join 78 = .ok (.iconst 0, 1) := by decide +kernel
theorem d_Mo_join_79 : decode b_Mo_join 79 = .ok (.invokevirtual 61, 3) := by decide +kernel
theorem d_Mo_join_82 : decode b_Mo_join 82 = .ok (.ifCond .eq 5, 3) := by decide +kernel
theorem d_Mo_join_85 : decode b_Mo_join 85 = .ok (.iconst 0, 1) := by decide +kernel
theorem d_Mo_join_86 : decode b_Mo_join 86 = .ok (.ireturn, 1) := by decide +kernel
theorem d_Mo_join_87 : decode b_Mo_join 87 = .ok (.aload_n 0, 1) := by decide +kernel
theorem d_Mo_join_88 : decode b_Mo_join 88 = .ok (.getfield 46, 3) := by decide +kernel
theorem d_Mo_join_91 : decode b_Mo_join 91 = .ok (.invokestatic 69, 3) := by decide +kernel
theorem d_Mo_join_94 : decode b_Mo_join 94 = .ok (.iload_n 2, 1) := by decide +kernel
theorem d_Mo_join_95 : decode b_Mo_join 95 = .ok (.tableswitch 225 0 6 #[41, 41, 100, 149, 149, 183, 205], 41) := by decide +kernel
theorem d_Mo_join_136 : decode b_Mo_join 136 = .ok (.iconst 0, 1) := by decide +kernel
theorem d_Mo_join_137 : decode b_Mo_join 137 = .ok (.istore 7, 2) := by decide +kernel
theorem d_Mo_join_139 : decode b_Mo_join 139 = .ok (.iload 7, 2) := by decide +kernel
theorem d_Mo_join_141 : decode b_Mo_join 141 = .ok (.bipush 24, 2) := by decide +kernel
theorem d_Mo_join_143 : decode b_Mo_join 143 = .ok (.if_icmp .gt 49, 3) := by decide +kernel
theorem d_Mo_join_146 : decode b_Mo_join 146 = .ok (.aload_n 0, 1) := by decide +kernel
theorem d_Mo_join_147 : decode b_Mo_join 147 = .ok (.getfield 46, 3) := by decide +kernel
theorem d_Mo_join_150 : decode b_Mo_join 150 = .ok (.iload 7, 2) := by decide +kernel
theorem d_Mo_join_152 : decode b_Mo_join 152 = .ok (.aload_n 0, 1) := by decide +kernel
theorem d_Mo_join_153 : decode b_Mo_join 153 = .ok (.iload_n 2, 1) := by decide +kernel
theorem d_Mo_join_154 : decode b_Mo_join 154 = .ok (.ifCond .ne 17, 3) := by decide +kernel
theorem d_Mo_join_157 : decode b_Mo_join 157 = .ok (.aload 5, 2) := by decide +kernel
theorem d_Mo_join_159 : decode b_Mo_join 159 = .ok (.iload 7, 2) := by decide +kernel
theorem d_Mo_join_161 : decode b_Mo_join 161 = .ok (.iaload, 1) := by decide +kernel
theorem d_Mo_join_162 : decode b_Mo_join 162 = .ok (.aload 6, 2) := by decide +kernel
theorem d_Mo_join_164 : decode b_Mo_join 164 = .ok (.iload 7, 2) := by decide +kernel
theorem d_Mo_join_166 : decode b_Mo_join 166 = .ok (.iaload, 1) := by decide +kernel
theorem d_Mo_join_167 : decode b_Mo_join 167 = .ok (.iadd, 1) := by decide +kernel
theorem d_Mo_join_168 : decode b_Mo_join 168 = .ok (.goto 14, 3) := by decide +kernel
theorem d_Mo_join_171 : decode b_Mo_join 171 = .ok (.aload 5, 2) := by decide +kernel
theorem d_Mo_join_173 : decode b_Mo_join 173 = .ok (.iload 7, 2) := by decide +kernel
theorem d_Mo_join_175 : decode b_Mo_join 175 = .ok (.iaload, 1) := by decide +kernel
theorem d_Mo_join_176 : decode b_Mo_join 176 = .ok (.aload 6, 2) := by decide +kernel
theorem d_Mo_join_178 : decode b_Mo_join 178 = .ok (.iload 7, 2) := by decide +kernel
theorem d_Mo_join_180 : decode b_Mo_join 180 = .ok (.iaload, 1) := by decide +kernel
theorem d_Mo_join_181 : decode b_Mo_join 181 = .ok (.isub, 1) := by decide +kernel
theorem d_Mo_join_182 : decode b_Mo_join 182 = .ok (.invokevirtual 77, 3) := by decide +kernel
theorem d_Mo_join_185 : decode b_Mo_join 185 = .ok (.iastore, 1) := by decide +kernel
theorem d_Mo_join_186 : decode b_Mo_join 186 = .ok (.iinc 7 1, 3) := by decide +kernel
theorem d_Mo_join_189 : decode b_Mo_join 189 = .ok (.goto (-50), 3) := by decide +kernel
theorem d_Mo_join_192 : decode b_Mo_join 192 = .ok (.goto 166, 3) := by decide +kernel
theorem d_Mo_join_195 : decode b_Mo_join 195 = .ok (.aload_n 0, 1) := by decide +kernel
theorem d_Mo_join_196 : decode b_Mo_join 196 = .ok (.aload 5, 2) := by decide +kernel
theorem d_Mo_join_198 : decode b_Mo_join 198 = .ok (.aload 6, 2) := by decide +kernel
theorem d_Mo_join_200 : decode b_Mo_join 200 = .ok (.invokevirtual 97, 3) := by decide +kernel
theorem d_Mo_join_203 : decode b_Mo_join 203 = .ok (.aload_n 0, 1) := by decide +kernel
theorem d_Mo_join_204 : decode b_Mo_join 204 = .ok (.iconst 3, 1) := by decide +kernel
theorem d_Mo_join_205 : decode b_Mo_join 205 = .ok (.aload_n 0, 1) := by decide +kernel
theorem d_Mo_join_206 : decode b_Mo_join 206 = .ok (.getfield 37, 3) := by decide +kernel
theorem d_Mo_join_209 : decode b_Mo_join 209 = .ok (.invokestatic 80, 3) := by decide +kernel
theorem d_Mo_join_212 : decode b_Mo_join 212 = .ok (.bipush 24, 2) := by decide +kernel
theorem d_Mo_join_214 : decode b_Mo_join 214 = .ok (.if_icmp .le 7, 3) := by decide +kernel
theorem d_Mo_join_217 : decode b_Mo_join 217 = .ok (.iconst 1, 1) := by decide +kernel
theorem d_Mo_join_218 : decode b_Mo_join 218 = .ok (.goto 4, 3) := by decide +kernel
theorem d_Mo_join_221 : decode b_Mo_join 221 = .ok (.iconst 0, 1) := by decide +kernel
theorem d_Mo_join_222 : decode b_Mo_join 222 = .ok (.invokevirtual 61, 3) := by decide +kernel
theorem d_Mo_join_225 : decode b_Mo_join 225 = .ok (.ifCond .eq 5, 3) := by decide +kernel
theorem d_Mo_join_228 : decode b_Mo_join 228 = .ok (.iconst 0, 1) := by decide +kernel
theorem d_Mo_join_229 : decode b_Mo_join 229 = .ok (.ireturn, 1) := by decide +kernel
theorem d_Mo_join_230 : decode b_Mo_join 230 = .ok (.aload_n 0, 1) := by decide +kernel
theorem d_Mo_join_231 : decode b_Mo_join 231 = .ok (.getfield 37, 3) := by decide +kernel
theorem d_Mo_join_234 : decode b_Mo_join 234 = .ok (.aload_n 0, 1) := by decide +kernel
theorem d_Mo_join_235 : decode b_Mo_join 235 = .ok (.getfield 46, 3) := by decide +kernel
theorem d_Mo_join_238 : decode b_Mo_join 238 = .ok (.invokestatic 84, 3) := by decide +kernel
theorem d_Mo_join_241 : decode b_Mo_join 241 = .ok (.goto 117, 3) := by decide +kernel
theorem d_Mo_join_244 : decode b_Mo_join 244 = .ok (.aload_n 0, 1) := by decide +kernel
theorem d_Mo_join_245 : decode b_Mo_join 245 = .ok (.aload 5, 2) := by decide +kernel
theorem d_Mo_join_247 : decode b_Mo_join 247 = .ok (.aload 6, 2) := by decide +kernel
theorem d_Mo_join_249 : decode b_Mo_join 249 = .ok (.invokevirtual 91, 3) := by decide +kernel
theorem d_Mo_join_252 : decode b_Mo_join 252 = .ok (.iload_n 2, 1) := by decide +kernel
theorem d_Mo_join_253 : decode b_Mo_join 253 = .ok (.iconst 3, 1) := by decide +kernel
theorem d_Mo_join_254 : decode b_Mo_join 254 = .ok (.if_icmp .ne 10, 3) := by decide +kernel
theorem d_Mo_join_257 : decode b_Mo_join 257 = .ok (.aload_n 0, 1) := by decide +kernel
theorem d_Mo_join_258 : decode b_Mo_join 258 = .ok (.getfield 31, 3) := by decide +kernel
theorem d_Mo_join_261 : decode b_Mo_join 261 = .ok (.goto 7, 3) := by decide +kernel
theorem d_Mo_join_264 : decode b_Mo_join 264 = .ok (.aload_n 0, 1) := by decide +kernel
theorem d_Mo_join_265 : decode b_Mo_join 265 = .ok (.getfield 34, 3) := by decide +kernel
theorem d_Mo_join_268 : decode b_Mo_join 268 = .ok (.aload_n 0, 1) := by decide +kernel
theorem d_Mo_join_269 : decode b_Mo_join 269 = .ok (.getfield 46, 3) := by decide +kernel
theorem d_Mo_join_272 : decode b_Mo_join 272 = .ok (.invokestatic 84, 3) := by decide +kernel
theorem d_Mo_join_275 : decode b_Mo_join 275 = .ok (.goto 83, 3) := by decide +kernel
theorem d_Mo_join_278 : decode b_Mo_join 278 = .ok (.aload_n 0, 1) := by decide +kernel
theorem d_Mo_join_279 : decode b_Mo_join 279 = .ok (.aload 5, 2) := by decide +kernel
theorem d_Mo_join_281 : decode b_Mo_join 281 = .ok (.aload 6, 2) := by decide +kernel
theorem d_Mo_join_283 : decode b_Mo_join 283 = .ok (.invokevirtual 100, 3) := by decide +kernel
theorem d_Mo_join_286 : decode b_Mo_join 286 = .ok (.aload_n 0, 1) := by decide +kernel
theorem d_Mo_join_287 : decode b_Mo_join 287 = .ok (.getfield 40, 3) := by decide +kernel
theorem d_Mo_join_290 : decode b_Mo_join 290 = .ok (.aload_n 0, 1) := by decide +kernel
theorem d_Mo_join_291 : decode b_Mo_join 291 = .ok (.getfield 46, 3) := by decide +kernel
theorem d_Mo_join_294 : decode b_Mo_join 294 = .ok (.invokestatic 84, 3) := by decide +kernel
theorem d_Mo_join_297 : decode b_Mo_join 297 = .ok (.goto 61, 3) := by decide +kernel
theorem d_Mo_join_300 : decode b_Mo_join 300 = .ok (.aload 5, 2) := by decide +kernel
theorem d_Mo_join_302 : decode b_Mo_join 302 = .ok (.aload_n 0, 1) := by decide +kernel
theorem d_Mo_join_303 : decode b_Mo_join 303 = .ok (.getfield 46, 3) := by decide +kernel
theorem d_Mo_join_306 : decode b_Mo_join 306 = .ok (.invokestatic 84, 3) := by decide +kernel
theorem d_Mo_join_309 : decode b_Mo_join 309 = .ok (.aload_n 0, 1) := by decide +kernel
theorem d_Mo_join_310 : decode b_Mo_join 310 = .ok (.aload_n 0, 1) := by decide +kernel
theorem d_Mo_join_311 : decode b_Mo_join 311 = .ok (.getfield 46, 3) := by decide +kernel
theorem d_Mo_join_314 : decode b_Mo_join 314 = .ok (.invokevirtual 94, 3) := by decide +kernel
theorem d_Mo_join_317 : decode b_Mo_join 317 = .ok (.goto 41, 3) := by decide +kernel
theorem d_Mo_join_320 : decode b_Mo_join 320 = .ok (.iconst 1, 1) := by decide +kernel
theorem d_Mo_join_321 : decode b_Mo_join 321 = .ok (.istore 7, 2) := by decide +kernel
theorem d_Mo_join_323 : decode b_Mo_join 323 = .ok (.iload 7, 2) := by decide +kernel
theorem d_Mo_join_325 : decode b_Mo_join 325 = .ok (.bipush 24, 2) := by decide +kernel
theorem d_Mo_join_327 : decode b_Mo_join 327 = .ok (.if_icmp .gt 31, 3) := by decide +kernel
theorem d_Mo_join_330 : decode b_Mo_join 330 = .ok (.aload_n 0, 1) := by decide +kernel
theorem d_Mo_join_331 : decode b_Mo_join 331 = .ok (.getfield 46, 3) := by decide +kernel
theorem d_Mo_join_334 : decode b_Mo_join 334 = .ok (.iload 7, 2) := by decide +kernel
theorem d_Mo_join_336 : decode b_Mo_join 336 = .ok (.iconst 1, 1) := by decide +kernel
theorem d_Mo_join_337 : decode b_Mo_join 337 = .ok (.isub, 1) := by decide +kernel
theorem d_Mo_join_338 : decode b_Mo_join 338 = .ok (.iload 7, 2) := by decide +kernel
theorem d_Mo_join_340 : decode b_Mo_join 340 = .ok (.aload 5, 2) := by decide +kernel
theorem d_Mo_join_342 : decode b_Mo_join 342 = .ok (.iload 7, 2) := by decide +kernel
theorem d_Mo_join_344 : decode b_Mo_join 344 = .ok (.iaload, 1) := by decide +kernel
theorem d_Mo_join_345 : decode b_Mo_join 345 = .ok (.imul, 1) := by decide +kernel
theorem d_Mo_join_346 : decode b_Mo_join 346 = .ok (.aload_n 0, 1) := by decide +kernel
theorem d_Mo_join_347 : decode b_Mo_join 347 = .ok (.getfield 13, 3) := by decide +kernel
theorem d_Mo_join_350 : decode b_Mo_join 350 = .ok (.irem, 1) := by decide +kernel
theorem d_Mo_join_351 : decode b_Mo_join 351 = .ok (.iastore, 1) := by decide +kernel
theorem d_Mo_join_352 : decode b_Mo_join 352 = .ok (.iinc 7 1, 3) := by decide +kernel
theorem d_Mo_join_355 : decode b_Mo_join 355 = .ok (.goto (-32), 3) := by decide +kernel
theorem d_Mo_join_358 : decode b_Mo_join 358 = .ok (.aload_n 0, 1) := by decide +kernel
theorem d_Mo_join_359 : decode b_Mo_join 359 = .ok (.getfield 46, 3) := by decide +kernel
theorem d_Mo_join_362 : decode b_Mo_join 362 = .ok (.aload_n 0, 1) := by decide +kernel
theorem d_Mo_join_363 : decode b_Mo_join 363 = .ok (.getfield 18, 3) := by decide +kernel
theorem d_Mo_join_366 : decode b_Mo_join 366 = .ok (.iload_n 1, 1) := by decide +kernel
theorem d_Mo_join_367 : decode b_Mo_join 367 = .ok (.aaload, 1) := by decide +kernel
theorem d_Mo_join_368 : decode b_Mo_join 368 = .ok (.invokestatic 84, 3) := by decide +kernel
theorem d_Mo_join_371 : decode b_Mo_join 371 = .ok (.aload_n 0, 1) := by decide +kernel
theorem d_Mo_join_372 : decode b_Mo_join 372 = .ok (.getfield 46, 3) := by decide +kernel
theorem d_Mo_join_375 : decode b_Mo_join 375 = .ok (.invokestatic 80, 3) := by decide +kernel
theorem d_Mo_join_378 : decode b_Mo_join 378 = .ok (.ireturn, 1) := by decide +kernel
abbrev ws_Mo_join : List Cond := .code y_Mo_join b_Mo_join 8 (Option.some .int) :: TB
abbrev b_Mo_raised : ByteArray := prog_7_method_19_code
theorem d_Mo_raised_0 : decode b_Mo_raised 0 = .ok (.aload_n 0, 1) := by decide +kernel
theorem d_Mo_raised_1 : decode b_Mo_raised 1 = .ok (.aload_n 0, 1) := by decide +kernel
theorem d_Mo_raised_2 : decode b_Mo_raised 2 = .ok (.getfield 52, 3) := by decide +kernel
theorem d_Mo_raised_5 : decode b_Mo_raised 5 = .ok (.aload_n 2, 1) := by decide +kernel
theorem d_Mo_raised_6 : decode b_Mo_raised 6 = .ok (.invokevirtual 91, 3) := by decide +kernel
theorem d_Mo_raised_9 : decode b_Mo_raised 9 = .ok (.aload_n 0, 1) := by decide +kernel
theorem d_Mo_raised_10 : decode b_Mo_raised 10 = .ok (.getfield 34, 3) := by decide +kernel
theorem d_Mo_raised_13 : decode b_Mo_raised 13 = .ok (.aload_n 0, 1) := by decide +kernel
theorem d_Mo_raised_14 : decode b_Mo_raised 14 = .ok (.getfield 52, 3) := by decide +kernel
theorem d_Mo_raised_17 : decode b_Mo_raised 17 = .ok (.invokestatic 84, 3) := by decide +kernel
theorem d_Mo_raised_20 : decode b_Mo_raised 20 = .ok (.aload_n 0, 1) := by decide +kernel
theorem d_Mo_raised_21 : decode b_Mo_raised 21 = .ok (.getfield 55, 3) := by decide +kernel
theorem d_Mo_raised_24 : decode b_Mo_raised 24 = .ok (.invokestatic 69, 3) := by decide +kernel
theorem d_Mo_raised_27 : decode b_Mo_raised 27 = .ok (.aload_n 0, 1) := by decide +kernel
theorem d_Mo_raised_28 : decode b_Mo_raised 28 = .ok (.getfield 55, 3) := by decide +kernel
theorem d_Mo_raised_31 : decode b_Mo_raised 31 = .ok (.iconst 0, 1) := by decide +kernel
theorem d_Mo_raised_32 : decode b_Mo_raised 32 = .ok (.iconst 1, 1) := by decide +kernel
theorem d_Mo_raised_33 : decode b_Mo_raised 33 = .ok (.iastore, 1) := by decide +kernel
theorem d_Mo_raised_34 : decode b_Mo_raised 34 = .ok (.bipush 30, 2) := by decide +kernel
theorem d_Mo_raised_36 : decode b_Mo_raised 36 = .ok (.istore_n 3, 1) := by decide +kernel
theorem d_Mo_raised_37 : decode b_Mo_raised 37 = .ok (.iload_n 3, 1) := by decide +kernel
theorem d_Mo_raised_38 : decode b_Mo_raised 38 = .ok (.ifCond .lt 84, 3) := by decide +kernel
theorem d_Mo_raised_41 : decode b_Mo_raised 41 = .ok (.aload_n 0, 1) := by decide +kernel
theorem d_Mo_raised_42 : decode b_Mo_raised 42 = .ok (.aload_n 0, 1) := by decide +kernel
theorem d_Mo_raised_43 : decode b_Mo_raised 43 = .ok (.getfield 55, 3) := by decide +kernel
theorem d_Mo_raised_46 : decode b_Mo_raised 46 = .ok (.aload_n 0, 1) := by decide +kernel
theorem d_Mo_raised_47 : decode b_Mo_raised 47 = .ok (.getfield 55, 3) := by decide +kernel
theorem d_Mo_raised_50 : decode b_Mo_raised 50 = .ok (.invokevirtual 97, 3) := by decide +kernel
theorem d_Mo_raised_53 : decode b_Mo_raised 53 = .ok (.aload_n 0, 1) := by decide +kernel
theorem d_Mo_raised_54 : decode b_Mo_raised 54 = .ok (.aload_n 0, 1) := by decide +kernel
theorem d_Mo_raised_55 : decode b_Mo_raised 55 = .ok (.getfield 37, 3) := by decide +kernel
theorem d_Mo_raised_58 : decode b_Mo_raised 58 = .ok (.aload_n 2, 1) := by decide +kernel
theorem d_Mo_raised_59 : decode b_Mo_raised 59 = .ok (.invokevirtual 91, 3) := by decide +kernel
theorem d_Mo_raised_62 : decode b_Mo_raised 62 = .ok (.aload_n 0, 1) := by decide +kernel
theorem d_Mo_raised_63 : decode b_Mo_raised 63 = .ok (.getfield 34, 3) := by decide +kernel
theorem d_Mo_raised_66 : decode b_Mo_raised 66 = .ok (.aload_n 0, 1) := by decide +kernel
theorem d_Mo_raised_67 : decode b_Mo_raised 67 = .ok (.getfield 55, 3) := by decide +kernel
theorem d_Mo_raised_70 : decode b_Mo_raised 70 = .ok (.invokestatic 84, 3) := by decide +kernel
theorem d_Mo_raised_73 : decode b_Mo_raised 73 = .ok (.iload_n 1, 1) := by decide +kernel
theorem d_Mo_raised_74 : decode b_Mo_raised 74 = .ok (.iload_n 3, 1) := by decide +kernel
theorem d_Mo_raised_75 : decode b_Mo_raised 75 = .ok (.ishr, 1) := by decide +kernel
theorem d_Mo_raised_76 : decode b_Mo_raised 76 = .ok (.iconst 1, 1) := by decide +kernel
theorem d_Mo_raised_77 : decode b_Mo_raised 77 = .ok (.iand, 1) := by decide +kernel
theorem d_Mo_raised_78 : decode b_Mo_raised 78 = .ok (.ifCond .ne 6, 3) := by decide +kernel
theorem d_Mo_raised_81 : decode b_Mo_raised 81 = .ok (.goto 35, 3) := by decide +kernel
theorem d_Mo_raised_84 : decode b_Mo_raised 84 = .ok (.aload_n 0, 1) := by decide +kernel
theorem d_Mo_raised_85 : decode b_Mo_raised 85 = .ok (.aload_n 0, 1) := by decide +kernel
theorem d_Mo_raised_86 : decode b_Mo_raised 86 = .ok (.getfield 55, 3) := by decide +kernel
theorem d_Mo_raised_89 : decode b_Mo_raised 89 = .ok (.aload_n 0, 1) := by decide +kernel
theorem d_Mo_raised_90 : decode b_Mo_raised 90 = .ok (.getfield 52, 3) := by decide +kernel
theorem d_Mo_raised_93 : decode b_Mo_raised 93 = .ok (.invokevirtual 97, 3) := by decide +kernel
theorem d_Mo_raised_96 : decode b_Mo_raised 96 = .ok (.aload_n 0, 1) := by decide +kernel
theorem d_Mo_raised_97 : decode b_Mo_raised 97 = .ok (.aload_n 0, 1) := by decide +kernel
theorem d_Mo_raised_98 : decode b_Mo_raised 98 = .ok (.getfield 37, 3) := by decide +kernel
theorem d_Mo_raised_101 : decode b_Mo_raised 101 = .ok (.aload_n 2, 1) := by decide +kernel
theorem d_Mo_raised_102 : decode b_Mo_raised 102 = .ok (.invokevirtual 91, 3) := by decide +kernel
theorem d_Mo_raised_105 : decode b_Mo_raised 105 = .ok (.aload_n 0, 1) := by decide +kernel
theorem d_Mo_raised_106 : decode b_Mo_raised 106 = .ok (.getfield 34, 3) := by decide +kernel
theorem d_Mo_raised_109 : decode b_Mo_raised 109 = .ok (.aload_n 0, 1) := by decide +kernel
theorem d_Mo_raised_110 : decode b_Mo_raised 110 = .ok (.getfield 55, 3) := by decide +kernel
theorem d_Mo_raised_113 : decode b_Mo_raised 113 = .ok (.invokestatic 84, 3) := by decide +kernel
theorem d_Mo_raised_116 : decode b_Mo_raised 116 = .ok (.iinc 3 (-1), 3) := by decide +kernel
theorem d_Mo_raised_119 : decode b_Mo_raised 119 = .ok (.goto (-82), 3) := by decide +kernel
theorem d_Mo_raised_122 : decode b_Mo_raised 122 = .ok (.return_, 1) := by decide +kernel
abbrev ws_Mo_raised : List Cond := .code y_Mo_raised b_Mo_raised 4 none :: TB
abbrev b_Mo_power : ByteArray := prog_7_method_20_code
theorem d_Mo_power_0 : decode b_Mo_power 0 = .ok (.aload_n 0, 1) := by decide +kernel
theorem d_Mo_power_1 : decode b_Mo_power 1 = .ok (.iload_n 1, 1) := by decide +kernel
theorem d_Mo_power_2 : decode b_Mo_power 2 = .ok (.invokevirtual 73, 3) := by decide +kernel
theorem d_Mo_power_5 : decode b_Mo_power 5 = .ok (.ifCond .ne 51, 3) := by decide +kernel
theorem d_Mo_power_8 : decode b_Mo_power 8 = .ok (.aload_n 0, 1) := by decide +kernel
theorem d_Mo_power_9 : decode b_Mo_power 9 = .ok (.iload_n 2, 1) := by decide +kernel
theorem d_Mo_power_10 : decode b_Mo_power 10 = .ok (.invokevirtual 73, 3) := by decide +kernel
theorem d_Mo_power_13 : decode b_Mo_power 13 = .ok (.ifCond .ne 43, 3) := by decide +kernel
theorem d_Mo_power_16 : decode b_Mo_power 16 = .ok (.aload_n 0, 1) := by decide +kernel
theorem d_Mo_power_17 : decode b_Mo_power 17 = .ok (.iload 4, 2) := by decide +kernel
theorem d_Mo_power_19 : decode b_Mo_power 19 = .ok (.invokevirtual 73, 3) := by decide +kernel
theorem d_Mo_power_22 : decode b_Mo_power 22 = .ok (.ifCond .ne 34, 3) := by decide +kernel
theorem d_Mo_power_25 : decode b_Mo_power 25 = .ok (.aload_n 0, 1) := by decide +kernel
theorem d_Mo_power_26 : decode b_Mo_power 26 = .ok (.iconst 2, 1) := by decide +kernel
theorem d_Mo_power_27 : decode b_Mo_power 27 = .ok (.iload_n 3, 1) := by decide +kernel
theorem d_Mo_power_28 : decode b_Mo_power 28 = .ok (.ifCond .lt 17, 3) := by decide +kernel
theorem d_Mo_power_31 : decode b_Mo_power 31 = .ok (.aload_n 0, 1) := by decide +kernel
theorem d_Mo_power_32 : decode b_Mo_power 32 = .ok (.getfield 18, 3) := by decide +kernel
theorem d_Mo_power_35 : decode b_Mo_power 35 = .ok (.iload 4, 2) := by decide +kernel
theorem d_Mo_power_37 : decode b_Mo_power 37 = .ok (.aaload, 1) := by decide +kernel
theorem d_Mo_power_38 : decode b_Mo_power 38 = .ok (.invokestatic 80, 3) := by decide +kernel
theorem d_Mo_power_41 : decode b_Mo_power 41 = .ok (.iconst 1, 1) := by decide +kernel
theorem d_Mo_power_42 : decode b_Mo_power 42 = .ok (.if_icmp .ge 7, 3) := by decide +kernel
theorem d_Mo_power_45 : decode b_Mo_power 45 = .ok (.iconst 1, 1) := by decide +kernel
theorem d_Mo_power_46 : decode b_Mo_power 46 = .ok (.goto 4, 3) := by decide +kernel
theorem d_Mo_power_49 : decode b_Mo_power 49 = .ok (.iconst 0, 1) := by decide +kernel
theorem d_Mo_power_50 : decode b_Mo_power 50 = .ok (.invokevirtual 61, 3) := by decide +kernel
theorem d_Mo_power_53 : decode b_Mo_power 53 = .ok (.ifCond .eq 5, 3) := by decide +kernel
theorem d_Mo_power_56 : decode b_Mo_power 56 = .ok (.iconst 0, 1) := by decide +kernel
theorem d_Mo_power_57 : decode b_Mo_power 57 = .ok (.ireturn, 1) := by decide +kernel
theorem d_Mo_power_58 : decode b_Mo_power 58 = .ok (.aload_n 0, 1) := by decide +kernel
theorem d_Mo_power_59 : decode b_Mo_power 59 = .ok (.getfield 18, 3) := by decide +kernel
theorem d_Mo_power_62 : decode b_Mo_power 62 = .ok (.iload_n 2, 1) := by decide +kernel
theorem d_Mo_power_63 : decode b_Mo_power 63 = .ok (.aaload, 1) := by decide +kernel
theorem d_Mo_power_64 : decode b_Mo_power 64 = .ok (.aload_n 0, 1) := by decide +kernel
theorem d_Mo_power_65 : decode b_Mo_power 65 = .ok (.getfield 52, 3) := by decide +kernel
theorem d_Mo_power_68 : decode b_Mo_power 68 = .ok (.invokestatic 84, 3) := by decide +kernel
theorem d_Mo_power_71 : decode b_Mo_power 71 = .ok (.aload_n 0, 1) := by decide +kernel
theorem d_Mo_power_72 : decode b_Mo_power 72 = .ok (.iload_n 3, 1) := by decide +kernel
theorem d_Mo_power_73 : decode b_Mo_power 73 = .ok (.aload_n 0, 1) := by decide +kernel
theorem d_Mo_power_74 : decode b_Mo_power 74 = .ok (.getfield 18, 3) := by decide +kernel
theorem d_Mo_power_77 : decode b_Mo_power 77 = .ok (.iload 4, 2) := by decide +kernel
theorem d_Mo_power_79 : decode b_Mo_power 79 = .ok (.aaload, 1) := by decide +kernel
theorem d_Mo_power_80 : decode b_Mo_power 80 = .ok (.invokevirtual 103, 3) := by decide +kernel
theorem d_Mo_power_83 : decode b_Mo_power 83 = .ok (.aload_n 0, 1) := by decide +kernel
theorem d_Mo_power_84 : decode b_Mo_power 84 = .ok (.getfield 55, 3) := by decide +kernel
theorem d_Mo_power_87 : decode b_Mo_power 87 = .ok (.aload_n 0, 1) := by decide +kernel
theorem d_Mo_power_88 : decode b_Mo_power 88 = .ok (.getfield 18, 3) := by decide +kernel
theorem d_Mo_power_91 : decode b_Mo_power 91 = .ok (.iload_n 1, 1) := by decide +kernel
theorem d_Mo_power_92 : decode b_Mo_power 92 = .ok (.aaload, 1) := by decide +kernel
theorem d_Mo_power_93 : decode b_Mo_power 93 = .ok (.invokestatic 84, 3) := by decide +kernel
theorem d_Mo_power_96 : decode b_Mo_power 96 = .ok (.aload_n 0, 1) := by decide +kernel
theorem d_Mo_power_97 : decode b_Mo_power 97 = .ok (.getfield 55, 3) := by decide +kernel
theorem d_Mo_power_100 : decode b_Mo_power 100 = .ok (.invokestatic 80, 3) := by decide +kernel
theorem d_Mo_power_103 : decode b_Mo_power 103 = .ok (.ireturn, 1) := by decide +kernel
abbrev ws_Mo_power : List Cond := .code y_Mo_power b_Mo_power 5 (Option.some .int) :: TB
abbrev b_Mo_inverse : ByteArray := prog_7_method_21_code
theorem d_Mo_inverse_0 : decode b_Mo_inverse 0 = .ok (.aload_n 0, 1) := by decide +kernel
theorem d_Mo_inverse_1 : decode b_Mo_inverse 1 = .ok (.iload_n 1, 1) := by decide +kernel
theorem d_Mo_inverse_2 : decode b_Mo_inverse 2 = .ok (.invokevirtual 73, 3) := by decide +kernel
theorem d_Mo_inverse_5 : decode b_Mo_inverse 5 = .ok (.ifCond .ne 45, 3) := by decide +kernel
theorem d_Mo_inverse_8 : decode b_Mo_inverse 8 = .ok (.aload_n 0, 1) := by decide +kernel
theorem d_Mo_inverse_9 : decode b_Mo_inverse 9 = .ok (.iload_n 2, 1) := by decide +kernel
theorem d_Mo_inverse_10 : decode b_Mo_inverse 10 = .ok (.invokevirtual 73, 3) := by decide +kernel
theorem d_Mo_inverse_13 : decode b_Mo_inverse 13 = .ok (.ifCond .ne 37, 3) := by decide +kernel
theorem d_Mo_inverse_16 : decode b_Mo_inverse 16 = .ok (.aload_n 0, 1) := by decide +kernel
theorem d_Mo_inverse_17 : decode b_Mo_inverse 17 = .ok (.iload_n 3, 1) := by decide +kernel
theorem d_Mo_inverse_18 : decode b_Mo_inverse 18 = .ok (.invokevirtual 73, 3) := by decide +kernel
theorem d_Mo_inverse_21 : decode b_Mo_inverse 21 = .ok (.ifCond .ne 29, 3) := by decide +kernel
theorem d_Mo_inverse_24 : decode b_Mo_inverse 24 = .ok (.aload_n 0, 1) := by decide +kernel
theorem d_Mo_inverse_25 : decode b_Mo_inverse 25 = .ok (.iconst 2, 1) := by decide +kernel
theorem d_Mo_inverse_26 : decode b_Mo_inverse 26 = .ok (.aload_n 0, 1) := by decide +kernel
theorem d_Mo_inverse_27 : decode b_Mo_inverse 27 = .ok (.getfield 18, 3) := by decide +kernel
theorem d_Mo_inverse_30 : decode b_Mo_inverse 30 = .ok (.iload_n 3, 1) := by decide +kernel
theorem d_Mo_inverse_31 : decode b_Mo_inverse 31 = .ok (.aaload, 1) := by decide +kernel
theorem d_Mo_inverse_32 : decode b_Mo_inverse 32 = .ok (.invokestatic 80, 3) := by decide +kernel
theorem d_Mo_inverse_35 : decode b_Mo_inverse 35 = .ok (.iconst 1, 1) := by decide +kernel
theorem d_Mo_inverse_36 : decode b_Mo_inverse 36 = .ok (.if_icmp .ge 7, 3) := by decide +kernel
theorem d_Mo_inverse_39 : decode b_Mo_inverse 39 = .ok (.iconst 1, 1) := by decide +kernel
theorem d_Mo_inverse_40 : decode b_Mo_inverse 40 = .ok (.goto 4, 3) := by decide +kernel
theorem d_Mo_inverse_43 : decode b_Mo_inverse 43 = .ok (.iconst 0, 1) := by decide +kernel
theorem d_Mo_inverse_44 : decode b_Mo_inverse 44 = .ok (.invokevirtual 61, 3) := by decide +kernel
theorem d_Mo_inverse_47 : decode b_Mo_inverse 47 = .ok (.ifCond .eq 5, 3) := by decide +kernel
theorem d_Mo_inverse_50 : decode b_Mo_inverse 50 = .ok (.iconst 0, 1) := by decide +kernel
theorem d_Mo_inverse_51 : decode b_Mo_inverse 51 = .ok (.ireturn, 1) := by decide +kernel
theorem d_Mo_inverse_52 : decode b_Mo_inverse 52 = .ok (.aload_n 0, 1) := by decide +kernel
theorem d_Mo_inverse_53 : decode b_Mo_inverse 53 = .ok (.getfield 18, 3) := by decide +kernel
theorem d_Mo_inverse_56 : decode b_Mo_inverse 56 = .ok (.iload_n 3, 1) := by decide +kernel
theorem d_Mo_inverse_57 : decode b_Mo_inverse 57 = .ok (.aaload, 1) := by decide +kernel
theorem d_Mo_inverse_58 : decode b_Mo_inverse 58 = .ok (.invokestatic 80, 3) := by decide +kernel
theorem d_Mo_inverse_61 : decode b_Mo_inverse 61 = .ok (.istore 4, 2) := by decide +kernel
theorem d_Mo_inverse_63 : decode b_Mo_inverse 63 = .ok (.aload_n 0, 1) := by decide +kernel
theorem d_Mo_inverse_64 : decode b_Mo_inverse 64 = .ok (.getfield 18, 3) := by decide +kernel
theorem d_Mo_inverse_67 : decode b_Mo_inverse 67 = .ok (.iload_n 2, 1) := by decide +kernel
theorem d_Mo_inverse_68 : decode b_Mo_inverse 68 = .ok (.aaload, 1) := by decide +kernel
theorem d_Mo_inverse_69 : decode b_Mo_inverse 69 = .ok (.aload_n 0, 1) := by decide +kernel
theorem d_Mo_inverse_70 : decode b_Mo_inverse 70 = .ok (.getfield 46, 3) := by decide +kernel
theorem d_Mo_inverse_73 : decode b_Mo_inverse 73 = .ok (.invokestatic 84, 3) := by decide +kernel
theorem d_Mo_inverse_76 : decode b_Mo_inverse 76 = .ok (.iconst 0, 1) := by decide +kernel
theorem d_Mo_inverse_77 : decode b_Mo_inverse 77 = .ok (.istore 5, 2) := by decide +kernel
theorem d_Mo_inverse_79 : decode b_Mo_inverse 79 = .ok (.iload 5, 2) := by decide +kernel
theorem d_Mo_inverse_81 : decode b_Mo_inverse 81 = .ok (.iload 4, 2) := by decide +kernel
theorem d_Mo_inverse_83 : decode b_Mo_inverse 83 = .ok (.if_icmp .ge 94, 3) := by decide +kernel
theorem d_Mo_inverse_86 : decode b_Mo_inverse 86 = .ok (.aload_n 0, 1) := by decide +kernel
theorem d_Mo_inverse_87 : decode b_Mo_inverse 87 = .ok (.aload_n 0, 1) := by decide +kernel
theorem d_Mo_inverse_88 : decode b_Mo_inverse 88 = .ok (.getfield 46, 3) := by decide +kernel
theorem d_Mo_inverse_91 : decode b_Mo_inverse 91 = .ok (.aload_n 0, 1) := by decide +kernel
theorem d_Mo_inverse_92 : decode b_Mo_inverse 92 = .ok (.getfield 18, 3) := by decide +kernel
theorem d_Mo_inverse_95 : decode b_Mo_inverse 95 = .ok (.iload_n 3, 1) := by decide +kernel
theorem d_Mo_inverse_96 : decode b_Mo_inverse 96 = .ok (.aaload, 1) := by decide +kernel
theorem d_Mo_inverse_97 : decode b_Mo_inverse 97 = .ok (.invokevirtual 91, 3) := by decide +kernel
theorem d_Mo_inverse_100 : decode b_Mo_inverse 100 = .ok (.iconst 0, 1) := by decide +kernel
theorem d_Mo_inverse_101 : decode b_Mo_inverse 101 = .ok (.istore 6, 2) := by decide +kernel
theorem d_Mo_inverse_103 : decode b_Mo_inverse 103 = .ok (.iload 6, 2) := by decide +kernel
theorem d_Mo_inverse_105 : decode b_Mo_inverse 105 = .ok (.iload 4, 2) := by decide +kernel
theorem d_Mo_inverse_107 : decode b_Mo_inverse 107 = .ok (.if_icmp .ge 26, 3) := by decide +kernel
theorem d_Mo_inverse_110 : decode b_Mo_inverse 110 = .ok (.aload_n 0, 1) := by decide +kernel
theorem d_Mo_inverse_111 : decode b_Mo_inverse 111 = .ok (.getfield 58, 3) := by decide +kernel
theorem d_Mo_inverse_114 : decode b_Mo_inverse 114 = .ok (.iload 6, 2) := by decide +kernel
theorem d_Mo_inverse_116 : decode b_Mo_inverse 116 = .ok (.aaload, 1) := by decide +kernel
theorem d_Mo_inverse_117 : decode b_Mo_inverse 117 = .ok (.iload 5, 2) := by decide +kernel
theorem d_Mo_inverse_119 : decode b_Mo_inverse 119 = .ok (.aload_n 0, 1) := by decide +kernel
theorem d_Mo_inverse_120 : decode b_Mo_inverse 120 = .ok (.getfield 34, 3) := by decide +kernel
theorem d_Mo_inverse_123 : decode b_Mo_inverse 123 = .ok (.iload 6, 2) := by decide +kernel
theorem d_Mo_inverse_125 : decode b_Mo_inverse 125 = .ok (.iaload, 1) := by decide +kernel
theorem d_Mo_inverse_126 : decode b_Mo_inverse 126 = .ok (.iastore, 1) := by decide +kernel
theorem d_Mo_inverse_127 : decode b_Mo_inverse 127 = .ok (.iinc 6 1, 3) := by decide +kernel
theorem d_Mo_inverse_130 : decode b_Mo_inverse 130 = .ok (.goto (-27), 3) := by decide +kernel
theorem d_Mo_inverse_133 : decode b_Mo_inverse 133 = .ok (.bipush 25, 2) := by decide +kernel
theorem d_Mo_inverse_135 : decode b_Mo_inverse 135 = .ok (.istore 6, 2) := by decide +kernel
theorem d_Mo_inverse_137 : decode b_Mo_inverse 137 = .ok (.iload 6, 2) := by decide +kernel
theorem d_Mo_inverse_139 : decode b_Mo_inverse 139 = .ok (.ifCond .le 25, 3) := by decide +kernel
theorem d_Mo_inverse_142 : decode b_Mo_inverse 142 = .ok (.aload_n 0, 1) := by decide +kernel
theorem d_Mo_inverse_143 : decode b_Mo_inverse 143 = .ok (.getfield 46, 3) := by decide +kernel
theorem d_Mo_inverse_146 : decode b_Mo_inverse 146 = .ok (.iload 6, 2) := by decide +kernel
theorem d_Mo_inverse_148 : decode b_Mo_inverse 148 = .ok (.aload_n 0, 1) := by decide +kernel
theorem d_Mo_inverse_149 : decode b_Mo_inverse 149 = .ok (.getfield 34, 3) := by decide +kernel
theorem d_Mo_inverse_152 : decode b_Mo_inverse 152 = .ok (.iload 6, 2) := by decide +kernel
theorem d_Mo_inverse_154 : decode b_Mo_inverse 154 = .ok (.iconst 1, 1) := by decide +kernel
theorem d_Mo_inverse_155 : decode b_Mo_inverse 155 = .ok (.isub, 1) := by decide +kernel
theorem d_Mo_inverse_156 : decode b_Mo_inverse 156 = .ok (.iaload, 1) := by decide +kernel
theorem d_Mo_inverse_157 : decode b_Mo_inverse 157 = .ok (.iastore, 1) := by decide +kernel
theorem d_Mo_inverse_158 : decode b_Mo_inverse 158 = .ok (.iinc 6 (-1), 3) := by decide +kernel
theorem d_Mo_inverse_161 : decode b_Mo_inverse 161 = .ok (.goto (-24), 3) := by decide +kernel
theorem d_Mo_inverse_164 : decode b_Mo_inverse 164 = .ok (.aload_n 0, 1) := by decide +kernel
theorem d_Mo_inverse_165 : decode b_Mo_inverse 165 = .ok (.getfield 46, 3) := by decide +kernel
theorem d_Mo_inverse_168 : decode b_Mo_inverse 168 = .ok (.iconst 0, 1) := by decide +kernel
theorem d_Mo_inverse_169 : decode b_Mo_inverse 169 = .ok (.iconst 0, 1) := by decide +kernel
theorem d_Mo_inverse_170 : decode b_Mo_inverse 170 = .ok (.iastore, 1) := by decide +kernel
theorem d_Mo_inverse_171 : decode b_Mo_inverse 171 = .ok (.iinc 5 1, 3) := by decide +kernel
theorem d_Mo_inverse_174 : decode b_Mo_inverse 174 = .ok (.goto (-95), 3) := by decide +kernel
theorem d_Mo_inverse_177 : decode b_Mo_inverse 177 = .ok (.iconst 0, 1) := by decide +kernel
theorem d_Mo_inverse_178 : decode b_Mo_inverse 178 = .ok (.istore 5, 2) := by decide +kernel
theorem d_Mo_inverse_180 : decode b_Mo_inverse 180 = .ok (.iload 5, 2) := by decide +kernel
theorem d_Mo_inverse_182 : decode b_Mo_inverse 182 = .ok (.iload 4, 2) := by decide +kernel
theorem d_Mo_inverse_184 : decode b_Mo_inverse 184 = .ok (.if_icmp .ge 29, 3) := by decide +kernel
theorem d_Mo_inverse_187 : decode b_Mo_inverse 187 = .ok (.aload_n 0, 1) := by decide +kernel
theorem d_Mo_inverse_188 : decode b_Mo_inverse 188 = .ok (.getfield 58, 3) := by decide +kernel
theorem d_Mo_inverse_191 : decode b_Mo_inverse 191 = .ok (.iload 5, 2) := by decide +kernel
theorem d_Mo_inverse_193 : decode b_Mo_inverse 193 = .ok (.aaload, 1) := by decide +kernel
theorem d_Mo_inverse_194 : decode b_Mo_inverse 194 = .ok (.iload 4, 2) := by decide +kernel
theorem d_Mo_inverse_196 : decode b_Mo_inverse 196 = .ok (.iload 5, 2) := by decide +kernel
theorem d_Mo_inverse_198 : decode b_Mo_inverse 198 = .ok (.ifCond .ne 7, 3) := by decide +kernel
theorem d_Mo_inverse_201 : decode b_Mo_inverse 201 = .ok (.iconst 1, 1) := by decide +kernel
theorem d_Mo_inverse_202 : decode b_Mo_inverse 202 = .ok (.goto 4, 3) := by decide +kernel
theorem d_Mo_inverse_205 : decode b_Mo_inverse 205 = .ok (.iconst 0, 1) := by decide +kernel
theorem d_Mo_inverse_206 : decode b_Mo_inverse 206 = .ok (.iastore, 1) := by decide +kernel
theorem d_Mo_inverse_207 : decode b_Mo_inverse 207 = .ok (.iinc 5 1, 3) := by decide +kernel
theorem d_Mo_inverse_210 : decode b_Mo_inverse 210 = .ok (.goto (-30), 3) := by decide +kernel
theorem d_Mo_inverse_213 : decode b_Mo_inverse 213 = .ok (.iconst 0, 1) := by decide +kernel
theorem d_Mo_inverse_214 : decode b_Mo_inverse 214 = .ok (.istore 5, 2) := by decide +kernel
theorem d_Mo_inverse_216 : decode b_Mo_inverse 216 = .ok (.iload 5, 2) := by decide +kernel
theorem d_Mo_inverse_218 : decode b_Mo_inverse 218 = .ok (.iload 4, 2) := by decide +kernel
theorem d_Mo_inverse_220 : decode b_Mo_inverse 220 = .ok (.if_icmp .ge 225, 3) := by decide +kernel
theorem d_Mo_inverse_223 : decode b_Mo_inverse 223 = .ok (.iload 5, 2) := by decide +kernel
theorem d_Mo_inverse_225 : decode b_Mo_inverse 225 = .ok (.istore 6, 2) := by decide +kernel
theorem d_Mo_inverse_227 : decode b_Mo_inverse 227 = .ok (.iload 6, 2) := by decide +kernel
theorem d_Mo_inverse_229 : decode b_Mo_inverse 229 = .ok (.iload 4, 2) := by decide +kernel
theorem d_Mo_inverse_231 : decode b_Mo_inverse 231 = .ok (.if_icmp .ge 22, 3) := by decide +kernel
theorem d_Mo_inverse_234 : decode b_Mo_inverse 234 = .ok (.aload_n 0, 1) := by decide +kernel
theorem d_Mo_inverse_235 : decode b_Mo_inverse 235 = .ok (.getfield 58, 3) := by decide +kernel
theorem d_Mo_inverse_238 : decode b_Mo_inverse 238 = .ok (.iload 6, 2) := by decide +kernel
theorem d_Mo_inverse_240 : decode b_Mo_inverse 240 = .ok (.aaload, 1) := by decide +kernel
theorem d_Mo_inverse_241 : decode b_Mo_inverse 241 = .ok (.iload 5, 2) := by decide +kernel
theorem d_Mo_inverse_243 : decode b_Mo_inverse 243 = .ok (.iaload, 1) := by decide +kernel
theorem d_Mo_inverse_244 : decode b_Mo_inverse 244 = .ok (.ifCond .ne 9, 3) := by decide +kernel
theorem d_Mo_inverse_247 : decode b_Mo_inverse 247 = .ok (.iinc 6 1, 3) := by decide +kernel
theorem d_Mo_inverse_250 : decode b_Mo_inverse 250 = .ok (.goto (-23), 3) := by decide +kernel
theorem d_Mo_inverse_253 : decode b_Mo_inverse 253 = .ok (.aload_n 0, 1) := by decide +kernel
theorem d_Mo_inverse_254 : decode b_Mo_inverse 254 = .ok (.iconst 3, 1) := by decide +kernel
theorem d_Mo_inverse_255 : decode b_Mo_inverse 255 = .ok (.iload 6, 2) := by decide +kernel
theorem d_Mo_inverse_257 : decode b_Mo_inverse 257 = .ok (.iload 4, 2) := by decide +kernel
theorem d_Mo_inverse_259 : decode b_Mo_inverse 259 = .ok (.if_icmp .ne 7, 3) := by decide +kernel
theorem d_Mo_inverse_262 : decode b_Mo_inverse 262 = .ok (.iconst 1, 1) := by decide +kernel
theorem d_Mo_inverse_263 : decode b_Mo_inverse 263 = .ok (.goto 4, 3) := by decide +kernel
theorem d_Mo_inverse_266 : decode b_Mo_inverse 266 = .ok (.iconst 0, 1) := by decide +kernel
theorem d_Mo_inverse_267 : decode b_Mo_inverse 267 = .ok (.invokevirtual 61, 3) := by decide +kernel
theorem d_Mo_inverse_270 : decode b_Mo_inverse 270 = .ok (.ifCond .eq 5, 3) := by decide +kernel
theorem d_Mo_inverse_273 : decode b_Mo_inverse 273 = .ok (.iconst 0, 1) := by decide +kernel
theorem d_Mo_inverse_274 : decode b_Mo_inverse 274 = .ok (.ireturn, 1) := by decide +kernel
theorem d_Mo_inverse_275 : decode b_Mo_inverse 275 = .ok (.aload_n 0, 1) := by decide +kernel
theorem d_Mo_inverse_276 : decode b_Mo_inverse 276 = .ok (.getfield 58, 3) := by decide +kernel
theorem d_Mo_inverse_279 : decode b_Mo_inverse 279 = .ok (.iload 6, 2) := by decide +kernel
theorem d_Mo_inverse_281 : decode b_Mo_inverse 281 = .ok (.aaload, 1) := by decide +kernel
theorem d_Mo_inverse_282 : decode b_Mo_inverse 282 = .ok (.astore 7, 2) := by decide +kernel
theorem d_Mo_inverse_284 : decode b_Mo_inverse 284 = .ok (.aload_n 0, 1) := by decide +kernel
theorem d_Mo_inverse_285 : decode b_Mo_inverse 285 = .ok (.getfield 58, 3) := by decide +kernel
theorem d_Mo_inverse_288 : decode b_Mo_inverse 288 = .ok (.iload 6, 2) := by decide +kernel
theorem d_Mo_inverse_290 : decode b_Mo_inverse 290 = .ok (.aload_n 0, 1) := by decide +kernel
theorem d_Mo_inverse_291 : decode b_Mo_inverse 291 = .ok (.getfield 58, 3) := by decide +kernel
theorem d_Mo_inverse_294 : decode b_Mo_inverse 294 = .ok (.iload 5, 2) := by decide +kernel
theorem d_Mo_inverse_296 : decode b_Mo_inverse 296 = .ok (.aaload, 1) := by decide +kernel
theorem d_Mo_inverse_297 : decode b_Mo_inverse 297 = .ok (.aastore, 1) := by decide +kernel
theorem d_Mo_inverse_298 : decode b_Mo_inverse 298 = .ok (.aload_n 0, 1) := by decide +kernel
theorem d_Mo_inverse_299 : decode b_Mo_inverse 299 = .ok (.getfield 58, 3) := by decide +kernel
theorem d_Mo_inverse_302 : decode b_Mo_inverse 302 = .ok (.iload 5, 2) := by decide +kernel
theorem d_Mo_inverse_304 : decode b_Mo_inverse 304 = .ok (.aload 7, 2) := by decide +kernel
theorem d_Mo_inverse_306 : decode b_Mo_inverse 306 = .ok (.aastore, 1) := by decide +kernel
theorem d_Mo_inverse_307 : decode b_Mo_inverse 307 = .ok (.aload_n 0, 1) := by decide +kernel
theorem d_Mo_inverse_308 : decode b_Mo_inverse 308 = .ok (.aload 7, 2) := by decide +kernel
theorem d_Mo_inverse_310 : decode b_Mo_inverse 310 = .ok (.iload 5, 2) := by decide +kernel
theorem d_Mo_inverse_312 : decode b_Mo_inverse 312 = .ok (.iaload, 1) := by decide +kernel
theorem d_Mo_inverse_313 : decode b_Mo_inverse 313 = .ok (.invokevirtual 88, 3) := by decide +kernel
theorem d_Mo_inverse_316 : decode b_Mo_inverse 316 = .ok (.istore 8, 2) := by decide +kernel
theorem d_Mo_inverse_318 : decode b_Mo_inverse 318 = .ok (.iconst 0, 1) := by decide +kernel
theorem d_Mo_inverse_319 : decode b_Mo_inverse 319 = .ok (.istore 9, 2) := by decide +kernel
theorem d_Mo_inverse_321 : decode b_Mo_inverse 321 = .ok (.iload 9, 2) := by decide +kernel
theorem d_Mo_inverse_323 : decode b_Mo_inverse 323 = .ok (.iload 4, 2) := by decide +kernel
theorem d_Mo_inverse_325 : decode b_Mo_inverse 325 = .ok (.if_icmp .gt 27, 3) := by decide +kernel
theorem d_Mo_inverse_328 : decode b_Mo_inverse 328 = .ok (.aload 7, 2) := by decide +kernel
theorem d_Mo_inverse_330 : decode b_Mo_inverse 330 = .ok (.iload 9, 2) := by decide +kernel
theorem d_Mo_inverse_332 : decode b_Mo_inverse 332 = .ok (.aload 7, 2) := by decide +kernel
theorem d_Mo_inverse_334 : decode b_Mo_inverse 334 = .ok (.iload 9, 2) := by decide +kernel
theorem d_Mo_inverse_336 : decode b_Mo_inverse 336 = .ok (.iaload, 1) := by decide +kernel
theorem d_Mo_inverse_337 : decode b_Mo_inverse 337 = .ok (.iload 8, 2) := by decide +kernel
theorem d_Mo_inverse_339 : decode b_Mo_inverse 339 = .ok (.imul, 1) := by decide +kernel
theorem d_Mo_inverse_340 : decode b_Mo_inverse 340 = .ok (.aload_n 0, 1) := by decide +kernel
theorem d_Mo_inverse_341 : decode b_Mo_inverse 341 = .ok (.getfield 13, 3) := by decide +kernel
theorem d_Mo_inverse_344 : decode b_Mo_inverse 344 = .ok (.irem, 1) := by decide +kernel
theorem d_Mo_inverse_345 : decode b_Mo_inverse 345 = .ok (.iastore, 1) := by decide +kernel
theorem d_Mo_inverse_346 : decode b_Mo_inverse 346 = .ok (.iinc 9 1, 3) := by decide +kernel
theorem d_Mo_inverse_349 : decode b_Mo_inverse 349 = .ok (.goto (-28), 3) := by decide +kernel
theorem d_Mo_inverse_352 : decode b_Mo_inverse 352 = .ok (.iconst 0, 1) := by decide +kernel
theorem d_Mo_inverse_353 : decode b_Mo_inverse 353 = .ok (.istore 9, 2) := by decide +kernel
theorem d_Mo_inverse_355 : decode b_Mo_inverse 355 = .ok (.iload 9, 2) := by decide +kernel
theorem d_Mo_inverse_357 : decode b_Mo_inverse 357 = .ok (.iload 4, 2) := by decide +kernel
theorem d_Mo_inverse_359 : decode b_Mo_inverse 359 = .ok (.if_icmp .ge 80, 3) := by decide +kernel
theorem d_Mo_inverse_362 : decode b_Mo_inverse 362 = .ok (.iload 9, 2) := by decide +kernel
theorem d_Mo_inverse_364 : decode b_Mo_inverse 364 = .ok (.iload 5, 2) := by decide +kernel
theorem d_Mo_inverse_366 : decode b_Mo_inverse 366 = .ok (.if_icmp .ne 6, 3) := by decide +kernel
theorem d_Mo_inverse_369 : decode b_Mo_inverse 369 = .ok (.goto 64, 3) := by decide +kernel
theorem d_Mo_inverse_372 : decode b_Mo_inverse 372 = .ok (.aload_n 0, 1) := by decide +kernel
theorem d_Mo_inverse_373 : decode b_Mo_inverse 373 = .ok (.getfield 58, 3) := by decide +kernel
theorem d_Mo_inverse_376 : decode b_Mo_inverse 376 = .ok (.iload 9, 2) := by decide +kernel
theorem d_Mo_inverse_378 : decode b_Mo_inverse 378 = .ok (.aaload, 1) := by decide +kernel
theorem d_Mo_inverse_379 : decode b_Mo_inverse 379 = .ok (.iload 5, 2) := by decide +kernel
theorem d_Mo_inverse_381 : decode b_Mo_inverse 381 = .ok (.iaload, 1) := by decide +kernel
theorem d_Mo_inverse_382 : decode b_Mo_inverse 382 = .ok (.istore 10, 2) := by decide +kernel
theorem d_Mo_inverse_384 : decode b_Mo_inverse 384 = .ok (.iconst 0, 1) := by decide +kernel
theorem d_Mo_inverse_385 : decode b_Mo_inverse 385 = .ok (.istore 11, 2) := by decide +kernel
theorem d_Mo_inverse_387 : decode b_Mo_inverse 387 = .ok (.iload 11, 2) := by decide +kernel
theorem d_Mo_inverse_389 : decode b_Mo_inverse 389 = .ok (.iload 4, 2) := by decide +kernel
theorem d_Mo_inverse_391 : decode b_Mo_inverse 391 = .ok (.if_icmp .gt 42, 3) := by decide +kernel
theorem d_Mo_inverse_394 : decode b_Mo_inverse 394 = .ok (.aload_n 0, 1) := by decide +kernel
theorem d_Mo_inverse_395 : decode b_Mo_inverse 395 = .ok (.getfield 58, 3) := by decide +kernel
theorem d_Mo_inverse_398 : decode b_Mo_inverse 398 = .ok (.iload 9, 2) := by decide +kernel
theorem d_Mo_inverse_400 : decode b_Mo_inverse 400 = .ok (.aaload, 1) := by decide +kernel
theorem d_Mo_inverse_401 : decode b_Mo_inverse 401 = .ok (.iload 11, 2) := by decide +kernel
theorem d_Mo_inverse_403 : decode b_Mo_inverse 403 = .ok (.aload_n 0, 1) := by decide +kernel
theorem d_Mo_inverse_404 : decode b_Mo_inverse 404 = .ok (.aload_n 0, 1) := by decide +kernel
theorem d_Mo_inverse_405 : decode b_Mo_inverse 405 = .ok (.getfield 58, 3) := by decide +kernel
theorem d_Mo_inverse_408 : decode b_Mo_inverse 408 = .ok (.iload 9, 2) := by decide +kernel
theorem d_Mo_inverse_410 : decode b_Mo_inverse 410 = .ok (.aaload, 1) := by decide +kernel
theorem d_Mo_inverse_411 : decode b_Mo_inverse 411 = .ok (.iload 11, 2) := by decide +kernel
theorem d_Mo_inverse_413 : decode b_Mo_inverse 413 = .ok (.iaload, 1) := by decide +kernel
theorem d_Mo_inverse_414 : decode b_Mo_inverse 414 = .ok (.iload 10, 2) := by decide +kernel
theorem d_Mo_inverse_416 : decode b_Mo_inverse 416 = .ok (.aload 7, 2) := by decide +kernel
theorem d_Mo_inverse_418 : decode b_Mo_inverse 418 = .ok (.iload 11, 2) := by decide +kernel
theorem d_Mo_inverse_420 : decode b_Mo_inverse 420 = .ok (.iaload, 1) := by decide +kernel
theorem d_Mo_inverse_421 : decode b_Mo_inverse 421 = .ok (.imul, 1) := by decide +kernel
theorem d_Mo_inverse_422 : decode b_Mo_inverse 422 = .ok (.isub, 1) := by decide +kernel
theorem d_Mo_inverse_423 : decode b_Mo_inverse 423 = .ok (.invokevirtual 77, 3) := by decide +kernel
theorem d_Mo_inverse_426 : decode b_Mo_inverse 426 = .ok (.iastore, 1) := by decide +kernel
theorem d_Mo_inverse_427 : decode b_Mo_inverse 427 = .ok (.iinc 11 1, 3) := by decide +kernel
theorem d_Mo_inverse_430 : decode b_Mo_inverse 430 = .ok (.goto (-43), 3) := by decide +kernel
theorem d_Mo_inverse_433 : decode b_Mo_inverse 433 = .ok (.iinc 9 1, 3) := by decide +kernel
theorem d_Mo_inverse_436 : decode b_Mo_inverse 436 = .ok (.goto (-81), 3) := by decide +kernel
theorem d_Mo_inverse_439 : decode b_Mo_inverse 439 = .ok (.iinc 5 1, 3) := by decide +kernel
theorem d_Mo_inverse_442 : decode b_Mo_inverse 442 = .ok (.goto (-226), 3) := by decide +kernel
theorem d_Mo_inverse_445 : decode b_Mo_inverse 445 = .ok (.aload_n 0, 1) := by decide +kernel
theorem d_Mo_inverse_446 : decode b_Mo_inverse 446 = .ok (.getfield 18, 3) := by decide +kernel
theorem d_Mo_inverse_449 : decode b_Mo_inverse 449 = .ok (.iload_n 1, 1) := by decide +kernel
theorem d_Mo_inverse_450 : decode b_Mo_inverse 450 = .ok (.aaload, 1) := by decide +kernel
theorem d_Mo_inverse_451 : decode b_Mo_inverse 451 = .ok (.invokestatic 69, 3) := by decide +kernel
theorem d_Mo_inverse_454 : decode b_Mo_inverse 454 = .ok (.iconst 0, 1) := by decide +kernel
theorem d_Mo_inverse_455 : decode b_Mo_inverse 455 = .ok (.istore 5, 2) := by decide +kernel
theorem d_Mo_inverse_457 : decode b_Mo_inverse 457 = .ok (.iload 5, 2) := by decide +kernel
theorem d_Mo_inverse_459 : decode b_Mo_inverse 459 = .ok (.iload 4, 2) := by decide +kernel
theorem d_Mo_inverse_461 : decode b_Mo_inverse 461 = .ok (.if_icmp .ge 28, 3) := by decide +kernel
theorem d_Mo_inverse_464 : decode b_Mo_inverse 464 = .ok (.aload_n 0, 1) := by decide +kernel
theorem d_Mo_inverse_465 : decode b_Mo_inverse 465 = .ok (.getfield 18, 3) := by decide +kernel
theorem d_Mo_inverse_468 : decode b_Mo_inverse 468 = .ok (.iload_n 1, 1) := by decide +kernel
theorem d_Mo_inverse_469 : decode b_Mo_inverse 469 = .ok (.aaload, 1) := by decide +kernel
theorem d_Mo_inverse_470 : decode b_Mo_inverse 470 = .ok (.iload 5, 2) := by decide +kernel
theorem d_Mo_inverse_472 : decode b_Mo_inverse 472 = .ok (.aload_n 0, 1) := by decide +kernel
theorem d_Mo_inverse_473 : decode b_Mo_inverse 473 = .ok (.getfield 58, 3) := by decide +kernel
theorem d_Mo_inverse_476 : decode b_Mo_inverse 476 = .ok (.iload 5, 2) := by decide +kernel
theorem d_Mo_inverse_478 : decode b_Mo_inverse 478 = .ok (.aaload, 1) := by decide +kernel
theorem d_Mo_inverse_479 : decode b_Mo_inverse 479 = .ok (.iload 4, 2) := by decide +kernel
theorem d_Mo_inverse_481 : decode b_Mo_inverse 481 = .ok (.iaload, 1) := by decide +kernel
theorem d_Mo_inverse_482 : decode b_Mo_inverse 482 = .ok (.iastore, 1) := by decide +kernel
theorem d_Mo_inverse_483 : decode b_Mo_inverse 483 = .ok (.iinc 5 1, 3) := by decide +kernel
theorem d_Mo_inverse_486 : decode b_Mo_inverse 486 = .ok (.goto (-29), 3) := by decide +kernel
theorem d_Mo_inverse_489 : decode b_Mo_inverse 489 = .ok (.aload_n 0, 1) := by decide +kernel
theorem d_Mo_inverse_490 : decode b_Mo_inverse 490 = .ok (.getfield 18, 3) := by decide +kernel
theorem d_Mo_inverse_493 : decode b_Mo_inverse 493 = .ok (.iload_n 1, 1) := by decide +kernel
theorem d_Mo_inverse_494 : decode b_Mo_inverse 494 = .ok (.aaload, 1) := by decide +kernel
theorem d_Mo_inverse_495 : decode b_Mo_inverse 495 = .ok (.invokestatic 80, 3) := by decide +kernel
theorem d_Mo_inverse_498 : decode b_Mo_inverse 498 = .ok (.ireturn, 1) := by decide +kernel
abbrev ws_Mo_inverse : List Cond := .code y_Mo_inverse b_Mo_inverse 12 (Option.some .int) :: TB
abbrev b_Mo_at : ByteArray := prog_7_method_22_code
theorem d_Mo_at_0 : decode b_Mo_at 0 = .ok (.iconst 0, 1) := by decide +kernel
theorem d_Mo_at_1 : decode b_Mo_at 1 = .ok (.istore_n 3, 1) := by decide +kernel
theorem d_Mo_at_2 : decode b_Mo_at 2 = .ok (.bipush 24, 2) := by decide +kernel
theorem d_Mo_at_4 : decode b_Mo_at 4 = .ok (.istore 4, 2) := by decide +kernel
theorem d_Mo_at_6 : decode b_Mo_at 6 = .ok (.iload 4, 2) := by decide +kernel
theorem d_Mo_at_8 : decode b_Mo_at 8 = .ok (.ifCond .lt 23, 3) := by decide +kernel
theorem d_Mo_at_11 : decode b_Mo_at 11 = .ok (.iload_n 3, 1) := by decide +kernel
theorem d_Mo_at_12 : decode b_Mo_at 12 = .ok (.iload_n 2, 1) := by decide +kernel
theorem d_Mo_at_13 : decode b_Mo_at 13 = .ok (.imul, 1) := by decide +kernel
theorem d_Mo_at_14 : decode b_Mo_at 14 = .ok (.aload_n 1, 1) := by decide +kernel
theorem d_Mo_at_15 : decode b_Mo_at 15 = .ok (.iload 4, 2) := by decide +kernel
theorem d_Mo_at_17 : decode b_Mo_at 17 = .ok (.iaload, 1) := by decide +kernel
theorem d_Mo_at_18 : decode b_Mo_at 18 = .ok (.iadd, 1) := by decide +kernel
theorem d_Mo_at_19 : decode b_Mo_at 19 = .ok (.aload_n 0, 1) := by decide +kernel
theorem d_Mo_at_20 : decode b_Mo_at 20 = .ok (.getfield 13, 3) := by decide +kernel
theorem d_Mo_at_23 : decode b_Mo_at 23 = .ok (.irem, 1) := by decide +kernel
theorem d_Mo_at_24 : decode b_Mo_at 24 = .ok (.istore_n 3, 1) := by decide +kernel
theorem d_Mo_at_25 : decode b_Mo_at 25 = .ok (.iinc 4 (-1), 3) := by decide +kernel
theorem d_Mo_at_28 : decode b_Mo_at 28 = .ok (.goto (-22), 3) := by decide +kernel
theorem d_Mo_at_31 : decode b_Mo_at 31 = .ok (.iload_n 3, 1) := by decide +kernel
theorem d_Mo_at_32 : decode b_Mo_at 32 = .ok (.ireturn, 1) := by decide +kernel
abbrev ws_Mo_at : List Cond := .code y_Mo_at b_Mo_at 5 (Option.some .int) :: TB
abbrev b_Mo_value : ByteArray := prog_7_method_23_code
theorem d_Mo_value_0 : decode b_Mo_value 0 = .ok (.aload_n 0, 1) := by decide +kernel
theorem d_Mo_value_1 : decode b_Mo_value 1 = .ok (.iload_n 1, 1) := by decide +kernel
theorem d_Mo_value_2 : decode b_Mo_value 2 = .ok (.invokevirtual 73, 3) := by decide +kernel
theorem d_Mo_value_5 : decode b_Mo_value 5 = .ok (.ifCond .eq 5, 3) := by decide +kernel
theorem d_Mo_value_8 : decode b_Mo_value 8 = .ok (.iconst 0, 1) := by decide +kernel
theorem d_Mo_value_9 : decode b_Mo_value 9 = .ok (.ireturn, 1) := by decide +kernel
theorem d_Mo_value_10 : decode b_Mo_value 10 = .ok (.aload_n 0, 1) := by decide +kernel
theorem d_Mo_value_11 : decode b_Mo_value 11 = .ok (.aload_n 0, 1) := by decide +kernel
theorem d_Mo_value_12 : decode b_Mo_value 12 = .ok (.getfield 18, 3) := by decide +kernel
theorem d_Mo_value_15 : decode b_Mo_value 15 = .ok (.iload_n 1, 1) := by decide +kernel
theorem d_Mo_value_16 : decode b_Mo_value 16 = .ok (.aaload, 1) := by decide +kernel
theorem d_Mo_value_17 : decode b_Mo_value 17 = .ok (.aload_n 0, 1) := by decide +kernel
theorem d_Mo_value_18 : decode b_Mo_value 18 = .ok (.iload_n 2, 1) := by decide +kernel
theorem d_Mo_value_19 : decode b_Mo_value 19 = .ok (.invokevirtual 77, 3) := by decide +kernel
theorem d_Mo_value_22 : decode b_Mo_value 22 = .ok (.invokevirtual 107, 3) := by decide +kernel
theorem d_Mo_value_25 : decode b_Mo_value 25 = .ok (.ireturn, 1) := by decide +kernel
abbrev ws_Mo_value : List Cond := .code y_Mo_value b_Mo_value 3 (Option.some .int) :: TB
abbrev b_Mo_zeros : ByteArray := prog_7_method_24_code
theorem d_Mo_zeros_0 : decode b_Mo_zeros 0 = .ok (.aload_n 0, 1) := by decide +kernel
theorem d_Mo_zeros_1 : decode b_Mo_zeros 1 = .ok (.iload_n 1, 1) := by decide +kernel
theorem d_Mo_zeros_2 : decode b_Mo_zeros 2 = .ok (.invokevirtual 73, 3) := by decide +kernel
theorem d_Mo_zeros_5 : decode b_Mo_zeros 5 = .ok (.ifCond .eq 5, 3) := by decide +kernel
theorem d_Mo_zeros_8 : decode b_Mo_zeros 8 = .ok (.iconst 0, 1) := by decide +kernel
theorem d_Mo_zeros_9 : decode b_Mo_zeros 9 = .ok (.ireturn, 1) := by decide +kernel
theorem d_Mo_zeros_10 : decode b_Mo_zeros 10 = .ok (.iconst 0, 1) := by decide +kernel
theorem d_Mo_zeros_11 : decode b_Mo_zeros 11 = .ok (.istore_n 2, 1) := by decide +kernel
theorem d_Mo_zeros_12 : decode b_Mo_zeros 12 = .ok (.iconst 0, 1) := by decide +kernel
theorem d_Mo_zeros_13 : decode b_Mo_zeros 13 = .ok (.istore_n 3, 1) := by decide +kernel
theorem d_Mo_zeros_14 : decode b_Mo_zeros 14 = .ok (.iload_n 3, 1) := by decide +kernel
theorem d_Mo_zeros_15 : decode b_Mo_zeros 15 = .ok (.aload_n 0, 1) := by decide +kernel
theorem d_Mo_zeros_16 : decode b_Mo_zeros 16 = .ok (.getfield 13, 3) := by decide +kernel
theorem d_Mo_zeros_19 : decode b_Mo_zeros 19 = .ok (.if_icmp .ge 26, 3) := by decide +kernel
theorem d_Mo_zeros_22 : decode b_Mo_zeros 22 = .ok (.aload_n 0, 1) := by decide +kernel
theorem d_Mo_zeros_23 : decode b_Mo_zeros 23 = .ok (.aload_n 0, 1) := by decide +kernel
theorem d_Mo_zeros_24 : decode b_Mo_zeros 24 = .ok (.getfield 18, 3) := by decide +kernel
theorem d_Mo_zeros_27 : decode b_Mo_zeros 27 = .ok (.iload_n 1, 1) := by decide +kernel
theorem d_Mo_zeros_28 : decode b_Mo_zeros 28 = .ok (.aaload, 1) := by decide +kernel
theorem d_Mo_zeros_29 : decode b_Mo_zeros 29 = .ok (.iload_n 3, 1) := by decide +kernel
theorem d_Mo_zeros_30 : decode b_Mo_zeros 30 = .ok (.invokevirtual 107, 3) := by decide +kernel
theorem d_Mo_zeros_33 : decode b_Mo_zeros 33 = .ok (.ifCond .ne 6, 3) := by decide +kernel
theorem d_Mo_zeros_36 : decode b_Mo_zeros 36 = .ok (.iinc 2 1, 3) := by decide +kernel
theorem d_Mo_zeros_39 : decode b_Mo_zeros 39 = .ok (.iinc 3 1, 3) := by decide +kernel
theorem d_Mo_zeros_42 : decode b_Mo_zeros 42 = .ok (.goto (-28), 3) := by decide +kernel
theorem d_Mo_zeros_45 : decode b_Mo_zeros 45 = .ok (.iload_n 2, 1) := by decide +kernel
theorem d_Mo_zeros_46 : decode b_Mo_zeros 46 = .ok (.ireturn, 1) := by decide +kernel
abbrev ws_Mo_zeros : List Cond := .code y_Mo_zeros b_Mo_zeros 4 (Option.some .int) :: TB
abbrev b_Mo_divides : ByteArray := prog_7_method_25_code
theorem d_Mo_divides_0 : decode b_Mo_divides 0 = .ok (.aload_n 0, 1) := by decide +kernel
theorem d_Mo_divides_1 : decode b_Mo_divides 1 = .ok (.aload_n 1, 1) := by decide +kernel
theorem d_Mo_divides_2 : decode b_Mo_divides 2 = .ok (.aload_n 2, 1) := by decide +kernel
theorem d_Mo_divides_3 : decode b_Mo_divides 3 = .ok (.invokevirtual 91, 3) := by decide +kernel
theorem d_Mo_divides_6 : decode b_Mo_divides 6 = .ok (.aload_n 0, 1) := by decide +kernel
theorem d_Mo_divides_7 : decode b_Mo_divides 7 = .ok (.getfield 34, 3) := by decide +kernel
theorem d_Mo_divides_10 : decode b_Mo_divides 10 = .ok (.invokestatic 80, 3) := by decide +kernel
theorem d_Mo_divides_13 : decode b_Mo_divides 13 = .ok (.ifCond .ge 7, 3) := by decide +kernel
theorem d_Mo_divides_16 : decode b_Mo_divides 16 = .ok (.iconst 1, 1) := by decide +kernel
theorem d_Mo_divides_17 : decode b_Mo_divides 17 = .ok (.goto 4, 3) := by decide +kernel
theorem d_Mo_divides_20 : decode b_Mo_divides 20 = .ok (.iconst 0, 1) := by decide +kernel
theorem d_Mo_divides_21 : decode b_Mo_divides 21 = .ok (.ireturn, 1) := by decide +kernel
abbrev ws_Mo_divides : List Cond := .code y_Mo_divides b_Mo_divides 3 (Option.some .boolean) :: TB
abbrev b_Mo_factor : ByteArray := prog_7_method_26_code
theorem d_Mo_factor_0 : decode b_Mo_factor 0 = .ok (.aload_n 0, 1) := by decide +kernel
theorem d_Mo_factor_1 : decode b_Mo_factor 1 = .ok (.iload_n 1, 1) := by decide +kernel
theorem d_Mo_factor_2 : decode b_Mo_factor 2 = .ok (.invokevirtual 73, 3) := by decide +kernel
theorem d_Mo_factor_5 : decode b_Mo_factor 5 = .ok (.ifCond .ne 47, 3) := by decide +kernel
theorem d_Mo_factor_8 : decode b_Mo_factor 8 = .ok (.aload_n 0, 1) := by decide +kernel
theorem d_Mo_factor_9 : decode b_Mo_factor 9 = .ok (.iconst 2, 1) := by decide +kernel
theorem d_Mo_factor_10 : decode b_Mo_factor 10 = .ok (.aload_n 0, 1) := by decide +kernel
theorem d_Mo_factor_11 : decode b_Mo_factor 11 = .ok (.getfield 18, 3) := by decide +kernel
theorem d_Mo_factor_14 : decode b_Mo_factor 14 = .ok (.iload_n 1, 1) := by decide +kernel
theorem d_Mo_factor_15 : decode b_Mo_factor 15 = .ok (.aaload, 1) := by decide +kernel
theorem d_Mo_factor_16 : decode b_Mo_factor 16 = .ok (.invokestatic 80, 3) := by decide +kernel
theorem d_Mo_factor_19 : decode b_Mo_factor 19 = .ok (.ifCond .lt 22, 3) := by decide +kernel
theorem d_Mo_factor_22 : decode b_Mo_factor 22 = .ok (.aload_n 0, 1) := by decide +kernel
theorem d_Mo_factor_23 : decode b_Mo_factor 23 = .ok (.getfield 18, 3) := by decide +kernel
theorem d_Mo_factor_26 : decode b_Mo_factor 26 = .ok (.iload_n 1, 1) := by decide +kernel
theorem d_Mo_factor_27 : decode b_Mo_factor 27 = .ok (.aaload, 1) := by decide +kernel
theorem d_Mo_factor_28 : decode b_Mo_factor 28 = .ok (.invokestatic 80, 3) := by decide +kernel
theorem d_Mo_factor_31 : decode b_Mo_factor 31 = .ok (.aload_n 0, 1) := by decide +kernel
theorem d_Mo_factor_32 : decode b_Mo_factor 32 = .ok (.getfield 13, 3) := by decide +kernel
theorem d_Mo_factor_35 : decode b_Mo_factor 35 = .ok (.invokestatic 65, 3) := by decide +kernel
theorem d_Mo_factor_38 : decode b_Mo_factor 38 = .ok (.if_icmp .le 7, 3) := by decide +kernel
theorem d_Mo_factor_41 : decode b_Mo_factor 41 = .ok (.iconst 1, 1) := by decide +kernel
theorem d_Mo_factor_42 : decode b_Mo_factor 42 = .ok (.goto 4, 3) := by decide +kernel
theorem d_Mo_factor_45 : decode b_Mo_factor 45 = .ok (.iconst 0, 1) := by decide +kernel
theorem d_Mo_factor_46 : decode b_Mo_factor 46 = .ok (.invokevirtual 61, 3) := by decide +kernel
theorem d_Mo_factor_49 : decode b_Mo_factor 49 = .ok (.ifCond .eq 5, 3) := by decide +kernel
theorem d_Mo_factor_52 : decode b_Mo_factor 52 = .ok (.iconst 0, 1) := by decide +kernel
theorem d_Mo_factor_53 : decode b_Mo_factor 53 = .ok (.ireturn, 1) := by decide +kernel
theorem d_Mo_factor_54 : decode b_Mo_factor 54 = .ok (.aload_n 0, 1) := by decide +kernel
theorem d_Mo_factor_55 : decode b_Mo_factor 55 = .ok (.getfield 18, 3) := by decide +kernel
theorem d_Mo_factor_58 : decode b_Mo_factor 58 = .ok (.iload_n 1, 1) := by decide +kernel
theorem d_Mo_factor_59 : decode b_Mo_factor 59 = .ok (.aaload, 1) := by decide +kernel
theorem d_Mo_factor_60 : decode b_Mo_factor 60 = .ok (.aload_n 0, 1) := by decide +kernel
theorem d_Mo_factor_61 : decode b_Mo_factor 61 = .ok (.getfield 46, 3) := by decide +kernel
theorem d_Mo_factor_64 : decode b_Mo_factor 64 = .ok (.invokestatic 84, 3) := by decide +kernel
theorem d_Mo_factor_67 : decode b_Mo_factor 67 = .ok (.aload_n 0, 1) := by decide +kernel
theorem d_Mo_factor_68 : decode b_Mo_factor 68 = .ok (.aload_n 0, 1) := by decide +kernel
theorem d_Mo_factor_69 : decode b_Mo_factor 69 = .ok (.getfield 46, 3) := by decide +kernel
theorem d_Mo_factor_72 : decode b_Mo_factor 72 = .ok (.invokevirtual 94, 3) := by decide +kernel
theorem d_Mo_factor_75 : decode b_Mo_factor 75 = .ok (.aload_n 0, 1) := by decide +kernel
theorem d_Mo_factor_76 : decode b_Mo_factor 76 = .ok (.iconst 0, 1) := by decide +kernel
theorem d_Mo_factor_77 : decode b_Mo_factor 77 = .ok (.putfield 28, 3) := by decide +kernel
theorem d_Mo_factor_80 : decode b_Mo_factor 80 = .ok (.iconst 1, 1) := by decide +kernel
theorem d_Mo_factor_81 : decode b_Mo_factor 81 = .ok (.istore_n 2, 1) := by decide +kernel
theorem d_Mo_factor_82 : decode b_Mo_factor 82 = .ok (.iconst 2, 1) := by decide +kernel
theorem d_Mo_factor_83 : decode b_Mo_factor 83 = .ok (.iload_n 2, 1) := by decide +kernel
theorem d_Mo_factor_84 : decode b_Mo_factor 84 = .ok (.imul, 1) := by decide +kernel
theorem d_Mo_factor_85 : decode b_Mo_factor 85 = .ok (.aload_n 0, 1) := by decide +kernel
theorem d_Mo_factor_86 : decode b_Mo_factor 86 = .ok (.getfield 46, 3) := by decide +kernel
theorem d_Mo_factor_89 : decode b_Mo_factor 89 = .ok (.invokestatic 80, 3) := by decide +kernel
theorem d_Mo_factor_92 : decode b_Mo_factor 92 = .ok (.if_icmp .gt 14, 3) := by decide +kernel
theorem d_Mo_factor_95 : decode b_Mo_factor 95 = .ok (.aload_n 0, 1) := by decide +kernel
theorem d_Mo_factor_96 : decode b_Mo_factor 96 = .ok (.iload_n 2, 1) := by decide +kernel
theorem d_Mo_factor_97 : decode b_Mo_factor 97 = .ok (.invokevirtual 111, 3) := by decide +kernel
theorem d_Mo_factor_100 : decode b_Mo_factor 100 = .ok (.iinc 2 1, 3) := by decide +kernel
theorem d_Mo_factor_103 : decode b_Mo_factor 103 = .ok (.goto (-21), 3) := by decide +kernel
theorem d_Mo_factor_106 : decode b_Mo_factor 106 = .ok (.aload_n 0, 1) := by decide +kernel
theorem d_Mo_factor_107 : decode b_Mo_factor 107 = .ok (.getfield 46, 3) := by decide +kernel
theorem d_Mo_factor_110 : decode b_Mo_factor 110 = .ok (.invokestatic 80, 3) := by decide +kernel
theorem d_Mo_factor_113 : decode b_Mo_factor 113 = .ok (.ifCond .le 12, 3) := by decide +kernel
theorem d_Mo_factor_116 : decode b_Mo_factor 116 = .ok (.aload_n 0, 1) := by decide +kernel
theorem d_Mo_factor_117 : decode b_Mo_factor 117 = .ok (.aload_n 0, 1) := by decide +kernel
theorem d_Mo_factor_118 : decode b_Mo_factor 118 = .ok (.getfield 46, 3) := by decide +kernel
theorem d_Mo_factor_121 : decode b_Mo_factor 121 = .ok (.iconst 1, 1) := by decide +kernel
theorem d_Mo_factor_122 : decode b_Mo_factor 122 = .ok (.invokevirtual 115, 3) := by decide +kernel
theorem d_Mo_factor_125 : decode b_Mo_factor 125 = .ok (.aload_n 0, 1) := by decide +kernel
theorem d_Mo_factor_126 : decode b_Mo_factor 126 = .ok (.getfield 28, 3) := by decide +kernel
theorem d_Mo_factor_129 : decode b_Mo_factor 129 = .ok (.ireturn, 1) := by decide +kernel
abbrev ws_Mo_factor : List Cond := .code y_Mo_factor b_Mo_factor 3 (Option.some .int) :: TB
abbrev b_Mo_same : ByteArray := prog_7_method_27_code
theorem d_Mo_same_0 : decode b_Mo_same 0 = .ok (.iconst 0, 1) := by decide +kernel
theorem d_Mo_same_1 : decode b_Mo_same 1 = .ok (.istore_n 2, 1) := by decide +kernel
theorem d_Mo_same_2 : decode b_Mo_same 2 = .ok (.iload_n 2, 1) := by decide +kernel
theorem d_Mo_same_3 : decode b_Mo_same 3 = .ok (.bipush 50, 2) := by decide +kernel
theorem d_Mo_same_5 : decode b_Mo_same 5 = .ok (.if_icmp .ge 20, 3) := by decide +kernel
theorem d_Mo_same_8 : decode b_Mo_same 8 = .ok (.aload_n 0, 1) := by decide +kernel
theorem d_Mo_same_9 : decode b_Mo_same 9 = .ok (.iload_n 2, 1) := by decide +kernel
theorem d_Mo_same_10 : decode b_Mo_same 10 = .ok (.iaload, 1) := by decide +kernel
theorem d_Mo_same_11 : decode b_Mo_same 11 = .ok (.aload_n 1, 1) := by decide +kernel
theorem d_Mo_same_12 : decode b_Mo_same 12 = .ok (.iload_n 2, 1) := by decide +kernel
theorem d_Mo_same_13 : decode b_Mo_same 13 = .ok (.iaload, 1) := by decide +kernel
theorem d_Mo_same_14 : decode b_Mo_same 14 = .ok (.if_icmp .eq 5, 3) := by decide +kernel
theorem d_Mo_same_17 : decode b_Mo_same 17 = .ok (.iconst 0, 1) := by decide +kernel
theorem d_Mo_same_18 : decode b_Mo_same 18 = .ok (.ireturn, 1) := by decide +kernel
theorem d_Mo_same_19 : decode b_Mo_same 19 = .ok (.iinc 2 1, 3) := by decide +kernel
theorem d_Mo_same_22 : decode b_Mo_same 22 = .ok (.goto (-20), 3) := by decide +kernel
theorem d_Mo_same_25 : decode b_Mo_same 25 = .ok (.iconst 1, 1) := by decide +kernel
theorem d_Mo_same_26 : decode b_Mo_same 26 = .ok (.ireturn, 1) := by decide +kernel
abbrev ws_Mo_same : List Cond := .code y_Mo_same b_Mo_same 3 (Option.some .boolean) :: TB
abbrev b_Mo_before : ByteArray := prog_7_method_28_code
theorem d_Mo_before_0 : decode b_Mo_before 0 = .ok (.aload_n 0, 1) := by decide +kernel
theorem d_Mo_before_1 : decode b_Mo_before 1 = .ok (.invokestatic 80, 3) := by decide +kernel
theorem d_Mo_before_4 : decode b_Mo_before 4 = .ok (.aload_n 1, 1) := by decide +kernel
theorem d_Mo_before_5 : decode b_Mo_before 5 = .ok (.invokestatic 80, 3) := by decide +kernel
theorem d_Mo_before_8 : decode b_Mo_before 8 = .ok (.if_icmp .eq 20, 3) := by decide +kernel
theorem d_Mo_before_11 : decode b_Mo_before 11 = .ok (.aload_n 0, 1) := by decide +kernel
theorem d_Mo_before_12 : decode b_Mo_before 12 = .ok (.invokestatic 80, 3) := by decide +kernel
theorem d_Mo_before_15 : decode b_Mo_before 15 = .ok (.aload_n 1, 1) := by decide +kernel
theorem d_Mo_before_16 : decode b_Mo_before 16 = .ok (.invokestatic 80, 3) := by decide +kernel
theorem d_Mo_before_19 : decode b_Mo_before 19 = .ok (.if_icmp .ge 7, 3) := by decide +kernel
theorem d_Mo_before_22 : decode b_Mo_before 22 = .ok (.iconst 1, 1) := by decide +kernel
theorem d_Mo_before_23 : decode b_Mo_before 23 = .ok (.goto 4, 3) := by decide +kernel
theorem d_Mo_before_26 : decode b_Mo_before 26 = .ok (.iconst 0, 1) := by decide +kernel
theorem d_Mo_before_27 : decode b_Mo_before 27 = .ok (.ireturn, 1) := by decide +kernel
theorem d_Mo_before_28 : decode b_Mo_before 28 = .ok (.bipush 49, 2) := by decide +kernel
theorem d_Mo_before_30 : decode b_Mo_before 30 = .ok (.istore_n 2, 1) := by decide +kernel
theorem d_Mo_before_31 : decode b_Mo_before 31 = .ok (.iload_n 2, 1) := by decide +kernel
theorem d_Mo_before_32 : decode b_Mo_before 32 = .ok (.ifCond .le 18, 3) := by decide +kernel
theorem d_Mo_before_35 : decode b_Mo_before 35 = .ok (.aload_n 0, 1) := by decide +kernel
theorem d_Mo_before_36 : decode b_Mo_before 36 = .ok (.iload_n 2, 1) := by decide +kernel
theorem d_Mo_before_37 : decode b_Mo_before 37 = .ok (.iaload, 1) := by decide +kernel
theorem d_Mo_before_38 : decode b_Mo_before 38 = .ok (.aload_n 1, 1) := by decide +kernel
theorem d_Mo_before_39 : decode b_Mo_before 39 = .ok (.iload_n 2, 1) := by decide +kernel
theorem d_Mo_before_40 : decode b_Mo_before 40 = .ok (.iaload, 1) := by decide +kernel
theorem d_Mo_before_41 : decode b_Mo_before 41 = .ok (.if_icmp .ne 9, 3) := by decide +kernel
theorem d_Mo_before_44 : decode b_Mo_before 44 = .ok (.iinc 2 (-1), 3) := by decide +kernel
theorem d_Mo_before_47 : decode b_Mo_before 47 = .ok (.goto (-16), 3) := by decide +kernel
theorem d_Mo_before_50 : decode b_Mo_before 50 = .ok (.aload_n 0, 1) := by decide +kernel
theorem d_Mo_before_51 : decode b_Mo_before 51 = .ok (.iload_n 2, 1) := by decide +kernel
theorem d_Mo_before_52 : decode b_Mo_before 52 = .ok (.iaload, 1) := by decide +kernel
theorem d_Mo_before_53 : decode b_Mo_before 53 = .ok (.aload_n 1, 1) := by decide +kernel
theorem d_Mo_before_54 : decode b_Mo_before 54 = .ok (.iload_n 2, 1) := by decide +kernel
theorem d_Mo_before_55 : decode b_Mo_before 55 = .ok (.iaload, 1) := by decide +kernel
theorem d_Mo_before_56 : decode b_Mo_before 56 = .ok (.if_icmp .ge 7, 3) := by decide +kernel
theorem d_Mo_before_59 : decode b_Mo_before 59 = .ok (.iconst 1, 1) := by decide +kernel
theorem d_Mo_before_60 : decode b_Mo_before 60 = .ok (.goto 4, 3) := by decide +kernel
theorem d_Mo_before_63 : decode b_Mo_before 63 = .ok (.iconst 0, 1) := by decide +kernel
theorem d_Mo_before_64 : decode b_Mo_before 64 = .ok (.ireturn, 1) := by decide +kernel
abbrev ws_Mo_before : List Cond := .code y_Mo_before b_Mo_before 3 (Option.some .boolean) :: TB
abbrev b_Mo_note : ByteArray := prog_7_method_29_code
theorem d_Mo_note_0 : decode b_Mo_note 0 = .ok (.iconst 0, 1) := by decide +kernel
theorem d_Mo_note_1 : decode b_Mo_note 1 = .ok (.istore_n 3, 1) := by decide +kernel
theorem d_Mo_note_2 : decode b_Mo_note 2 = .ok (.iload_n 3, 1) := by decide +kernel
theorem d_Mo_note_3 : decode b_Mo_note 3 = .ok (.aload_n 0, 1) := by decide +kernel
theorem d_Mo_note_4 : decode b_Mo_note 4 = .ok (.getfield 28, 3) := by decide +kernel
theorem d_Mo_note_7 : decode b_Mo_note 7 = .ok (.if_icmp .ge 36, 3) := by decide +kernel
theorem d_Mo_note_10 : decode b_Mo_note 10 = .ok (.aload_n 0, 1) := by decide +kernel
theorem d_Mo_note_11 : decode b_Mo_note 11 = .ok (.getfield 21, 3) := by decide +kernel
theorem d_Mo_note_14 : decode b_Mo_note 14 = .ok (.iload_n 3, 1) := by decide +kernel
theorem d_Mo_note_15 : decode b_Mo_note 15 = .ok (.aaload, 1) := by decide +kernel
theorem d_Mo_note_16 : decode b_Mo_note 16 = .ok (.aload_n 1, 1) := by decide +kernel
theorem d_Mo_note_17 : decode b_Mo_note 17 = .ok (.invokestatic 119, 3) := by decide +kernel
theorem d_Mo_note_20 : decode b_Mo_note 20 = .ok (.ifCond .ne 6, 3) := by decide +kernel
theorem d_Mo_note_23 : decode b_Mo_note 23 = .ok (.goto 14, 3) := by decide +kernel
theorem d_Mo_note_26 : decode b_Mo_note 26 = .ok (.aload_n 0, 1) := by decide +kernel
theorem d_Mo_note_27 : decode b_Mo_note 27 = .ok (.getfield 24, 3) := by decide +kernel
theorem d_Mo_note_30 : decode b_Mo_note 30 = .ok (.iload_n 3, 1) := by decide +kernel
theorem d_Mo_note_31 : decode b_Mo_note 31 = .ok (.dup2, 1) := by decide +kernel
theorem d_Mo_note_32 : decode b_Mo_note 32 = .ok (.iaload, 1) := by decide +kernel
theorem d_Mo_note_33 : decode b_Mo_note 33 = .ok (.iload_n 2, 1) := by decide +kernel
theorem d_Mo_note_34 : decode b_Mo_note 34 = .ok (.iadd, 1) := by decide +kernel
theorem d_Mo_note_35 : decode b_Mo_note 35 = .ok (.iastore, 1) := by decide +kernel
theorem d_Mo_note_36 : decode b_Mo_note 36 = .ok (.return_, 1) := by decide +kernel
theorem d_Mo_note_37 : decode b_Mo_note 37 = .ok (.iinc 3 1, 3) := by decide +kernel
theorem d_Mo_note_40 : decode b_Mo_note 40 = .ok (.goto (-38), 3) := by decide +kernel
theorem d_Mo_note_43 : decode b_Mo_note 43 = .ok (.aload_n 0, 1) := by decide +kernel
theorem d_Mo_note_44 : decode b_Mo_note 44 = .ok (.dup, 1) := by decide +kernel
theorem d_Mo_note_45 : decode b_Mo_note 45 = .ok (.getfield 28, 3) := by decide +kernel
theorem d_Mo_note_48 : decode b_Mo_note 48 = .ok (.dup_x1, 1) := by decide +kernel
theorem d_Mo_note_49 : decode b_Mo_note 49 = .ok (.iconst 1, 1) := by decide +kernel
theorem d_Mo_note_50 : decode b_Mo_note 50 = .ok (.iadd, 1) := by decide +kernel
theorem d_Mo_note_51 : decode b_Mo_note 51 = .ok (.putfield 28, 3) := by decide +kernel
theorem d_Mo_note_54 : decode b_Mo_note 54 = .ok (.istore_n 3, 1) := by decide +kernel
theorem d_Mo_note_55 : decode b_Mo_note 55 = .ok (.iload_n 3, 1) := by decide +kernel
theorem d_Mo_note_56 : decode b_Mo_note 56 = .ok (.ifCond .le 55, 3) := by decide +kernel
theorem d_Mo_note_59 : decode b_Mo_note 59 = .ok (.aload_n 1, 1) := by decide +kernel
theorem d_Mo_note_60 : decode b_Mo_note 60 = .ok (.aload_n 0, 1) := by decide +kernel
theorem d_Mo_note_61 : decode b_Mo_note 61 = .ok (.getfield 21, 3) := by decide +kernel
theorem d_Mo_note_64 : decode b_Mo_note 64 = .ok (.iload_n 3, 1) := by decide +kernel
theorem d_Mo_note_65 : decode b_Mo_note 65 = .ok (.iconst 1, 1) := by decide +kernel
theorem d_Mo_note_66 : decode b_Mo_note 66 = .ok (.isub, 1) := by decide +kernel
theorem d_Mo_note_67 : decode b_Mo_note 67 = .ok (.aaload, 1) := by decide +kernel
theorem d_Mo_note_68 : decode b_Mo_note 68 = .ok (.invokestatic 123, 3) := by decide +kernel
theorem d_Mo_note_71 : decode b_Mo_note 71 = .ok (.ifCond .eq 40, 3) := by decide +kernel
theorem d_Mo_note_74 : decode b_Mo_note 74 = .ok (.aload_n 0, 1) := by decide +kernel
theorem d_Mo_note_75 : decode b_Mo_note 75 = .ok (.getfield 21, 3) := by decide +kernel
theorem d_Mo_note_78 : decode b_Mo_note 78 = .ok (.iload_n 3, 1) := by decide +kernel
theorem d_Mo_note_79 : decode b_Mo_note 79 = .ok (.iconst 1, 1) := by decide +kernel
theorem d_Mo_note_80 : decode b_Mo_note 80 = .ok (.isub, 1) := by decide +kernel
theorem d_Mo_note_81 : decode b_Mo_note 81 = .ok (.aaload, 1) := by decide +kernel
theorem d_Mo_note_82 : decode b_Mo_note 82 = .ok (.aload_n 0, 1) := by decide +kernel
theorem d_Mo_note_83 : decode b_Mo_note 83 = .ok (.getfield 21, 3) := by decide +kernel
theorem d_Mo_note_86 : decode b_Mo_note 86 = .ok (.iload_n 3, 1) := by decide +kernel
theorem d_Mo_note_87 : decode b_Mo_note 87 = .ok (.aaload, 1) := by decide +kernel
theorem d_Mo_note_88 : decode b_Mo_note 88 = .ok (.invokestatic 84, 3) := by decide +kernel
theorem d_Mo_note_91 : decode b_Mo_note 91 = .ok (.aload_n 0, 1) := by decide +kernel
theorem d_Mo_note_92 : decode b_Mo_note 92 = .ok (.getfield 24, 3) := by decide +kernel
theorem d_Mo_note_95 : decode b_Mo_note 95 = .ok (.iload_n 3, 1) := by decide +kernel
theorem d_Mo_note_96 : decode b_Mo_note 96 = .ok (.aload_n 0, 1) := by decide +kernel
theorem d_Mo_note_97 : decode b_Mo_note 97 = .ok (.getfield 24, 3) := by decide +kernel
theorem d_Mo_note_100 : decode b_Mo_note 100 = .ok (.iload_n 3, 1) := by decide +kernel
theorem d_Mo_note_101 : decode b_Mo_note 101 = .ok (.iconst 1, 1) := by decide +kernel
theorem d_Mo_note_102 : decode b_Mo_note 102 = .ok (.isub, 1) := by decide +kernel
theorem d_Mo_note_103 : decode b_Mo_note 103 = .ok (.iaload, 1) := by decide +kernel
theorem d_Mo_note_104 : decode b_Mo_note 104 = .ok (.iastore, 1) := by decide +kernel
theorem d_Mo_note_105 : decode b_Mo_note 105 = .ok (.iinc 3 (-1), 3) := by decide +kernel
theorem d_Mo_note_108 : decode b_Mo_note 108 = .ok (.goto (-53), 3) := by decide +kernel
theorem d_Mo_note_111 : decode b_Mo_note 111 = .ok (.aload_n 1, 1) := by decide +kernel
theorem d_Mo_note_112 : decode b_Mo_note 112 = .ok (.aload_n 0, 1) := by decide +kernel
theorem d_Mo_note_113 : decode b_Mo_note 113 = .ok (.getfield 21, 3) := by decide +kernel
theorem d_Mo_note_116 : decode b_Mo_note 116 = .ok (.iload_n 3, 1) := by decide +kernel
theorem d_Mo_note_117 : decode b_Mo_note 117 = .ok (.aaload, 1) := by decide +kernel
theorem d_Mo_note_118 : decode b_Mo_note 118 = .ok (.invokestatic 84, 3) := by decide +kernel
theorem d_Mo_note_121 : decode b_Mo_note 121 = .ok (.aload_n 0, 1) := by decide +kernel
theorem d_Mo_note_122 : decode b_Mo_note 122 = .ok (.getfield 24, 3) := by decide +kernel
theorem d_Mo_note_125 : decode b_Mo_note 125 = .ok (.iload_n 3, 1) := by decide +kernel
theorem d_Mo_note_126 : decode b_Mo_note 126 = .ok (.iload_n 2, 1) := by decide +kernel
theorem d_Mo_note_127 : decode b_Mo_note 127 = .ok (.iastore, 1) := by decide +kernel
theorem d_Mo_note_128 : decode b_Mo_note 128 = .ok (.return_, 1) := by decide +kernel
abbrev ws_Mo_note : List Cond := .code y_Mo_note b_Mo_note 4 none :: TB
abbrev b_Mo_all : ByteArray := prog_7_method_30_code
theorem d_Mo_all_0 : decode b_Mo_all 0 = .ok (.aload_n 0, 1) := by decide +kernel
theorem d_Mo_all_1 : decode b_Mo_all 1 = .ok (.getfield 49, 3) := by decide +kernel
theorem d_Mo_all_4 : decode b_Mo_all 4 = .ok (.invokestatic 69, 3) := by decide +kernel
theorem d_Mo_all_7 : decode b_Mo_all 7 = .ok (.aload_n 0, 1) := by decide +kernel
theorem d_Mo_all_8 : decode b_Mo_all 8 = .ok (.getfield 49, 3) := by decide +kernel
theorem d_Mo_all_11 : decode b_Mo_all 11 = .ok (.iload_n 1, 1) := by decide +kernel
theorem d_Mo_all_12 : decode b_Mo_all 12 = .ok (.iconst 1, 1) := by decide +kernel
theorem d_Mo_all_13 : decode b_Mo_all 13 = .ok (.iastore, 1) := by decide +kernel
theorem d_Mo_all_14 : decode b_Mo_all 14 = .ok (.iconst 1, 1) := by decide +kernel
theorem d_Mo_all_15 : decode b_Mo_all 15 = .ok (.istore_n 2, 1) := by decide +kernel
theorem d_Mo_all_16 : decode b_Mo_all 16 = .ok (.iload_n 2, 1) := by decide +kernel
theorem d_Mo_all_17 : decode b_Mo_all 17 = .ok (.ifCond .eq 128, 3) := by decide +kernel
theorem d_Mo_all_20 : decode b_Mo_all 20 = .ok (.aload_n 0, 1) := by decide +kernel
theorem d_Mo_all_21 : decode b_Mo_all 21 = .ok (.getfield 46, 3) := by decide +kernel
theorem d_Mo_all_24 : decode b_Mo_all 24 = .ok (.invokestatic 80, 3) := by decide +kernel
theorem d_Mo_all_27 : decode b_Mo_all 27 = .ok (.iload_n 1, 1) := by decide +kernel
theorem d_Mo_all_28 : decode b_Mo_all 28 = .ok (.if_icmp .lt 41, 3) := by decide +kernel
theorem d_Mo_all_31 : decode b_Mo_all 31 = .ok (.aload_n 0, 1) := by decide +kernel
theorem d_Mo_all_32 : decode b_Mo_all 32 = .ok (.aload_n 0, 1) := by decide +kernel
theorem d_Mo_all_33 : decode b_Mo_all 33 = .ok (.getfield 46, 3) := by decide +kernel
theorem d_Mo_all_36 : decode b_Mo_all 36 = .ok (.aload_n 0, 1) := by decide +kernel
theorem d_Mo_all_37 : decode b_Mo_all 37 = .ok (.getfield 49, 3) := by decide +kernel
theorem d_Mo_all_40 : decode b_Mo_all 40 = .ok (.invokevirtual 126, 3) := by decide +kernel
theorem d_Mo_all_43 : decode b_Mo_all 43 = .ok (.ifCond .eq 26, 3) := by decide +kernel
theorem d_Mo_all_46 : decode b_Mo_all 46 = .ok (.aload_n 0, 1) := by decide +kernel
theorem d_Mo_all_47 : decode b_Mo_all 47 = .ok (.getfield 31, 3) := by decide +kernel
theorem d_Mo_all_50 : decode b_Mo_all 50 = .ok (.aload_n 0, 1) := by decide +kernel
theorem d_Mo_all_51 : decode b_Mo_all 51 = .ok (.getfield 46, 3) := by decide +kernel
theorem d_Mo_all_54 : decode b_Mo_all 54 = .ok (.invokestatic 84, 3) := by decide +kernel
theorem d_Mo_all_57 : decode b_Mo_all 57 = .ok (.aload_n 0, 1) := by decide +kernel
theorem d_Mo_all_58 : decode b_Mo_all 58 = .ok (.aload_n 0, 1) := by decide +kernel
theorem d_Mo_all_59 : decode b_Mo_all 59 = .ok (.getfield 49, 3) := by decide +kernel
theorem d_Mo_all_62 : decode b_Mo_all 62 = .ok (.iconst 1, 1) := by decide +kernel
theorem d_Mo_all_63 : decode b_Mo_all 63 = .ok (.invokevirtual 115, 3) := by decide +kernel
theorem d_Mo_all_66 : decode b_Mo_all 66 = .ok (.goto (-46), 3) := by decide +kernel
theorem d_Mo_all_69 : decode b_Mo_all 69 = .ok (.iconst 0, 1) := by decide +kernel
theorem d_Mo_all_70 : decode b_Mo_all 70 = .ok (.istore_n 3, 1) := by decide +kernel
theorem d_Mo_all_71 : decode b_Mo_all 71 = .ok (.iload_n 3, 1) := by decide +kernel
theorem d_Mo_all_72 : decode b_Mo_all 72 = .ok (.iload_n 1, 1) := by decide +kernel
theorem d_Mo_all_73 : decode b_Mo_all 73 = .ok (.if_icmp .ge 31, 3) := by decide +kernel
theorem d_Mo_all_76 : decode b_Mo_all 76 = .ok (.aload_n 0, 1) := by decide +kernel
theorem d_Mo_all_77 : decode b_Mo_all 77 = .ok (.getfield 49, 3) := by decide +kernel
theorem d_Mo_all_80 : decode b_Mo_all 80 = .ok (.iload_n 3, 1) := by decide +kernel
theorem d_Mo_all_81 : decode b_Mo_all 81 = .ok (.iaload, 1) := by decide +kernel
theorem d_Mo_all_82 : decode b_Mo_all 82 = .ok (.aload_n 0, 1) := by decide +kernel
theorem d_Mo_all_83 : decode b_Mo_all 83 = .ok (.getfield 13, 3) := by decide +kernel
theorem d_Mo_all_86 : decode b_Mo_all 86 = .ok (.iconst 1, 1) := by decide +kernel
theorem d_Mo_all_87 : decode b_Mo_all 87 = .ok (.isub, 1) := by decide +kernel
theorem d_Mo_all_88 : decode b_Mo_all 88 = .ok (.if_icmp .ne 16, 3) := by decide +kernel
theorem d_Mo_all_91 : decode b_Mo_all 91 = .ok (.aload_n 0, 1) := by decide +kernel
theorem d_Mo_all_92 : decode b_Mo_all 92 = .ok (.getfield 49, 3) := by decide +kernel
theorem d_Mo_all_95 : decode b_Mo_all 95 = .ok (.iload_n 3, 1) := by decide +kernel
theorem d_Mo_all_96 : decode b_Mo_all 96 = .ok (.iinc 3 1, 3) := by decide +kernel
theorem d_Mo_all_99 : decode b_Mo_all 99 = .ok (.iconst 0, 1) := by decide +kernel
theorem d_Mo_all_100 : decode b_Mo_all 100 = .ok (.iastore, 1) := by decide +kernel
theorem d_Mo_all_101 : decode b_Mo_all 101 = .ok (.goto (-30), 3) := by decide +kernel
theorem d_Mo_all_104 : decode b_Mo_all 104 = .ok (.iload_n 3, 1) := by decide +kernel
theorem d_Mo_all_105 : decode b_Mo_all 105 = .ok (.iload_n 1, 1) := by decide +kernel
theorem d_Mo_all_106 : decode b_Mo_all 106 = .ok (.if_icmp .ge 20, 3) := by decide +kernel
theorem d_Mo_all_109 : decode b_Mo_all 109 = .ok (.aload_n 0, 1) := by decide +kernel
theorem d_Mo_all_110 : decode b_Mo_all 110 = .ok (.getfield 46, 3) := by decide +kernel
theorem d_Mo_all_113 : decode b_Mo_all 113 = .ok (.invokestatic 80, 3) := by decide +kernel
theorem d_Mo_all_116 : decode b_Mo_all 116 = .ok (.iconst 2, 1) := by decide +kernel
theorem d_Mo_all_117 : decode b_Mo_all 117 = .ok (.iload_n 1, 1) := by decide +kernel
theorem d_Mo_all_118 : decode b_Mo_all 118 = .ok (.imul, 1) := by decide +kernel
theorem d_Mo_all_119 : decode b_Mo_all 119 = .ok (.if_icmp .lt 7, 3) := by decide +kernel
theorem d_Mo_all_122 : decode b_Mo_all 122 = .ok (.iconst 1, 1) := by decide +kernel
theorem d_Mo_all_123 : decode b_Mo_all 123 = .ok (.goto 4, 3) := by decide +kernel
theorem d_Mo_all_126 : decode b_Mo_all 126 = .ok (.iconst 0, 1) := by decide +kernel
theorem d_Mo_all_127 : decode b_Mo_all 127 = .ok (.istore_n 2, 1) := by decide +kernel
theorem d_Mo_all_128 : decode b_Mo_all 128 = .ok (.iload_n 2, 1) := by decide +kernel
theorem d_Mo_all_129 : decode b_Mo_all 129 = .ok (.ifCond .eq 13, 3) := by decide +kernel
theorem d_Mo_all_132 : decode b_Mo_all 132 = .ok (.aload_n 0, 1) := by decide +kernel
theorem d_Mo_all_133 : decode b_Mo_all 133 = .ok (.getfield 49, 3) := by decide +kernel
theorem d_Mo_all_136 : decode b_Mo_all 136 = .ok (.iload_n 3, 1) := by decide +kernel
theorem d_Mo_all_137 : decode b_Mo_all 137 = .ok (.dup2, 1) := by decide +kernel
theorem d_Mo_all_138 : decode b_Mo_all 138 = .ok (.iaload, 1) := by decide +kernel
theorem d_Mo_all_139 : decode b_Mo_all 139 = .ok (.iconst 1, 1) := by decide +kernel
theorem d_Mo_all_140 : decode b_Mo_all 140 = .ok (.iadd, 1) := by decide +kernel
theorem d_Mo_all_141 : decode b_Mo_all 141 = .ok (.iastore, 1) := by decide +kernel
theorem d_Mo_all_142 : decode b_Mo_all 142 = .ok (.goto (-126), 3) := by decide +kernel
theorem d_Mo_all_145 : decode b_Mo_all 145 = .ok (.return_, 1) := by decide +kernel
abbrev ws_Mo_all : List Cond := .code y_Mo_all b_Mo_all 4 none :: TB
abbrev b_Mo_piece : ByteArray := prog_7_method_31_code
theorem d_Mo_piece_0 : decode b_Mo_piece 0 = .ok (.aload_n 0, 1) := by decide +kernel
theorem d_Mo_piece_1 : decode b_Mo_piece 1 = .ok (.iload_n 1, 1) := by decide +kernel
theorem d_Mo_piece_2 : decode b_Mo_piece 2 = .ok (.invokevirtual 73, 3) := by decide +kernel
theorem d_Mo_piece_5 : decode b_Mo_piece 5 = .ok (.ifCond .ne 28, 3) := by decide +kernel
theorem d_Mo_piece_8 : decode b_Mo_piece 8 = .ok (.aload_n 0, 1) := by decide +kernel
theorem d_Mo_piece_9 : decode b_Mo_piece 9 = .ok (.iconst 1, 1) := by decide +kernel
theorem d_Mo_piece_10 : decode b_Mo_piece 10 = .ok (.iload_n 2, 1) := by decide +kernel
theorem d_Mo_piece_11 : decode b_Mo_piece 11 = .ok (.ifCond .lt 11, 3) := by decide +kernel
theorem d_Mo_piece_14 : decode b_Mo_piece 14 = .ok (.iload_n 2, 1) := by decide +kernel
theorem d_Mo_piece_15 : decode b_Mo_piece 15 = .ok (.aload_n 0, 1) := by decide +kernel
theorem d_Mo_piece_16 : decode b_Mo_piece 16 = .ok (.getfield 28, 3) := by decide +kernel
theorem d_Mo_piece_19 : decode b_Mo_piece 19 = .ok (.if_icmp .lt 7, 3) := by decide +kernel
theorem d_Mo_piece_22 : decode b_Mo_piece 22 = .ok (.iconst 1, 1) := by decide +kernel
theorem d_Mo_piece_23 : decode b_Mo_piece 23 = .ok (.goto 4, 3) := by decide +kernel
theorem d_Mo_piece_26 : decode b_Mo_piece 26 = .ok (.iconst 0, 1) := by decide +kernel
theorem d_Mo_piece_27 : decode b_Mo_piece 27 = .ok (.invokevirtual 61, 3) := by decide +kernel
theorem d_Mo_piece_30 : decode b_Mo_piece 30 = .ok (.ifCond .eq 5, 3) := by decide +kernel
theorem d_Mo_piece_33 : decode b_Mo_piece 33 = .ok (.iconst 0, 1) := by decide +kernel
theorem d_Mo_piece_34 : decode b_Mo_piece 34 = .ok (.ireturn, 1) := by decide +kernel
theorem d_Mo_piece_35 : decode b_Mo_piece 35 = .ok (.aload_n 0, 1) := by decide +kernel
theorem d_Mo_piece_36 : decode b_Mo_piece 36 = .ok (.getfield 21, 3) := by decide +kernel
theorem d_Mo_piece_39 : decode b_Mo_piece 39 = .ok (.iload_n 2, 1) := by decide +kernel
theorem d_Mo_piece_40 : decode b_Mo_piece 40 = .ok (.aaload, 1) := by decide +kernel
theorem d_Mo_piece_41 : decode b_Mo_piece 41 = .ok (.aload_n 0, 1) := by decide +kernel
theorem d_Mo_piece_42 : decode b_Mo_piece 42 = .ok (.getfield 18, 3) := by decide +kernel
theorem d_Mo_piece_45 : decode b_Mo_piece 45 = .ok (.iload_n 1, 1) := by decide +kernel
theorem d_Mo_piece_46 : decode b_Mo_piece 46 = .ok (.aaload, 1) := by decide +kernel
theorem d_Mo_piece_47 : decode b_Mo_piece 47 = .ok (.invokestatic 84, 3) := by decide +kernel
theorem d_Mo_piece_50 : decode b_Mo_piece 50 = .ok (.aload_n 0, 1) := by decide +kernel
theorem d_Mo_piece_51 : decode b_Mo_piece 51 = .ok (.getfield 24, 3) := by decide +kernel
theorem d_Mo_piece_54 : decode b_Mo_piece 54 = .ok (.iload_n 2, 1) := by decide +kernel
theorem d_Mo_piece_55 : decode b_Mo_piece 55 = .ok (.iaload, 1) := by decide +kernel
theorem d_Mo_piece_56 : decode b_Mo_piece 56 = .ok (.ireturn, 1) := by decide +kernel
abbrev ws_Mo_piece : List Cond := .code y_Mo_piece b_Mo_piece 3 (Option.some .int) :: TB
abbrev b_Mo_irreducible : ByteArray := prog_7_method_32_code
theorem d_Mo_irreducible_0 : decode b_Mo_irreducible 0 = .ok (.aload_n 0, 1) := by decide +kernel
theorem d_Mo_irreducible_1 : decode b_Mo_irreducible 1 = .ok (.iload_n 1, 1) := by decide +kernel
theorem d_Mo_irreducible_2 : decode b_Mo_irreducible 2 = .ok (.invokevirtual 73, 3) := by decide +kernel
theorem d_Mo_irreducible_5 : decode b_Mo_irreducible 5 = .ok (.ifCond .eq 5, 3) := by decide +kernel
theorem d_Mo_irreducible_8 : decode b_Mo_irreducible 8 = .ok (.iconst 0, 1) := by decide +kernel
theorem d_Mo_irreducible_9 : decode b_Mo_irreducible 9 = .ok (.ireturn, 1) := by decide +kernel
theorem d_Mo_irreducible_10 : decode b_Mo_irreducible 10 = .ok (.aload_n 0, 1) := by decide +kernel
theorem d_Mo_irreducible_11 : decode b_Mo_irreducible 11 = .ok (.getfield 18, 3) := by decide +kernel
theorem d_Mo_irreducible_14 : decode b_Mo_irreducible 14 = .ok (.iload_n 1, 1) := by decide +kernel
theorem d_Mo_irreducible_15 : decode b_Mo_irreducible 15 = .ok (.aaload, 1) := by decide +kernel
theorem d_Mo_irreducible_16 : decode b_Mo_irreducible 16 = .ok (.invokestatic 80, 3) := by decide +kernel
theorem d_Mo_irreducible_19 : decode b_Mo_irreducible 19 = .ok (.istore_n 2, 1) := by decide +kernel
theorem d_Mo_irreducible_20 : decode b_Mo_irreducible 20 = .ok (.iload_n 2, 1) := by decide +kernel
theorem d_Mo_irreducible_21 : decode b_Mo_irreducible 21 = .ok (.iconst 1, 1) := by decide +kernel
theorem d_Mo_irreducible_22 : decode b_Mo_irreducible 22 = .ok (.if_icmp .ge 5, 3) := by decide +kernel
theorem d_Mo_irreducible_25 : decode b_Mo_irreducible 25 = .ok (.iconst 0, 1) := by decide +kernel
theorem d_Mo_irreducible_26 : decode b_Mo_irreducible 26 = .ok (.ireturn, 1) := by decide +kernel
theorem d_Mo_irreducible_27 : decode b_Mo_irreducible 27 = .ok (.aload_n 0, 1) := by decide +kernel
theorem d_Mo_irreducible_28 : decode b_Mo_irreducible 28 = .ok (.getfield 52, 3) := by decide +kernel
theorem d_Mo_irreducible_31 : decode b_Mo_irreducible 31 = .ok (.invokestatic 69, 3) := by decide +kernel
theorem d_Mo_irreducible_34 : decode b_Mo_irreducible 34 = .ok (.aload_n 0, 1) := by decide +kernel
theorem d_Mo_irreducible_35 : decode b_Mo_irreducible 35 = .ok (.getfield 52, 3) := by decide +kernel
theorem d_Mo_irreducible_38 : decode b_Mo_irreducible 38 = .ok (.iconst 1, 1) := by decide +kernel
theorem d_Mo_irreducible_39 : decode b_Mo_irreducible 39 = .ok (.iconst 1, 1) := by decide +kernel
theorem d_Mo_irreducible_40 : decode b_Mo_irreducible 40 = .ok (.iastore, 1) := by decide +kernel
theorem d_Mo_irreducible_41 : decode b_Mo_irreducible 41 = .ok (.iconst 1, 1) := by decide +kernel
theorem d_Mo_irreducible_42 : decode b_Mo_irreducible 42 = .ok (.istore_n 3, 1) := by decide +kernel
theorem d_Mo_irreducible_43 : decode b_Mo_irreducible 43 = .ok (.iconst 2, 1) := by decide +kernel
theorem d_Mo_irreducible_44 : decode b_Mo_irreducible 44 = .ok (.iload_n 3, 1) := by decide +kernel
theorem d_Mo_irreducible_45 : decode b_Mo_irreducible 45 = .ok (.imul, 1) := by decide +kernel
theorem d_Mo_irreducible_46 : decode b_Mo_irreducible 46 = .ok (.iload_n 2, 1) := by decide +kernel
theorem d_Mo_irreducible_47 : decode b_Mo_irreducible 47 = .ok (.if_icmp .gt 89, 3) := by decide +kernel
theorem d_Mo_irreducible_50 : decode b_Mo_irreducible 50 = .ok (.aload_n 0, 1) := by decide +kernel
theorem d_Mo_irreducible_51 : decode b_Mo_irreducible 51 = .ok (.aload_n 0, 1) := by decide +kernel
theorem d_Mo_irreducible_52 : decode b_Mo_irreducible 52 = .ok (.getfield 13, 3) := by decide +kernel
theorem d_Mo_irreducible_55 : decode b_Mo_irreducible 55 = .ok (.aload_n 0, 1) := by decide +kernel
theorem d_Mo_irreducible_56 : decode b_Mo_irreducible 56 = .ok (.getfield 18, 3) := by decide +kernel
theorem d_Mo_irreducible_59 : decode b_Mo_irreducible 59 = .ok (.iload_n 1, 1) := by decide +kernel
theorem d_Mo_irreducible_60 : decode b_Mo_irreducible 60 = .ok (.aaload, 1) := by decide +kernel
theorem d_Mo_irreducible_61 : decode b_Mo_irreducible 61 = .ok (.invokevirtual 103, 3) := by decide +kernel
theorem d_Mo_irreducible_64 : decode b_Mo_irreducible 64 = .ok (.aload_n 0, 1) := by decide +kernel
theorem d_Mo_irreducible_65 : decode b_Mo_irreducible 65 = .ok (.getfield 55, 3) := by decide +kernel
theorem d_Mo_irreducible_68 : decode b_Mo_irreducible 68 = .ok (.aload_n 0, 1) := by decide +kernel
theorem d_Mo_irreducible_69 : decode b_Mo_irreducible 69 = .ok (.getfield 52, 3) := by decide +kernel
theorem d_Mo_irreducible_72 : decode b_Mo_irreducible 72 = .ok (.invokestatic 84, 3) := by decide +kernel
theorem d_Mo_irreducible_75 : decode b_Mo_irreducible 75 = .ok (.aload_n 0, 1) := by decide +kernel
theorem d_Mo_irreducible_76 : decode b_Mo_irreducible 76 = .ok (.getfield 52, 3) := by decide +kernel
theorem d_Mo_irreducible_79 : decode b_Mo_irreducible 79 = .ok (.aload_n 0, 1) := by decide +kernel
theorem d_Mo_irreducible_80 : decode b_Mo_irreducible 80 = .ok (.getfield 46, 3) := by decide +kernel
theorem d_Mo_irreducible_83 : decode b_Mo_irreducible 83 = .ok (.invokestatic 84, 3) := by decide +kernel
theorem d_Mo_irreducible_86 : decode b_Mo_irreducible 86 = .ok (.aload_n 0, 1) := by decide +kernel
theorem d_Mo_irreducible_87 : decode b_Mo_irreducible 87 = .ok (.getfield 46, 3) := by decide +kernel
theorem d_Mo_irreducible_90 : decode b_Mo_irreducible 90 = .ok (.iconst 1, 1) := by decide +kernel
theorem d_Mo_irreducible_91 : decode b_Mo_irreducible 91 = .ok (.aload_n 0, 1) := by decide +kernel
theorem d_Mo_irreducible_92 : decode b_Mo_irreducible 92 = .ok (.aload_n 0, 1) := by decide +kernel
theorem d_Mo_irreducible_93 : decode b_Mo_irreducible 93 = .ok (.getfield 46, 3) := by decide +kernel
theorem d_Mo_irreducible_96 : decode b_Mo_irreducible 96 = .ok (.iconst 1, 1) := by decide +kernel
theorem d_Mo_irreducible_97 : decode b_Mo_irreducible 97 = .ok (.iaload, 1) := by decide +kernel
theorem d_Mo_irreducible_98 : decode b_Mo_irreducible 98 = .ok (.iconst 1, 1) := by decide +kernel
theorem d_Mo_irreducible_99 : decode b_Mo_irreducible 99 = .ok (.isub, 1) := by decide +kernel
theorem d_Mo_irreducible_100 : decode b_Mo_irreducible 100 = .ok (.invokevirtual 77, 3) := by decide +kernel
theorem d_Mo_irreducible_103 : decode b_Mo_irreducible 103 = .ok (.iastore, 1) := by decide +kernel
theorem d_Mo_irreducible_104 : decode b_Mo_irreducible 104 = .ok (.aload_n 0, 1) := by decide +kernel
theorem d_Mo_irreducible_105 : decode b_Mo_irreducible 105 = .ok (.aload_n 0, 1) := by decide +kernel
theorem d_Mo_irreducible_106 : decode b_Mo_irreducible 106 = .ok (.getfield 18, 3) := by decide +kernel
theorem d_Mo_irreducible_109 : decode b_Mo_irreducible 109 = .ok (.iload_n 1, 1) := by decide +kernel
theorem d_Mo_irreducible_110 : decode b_Mo_irreducible 110 = .ok (.aaload, 1) := by decide +kernel
theorem d_Mo_irreducible_111 : decode b_Mo_irreducible 111 = .ok (.aload_n 0, 1) := by decide +kernel
theorem d_Mo_irreducible_112 : decode b_Mo_irreducible 112 = .ok (.getfield 46, 3) := by decide +kernel
theorem d_Mo_irreducible_115 : decode b_Mo_irreducible 115 = .ok (.invokevirtual 100, 3) := by decide +kernel
theorem d_Mo_irreducible_118 : decode b_Mo_irreducible 118 = .ok (.aload_n 0, 1) := by decide +kernel
theorem d_Mo_irreducible_119 : decode b_Mo_irreducible 119 = .ok (.getfield 40, 3) := by decide +kernel
theorem d_Mo_irreducible_122 : decode b_Mo_irreducible 122 = .ok (.invokestatic 80, 3) := by decide +kernel
theorem d_Mo_irreducible_125 : decode b_Mo_irreducible 125 = .ok (.ifCond .le 5, 3) := by decide +kernel
theorem d_Mo_irreducible_128 : decode b_Mo_irreducible 128 = .ok (.iconst 0, 1) := by decide +kernel
theorem d_Mo_irreducible_129 : decode b_Mo_irreducible 129 = .ok (.ireturn, 1) := by decide +kernel
theorem d_Mo_irreducible_130 : decode b_Mo_irreducible 130 = .ok (.iinc 3 1, 3) := by decide +kernel
theorem d_Mo_irreducible_133 : decode b_Mo_irreducible 133 = .ok (.goto (-90), 3) := by decide +kernel
theorem d_Mo_irreducible_136 : decode b_Mo_irreducible 136 = .ok (.iconst 1, 1) := by decide +kernel
theorem d_Mo_irreducible_137 : decode b_Mo_irreducible 137 = .ok (.ireturn, 1) := by decide +kernel
abbrev ws_Mo_irreducible : List Cond := .code y_Mo_irreducible b_Mo_irreducible 4 (Option.some .boolean) :: TB
abbrev b_Mo_order : ByteArray := prog_7_method_33_code
theorem d_Mo_order_0 : decode b_Mo_order 0 = .ok (.aload_n 0, 1) := by decide +kernel
theorem d_Mo_order_1 : decode b_Mo_order 1 = .ok (.iload_n 1, 1) := by decide +kernel
theorem d_Mo_order_2 : decode b_Mo_order 2 = .ok (.invokevirtual 73, 3) := by decide +kernel
theorem d_Mo_order_5 : decode b_Mo_order 5 = .ok (.ifCond .ne 29, 3) := by decide +kernel
theorem d_Mo_order_8 : decode b_Mo_order 8 = .ok (.aload_n 0, 1) := by decide +kernel
theorem d_Mo_order_9 : decode b_Mo_order 9 = .ok (.iconst 2, 1) := by decide +kernel
theorem d_Mo_order_10 : decode b_Mo_order 10 = .ok (.aload_n 0, 1) := by decide +kernel
theorem d_Mo_order_11 : decode b_Mo_order 11 = .ok (.getfield 18, 3) := by decide +kernel
theorem d_Mo_order_14 : decode b_Mo_order 14 = .ok (.iload_n 1, 1) := by decide +kernel
theorem d_Mo_order_15 : decode b_Mo_order 15 = .ok (.aaload, 1) := by decide +kernel
theorem d_Mo_order_16 : decode b_Mo_order 16 = .ok (.invokestatic 80, 3) := by decide +kernel
theorem d_Mo_order_19 : decode b_Mo_order 19 = .ok (.iconst 1, 1) := by decide +kernel
theorem d_Mo_order_20 : decode b_Mo_order 20 = .ok (.if_icmp .ge 7, 3) := by decide +kernel
theorem d_Mo_order_23 : decode b_Mo_order 23 = .ok (.iconst 1, 1) := by decide +kernel
theorem d_Mo_order_24 : decode b_Mo_order 24 = .ok (.goto 4, 3) := by decide +kernel
theorem d_Mo_order_27 : decode b_Mo_order 27 = .ok (.iconst 0, 1) := by decide +kernel
theorem d_Mo_order_28 : decode b_Mo_order 28 = .ok (.invokevirtual 61, 3) := by decide +kernel
theorem d_Mo_order_31 : decode b_Mo_order 31 = .ok (.ifCond .eq 5, 3) := by decide +kernel
theorem d_Mo_order_34 : decode b_Mo_order 34 = .ok (.iconst 0, 1) := by decide +kernel
theorem d_Mo_order_35 : decode b_Mo_order 35 = .ok (.ireturn, 1) := by decide +kernel
theorem d_Mo_order_36 : decode b_Mo_order 36 = .ok (.aload_n 0, 1) := by decide +kernel
theorem d_Mo_order_37 : decode b_Mo_order 37 = .ok (.getfield 18, 3) := by decide +kernel
theorem d_Mo_order_40 : decode b_Mo_order 40 = .ok (.iload_n 1, 1) := by decide +kernel
theorem d_Mo_order_41 : decode b_Mo_order 41 = .ok (.aaload, 1) := by decide +kernel
theorem d_Mo_order_42 : decode b_Mo_order 42 = .ok (.astore_n 2, 1) := by decide +kernel
theorem d_Mo_order_43 : decode b_Mo_order 43 = .ok (.aload_n 2, 1) := by decide +kernel
theorem d_Mo_order_44 : decode b_Mo_order 44 = .ok (.invokestatic 80, 3) := by decide +kernel
theorem d_Mo_order_47 : decode b_Mo_order 47 = .ok (.istore_n 3, 1) := by decide +kernel
theorem d_Mo_order_48 : decode b_Mo_order 48 = .ok (.aload_n 0, 1) := by decide +kernel
theorem d_Mo_order_49 : decode b_Mo_order 49 = .ok (.aload_n 2, 1) := by decide +kernel
theorem d_Mo_order_50 : decode b_Mo_order 50 = .ok (.iload_n 3, 1) := by decide +kernel
theorem d_Mo_order_51 : decode b_Mo_order 51 = .ok (.iaload, 1) := by decide +kernel
theorem d_Mo_order_52 : decode b_Mo_order 52 = .ok (.invokevirtual 88, 3) := by decide +kernel
theorem d_Mo_order_55 : decode b_Mo_order 55 = .ok (.istore 4, 2) := by decide +kernel
theorem d_Mo_order_57 : decode b_Mo_order 57 = .ok (.aload_n 0, 1) := by decide +kernel
theorem d_Mo_order_58 : decode b_Mo_order 58 = .ok (.getfield 46, 3) := by decide +kernel
theorem d_Mo_order_61 : decode b_Mo_order 61 = .ok (.invokestatic 69, 3) := by decide +kernel
theorem d_Mo_order_64 : decode b_Mo_order 64 = .ok (.aload_n 0, 1) := by decide +kernel
theorem d_Mo_order_65 : decode b_Mo_order 65 = .ok (.getfield 46, 3) := by decide +kernel
theorem d_Mo_order_68 : decode b_Mo_order 68 = .ok (.iconst 0, 1) := by decide +kernel
theorem d_Mo_order_69 : decode b_Mo_order 69 = .ok (.iconst 1, 1) := by decide +kernel
theorem d_Mo_order_70 : decode b_Mo_order 70 = .ok (.iastore, 1) := by decide +kernel
theorem d_Mo_order_71 : decode b_Mo_order 71 = .ok (.iconst 1, 1) := by decide +kernel
theorem d_Mo_order_72 : decode b_Mo_order 72 = .ok (.istore 5, 2) := by decide +kernel
theorem d_Mo_order_74 : decode b_Mo_order 74 = .ok (.iload 5, 2) := by decide +kernel
theorem d_Mo_order_76 : decode b_Mo_order 76 = .ok (.ldc 129, 2) := by decide +kernel
theorem d_Mo_order_78 : decode b_Mo_order 78 = .ok (.if_icmp .gt 126, 3) := by decide +kernel
theorem d_Mo_order_81 : decode b_Mo_order 81 = .ok (.iload_n 3, 1) := by decide +kernel
theorem d_Mo_order_82 : decode b_Mo_order 82 = .ok (.istore 6, 2) := by decide +kernel
theorem d_Mo_order_84 : decode b_Mo_order 84 = .ok (.iload 6, 2) := by decide +kernel
theorem d_Mo_order_86 : decode b_Mo_order 86 = .ok (.ifCond .le 25, 3) := by decide +kernel
theorem d_Mo_order_89 : decode b_Mo_order 89 = .ok (.aload_n 0, 1) := by decide +kernel
theorem d_Mo_order_90 : decode b_Mo_order 90 = .ok (.getfield 46, 3) := by decide +kernel
theorem d_Mo_order_93 : decode b_Mo_order 93 = .ok (.iload 6, 2) := by decide +kernel
theorem d_Mo_order_95 : decode b_Mo_order 95 = .ok (.aload_n 0, 1) := by decide +kernel
theorem d_Mo_order_96 : decode b_Mo_order 96 = .ok (.getfield 46, 3) := by decide +kernel
theorem d_Mo_order_99 : decode b_Mo_order 99 = .ok (.iload 6, 2) := by decide +kernel
theorem d_Mo_order_101 : decode b_Mo_order 101 = .ok (.iconst 1, 1) := by decide +kernel
theorem d_Mo_order_102 : decode b_Mo_order 102 = .ok (.isub, 1) := by decide +kernel
theorem d_Mo_order_103 : decode b_Mo_order 103 = .ok (.iaload, 1) := by decide +kernel
theorem d_Mo_order_104 : decode b_Mo_order 104 = .ok (.iastore, 1) := by decide +kernel
theorem d_Mo_order_105 : decode b_Mo_order 105 = .ok (.iinc 6 (-1), 3) := by decide +kernel
theorem d_Mo_order_108 : decode b_Mo_order 108 = .ok (.goto (-24), 3) := by decide +kernel
theorem d_Mo_order_111 : decode b_Mo_order 111 = .ok (.aload_n 0, 1) := by decide +kernel
theorem d_Mo_order_112 : decode b_Mo_order 112 = .ok (.getfield 46, 3) := by decide +kernel
theorem d_Mo_order_115 : decode b_Mo_order 115 = .ok (.iconst 0, 1) := by decide +kernel
theorem d_Mo_order_116 : decode b_Mo_order 116 = .ok (.iconst 0, 1) := by decide +kernel
theorem d_Mo_order_117 : decode b_Mo_order 117 = .ok (.iastore, 1) := by decide +kernel
theorem d_Mo_order_118 : decode b_Mo_order 118 = .ok (.aload_n 0, 1) := by decide +kernel
theorem d_Mo_order_119 : decode b_Mo_order 119 = .ok (.getfield 46, 3) := by decide +kernel
theorem d_Mo_order_122 : decode b_Mo_order 122 = .ok (.iload_n 3, 1) := by decide +kernel
theorem d_Mo_order_123 : decode b_Mo_order 123 = .ok (.iaload, 1) := by decide +kernel
theorem d_Mo_order_124 : decode b_Mo_order 124 = .ok (.iload 4, 2) := by decide +kernel
theorem d_Mo_order_126 : decode b_Mo_order 126 = .ok (.imul, 1) := by decide +kernel
theorem d_Mo_order_127 : decode b_Mo_order 127 = .ok (.aload_n 0, 1) := by decide +kernel
theorem d_Mo_order_128 : decode b_Mo_order 128 = .ok (.getfield 13, 3) := by decide +kernel
theorem d_Mo_order_131 : decode b_Mo_order 131 = .ok (.irem, 1) := by decide +kernel
theorem d_Mo_order_132 : decode b_Mo_order 132 = .ok (.istore 6, 2) := by decide +kernel
theorem d_Mo_order_134 : decode b_Mo_order 134 = .ok (.iconst 0, 1) := by decide +kernel
theorem d_Mo_order_135 : decode b_Mo_order 135 = .ok (.istore 7, 2) := by decide +kernel
theorem d_Mo_order_137 : decode b_Mo_order 137 = .ok (.iload 7, 2) := by decide +kernel
theorem d_Mo_order_139 : decode b_Mo_order 139 = .ok (.iload_n 3, 1) := by decide +kernel
theorem d_Mo_order_140 : decode b_Mo_order 140 = .ok (.if_icmp .gt 35, 3) := by decide +kernel
theorem d_Mo_order_143 : decode b_Mo_order 143 = .ok (.aload_n 0, 1) := by decide +kernel
theorem d_Mo_order_144 : decode b_Mo_order 144 = .ok (.getfield 46, 3) := by decide +kernel
theorem d_Mo_order_147 : decode b_Mo_order 147 = .ok (.iload 7, 2) := by decide +kernel
theorem d_Mo_order_149 : decode b_Mo_order 149 = .ok (.aload_n 0, 1) := by decide +kernel
theorem d_Mo_order_150 : decode b_Mo_order 150 = .ok (.aload_n 0, 1) := by decide +kernel
theorem d_Mo_order_151 : decode b_Mo_order 151 = .ok (.getfield 46, 3) := by decide +kernel
theorem d_Mo_order_154 : decode b_Mo_order 154 = .ok (.iload 7, 2) := by decide +kernel
theorem d_Mo_order_156 : decode b_Mo_order 156 = .ok (.iaload, 1) := by decide +kernel
theorem d_Mo_order_157 : decode b_Mo_order 157 = .ok (.iload 6, 2) := by decide +kernel
theorem d_Mo_order_159 : decode b_Mo_order 159 = .ok (.aload_n 2, 1) := by decide +kernel
theorem d_Mo_order_160 : decode b_Mo_order 160 = .ok (.iload 7, 2) := by decide +kernel
theorem d_Mo_order_162 : decode b_Mo_order 162 = .ok (.iaload, 1) := by decide +kernel
theorem d_Mo_order_163 : decode b_Mo_order 163 = .ok (.imul, 1) := by decide +kernel
theorem d_Mo_order_164 : decode b_Mo_order 164 = .ok (.isub, 1) := by decide +kernel
theorem d_Mo_order_165 : decode b_Mo_order 165 = .ok (.invokevirtual 77, 3) := by decide +kernel
theorem d_Mo_order_168 : decode b_Mo_order 168 = .ok (.iastore, 1) := by decide +kernel
theorem d_Mo_order_169 : decode b_Mo_order 169 = .ok (.iinc 7 1, 3) := by decide +kernel
theorem d_Mo_order_172 : decode b_Mo_order 172 = .ok (.goto (-35), 3) := by decide +kernel
theorem d_Mo_order_175 : decode b_Mo_order 175 = .ok (.aload_n 0, 1) := by decide +kernel
theorem d_Mo_order_176 : decode b_Mo_order 176 = .ok (.getfield 46, 3) := by decide +kernel
theorem d_Mo_order_179 : decode b_Mo_order 179 = .ok (.invokestatic 80, 3) := by decide +kernel
theorem d_Mo_order_182 : decode b_Mo_order 182 = .ok (.ifCond .ne 16, 3) := by decide +kernel
theorem d_Mo_order_185 : decode b_Mo_order 185 = .ok (.aload_n 0, 1) := by decide +kernel
theorem d_Mo_order_186 : decode b_Mo_order 186 = .ok (.getfield 46, 3) := by decide +kernel
theorem d_Mo_order_189 : decode b_Mo_order 189 = .ok (.iconst 0, 1) := by decide +kernel
theorem d_Mo_order_190 : decode b_Mo_order 190 = .ok (.iaload, 1) := by decide +kernel
theorem d_Mo_order_191 : decode b_Mo_order 191 = .ok (.iconst 1, 1) := by decide +kernel
theorem d_Mo_order_192 : decode b_Mo_order 192 = .ok (.if_icmp .ne 6, 3) := by decide +kernel
theorem d_Mo_order_195 : decode b_Mo_order 195 = .ok (.iload 5, 2) := by decide +kernel
theorem d_Mo_order_197 : decode b_Mo_order 197 = .ok (.ireturn, 1) := by decide +kernel
theorem d_Mo_order_198 : decode b_Mo_order 198 = .ok (.iinc 5 1, 3) := by decide +kernel
theorem d_Mo_order_201 : decode b_Mo_order 201 = .ok (.goto (-127), 3) := by decide +kernel
theorem d_Mo_order_204 : decode b_Mo_order 204 = .ok (.iconst 0, 1) := by decide +kernel
theorem d_Mo_order_205 : decode b_Mo_order 205 = .ok (.ireturn, 1) := by decide +kernel
abbrev ws_Mo_order : List Cond := .code y_Mo_order b_Mo_order 8 (Option.some .int) :: TB
abbrev b_Mo_linear : ByteArray := prog_7_method_34_code
theorem d_Mo_linear_0 : decode b_Mo_linear 0 = .ok (.aload_n 0, 1) := by decide +kernel
theorem d_Mo_linear_1 : decode b_Mo_linear 1 = .ok (.iload_n 1, 1) := by decide +kernel
theorem d_Mo_linear_2 : decode b_Mo_linear 2 = .ok (.invokevirtual 73, 3) := by decide +kernel
theorem d_Mo_linear_5 : decode b_Mo_linear 5 = .ok (.ifCond .ne 36, 3) := by decide +kernel
theorem d_Mo_linear_8 : decode b_Mo_linear 8 = .ok (.aload_n 0, 1) := by decide +kernel
theorem d_Mo_linear_9 : decode b_Mo_linear 9 = .ok (.iload_n 2, 1) := by decide +kernel
theorem d_Mo_linear_10 : decode b_Mo_linear 10 = .ok (.invokevirtual 73, 3) := by decide +kernel
theorem d_Mo_linear_13 : decode b_Mo_linear 13 = .ok (.ifCond .ne 28, 3) := by decide +kernel
theorem d_Mo_linear_16 : decode b_Mo_linear 16 = .ok (.aload_n 0, 1) := by decide +kernel
theorem d_Mo_linear_17 : decode b_Mo_linear 17 = .ok (.iconst 2, 1) := by decide +kernel
theorem d_Mo_linear_18 : decode b_Mo_linear 18 = .ok (.aload_n 0, 1) := by decide +kernel
theorem d_Mo_linear_19 : decode b_Mo_linear 19 = .ok (.getfield 18, 3) := by decide +kernel
theorem d_Mo_linear_22 : decode b_Mo_linear 22 = .ok (.iload_n 2, 1) := by decide +kernel
theorem d_Mo_linear_23 : decode b_Mo_linear 23 = .ok (.aaload, 1) := by decide +kernel
theorem d_Mo_linear_24 : decode b_Mo_linear 24 = .ok (.invokestatic 80, 3) := by decide +kernel
theorem d_Mo_linear_27 : decode b_Mo_linear 27 = .ok (.ifCond .ge 7, 3) := by decide +kernel
theorem d_Mo_linear_30 : decode b_Mo_linear 30 = .ok (.iconst 1, 1) := by decide +kernel
theorem d_Mo_linear_31 : decode b_Mo_linear 31 = .ok (.goto 4, 3) := by decide +kernel
theorem d_Mo_linear_34 : decode b_Mo_linear 34 = .ok (.iconst 0, 1) := by decide +kernel
theorem d_Mo_linear_35 : decode b_Mo_linear 35 = .ok (.invokevirtual 61, 3) := by decide +kernel
theorem d_Mo_linear_38 : decode b_Mo_linear 38 = .ok (.ifCond .eq 5, 3) := by decide +kernel
theorem d_Mo_linear_41 : decode b_Mo_linear 41 = .ok (.iconst 0, 1) := by decide +kernel
theorem d_Mo_linear_42 : decode b_Mo_linear 42 = .ok (.ireturn, 1) := by decide +kernel
theorem d_Mo_linear_43 : decode b_Mo_linear 43 = .ok (.aload_n 0, 1) := by decide +kernel
theorem d_Mo_linear_44 : decode b_Mo_linear 44 = .ok (.getfield 18, 3) := by decide +kernel
theorem d_Mo_linear_47 : decode b_Mo_linear 47 = .ok (.iload_n 2, 1) := by decide +kernel
theorem d_Mo_linear_48 : decode b_Mo_linear 48 = .ok (.aaload, 1) := by decide +kernel
theorem d_Mo_linear_49 : decode b_Mo_linear 49 = .ok (.aload_n 0, 1) := by decide +kernel
theorem d_Mo_linear_50 : decode b_Mo_linear 50 = .ok (.getfield 46, 3) := by decide +kernel
theorem d_Mo_linear_53 : decode b_Mo_linear 53 = .ok (.invokestatic 84, 3) := by decide +kernel
theorem d_Mo_linear_56 : decode b_Mo_linear 56 = .ok (.aload_n 0, 1) := by decide +kernel
theorem d_Mo_linear_57 : decode b_Mo_linear 57 = .ok (.getfield 55, 3) := by decide +kernel
theorem d_Mo_linear_60 : decode b_Mo_linear 60 = .ok (.invokestatic 69, 3) := by decide +kernel
theorem d_Mo_linear_63 : decode b_Mo_linear 63 = .ok (.aload_n 0, 1) := by decide +kernel
theorem d_Mo_linear_64 : decode b_Mo_linear 64 = .ok (.getfield 55, 3) := by decide +kernel
theorem d_Mo_linear_67 : decode b_Mo_linear 67 = .ok (.iconst 0, 1) := by decide +kernel
theorem d_Mo_linear_68 : decode b_Mo_linear 68 = .ok (.iconst 1, 1) := by decide +kernel
theorem d_Mo_linear_69 : decode b_Mo_linear 69 = .ok (.iastore, 1) := by decide +kernel
theorem d_Mo_linear_70 : decode b_Mo_linear 70 = .ok (.iconst 0, 1) := by decide +kernel
theorem d_Mo_linear_71 : decode b_Mo_linear 71 = .ok (.istore_n 3, 1) := by decide +kernel
theorem d_Mo_linear_72 : decode b_Mo_linear 72 = .ok (.iload_n 3, 1) := by decide +kernel
theorem d_Mo_linear_73 : decode b_Mo_linear 73 = .ok (.aload_n 0, 1) := by decide +kernel
theorem d_Mo_linear_74 : decode b_Mo_linear 74 = .ok (.getfield 13, 3) := by decide +kernel
theorem d_Mo_linear_77 : decode b_Mo_linear 77 = .ok (.if_icmp .ge 97, 3) := by decide +kernel
theorem d_Mo_linear_80 : decode b_Mo_linear 80 = .ok (.aload_n 0, 1) := by decide +kernel
theorem d_Mo_linear_81 : decode b_Mo_linear 81 = .ok (.getfield 49, 3) := by decide +kernel
theorem d_Mo_linear_84 : decode b_Mo_linear 84 = .ok (.invokestatic 69, 3) := by decide +kernel
theorem d_Mo_linear_87 : decode b_Mo_linear 87 = .ok (.aload_n 0, 1) := by decide +kernel
theorem d_Mo_linear_88 : decode b_Mo_linear 88 = .ok (.getfield 49, 3) := by decide +kernel
theorem d_Mo_linear_91 : decode b_Mo_linear 91 = .ok (.iconst 1, 1) := by decide +kernel
theorem d_Mo_linear_92 : decode b_Mo_linear 92 = .ok (.iconst 1, 1) := by decide +kernel
theorem d_Mo_linear_93 : decode b_Mo_linear 93 = .ok (.iastore, 1) := by decide +kernel
theorem d_Mo_linear_94 : decode b_Mo_linear 94 = .ok (.aload_n 0, 1) := by decide +kernel
theorem d_Mo_linear_95 : decode b_Mo_linear 95 = .ok (.getfield 49, 3) := by decide +kernel
theorem d_Mo_linear_98 : decode b_Mo_linear 98 = .ok (.iconst 0, 1) := by decide +kernel
theorem d_Mo_linear_99 : decode b_Mo_linear 99 = .ok (.aload_n 0, 1) := by decide +kernel
theorem d_Mo_linear_100 : decode b_Mo_linear 100 = .ok (.iload_n 3, 1) := by decide +kernel
theorem d_Mo_linear_101 : decode b_Mo_linear 101 = .ok (.ineg, 1) := by decide +kernel
theorem d_Mo_linear_102 : decode b_Mo_linear 102 = .ok (.invokevirtual 77, 3) := by decide +kernel
theorem d_Mo_linear_105 : decode b_Mo_linear 105 = .ok (.iastore, 1) := by decide +kernel
theorem d_Mo_linear_106 : decode b_Mo_linear 106 = .ok (.aload_n 0, 1) := by decide +kernel
theorem d_Mo_linear_107 : decode b_Mo_linear 107 = .ok (.getfield 46, 3) := by decide +kernel
theorem d_Mo_linear_110 : decode b_Mo_linear 110 = .ok (.invokestatic 80, 3) := by decide +kernel
theorem d_Mo_linear_113 : decode b_Mo_linear 113 = .ok (.ifCond .le 55, 3) := by decide +kernel
theorem d_Mo_linear_116 : decode b_Mo_linear 116 = .ok (.aload_n 0, 1) := by decide +kernel
theorem d_Mo_linear_117 : decode b_Mo_linear 117 = .ok (.aload_n 0, 1) := by decide +kernel
theorem d_Mo_linear_118 : decode b_Mo_linear 118 = .ok (.getfield 46, 3) := by decide +kernel
theorem d_Mo_linear_121 : decode b_Mo_linear 121 = .ok (.aload_n 0, 1) := by decide +kernel
theorem d_Mo_linear_122 : decode b_Mo_linear 122 = .ok (.getfield 49, 3) := by decide +kernel
theorem d_Mo_linear_125 : decode b_Mo_linear 125 = .ok (.invokevirtual 126, 3) := by decide +kernel
theorem d_Mo_linear_128 : decode b_Mo_linear 128 = .ok (.ifCond .eq 40, 3) := by decide +kernel
theorem d_Mo_linear_131 : decode b_Mo_linear 131 = .ok (.aload_n 0, 1) := by decide +kernel
theorem d_Mo_linear_132 : decode b_Mo_linear 132 = .ok (.getfield 31, 3) := by decide +kernel
theorem d_Mo_linear_135 : decode b_Mo_linear 135 = .ok (.aload_n 0, 1) := by decide +kernel
theorem d_Mo_linear_136 : decode b_Mo_linear 136 = .ok (.getfield 46, 3) := by decide +kernel
theorem d_Mo_linear_139 : decode b_Mo_linear 139 = .ok (.invokestatic 84, 3) := by decide +kernel
theorem d_Mo_linear_142 : decode b_Mo_linear 142 = .ok (.aload_n 0, 1) := by decide +kernel
theorem d_Mo_linear_143 : decode b_Mo_linear 143 = .ok (.aload_n 0, 1) := by decide +kernel
theorem d_Mo_linear_144 : decode b_Mo_linear 144 = .ok (.getfield 55, 3) := by decide +kernel
theorem d_Mo_linear_147 : decode b_Mo_linear 147 = .ok (.aload_n 0, 1) := by decide +kernel
theorem d_Mo_linear_148 : decode b_Mo_linear 148 = .ok (.getfield 49, 3) := by decide +kernel
theorem d_Mo_linear_151 : decode b_Mo_linear 151 = .ok (.invokevirtual 97, 3) := by decide +kernel
theorem d_Mo_linear_154 : decode b_Mo_linear 154 = .ok (.aload_n 0, 1) := by decide +kernel
theorem d_Mo_linear_155 : decode b_Mo_linear 155 = .ok (.getfield 37, 3) := by decide +kernel
theorem d_Mo_linear_158 : decode b_Mo_linear 158 = .ok (.aload_n 0, 1) := by decide +kernel
theorem d_Mo_linear_159 : decode b_Mo_linear 159 = .ok (.getfield 55, 3) := by decide +kernel
theorem d_Mo_linear_162 : decode b_Mo_linear 162 = .ok (.invokestatic 84, 3) := by decide +kernel
theorem d_Mo_linear_165 : decode b_Mo_linear 165 = .ok (.goto (-59), 3) := by decide +kernel
theorem d_Mo_linear_168 : decode b_Mo_linear 168 = .ok (.iinc 3 1, 3) := by decide +kernel
theorem d_Mo_linear_171 : decode b_Mo_linear 171 = .ok (.goto (-99), 3) := by decide +kernel
theorem d_Mo_linear_174 : decode b_Mo_linear 174 = .ok (.aload_n 0, 1) := by decide +kernel
theorem d_Mo_linear_175 : decode b_Mo_linear 175 = .ok (.getfield 55, 3) := by decide +kernel
theorem d_Mo_linear_178 : decode b_Mo_linear 178 = .ok (.aload_n 0, 1) := by decide +kernel
theorem d_Mo_linear_179 : decode b_Mo_linear 179 = .ok (.getfield 18, 3) := by decide +kernel
theorem d_Mo_linear_182 : decode b_Mo_linear 182 = .ok (.iload_n 1, 1) := by decide +kernel
theorem d_Mo_linear_183 : decode b_Mo_linear 183 = .ok (.aaload, 1) := by decide +kernel
theorem d_Mo_linear_184 : decode b_Mo_linear 184 = .ok (.invokestatic 84, 3) := by decide +kernel
theorem d_Mo_linear_187 : decode b_Mo_linear 187 = .ok (.aload_n 0, 1) := by decide +kernel
theorem d_Mo_linear_188 : decode b_Mo_linear 188 = .ok (.getfield 55, 3) := by decide +kernel
theorem d_Mo_linear_191 : decode b_Mo_linear 191 = .ok (.invokestatic 80, 3) := by decide +kernel
theorem d_Mo_linear_194 : decode b_Mo_linear 194 = .ok (.ireturn, 1) := by decide +kernel
abbrev ws_Mo_linear : List Cond := .code y_Mo_linear b_Mo_linear 4 (Option.some .int) :: TB
abbrev b_Mo_count : ByteArray := prog_7_method_35_code
theorem d_Mo_count_0 : decode b_Mo_count 0 = .ok (.aload_n 0, 1) := by decide +kernel
theorem d_Mo_count_1 : decode b_Mo_count 1 = .ok (.iconst 0, 1) := by decide +kernel
theorem d_Mo_count_2 : decode b_Mo_count 2 = .ok (.putfield 7, 3) := by decide +kernel
theorem d_Mo_count_5 : decode b_Mo_count 5 = .ok (.iload_n 1, 1) := by decide +kernel
theorem d_Mo_count_6 : decode b_Mo_count 6 = .ok (.ifCond .ne 10, 3) := by decide +kernel
theorem d_Mo_count_9 : decode b_Mo_count 9 = .ok (.aload_n 0, 1) := by decide +kernel
theorem d_Mo_count_10 : decode b_Mo_count 10 = .ok (.getfield 13, 3) := by decide +kernel
theorem d_Mo_count_13 : decode b_Mo_count 13 = .ok (.goto 16, 3) := by decide +kernel
theorem d_Mo_count_16 : decode b_Mo_count 16 = .ok (.iload_n 1, 1) := by decide +kernel
theorem d_Mo_count_17 : decode b_Mo_count 17 = .ok (.iconst 1, 1) := by decide +kernel
theorem d_Mo_count_18 : decode b_Mo_count 18 = .ok (.if_icmp .ne 10, 3) := by decide +kernel
theorem d_Mo_count_21 : decode b_Mo_count 21 = .ok (.aload_n 0, 1) := by decide +kernel
theorem d_Mo_count_22 : decode b_Mo_count 22 = .ok (.getfield 28, 3) := by decide +kernel
theorem d_Mo_count_25 : decode b_Mo_count 25 = .ok (.goto 4, 3) := by decide +kernel
theorem d_Mo_count_28 : decode b_Mo_count 28 = .ok (.iconst (-1), 1) := by decide +kernel
theorem d_Mo_count_29 : decode b_Mo_count 29 = .ok (.ireturn, 1) := by decide +kernel
abbrev ws_Mo_count : List Cond := .code y_Mo_count b_Mo_count 2 (Option.some .int) :: TB
