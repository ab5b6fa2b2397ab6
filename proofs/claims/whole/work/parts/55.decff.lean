/-! decode rows, by my own program -/
abbrev b_Ff_init : ByteArray := prog_1_method_1_code
theorem d_Ff_init_0 : decode b_Ff_init 0 = .ok (.aload_n 0, 1) := by decide +kernel
theorem d_Ff_init_1 : decode b_Ff_init 1 = .ok (.invokespecial 3, 3) := by decide +kernel
theorem d_Ff_init_4 : decode b_Ff_init 4 = .ok (.aload_n 0, 1) := by decide +kernel
theorem d_Ff_init_5 : decode b_Ff_init 5 = .ok (.new 9, 3) := by decide +kernel
theorem d_Ff_init_8 : decode b_Ff_init 8 = .ok (.dup, 1) := by decide +kernel
theorem d_Ff_init_9 : decode b_Ff_init 9 = .ok (.invokespecial 11, 3) := by decide +kernel
theorem d_Ff_init_12 : decode b_Ff_init 12 = .ok (.putfield 12, 3) := by decide +kernel
theorem d_Ff_init_15 : decode b_Ff_init 15 = .ok (.aload_n 0, 1) := by decide +kernel
theorem d_Ff_init_16 : decode b_Ff_init 16 = .ok (.new 16, 3) := by decide +kernel
theorem d_Ff_init_19 : decode b_Ff_init 19 = .ok (.dup, 1) := by decide +kernel
theorem d_Ff_init_20 : decode b_Ff_init 20 = .ok (.aload_n 0, 1) := by decide +kernel
theorem d_Ff_init_21 : decode b_Ff_init 21 = .ok (.getfield 12, 3) := by decide +kernel
theorem d_Ff_init_24 : decode b_Ff_init 24 = .ok (.invokespecial 18, 3) := by decide +kernel
theorem d_Ff_init_27 : decode b_Ff_init 27 = .ok (.putfield 21, 3) := by decide +kernel
theorem d_Ff_init_30 : decode b_Ff_init 30 = .ok (.aload_n 0, 1) := by decide +kernel
theorem d_Ff_init_31 : decode b_Ff_init 31 = .ok (.new 25, 3) := by decide +kernel
theorem d_Ff_init_34 : decode b_Ff_init 34 = .ok (.dup, 1) := by decide +kernel
theorem d_Ff_init_35 : decode b_Ff_init 35 = .ok (.aload_n 0, 1) := by decide +kernel
theorem d_Ff_init_36 : decode b_Ff_init 36 = .ok (.getfield 12, 3) := by decide +kernel
theorem d_Ff_init_39 : decode b_Ff_init 39 = .ok (.invokespecial 27, 3) := by decide +kernel
theorem d_Ff_init_42 : decode b_Ff_init 42 = .ok (.putfield 28, 3) := by decide +kernel
theorem d_Ff_init_45 : decode b_Ff_init 45 = .ok (.aload_n 0, 1) := by decide +kernel
theorem d_Ff_init_46 : decode b_Ff_init 46 = .ok (.bipush 16, 2) := by decide +kernel
theorem d_Ff_init_48 : decode b_Ff_init 48 = .ok (.anewarray 32, 3) := by decide +kernel
theorem d_Ff_init_51 : decode b_Ff_init 51 = .ok (.putfield 34, 3) := by decide +kernel
theorem d_Ff_init_54 : decode b_Ff_init 54 = .ok (.iconst 0, 1) := by decide +kernel
theorem d_Ff_init_55 : decode b_Ff_init 55 = .ok (.istore_n 1, 1) := by decide +kernel
theorem d_Ff_init_56 : decode b_Ff_init 56 = .ok (.iload_n 1, 1) := by decide +kernel
theorem d_Ff_init_57 : decode b_Ff_init 57 = .ok (.bipush 16, 2) := by decide +kernel
theorem d_Ff_init_59 : decode b_Ff_init 59 = .ok (.if_icmp .ge 24, 3) := by decide +kernel
theorem d_Ff_init_62 : decode b_Ff_init 62 = .ok (.aload_n 0, 1) := by decide +kernel
theorem d_Ff_init_63 : decode b_Ff_init 63 = .ok (.getfield 34, 3) := by decide +kernel
theorem d_Ff_init_66 : decode b_Ff_init 66 = .ok (.iload_n 1, 1) := by decide +kernel
theorem d_Ff_init_67 : decode b_Ff_init 67 = .ok (.new 32, 3) := by decide +kernel
theorem d_Ff_init_70 : decode b_Ff_init 70 = .ok (.dup, 1) := by decide +kernel
theorem d_Ff_init_71 : decode b_Ff_init 71 = .ok (.bipush 25, 2) := by decide +kernel
theorem d_Ff_init_73 : decode b_Ff_init 73 = .ok (.invokespecial 38, 3) := by decide +kernel
theorem d_Ff_init_76 : decode b_Ff_init 76 = .ok (.aastore, 1) := by decide +kernel
theorem d_Ff_init_77 : decode b_Ff_init 77 = .ok (.iinc 1 1, 3) := by decide +kernel
theorem d_Ff_init_80 : decode b_Ff_init 80 = .ok (.goto (-24), 3) := by decide +kernel
theorem d_Ff_init_83 : decode b_Ff_init 83 = .ok (.aload_n 0, 1) := by decide +kernel
theorem d_Ff_init_84 : decode b_Ff_init 84 = .ok (.new 32, 3) := by decide +kernel
theorem d_Ff_init_87 : decode b_Ff_init 87 = .ok (.dup, 1) := by decide +kernel
theorem d_Ff_init_88 : decode b_Ff_init 88 = .ok (.bipush 25, 2) := by decide +kernel
theorem d_Ff_init_90 : decode b_Ff_init 90 = .ok (.invokespecial 38, 3) := by decide +kernel
theorem d_Ff_init_93 : decode b_Ff_init 93 = .ok (.putfield 41, 3) := by decide +kernel
theorem d_Ff_init_96 : decode b_Ff_init 96 = .ok (.aload_n 0, 1) := by decide +kernel
theorem d_Ff_init_97 : decode b_Ff_init 97 = .ok (.new 32, 3) := by decide +kernel
theorem d_Ff_init_100 : decode b_Ff_init 100 = .ok (.dup, 1) := by decide +kernel
theorem d_Ff_init_101 : decode b_Ff_init 101 = .ok (.bipush 25, 2) := by decide +kernel
theorem d_Ff_init_103 : decode b_Ff_init 103 = .ok (.invokespecial 38, 3) := by decide +kernel
theorem d_Ff_init_106 : decode b_Ff_init 106 = .ok (.putfield 45, 3) := by decide +kernel
theorem d_Ff_init_109 : decode b_Ff_init 109 = .ok (.return_, 1) := by decide +kernel
abbrev ws_Ff_init : List Cond := .code y_Ff_init b_Ff_init 2 none :: TB
abbrev b_Ff_field : ByteArray := prog_1_method_2_code
theorem d_Ff_field_0 : decode b_Ff_field 0 = .ok (.iload_n 1, 1) := by decide +kernel
theorem d_Ff_field_1 : decode b_Ff_field 1 = .ok (.invokestatic 48, 3) := by decide +kernel
theorem d_Ff_field_4 : decode b_Ff_field 4 = .ok (.ifCond .ge 13, 3) := by decide +kernel
theorem d_Ff_field_7 : decode b_Ff_field 7 = .ok (.new 52, 3) := by decide +kernel
theorem d_Ff_field_10 : decode b_Ff_field 10 = .ok (.dup, 1) := by decide +kernel
theorem d_Ff_field_11 : decode b_Ff_field 11 = .ok (.ldc 54, 2) := by decide +kernel
theorem d_Ff_field_13 : decode b_Ff_field 13 = .ok (.invokespecial 56, 3) := by decide +kernel
theorem d_Ff_field_16 : decode b_Ff_field 16 = .ok (.athrow, 1) := by decide +kernel
theorem d_Ff_field_17 : decode b_Ff_field 17 = .ok (.aload_n 0, 1) := by decide +kernel
theorem d_Ff_field_18 : decode b_Ff_field 18 = .ok (.getfield 12, 3) := by decide +kernel
theorem d_Ff_field_21 : decode b_Ff_field 21 = .ok (.getfield 59, 3) := by decide +kernel
theorem d_Ff_field_24 : decode b_Ff_field 24 = .ok (.istore_n 2, 1) := by decide +kernel
theorem d_Ff_field_25 : decode b_Ff_field 25 = .ok (.aload_n 0, 1) := by decide +kernel
theorem d_Ff_field_26 : decode b_Ff_field 26 = .ok (.getfield 12, 3) := by decide +kernel
theorem d_Ff_field_29 : decode b_Ff_field 29 = .ok (.iload_n 1, 1) := by decide +kernel
theorem d_Ff_field_30 : decode b_Ff_field 30 = .ok (.invokevirtual 63, 3) := by decide +kernel
theorem d_Ff_field_33 : decode b_Ff_field 33 = .ok (.iconst 0, 1) := by decide +kernel
theorem d_Ff_field_34 : decode b_Ff_field 34 = .ok (.istore_n 3, 1) := by decide +kernel
theorem d_Ff_field_35 : decode b_Ff_field 35 = .ok (.iload_n 3, 1) := by decide +kernel
theorem d_Ff_field_36 : decode b_Ff_field 36 = .ok (.bipush 16, 2) := by decide +kernel
theorem d_Ff_field_38 : decode b_Ff_field 38 = .ok (.if_icmp .ge 18, 3) := by decide +kernel
theorem d_Ff_field_41 : decode b_Ff_field 41 = .ok (.aload_n 0, 1) := by decide +kernel
theorem d_Ff_field_42 : decode b_Ff_field 42 = .ok (.getfield 34, 3) := by decide +kernel
theorem d_Ff_field_45 : decode b_Ff_field 45 = .ok (.iload_n 3, 1) := by decide +kernel
theorem d_Ff_field_46 : decode b_Ff_field 46 = .ok (.aaload, 1) := by decide +kernel
theorem d_Ff_field_47 : decode b_Ff_field 47 = .ok (.invokevirtual 66, 3) := by decide +kernel
theorem d_Ff_field_50 : decode b_Ff_field 50 = .ok (.iinc 3 1, 3) := by decide +kernel
theorem d_Ff_field_53 : decode b_Ff_field 53 = .ok (.goto (-18), 3) := by decide +kernel
theorem d_Ff_field_56 : decode b_Ff_field 56 = .ok (.aload_n 0, 1) := by decide +kernel
theorem d_Ff_field_57 : decode b_Ff_field 57 = .ok (.getfield 21, 3) := by decide +kernel
theorem d_Ff_field_60 : decode b_Ff_field 60 = .ok (.invokevirtual 69, 3) := by decide +kernel
theorem d_Ff_field_63 : decode b_Ff_field 63 = .ok (.iload_n 2, 1) := by decide +kernel
theorem d_Ff_field_64 : decode b_Ff_field 64 = .ok (.ireturn, 1) := by decide +kernel
abbrev ws_Ff_field : List Cond := .code y_Ff_field b_Ff_field 4 (Option.some .int) :: TB
abbrev b_Ff_set : ByteArray := prog_1_method_3_code
theorem d_Ff_set_0 : decode b_Ff_set 0 = .ok (.aload_n 0, 1) := by decide +kernel
theorem d_Ff_set_1 : decode b_Ff_set 1 = .ok (.iload_n 1, 1) := by decide +kernel
theorem d_Ff_set_2 : decode b_Ff_set 2 = .ok (.invokevirtual 72, 3) := by decide +kernel
theorem d_Ff_set_5 : decode b_Ff_set 5 = .ok (.astore 4, 2) := by decide +kernel
theorem d_Ff_set_7 : decode b_Ff_set 7 = .ok (.iload_n 2, 1) := by decide +kernel
theorem d_Ff_set_8 : decode b_Ff_set 8 = .ok (.invokestatic 76, 3) := by decide +kernel
theorem d_Ff_set_11 : decode b_Ff_set 11 = .ok (.aload 4, 2) := by decide +kernel
theorem d_Ff_set_13 : decode b_Ff_set 13 = .ok (.getfield 79, 3) := by decide +kernel
theorem d_Ff_set_16 : decode b_Ff_set 16 = .ok (.iload_n 2, 1) := by decide +kernel
theorem d_Ff_set_17 : decode b_Ff_set 17 = .ok (.iaload, 1) := by decide +kernel
theorem d_Ff_set_18 : decode b_Ff_set 18 = .ok (.istore 5, 2) := by decide +kernel
theorem d_Ff_set_20 : decode b_Ff_set 20 = .ok (.aload 4, 2) := by decide +kernel
theorem d_Ff_set_22 : decode b_Ff_set 22 = .ok (.iload_n 2, 1) := by decide +kernel
theorem d_Ff_set_23 : decode b_Ff_set 23 = .ok (.iload_n 3, 1) := by decide +kernel
theorem d_Ff_set_24 : decode b_Ff_set 24 = .ok (.aload_n 0, 1) := by decide +kernel
theorem d_Ff_set_25 : decode b_Ff_set 25 = .ok (.getfield 12, 3) := by decide +kernel
theorem d_Ff_set_28 : decode b_Ff_set 28 = .ok (.getfield 59, 3) := by decide +kernel
theorem d_Ff_set_31 : decode b_Ff_set 31 = .ok (.invokestatic 83, 3) := by decide +kernel
theorem d_Ff_set_34 : decode b_Ff_set 34 = .ok (.invokevirtual 89, 3) := by decide +kernel
theorem d_Ff_set_37 : decode b_Ff_set 37 = .ok (.iload 5, 2) := by decide +kernel
theorem d_Ff_set_39 : decode b_Ff_set 39 = .ok (.ireturn, 1) := by decide +kernel
abbrev ws_Ff_set : List Cond := .code y_Ff_set b_Ff_set 6 (Option.some .int) :: TB
abbrev b_Ff_get : ByteArray := prog_1_method_4_code
theorem d_Ff_get_0 : decode b_Ff_get 0 = .ok (.aload_n 0, 1) := by decide +kernel
theorem d_Ff_get_1 : decode b_Ff_get 1 = .ok (.iload_n 1, 1) := by decide +kernel
theorem d_Ff_get_2 : decode b_Ff_get 2 = .ok (.invokevirtual 72, 3) := by decide +kernel
theorem d_Ff_get_5 : decode b_Ff_get 5 = .ok (.astore_n 3, 1) := by decide +kernel
theorem d_Ff_get_6 : decode b_Ff_get 6 = .ok (.iload_n 2, 1) := by decide +kernel
theorem d_Ff_get_7 : decode b_Ff_get 7 = .ok (.invokestatic 76, 3) := by decide +kernel
theorem d_Ff_get_10 : decode b_Ff_get 10 = .ok (.aload_n 3, 1) := by decide +kernel
theorem d_Ff_get_11 : decode b_Ff_get 11 = .ok (.getfield 79, 3) := by decide +kernel
theorem d_Ff_get_14 : decode b_Ff_get 14 = .ok (.iload_n 2, 1) := by decide +kernel
theorem d_Ff_get_15 : decode b_Ff_get 15 = .ok (.iaload, 1) := by decide +kernel
theorem d_Ff_get_16 : decode b_Ff_get 16 = .ok (.ireturn, 1) := by decide +kernel
abbrev ws_Ff_get : List Cond := .code y_Ff_get b_Ff_get 4 (Option.some .int) :: TB
abbrev b_Ff_join : ByteArray := prog_1_method_5_code
theorem d_Ff_join_0 : decode b_Ff_join 0 = .ok (.aload_n 0, 1) := by decide +kernel
theorem d_Ff_join_1 : decode b_Ff_join 1 = .ok (.iload_n 1, 1) := by decide +kernel
theorem d_Ff_join_2 : decode b_Ff_join 2 = .ok (.invokevirtual 72, 3) := by decide +kernel
theorem d_Ff_join_5 : decode b_Ff_join 5 = .ok (.astore 5, 2) := by decide +kernel
theorem d_Ff_join_7 : decode b_Ff_join 7 = .ok (.aload_n 0, 1) := by decide +kernel
theorem d_Ff_join_8 : decode b_Ff_join 8 = .ok (.iload_n 3, 1) := by decide +kernel
theorem d_Ff_join_9 : decode b_Ff_join 9 = .ok (.invokevirtual 72, 3) := by decide +kernel
theorem d_Ff_join_12 : decode b_Ff_join 12 = .ok (.astore 6, 2) := by decide +kernel
theorem d_Ff_join_14 : decode b_Ff_join 14 = .ok (.aload_n 0, 1) := by decide +kernel
theorem d_Ff_join_15 : decode b_Ff_join 15 = .ok (.iload 4, 2) := by decide +kernel
theorem d_Ff_join_17 : decode b_Ff_join 17 = .ok (.invokevirtual 72, 3) := by decide +kernel
theorem d_Ff_join_20 : decode b_Ff_join 20 = .ok (.astore 7, 2) := by decide +kernel
theorem d_Ff_join_22 : decode b_Ff_join 22 = .ok (.iload_n 2, 1) := by decide +kernel
theorem d_Ff_join_23 : decode b_Ff_join 23 = .ok (.ifCond .lt 9, 3) := by decide +kernel
theorem d_Ff_join_26 : decode b_Ff_join 26 = .ok (.iload_n 2, 1) := by decide +kernel
theorem d_Ff_join_27 : decode b_Ff_join 27 = .ok (.bipush 7, 2) := by decide +kernel
theorem d_Ff_join_29 : decode b_Ff_join 29 = .ok (.if_icmp .le 13, 3) := by decide +kernel
theorem d_Ff_join_32 : decode b_Ff_join 32 = .ok (.new 52, 3) := by decide +kernel
theorem d_Ff_join_35 : decode b_Ff_join 35 = .ok (.dup, 1) := by decide +kernel
theorem d_Ff_join_36 : decode b_Ff_join 36 = .ok (.ldc 93, 2) := by decide +kernel
theorem d_Ff_join_38 : decode b_Ff_join 38 = .ok (.invokespecial 56, 3) := by decide +kernel
theorem d_Ff_join_41 : decode b_Ff_join 41 = .ok (.athrow, 1) := by decide +kernel
theorem d_Ff_join_42 : decode b_Ff_join 42 = .ok (.iload_n 2, 1) := by decide +kernel
theorem d_Ff_join_43 : decode b_Ff_join 43 = .ok (.iconst 3, 1) := by decide +kernel
theorem d_Ff_join_44 : decode b_Ff_join 44 = .ok (.if_icmp .eq 8, 3) := by decide +kernel
theorem d_Ff_join_47 : decode b_Ff_join 47 = .ok (.iload_n 2, 1) := by decide +kernel
theorem d_Ff_join_48 : decode b_Ff_join 48 = .ok (.iconst 4, 1) := by decide +kernel
theorem d_Ff_join_49 : decode b_Ff_join 49 = .ok (.if_icmp .ne 21, 3) := by decide +kernel
theorem d_Ff_join_52 : decode b_Ff_join 52 = .ok (.aload 7, 2) := by decide +kernel
theorem d_Ff_join_54 : decode b_Ff_join 54 = .ok (.getfield 95, 3) := by decide +kernel
theorem d_Ff_join_57 : decode b_Ff_join 57 = .ok (.ifCond .ge 13, 3) := by decide +kernel
theorem d_Ff_join_60 : decode b_Ff_join 60 = .ok (.new 52, 3) := by decide +kernel
theorem d_Ff_join_63 : decode b_Ff_join 63 = .ok (.dup, 1) := by decide +kernel
theorem d_Ff_join_64 : decode b_Ff_join 64 = .ok (.ldc 98, 2) := by decide +kernel
theorem d_Ff_join_66 : decode b_Ff_join 66 = .ok (.invokespecial 56, 3) := by decide +kernel
theorem d_Ff_join_69 : decode b_Ff_join 69 = .ok (.athrow, 1) := by decide +kernel
theorem d_Ff_join_70 : decode b_Ff_join 70 = .ok (.iload_n 2, 1) := by decide +kernel
theorem d_Ff_join_71 : decode b_Ff_join 71 = .ok (.iconst 2, 1) := by decide +kernel
theorem d_Ff_join_72 : decode b_Ff_join 72 = .ok (.if_icmp .ne 29, 3) := by decide +kernel
theorem d_Ff_join_75 : decode b_Ff_join 75 = .ok (.aload 6, 2) := by decide +kernel
theorem d_Ff_join_77 : decode b_Ff_join 77 = .ok (.getfield 95, 3) := by decide +kernel
theorem d_Ff_join_80 : decode b_Ff_join 80 = .ok (.aload 7, 2) := by decide +kernel
theorem d_Ff_join_82 : decode b_Ff_join 82 = .ok (.getfield 95, 3) := by decide +kernel
theorem d_Ff_join_85 : decode b_Ff_join 85 = .ok (.iadd, 1) := by decide +kernel
theorem d_Ff_join_86 : decode b_Ff_join 86 = .ok (.bipush 24, 2) := by decide +kernel
theorem d_Ff_join_88 : decode b_Ff_join 88 = .ok (.if_icmp .le 13, 3) := by decide +kernel
theorem d_Ff_join_91 : decode b_Ff_join 91 = .ok (.new 100, 3) := by decide +kernel
theorem d_Ff_join_94 : decode b_Ff_join 94 = .ok (.dup, 1) := by decide +kernel
theorem d_Ff_join_95 : decode b_Ff_join 95 = .ok (.ldc 102, 2) := by decide +kernel
theorem d_Ff_join_97 : decode b_Ff_join 97 = .ok (.invokespecial 104, 3) := by decide +kernel
theorem d_Ff_join_100 : decode b_Ff_join 100 = .ok (.athrow, 1) := by decide +kernel
theorem d_Ff_join_101 : decode b_Ff_join 101 = .ok (.aload_n 0, 1) := by decide +kernel
theorem d_Ff_join_102 : decode b_Ff_join 102 = .ok (.iload_n 2, 1) := by decide +kernel
theorem d_Ff_join_103 : decode b_Ff_join 103 = .ok (.aload 6, 2) := by decide +kernel
theorem d_Ff_join_105 : decode b_Ff_join 105 = .ok (.aload 7, 2) := by decide +kernel
theorem d_Ff_join_107 : decode b_Ff_join 107 = .ok (.invokevirtual 105, 3) := by decide +kernel
theorem d_Ff_join_110 : decode b_Ff_join 110 = .ok (.aload_n 0, 1) := by decide +kernel
theorem d_Ff_join_111 : decode b_Ff_join 111 = .ok (.aload 5, 2) := by decide +kernel
theorem d_Ff_join_113 : decode b_Ff_join 113 = .ok (.invokevirtual 109, 3) := by decide +kernel
theorem d_Ff_join_116 : decode b_Ff_join 116 = .ok (.ireturn, 1) := by decide +kernel
abbrev ws_Ff_join : List Cond := .code y_Ff_join b_Ff_join 8 (Option.some .int) :: TB
abbrev b_Ff_power : ByteArray := prog_1_method_6_code
theorem d_Ff_power_0 : decode b_Ff_power 0 = .ok (.aload_n 0, 1) := by decide +kernel
theorem d_Ff_power_1 : decode b_Ff_power 1 = .ok (.iload_n 1, 1) := by decide +kernel
theorem d_Ff_power_2 : decode b_Ff_power 2 = .ok (.invokevirtual 72, 3) := by decide +kernel
theorem d_Ff_power_5 : decode b_Ff_power 5 = .ok (.astore 5, 2) := by decide +kernel
theorem d_Ff_power_7 : decode b_Ff_power 7 = .ok (.aload_n 0, 1) := by decide +kernel
theorem d_Ff_power_8 : decode b_Ff_power 8 = .ok (.iload_n 2, 1) := by decide +kernel
theorem d_Ff_power_9 : decode b_Ff_power 9 = .ok (.invokevirtual 72, 3) := by decide +kernel
theorem d_Ff_power_12 : decode b_Ff_power 12 = .ok (.astore 6, 2) := by decide +kernel
theorem d_Ff_power_14 : decode b_Ff_power 14 = .ok (.aload_n 0, 1) := by decide +kernel
theorem d_Ff_power_15 : decode b_Ff_power 15 = .ok (.iload 4, 2) := by decide +kernel
theorem d_Ff_power_17 : decode b_Ff_power 17 = .ok (.invokevirtual 72, 3) := by decide +kernel
theorem d_Ff_power_20 : decode b_Ff_power 20 = .ok (.astore 7, 2) := by decide +kernel
theorem d_Ff_power_22 : decode b_Ff_power 22 = .ok (.iload_n 3, 1) := by decide +kernel
theorem d_Ff_power_23 : decode b_Ff_power 23 = .ok (.ifCond .ge 13, 3) := by decide +kernel
theorem d_Ff_power_26 : decode b_Ff_power 26 = .ok (.new 52, 3) := by decide +kernel
theorem d_Ff_power_29 : decode b_Ff_power 29 = .ok (.dup, 1) := by decide +kernel
theorem d_Ff_power_30 : decode b_Ff_power 30 = .ok (.ldc 113, 2) := by decide +kernel
theorem d_Ff_power_32 : decode b_Ff_power 32 = .ok (.invokespecial 56, 3) := by decide +kernel
theorem d_Ff_power_35 : decode b_Ff_power 35 = .ok (.athrow, 1) := by decide +kernel
theorem d_Ff_power_36 : decode b_Ff_power 36 = .ok (.aload 7, 2) := by decide +kernel
theorem d_Ff_power_38 : decode b_Ff_power 38 = .ok (.invokestatic 115, 3) := by decide +kernel
theorem d_Ff_power_41 : decode b_Ff_power 41 = .ok (.aload_n 0, 1) := by decide +kernel
theorem d_Ff_power_42 : decode b_Ff_power 42 = .ok (.getfield 12, 3) := by decide +kernel
theorem d_Ff_power_45 : decode b_Ff_power 45 = .ok (.aload_n 0, 1) := by decide +kernel
theorem d_Ff_power_46 : decode b_Ff_power 46 = .ok (.getfield 41, 3) := by decide +kernel
theorem d_Ff_power_49 : decode b_Ff_power 49 = .ok (.aload 6, 2) := by decide +kernel
theorem d_Ff_power_51 : decode b_Ff_power 51 = .ok (.iload_n 3, 1) := by decide +kernel
theorem d_Ff_power_52 : decode b_Ff_power 52 = .ok (.aload 7, 2) := by decide +kernel
theorem d_Ff_power_54 : decode b_Ff_power 54 = .ok (.invokevirtual 119, 3) := by decide +kernel
theorem d_Ff_power_57 : decode b_Ff_power 57 = .ok (.aload_n 0, 1) := by decide +kernel
theorem d_Ff_power_58 : decode b_Ff_power 58 = .ok (.aload 5, 2) := by decide +kernel
theorem d_Ff_power_60 : decode b_Ff_power 60 = .ok (.invokevirtual 109, 3) := by decide +kernel
theorem d_Ff_power_63 : decode b_Ff_power 63 = .ok (.ireturn, 1) := by decide +kernel
abbrev ws_Ff_power : List Cond := .code y_Ff_power b_Ff_power 8 (Option.some .int) :: TB
abbrev b_Ff_inverse : ByteArray := prog_1_method_7_code
theorem d_Ff_inverse_0 : decode b_Ff_inverse 0 = .ok (.aload_n 0, 1) := by decide +kernel
theorem d_Ff_inverse_1 : decode b_Ff_inverse 1 = .ok (.iload_n 1, 1) := by decide +kernel
theorem d_Ff_inverse_2 : decode b_Ff_inverse 2 = .ok (.invokevirtual 72, 3) := by decide +kernel
theorem d_Ff_inverse_5 : decode b_Ff_inverse 5 = .ok (.astore 4, 2) := by decide +kernel
theorem d_Ff_inverse_7 : decode b_Ff_inverse 7 = .ok (.aload_n 0, 1) := by decide +kernel
theorem d_Ff_inverse_8 : decode b_Ff_inverse 8 = .ok (.iload_n 2, 1) := by decide +kernel
theorem d_Ff_inverse_9 : decode b_Ff_inverse 9 = .ok (.invokevirtual 72, 3) := by decide +kernel
theorem d_Ff_inverse_12 : decode b_Ff_inverse 12 = .ok (.astore 5, 2) := by decide +kernel
theorem d_Ff_inverse_14 : decode b_Ff_inverse 14 = .ok (.aload_n 0, 1) := by decide +kernel
theorem d_Ff_inverse_15 : decode b_Ff_inverse 15 = .ok (.iload_n 3, 1) := by decide +kernel
theorem d_Ff_inverse_16 : decode b_Ff_inverse 16 = .ok (.invokevirtual 72, 3) := by decide +kernel
theorem d_Ff_inverse_19 : decode b_Ff_inverse 19 = .ok (.astore 6, 2) := by decide +kernel
theorem d_Ff_inverse_21 : decode b_Ff_inverse 21 = .ok (.aload 6, 2) := by decide +kernel
theorem d_Ff_inverse_23 : decode b_Ff_inverse 23 = .ok (.invokestatic 115, 3) := by decide +kernel
theorem d_Ff_inverse_26 : decode b_Ff_inverse 26 = .ok (.aload_n 0, 1) := by decide +kernel
theorem d_Ff_inverse_27 : decode b_Ff_inverse 27 = .ok (.getfield 12, 3) := by decide +kernel
theorem d_Ff_inverse_30 : decode b_Ff_inverse 30 = .ok (.aload_n 0, 1) := by decide +kernel
theorem d_Ff_inverse_31 : decode b_Ff_inverse 31 = .ok (.getfield 41, 3) := by decide +kernel
theorem d_Ff_inverse_34 : decode b_Ff_inverse 34 = .ok (.aload 5, 2) := by decide +kernel
theorem d_Ff_inverse_36 : decode b_Ff_inverse 36 = .ok (.aload 6, 2) := by decide +kernel
theorem d_Ff_inverse_38 : decode b_Ff_inverse 38 = .ok (.invokevirtual 123, 3) := by decide +kernel
theorem d_Ff_inverse_41 : decode b_Ff_inverse 41 = .ok (.ifCond .ne 13, 3) := by decide +kernel
theorem d_Ff_inverse_44 : decode b_Ff_inverse 44 = .ok (.new 127, 3) := by decide +kernel
theorem d_Ff_inverse_47 : decode b_Ff_inverse 47 = .ok (.dup, 1) := by decide +kernel
theorem d_Ff_inverse_48 : decode b_Ff_inverse 48 = .ok (.ldc 129, 2) := by decide +kernel
theorem d_Ff_inverse_50 : decode b_Ff_inverse 50 = .ok (.invokespecial 131, 3) := by decide +kernel
theorem d_Ff_inverse_53 : decode b_Ff_inverse 53 = .ok (.athrow, 1) := by decide +kernel
theorem d_Ff_inverse_54 : decode b_Ff_inverse 54 = .ok (.aload_n 0, 1) := by decide +kernel
theorem d_Ff_inverse_55 : decode b_Ff_inverse 55 = .ok (.aload 4, 2) := by decide +kernel
theorem d_Ff_inverse_57 : decode b_Ff_inverse 57 = .ok (.invokevirtual 109, 3) := by decide +kernel
theorem d_Ff_inverse_60 : decode b_Ff_inverse 60 = .ok (.ireturn, 1) := by decide +kernel
abbrev ws_Ff_inverse : List Cond := .code y_Ff_inverse b_Ff_inverse 7 (Option.some .int) :: TB
abbrev b_Ff_value : ByteArray := prog_1_method_8_code
theorem d_Ff_value_0 : decode b_Ff_value 0 = .ok (.aload_n 0, 1) := by decide +kernel
theorem d_Ff_value_1 : decode b_Ff_value 1 = .ok (.getfield 12, 3) := by decide +kernel
theorem d_Ff_value_4 : decode b_Ff_value 4 = .ok (.aload_n 0, 1) := by decide +kernel
theorem d_Ff_value_5 : decode b_Ff_value 5 = .ok (.iload_n 1, 1) := by decide +kernel
theorem d_Ff_value_6 : decode b_Ff_value 6 = .ok (.invokevirtual 72, 3) := by decide +kernel
theorem d_Ff_value_9 : decode b_Ff_value 9 = .ok (.iload_n 2, 1) := by decide +kernel
theorem d_Ff_value_10 : decode b_Ff_value 10 = .ok (.aload_n 0, 1) := by decide +kernel
theorem d_Ff_value_11 : decode b_Ff_value 11 = .ok (.getfield 12, 3) := by decide +kernel
theorem d_Ff_value_14 : decode b_Ff_value 14 = .ok (.getfield 59, 3) := by decide +kernel
theorem d_Ff_value_17 : decode b_Ff_value 17 = .ok (.invokestatic 83, 3) := by decide +kernel
theorem d_Ff_value_20 : decode b_Ff_value 20 = .ok (.invokevirtual 132, 3) := by decide +kernel
theorem d_Ff_value_23 : decode b_Ff_value 23 = .ok (.ireturn, 1) := by decide +kernel
abbrev ws_Ff_value : List Cond := .code y_Ff_value b_Ff_value 3 (Option.some .int) :: TB
abbrev b_Ff_zeros : ByteArray := prog_1_method_9_code
theorem d_Ff_zeros_0 : decode b_Ff_zeros 0 = .ok (.aload_n 0, 1) := by decide +kernel
theorem d_Ff_zeros_1 : decode b_Ff_zeros 1 = .ok (.iload_n 1, 1) := by decide +kernel
theorem d_Ff_zeros_2 : decode b_Ff_zeros 2 = .ok (.invokevirtual 72, 3) := by decide +kernel
theorem d_Ff_zeros_5 : decode b_Ff_zeros 5 = .ok (.astore_n 2, 1) := by decide +kernel
theorem d_Ff_zeros_6 : decode b_Ff_zeros 6 = .ok (.iconst 0, 1) := by decide +kernel
theorem d_Ff_zeros_7 : decode b_Ff_zeros 7 = .ok (.istore_n 3, 1) := by decide +kernel
theorem d_Ff_zeros_8 : decode b_Ff_zeros 8 = .ok (.iconst 0, 1) := by decide +kernel
theorem d_Ff_zeros_9 : decode b_Ff_zeros 9 = .ok (.istore 4, 2) := by decide +kernel
theorem d_Ff_zeros_11 : decode b_Ff_zeros 11 = .ok (.iload 4, 2) := by decide +kernel
theorem d_Ff_zeros_13 : decode b_Ff_zeros 13 = .ok (.aload_n 0, 1) := by decide +kernel
theorem d_Ff_zeros_14 : decode b_Ff_zeros 14 = .ok (.getfield 12, 3) := by decide +kernel
theorem d_Ff_zeros_17 : decode b_Ff_zeros 17 = .ok (.getfield 59, 3) := by decide +kernel
theorem d_Ff_zeros_20 : decode b_Ff_zeros 20 = .ok (.if_icmp .ge 25, 3) := by decide +kernel
theorem d_Ff_zeros_23 : decode b_Ff_zeros 23 = .ok (.aload_n 0, 1) := by decide +kernel
theorem d_Ff_zeros_24 : decode b_Ff_zeros 24 = .ok (.getfield 12, 3) := by decide +kernel
theorem d_Ff_zeros_27 : decode b_Ff_zeros 27 = .ok (.aload_n 2, 1) := by decide +kernel
theorem d_Ff_zeros_28 : decode b_Ff_zeros 28 = .ok (.iload 4, 2) := by decide +kernel
theorem d_Ff_zeros_30 : decode b_Ff_zeros 30 = .ok (.invokevirtual 132, 3) := by decide +kernel
theorem d_Ff_zeros_33 : decode b_Ff_zeros 33 = .ok (.ifCond .ne 6, 3) := by decide +kernel
theorem d_Ff_zeros_36 : decode b_Ff_zeros 36 = .ok (.iinc 3 1, 3) := by decide +kernel
theorem d_Ff_zeros_39 : decode b_Ff_zeros 39 = .ok (.iinc 4 1, 3) := by decide +kernel
theorem d_Ff_zeros_42 : decode b_Ff_zeros 42 = .ok (.goto (-31), 3) := by decide +kernel
theorem d_Ff_zeros_45 : decode b_Ff_zeros 45 = .ok (.iload_n 3, 1) := by decide +kernel
theorem d_Ff_zeros_46 : decode b_Ff_zeros 46 = .ok (.ireturn, 1) := by decide +kernel
abbrev ws_Ff_zeros : List Cond := .code y_Ff_zeros b_Ff_zeros 5 (Option.some .int) :: TB
abbrev b_Ff_factor : ByteArray := prog_1_method_10_code
theorem d_Ff_factor_0 : decode b_Ff_factor 0 = .ok (.aload_n 0, 1) := by decide +kernel
theorem d_Ff_factor_1 : decode b_Ff_factor 1 = .ok (.iload_n 1, 1) := by decide +kernel
theorem d_Ff_factor_2 : decode b_Ff_factor 2 = .ok (.invokevirtual 72, 3) := by decide +kernel
theorem d_Ff_factor_5 : decode b_Ff_factor 5 = .ok (.astore_n 2, 1) := by decide +kernel
theorem d_Ff_factor_6 : decode b_Ff_factor 6 = .ok (.aload_n 2, 1) := by decide +kernel
theorem d_Ff_factor_7 : decode b_Ff_factor 7 = .ok (.invokestatic 136, 3) := by decide +kernel
theorem d_Ff_factor_10 : decode b_Ff_factor 10 = .ok (.aload_n 2, 1) := by decide +kernel
theorem d_Ff_factor_11 : decode b_Ff_factor 11 = .ok (.getfield 95, 3) := by decide +kernel
theorem d_Ff_factor_14 : decode b_Ff_factor 14 = .ok (.aload_n 0, 1) := by decide +kernel
theorem d_Ff_factor_15 : decode b_Ff_factor 15 = .ok (.invokevirtual 139, 3) := by decide +kernel
theorem d_Ff_factor_18 : decode b_Ff_factor 18 = .ok (.if_icmp .le 13, 3) := by decide +kernel
theorem d_Ff_factor_21 : decode b_Ff_factor 21 = .ok (.new 52, 3) := by decide +kernel
theorem d_Ff_factor_24 : decode b_Ff_factor 24 = .ok (.dup, 1) := by decide +kernel
theorem d_Ff_factor_25 : decode b_Ff_factor 25 = .ok (.ldc 143, 2) := by decide +kernel
theorem d_Ff_factor_27 : decode b_Ff_factor 27 = .ok (.invokespecial 56, 3) := by decide +kernel
theorem d_Ff_factor_30 : decode b_Ff_factor 30 = .ok (.athrow, 1) := by decide +kernel
theorem d_Ff_factor_31 : decode b_Ff_factor 31 = .ok (.aload_n 0, 1) := by decide +kernel
theorem d_Ff_factor_32 : decode b_Ff_factor 32 = .ok (.getfield 21, 3) := by decide +kernel
theorem d_Ff_factor_35 : decode b_Ff_factor 35 = .ok (.aload_n 2, 1) := by decide +kernel
theorem d_Ff_factor_36 : decode b_Ff_factor 36 = .ok (.invokevirtual 145, 3) := by decide +kernel
theorem d_Ff_factor_39 : decode b_Ff_factor 39 = .ok (.aload_n 0, 1) := by decide +kernel
theorem d_Ff_factor_40 : decode b_Ff_factor 40 = .ok (.getfield 21, 3) := by decide +kernel
theorem d_Ff_factor_43 : decode b_Ff_factor 43 = .ok (.getfield 148, 3) := by decide +kernel
theorem d_Ff_factor_46 : decode b_Ff_factor 46 = .ok (.ireturn, 1) := by decide +kernel
abbrev ws_Ff_factor : List Cond := .code y_Ff_factor b_Ff_factor 3 (Option.some .int) :: TB
abbrev b_Ff_piece : ByteArray := prog_1_method_11_code
theorem d_Ff_piece_0 : decode b_Ff_piece 0 = .ok (.aload_n 0, 1) := by decide +kernel
theorem d_Ff_piece_1 : decode b_Ff_piece 1 = .ok (.iload_n 1, 1) := by decide +kernel
theorem d_Ff_piece_2 : decode b_Ff_piece 2 = .ok (.invokevirtual 72, 3) := by decide +kernel
theorem d_Ff_piece_5 : decode b_Ff_piece 5 = .ok (.astore_n 3, 1) := by decide +kernel
theorem d_Ff_piece_6 : decode b_Ff_piece 6 = .ok (.iload_n 2, 1) := by decide +kernel
theorem d_Ff_piece_7 : decode b_Ff_piece 7 = .ok (.ifCond .lt 14, 3) := by decide +kernel
theorem d_Ff_piece_10 : decode b_Ff_piece 10 = .ok (.iload_n 2, 1) := by decide +kernel
theorem d_Ff_piece_11 : decode b_Ff_piece 11 = .ok (.aload_n 0, 1) := by decide +kernel
theorem d_Ff_piece_12 : decode b_Ff_piece 12 = .ok (.getfield 21, 3) := by decide +kernel
theorem d_Ff_piece_15 : decode b_Ff_piece 15 = .ok (.getfield 148, 3) := by decide +kernel
theorem d_Ff_piece_18 : decode b_Ff_piece 18 = .ok (.if_icmp .lt 13, 3) := by decide +kernel
theorem d_Ff_piece_21 : decode b_Ff_piece 21 = .ok (.new 151, 3) := by decide +kernel
theorem d_Ff_piece_24 : decode b_Ff_piece 24 = .ok (.dup, 1) := by decide +kernel
theorem d_Ff_piece_25 : decode b_Ff_piece 25 = .ok (.ldc 153, 2) := by decide +kernel
theorem d_Ff_piece_27 : decode b_Ff_piece 27 = .ok (.invokespecial 155, 3) := by decide +kernel
theorem d_Ff_piece_30 : decode b_Ff_piece 30 = .ok (.athrow, 1) := by decide +kernel
theorem d_Ff_piece_31 : decode b_Ff_piece 31 = .ok (.aload_n 3, 1) := by decide +kernel
theorem d_Ff_piece_32 : decode b_Ff_piece 32 = .ok (.aload_n 0, 1) := by decide +kernel
theorem d_Ff_piece_33 : decode b_Ff_piece 33 = .ok (.getfield 21, 3) := by decide +kernel
theorem d_Ff_piece_36 : decode b_Ff_piece 36 = .ok (.getfield 156, 3) := by decide +kernel
theorem d_Ff_piece_39 : decode b_Ff_piece 39 = .ok (.iload_n 2, 1) := by decide +kernel
theorem d_Ff_piece_40 : decode b_Ff_piece 40 = .ok (.aaload, 1) := by decide +kernel
theorem d_Ff_piece_41 : decode b_Ff_piece 41 = .ok (.invokevirtual 159, 3) := by decide +kernel
theorem d_Ff_piece_44 : decode b_Ff_piece 44 = .ok (.aload_n 0, 1) := by decide +kernel
theorem d_Ff_piece_45 : decode b_Ff_piece 45 = .ok (.getfield 21, 3) := by decide +kernel
theorem d_Ff_piece_48 : decode b_Ff_piece 48 = .ok (.getfield 162, 3) := by decide +kernel
theorem d_Ff_piece_51 : decode b_Ff_piece 51 = .ok (.iload_n 2, 1) := by decide +kernel
theorem d_Ff_piece_52 : decode b_Ff_piece 52 = .ok (.iaload, 1) := by decide +kernel
theorem d_Ff_piece_53 : decode b_Ff_piece 53 = .ok (.ireturn, 1) := by decide +kernel
abbrev ws_Ff_piece : List Cond := .code y_Ff_piece b_Ff_piece 4 (Option.some .int) :: TB
abbrev b_Ff_irreducible : ByteArray := prog_1_method_12_code
theorem d_Ff_irreducible_0 : decode b_Ff_irreducible 0 = .ok (.aload_n 0, 1) := by decide +kernel
theorem d_Ff_irreducible_1 : decode b_Ff_irreducible 1 = .ok (.getfield 21, 3) := by decide +kernel
theorem d_Ff_irreducible_4 : decode b_Ff_irreducible 4 = .ok (.aload_n 0, 1) := by decide +kernel
theorem d_Ff_irreducible_5 : decode b_Ff_irreducible 5 = .ok (.iload_n 1, 1) := by decide +kernel
theorem d_Ff_irreducible_6 : decode b_Ff_irreducible 6 = .ok (.invokevirtual 72, 3) := by decide +kernel
theorem d_Ff_irreducible_9 : decode b_Ff_irreducible 9 = .ok (.invokevirtual 165, 3) := by decide +kernel
theorem d_Ff_irreducible_12 : decode b_Ff_irreducible 12 = .ok (.ireturn, 1) := by decide +kernel
abbrev ws_Ff_irreducible : List Cond := .code y_Ff_irreducible b_Ff_irreducible 2 (Option.some .boolean) :: TB
abbrev b_Ff_order : ByteArray := prog_1_method_13_code
theorem d_Ff_order_0 : decode b_Ff_order 0 = .ok (.aload_n 0, 1) := by decide +kernel
theorem d_Ff_order_1 : decode b_Ff_order 1 = .ok (.iload_n 1, 1) := by decide +kernel
theorem d_Ff_order_2 : decode b_Ff_order 2 = .ok (.invokevirtual 72, 3) := by decide +kernel
theorem d_Ff_order_5 : decode b_Ff_order 5 = .ok (.astore_n 2, 1) := by decide +kernel
theorem d_Ff_order_6 : decode b_Ff_order 6 = .ok (.aload_n 2, 1) := by decide +kernel
theorem d_Ff_order_7 : decode b_Ff_order 7 = .ok (.invokestatic 115, 3) := by decide +kernel
theorem d_Ff_order_10 : decode b_Ff_order 10 = .ok (.aload_n 0, 1) := by decide +kernel
theorem d_Ff_order_11 : decode b_Ff_order 11 = .ok (.getfield 28, 3) := by decide +kernel
theorem d_Ff_order_14 : decode b_Ff_order 14 = .ok (.aload_n 2, 1) := by decide +kernel
theorem d_Ff_order_15 : decode b_Ff_order 15 = .ok (.invokevirtual 169, 3) := by decide +kernel
theorem d_Ff_order_18 : decode b_Ff_order 18 = .ok (.ireturn, 1) := by decide +kernel
abbrev ws_Ff_order : List Cond := .code y_Ff_order b_Ff_order 3 (Option.some .int) :: TB
abbrev b_Ff_linear : ByteArray := prog_1_method_14_code
theorem d_Ff_linear_0 : decode b_Ff_linear 0 = .ok (.aload_n 0, 1) := by decide +kernel
theorem d_Ff_linear_1 : decode b_Ff_linear 1 = .ok (.iload_n 1, 1) := by decide +kernel
theorem d_Ff_linear_2 : decode b_Ff_linear 2 = .ok (.invokevirtual 72, 3) := by decide +kernel
theorem d_Ff_linear_5 : decode b_Ff_linear 5 = .ok (.astore_n 3, 1) := by decide +kernel
theorem d_Ff_linear_6 : decode b_Ff_linear 6 = .ok (.aload_n 0, 1) := by decide +kernel
theorem d_Ff_linear_7 : decode b_Ff_linear 7 = .ok (.iload_n 2, 1) := by decide +kernel
theorem d_Ff_linear_8 : decode b_Ff_linear 8 = .ok (.invokevirtual 72, 3) := by decide +kernel
theorem d_Ff_linear_11 : decode b_Ff_linear 11 = .ok (.astore 4, 2) := by decide +kernel
theorem d_Ff_linear_13 : decode b_Ff_linear 13 = .ok (.aload 4, 2) := by decide +kernel
theorem d_Ff_linear_15 : decode b_Ff_linear 15 = .ok (.invokestatic 136, 3) := by decide +kernel
theorem d_Ff_linear_18 : decode b_Ff_linear 18 = .ok (.aload_n 0, 1) := by decide +kernel
theorem d_Ff_linear_19 : decode b_Ff_linear 19 = .ok (.getfield 45, 3) := by decide +kernel
theorem d_Ff_linear_22 : decode b_Ff_linear 22 = .ok (.aload 4, 2) := by decide +kernel
theorem d_Ff_linear_24 : decode b_Ff_linear 24 = .ok (.invokevirtual 159, 3) := by decide +kernel
theorem d_Ff_linear_27 : decode b_Ff_linear 27 = .ok (.aload_n 0, 1) := by decide +kernel
theorem d_Ff_linear_28 : decode b_Ff_linear 28 = .ok (.getfield 21, 3) := by decide +kernel
theorem d_Ff_linear_31 : decode b_Ff_linear 31 = .ok (.aload_n 0, 1) := by decide +kernel
theorem d_Ff_linear_32 : decode b_Ff_linear 32 = .ok (.getfield 41, 3) := by decide +kernel
theorem d_Ff_linear_35 : decode b_Ff_linear 35 = .ok (.aload_n 0, 1) := by decide +kernel
theorem d_Ff_linear_36 : decode b_Ff_linear 36 = .ok (.getfield 45, 3) := by decide +kernel
theorem d_Ff_linear_39 : decode b_Ff_linear 39 = .ok (.invokevirtual 172, 3) := by decide +kernel
theorem d_Ff_linear_42 : decode b_Ff_linear 42 = .ok (.aload_n 0, 1) := by decide +kernel
theorem d_Ff_linear_43 : decode b_Ff_linear 43 = .ok (.aload_n 3, 1) := by decide +kernel
theorem d_Ff_linear_44 : decode b_Ff_linear 44 = .ok (.invokevirtual 109, 3) := by decide +kernel
theorem d_Ff_linear_47 : decode b_Ff_linear 47 = .ok (.ireturn, 1) := by decide +kernel
abbrev ws_Ff_linear : List Cond := .code y_Ff_linear b_Ff_linear 5 (Option.some .int) :: TB
abbrev b_Ff_count : ByteArray := prog_1_method_15_code
theorem d_Ff_count_0 : decode b_Ff_count 0 = .ok (.iload_n 1, 1) := by decide +kernel
theorem d_Ff_count_1 : decode b_Ff_count 1 = .ok (.ifCond .ne 11, 3) := by decide +kernel
theorem d_Ff_count_4 : decode b_Ff_count 4 = .ok (.aload_n 0, 1) := by decide +kernel
theorem d_Ff_count_5 : decode b_Ff_count 5 = .ok (.getfield 12, 3) := by decide +kernel
theorem d_Ff_count_8 : decode b_Ff_count 8 = .ok (.getfield 59, 3) := by decide +kernel
theorem d_Ff_count_11 : decode b_Ff_count 11 = .ok (.ireturn, 1) := by decide +kernel
theorem d_Ff_count_12 : decode b_Ff_count 12 = .ok (.iload_n 1, 1) := by decide +kernel
theorem d_Ff_count_13 : decode b_Ff_count 13 = .ok (.iconst 1, 1) := by decide +kernel
theorem d_Ff_count_14 : decode b_Ff_count 14 = .ok (.if_icmp .ne 13, 3) := by decide +kernel
theorem d_Ff_count_17 : decode b_Ff_count 17 = .ok (.aload_n 0, 1) := by decide +kernel
theorem d_Ff_count_18 : decode b_Ff_count 18 = .ok (.getfield 21, 3) := by decide +kernel
theorem d_Ff_count_21 : decode b_Ff_count 21 = .ok (.getfield 148, 3) := by decide +kernel
theorem d_Ff_count_24 : decode b_Ff_count 24 = .ok (.goto 4, 3) := by decide +kernel
theorem d_Ff_count_27 : decode b_Ff_count 27 = .ok (.iconst (-1), 1) := by decide +kernel
theorem d_Ff_count_28 : decode b_Ff_count 28 = .ok (.ireturn, 1) := by decide +kernel
abbrev ws_Ff_count : List Cond := .code y_Ff_count b_Ff_count 2 (Option.some .int) :: TB
abbrev b_Ff_register : ByteArray := prog_1_method_16_code
theorem d_Ff_register_0 : decode b_Ff_register 0 = .ok (.iload_n 1, 1) := by decide +kernel
theorem d_Ff_register_1 : decode b_Ff_register 1 = .ok (.ifCond .lt 9, 3) := by decide +kernel
theorem d_Ff_register_4 : decode b_Ff_register 4 = .ok (.iload_n 1, 1) := by decide +kernel
theorem d_Ff_register_5 : decode b_Ff_register 5 = .ok (.bipush 16, 2) := by decide +kernel
theorem d_Ff_register_7 : decode b_Ff_register 7 = .ok (.if_icmp .lt 13, 3) := by decide +kernel
theorem d_Ff_register_10 : decode b_Ff_register 10 = .ok (.new 151, 3) := by decide +kernel
theorem d_Ff_register_13 : decode b_Ff_register 13 = .ok (.dup, 1) := by decide +kernel
theorem d_Ff_register_14 : decode b_Ff_register 14 = .ok (.ldc 176, 2) := by decide +kernel
theorem d_Ff_register_16 : decode b_Ff_register 16 = .ok (.invokespecial 155, 3) := by decide +kernel
theorem d_Ff_register_19 : decode b_Ff_register 19 = .ok (.athrow, 1) := by decide +kernel
theorem d_Ff_register_20 : decode b_Ff_register 20 = .ok (.aload_n 0, 1) := by decide +kernel
theorem d_Ff_register_21 : decode b_Ff_register 21 = .ok (.getfield 34, 3) := by decide +kernel
theorem d_Ff_register_24 : decode b_Ff_register 24 = .ok (.iload_n 1, 1) := by decide +kernel
theorem d_Ff_register_25 : decode b_Ff_register 25 = .ok (.aaload, 1) := by decide +kernel
theorem d_Ff_register_26 : decode b_Ff_register 26 = .ok (.areturn, 1) := by decide +kernel
abbrev ws_Ff_register : List Cond := .code y_Ff_register b_Ff_register 2 (Option.some (.object "FieldFactors$Polynomial")) :: TB
abbrev b_Ff_needExponent : ByteArray := prog_1_method_17_code
theorem d_Ff_needExponent_0 : decode b_Ff_needExponent 0 = .ok (.iload_n 0, 1) := by decide +kernel
theorem d_Ff_needExponent_1 : decode b_Ff_needExponent 1 = .ok (.ifCond .lt 9, 3) := by decide +kernel
theorem d_Ff_needExponent_4 : decode b_Ff_needExponent 4 = .ok (.iload_n 0, 1) := by decide +kernel
theorem d_Ff_needExponent_5 : decode b_Ff_needExponent 5 = .ok (.bipush 24, 2) := by decide +kernel
theorem d_Ff_needExponent_7 : decode b_Ff_needExponent 7 = .ok (.if_icmp .le 13, 3) := by decide +kernel
theorem d_Ff_needExponent_10 : decode b_Ff_needExponent 10 = .ok (.new 52, 3) := by decide +kernel
theorem d_Ff_needExponent_13 : decode b_Ff_needExponent 13 = .ok (.dup, 1) := by decide +kernel
theorem d_Ff_needExponent_14 : decode b_Ff_needExponent 14 = .ok (.ldc 178, 2) := by decide +kernel
theorem d_Ff_needExponent_16 : decode b_Ff_needExponent 16 = .ok (.invokespecial 56, 3) := by decide +kernel
theorem d_Ff_needExponent_19 : decode b_Ff_needExponent 19 = .ok (.athrow, 1) := by decide +kernel
theorem d_Ff_needExponent_20 : decode b_Ff_needExponent 20 = .ok (.return_, 1) := by decide +kernel
abbrev ws_Ff_needExponent : List Cond := .code y_Ff_needExponent b_Ff_needExponent 1 none :: TB
abbrev b_Ff_needDegree : ByteArray := prog_1_method_18_code
theorem d_Ff_needDegree_0 : decode b_Ff_needDegree 0 = .ok (.aload_n 0, 1) := by decide +kernel
theorem d_Ff_needDegree_1 : decode b_Ff_needDegree 1 = .ok (.getfield 95, 3) := by decide +kernel
theorem d_Ff_needDegree_4 : decode b_Ff_needDegree 4 = .ok (.ifCond .gt 13, 3) := by decide +kernel
theorem d_Ff_needDegree_7 : decode b_Ff_needDegree 7 = .ok (.new 52, 3) := by decide +kernel
theorem d_Ff_needDegree_10 : decode b_Ff_needDegree 10 = .ok (.dup, 1) := by decide +kernel
theorem d_Ff_needDegree_11 : decode b_Ff_needDegree 11 = .ok (.ldc 180, 2) := by decide +kernel
theorem d_Ff_needDegree_13 : decode b_Ff_needDegree 13 = .ok (.invokespecial 56, 3) := by decide +kernel
theorem d_Ff_needDegree_16 : decode b_Ff_needDegree 16 = .ok (.athrow, 1) := by decide +kernel
theorem d_Ff_needDegree_17 : decode b_Ff_needDegree 17 = .ok (.return_, 1) := by decide +kernel
abbrev ws_Ff_needDegree : List Cond := .code y_Ff_needDegree b_Ff_needDegree 1 none :: TB
abbrev b_Ff_needNotZero : ByteArray := prog_1_method_19_code
theorem d_Ff_needNotZero_0 : decode b_Ff_needNotZero 0 = .ok (.aload_n 0, 1) := by decide +kernel
theorem d_Ff_needNotZero_1 : decode b_Ff_needNotZero 1 = .ok (.getfield 95, 3) := by decide +kernel
theorem d_Ff_needNotZero_4 : decode b_Ff_needNotZero 4 = .ok (.ifCond .ge 13, 3) := by decide +kernel
theorem d_Ff_needNotZero_7 : decode b_Ff_needNotZero 7 = .ok (.new 52, 3) := by decide +kernel
theorem d_Ff_needNotZero_10 : decode b_Ff_needNotZero 10 = .ok (.dup, 1) := by decide +kernel
theorem d_Ff_needNotZero_11 : decode b_Ff_needNotZero 11 = .ok (.ldc 182, 2) := by decide +kernel
theorem d_Ff_needNotZero_13 : decode b_Ff_needNotZero 13 = .ok (.invokespecial 56, 3) := by decide +kernel
theorem d_Ff_needNotZero_16 : decode b_Ff_needNotZero 16 = .ok (.athrow, 1) := by decide +kernel
theorem d_Ff_needNotZero_17 : decode b_Ff_needNotZero 17 = .ok (.return_, 1) := by decide +kernel
abbrev ws_Ff_needNotZero : List Cond := .code y_Ff_needNotZero b_Ff_needNotZero 1 none :: TB
abbrev b_Ff_fieldIndex : ByteArray := prog_1_method_20_code
theorem d_Ff_fieldIndex_0 : decode b_Ff_fieldIndex 0 = .ok (.iconst 0, 1) := by decide +kernel
theorem d_Ff_fieldIndex_1 : decode b_Ff_fieldIndex 1 = .ok (.istore_n 1, 1) := by decide +kernel
theorem d_Ff_fieldIndex_2 : decode b_Ff_fieldIndex 2 = .ok (.iload_n 1, 1) := by decide +kernel
theorem d_Ff_fieldIndex_3 : decode b_Ff_fieldIndex 3 = .ok (.getstatic 184, 3) := by decide +kernel
theorem d_Ff_fieldIndex_6 : decode b_Ff_fieldIndex 6 = .ok (.arraylength, 1) := by decide +kernel
theorem d_Ff_fieldIndex_7 : decode b_Ff_fieldIndex 7 = .ok (.if_icmp .ge 20, 3) := by decide +kernel
theorem d_Ff_fieldIndex_10 : decode b_Ff_fieldIndex 10 = .ok (.getstatic 184, 3) := by decide +kernel
theorem d_Ff_fieldIndex_13 : decode b_Ff_fieldIndex 13 = .ok (.iload_n 1, 1) := by decide +kernel
theorem d_Ff_fieldIndex_14 : decode b_Ff_fieldIndex 14 = .ok (.iaload, 1) := by decide +kernel
theorem d_Ff_fieldIndex_15 : decode b_Ff_fieldIndex 15 = .ok (.iload_n 0, 1) := by decide +kernel
theorem d_Ff_fieldIndex_16 : decode b_Ff_fieldIndex 16 = .ok (.if_icmp .ne 5, 3) := by decide +kernel
theorem d_Ff_fieldIndex_19 : decode b_Ff_fieldIndex 19 = .ok (.iload_n 1, 1) := by decide +kernel
theorem d_Ff_fieldIndex_20 : decode b_Ff_fieldIndex 20 = .ok (.ireturn, 1) := by decide +kernel
theorem d_Ff_fieldIndex_21 : decode b_Ff_fieldIndex 21 = .ok (.iinc 1 1, 3) := by decide +kernel
theorem d_Ff_fieldIndex_24 : decode b_Ff_fieldIndex 24 = .ok (.goto (-22), 3) := by decide +kernel
theorem d_Ff_fieldIndex_27 : decode b_Ff_fieldIndex 27 = .ok (.iconst (-1), 1) := by decide +kernel
theorem d_Ff_fieldIndex_28 : decode b_Ff_fieldIndex 28 = .ok (.ireturn, 1) := by decide +kernel
abbrev ws_Ff_fieldIndex : List Cond := .code y_Ff_fieldIndex b_Ff_fieldIndex 2 (Option.some .int) :: TB
abbrev b_Ff_highestCutDegree : ByteArray := prog_1_method_21_code
theorem d_Ff_highestCutDegree_0 : decode b_Ff_highestCutDegree 0 = .ok (.aload_n 0, 1) := by decide +kernel
theorem d_Ff_highestCutDegree_1 : decode b_Ff_highestCutDegree 1 = .ok (.getfield 12, 3) := by decide +kernel
theorem d_Ff_highestCutDegree_4 : decode b_Ff_highestCutDegree 4 = .ok (.getfield 59, 3) := by decide +kernel
theorem d_Ff_highestCutDegree_7 : decode b_Ff_highestCutDegree 7 = .ok (.invokestatic 48, 3) := by decide +kernel
theorem d_Ff_highestCutDegree_10 : decode b_Ff_highestCutDegree 10 = .ok (.istore_n 1, 1) := by decide +kernel
theorem d_Ff_highestCutDegree_11 : decode b_Ff_highestCutDegree 11 = .ok (.iload_n 1, 1) := by decide +kernel
theorem d_Ff_highestCutDegree_12 : decode b_Ff_highestCutDegree 12 = .ok (.ifCond .ge 7, 3) := by decide +kernel
theorem d_Ff_highestCutDegree_15 : decode b_Ff_highestCutDegree 15 = .ok (.iconst 0, 1) := by decide +kernel
theorem d_Ff_highestCutDegree_16 : decode b_Ff_highestCutDegree 16 = .ok (.goto 8, 3) := by decide +kernel
theorem d_Ff_highestCutDegree_19 : decode b_Ff_highestCutDegree 19 = .ok (.getstatic 187, 3) := by decide +kernel
theorem d_Ff_highestCutDegree_22 : decode b_Ff_highestCutDegree 22 = .ok (.iload_n 1, 1) := by decide +kernel
theorem d_Ff_highestCutDegree_23 : decode b_Ff_highestCutDegree 23 = .ok (.iaload, 1) := by decide +kernel
theorem d_Ff_highestCutDegree_24 : decode b_Ff_highestCutDegree 24 = .ok (.ireturn, 1) := by decide +kernel
abbrev ws_Ff_highestCutDegree : List Cond := .code y_Ff_highestCutDegree b_Ff_highestCutDegree 2 (Option.some .int) :: TB
abbrev b_Ff_combine : ByteArray := prog_1_method_22_code
theorem d_Ff_combine_0 : decode b_Ff_combine 0 = .ok (.iload_n 1, 1) := by decide +kernel
theorem d_Ff_combine_1 : decode b_Ff_combine 1 = .ok (.tableswitch 220 0 6 #[43, 68, 101, 125, 152, 182, 198], 43) := by decide +kernel
theorem d_Ff_combine_44 : decode b_Ff_combine 44 = .ok (.aload_n 0, 1) := by decide +kernel
theorem d_Ff_combine_45 : decode b_Ff_combine 45 = .ok (.getfield 41, 3) := by decide +kernel
theorem d_Ff_combine_48 : decode b_Ff_combine 48 = .ok (.aload_n 2, 1) := by decide +kernel
theorem d_Ff_combine_49 : decode b_Ff_combine 49 = .ok (.invokevirtual 159, 3) := by decide +kernel
theorem d_Ff_combine_52 : decode b_Ff_combine 52 = .ok (.aload_n 0, 1) := by decide +kernel
theorem d_Ff_combine_53 : decode b_Ff_combine 53 = .ok (.getfield 12, 3) := by decide +kernel
theorem d_Ff_combine_56 : decode b_Ff_combine 56 = .ok (.aload_n 0, 1) := by decide +kernel
theorem d_Ff_combine_57 : decode b_Ff_combine 57 = .ok (.getfield 41, 3) := by decide +kernel
theorem d_Ff_combine_60 : decode b_Ff_combine 60 = .ok (.iconst 1, 1) := by decide +kernel
theorem d_Ff_combine_61 : decode b_Ff_combine 61 = .ok (.iconst 0, 1) := by decide +kernel
theorem d_Ff_combine_62 : decode b_Ff_combine 62 = .ok (.aload_n 3, 1) := by decide +kernel
theorem d_Ff_combine_63 : decode b_Ff_combine 63 = .ok (.invokevirtual 190, 3) := by decide +kernel
theorem d_Ff_combine_66 : decode b_Ff_combine 66 = .ok (.goto 167, 3) := by decide +kernel
theorem d_Ff_combine_69 : decode b_Ff_combine 69 = .ok (.aload_n 0, 1) := by decide +kernel
theorem d_Ff_combine_70 : decode b_Ff_combine 70 = .ok (.getfield 41, 3) := by decide +kernel
theorem d_Ff_combine_73 : decode b_Ff_combine 73 = .ok (.aload_n 2, 1) := by decide +kernel
theorem d_Ff_combine_74 : decode b_Ff_combine 74 = .ok (.invokevirtual 159, 3) := by decide +kernel
theorem d_Ff_combine_77 : decode b_Ff_combine 77 = .ok (.aload_n 0, 1) := by decide +kernel
theorem d_Ff_combine_78 : decode b_Ff_combine 78 = .ok (.getfield 12, 3) := by decide +kernel
theorem d_Ff_combine_81 : decode b_Ff_combine 81 = .ok (.aload_n 0, 1) := by decide +kernel
theorem d_Ff_combine_82 : decode b_Ff_combine 82 = .ok (.getfield 41, 3) := by decide +kernel
theorem d_Ff_combine_85 : decode b_Ff_combine 85 = .ok (.aload_n 0, 1) := by decide +kernel
theorem d_Ff_combine_86 : decode b_Ff_combine 86 = .ok (.getfield 12, 3) := by decide +kernel
theorem d_Ff_combine_89 : decode b_Ff_combine 89 = .ok (.getfield 59, 3) := by decide +kernel
theorem d_Ff_combine_92 : decode b_Ff_combine 92 = .ok (.iconst 1, 1) := by decide +kernel
theorem d_Ff_combine_93 : decode b_Ff_combine 93 = .ok (.isub, 1) := by decide +kernel
theorem d_Ff_combine_94 : decode b_Ff_combine 94 = .ok (.iconst 0, 1) := by decide +kernel
theorem d_Ff_combine_95 : decode b_Ff_combine 95 = .ok (.aload_n 3, 1) := by decide +kernel
theorem d_Ff_combine_96 : decode b_Ff_combine 96 = .ok (.invokevirtual 190, 3) := by decide +kernel
theorem d_Ff_combine_99 : decode b_Ff_combine 99 = .ok (.goto 134, 3) := by decide +kernel
theorem d_Ff_combine_102 : decode b_Ff_combine 102 = .ok (.aload_n 0, 1) := by decide +kernel
theorem d_Ff_combine_103 : decode b_Ff_combine 103 = .ok (.getfield 41, 3) := by decide +kernel
theorem d_Ff_combine_106 : decode b_Ff_combine 106 = .ok (.invokevirtual 66, 3) := by decide +kernel
theorem d_Ff_combine_109 : decode b_Ff_combine 109 = .ok (.aload_n 0, 1) := by decide +kernel
theorem d_Ff_combine_110 : decode b_Ff_combine 110 = .ok (.getfield 12, 3) := by decide +kernel
theorem d_Ff_combine_113 : decode b_Ff_combine 113 = .ok (.aload_n 0, 1) := by decide +kernel
theorem d_Ff_combine_114 : decode b_Ff_combine 114 = .ok (.getfield 41, 3) := by decide +kernel
theorem d_Ff_combine_117 : decode b_Ff_combine 117 = .ok (.iconst 1, 1) := by decide +kernel
theorem d_Ff_combine_118 : decode b_Ff_combine 118 = .ok (.aload_n 2, 1) := by decide +kernel
theorem d_Ff_combine_119 : decode b_Ff_combine 119 = .ok (.aload_n 3, 1) := by decide +kernel
theorem d_Ff_combine_120 : decode b_Ff_combine 120 = .ok (.invokevirtual 194, 3) := by decide +kernel
theorem d_Ff_combine_123 : decode b_Ff_combine 123 = .ok (.goto 110, 3) := by decide +kernel
theorem d_Ff_combine_126 : decode b_Ff_combine 126 = .ok (.aload_n 0, 1) := by decide +kernel
theorem d_Ff_combine_127 : decode b_Ff_combine 127 = .ok (.getfield 45, 3) := by decide +kernel
theorem d_Ff_combine_130 : decode b_Ff_combine 130 = .ok (.aload_n 2, 1) := by decide +kernel
theorem d_Ff_combine_131 : decode b_Ff_combine 131 = .ok (.invokevirtual 159, 3) := by decide +kernel
theorem d_Ff_combine_134 : decode b_Ff_combine 134 = .ok (.aload_n 0, 1) := by decide +kernel
theorem d_Ff_combine_135 : decode b_Ff_combine 135 = .ok (.getfield 12, 3) := by decide +kernel
theorem d_Ff_combine_138 : decode b_Ff_combine 138 = .ok (.aload_n 0, 1) := by decide +kernel
theorem d_Ff_combine_139 : decode b_Ff_combine 139 = .ok (.getfield 45, 3) := by decide +kernel
theorem d_Ff_combine_142 : decode b_Ff_combine 142 = .ok (.aload_n 3, 1) := by decide +kernel
theorem d_Ff_combine_143 : decode b_Ff_combine 143 = .ok (.aload_n 0, 1) := by decide +kernel
theorem d_Ff_combine_144 : decode b_Ff_combine 144 = .ok (.getfield 41, 3) := by decide +kernel
theorem d_Ff_combine_147 : decode b_Ff_combine 147 = .ok (.invokevirtual 198, 3) := by decide +kernel
theorem d_Ff_combine_150 : decode b_Ff_combine 150 = .ok (.goto 83, 3) := by decide +kernel
theorem d_Ff_combine_153 : decode b_Ff_combine 153 = .ok (.aload_n 0, 1) := by decide +kernel
theorem d_Ff_combine_154 : decode b_Ff_combine 154 = .ok (.getfield 41, 3) := by decide +kernel
theorem d_Ff_combine_157 : decode b_Ff_combine 157 = .ok (.aload_n 2, 1) := by decide +kernel
theorem d_Ff_combine_158 : decode b_Ff_combine 158 = .ok (.invokevirtual 159, 3) := by decide +kernel
theorem d_Ff_combine_161 : decode b_Ff_combine 161 = .ok (.aload_n 0, 1) := by decide +kernel
theorem d_Ff_combine_162 : decode b_Ff_combine 162 = .ok (.getfield 12, 3) := by decide +kernel
theorem d_Ff_combine_165 : decode b_Ff_combine 165 = .ok (.aload_n 0, 1) := by decide +kernel
theorem d_Ff_combine_166 : decode b_Ff_combine 166 = .ok (.getfield 41, 3) := by decide +kernel
theorem d_Ff_combine_169 : decode b_Ff_combine 169 = .ok (.aload_n 3, 1) := by decide +kernel
theorem d_Ff_combine_170 : decode b_Ff_combine 170 = .ok (.aload_n 0, 1) := by decide +kernel
theorem d_Ff_combine_171 : decode b_Ff_combine 171 = .ok (.getfield 12, 3) := by decide +kernel
theorem d_Ff_combine_174 : decode b_Ff_combine 174 = .ok (.getfield 202, 3) := by decide +kernel
theorem d_Ff_combine_177 : decode b_Ff_combine 177 = .ok (.invokevirtual 198, 3) := by decide +kernel
theorem d_Ff_combine_180 : decode b_Ff_combine 180 = .ok (.goto 53, 3) := by decide +kernel
theorem d_Ff_combine_183 : decode b_Ff_combine 183 = .ok (.aload_n 0, 1) := by decide +kernel
theorem d_Ff_combine_184 : decode b_Ff_combine 184 = .ok (.getfield 12, 3) := by decide +kernel
theorem d_Ff_combine_187 : decode b_Ff_combine 187 = .ok (.aload_n 0, 1) := by decide +kernel
theorem d_Ff_combine_188 : decode b_Ff_combine 188 = .ok (.getfield 41, 3) := by decide +kernel
theorem d_Ff_combine_191 : decode b_Ff_combine 191 = .ok (.aload_n 2, 1) := by decide +kernel
theorem d_Ff_combine_192 : decode b_Ff_combine 192 = .ok (.aload_n 3, 1) := by decide +kernel
theorem d_Ff_combine_193 : decode b_Ff_combine 193 = .ok (.invokevirtual 205, 3) := by decide +kernel
theorem d_Ff_combine_196 : decode b_Ff_combine 196 = .ok (.goto 37, 3) := by decide +kernel
theorem d_Ff_combine_199 : decode b_Ff_combine 199 = .ok (.aload_n 0, 1) := by decide +kernel
theorem d_Ff_combine_200 : decode b_Ff_combine 200 = .ok (.getfield 41, 3) := by decide +kernel
theorem d_Ff_combine_203 : decode b_Ff_combine 203 = .ok (.aload_n 2, 1) := by decide +kernel
theorem d_Ff_combine_204 : decode b_Ff_combine 204 = .ok (.invokevirtual 159, 3) := by decide +kernel
theorem d_Ff_combine_207 : decode b_Ff_combine 207 = .ok (.aload_n 0, 1) := by decide +kernel
theorem d_Ff_combine_208 : decode b_Ff_combine 208 = .ok (.getfield 12, 3) := by decide +kernel
theorem d_Ff_combine_211 : decode b_Ff_combine 211 = .ok (.aload_n 0, 1) := by decide +kernel
theorem d_Ff_combine_212 : decode b_Ff_combine 212 = .ok (.getfield 41, 3) := by decide +kernel
theorem d_Ff_combine_215 : decode b_Ff_combine 215 = .ok (.invokevirtual 208, 3) := by decide +kernel
theorem d_Ff_combine_218 : decode b_Ff_combine 218 = .ok (.goto 15, 3) := by decide +kernel
theorem d_Ff_combine_221 : decode b_Ff_combine 221 = .ok (.aload_n 0, 1) := by decide +kernel
theorem d_Ff_combine_222 : decode b_Ff_combine 222 = .ok (.getfield 12, 3) := by decide +kernel
theorem d_Ff_combine_225 : decode b_Ff_combine 225 = .ok (.aload_n 0, 1) := by decide +kernel
theorem d_Ff_combine_226 : decode b_Ff_combine 226 = .ok (.getfield 41, 3) := by decide +kernel
theorem d_Ff_combine_229 : decode b_Ff_combine 229 = .ok (.aload_n 2, 1) := by decide +kernel
theorem d_Ff_combine_230 : decode b_Ff_combine 230 = .ok (.invokevirtual 211, 3) := by decide +kernel
theorem d_Ff_combine_233 : decode b_Ff_combine 233 = .ok (.return_, 1) := by decide +kernel
abbrev ws_Ff_combine : List Cond := .code y_Ff_combine b_Ff_combine 4 none :: TB
abbrev b_Ff_store : ByteArray := prog_1_method_23_code
theorem d_Ff_store_0 : decode b_Ff_store 0 = .ok (.aload_n 1, 1) := by decide +kernel
theorem d_Ff_store_1 : decode b_Ff_store 1 = .ok (.aload_n 0, 1) := by decide +kernel
theorem d_Ff_store_2 : decode b_Ff_store 2 = .ok (.getfield 41, 3) := by decide +kernel
theorem d_Ff_store_5 : decode b_Ff_store 5 = .ok (.invokevirtual 159, 3) := by decide +kernel
theorem d_Ff_store_8 : decode b_Ff_store 8 = .ok (.aload_n 0, 1) := by decide +kernel
theorem d_Ff_store_9 : decode b_Ff_store 9 = .ok (.getfield 41, 3) := by decide +kernel
theorem d_Ff_store_12 : decode b_Ff_store 12 = .ok (.getfield 95, 3) := by decide +kernel
theorem d_Ff_store_15 : decode b_Ff_store 15 = .ok (.ireturn, 1) := by decide +kernel
abbrev ws_Ff_store : List Cond := .code y_Ff_store b_Ff_store 2 (Option.some .int) :: TB
abbrev b_Math_floorMod : ByteArray := prog_12_method_50_code
theorem d_Math_floorMod_0 : decode b_Math_floorMod 0 = .ok (.iload_n 0, 1) := by decide +kernel
theorem d_Math_floorMod_1 : decode b_Math_floorMod 1 = .ok (.iload_n 1, 1) := by decide +kernel
theorem d_Math_floorMod_2 : decode b_Math_floorMod 2 = .ok (.irem, 1) := by decide +kernel
theorem d_Math_floorMod_3 : decode b_Math_floorMod 3 = .ok (.istore_n 2, 1) := by decide +kernel
theorem d_Math_floorMod_4 : decode b_Math_floorMod 4 = .ok (.iload_n 0, 1) := by decide +kernel
theorem d_Math_floorMod_5 : decode b_Math_floorMod 5 = .ok (.iload_n 1, 1) := by decide +kernel
theorem d_Math_floorMod_6 : decode b_Math_floorMod 6 = .ok (.ixor, 1) := by decide +kernel
theorem d_Math_floorMod_7 : decode b_Math_floorMod 7 = .ok (.ifCond .ge 11, 3) := by decide +kernel
theorem d_Math_floorMod_10 : decode b_Math_floorMod 10 = .ok (.iload_n 2, 1) := by decide +kernel
theorem d_Math_floorMod_11 : decode b_Math_floorMod 11 = .ok (.ifCond .eq 7, 3) := by decide +kernel
theorem d_Math_floorMod_14 : decode b_Math_floorMod 14 = .ok (.iload_n 2, 1) := by decide +kernel
theorem d_Math_floorMod_15 : decode b_Math_floorMod 15 = .ok (.iload_n 1, 1) := by decide +kernel
theorem d_Math_floorMod_16 : decode b_Math_floorMod 16 = .ok (.iadd, 1) := by decide +kernel
theorem d_Math_floorMod_17 : decode b_Math_floorMod 17 = .ok (.ireturn, 1) := by decide +kernel
theorem d_Math_floorMod_18 : decode b_Math_floorMod 18 = .ok (.iload_n 2, 1) := by decide +kernel
theorem d_Math_floorMod_19 : decode b_Math_floorMod 19 = .ok (.ireturn, 1) := by decide +kernel
abbrev ws_Math_floorMod : List Cond := .code y_Math_floorMod b_Math_floorMod 3 (Option.some .int) :: TB
