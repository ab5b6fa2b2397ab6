/-! decode rows, by my own program -/
abbrev b_Os_init : ByteArray := prog_4_method_1_code
theorem d_Os_init_0 : decode b_Os_init 0 = .ok (.aload_n 0, 1) := by decide +kernel
theorem d_Os_init_1 : decode b_Os_init 1 = .ok (.invokespecial 3, 3) := by decide +kernel
theorem d_Os_init_4 : decode b_Os_init 4 = .ok (.aload_n 0, 1) := by decide +kernel
theorem d_Os_init_5 : decode b_Os_init 5 = .ok (.aload_n 1, 1) := by decide +kernel
theorem d_Os_init_6 : decode b_Os_init 6 = .ok (.putfield 9, 3) := by decide +kernel
theorem d_Os_init_9 : decode b_Os_init 9 = .ok (.aload_n 0, 1) := by decide +kernel
theorem d_Os_init_10 : decode b_Os_init 10 = .ok (.sipush 500, 3) := by decide +kernel
theorem d_Os_init_13 : decode b_Os_init 13 = .ok (.newarray .long, 2) := by decide +kernel
theorem d_Os_init_15 : decode b_Os_init 15 = .ok (.putfield 15, 3) := by decide +kernel
theorem d_Os_init_18 : decode b_Os_init 18 = .ok (.aload_n 0, 1) := by decide +kernel
theorem d_Os_init_19 : decode b_Os_init 19 = .ok (.sipush 500, 3) := by decide +kernel
theorem d_Os_init_22 : decode b_Os_init 22 = .ok (.newarray .long, 2) := by decide +kernel
theorem d_Os_init_24 : decode b_Os_init 24 = .ok (.putfield 19, 3) := by decide +kernel
theorem d_Os_init_27 : decode b_Os_init 27 = .ok (.aload_n 0, 1) := by decide +kernel
theorem d_Os_init_28 : decode b_Os_init 28 = .ok (.new 22, 3) := by decide +kernel
theorem d_Os_init_31 : decode b_Os_init 31 = .ok (.dup, 1) := by decide +kernel
theorem d_Os_init_32 : decode b_Os_init 32 = .ok (.bipush 25, 2) := by decide +kernel
theorem d_Os_init_34 : decode b_Os_init 34 = .ok (.invokespecial 24, 3) := by decide +kernel
theorem d_Os_init_37 : decode b_Os_init 37 = .ok (.putfield 27, 3) := by decide +kernel
theorem d_Os_init_40 : decode b_Os_init 40 = .ok (.aload_n 0, 1) := by decide +kernel
theorem d_Os_init_41 : decode b_Os_init 41 = .ok (.new 22, 3) := by decide +kernel
theorem d_Os_init_44 : decode b_Os_init 44 = .ok (.dup, 1) := by decide +kernel
theorem d_Os_init_45 : decode b_Os_init 45 = .ok (.bipush 25, 2) := by decide +kernel
theorem d_Os_init_47 : decode b_Os_init 47 = .ok (.invokespecial 24, 3) := by decide +kernel
theorem d_Os_init_50 : decode b_Os_init 50 = .ok (.putfield 31, 3) := by decide +kernel
theorem d_Os_init_53 : decode b_Os_init 53 = .ok (.aload_n 0, 1) := by decide +kernel
theorem d_Os_init_54 : decode b_Os_init 54 = .ok (.new 22, 3) := by decide +kernel
theorem d_Os_init_57 : decode b_Os_init 57 = .ok (.dup, 1) := by decide +kernel
theorem d_Os_init_58 : decode b_Os_init 58 = .ok (.bipush 25, 2) := by decide +kernel
theorem d_Os_init_60 : decode b_Os_init 60 = .ok (.invokespecial 24, 3) := by decide +kernel
theorem d_Os_init_63 : decode b_Os_init 63 = .ok (.putfield 34, 3) := by decide +kernel
theorem d_Os_init_66 : decode b_Os_init 66 = .ok (.aload_n 0, 1) := by decide +kernel
theorem d_Os_init_67 : decode b_Os_init 67 = .ok (.getfield 34, 3) := by decide +kernel
theorem d_Os_init_70 : decode b_Os_init 70 = .ok (.iconst 1, 1) := by decide +kernel
theorem d_Os_init_71 : decode b_Os_init 71 = .ok (.invokevirtual 37, 3) := by decide +kernel
theorem d_Os_init_74 : decode b_Os_init 74 = .ok (.return_, 1) := by decide +kernel
abbrev ws_Os_init : List Cond := .code y_Os_init b_Os_init 2 none :: TB
abbrev b_Os_search : ByteArray := prog_4_method_2_code
theorem d_Os_search_0 : decode b_Os_search 0 = .ok (.aload_n 1, 1) := by decide +kernel
theorem d_Os_search_1 : decode b_Os_search 1 = .ok (.getfield 40, 3) := by decide +kernel
theorem d_Os_search_4 : decode b_Os_search 4 = .ok (.iconst 0, 1) := by decide +kernel
theorem d_Os_search_5 : decode b_Os_search 5 = .ok (.iaload, 1) := by decide +kernel
theorem d_Os_search_6 : decode b_Os_search 6 = .ok (.ifCond .ne 5, 3) := by decide +kernel
theorem d_Os_search_9 : decode b_Os_search 9 = .ok (.iconst 0, 1) := by decide +kernel
theorem d_Os_search_10 : decode b_Os_search 10 = .ok (.ireturn, 1) := by decide +kernel
theorem d_Os_search_11 : decode b_Os_search 11 = .ok (.aload_n 0, 1) := by decide +kernel
theorem d_Os_search_12 : decode b_Os_search 12 = .ok (.aload_n 1, 1) := by decide +kernel
theorem d_Os_search_13 : decode b_Os_search 13 = .ok (.invokevirtual 44, 3) := by decide +kernel
theorem d_Os_search_16 : decode b_Os_search 16 = .ok (.istore_n 2, 1) := by decide +kernel
theorem d_Os_search_17 : decode b_Os_search 17 = .ok (.iload_n 2, 1) := by decide +kernel
theorem d_Os_search_18 : decode b_Os_search 18 = .ok (.ifCond .le 7, 3) := by decide +kernel
theorem d_Os_search_21 : decode b_Os_search 21 = .ok (.iload_n 2, 1) := by decide +kernel
theorem d_Os_search_22 : decode b_Os_search 22 = .ok (.goto 8, 3) := by decide +kernel
theorem d_Os_search_25 : decode b_Os_search 25 = .ok (.aload_n 0, 1) := by decide +kernel
theorem d_Os_search_26 : decode b_Os_search 26 = .ok (.aload_n 1, 1) := by decide +kernel
theorem d_Os_search_27 : decode b_Os_search 27 = .ok (.invokevirtual 48, 3) := by decide +kernel
theorem d_Os_search_30 : decode b_Os_search 30 = .ok (.ireturn, 1) := by decide +kernel
abbrev ws_Os_search : List Cond := .code y_Os_search b_Os_search 3 (Option.some .int) :: TB
abbrev b_Os_takeShortSteps : ByteArray := prog_4_method_3_code
theorem d_Os_takeShortSteps_0 : decode b_Os_takeShortSteps 0 = .ok (.aload_n 0, 1) := by decide +kernel
theorem d_Os_takeShortSteps_1 : decode b_Os_takeShortSteps 1 = .ok (.getfield 27, 3) := by decide +kernel
theorem d_Os_takeShortSteps_4 : decode b_Os_takeShortSteps 4 = .ok (.iconst 0, 1) := by decide +kernel
theorem d_Os_takeShortSteps_5 : decode b_Os_takeShortSteps 5 = .ok (.invokevirtual 37, 3) := by decide +kernel
theorem d_Os_takeShortSteps_8 : decode b_Os_takeShortSteps 8 = .ok (.iconst 0, 1) := by decide +kernel
theorem d_Os_takeShortSteps_9 : decode b_Os_takeShortSteps 9 = .ok (.istore_n 2, 1) := by decide +kernel
theorem d_Os_takeShortSteps_10 : decode b_Os_takeShortSteps 10 = .ok (.iload_n 2, 1) := by decide +kernel
theorem d_Os_takeShortSteps_11 : decode b_Os_takeShortSteps 11 = .ok (.sipush 500, 3) := by decide +kernel
theorem d_Os_takeShortSteps_14 : decode b_Os_takeShortSteps 14 = .ok (.if_icmp .ge 68, 3) := by decide +kernel
theorem d_Os_takeShortSteps_17 : decode b_Os_takeShortSteps 17 = .ok (.iload_n 2, 1) := by decide +kernel
theorem d_Os_takeShortSteps_18 : decode b_Os_takeShortSteps 18 = .ok (.ifCond .le 15, 3) := by decide +kernel
theorem d_Os_takeShortSteps_21 : decode b_Os_takeShortSteps 21 = .ok (.aload_n 0, 1) := by decide +kernel
theorem d_Os_takeShortSteps_22 : decode b_Os_takeShortSteps 22 = .ok (.getfield 27, 3) := by decide +kernel
theorem d_Os_takeShortSteps_25 : decode b_Os_takeShortSteps 25 = .ok (.invokevirtual 51, 3) := by decide +kernel
theorem d_Os_takeShortSteps_28 : decode b_Os_takeShortSteps 28 = .ok (.ifCond .eq 5, 3) := by decide +kernel
theorem d_Os_takeShortSteps_31 : decode b_Os_takeShortSteps 31 = .ok (.iload_n 2, 1) := by decide +kernel
theorem d_Os_takeShortSteps_32 : decode b_Os_takeShortSteps 32 = .ok (.ireturn, 1) := by decide +kernel
theorem d_Os_takeShortSteps_33 : decode b_Os_takeShortSteps 33 = .ok (.aload_n 0, 1) := by decide +kernel
theorem d_Os_takeShortSteps_34 : decode b_Os_takeShortSteps 34 = .ok (.getfield 15, 3) := by decide +kernel
theorem d_Os_takeShortSteps_37 : decode b_Os_takeShortSteps 37 = .ok (.iload_n 2, 1) := by decide +kernel
theorem d_Os_takeShortSteps_38 : decode b_Os_takeShortSteps 38 = .ok (.aload_n 0, 1) := by decide +kernel
theorem d_Os_takeShortSteps_39 : decode b_Os_takeShortSteps 39 = .ok (.iconst 0, 1) := by decide +kernel
theorem d_Os_takeShortSteps_40 : decode b_Os_takeShortSteps 40 = .ok (.invokevirtual 55, 3) := by decide +kernel
theorem d_Os_takeShortSteps_43 : decode b_Os_takeShortSteps 43 = .ok (.lastore, 1) := by decide +kernel
theorem d_Os_takeShortSteps_44 : decode b_Os_takeShortSteps 44 = .ok (.aload_n 0, 1) := by decide +kernel
theorem d_Os_takeShortSteps_45 : decode b_Os_takeShortSteps 45 = .ok (.getfield 19, 3) := by decide +kernel
theorem d_Os_takeShortSteps_48 : decode b_Os_takeShortSteps 48 = .ok (.iload_n 2, 1) := by decide +kernel
theorem d_Os_takeShortSteps_49 : decode b_Os_takeShortSteps 49 = .ok (.aload_n 0, 1) := by decide +kernel
theorem d_Os_takeShortSteps_50 : decode b_Os_takeShortSteps 50 = .ok (.bipush 12, 2) := by decide +kernel
theorem d_Os_takeShortSteps_52 : decode b_Os_takeShortSteps 52 = .ok (.invokevirtual 55, 3) := by decide +kernel
theorem d_Os_takeShortSteps_55 : decode b_Os_takeShortSteps 55 = .ok (.lastore, 1) := by decide +kernel
theorem d_Os_takeShortSteps_56 : decode b_Os_takeShortSteps 56 = .ok (.aload_n 0, 1) := by decide +kernel
theorem d_Os_takeShortSteps_57 : decode b_Os_takeShortSteps 57 = .ok (.getfield 9, 3) := by decide +kernel
theorem d_Os_takeShortSteps_60 : decode b_Os_takeShortSteps 60 = .ok (.aload_n 0, 1) := by decide +kernel
theorem d_Os_takeShortSteps_61 : decode b_Os_takeShortSteps 61 = .ok (.getfield 27, 3) := by decide +kernel
theorem d_Os_takeShortSteps_64 : decode b_Os_takeShortSteps 64 = .ok (.aload_n 0, 1) := by decide +kernel
theorem d_Os_takeShortSteps_65 : decode b_Os_takeShortSteps 65 = .ok (.getfield 34, 3) := by decide +kernel
theorem d_Os_takeShortSteps_68 : decode b_Os_takeShortSteps 68 = .ok (.aload_n 0, 1) := by decide +kernel
theorem d_Os_takeShortSteps_69 : decode b_Os_takeShortSteps 69 = .ok (.getfield 27, 3) := by decide +kernel
theorem d_Os_takeShortSteps_72 : decode b_Os_takeShortSteps 72 = .ok (.aload_n 1, 1) := by decide +kernel
theorem d_Os_takeShortSteps_73 : decode b_Os_takeShortSteps 73 = .ok (.invokevirtual 59, 3) := by decide +kernel
theorem d_Os_takeShortSteps_76 : decode b_Os_takeShortSteps 76 = .ok (.iinc 2 1, 3) := by decide +kernel
theorem d_Os_takeShortSteps_79 : decode b_Os_takeShortSteps 79 = .ok (.goto (-69), 3) := by decide +kernel
theorem d_Os_takeShortSteps_82 : decode b_Os_takeShortSteps 82 = .ok (.iconst 0, 1) := by decide +kernel
theorem d_Os_takeShortSteps_83 : decode b_Os_takeShortSteps 83 = .ok (.ireturn, 1) := by decide +kernel
abbrev ws_Os_takeShortSteps : List Cond := .code y_Os_takeShortSteps b_Os_takeShortSteps 3 (Option.some .int) :: TB
abbrev b_Os_takeLongSteps : ByteArray := prog_4_method_4_code
theorem d_Os_takeLongSteps_0 : decode b_Os_takeLongSteps 0 = .ok (.aload_n 0, 1) := by decide +kernel
theorem d_Os_takeLongSteps_1 : decode b_Os_takeLongSteps 1 = .ok (.getfield 31, 3) := by decide +kernel
theorem d_Os_takeLongSteps_4 : decode b_Os_takeLongSteps 4 = .ok (.aload_n 0, 1) := by decide +kernel
theorem d_Os_takeLongSteps_5 : decode b_Os_takeLongSteps 5 = .ok (.getfield 27, 3) := by decide +kernel
theorem d_Os_takeLongSteps_8 : decode b_Os_takeLongSteps 8 = .ok (.invokevirtual 65, 3) := by decide +kernel
theorem d_Os_takeLongSteps_11 : decode b_Os_takeLongSteps 11 = .ok (.iconst 1, 1) := by decide +kernel
theorem d_Os_takeLongSteps_12 : decode b_Os_takeLongSteps 12 = .ok (.istore_n 2, 1) := by decide +kernel
theorem d_Os_takeLongSteps_13 : decode b_Os_takeLongSteps 13 = .ok (.iload_n 2, 1) := by decide +kernel
theorem d_Os_takeLongSteps_14 : decode b_Os_takeLongSteps 14 = .ok (.sipush 200, 3) := by decide +kernel
theorem d_Os_takeLongSteps_17 : decode b_Os_takeLongSteps 17 = .ok (.if_icmp .gt 46, 3) := by decide +kernel
theorem d_Os_takeLongSteps_20 : decode b_Os_takeLongSteps 20 = .ok (.aload_n 0, 1) := by decide +kernel
theorem d_Os_takeLongSteps_21 : decode b_Os_takeLongSteps 21 = .ok (.invokevirtual 69, 3) := by decide +kernel
theorem d_Os_takeLongSteps_24 : decode b_Os_takeLongSteps 24 = .ok (.istore_n 3, 1) := by decide +kernel
theorem d_Os_takeLongSteps_25 : decode b_Os_takeLongSteps 25 = .ok (.iload_n 3, 1) := by decide +kernel
theorem d_Os_takeLongSteps_26 : decode b_Os_takeLongSteps 26 = .ok (.ifCond .lt 11, 3) := by decide +kernel
theorem d_Os_takeLongSteps_29 : decode b_Os_takeLongSteps 29 = .ok (.sipush 500, 3) := by decide +kernel
theorem d_Os_takeLongSteps_32 : decode b_Os_takeLongSteps 32 = .ok (.iload_n 2, 1) := by decide +kernel
theorem d_Os_takeLongSteps_33 : decode b_Os_takeLongSteps 33 = .ok (.imul, 1) := by decide +kernel
theorem d_Os_takeLongSteps_34 : decode b_Os_takeLongSteps 34 = .ok (.iload_n 3, 1) := by decide +kernel
theorem d_Os_takeLongSteps_35 : decode b_Os_takeLongSteps 35 = .ok (.isub, 1) := by decide +kernel
theorem d_Os_takeLongSteps_36 : decode b_Os_takeLongSteps 36 = .ok (.ireturn, 1) := by decide +kernel
theorem d_Os_takeLongSteps_37 : decode b_Os_takeLongSteps 37 = .ok (.aload_n 0, 1) := by decide +kernel
theorem d_Os_takeLongSteps_38 : decode b_Os_takeLongSteps 38 = .ok (.getfield 9, 3) := by decide +kernel
theorem d_Os_takeLongSteps_41 : decode b_Os_takeLongSteps 41 = .ok (.aload_n 0, 1) := by decide +kernel
theorem d_Os_takeLongSteps_42 : decode b_Os_takeLongSteps 42 = .ok (.getfield 27, 3) := by decide +kernel
theorem d_Os_takeLongSteps_45 : decode b_Os_takeLongSteps 45 = .ok (.aload_n 0, 1) := by decide +kernel
theorem d_Os_takeLongSteps_46 : decode b_Os_takeLongSteps 46 = .ok (.getfield 31, 3) := by decide +kernel
theorem d_Os_takeLongSteps_49 : decode b_Os_takeLongSteps 49 = .ok (.aload_n 0, 1) := by decide +kernel
theorem d_Os_takeLongSteps_50 : decode b_Os_takeLongSteps 50 = .ok (.getfield 27, 3) := by decide +kernel
theorem d_Os_takeLongSteps_53 : decode b_Os_takeLongSteps 53 = .ok (.aload_n 1, 1) := by decide +kernel
theorem d_Os_takeLongSteps_54 : decode b_Os_takeLongSteps 54 = .ok (.invokevirtual 59, 3) := by decide +kernel
theorem d_Os_takeLongSteps_57 : decode b_Os_takeLongSteps 57 = .ok (.iinc 2 1, 3) := by decide +kernel
theorem d_Os_takeLongSteps_60 : decode b_Os_takeLongSteps 60 = .ok (.goto (-47), 3) := by decide +kernel
theorem d_Os_takeLongSteps_63 : decode b_Os_takeLongSteps 63 = .ok (.iconst 0, 1) := by decide +kernel
theorem d_Os_takeLongSteps_64 : decode b_Os_takeLongSteps 64 = .ok (.ireturn, 1) := by decide +kernel
abbrev ws_Os_takeLongSteps : List Cond := .code y_Os_takeLongSteps b_Os_takeLongSteps 4 (Option.some .int) :: TB
abbrev b_Os_findShortStep : ByteArray := prog_4_method_5_code
theorem d_Os_findShortStep_0 : decode b_Os_findShortStep 0 = .ok (.aload_n 0, 1) := by decide +kernel
theorem d_Os_findShortStep_1 : decode b_Os_findShortStep 1 = .ok (.iconst 0, 1) := by decide +kernel
theorem d_Os_findShortStep_2 : decode b_Os_findShortStep 2 = .ok (.invokevirtual 55, 3) := by decide +kernel
theorem d_Os_findShortStep_5 : decode b_Os_findShortStep 5 = .ok (.lstore_n 1, 1) := by decide +kernel
theorem d_Os_findShortStep_6 : decode b_Os_findShortStep 6 = .ok (.aload_n 0, 1) := by decide +kernel
theorem d_Os_findShortStep_7 : decode b_Os_findShortStep 7 = .ok (.bipush 12, 2) := by decide +kernel
theorem d_Os_findShortStep_9 : decode b_Os_findShortStep 9 = .ok (.invokevirtual 55, 3) := by decide +kernel
theorem d_Os_findShortStep_12 : decode b_Os_findShortStep 12 = .ok (.lstore_n 3, 1) := by decide +kernel
theorem d_Os_findShortStep_13 : decode b_Os_findShortStep 13 = .ok (.iconst 0, 1) := by decide +kernel
theorem d_Os_findShortStep_14 : decode b_Os_findShortStep 14 = .ok (.istore 5, 2) := by decide +kernel
theorem d_Os_findShortStep_16 : decode b_Os_findShortStep 16 = .ok (.iload 5, 2) := by decide +kernel
theorem d_Os_findShortStep_18 : decode b_Os_findShortStep 18 = .ok (.sipush 500, 3) := by decide +kernel
theorem d_Os_findShortStep_21 : decode b_Os_findShortStep 21 = .ok (.if_icmp .ge 36, 3) := by decide +kernel
theorem d_Os_findShortStep_24 : decode b_Os_findShortStep 24 = .ok (.aload_n 0, 1) := by decide +kernel
theorem d_Os_findShortStep_25 : decode b_Os_findShortStep 25 = .ok (.getfield 15, 3) := by decide +kernel
theorem d_Os_findShortStep_28 : decode b_Os_findShortStep 28 = .ok (.iload 5, 2) := by decide +kernel
theorem d_Os_findShortStep_30 : decode b_Os_findShortStep 30 = .ok (.laload, 1) := by decide +kernel
theorem d_Os_findShortStep_31 : decode b_Os_findShortStep 31 = .ok (.lload_n 1, 1) := by decide +kernel
theorem d_Os_findShortStep_32 : decode b_Os_findShortStep 32 = .ok (.lcmp, 1) := by decide +kernel
theorem d_Os_findShortStep_33 : decode b_Os_findShortStep 33 = .ok (.ifCond .ne 18, 3) := by decide +kernel
theorem d_Os_findShortStep_36 : decode b_Os_findShortStep 36 = .ok (.aload_n 0, 1) := by decide +kernel
theorem d_Os_findShortStep_37 : decode b_Os_findShortStep 37 = .ok (.getfield 19, 3) := by decide +kernel
theorem d_Os_findShortStep_40 : decode b_Os_findShortStep 40 = .ok (.iload 5, 2) := by decide +kernel
theorem d_Os_findShortStep_42 : decode b_Os_findShortStep 42 = .ok (.laload, 1) := by decide +kernel
theorem d_Os_findShortStep_43 : decode b_Os_findShortStep 43 = .ok (.lload_n 3, 1) := by decide +kernel
theorem d_Os_findShortStep_44 : decode b_Os_findShortStep 44 = .ok (.lcmp, 1) := by decide +kernel
theorem d_Os_findShortStep_45 : decode b_Os_findShortStep 45 = .ok (.ifCond .ne 6, 3) := by decide +kernel
theorem d_Os_findShortStep_48 : decode b_Os_findShortStep 48 = .ok (.iload 5, 2) := by decide +kernel
theorem d_Os_findShortStep_50 : decode b_Os_findShortStep 50 = .ok (.ireturn, 1) := by decide +kernel
theorem d_Os_findShortStep_51 : decode b_Os_findShortStep 51 = .ok (.iinc 5 1, 3) := by decide +kernel
theorem d_Os_findShortStep_54 : decode b_Os_findShortStep 54 = .ok (.goto (-38), 3) := by decide +kernel
theorem d_Os_findShortStep_57 : decode b_Os_findShortStep 57 = .ok (.iconst (-1), 1) := by decide +kernel
theorem d_Os_findShortStep_58 : decode b_Os_findShortStep 58 = .ok (.ireturn, 1) := by decide +kernel
abbrev ws_Os_findShortStep : List Cond := .code y_Os_findShortStep b_Os_findShortStep 6 (Option.some .int) :: TB
abbrev b_Os_code : ByteArray := prog_4_method_6_code
theorem d_Os_code_0 : decode b_Os_code 0 = .ok (.lconst 0, 1) := by decide +kernel
theorem d_Os_code_1 : decode b_Os_code 1 = .ok (.lstore_n 2, 1) := by decide +kernel
theorem d_Os_code_2 : decode b_Os_code 2 = .ok (.iload_n 1, 1) := by decide +kernel
theorem d_Os_code_3 : decode b_Os_code 3 = .ok (.istore 4, 2) := by decide +kernel
theorem d_Os_code_5 : decode b_Os_code 5 = .ok (.iload 4, 2) := by decide +kernel
theorem d_Os_code_7 : decode b_Os_code 7 = .ok (.iload_n 1, 1) := by decide +kernel
theorem d_Os_code_8 : decode b_Os_code 8 = .ok (.bipush 12, 2) := by decide +kernel
theorem d_Os_code_10 : decode b_Os_code 10 = .ok (.iadd, 1) := by decide +kernel
theorem d_Os_code_11 : decode b_Os_code 11 = .ok (.if_icmp .ge 32, 3) := by decide +kernel
theorem d_Os_code_14 : decode b_Os_code 14 = .ok (.lload_n 2, 1) := by decide +kernel
theorem d_Os_code_15 : decode b_Os_code 15 = .ok (.aload_n 0, 1) := by decide +kernel
theorem d_Os_code_16 : decode b_Os_code 16 = .ok (.getfield 9, 3) := by decide +kernel
theorem d_Os_code_19 : decode b_Os_code 19 = .ok (.getfield 73, 3) := by decide +kernel
theorem d_Os_code_22 : decode b_Os_code 22 = .ok (.i2l, 1) := by decide +kernel
theorem d_Os_code_23 : decode b_Os_code 23 = .ok (.lmul, 1) := by decide +kernel
theorem d_Os_code_24 : decode b_Os_code 24 = .ok (.aload_n 0, 1) := by decide +kernel
theorem d_Os_code_25 : decode b_Os_code 25 = .ok (.getfield 27, 3) := by decide +kernel
theorem d_Os_code_28 : decode b_Os_code 28 = .ok (.getfield 40, 3) := by decide +kernel
theorem d_Os_code_31 : decode b_Os_code 31 = .ok (.iload 4, 2) := by decide +kernel
theorem d_Os_code_33 : decode b_Os_code 33 = .ok (.iaload, 1) := by decide +kernel
theorem d_Os_code_34 : decode b_Os_code 34 = .ok (.i2l, 1) := by decide +kernel
theorem d_Os_code_35 : decode b_Os_code 35 = .ok (.ladd, 1) := by decide +kernel
theorem d_Os_code_36 : decode b_Os_code 36 = .ok (.lstore_n 2, 1) := by decide +kernel
theorem d_Os_code_37 : decode b_Os_code 37 = .ok (.iinc 4 1, 3) := by decide +kernel
theorem d_Os_code_40 : decode b_Os_code 40 = .ok (.goto (-35), 3) := by decide +kernel
theorem d_Os_code_43 : decode b_Os_code 43 = .ok (.lload_n 2, 1) := by decide +kernel
theorem d_Os_code_44 : decode b_Os_code 44 = .ok (.lreturn, 1) := by decide +kernel
abbrev ws_Os_code : List Cond := .code y_Os_code b_Os_code 5 (Option.some .long) :: TB
abbrev b_Cu_init : ByteArray := prog_3_method_1_code
theorem d_Cu_init_0 : decode b_Cu_init 0 = .ok (.aload_n 0, 1) := by decide +kernel
theorem d_Cu_init_1 : decode b_Cu_init 1 = .ok (.invokespecial 3, 3) := by decide +kernel
theorem d_Cu_init_4 : decode b_Cu_init 4 = .ok (.aload_n 0, 1) := by decide +kernel
theorem d_Cu_init_5 : decode b_Cu_init 5 = .ok (.aload_n 1, 1) := by decide +kernel
theorem d_Cu_init_6 : decode b_Cu_init 6 = .ok (.putfield 9, 3) := by decide +kernel
theorem d_Cu_init_9 : decode b_Cu_init 9 = .ok (.aload_n 0, 1) := by decide +kernel
theorem d_Cu_init_10 : decode b_Cu_init 10 = .ok (.bipush 24, 2) := by decide +kernel
theorem d_Cu_init_12 : decode b_Cu_init 12 = .ok (.anewarray 15, 3) := by decide +kernel
theorem d_Cu_init_15 : decode b_Cu_init 15 = .ok (.putfield 17, 3) := by decide +kernel
theorem d_Cu_init_18 : decode b_Cu_init 18 = .ok (.aload_n 0, 1) := by decide +kernel
theorem d_Cu_init_19 : decode b_Cu_init 19 = .ok (.bipush 24, 2) := by decide +kernel
theorem d_Cu_init_21 : decode b_Cu_init 21 = .ok (.newarray .int, 2) := by decide +kernel
theorem d_Cu_init_23 : decode b_Cu_init 23 = .ok (.putfield 21, 3) := by decide +kernel
theorem d_Cu_init_26 : decode b_Cu_init 26 = .ok (.iconst 0, 1) := by decide +kernel
theorem d_Cu_init_27 : decode b_Cu_init 27 = .ok (.istore_n 2, 1) := by decide +kernel
theorem d_Cu_init_28 : decode b_Cu_init 28 = .ok (.iload_n 2, 1) := by decide +kernel
theorem d_Cu_init_29 : decode b_Cu_init 29 = .ok (.bipush 24, 2) := by decide +kernel
theorem d_Cu_init_31 : decode b_Cu_init 31 = .ok (.if_icmp .ge 24, 3) := by decide +kernel
theorem d_Cu_init_34 : decode b_Cu_init 34 = .ok (.aload_n 0, 1) := by decide +kernel
theorem d_Cu_init_35 : decode b_Cu_init 35 = .ok (.getfield 17, 3) := by decide +kernel
theorem d_Cu_init_38 : decode b_Cu_init 38 = .ok (.iload_n 2, 1) := by decide +kernel
theorem d_Cu_init_39 : decode b_Cu_init 39 = .ok (.new 15, 3) := by decide +kernel
theorem d_Cu_init_42 : decode b_Cu_init 42 = .ok (.dup, 1) := by decide +kernel
theorem d_Cu_init_43 : decode b_Cu_init 43 = .ok (.bipush 25, 2) := by decide +kernel
theorem d_Cu_init_45 : decode b_Cu_init 45 = .ok (.invokespecial 25, 3) := by decide +kernel
theorem d_Cu_init_48 : decode b_Cu_init 48 = .ok (.aastore, 1) := by decide +kernel
theorem d_Cu_init_49 : decode b_Cu_init 49 = .ok (.iinc 2 1, 3) := by decide +kernel
theorem d_Cu_init_52 : decode b_Cu_init 52 = .ok (.goto (-24), 3) := by decide +kernel
theorem d_Cu_init_55 : decode b_Cu_init 55 = .ok (.aload_n 0, 1) := by decide +kernel
theorem d_Cu_init_56 : decode b_Cu_init 56 = .ok (.iconst 0, 1) := by decide +kernel
theorem d_Cu_init_57 : decode b_Cu_init 57 = .ok (.putfield 28, 3) := by decide +kernel
theorem d_Cu_init_60 : decode b_Cu_init 60 = .ok (.aload_n 0, 1) := by decide +kernel
theorem d_Cu_init_61 : decode b_Cu_init 61 = .ok (.new 15, 3) := by decide +kernel
theorem d_Cu_init_64 : decode b_Cu_init 64 = .ok (.dup, 1) := by decide +kernel
theorem d_Cu_init_65 : decode b_Cu_init 65 = .ok (.bipush 25, 2) := by decide +kernel
theorem d_Cu_init_67 : decode b_Cu_init 67 = .ok (.invokespecial 25, 3) := by decide +kernel
theorem d_Cu_init_70 : decode b_Cu_init 70 = .ok (.putfield 32, 3) := by decide +kernel
theorem d_Cu_init_73 : decode b_Cu_init 73 = .ok (.aload_n 0, 1) := by decide +kernel
theorem d_Cu_init_74 : decode b_Cu_init 74 = .ok (.new 15, 3) := by decide +kernel
theorem d_Cu_init_77 : decode b_Cu_init 77 = .ok (.dup, 1) := by decide +kernel
theorem d_Cu_init_78 : decode b_Cu_init 78 = .ok (.bipush 25, 2) := by decide +kernel
theorem d_Cu_init_80 : decode b_Cu_init 80 = .ok (.invokespecial 25, 3) := by decide +kernel
theorem d_Cu_init_83 : decode b_Cu_init 83 = .ok (.putfield 36, 3) := by decide +kernel
theorem d_Cu_init_86 : decode b_Cu_init 86 = .ok (.aload_n 0, 1) := by decide +kernel
theorem d_Cu_init_87 : decode b_Cu_init 87 = .ok (.new 15, 3) := by decide +kernel
theorem d_Cu_init_90 : decode b_Cu_init 90 = .ok (.dup, 1) := by decide +kernel
theorem d_Cu_init_91 : decode b_Cu_init 91 = .ok (.bipush 25, 2) := by decide +kernel
theorem d_Cu_init_93 : decode b_Cu_init 93 = .ok (.invokespecial 25, 3) := by decide +kernel
theorem d_Cu_init_96 : decode b_Cu_init 96 = .ok (.putfield 39, 3) := by decide +kernel
theorem d_Cu_init_99 : decode b_Cu_init 99 = .ok (.aload_n 0, 1) := by decide +kernel
theorem d_Cu_init_100 : decode b_Cu_init 100 = .ok (.new 15, 3) := by decide +kernel
theorem d_Cu_init_103 : decode b_Cu_init 103 = .ok (.dup, 1) := by decide +kernel
theorem d_Cu_init_104 : decode b_Cu_init 104 = .ok (.bipush 25, 2) := by decide +kernel
theorem d_Cu_init_106 : decode b_Cu_init 106 = .ok (.invokespecial 25, 3) := by decide +kernel
theorem d_Cu_init_109 : decode b_Cu_init 109 = .ok (.putfield 42, 3) := by decide +kernel
theorem d_Cu_init_112 : decode b_Cu_init 112 = .ok (.aload_n 0, 1) := by decide +kernel
theorem d_Cu_init_113 : decode b_Cu_init 113 = .ok (.new 15, 3) := by decide +kernel
theorem d_Cu_init_116 : decode b_Cu_init 116 = .ok (.dup, 1) := by decide +kernel
theorem d_Cu_init_117 : decode b_Cu_init 117 = .ok (.bipush 25, 2) := by decide +kernel
theorem d_Cu_init_119 : decode b_Cu_init 119 = .ok (.invokespecial 25, 3) := by decide +kernel
theorem d_Cu_init_122 : decode b_Cu_init 122 = .ok (.putfield 45, 3) := by decide +kernel
theorem d_Cu_init_125 : decode b_Cu_init 125 = .ok (.aload_n 0, 1) := by decide +kernel
theorem d_Cu_init_126 : decode b_Cu_init 126 = .ok (.new 15, 3) := by decide +kernel
theorem d_Cu_init_129 : decode b_Cu_init 129 = .ok (.dup, 1) := by decide +kernel
theorem d_Cu_init_130 : decode b_Cu_init 130 = .ok (.bipush 25, 2) := by decide +kernel
theorem d_Cu_init_132 : decode b_Cu_init 132 = .ok (.invokespecial 25, 3) := by decide +kernel
theorem d_Cu_init_135 : decode b_Cu_init 135 = .ok (.putfield 48, 3) := by decide +kernel
theorem d_Cu_init_138 : decode b_Cu_init 138 = .ok (.aload_n 0, 1) := by decide +kernel
theorem d_Cu_init_139 : decode b_Cu_init 139 = .ok (.new 15, 3) := by decide +kernel
theorem d_Cu_init_142 : decode b_Cu_init 142 = .ok (.dup, 1) := by decide +kernel
theorem d_Cu_init_143 : decode b_Cu_init 143 = .ok (.bipush 25, 2) := by decide +kernel
theorem d_Cu_init_145 : decode b_Cu_init 145 = .ok (.invokespecial 25, 3) := by decide +kernel
theorem d_Cu_init_148 : decode b_Cu_init 148 = .ok (.putfield 51, 3) := by decide +kernel
theorem d_Cu_init_151 : decode b_Cu_init 151 = .ok (.aload_n 0, 1) := by decide +kernel
theorem d_Cu_init_152 : decode b_Cu_init 152 = .ok (.new 15, 3) := by decide +kernel
theorem d_Cu_init_155 : decode b_Cu_init 155 = .ok (.dup, 1) := by decide +kernel
theorem d_Cu_init_156 : decode b_Cu_init 156 = .ok (.bipush 25, 2) := by decide +kernel
theorem d_Cu_init_158 : decode b_Cu_init 158 = .ok (.invokespecial 25, 3) := by decide +kernel
theorem d_Cu_init_161 : decode b_Cu_init 161 = .ok (.putfield 54, 3) := by decide +kernel
theorem d_Cu_init_164 : decode b_Cu_init 164 = .ok (.aload_n 0, 1) := by decide +kernel
theorem d_Cu_init_165 : decode b_Cu_init 165 = .ok (.getfield 54, 3) := by decide +kernel
theorem d_Cu_init_168 : decode b_Cu_init 168 = .ok (.iconst 0, 1) := by decide +kernel
theorem d_Cu_init_169 : decode b_Cu_init 169 = .ok (.invokevirtual 57, 3) := by decide +kernel
theorem d_Cu_init_172 : decode b_Cu_init 172 = .ok (.aload_n 0, 1) := by decide +kernel
theorem d_Cu_init_173 : decode b_Cu_init 173 = .ok (.new 15, 3) := by decide +kernel
theorem d_Cu_init_176 : decode b_Cu_init 176 = .ok (.dup, 1) := by decide +kernel
theorem d_Cu_init_177 : decode b_Cu_init 177 = .ok (.bipush 25, 2) := by decide +kernel
theorem d_Cu_init_179 : decode b_Cu_init 179 = .ok (.invokespecial 25, 3) := by decide +kernel
theorem d_Cu_init_182 : decode b_Cu_init 182 = .ok (.putfield 60, 3) := by decide +kernel
theorem d_Cu_init_185 : decode b_Cu_init 185 = .ok (.aload_n 0, 1) := by decide +kernel
theorem d_Cu_init_186 : decode b_Cu_init 186 = .ok (.getfield 60, 3) := by decide +kernel
theorem d_Cu_init_189 : decode b_Cu_init 189 = .ok (.iconst 1, 1) := by decide +kernel
theorem d_Cu_init_190 : decode b_Cu_init 190 = .ok (.invokevirtual 57, 3) := by decide +kernel
theorem d_Cu_init_193 : decode b_Cu_init 193 = .ok (.return_, 1) := by decide +kernel
abbrev ws_Cu_init : List Cond := .code y_Cu_init b_Cu_init 3 none :: TB
abbrev b_Cu_forget : ByteArray := prog_3_method_2_code
theorem d_Cu_forget_0 : decode b_Cu_forget 0 = .ok (.aload_n 0, 1) := by decide +kernel
theorem d_Cu_forget_1 : decode b_Cu_forget 1 = .ok (.iconst 0, 1) := by decide +kernel
theorem d_Cu_forget_2 : decode b_Cu_forget 2 = .ok (.putfield 28, 3) := by decide +kernel
theorem d_Cu_forget_5 : decode b_Cu_forget 5 = .ok (.return_, 1) := by decide +kernel
abbrev ws_Cu_forget : List Cond := .code y_Cu_forget b_Cu_forget 1 none :: TB
abbrev b_Cu_cannotBeCut : ByteArray := prog_3_method_3_code
theorem d_Cu_cannotBeCut_0 : decode b_Cu_cannotBeCut 0 = .ok (.aload_n 1, 1) := by decide +kernel
theorem d_Cu_cannotBeCut_1 : decode b_Cu_cannotBeCut 1 = .ok (.getfield 63, 3) := by decide +kernel
theorem d_Cu_cannotBeCut_4 : decode b_Cu_cannotBeCut 4 = .ok (.iconst 1, 1) := by decide +kernel
theorem d_Cu_cannotBeCut_5 : decode b_Cu_cannotBeCut 5 = .ok (.if_icmp .ge 5, 3) := by decide +kernel
theorem d_Cu_cannotBeCut_8 : decode b_Cu_cannotBeCut 8 = .ok (.iconst 0, 1) := by decide +kernel
theorem d_Cu_cannotBeCut_9 : decode b_Cu_cannotBeCut 9 = .ok (.ireturn, 1) := by decide +kernel
theorem d_Cu_cannotBeCut_10 : decode b_Cu_cannotBeCut 10 = .ok (.aload_n 0, 1) := by decide +kernel
theorem d_Cu_cannotBeCut_11 : decode b_Cu_cannotBeCut 11 = .ok (.getfield 36, 3) := by decide +kernel
theorem d_Cu_cannotBeCut_14 : decode b_Cu_cannotBeCut 14 = .ok (.aload_n 0, 1) := by decide +kernel
theorem d_Cu_cannotBeCut_15 : decode b_Cu_cannotBeCut 15 = .ok (.getfield 60, 3) := by decide +kernel
theorem d_Cu_cannotBeCut_18 : decode b_Cu_cannotBeCut 18 = .ok (.invokevirtual 66, 3) := by decide +kernel
theorem d_Cu_cannotBeCut_21 : decode b_Cu_cannotBeCut 21 = .ok (.iconst 1, 1) := by decide +kernel
theorem d_Cu_cannotBeCut_22 : decode b_Cu_cannotBeCut 22 = .ok (.istore_n 2, 1) := by decide +kernel
theorem d_Cu_cannotBeCut_23 : decode b_Cu_cannotBeCut 23 = .ok (.iconst 2, 1) := by decide +kernel
theorem d_Cu_cannotBeCut_24 : decode b_Cu_cannotBeCut 24 = .ok (.iload_n 2, 1) := by decide +kernel
theorem d_Cu_cannotBeCut_25 : decode b_Cu_cannotBeCut 25 = .ok (.imul, 1) := by decide +kernel
theorem d_Cu_cannotBeCut_26 : decode b_Cu_cannotBeCut 26 = .ok (.aload_n 1, 1) := by decide +kernel
theorem d_Cu_cannotBeCut_27 : decode b_Cu_cannotBeCut 27 = .ok (.getfield 63, 3) := by decide +kernel
theorem d_Cu_cannotBeCut_30 : decode b_Cu_cannotBeCut 30 = .ok (.if_icmp .gt 26, 3) := by decide +kernel
theorem d_Cu_cannotBeCut_33 : decode b_Cu_cannotBeCut 33 = .ok (.aload_n 0, 1) := by decide +kernel
theorem d_Cu_cannotBeCut_34 : decode b_Cu_cannotBeCut 34 = .ok (.aload_n 1, 1) := by decide +kernel
theorem d_Cu_cannotBeCut_35 : decode b_Cu_cannotBeCut 35 = .ok (.invokevirtual 70, 3) := by decide +kernel
theorem d_Cu_cannotBeCut_38 : decode b_Cu_cannotBeCut 38 = .ok (.aload_n 0, 1) := by decide +kernel
theorem d_Cu_cannotBeCut_39 : decode b_Cu_cannotBeCut 39 = .ok (.getfield 39, 3) := by decide +kernel
theorem d_Cu_cannotBeCut_42 : decode b_Cu_cannotBeCut 42 = .ok (.getfield 63, 3) := by decide +kernel
theorem d_Cu_cannotBeCut_45 : decode b_Cu_cannotBeCut 45 = .ok (.ifCond .le 5, 3) := by decide +kernel
theorem d_Cu_cannotBeCut_48 : decode b_Cu_cannotBeCut 48 = .ok (.iconst 0, 1) := by decide +kernel
theorem d_Cu_cannotBeCut_49 : decode b_Cu_cannotBeCut 49 = .ok (.ireturn, 1) := by decide +kernel
theorem d_Cu_cannotBeCut_50 : decode b_Cu_cannotBeCut 50 = .ok (.iinc 2 1, 3) := by decide +kernel
theorem d_Cu_cannotBeCut_53 : decode b_Cu_cannotBeCut 53 = .ok (.goto (-30), 3) := by decide +kernel
theorem d_Cu_cannotBeCut_56 : decode b_Cu_cannotBeCut 56 = .ok (.iconst 1, 1) := by decide +kernel
theorem d_Cu_cannotBeCut_57 : decode b_Cu_cannotBeCut 57 = .ok (.ireturn, 1) := by decide +kernel
abbrev ws_Cu_cannotBeCut : List Cond := .code y_Cu_cannotBeCut b_Cu_cannotBeCut 3 (Option.some .boolean) :: TB
abbrev b_Cu_cut : ByteArray := prog_3_method_4_code
theorem d_Cu_cut_0 : decode b_Cu_cut 0 = .ok (.aload_n 0, 1) := by decide +kernel
theorem d_Cu_cut_1 : decode b_Cu_cut 1 = .ok (.iconst 0, 1) := by decide +kernel
theorem d_Cu_cut_2 : decode b_Cu_cut 2 = .ok (.putfield 28, 3) := by decide +kernel
theorem d_Cu_cut_5 : decode b_Cu_cut 5 = .ok (.aload_n 0, 1) := by decide +kernel
theorem d_Cu_cut_6 : decode b_Cu_cut 6 = .ok (.getfield 32, 3) := by decide +kernel
theorem d_Cu_cut_9 : decode b_Cu_cut 9 = .ok (.aload_n 1, 1) := by decide +kernel
theorem d_Cu_cut_10 : decode b_Cu_cut 10 = .ok (.invokevirtual 66, 3) := by decide +kernel
theorem d_Cu_cut_13 : decode b_Cu_cut 13 = .ok (.aload_n 0, 1) := by decide +kernel
theorem d_Cu_cut_14 : decode b_Cu_cut 14 = .ok (.getfield 9, 3) := by decide +kernel
theorem d_Cu_cut_17 : decode b_Cu_cut 17 = .ok (.aload_n 0, 1) := by decide +kernel
theorem d_Cu_cut_18 : decode b_Cu_cut 18 = .ok (.getfield 32, 3) := by decide +kernel
theorem d_Cu_cut_21 : decode b_Cu_cut 21 = .ok (.invokevirtual 73, 3) := by decide +kernel
theorem d_Cu_cut_24 : decode b_Cu_cut 24 = .ok (.aload_n 0, 1) := by decide +kernel
theorem d_Cu_cut_25 : decode b_Cu_cut 25 = .ok (.getfield 36, 3) := by decide +kernel
theorem d_Cu_cut_28 : decode b_Cu_cut 28 = .ok (.aload_n 0, 1) := by decide +kernel
theorem d_Cu_cut_29 : decode b_Cu_cut 29 = .ok (.getfield 60, 3) := by decide +kernel
theorem d_Cu_cut_32 : decode b_Cu_cut 32 = .ok (.invokevirtual 66, 3) := by decide +kernel
theorem d_Cu_cut_35 : decode b_Cu_cut 35 = .ok (.iconst 1, 1) := by decide +kernel
theorem d_Cu_cut_36 : decode b_Cu_cut 36 = .ok (.istore_n 2, 1) := by decide +kernel
theorem d_Cu_cut_37 : decode b_Cu_cut 37 = .ok (.iload_n 2, 1) := by decide +kernel
theorem d_Cu_cut_38 : decode b_Cu_cut 38 = .ok (.bipush 24, 2) := by decide +kernel
theorem d_Cu_cut_40 : decode b_Cu_cut 40 = .ok (.if_icmp .gt 55, 3) := by decide +kernel
theorem d_Cu_cut_43 : decode b_Cu_cut 43 = .ok (.iconst 2, 1) := by decide +kernel
theorem d_Cu_cut_44 : decode b_Cu_cut 44 = .ok (.iload_n 2, 1) := by decide +kernel
theorem d_Cu_cut_45 : decode b_Cu_cut 45 = .ok (.imul, 1) := by decide +kernel
theorem d_Cu_cut_46 : decode b_Cu_cut 46 = .ok (.aload_n 0, 1) := by decide +kernel
theorem d_Cu_cut_47 : decode b_Cu_cut 47 = .ok (.getfield 32, 3) := by decide +kernel
theorem d_Cu_cut_50 : decode b_Cu_cut 50 = .ok (.getfield 63, 3) := by decide +kernel
theorem d_Cu_cut_53 : decode b_Cu_cut 53 = .ok (.if_icmp .gt 42, 3) := by decide +kernel
theorem d_Cu_cut_56 : decode b_Cu_cut 56 = .ok (.aload_n 0, 1) := by decide +kernel
theorem d_Cu_cut_57 : decode b_Cu_cut 57 = .ok (.aload_n 0, 1) := by decide +kernel
theorem d_Cu_cut_58 : decode b_Cu_cut 58 = .ok (.getfield 32, 3) := by decide +kernel
theorem d_Cu_cut_61 : decode b_Cu_cut 61 = .ok (.invokevirtual 70, 3) := by decide +kernel
theorem d_Cu_cut_64 : decode b_Cu_cut 64 = .ok (.aload_n 0, 1) := by decide +kernel
theorem d_Cu_cut_65 : decode b_Cu_cut 65 = .ok (.getfield 39, 3) := by decide +kernel
theorem d_Cu_cut_68 : decode b_Cu_cut 68 = .ok (.getfield 63, 3) := by decide +kernel
theorem d_Cu_cut_71 : decode b_Cu_cut 71 = .ok (.ifCond .le 18, 3) := by decide +kernel
theorem d_Cu_cut_74 : decode b_Cu_cut 74 = .ok (.aload_n 0, 1) := by decide +kernel
theorem d_Cu_cut_75 : decode b_Cu_cut 75 = .ok (.getfield 28, 3) := by decide +kernel
theorem d_Cu_cut_78 : decode b_Cu_cut 78 = .ok (.istore_n 3, 1) := by decide +kernel
theorem d_Cu_cut_79 : decode b_Cu_cut 79 = .ok (.aload_n 0, 1) := by decide +kernel
theorem d_Cu_cut_80 : decode b_Cu_cut 80 = .ok (.iload_n 2, 1) := by decide +kernel
theorem d_Cu_cut_81 : decode b_Cu_cut 81 = .ok (.invokevirtual 78, 3) := by decide +kernel
theorem d_Cu_cut_84 : decode b_Cu_cut 84 = .ok (.aload_n 0, 1) := by decide +kernel
theorem d_Cu_cut_85 : decode b_Cu_cut 85 = .ok (.iload_n 3, 1) := by decide +kernel
theorem d_Cu_cut_86 : decode b_Cu_cut 86 = .ok (.invokevirtual 81, 3) := by decide +kernel
theorem d_Cu_cut_89 : decode b_Cu_cut 89 = .ok (.iinc 2 1, 3) := by decide +kernel
theorem d_Cu_cut_92 : decode b_Cu_cut 92 = .ok (.goto (-55), 3) := by decide +kernel
theorem d_Cu_cut_95 : decode b_Cu_cut 95 = .ok (.aload_n 0, 1) := by decide +kernel
theorem d_Cu_cut_96 : decode b_Cu_cut 96 = .ok (.getfield 32, 3) := by decide +kernel
theorem d_Cu_cut_99 : decode b_Cu_cut 99 = .ok (.getfield 63, 3) := by decide +kernel
theorem d_Cu_cut_102 : decode b_Cu_cut 102 = .ok (.ifCond .le 12, 3) := by decide +kernel
theorem d_Cu_cut_105 : decode b_Cu_cut 105 = .ok (.aload_n 0, 1) := by decide +kernel
theorem d_Cu_cut_106 : decode b_Cu_cut 106 = .ok (.aload_n 0, 1) := by decide +kernel
theorem d_Cu_cut_107 : decode b_Cu_cut 107 = .ok (.getfield 32, 3) := by decide +kernel
theorem d_Cu_cut_110 : decode b_Cu_cut 110 = .ok (.iconst 1, 1) := by decide +kernel
theorem d_Cu_cut_111 : decode b_Cu_cut 111 = .ok (.invokevirtual 84, 3) := by decide +kernel
theorem d_Cu_cut_114 : decode b_Cu_cut 114 = .ok (.aload_n 0, 1) := by decide +kernel
theorem d_Cu_cut_115 : decode b_Cu_cut 115 = .ok (.invokevirtual 88, 3) := by decide +kernel
theorem d_Cu_cut_118 : decode b_Cu_cut 118 = .ok (.return_, 1) := by decide +kernel
abbrev ws_Cu_cut : List Cond := .code y_Cu_cut b_Cu_cut 4 none :: TB
abbrev b_Cu_collectLinear : ByteArray := prog_3_method_5_code
theorem d_Cu_collectLinear_0 : decode b_Cu_collectLinear 0 = .ok (.aload_n 1, 1) := by decide +kernel
theorem d_Cu_collectLinear_1 : decode b_Cu_collectLinear 1 = .ok (.iconst 0, 1) := by decide +kernel
theorem d_Cu_collectLinear_2 : decode b_Cu_collectLinear 2 = .ok (.invokevirtual 57, 3) := by decide +kernel
theorem d_Cu_collectLinear_5 : decode b_Cu_collectLinear 5 = .ok (.iconst 0, 1) := by decide +kernel
theorem d_Cu_collectLinear_6 : decode b_Cu_collectLinear 6 = .ok (.istore_n 3, 1) := by decide +kernel
theorem d_Cu_collectLinear_7 : decode b_Cu_collectLinear 7 = .ok (.iload_n 3, 1) := by decide +kernel
theorem d_Cu_collectLinear_8 : decode b_Cu_collectLinear 8 = .ok (.aload_n 0, 1) := by decide +kernel
theorem d_Cu_collectLinear_9 : decode b_Cu_collectLinear 9 = .ok (.getfield 9, 3) := by decide +kernel
theorem d_Cu_collectLinear_12 : decode b_Cu_collectLinear 12 = .ok (.getfield 91, 3) := by decide +kernel
theorem d_Cu_collectLinear_15 : decode b_Cu_collectLinear 15 = .ok (.if_icmp .ge 104, 3) := by decide +kernel
theorem d_Cu_collectLinear_18 : decode b_Cu_collectLinear 18 = .ok (.aload_n 0, 1) := by decide +kernel
theorem d_Cu_collectLinear_19 : decode b_Cu_collectLinear 19 = .ok (.getfield 51, 3) := by decide +kernel
theorem d_Cu_collectLinear_22 : decode b_Cu_collectLinear 22 = .ok (.aload_n 0, 1) := by decide +kernel
theorem d_Cu_collectLinear_23 : decode b_Cu_collectLinear 23 = .ok (.getfield 60, 3) := by decide +kernel
theorem d_Cu_collectLinear_26 : decode b_Cu_collectLinear 26 = .ok (.invokevirtual 66, 3) := by decide +kernel
theorem d_Cu_collectLinear_29 : decode b_Cu_collectLinear 29 = .ok (.aload_n 0, 1) := by decide +kernel
theorem d_Cu_collectLinear_30 : decode b_Cu_collectLinear 30 = .ok (.getfield 51, 3) := by decide +kernel
theorem d_Cu_collectLinear_33 : decode b_Cu_collectLinear 33 = .ok (.iconst 0, 1) := by decide +kernel
theorem d_Cu_collectLinear_34 : decode b_Cu_collectLinear 34 = .ok (.aload_n 0, 1) := by decide +kernel
theorem d_Cu_collectLinear_35 : decode b_Cu_collectLinear 35 = .ok (.getfield 9, 3) := by decide +kernel
theorem d_Cu_collectLinear_38 : decode b_Cu_collectLinear 38 = .ok (.getfield 91, 3) := by decide +kernel
theorem d_Cu_collectLinear_41 : decode b_Cu_collectLinear 41 = .ok (.iload_n 3, 1) := by decide +kernel
theorem d_Cu_collectLinear_42 : decode b_Cu_collectLinear 42 = .ok (.isub, 1) := by decide +kernel
theorem d_Cu_collectLinear_43 : decode b_Cu_collectLinear 43 = .ok (.aload_n 0, 1) := by decide +kernel
theorem d_Cu_collectLinear_44 : decode b_Cu_collectLinear 44 = .ok (.getfield 9, 3) := by decide +kernel
theorem d_Cu_collectLinear_47 : decode b_Cu_collectLinear 47 = .ok (.getfield 91, 3) := by decide +kernel
theorem d_Cu_collectLinear_50 : decode b_Cu_collectLinear 50 = .ok (.irem, 1) := by decide +kernel
theorem d_Cu_collectLinear_51 : decode b_Cu_collectLinear 51 = .ok (.invokevirtual 94, 3) := by decide +kernel
theorem d_Cu_collectLinear_54 : decode b_Cu_collectLinear 54 = .ok (.aload_n 0, 1) := by decide +kernel
theorem d_Cu_collectLinear_55 : decode b_Cu_collectLinear 55 = .ok (.getfield 9, 3) := by decide +kernel
theorem d_Cu_collectLinear_58 : decode b_Cu_collectLinear 58 = .ok (.aload_n 2, 1) := by decide +kernel
theorem d_Cu_collectLinear_59 : decode b_Cu_collectLinear 59 = .ok (.aload_n 0, 1) := by decide +kernel
theorem d_Cu_collectLinear_60 : decode b_Cu_collectLinear 60 = .ok (.getfield 51, 3) := by decide +kernel
theorem d_Cu_collectLinear_63 : decode b_Cu_collectLinear 63 = .ok (.invokevirtual 98, 3) := by decide +kernel
theorem d_Cu_collectLinear_66 : decode b_Cu_collectLinear 66 = .ok (.istore 4, 2) := by decide +kernel
theorem d_Cu_collectLinear_68 : decode b_Cu_collectLinear 68 = .ok (.iconst 0, 1) := by decide +kernel
theorem d_Cu_collectLinear_69 : decode b_Cu_collectLinear 69 = .ok (.istore 5, 2) := by decide +kernel
theorem d_Cu_collectLinear_71 : decode b_Cu_collectLinear 71 = .ok (.iload 5, 2) := by decide +kernel
theorem d_Cu_collectLinear_73 : decode b_Cu_collectLinear 73 = .ok (.iload 4, 2) := by decide +kernel
theorem d_Cu_collectLinear_75 : decode b_Cu_collectLinear 75 = .ok (.if_icmp .ge 38, 3) := by decide +kernel
theorem d_Cu_collectLinear_78 : decode b_Cu_collectLinear 78 = .ok (.aload_n 0, 1) := by decide +kernel
theorem d_Cu_collectLinear_79 : decode b_Cu_collectLinear 79 = .ok (.getfield 48, 3) := by decide +kernel
theorem d_Cu_collectLinear_82 : decode b_Cu_collectLinear 82 = .ok (.aload_n 1, 1) := by decide +kernel
theorem d_Cu_collectLinear_83 : decode b_Cu_collectLinear 83 = .ok (.invokevirtual 66, 3) := by decide +kernel
theorem d_Cu_collectLinear_86 : decode b_Cu_collectLinear 86 = .ok (.aload_n 1, 1) := by decide +kernel
theorem d_Cu_collectLinear_87 : decode b_Cu_collectLinear 87 = .ok (.invokevirtual 102, 3) := by decide +kernel
theorem d_Cu_collectLinear_90 : decode b_Cu_collectLinear 90 = .ok (.aload_n 0, 1) := by decide +kernel
theorem d_Cu_collectLinear_91 : decode b_Cu_collectLinear 91 = .ok (.getfield 9, 3) := by decide +kernel
theorem d_Cu_collectLinear_94 : decode b_Cu_collectLinear 94 = .ok (.aload_n 1, 1) := by decide +kernel
theorem d_Cu_collectLinear_95 : decode b_Cu_collectLinear 95 = .ok (.iconst 1, 1) := by decide +kernel
theorem d_Cu_collectLinear_96 : decode b_Cu_collectLinear 96 = .ok (.aload_n 0, 1) := by decide +kernel
theorem d_Cu_collectLinear_97 : decode b_Cu_collectLinear 97 = .ok (.getfield 51, 3) := by decide +kernel
theorem d_Cu_collectLinear_100 : decode b_Cu_collectLinear 100 = .ok (.aload_n 0, 1) := by decide +kernel
theorem d_Cu_collectLinear_101 : decode b_Cu_collectLinear 101 = .ok (.getfield 48, 3) := by decide +kernel
theorem d_Cu_collectLinear_104 : decode b_Cu_collectLinear 104 = .ok (.invokevirtual 105, 3) := by decide +kernel
theorem d_Cu_collectLinear_107 : decode b_Cu_collectLinear 107 = .ok (.iinc 5 1, 3) := by decide +kernel
theorem d_Cu_collectLinear_110 : decode b_Cu_collectLinear 110 = .ok (.goto (-39), 3) := by decide +kernel
theorem d_Cu_collectLinear_113 : decode b_Cu_collectLinear 113 = .ok (.iinc 3 1, 3) := by decide +kernel
theorem d_Cu_collectLinear_116 : decode b_Cu_collectLinear 116 = .ok (.goto (-109), 3) := by decide +kernel
theorem d_Cu_collectLinear_119 : decode b_Cu_collectLinear 119 = .ok (.return_, 1) := by decide +kernel
abbrev ws_Cu_collectLinear : List Cond := .code y_Cu_collectLinear b_Cu_collectLinear 6 none :: TB
abbrev b_Cu_gatherNextDegree : ByteArray := prog_3_method_6_code
theorem d_Cu_gatherNextDegree_0 : decode b_Cu_gatherNextDegree 0 = .ok (.aload_n 0, 1) := by decide +kernel
theorem d_Cu_gatherNextDegree_1 : decode b_Cu_gatherNextDegree 1 = .ok (.getfield 9, 3) := by decide +kernel
theorem d_Cu_gatherNextDegree_4 : decode b_Cu_gatherNextDegree 4 = .ok (.aload_n 0, 1) := by decide +kernel
theorem d_Cu_gatherNextDegree_5 : decode b_Cu_gatherNextDegree 5 = .ok (.getfield 36, 3) := by decide +kernel
theorem d_Cu_gatherNextDegree_8 : decode b_Cu_gatherNextDegree 8 = .ok (.aload_n 1, 1) := by decide +kernel
theorem d_Cu_gatherNextDegree_9 : decode b_Cu_gatherNextDegree 9 = .ok (.invokevirtual 109, 3) := by decide +kernel
theorem d_Cu_gatherNextDegree_12 : decode b_Cu_gatherNextDegree 12 = .ok (.aload_n 0, 1) := by decide +kernel
theorem d_Cu_gatherNextDegree_13 : decode b_Cu_gatherNextDegree 13 = .ok (.getfield 51, 3) := by decide +kernel
theorem d_Cu_gatherNextDegree_16 : decode b_Cu_gatherNextDegree 16 = .ok (.aload_n 0, 1) := by decide +kernel
theorem d_Cu_gatherNextDegree_17 : decode b_Cu_gatherNextDegree 17 = .ok (.getfield 36, 3) := by decide +kernel
theorem d_Cu_gatherNextDegree_20 : decode b_Cu_gatherNextDegree 20 = .ok (.invokevirtual 66, 3) := by decide +kernel
theorem d_Cu_gatherNextDegree_23 : decode b_Cu_gatherNextDegree 23 = .ok (.aload_n 0, 1) := by decide +kernel
theorem d_Cu_gatherNextDegree_24 : decode b_Cu_gatherNextDegree 24 = .ok (.getfield 9, 3) := by decide +kernel
theorem d_Cu_gatherNextDegree_27 : decode b_Cu_gatherNextDegree 27 = .ok (.aload_n 0, 1) := by decide +kernel
theorem d_Cu_gatherNextDegree_28 : decode b_Cu_gatherNextDegree 28 = .ok (.getfield 51, 3) := by decide +kernel
theorem d_Cu_gatherNextDegree_31 : decode b_Cu_gatherNextDegree 31 = .ok (.aload_n 0, 1) := by decide +kernel
theorem d_Cu_gatherNextDegree_32 : decode b_Cu_gatherNextDegree 32 = .ok (.getfield 9, 3) := by decide +kernel
theorem d_Cu_gatherNextDegree_35 : decode b_Cu_gatherNextDegree 35 = .ok (.getfield 91, 3) := by decide +kernel
theorem d_Cu_gatherNextDegree_38 : decode b_Cu_gatherNextDegree 38 = .ok (.iconst 1, 1) := by decide +kernel
theorem d_Cu_gatherNextDegree_39 : decode b_Cu_gatherNextDegree 39 = .ok (.isub, 1) := by decide +kernel
theorem d_Cu_gatherNextDegree_40 : decode b_Cu_gatherNextDegree 40 = .ok (.iconst 0, 1) := by decide +kernel
theorem d_Cu_gatherNextDegree_41 : decode b_Cu_gatherNextDegree 41 = .ok (.aload_n 0, 1) := by decide +kernel
theorem d_Cu_gatherNextDegree_42 : decode b_Cu_gatherNextDegree 42 = .ok (.getfield 60, 3) := by decide +kernel
theorem d_Cu_gatherNextDegree_45 : decode b_Cu_gatherNextDegree 45 = .ok (.invokevirtual 113, 3) := by decide +kernel
theorem d_Cu_gatherNextDegree_48 : decode b_Cu_gatherNextDegree 48 = .ok (.aload_n 0, 1) := by decide +kernel
theorem d_Cu_gatherNextDegree_49 : decode b_Cu_gatherNextDegree 49 = .ok (.getfield 9, 3) := by decide +kernel
theorem d_Cu_gatherNextDegree_52 : decode b_Cu_gatherNextDegree 52 = .ok (.aload_n 0, 1) := by decide +kernel
theorem d_Cu_gatherNextDegree_53 : decode b_Cu_gatherNextDegree 53 = .ok (.getfield 39, 3) := by decide +kernel
theorem d_Cu_gatherNextDegree_56 : decode b_Cu_gatherNextDegree 56 = .ok (.aload_n 1, 1) := by decide +kernel
theorem d_Cu_gatherNextDegree_57 : decode b_Cu_gatherNextDegree 57 = .ok (.aload_n 0, 1) := by decide +kernel
theorem d_Cu_gatherNextDegree_58 : decode b_Cu_gatherNextDegree 58 = .ok (.getfield 51, 3) := by decide +kernel
theorem d_Cu_gatherNextDegree_61 : decode b_Cu_gatherNextDegree 61 = .ok (.invokevirtual 117, 3) := by decide +kernel
theorem d_Cu_gatherNextDegree_64 : decode b_Cu_gatherNextDegree 64 = .ok (.return_, 1) := by decide +kernel
abbrev ws_Cu_gatherNextDegree : List Cond := .code y_Cu_gatherNextDegree b_Cu_gatherNextDegree 2 none :: TB
abbrev b_Cu_split : ByteArray := prog_3_method_7_code
theorem d_Cu_split_0 : decode b_Cu_split 0 = .ok (.aload_n 0, 1) := by decide +kernel
theorem d_Cu_split_1 : decode b_Cu_split 1 = .ok (.getfield 28, 3) := by decide +kernel
theorem d_Cu_split_4 : decode b_Cu_split 4 = .ok (.istore_n 2, 1) := by decide +kernel
theorem d_Cu_split_5 : decode b_Cu_split 5 = .ok (.iload_n 2, 1) := by decide +kernel
theorem d_Cu_split_6 : decode b_Cu_split 6 = .ok (.aload_n 0, 1) := by decide +kernel
theorem d_Cu_split_7 : decode b_Cu_split 7 = .ok (.getfield 39, 3) := by decide +kernel
theorem d_Cu_split_10 : decode b_Cu_split 10 = .ok (.getfield 63, 3) := by decide +kernel
theorem d_Cu_split_13 : decode b_Cu_split 13 = .ok (.iload_n 1, 1) := by decide +kernel
theorem d_Cu_split_14 : decode b_Cu_split 14 = .ok (.idiv, 1) := by decide +kernel
theorem d_Cu_split_15 : decode b_Cu_split 15 = .ok (.iadd, 1) := by decide +kernel
theorem d_Cu_split_16 : decode b_Cu_split 16 = .ok (.istore_n 3, 1) := by decide +kernel
theorem d_Cu_split_17 : decode b_Cu_split 17 = .ok (.aload_n 0, 1) := by decide +kernel
theorem d_Cu_split_18 : decode b_Cu_split 18 = .ok (.aload_n 0, 1) := by decide +kernel
theorem d_Cu_split_19 : decode b_Cu_split 19 = .ok (.getfield 39, 3) := by decide +kernel
theorem d_Cu_split_22 : decode b_Cu_split 22 = .ok (.iconst 0, 1) := by decide +kernel
theorem d_Cu_split_23 : decode b_Cu_split 23 = .ok (.invokevirtual 84, 3) := by decide +kernel
theorem d_Cu_split_26 : decode b_Cu_split 26 = .ok (.aload_n 0, 1) := by decide +kernel
theorem d_Cu_split_27 : decode b_Cu_split 27 = .ok (.getfield 42, 3) := by decide +kernel
theorem d_Cu_split_30 : decode b_Cu_split 30 = .ok (.aload_n 0, 1) := by decide +kernel
theorem d_Cu_split_31 : decode b_Cu_split 31 = .ok (.getfield 54, 3) := by decide +kernel
theorem d_Cu_split_34 : decode b_Cu_split 34 = .ok (.invokevirtual 66, 3) := by decide +kernel
theorem d_Cu_split_37 : decode b_Cu_split 37 = .ok (.iconst 1, 1) := by decide +kernel
theorem d_Cu_split_38 : decode b_Cu_split 38 = .ok (.istore 4, 2) := by decide +kernel
theorem d_Cu_split_40 : decode b_Cu_split 40 = .ok (.iload 4, 2) := by decide +kernel
theorem d_Cu_split_42 : decode b_Cu_split 42 = .ok (.aload_n 0, 1) := by decide +kernel
theorem d_Cu_split_43 : decode b_Cu_split 43 = .ok (.getfield 39, 3) := by decide +kernel
theorem d_Cu_split_46 : decode b_Cu_split 46 = .ok (.getfield 63, 3) := by decide +kernel
theorem d_Cu_split_49 : decode b_Cu_split 49 = .ok (.if_icmp .ge 51, 3) := by decide +kernel
theorem d_Cu_split_52 : decode b_Cu_split 52 = .ok (.aload_n 0, 1) := by decide +kernel
theorem d_Cu_split_53 : decode b_Cu_split 53 = .ok (.getfield 28, 3) := by decide +kernel
theorem d_Cu_split_56 : decode b_Cu_split 56 = .ok (.iload_n 3, 1) := by decide +kernel
theorem d_Cu_split_57 : decode b_Cu_split 57 = .ok (.if_icmp .ge 43, 3) := by decide +kernel
theorem d_Cu_split_60 : decode b_Cu_split 60 = .ok (.aload_n 0, 1) := by decide +kernel
theorem d_Cu_split_61 : decode b_Cu_split 61 = .ok (.getfield 9, 3) := by decide +kernel
theorem d_Cu_split_64 : decode b_Cu_split 64 = .ok (.aload_n 0, 1) := by decide +kernel
theorem d_Cu_split_65 : decode b_Cu_split 65 = .ok (.getfield 42, 3) := by decide +kernel
theorem d_Cu_split_68 : decode b_Cu_split 68 = .ok (.aload_n 0, 1) := by decide +kernel
theorem d_Cu_split_69 : decode b_Cu_split 69 = .ok (.getfield 60, 3) := by decide +kernel
theorem d_Cu_split_72 : decode b_Cu_split 72 = .ok (.aload_n 0, 1) := by decide +kernel
theorem d_Cu_split_73 : decode b_Cu_split 73 = .ok (.getfield 42, 3) := by decide +kernel
theorem d_Cu_split_76 : decode b_Cu_split 76 = .ok (.aload_n 0, 1) := by decide +kernel
theorem d_Cu_split_77 : decode b_Cu_split 77 = .ok (.getfield 39, 3) := by decide +kernel
theorem d_Cu_split_80 : decode b_Cu_split 80 = .ok (.invokevirtual 121, 3) := by decide +kernel
theorem d_Cu_split_83 : decode b_Cu_split 83 = .ok (.aload_n 0, 1) := by decide +kernel
theorem d_Cu_split_84 : decode b_Cu_split 84 = .ok (.iload_n 1, 1) := by decide +kernel
theorem d_Cu_split_85 : decode b_Cu_split 85 = .ok (.invokevirtual 125, 3) := by decide +kernel
theorem d_Cu_split_88 : decode b_Cu_split 88 = .ok (.aload_n 0, 1) := by decide +kernel
theorem d_Cu_split_89 : decode b_Cu_split 89 = .ok (.iload_n 2, 1) := by decide +kernel
theorem d_Cu_split_90 : decode b_Cu_split 90 = .ok (.iload_n 1, 1) := by decide +kernel
theorem d_Cu_split_91 : decode b_Cu_split 91 = .ok (.invokevirtual 128, 3) := by decide +kernel
theorem d_Cu_split_94 : decode b_Cu_split 94 = .ok (.iinc 4 1, 3) := by decide +kernel
theorem d_Cu_split_97 : decode b_Cu_split 97 = .ok (.goto (-57), 3) := by decide +kernel
theorem d_Cu_split_100 : decode b_Cu_split 100 = .ok (.return_, 1) := by decide +kernel
abbrev ws_Cu_split : List Cond := .code y_Cu_split b_Cu_split 5 none :: TB
abbrev b_Cu_findTrace : ByteArray := prog_3_method_8_code
theorem d_Cu_findTrace_0 : decode b_Cu_findTrace 0 = .ok (.aload_n 0, 1) := by decide +kernel
theorem d_Cu_findTrace_1 : decode b_Cu_findTrace 1 = .ok (.getfield 51, 3) := by decide +kernel
theorem d_Cu_findTrace_4 : decode b_Cu_findTrace 4 = .ok (.aload_n 0, 1) := by decide +kernel
theorem d_Cu_findTrace_5 : decode b_Cu_findTrace 5 = .ok (.getfield 42, 3) := by decide +kernel
theorem d_Cu_findTrace_8 : decode b_Cu_findTrace 8 = .ok (.invokevirtual 66, 3) := by decide +kernel
theorem d_Cu_findTrace_11 : decode b_Cu_findTrace 11 = .ok (.aload_n 0, 1) := by decide +kernel
theorem d_Cu_findTrace_12 : decode b_Cu_findTrace 12 = .ok (.getfield 45, 3) := by decide +kernel
theorem d_Cu_findTrace_15 : decode b_Cu_findTrace 15 = .ok (.aload_n 0, 1) := by decide +kernel
theorem d_Cu_findTrace_16 : decode b_Cu_findTrace 16 = .ok (.getfield 42, 3) := by decide +kernel
theorem d_Cu_findTrace_19 : decode b_Cu_findTrace 19 = .ok (.invokevirtual 66, 3) := by decide +kernel
theorem d_Cu_findTrace_22 : decode b_Cu_findTrace 22 = .ok (.iconst 1, 1) := by decide +kernel
theorem d_Cu_findTrace_23 : decode b_Cu_findTrace 23 = .ok (.istore_n 2, 1) := by decide +kernel
theorem d_Cu_findTrace_24 : decode b_Cu_findTrace 24 = .ok (.iload_n 2, 1) := by decide +kernel
theorem d_Cu_findTrace_25 : decode b_Cu_findTrace 25 = .ok (.iload_n 1, 1) := by decide +kernel
theorem d_Cu_findTrace_26 : decode b_Cu_findTrace 26 = .ok (.if_icmp .ge 41, 3) := by decide +kernel
theorem d_Cu_findTrace_29 : decode b_Cu_findTrace 29 = .ok (.aload_n 0, 1) := by decide +kernel
theorem d_Cu_findTrace_30 : decode b_Cu_findTrace 30 = .ok (.getfield 9, 3) := by decide +kernel
theorem d_Cu_findTrace_33 : decode b_Cu_findTrace 33 = .ok (.aload_n 0, 1) := by decide +kernel
theorem d_Cu_findTrace_34 : decode b_Cu_findTrace 34 = .ok (.getfield 51, 3) := by decide +kernel
theorem d_Cu_findTrace_37 : decode b_Cu_findTrace 37 = .ok (.aload_n 0, 1) := by decide +kernel
theorem d_Cu_findTrace_38 : decode b_Cu_findTrace 38 = .ok (.getfield 39, 3) := by decide +kernel
theorem d_Cu_findTrace_41 : decode b_Cu_findTrace 41 = .ok (.invokevirtual 109, 3) := by decide +kernel
theorem d_Cu_findTrace_44 : decode b_Cu_findTrace 44 = .ok (.aload_n 0, 1) := by decide +kernel
theorem d_Cu_findTrace_45 : decode b_Cu_findTrace 45 = .ok (.getfield 9, 3) := by decide +kernel
theorem d_Cu_findTrace_48 : decode b_Cu_findTrace 48 = .ok (.aload_n 0, 1) := by decide +kernel
theorem d_Cu_findTrace_49 : decode b_Cu_findTrace 49 = .ok (.getfield 45, 3) := by decide +kernel
theorem d_Cu_findTrace_52 : decode b_Cu_findTrace 52 = .ok (.iconst 1, 1) := by decide +kernel
theorem d_Cu_findTrace_53 : decode b_Cu_findTrace 53 = .ok (.iconst 0, 1) := by decide +kernel
theorem d_Cu_findTrace_54 : decode b_Cu_findTrace 54 = .ok (.aload_n 0, 1) := by decide +kernel
theorem d_Cu_findTrace_55 : decode b_Cu_findTrace 55 = .ok (.getfield 51, 3) := by decide +kernel
theorem d_Cu_findTrace_58 : decode b_Cu_findTrace 58 = .ok (.invokevirtual 113, 3) := by decide +kernel
theorem d_Cu_findTrace_61 : decode b_Cu_findTrace 61 = .ok (.iinc 2 1, 3) := by decide +kernel
theorem d_Cu_findTrace_64 : decode b_Cu_findTrace 64 = .ok (.goto (-40), 3) := by decide +kernel
theorem d_Cu_findTrace_67 : decode b_Cu_findTrace 67 = .ok (.return_, 1) := by decide +kernel
abbrev ws_Cu_findTrace : List Cond := .code y_Cu_findTrace b_Cu_findTrace 3 none :: TB
abbrev b_Cu_splitByTrace : ByteArray := prog_3_method_9_code
theorem d_Cu_splitByTrace_0 : decode b_Cu_splitByTrace 0 = .ok (.aload_n 0, 1) := by decide +kernel
theorem d_Cu_splitByTrace_1 : decode b_Cu_splitByTrace 1 = .ok (.getfield 28, 3) := by decide +kernel
theorem d_Cu_splitByTrace_4 : decode b_Cu_splitByTrace 4 = .ok (.istore_n 3, 1) := by decide +kernel
theorem d_Cu_splitByTrace_5 : decode b_Cu_splitByTrace 5 = .ok (.iload_n 1, 1) := by decide +kernel
theorem d_Cu_splitByTrace_6 : decode b_Cu_splitByTrace 6 = .ok (.istore 4, 2) := by decide +kernel
theorem d_Cu_splitByTrace_8 : decode b_Cu_splitByTrace 8 = .ok (.iload 4, 2) := by decide +kernel
theorem d_Cu_splitByTrace_10 : decode b_Cu_splitByTrace 10 = .ok (.iload_n 3, 1) := by decide +kernel
theorem d_Cu_splitByTrace_11 : decode b_Cu_splitByTrace 11 = .ok (.if_icmp .ge 178, 3) := by decide +kernel
theorem d_Cu_splitByTrace_14 : decode b_Cu_splitByTrace 14 = .ok (.iconst 0, 1) := by decide +kernel
theorem d_Cu_splitByTrace_15 : decode b_Cu_splitByTrace 15 = .ok (.istore 5, 2) := by decide +kernel
theorem d_Cu_splitByTrace_17 : decode b_Cu_splitByTrace 17 = .ok (.iload 5, 2) := by decide +kernel
theorem d_Cu_splitByTrace_19 : decode b_Cu_splitByTrace 19 = .ok (.aload_n 0, 1) := by decide +kernel
theorem d_Cu_splitByTrace_20 : decode b_Cu_splitByTrace 20 = .ok (.getfield 9, 3) := by decide +kernel
theorem d_Cu_splitByTrace_23 : decode b_Cu_splitByTrace 23 = .ok (.getfield 91, 3) := by decide +kernel
theorem d_Cu_splitByTrace_26 : decode b_Cu_splitByTrace 26 = .ok (.if_icmp .ge 157, 3) := by decide +kernel
theorem d_Cu_splitByTrace_29 : decode b_Cu_splitByTrace 29 = .ok (.aload_n 0, 1) := by decide +kernel
theorem d_Cu_splitByTrace_30 : decode b_Cu_splitByTrace 30 = .ok (.getfield 17, 3) := by decide +kernel
theorem d_Cu_splitByTrace_33 : decode b_Cu_splitByTrace 33 = .ok (.iload 4, 2) := by decide +kernel
theorem d_Cu_splitByTrace_35 : decode b_Cu_splitByTrace 35 = .ok (.aaload, 1) := by decide +kernel
theorem d_Cu_splitByTrace_36 : decode b_Cu_splitByTrace 36 = .ok (.getfield 63, 3) := by decide +kernel
theorem d_Cu_splitByTrace_39 : decode b_Cu_splitByTrace 39 = .ok (.iload_n 2, 1) := by decide +kernel
theorem d_Cu_splitByTrace_40 : decode b_Cu_splitByTrace 40 = .ok (.if_icmp .le 143, 3) := by decide +kernel
theorem d_Cu_splitByTrace_43 : decode b_Cu_splitByTrace 43 = .ok (.aload_n 0, 1) := by decide +kernel
theorem d_Cu_splitByTrace_44 : decode b_Cu_splitByTrace 44 = .ok (.getfield 51, 3) := by decide +kernel
theorem d_Cu_splitByTrace_47 : decode b_Cu_splitByTrace 47 = .ok (.aload_n 0, 1) := by decide +kernel
theorem d_Cu_splitByTrace_48 : decode b_Cu_splitByTrace 48 = .ok (.getfield 45, 3) := by decide +kernel
theorem d_Cu_splitByTrace_51 : decode b_Cu_splitByTrace 51 = .ok (.invokevirtual 66, 3) := by decide +kernel
theorem d_Cu_splitByTrace_54 : decode b_Cu_splitByTrace 54 = .ok (.aload_n 0, 1) := by decide +kernel
theorem d_Cu_splitByTrace_55 : decode b_Cu_splitByTrace 55 = .ok (.getfield 9, 3) := by decide +kernel
theorem d_Cu_splitByTrace_58 : decode b_Cu_splitByTrace 58 = .ok (.aload_n 0, 1) := by decide +kernel
theorem d_Cu_splitByTrace_59 : decode b_Cu_splitByTrace 59 = .ok (.getfield 51, 3) := by decide +kernel
theorem d_Cu_splitByTrace_62 : decode b_Cu_splitByTrace 62 = .ok (.aload_n 0, 1) := by decide +kernel
theorem d_Cu_splitByTrace_63 : decode b_Cu_splitByTrace 63 = .ok (.getfield 9, 3) := by decide +kernel
theorem d_Cu_splitByTrace_66 : decode b_Cu_splitByTrace 66 = .ok (.getfield 91, 3) := by decide +kernel
theorem d_Cu_splitByTrace_69 : decode b_Cu_splitByTrace 69 = .ok (.iload 5, 2) := by decide +kernel
theorem d_Cu_splitByTrace_71 : decode b_Cu_splitByTrace 71 = .ok (.isub, 1) := by decide +kernel
theorem d_Cu_splitByTrace_72 : decode b_Cu_splitByTrace 72 = .ok (.iconst 0, 1) := by decide +kernel
theorem d_Cu_splitByTrace_73 : decode b_Cu_splitByTrace 73 = .ok (.aload_n 0, 1) := by decide +kernel
theorem d_Cu_splitByTrace_74 : decode b_Cu_splitByTrace 74 = .ok (.getfield 54, 3) := by decide +kernel
theorem d_Cu_splitByTrace_77 : decode b_Cu_splitByTrace 77 = .ok (.invokevirtual 113, 3) := by decide +kernel
theorem d_Cu_splitByTrace_80 : decode b_Cu_splitByTrace 80 = .ok (.aload_n 0, 1) := by decide +kernel
theorem d_Cu_splitByTrace_81 : decode b_Cu_splitByTrace 81 = .ok (.getfield 9, 3) := by decide +kernel
theorem d_Cu_splitByTrace_84 : decode b_Cu_splitByTrace 84 = .ok (.aload_n 0, 1) := by decide +kernel
theorem d_Cu_splitByTrace_85 : decode b_Cu_splitByTrace 85 = .ok (.getfield 48, 3) := by decide +kernel
theorem d_Cu_splitByTrace_88 : decode b_Cu_splitByTrace 88 = .ok (.aload_n 0, 1) := by decide +kernel
theorem d_Cu_splitByTrace_89 : decode b_Cu_splitByTrace 89 = .ok (.getfield 17, 3) := by decide +kernel
theorem d_Cu_splitByTrace_92 : decode b_Cu_splitByTrace 92 = .ok (.iload 4, 2) := by decide +kernel
theorem d_Cu_splitByTrace_94 : decode b_Cu_splitByTrace 94 = .ok (.aaload, 1) := by decide +kernel
theorem d_Cu_splitByTrace_95 : decode b_Cu_splitByTrace 95 = .ok (.aload_n 0, 1) := by decide +kernel
theorem d_Cu_splitByTrace_96 : decode b_Cu_splitByTrace 96 = .ok (.getfield 51, 3) := by decide +kernel
theorem d_Cu_splitByTrace_99 : decode b_Cu_splitByTrace 99 = .ok (.invokevirtual 117, 3) := by decide +kernel
theorem d_Cu_splitByTrace_102 : decode b_Cu_splitByTrace 102 = .ok (.aload_n 0, 1) := by decide +kernel
theorem d_Cu_splitByTrace_103 : decode b_Cu_splitByTrace 103 = .ok (.getfield 48, 3) := by decide +kernel
theorem d_Cu_splitByTrace_106 : decode b_Cu_splitByTrace 106 = .ok (.getfield 63, 3) := by decide +kernel
theorem d_Cu_splitByTrace_109 : decode b_Cu_splitByTrace 109 = .ok (.ifCond .le 68, 3) := by decide +kernel
theorem d_Cu_splitByTrace_112 : decode b_Cu_splitByTrace 112 = .ok (.aload_n 0, 1) := by decide +kernel
theorem d_Cu_splitByTrace_113 : decode b_Cu_splitByTrace 113 = .ok (.getfield 48, 3) := by decide +kernel
theorem d_Cu_splitByTrace_116 : decode b_Cu_splitByTrace 116 = .ok (.getfield 63, 3) := by decide +kernel
theorem d_Cu_splitByTrace_119 : decode b_Cu_splitByTrace 119 = .ok (.aload_n 0, 1) := by decide +kernel
theorem d_Cu_splitByTrace_120 : decode b_Cu_splitByTrace 120 = .ok (.getfield 17, 3) := by decide +kernel
theorem d_Cu_splitByTrace_123 : decode b_Cu_splitByTrace 123 = .ok (.iload 4, 2) := by decide +kernel
theorem d_Cu_splitByTrace_125 : decode b_Cu_splitByTrace 125 = .ok (.aaload, 1) := by decide +kernel
theorem d_Cu_splitByTrace_126 : decode b_Cu_splitByTrace 126 = .ok (.getfield 63, 3) := by decide +kernel
theorem d_Cu_splitByTrace_129 : decode b_Cu_splitByTrace 129 = .ok (.if_icmp .ge 48, 3) := by decide +kernel
theorem d_Cu_splitByTrace_132 : decode b_Cu_splitByTrace 132 = .ok (.aload_n 0, 1) := by decide +kernel
theorem d_Cu_splitByTrace_133 : decode b_Cu_splitByTrace 133 = .ok (.getfield 51, 3) := by decide +kernel
theorem d_Cu_splitByTrace_136 : decode b_Cu_splitByTrace 136 = .ok (.aload_n 0, 1) := by decide +kernel
theorem d_Cu_splitByTrace_137 : decode b_Cu_splitByTrace 137 = .ok (.getfield 17, 3) := by decide +kernel
theorem d_Cu_splitByTrace_140 : decode b_Cu_splitByTrace 140 = .ok (.iload 4, 2) := by decide +kernel
theorem d_Cu_splitByTrace_142 : decode b_Cu_splitByTrace 142 = .ok (.aaload, 1) := by decide +kernel
theorem d_Cu_splitByTrace_143 : decode b_Cu_splitByTrace 143 = .ok (.invokevirtual 66, 3) := by decide +kernel
theorem d_Cu_splitByTrace_146 : decode b_Cu_splitByTrace 146 = .ok (.aload_n 0, 1) := by decide +kernel
theorem d_Cu_splitByTrace_147 : decode b_Cu_splitByTrace 147 = .ok (.getfield 9, 3) := by decide +kernel
theorem d_Cu_splitByTrace_150 : decode b_Cu_splitByTrace 150 = .ok (.aload_n 0, 1) := by decide +kernel
theorem d_Cu_splitByTrace_151 : decode b_Cu_splitByTrace 151 = .ok (.getfield 51, 3) := by decide +kernel
theorem d_Cu_splitByTrace_154 : decode b_Cu_splitByTrace 154 = .ok (.aload_n 0, 1) := by decide +kernel
theorem d_Cu_splitByTrace_155 : decode b_Cu_splitByTrace 155 = .ok (.getfield 48, 3) := by decide +kernel
theorem d_Cu_splitByTrace_158 : decode b_Cu_splitByTrace 158 = .ok (.aload_n 0, 1) := by decide +kernel
theorem d_Cu_splitByTrace_159 : decode b_Cu_splitByTrace 159 = .ok (.getfield 17, 3) := by decide +kernel
theorem d_Cu_splitByTrace_162 : decode b_Cu_splitByTrace 162 = .ok (.iload 4, 2) := by decide +kernel
theorem d_Cu_splitByTrace_164 : decode b_Cu_splitByTrace 164 = .ok (.aaload, 1) := by decide +kernel
theorem d_Cu_splitByTrace_165 : decode b_Cu_splitByTrace 165 = .ok (.invokevirtual 131, 3) := by decide +kernel
theorem d_Cu_splitByTrace_168 : decode b_Cu_splitByTrace 168 = .ok (.aload_n 0, 1) := by decide +kernel
theorem d_Cu_splitByTrace_169 : decode b_Cu_splitByTrace 169 = .ok (.aload_n 0, 1) := by decide +kernel
theorem d_Cu_splitByTrace_170 : decode b_Cu_splitByTrace 170 = .ok (.getfield 48, 3) := by decide +kernel
theorem d_Cu_splitByTrace_173 : decode b_Cu_splitByTrace 173 = .ok (.iconst 0, 1) := by decide +kernel
theorem d_Cu_splitByTrace_174 : decode b_Cu_splitByTrace 174 = .ok (.invokevirtual 84, 3) := by decide +kernel
theorem d_Cu_splitByTrace_177 : decode b_Cu_splitByTrace 177 = .ok (.iinc 5 1, 3) := by decide +kernel
theorem d_Cu_splitByTrace_180 : decode b_Cu_splitByTrace 180 = .ok (.goto (-163), 3) := by decide +kernel
theorem d_Cu_splitByTrace_183 : decode b_Cu_splitByTrace 183 = .ok (.iinc 4 1, 3) := by decide +kernel
theorem d_Cu_splitByTrace_186 : decode b_Cu_splitByTrace 186 = .ok (.goto (-178), 3) := by decide +kernel
theorem d_Cu_splitByTrace_189 : decode b_Cu_splitByTrace 189 = .ok (.return_, 1) := by decide +kernel
abbrev ws_Cu_splitByTrace : List Cond := .code y_Cu_splitByTrace b_Cu_splitByTrace 6 none :: TB
abbrev b_Cu_append : ByteArray := prog_3_method_10_code
theorem d_Cu_append_0 : decode b_Cu_append 0 = .ok (.aload_n 0, 1) := by decide +kernel
theorem d_Cu_append_1 : decode b_Cu_append 1 = .ok (.getfield 28, 3) := by decide +kernel
theorem d_Cu_append_4 : decode b_Cu_append 4 = .ok (.aload_n 0, 1) := by decide +kernel
theorem d_Cu_append_5 : decode b_Cu_append 5 = .ok (.getfield 17, 3) := by decide +kernel
theorem d_Cu_append_8 : decode b_Cu_append 8 = .ok (.arraylength, 1) := by decide +kernel
theorem d_Cu_append_9 : decode b_Cu_append 9 = .ok (.if_icmp .ge 36, 3) := by decide +kernel
theorem d_Cu_append_12 : decode b_Cu_append 12 = .ok (.aload_n 0, 1) := by decide +kernel
theorem d_Cu_append_13 : decode b_Cu_append 13 = .ok (.getfield 17, 3) := by decide +kernel
theorem d_Cu_append_16 : decode b_Cu_append 16 = .ok (.aload_n 0, 1) := by decide +kernel
theorem d_Cu_append_17 : decode b_Cu_append 17 = .ok (.getfield 28, 3) := by decide +kernel
theorem d_Cu_append_20 : decode b_Cu_append 20 = .ok (.aaload, 1) := by decide +kernel
theorem d_Cu_append_21 : decode b_Cu_append 21 = .ok (.aload_n 1, 1) := by decide +kernel
theorem d_Cu_append_22 : decode b_Cu_append 22 = .ok (.invokevirtual 66, 3) := by decide +kernel
theorem d_Cu_append_25 : decode b_Cu_append 25 = .ok (.aload_n 0, 1) := by decide +kernel
theorem d_Cu_append_26 : decode b_Cu_append 26 = .ok (.getfield 21, 3) := by decide +kernel
theorem d_Cu_append_29 : decode b_Cu_append 29 = .ok (.aload_n 0, 1) := by decide +kernel
theorem d_Cu_append_30 : decode b_Cu_append 30 = .ok (.getfield 28, 3) := by decide +kernel
theorem d_Cu_append_33 : decode b_Cu_append 33 = .ok (.iload_n 2, 1) := by decide +kernel
theorem d_Cu_append_34 : decode b_Cu_append 34 = .ok (.iastore, 1) := by decide +kernel
theorem d_Cu_append_35 : decode b_Cu_append 35 = .ok (.aload_n 0, 1) := by decide +kernel
theorem d_Cu_append_36 : decode b_Cu_append 36 = .ok (.dup, 1) := by decide +kernel
theorem d_Cu_append_37 : decode b_Cu_append 37 = .ok (.getfield 28, 3) := by decide +kernel
theorem d_Cu_append_40 : decode b_Cu_append 40 = .ok (.iconst 1, 1) := by decide +kernel
theorem d_Cu_append_41 : decode b_Cu_append 41 = .ok (.iadd, 1) := by decide +kernel
theorem d_Cu_append_42 : decode b_Cu_append 42 = .ok (.putfield 28, 3) := by decide +kernel
theorem d_Cu_append_45 : decode b_Cu_append 45 = .ok (.return_, 1) := by decide +kernel
abbrev ws_Cu_append : List Cond := .code y_Cu_append b_Cu_append 3 none :: TB
abbrev b_Cu_takeOutFactors : ByteArray := prog_3_method_11_code
theorem d_Cu_takeOutFactors_0 : decode b_Cu_takeOutFactors 0 = .ok (.iload_n 1, 1) := by decide +kernel
theorem d_Cu_takeOutFactors_1 : decode b_Cu_takeOutFactors 1 = .ok (.istore_n 2, 1) := by decide +kernel
theorem d_Cu_takeOutFactors_2 : decode b_Cu_takeOutFactors 2 = .ok (.iload_n 2, 1) := by decide +kernel
theorem d_Cu_takeOutFactors_3 : decode b_Cu_takeOutFactors 3 = .ok (.aload_n 0, 1) := by decide +kernel
theorem d_Cu_takeOutFactors_4 : decode b_Cu_takeOutFactors 4 = .ok (.getfield 28, 3) := by decide +kernel
theorem d_Cu_takeOutFactors_7 : decode b_Cu_takeOutFactors 7 = .ok (.if_icmp .ge 32, 3) := by decide +kernel
theorem d_Cu_takeOutFactors_10 : decode b_Cu_takeOutFactors 10 = .ok (.aload_n 0, 1) := by decide +kernel
theorem d_Cu_takeOutFactors_11 : decode b_Cu_takeOutFactors 11 = .ok (.getfield 21, 3) := by decide +kernel
theorem d_Cu_takeOutFactors_14 : decode b_Cu_takeOutFactors 14 = .ok (.iload_n 2, 1) := by decide +kernel
theorem d_Cu_takeOutFactors_15 : decode b_Cu_takeOutFactors 15 = .ok (.aload_n 0, 1) := by decide +kernel
theorem d_Cu_takeOutFactors_16 : decode b_Cu_takeOutFactors 16 = .ok (.getfield 9, 3) := by decide +kernel
theorem d_Cu_takeOutFactors_19 : decode b_Cu_takeOutFactors 19 = .ok (.aload_n 0, 1) := by decide +kernel
theorem d_Cu_takeOutFactors_20 : decode b_Cu_takeOutFactors 20 = .ok (.getfield 32, 3) := by decide +kernel
theorem d_Cu_takeOutFactors_23 : decode b_Cu_takeOutFactors 23 = .ok (.aload_n 0, 1) := by decide +kernel
theorem d_Cu_takeOutFactors_24 : decode b_Cu_takeOutFactors 24 = .ok (.getfield 17, 3) := by decide +kernel
theorem d_Cu_takeOutFactors_27 : decode b_Cu_takeOutFactors 27 = .ok (.iload_n 2, 1) := by decide +kernel
theorem d_Cu_takeOutFactors_28 : decode b_Cu_takeOutFactors 28 = .ok (.aaload, 1) := by decide +kernel
theorem d_Cu_takeOutFactors_29 : decode b_Cu_takeOutFactors 29 = .ok (.invokevirtual 98, 3) := by decide +kernel
theorem d_Cu_takeOutFactors_32 : decode b_Cu_takeOutFactors 32 = .ok (.iastore, 1) := by decide +kernel
theorem d_Cu_takeOutFactors_33 : decode b_Cu_takeOutFactors 33 = .ok (.iinc 2 1, 3) := by decide +kernel
theorem d_Cu_takeOutFactors_36 : decode b_Cu_takeOutFactors 36 = .ok (.goto (-34), 3) := by decide +kernel
theorem d_Cu_takeOutFactors_39 : decode b_Cu_takeOutFactors 39 = .ok (.return_, 1) := by decide +kernel
abbrev ws_Cu_takeOutFactors : List Cond := .code y_Cu_takeOutFactors b_Cu_takeOutFactors 3 none :: TB
abbrev b_Cu_sort : ByteArray := prog_3_method_12_code
theorem d_Cu_sort_0 : decode b_Cu_sort 0 = .ok (.iconst 1, 1) := by decide +kernel
theorem d_Cu_sort_1 : decode b_Cu_sort 1 = .ok (.istore_n 1, 1) := by decide +kernel
theorem d_Cu_sort_2 : decode b_Cu_sort 2 = .ok (.iload_n 1, 1) := by decide +kernel
theorem d_Cu_sort_3 : decode b_Cu_sort 3 = .ok (.aload_n 0, 1) := by decide +kernel
theorem d_Cu_sort_4 : decode b_Cu_sort 4 = .ok (.getfield 28, 3) := by decide +kernel
theorem d_Cu_sort_7 : decode b_Cu_sort 7 = .ok (.if_icmp .ge 49, 3) := by decide +kernel
theorem d_Cu_sort_10 : decode b_Cu_sort 10 = .ok (.iload_n 1, 1) := by decide +kernel
theorem d_Cu_sort_11 : decode b_Cu_sort 11 = .ok (.istore_n 2, 1) := by decide +kernel
theorem d_Cu_sort_12 : decode b_Cu_sort 12 = .ok (.iload_n 2, 1) := by decide +kernel
theorem d_Cu_sort_13 : decode b_Cu_sort 13 = .ok (.ifCond .le 37, 3) := by decide +kernel
theorem d_Cu_sort_16 : decode b_Cu_sort 16 = .ok (.aload_n 0, 1) := by decide +kernel
theorem d_Cu_sort_17 : decode b_Cu_sort 17 = .ok (.getfield 17, 3) := by decide +kernel
theorem d_Cu_sort_20 : decode b_Cu_sort 20 = .ok (.iload_n 2, 1) := by decide +kernel
theorem d_Cu_sort_21 : decode b_Cu_sort 21 = .ok (.aaload, 1) := by decide +kernel
theorem d_Cu_sort_22 : decode b_Cu_sort 22 = .ok (.aload_n 0, 1) := by decide +kernel
theorem d_Cu_sort_23 : decode b_Cu_sort 23 = .ok (.getfield 17, 3) := by decide +kernel
theorem d_Cu_sort_26 : decode b_Cu_sort 26 = .ok (.iload_n 2, 1) := by decide +kernel
theorem d_Cu_sort_27 : decode b_Cu_sort 27 = .ok (.iconst 1, 1) := by decide +kernel
theorem d_Cu_sort_28 : decode b_Cu_sort 28 = .ok (.isub, 1) := by decide +kernel
theorem d_Cu_sort_29 : decode b_Cu_sort 29 = .ok (.aaload, 1) := by decide +kernel
theorem d_Cu_sort_30 : decode b_Cu_sort 30 = .ok (.invokevirtual 134, 3) := by decide +kernel
theorem d_Cu_sort_33 : decode b_Cu_sort 33 = .ok (.ifCond .eq 17, 3) := by decide +kernel
theorem d_Cu_sort_36 : decode b_Cu_sort 36 = .ok (.aload_n 0, 1) := by decide +kernel
theorem d_Cu_sort_37 : decode b_Cu_sort 37 = .ok (.iload_n 2, 1) := by decide +kernel
theorem d_Cu_sort_38 : decode b_Cu_sort 38 = .ok (.iload_n 2, 1) := by decide +kernel
theorem d_Cu_sort_39 : decode b_Cu_sort 39 = .ok (.iconst 1, 1) := by decide +kernel
theorem d_Cu_sort_40 : decode b_Cu_sort 40 = .ok (.isub, 1) := by decide +kernel
theorem d_Cu_sort_41 : decode b_Cu_sort 41 = .ok (.invokevirtual 138, 3) := by decide +kernel
theorem d_Cu_sort_44 : decode b_Cu_sort 44 = .ok (.iinc 2 (-1), 3) := by decide +kernel
theorem d_Cu_sort_47 : decode b_Cu_sort 47 = .ok (.goto (-35), 3) := by decide +kernel
theorem d_Cu_sort_50 : decode b_Cu_sort 50 = .ok (.iinc 1 1, 3) := by decide +kernel
theorem d_Cu_sort_53 : decode b_Cu_sort 53 = .ok (.goto (-51), 3) := by decide +kernel
theorem d_Cu_sort_56 : decode b_Cu_sort 56 = .ok (.return_, 1) := by decide +kernel
abbrev ws_Cu_sort : List Cond := .code y_Cu_sort b_Cu_sort 3 none :: TB
abbrev b_Cu_swap : ByteArray := prog_3_method_13_code
theorem d_Cu_swap_0 : decode b_Cu_swap 0 = .ok (.aload_n 0, 1) := by decide +kernel
theorem d_Cu_swap_1 : decode b_Cu_swap 1 = .ok (.getfield 17, 3) := by decide +kernel
theorem d_Cu_swap_4 : decode b_Cu_swap 4 = .ok (.iload_n 1, 1) := by decide +kernel
theorem d_Cu_swap_5 : decode b_Cu_swap 5 = .ok (.aaload, 1) := by decide +kernel
theorem d_Cu_swap_6 : decode b_Cu_swap 6 = .ok (.astore_n 3, 1) := by decide +kernel
theorem d_Cu_swap_7 : decode b_Cu_swap 7 = .ok (.aload_n 0, 1) := by decide +kernel
theorem d_Cu_swap_8 : decode b_Cu_swap 8 = .ok (.getfield 17, 3) := by decide +kernel
theorem d_Cu_swap_11 : decode b_Cu_swap 11 = .ok (.iload_n 1, 1) := by decide +kernel
theorem d_Cu_swap_12 : decode b_Cu_swap 12 = .ok (.aload_n 0, 1) := by decide +kernel
theorem d_Cu_swap_13 : decode b_Cu_swap 13 = .ok (.getfield 17, 3) := by decide +kernel
theorem d_Cu_swap_16 : decode b_Cu_swap 16 = .ok (.iload_n 2, 1) := by decide +kernel
theorem d_Cu_swap_17 : decode b_Cu_swap 17 = .ok (.aaload, 1) := by decide +kernel
theorem d_Cu_swap_18 : decode b_Cu_swap 18 = .ok (.aastore, 1) := by decide +kernel
theorem d_Cu_swap_19 : decode b_Cu_swap 19 = .ok (.aload_n 0, 1) := by decide +kernel
theorem d_Cu_swap_20 : decode b_Cu_swap 20 = .ok (.getfield 17, 3) := by decide +kernel
theorem d_Cu_swap_23 : decode b_Cu_swap 23 = .ok (.iload_n 2, 1) := by decide +kernel
theorem d_Cu_swap_24 : decode b_Cu_swap 24 = .ok (.aload_n 3, 1) := by decide +kernel
theorem d_Cu_swap_25 : decode b_Cu_swap 25 = .ok (.aastore, 1) := by decide +kernel
theorem d_Cu_swap_26 : decode b_Cu_swap 26 = .ok (.aload_n 0, 1) := by decide +kernel
theorem d_Cu_swap_27 : decode b_Cu_swap 27 = .ok (.getfield 21, 3) := by decide +kernel
theorem d_Cu_swap_30 : decode b_Cu_swap 30 = .ok (.iload_n 1, 1) := by decide +kernel
theorem d_Cu_swap_31 : decode b_Cu_swap 31 = .ok (.iaload, 1) := by decide +kernel
theorem d_Cu_swap_32 : decode b_Cu_swap 32 = .ok (.istore 4, 2) := by decide +kernel
theorem d_Cu_swap_34 : decode b_Cu_swap 34 = .ok (.aload_n 0, 1) := by decide +kernel
theorem d_Cu_swap_35 : decode b_Cu_swap 35 = .ok (.getfield 21, 3) := by decide +kernel
theorem d_Cu_swap_38 : decode b_Cu_swap 38 = .ok (.iload_n 1, 1) := by decide +kernel
theorem d_Cu_swap_39 : decode b_Cu_swap 39 = .ok (.aload_n 0, 1) := by decide +kernel
theorem d_Cu_swap_40 : decode b_Cu_swap 40 = .ok (.getfield 21, 3) := by decide +kernel
theorem d_Cu_swap_43 : decode b_Cu_swap 43 = .ok (.iload_n 2, 1) := by decide +kernel
theorem d_Cu_swap_44 : decode b_Cu_swap 44 = .ok (.iaload, 1) := by decide +kernel
theorem d_Cu_swap_45 : decode b_Cu_swap 45 = .ok (.iastore, 1) := by decide +kernel
theorem d_Cu_swap_46 : decode b_Cu_swap 46 = .ok (.aload_n 0, 1) := by decide +kernel
theorem d_Cu_swap_47 : decode b_Cu_swap 47 = .ok (.getfield 21, 3) := by decide +kernel
theorem d_Cu_swap_50 : decode b_Cu_swap 50 = .ok (.iload_n 2, 1) := by decide +kernel
theorem d_Cu_swap_51 : decode b_Cu_swap 51 = .ok (.iload 4, 2) := by decide +kernel
theorem d_Cu_swap_53 : decode b_Cu_swap 53 = .ok (.iastore, 1) := by decide +kernel
theorem d_Cu_swap_54 : decode b_Cu_swap 54 = .ok (.return_, 1) := by decide +kernel
abbrev ws_Cu_swap : List Cond := .code y_Cu_swap b_Cu_swap 5 none :: TB
