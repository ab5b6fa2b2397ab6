/-! decode rows, by my own program -/
abbrev b_Po_init : ByteArray := prog_5_method_1_code
theorem d_Po_init_0 : decode b_Po_init 0 = .ok (.aload_n 0, 1) := by decide +kernel
theorem d_Po_init_1 : decode b_Po_init 1 = .ok (.invokespecial 1, 3) := by decide +kernel
theorem d_Po_init_4 : decode b_Po_init 4 = .ok (.aload_n 0, 1) := by decide +kernel
theorem d_Po_init_5 : decode b_Po_init 5 = .ok (.iload_n 1, 1) := by decide +kernel
theorem d_Po_init_6 : decode b_Po_init 6 = .ok (.newarray .int, 2) := by decide +kernel
theorem d_Po_init_8 : decode b_Po_init 8 = .ok (.putfield 7, 3) := by decide +kernel
theorem d_Po_init_11 : decode b_Po_init 11 = .ok (.aload_n 0, 1) := by decide +kernel
theorem d_Po_init_12 : decode b_Po_init 12 = .ok (.iconst (-1), 1) := by decide +kernel
theorem d_Po_init_13 : decode b_Po_init 13 = .ok (.putfield 13, 3) := by decide +kernel
theorem d_Po_init_16 : decode b_Po_init 16 = .ok (.return_, 1) := by decide +kernel
abbrev ws_Po_init : List Cond := .code y_Po_init b_Po_init 2 none :: TB
abbrev b_Po_clear : ByteArray := prog_5_method_2_code
theorem d_Po_clear_0 : decode b_Po_clear 0 = .ok (.iconst 0, 1) := by decide +kernel
theorem d_Po_clear_1 : decode b_Po_clear 1 = .ok (.istore_n 1, 1) := by decide +kernel
theorem d_Po_clear_2 : decode b_Po_clear 2 = .ok (.iload_n 1, 1) := by decide +kernel
theorem d_Po_clear_3 : decode b_Po_clear 3 = .ok (.aload_n 0, 1) := by decide +kernel
theorem d_Po_clear_4 : decode b_Po_clear 4 = .ok (.getfield 13, 3) := by decide +kernel
theorem d_Po_clear_7 : decode b_Po_clear 7 = .ok (.if_icmp .gt 16, 3) := by decide +kernel
theorem d_Po_clear_10 : decode b_Po_clear 10 = .ok (.aload_n 0, 1) := by decide +kernel
theorem d_Po_clear_11 : decode b_Po_clear 11 = .ok (.getfield 7, 3) := by decide +kernel
theorem d_Po_clear_14 : decode b_Po_clear 14 = .ok (.iload_n 1, 1) := by decide +kernel
theorem d_Po_clear_15 : decode b_Po_clear 15 = .ok (.iconst 0, 1) := by decide +kernel
theorem d_Po_clear_16 : decode b_Po_clear 16 = .ok (.iastore, 1) := by decide +kernel
theorem d_Po_clear_17 : decode b_Po_clear 17 = .ok (.iinc 1 1, 3) := by decide +kernel
theorem d_Po_clear_20 : decode b_Po_clear 20 = .ok (.goto (-18), 3) := by decide +kernel
theorem d_Po_clear_23 : decode b_Po_clear 23 = .ok (.aload_n 0, 1) := by decide +kernel
theorem d_Po_clear_24 : decode b_Po_clear 24 = .ok (.iconst (-1), 1) := by decide +kernel
theorem d_Po_clear_25 : decode b_Po_clear 25 = .ok (.putfield 13, 3) := by decide +kernel
theorem d_Po_clear_28 : decode b_Po_clear 28 = .ok (.return_, 1) := by decide +kernel
abbrev ws_Po_clear : List Cond := .code y_Po_clear b_Po_clear 2 none :: TB
abbrev b_Po_copyFrom : ByteArray := prog_5_method_3_code
theorem d_Po_copyFrom_0 : decode b_Po_copyFrom 0 = .ok (.aload_n 1, 1) := by decide +kernel
theorem d_Po_copyFrom_1 : decode b_Po_copyFrom 1 = .ok (.getfield 13, 3) := by decide +kernel
theorem d_Po_copyFrom_4 : decode b_Po_copyFrom 4 = .ok (.iconst 1, 1) := by decide +kernel
theorem d_Po_copyFrom_5 : decode b_Po_copyFrom 5 = .ok (.iadd, 1) := by decide +kernel
theorem d_Po_copyFrom_6 : decode b_Po_copyFrom 6 = .ok (.istore_n 2, 1) := by decide +kernel
theorem d_Po_copyFrom_7 : decode b_Po_copyFrom 7 = .ok (.iload_n 2, 1) := by decide +kernel
theorem d_Po_copyFrom_8 : decode b_Po_copyFrom 8 = .ok (.aload_n 0, 1) := by decide +kernel
theorem d_Po_copyFrom_9 : decode b_Po_copyFrom 9 = .ok (.getfield 13, 3) := by decide +kernel
theorem d_Po_copyFrom_12 : decode b_Po_copyFrom 12 = .ok (.if_icmp .gt 16, 3) := by decide +kernel
theorem d_Po_copyFrom_15 : decode b_Po_copyFrom 15 = .ok (.aload_n 0, 1) := by decide +kernel
theorem d_Po_copyFrom_16 : decode b_Po_copyFrom 16 = .ok (.getfield 7, 3) := by decide +kernel
theorem d_Po_copyFrom_19 : decode b_Po_copyFrom 19 = .ok (.iload_n 2, 1) := by decide +kernel
theorem d_Po_copyFrom_20 : decode b_Po_copyFrom 20 = .ok (.iconst 0, 1) := by decide +kernel
theorem d_Po_copyFrom_21 : decode b_Po_copyFrom 21 = .ok (.iastore, 1) := by decide +kernel
theorem d_Po_copyFrom_22 : decode b_Po_copyFrom 22 = .ok (.iinc 2 1, 3) := by decide +kernel
theorem d_Po_copyFrom_25 : decode b_Po_copyFrom 25 = .ok (.goto (-18), 3) := by decide +kernel
theorem d_Po_copyFrom_28 : decode b_Po_copyFrom 28 = .ok (.iconst 0, 1) := by decide +kernel
theorem d_Po_copyFrom_29 : decode b_Po_copyFrom 29 = .ok (.istore_n 2, 1) := by decide +kernel
theorem d_Po_copyFrom_30 : decode b_Po_copyFrom 30 = .ok (.iload_n 2, 1) := by decide +kernel
theorem d_Po_copyFrom_31 : decode b_Po_copyFrom 31 = .ok (.aload_n 1, 1) := by decide +kernel
theorem d_Po_copyFrom_32 : decode b_Po_copyFrom 32 = .ok (.getfield 13, 3) := by decide +kernel
theorem d_Po_copyFrom_35 : decode b_Po_copyFrom 35 = .ok (.if_icmp .gt 21, 3) := by decide +kernel
theorem d_Po_copyFrom_38 : decode b_Po_copyFrom 38 = .ok (.aload_n 0, 1) := by decide +kernel
theorem d_Po_copyFrom_39 : decode b_Po_copyFrom 39 = .ok (.getfield 7, 3) := by decide +kernel
theorem d_Po_copyFrom_42 : decode b_Po_copyFrom 42 = .ok (.iload_n 2, 1) := by decide +kernel
theorem d_Po_copyFrom_43 : decode b_Po_copyFrom 43 = .ok (.aload_n 1, 1) := by decide +kernel
theorem d_Po_copyFrom_44 : decode b_Po_copyFrom 44 = .ok (.getfield 7, 3) := by decide +kernel
theorem d_Po_copyFrom_47 : decode b_Po_copyFrom 47 = .ok (.iload_n 2, 1) := by decide +kernel
theorem d_Po_copyFrom_48 : decode b_Po_copyFrom 48 = .ok (.iaload, 1) := by decide +kernel
theorem d_Po_copyFrom_49 : decode b_Po_copyFrom 49 = .ok (.iastore, 1) := by decide +kernel
theorem d_Po_copyFrom_50 : decode b_Po_copyFrom 50 = .ok (.iinc 2 1, 3) := by decide +kernel
theorem d_Po_copyFrom_53 : decode b_Po_copyFrom 53 = .ok (.goto (-23), 3) := by decide +kernel
theorem d_Po_copyFrom_56 : decode b_Po_copyFrom 56 = .ok (.aload_n 0, 1) := by decide +kernel
theorem d_Po_copyFrom_57 : decode b_Po_copyFrom 57 = .ok (.aload_n 1, 1) := by decide +kernel
theorem d_Po_copyFrom_58 : decode b_Po_copyFrom 58 = .ok (.getfield 13, 3) := by decide +kernel
theorem d_Po_copyFrom_61 : decode b_Po_copyFrom 61 = .ok (.putfield 13, 3) := by decide +kernel
theorem d_Po_copyFrom_64 : decode b_Po_copyFrom 64 = .ok (.return_, 1) := by decide +kernel
abbrev ws_Po_copyFrom : List Cond := .code y_Po_copyFrom b_Po_copyFrom 3 none :: TB
abbrev b_Po_put : ByteArray := prog_5_method_4_code
theorem d_Po_put_0 : decode b_Po_put 0 = .ok (.aload_n 0, 1) := by decide +kernel
theorem d_Po_put_1 : decode b_Po_put 1 = .ok (.getfield 7, 3) := by decide +kernel
theorem d_Po_put_4 : decode b_Po_put 4 = .ok (.iload_n 1, 1) := by decide +kernel
theorem d_Po_put_5 : decode b_Po_put 5 = .ok (.iload_n 2, 1) := by decide +kernel
theorem d_Po_put_6 : decode b_Po_put 6 = .ok (.iastore, 1) := by decide +kernel
theorem d_Po_put_7 : decode b_Po_put 7 = .ok (.aload_n 0, 1) := by decide +kernel
theorem d_Po_put_8 : decode b_Po_put 8 = .ok (.aload_n 0, 1) := by decide +kernel
theorem d_Po_put_9 : decode b_Po_put 9 = .ok (.getfield 13, 3) := by decide +kernel
theorem d_Po_put_12 : decode b_Po_put 12 = .ok (.iload_n 1, 1) := by decide +kernel
theorem d_Po_put_13 : decode b_Po_put 13 = .ok (.invokestatic 17, 3) := by decide +kernel
theorem d_Po_put_16 : decode b_Po_put 16 = .ok (.putfield 13, 3) := by decide +kernel
theorem d_Po_put_19 : decode b_Po_put 19 = .ok (.aload_n 0, 1) := by decide +kernel
theorem d_Po_put_20 : decode b_Po_put 20 = .ok (.getfield 13, 3) := by decide +kernel
theorem d_Po_put_23 : decode b_Po_put 23 = .ok (.ifCond .lt 28, 3) := by decide +kernel
theorem d_Po_put_26 : decode b_Po_put 26 = .ok (.aload_n 0, 1) := by decide +kernel
theorem d_Po_put_27 : decode b_Po_put 27 = .ok (.getfield 7, 3) := by decide +kernel
theorem d_Po_put_30 : decode b_Po_put 30 = .ok (.aload_n 0, 1) := by decide +kernel
theorem d_Po_put_31 : decode b_Po_put 31 = .ok (.getfield 13, 3) := by decide +kernel
theorem d_Po_put_34 : decode b_Po_put 34 = .ok (.iaload, 1) := by decide +kernel
theorem d_Po_put_35 : decode b_Po_put 35 = .ok (.ifCond .ne 16, 3) := by decide +kernel
theorem d_Po_put_38 : decode b_Po_put 38 = .ok (.aload_n 0, 1) := by decide +kernel
theorem d_Po_put_39 : decode b_Po_put 39 = .ok (.dup, 1) := by decide +kernel
theorem d_Po_put_40 : decode b_Po_put 40 = .ok (.getfield 13, 3) := by decide +kernel
theorem d_Po_put_43 : decode b_Po_put 43 = .ok (.iconst 1, 1) := by decide +kernel
theorem d_Po_put_44 : decode b_Po_put 44 = .ok (.isub, 1) := by decide +kernel
theorem d_Po_put_45 : decode b_Po_put 45 = .ok (.putfield 13, 3) := by decide +kernel
theorem d_Po_put_48 : decode b_Po_put 48 = .ok (.goto (-29), 3) := by decide +kernel
theorem d_Po_put_51 : decode b_Po_put 51 = .ok (.return_, 1) := by decide +kernel
abbrev ws_Po_put : List Cond := .code y_Po_put b_Po_put 3 none :: TB
abbrev b_Po_becomePowerOfX : ByteArray := prog_5_method_5_code
theorem d_Po_becomePowerOfX_0 : decode b_Po_becomePowerOfX 0 = .ok (.aload_n 0, 1) := by decide +kernel
theorem d_Po_becomePowerOfX_1 : decode b_Po_becomePowerOfX 1 = .ok (.invokevirtual 23, 3) := by decide +kernel
theorem d_Po_becomePowerOfX_4 : decode b_Po_becomePowerOfX 4 = .ok (.aload_n 0, 1) := by decide +kernel
theorem d_Po_becomePowerOfX_5 : decode b_Po_becomePowerOfX 5 = .ok (.getfield 7, 3) := by decide +kernel
theorem d_Po_becomePowerOfX_8 : decode b_Po_becomePowerOfX 8 = .ok (.iload_n 1, 1) := by decide +kernel
theorem d_Po_becomePowerOfX_9 : decode b_Po_becomePowerOfX 9 = .ok (.iconst 1, 1) := by decide +kernel
theorem d_Po_becomePowerOfX_10 : decode b_Po_becomePowerOfX 10 = .ok (.iastore, 1) := by decide +kernel
theorem d_Po_becomePowerOfX_11 : decode b_Po_becomePowerOfX 11 = .ok (.aload_n 0, 1) := by decide +kernel
theorem d_Po_becomePowerOfX_12 : decode b_Po_becomePowerOfX 12 = .ok (.iload_n 1, 1) := by decide +kernel
theorem d_Po_becomePowerOfX_13 : decode b_Po_becomePowerOfX 13 = .ok (.putfield 13, 3) := by decide +kernel
theorem d_Po_becomePowerOfX_16 : decode b_Po_becomePowerOfX 16 = .ok (.return_, 1) := by decide +kernel
abbrev ws_Po_becomePowerOfX : List Cond := .code y_Po_becomePowerOfX b_Po_becomePowerOfX 2 none :: TB
abbrev b_Po_lead : ByteArray := prog_5_method_6_code
theorem d_Po_lead_0 : decode b_Po_lead 0 = .ok (.aload_n 0, 1) := by decide +kernel
theorem d_Po_lead_1 : decode b_Po_lead 1 = .ok (.getfield 13, 3) := by decide +kernel
theorem d_Po_lead_4 : decode b_Po_lead 4 = .ok (.ifCond .ge 7, 3) := by decide +kernel
theorem d_Po_lead_7 : decode b_Po_lead 7 = .ok (.iconst 0, 1) := by decide +kernel
theorem d_Po_lead_8 : decode b_Po_lead 8 = .ok (.goto 12, 3) := by decide +kernel
theorem d_Po_lead_11 : decode b_Po_lead 11 = .ok (.aload_n 0, 1) := by decide +kernel
theorem d_Po_lead_12 : decode b_Po_lead 12 = .ok (.getfield 7, 3) := by decide +kernel
theorem d_Po_lead_15 : decode b_Po_lead 15 = .ok (.aload_n 0, 1) := by decide +kernel
theorem d_Po_lead_16 : decode b_Po_lead 16 = .ok (.getfield 13, 3) := by decide +kernel
theorem d_Po_lead_19 : decode b_Po_lead 19 = .ok (.iaload, 1) := by decide +kernel
theorem d_Po_lead_20 : decode b_Po_lead 20 = .ok (.ireturn, 1) := by decide +kernel
abbrev ws_Po_lead : List Cond := .code y_Po_lead b_Po_lead 1 (Option.some .int) :: TB
abbrev b_Po_isOne : ByteArray := prog_5_method_7_code
theorem d_Po_isOne_0 : decode b_Po_isOne 0 = .ok (.aload_n 0, 1) := by decide +kernel
theorem d_Po_isOne_1 : decode b_Po_isOne 1 = .ok (.getfield 13, 3) := by decide +kernel
theorem d_Po_isOne_4 : decode b_Po_isOne 4 = .ok (.ifCond .ne 17, 3) := by decide +kernel
theorem d_Po_isOne_7 : decode b_Po_isOne 7 = .ok (.aload_n 0, 1) := by decide +kernel
theorem d_Po_isOne_8 : decode b_Po_isOne 8 = .ok (.getfield 7, 3) := by decide +kernel
theorem d_Po_isOne_11 : decode b_Po_isOne 11 = .ok (.iconst 0, 1) := by decide +kernel
theorem d_Po_isOne_12 : decode b_Po_isOne 12 = .ok (.iaload, 1) := by decide +kernel
theorem d_Po_isOne_13 : decode b_Po_isOne 13 = .ok (.iconst 1, 1) := by decide +kernel
theorem d_Po_isOne_14 : decode b_Po_isOne 14 = .ok (.if_icmp .ne 7, 3) := by decide +kernel
theorem d_Po_isOne_17 : decode b_Po_isOne 17 = .ok (.iconst 1, 1) := by decide +kernel
theorem d_Po_isOne_18 : decode b_Po_isOne 18 = .ok (.goto 4, 3) := by decide +kernel
theorem d_Po_isOne_21 : decode b_Po_isOne 21 = .ok (.iconst 0, 1) := by decide +kernel
theorem d_Po_isOne_22 : decode b_Po_isOne 22 = .ok (.ireturn, 1) := by decide +kernel
abbrev ws_Po_isOne : List Cond := .code y_Po_isOne b_Po_isOne 1 (Option.some .boolean) :: TB
abbrev b_Po_comesBefore : ByteArray := prog_5_method_8_code
theorem d_Po_comesBefore_0 : decode b_Po_comesBefore 0 = .ok (.aload_n 0, 1) := by decide +kernel
theorem d_Po_comesBefore_1 : decode b_Po_comesBefore 1 = .ok (.getfield 13, 3) := by decide +kernel
theorem d_Po_comesBefore_4 : decode b_Po_comesBefore 4 = .ok (.aload_n 1, 1) := by decide +kernel
theorem d_Po_comesBefore_5 : decode b_Po_comesBefore 5 = .ok (.getfield 13, 3) := by decide +kernel
theorem d_Po_comesBefore_8 : decode b_Po_comesBefore 8 = .ok (.if_icmp .eq 20, 3) := by decide +kernel
theorem d_Po_comesBefore_11 : decode b_Po_comesBefore 11 = .ok (.aload_n 0, 1) := by decide +kernel
theorem d_Po_comesBefore_12 : decode b_Po_comesBefore 12 = .ok (.getfield 13, 3) := by decide +kernel
theorem d_Po_comesBefore_15 : decode b_Po_comesBefore 15 = .ok (.aload_n 1, 1) := by decide +kernel
theorem d_Po_comesBefore_16 : decode b_Po_comesBefore 16 = .ok (.getfield 13, 3) := by decide +kernel
theorem d_Po_comesBefore_19 : decode b_Po_comesBefore 19 = .ok (.if_icmp .ge 7, 3) := by decide +kernel
theorem d_Po_comesBefore_22 : decode b_Po_comesBefore 22 = .ok (.iconst 1, 1) := by decide +kernel
theorem d_Po_comesBefore_23 : decode b_Po_comesBefore 23 = .ok (.goto 4, 3) := by decide +kernel
theorem d_Po_comesBefore_26 : decode b_Po_comesBefore 26 = .ok (.iconst 0, 1) := by decide +kernel
theorem d_Po_comesBefore_27 : decode b_Po_comesBefore 27 = .ok (.ireturn, 1) := by decide +kernel
theorem d_Po_comesBefore_28 : decode b_Po_comesBefore 28 = .ok (.aload_n 0, 1) := by decide +kernel
theorem d_Po_comesBefore_29 : decode b_Po_comesBefore 29 = .ok (.getfield 13, 3) := by decide +kernel
theorem d_Po_comesBefore_32 : decode b_Po_comesBefore 32 = .ok (.istore_n 2, 1) := by decide +kernel
theorem d_Po_comesBefore_33 : decode b_Po_comesBefore 33 = .ok (.iload_n 2, 1) := by decide +kernel
theorem d_Po_comesBefore_34 : decode b_Po_comesBefore 34 = .ok (.ifCond .lt 45, 3) := by decide +kernel
theorem d_Po_comesBefore_37 : decode b_Po_comesBefore 37 = .ok (.aload_n 0, 1) := by decide +kernel
theorem d_Po_comesBefore_38 : decode b_Po_comesBefore 38 = .ok (.getfield 7, 3) := by decide +kernel
theorem d_Po_comesBefore_41 : decode b_Po_comesBefore 41 = .ok (.iload_n 2, 1) := by decide +kernel
theorem d_Po_comesBefore_42 : decode b_Po_comesBefore 42 = .ok (.iaload, 1) := by decide +kernel
theorem d_Po_comesBefore_43 : decode b_Po_comesBefore 43 = .ok (.aload_n 1, 1) := by decide +kernel
theorem d_Po_comesBefore_44 : decode b_Po_comesBefore 44 = .ok (.getfield 7, 3) := by decide +kernel
theorem d_Po_comesBefore_47 : decode b_Po_comesBefore 47 = .ok (.iload_n 2, 1) := by decide +kernel
theorem d_Po_comesBefore_48 : decode b_Po_comesBefore 48 = .ok (.iaload, 1) := by decide +kernel
theorem d_Po_comesBefore_49 : decode b_Po_comesBefore 49 = .ok (.if_icmp .eq 24, 3) := by decide +kernel
theorem d_Po_comesBefore_52 : decode b_Po_comesBefore 52 = .ok (.aload_n 0, 1) := by decide +kernel
theorem d_Po_comesBefore_53 : decode b_Po_comesBefore 53 = .ok (.getfield 7, 3) := by decide +kernel
theorem d_Po_comesBefore_56 : decode b_Po_comesBefore 56 = .ok (.iload_n 2, 1) := by decide +kernel
theorem d_Po_comesBefore_57 : decode b_Po_comesBefore 57 = .ok (.iaload, 1) := by decide +kernel
theorem d_Po_comesBefore_58 : decode b_Po_comesBefore 58 = .ok (.aload_n 1, 1) := by decide +kernel
theorem d_Po_comesBefore_59 : decode b_Po_comesBefore 59 = .ok (.getfield 7, 3) := by decide +kernel
theorem d_Po_comesBefore_62 : decode b_Po_comesBefore 62 = .ok (.iload_n 2, 1) := by decide +kernel
theorem d_Po_comesBefore_63 : decode b_Po_comesBefore 63 = .ok (.iaload, 1) := by decide +kernel
theorem d_Po_comesBefore_64 : decode b_Po_comesBefore 64 = .ok (.if_icmp .ge 7, 3) := by decide +kernel
theorem d_Po_comesBefore_67 : decode b_Po_comesBefore 67 = .ok (.iconst 1, 1) := by decide +kernel
theorem d_Po_comesBefore_68 : decode b_Po_comesBefore 68 = .ok (.goto 4, 3) := by decide +kernel
theorem d_Po_comesBefore_71 : decode b_Po_comesBefore 71 = .ok (.iconst 0, 1) := by decide +kernel
theorem d_Po_comesBefore_72 : decode b_Po_comesBefore 72 = .ok (.ireturn, 1) := by decide +kernel
theorem d_Po_comesBefore_73 : decode b_Po_comesBefore 73 = .ok (.iinc 2 (-1), 3) := by decide +kernel
theorem d_Po_comesBefore_76 : decode b_Po_comesBefore 76 = .ok (.goto (-43), 3) := by decide +kernel
theorem d_Po_comesBefore_79 : decode b_Po_comesBefore 79 = .ok (.iconst 0, 1) := by decide +kernel
theorem d_Po_comesBefore_80 : decode b_Po_comesBefore 80 = .ok (.ireturn, 1) := by decide +kernel
abbrev ws_Po_comesBefore : List Cond := .code y_Po_comesBefore b_Po_comesBefore 3 (Option.some .boolean) :: TB
abbrev b_Ar_init : ByteArray := prog_2_method_1_code
theorem d_Ar_init_0 : decode b_Ar_init 0 = .ok (.aload_n 0, 1) := by decide +kernel
theorem d_Ar_init_1 : decode b_Ar_init 1 = .ok (.invokespecial 3, 3) := by decide +kernel
theorem d_Ar_init_4 : decode b_Ar_init 4 = .ok (.aload_n 0, 1) := by decide +kernel
theorem d_Ar_init_5 : decode b_Ar_init 5 = .ok (.bipush 13, 2) := by decide +kernel
theorem d_Ar_init_7 : decode b_Ar_init 7 = .ok (.newarray .int, 2) := by decide +kernel
theorem d_Ar_init_9 : decode b_Ar_init 9 = .ok (.putfield 9, 3) := by decide +kernel
theorem d_Ar_init_12 : decode b_Ar_init 12 = .ok (.aload_n 0, 1) := by decide +kernel
theorem d_Ar_init_13 : decode b_Ar_init 13 = .ok (.new 15, 3) := by decide +kernel
theorem d_Ar_init_16 : decode b_Ar_init 16 = .ok (.dup, 1) := by decide +kernel
theorem d_Ar_init_17 : decode b_Ar_init 17 = .ok (.sipush 300, 3) := by decide +kernel
theorem d_Ar_init_20 : decode b_Ar_init 20 = .ok (.invokespecial 17, 3) := by decide +kernel
theorem d_Ar_init_23 : decode b_Ar_init 23 = .ok (.putfield 20, 3) := by decide +kernel
theorem d_Ar_init_26 : decode b_Ar_init 26 = .ok (.aload_n 0, 1) := by decide +kernel
theorem d_Ar_init_27 : decode b_Ar_init 27 = .ok (.new 15, 3) := by decide +kernel
theorem d_Ar_init_30 : decode b_Ar_init 30 = .ok (.dup, 1) := by decide +kernel
theorem d_Ar_init_31 : decode b_Ar_init 31 = .ok (.sipush 300, 3) := by decide +kernel
theorem d_Ar_init_34 : decode b_Ar_init 34 = .ok (.invokespecial 17, 3) := by decide +kernel
theorem d_Ar_init_37 : decode b_Ar_init 37 = .ok (.putfield 24, 3) := by decide +kernel
theorem d_Ar_init_40 : decode b_Ar_init 40 = .ok (.aload_n 0, 1) := by decide +kernel
theorem d_Ar_init_41 : decode b_Ar_init 41 = .ok (.new 15, 3) := by decide +kernel
theorem d_Ar_init_44 : decode b_Ar_init 44 = .ok (.dup, 1) := by decide +kernel
theorem d_Ar_init_45 : decode b_Ar_init 45 = .ok (.bipush 25, 2) := by decide +kernel
theorem d_Ar_init_47 : decode b_Ar_init 47 = .ok (.invokespecial 17, 3) := by decide +kernel
theorem d_Ar_init_50 : decode b_Ar_init 50 = .ok (.putfield 27, 3) := by decide +kernel
theorem d_Ar_init_53 : decode b_Ar_init 53 = .ok (.aload_n 0, 1) := by decide +kernel
theorem d_Ar_init_54 : decode b_Ar_init 54 = .ok (.new 15, 3) := by decide +kernel
theorem d_Ar_init_57 : decode b_Ar_init 57 = .ok (.dup, 1) := by decide +kernel
theorem d_Ar_init_58 : decode b_Ar_init 58 = .ok (.bipush 25, 2) := by decide +kernel
theorem d_Ar_init_60 : decode b_Ar_init 60 = .ok (.invokespecial 17, 3) := by decide +kernel
theorem d_Ar_init_63 : decode b_Ar_init 63 = .ok (.putfield 30, 3) := by decide +kernel
theorem d_Ar_init_66 : decode b_Ar_init 66 = .ok (.aload_n 0, 1) := by decide +kernel
theorem d_Ar_init_67 : decode b_Ar_init 67 = .ok (.new 15, 3) := by decide +kernel
theorem d_Ar_init_70 : decode b_Ar_init 70 = .ok (.dup, 1) := by decide +kernel
theorem d_Ar_init_71 : decode b_Ar_init 71 = .ok (.bipush 25, 2) := by decide +kernel
theorem d_Ar_init_73 : decode b_Ar_init 73 = .ok (.invokespecial 17, 3) := by decide +kernel
theorem d_Ar_init_76 : decode b_Ar_init 76 = .ok (.putfield 33, 3) := by decide +kernel
theorem d_Ar_init_79 : decode b_Ar_init 79 = .ok (.aload_n 0, 1) := by decide +kernel
theorem d_Ar_init_80 : decode b_Ar_init 80 = .ok (.new 15, 3) := by decide +kernel
theorem d_Ar_init_83 : decode b_Ar_init 83 = .ok (.dup, 1) := by decide +kernel
theorem d_Ar_init_84 : decode b_Ar_init 84 = .ok (.bipush 25, 2) := by decide +kernel
theorem d_Ar_init_86 : decode b_Ar_init 86 = .ok (.invokespecial 17, 3) := by decide +kernel
theorem d_Ar_init_89 : decode b_Ar_init 89 = .ok (.putfield 36, 3) := by decide +kernel
theorem d_Ar_init_92 : decode b_Ar_init 92 = .ok (.aload_n 0, 1) := by decide +kernel
theorem d_Ar_init_93 : decode b_Ar_init 93 = .ok (.new 15, 3) := by decide +kernel
theorem d_Ar_init_96 : decode b_Ar_init 96 = .ok (.dup, 1) := by decide +kernel
theorem d_Ar_init_97 : decode b_Ar_init 97 = .ok (.bipush 25, 2) := by decide +kernel
theorem d_Ar_init_99 : decode b_Ar_init 99 = .ok (.invokespecial 17, 3) := by decide +kernel
theorem d_Ar_init_102 : decode b_Ar_init 102 = .ok (.putfield 39, 3) := by decide +kernel
theorem d_Ar_init_105 : decode b_Ar_init 105 = .ok (.aload_n 0, 1) := by decide +kernel
theorem d_Ar_init_106 : decode b_Ar_init 106 = .ok (.getstatic 42, 3) := by decide +kernel
theorem d_Ar_init_109 : decode b_Ar_init 109 = .ok (.iconst 0, 1) := by decide +kernel
theorem d_Ar_init_110 : decode b_Ar_init 110 = .ok (.iaload, 1) := by decide +kernel
theorem d_Ar_init_111 : decode b_Ar_init 111 = .ok (.invokevirtual 45, 3) := by decide +kernel
theorem d_Ar_init_114 : decode b_Ar_init 114 = .ok (.return_, 1) := by decide +kernel
abbrev ws_Ar_init : List Cond := .code y_Ar_init b_Ar_init 1 none :: TB
abbrev b_Ar_become : ByteArray := prog_2_method_2_code
theorem d_Ar_become_0 : decode b_Ar_become 0 = .ok (.aload_n 0, 1) := by decide +kernel
theorem d_Ar_become_1 : decode b_Ar_become 1 = .ok (.iload_n 1, 1) := by decide +kernel
theorem d_Ar_become_2 : decode b_Ar_become 2 = .ok (.putfield 48, 3) := by decide +kernel
theorem d_Ar_become_5 : decode b_Ar_become 5 = .ok (.iconst 1, 1) := by decide +kernel
theorem d_Ar_become_6 : decode b_Ar_become 6 = .ok (.istore_n 2, 1) := by decide +kernel
theorem d_Ar_become_7 : decode b_Ar_become 7 = .ok (.iload_n 2, 1) := by decide +kernel
theorem d_Ar_become_8 : decode b_Ar_become 8 = .ok (.aload_n 0, 1) := by decide +kernel
theorem d_Ar_become_9 : decode b_Ar_become 9 = .ok (.getfield 48, 3) := by decide +kernel
theorem d_Ar_become_12 : decode b_Ar_become 12 = .ok (.if_icmp .ge 44, 3) := by decide +kernel
theorem d_Ar_become_15 : decode b_Ar_become 15 = .ok (.iconst 1, 1) := by decide +kernel
theorem d_Ar_become_16 : decode b_Ar_become 16 = .ok (.istore_n 3, 1) := by decide +kernel
theorem d_Ar_become_17 : decode b_Ar_become 17 = .ok (.iload_n 3, 1) := by decide +kernel
theorem d_Ar_become_18 : decode b_Ar_become 18 = .ok (.aload_n 0, 1) := by decide +kernel
theorem d_Ar_become_19 : decode b_Ar_become 19 = .ok (.getfield 48, 3) := by decide +kernel
theorem d_Ar_become_22 : decode b_Ar_become 22 = .ok (.if_icmp .ge 28, 3) := by decide +kernel
theorem d_Ar_become_25 : decode b_Ar_become 25 = .ok (.iload_n 2, 1) := by decide +kernel
theorem d_Ar_become_26 : decode b_Ar_become 26 = .ok (.iload_n 3, 1) := by decide +kernel
theorem d_Ar_become_27 : decode b_Ar_become 27 = .ok (.imul, 1) := by decide +kernel
theorem d_Ar_become_28 : decode b_Ar_become 28 = .ok (.aload_n 0, 1) := by decide +kernel
theorem d_Ar_become_29 : decode b_Ar_become 29 = .ok (.getfield 48, 3) := by decide +kernel
theorem d_Ar_become_32 : decode b_Ar_become 32 = .ok (.irem, 1) := by decide +kernel
theorem d_Ar_become_33 : decode b_Ar_become 33 = .ok (.iconst 1, 1) := by decide +kernel
theorem d_Ar_become_34 : decode b_Ar_become 34 = .ok (.if_icmp .ne 10, 3) := by decide +kernel
theorem d_Ar_become_37 : decode b_Ar_become 37 = .ok (.aload_n 0, 1) := by decide +kernel
theorem d_Ar_become_38 : decode b_Ar_become 38 = .ok (.getfield 9, 3) := by decide +kernel
theorem d_Ar_become_41 : decode b_Ar_become 41 = .ok (.iload_n 2, 1) := by decide +kernel
theorem d_Ar_become_42 : decode b_Ar_become 42 = .ok (.iload_n 3, 1) := by decide +kernel
theorem d_Ar_become_43 : decode b_Ar_become 43 = .ok (.iastore, 1) := by decide +kernel
theorem d_Ar_become_44 : decode b_Ar_become 44 = .ok (.iinc 3 1, 3) := by decide +kernel
theorem d_Ar_become_47 : decode b_Ar_become 47 = .ok (.goto (-30), 3) := by decide +kernel
theorem d_Ar_become_50 : decode b_Ar_become 50 = .ok (.iinc 2 1, 3) := by decide +kernel
theorem d_Ar_become_53 : decode b_Ar_become 53 = .ok (.goto (-46), 3) := by decide +kernel
theorem d_Ar_become_56 : decode b_Ar_become 56 = .ok (.return_, 1) := by decide +kernel
abbrev ws_Ar_become : List Cond := .code y_Ar_become b_Ar_become 4 none :: TB
abbrev b_Ar_addShifted : ByteArray := prog_2_method_3_code
theorem d_Ar_addShifted_0 : decode b_Ar_addShifted 0 = .ok (.aload 4, 2) := by decide +kernel
theorem d_Ar_addShifted_2 : decode b_Ar_addShifted 2 = .ok (.getfield 52, 3) := by decide +kernel
theorem d_Ar_addShifted_5 : decode b_Ar_addShifted 5 = .ok (.ifCond .ge 4, 3) := by decide +kernel
theorem d_Ar_addShifted_8 : decode b_Ar_addShifted 8 = .ok (.return_, 1) := by decide +kernel
theorem d_Ar_addShifted_9 : decode b_Ar_addShifted 9 = .ok (.iconst 0, 1) := by decide +kernel
theorem d_Ar_addShifted_10 : decode b_Ar_addShifted 10 = .ok (.istore 5, 2) := by decide +kernel
theorem d_Ar_addShifted_12 : decode b_Ar_addShifted 12 = .ok (.iload 5, 2) := by decide +kernel
theorem d_Ar_addShifted_14 : decode b_Ar_addShifted 14 = .ok (.aload 4, 2) := by decide +kernel
theorem d_Ar_addShifted_16 : decode b_Ar_addShifted 16 = .ok (.getfield 52, 3) := by decide +kernel
theorem d_Ar_addShifted_19 : decode b_Ar_addShifted 19 = .ok (.if_icmp .gt 45, 3) := by decide +kernel
theorem d_Ar_addShifted_22 : decode b_Ar_addShifted 22 = .ok (.iload 5, 2) := by decide +kernel
theorem d_Ar_addShifted_24 : decode b_Ar_addShifted 24 = .ok (.iload_n 3, 1) := by decide +kernel
theorem d_Ar_addShifted_25 : decode b_Ar_addShifted 25 = .ok (.iadd, 1) := by decide +kernel
theorem d_Ar_addShifted_26 : decode b_Ar_addShifted 26 = .ok (.istore 6, 2) := by decide +kernel
theorem d_Ar_addShifted_28 : decode b_Ar_addShifted 28 = .ok (.aload_n 1, 1) := by decide +kernel
theorem d_Ar_addShifted_29 : decode b_Ar_addShifted 29 = .ok (.getfield 55, 3) := by decide +kernel
theorem d_Ar_addShifted_32 : decode b_Ar_addShifted 32 = .ok (.iload 6, 2) := by decide +kernel
theorem d_Ar_addShifted_34 : decode b_Ar_addShifted 34 = .ok (.aload_n 1, 1) := by decide +kernel
theorem d_Ar_addShifted_35 : decode b_Ar_addShifted 35 = .ok (.getfield 55, 3) := by decide +kernel
theorem d_Ar_addShifted_38 : decode b_Ar_addShifted 38 = .ok (.iload 6, 2) := by decide +kernel
theorem d_Ar_addShifted_40 : decode b_Ar_addShifted 40 = .ok (.iaload, 1) := by decide +kernel
theorem d_Ar_addShifted_41 : decode b_Ar_addShifted 41 = .ok (.iload_n 2, 1) := by decide +kernel
theorem d_Ar_addShifted_42 : decode b_Ar_addShifted 42 = .ok (.aload 4, 2) := by decide +kernel
theorem d_Ar_addShifted_44 : decode b_Ar_addShifted 44 = .ok (.getfield 55, 3) := by decide +kernel
theorem d_Ar_addShifted_47 : decode b_Ar_addShifted 47 = .ok (.iload 5, 2) := by decide +kernel
theorem d_Ar_addShifted_49 : decode b_Ar_addShifted 49 = .ok (.iaload, 1) := by decide +kernel
theorem d_Ar_addShifted_50 : decode b_Ar_addShifted 50 = .ok (.imul, 1) := by decide +kernel
theorem d_Ar_addShifted_51 : decode b_Ar_addShifted 51 = .ok (.iadd, 1) := by decide +kernel
theorem d_Ar_addShifted_52 : decode b_Ar_addShifted 52 = .ok (.aload_n 0, 1) := by decide +kernel
theorem d_Ar_addShifted_53 : decode b_Ar_addShifted 53 = .ok (.getfield 48, 3) := by decide +kernel
theorem d_Ar_addShifted_56 : decode b_Ar_addShifted 56 = .ok (.irem, 1) := by decide +kernel
theorem d_Ar_addShifted_57 : decode b_Ar_addShifted 57 = .ok (.iastore, 1) := by decide +kernel
theorem d_Ar_addShifted_58 : decode b_Ar_addShifted 58 = .ok (.iinc 5 1, 3) := by decide +kernel
theorem d_Ar_addShifted_61 : decode b_Ar_addShifted 61 = .ok (.goto (-49), 3) := by decide +kernel
theorem d_Ar_addShifted_64 : decode b_Ar_addShifted 64 = .ok (.aload_n 1, 1) := by decide +kernel
theorem d_Ar_addShifted_65 : decode b_Ar_addShifted 65 = .ok (.getfield 52, 3) := by decide +kernel
theorem d_Ar_addShifted_68 : decode b_Ar_addShifted 68 = .ok (.aload 4, 2) := by decide +kernel
theorem d_Ar_addShifted_70 : decode b_Ar_addShifted 70 = .ok (.getfield 52, 3) := by decide +kernel
theorem d_Ar_addShifted_73 : decode b_Ar_addShifted 73 = .ok (.iload_n 3, 1) := by decide +kernel
theorem d_Ar_addShifted_74 : decode b_Ar_addShifted 74 = .ok (.iadd, 1) := by decide +kernel
theorem d_Ar_addShifted_75 : decode b_Ar_addShifted 75 = .ok (.invokestatic 58, 3) := by decide +kernel
theorem d_Ar_addShifted_78 : decode b_Ar_addShifted 78 = .ok (.istore 5, 2) := by decide +kernel
theorem d_Ar_addShifted_80 : decode b_Ar_addShifted 80 = .ok (.iload 5, 2) := by decide +kernel
theorem d_Ar_addShifted_82 : decode b_Ar_addShifted 82 = .ok (.ifCond .lt 19, 3) := by decide +kernel
theorem d_Ar_addShifted_85 : decode b_Ar_addShifted 85 = .ok (.aload_n 1, 1) := by decide +kernel
theorem d_Ar_addShifted_86 : decode b_Ar_addShifted 86 = .ok (.getfield 55, 3) := by decide +kernel
theorem d_Ar_addShifted_89 : decode b_Ar_addShifted 89 = .ok (.iload 5, 2) := by decide +kernel
theorem d_Ar_addShifted_91 : decode b_Ar_addShifted 91 = .ok (.iaload, 1) := by decide +kernel
theorem d_Ar_addShifted_92 : decode b_Ar_addShifted 92 = .ok (.ifCond .ne 9, 3) := by decide +kernel
theorem d_Ar_addShifted_95 : decode b_Ar_addShifted 95 = .ok (.iinc 5 (-1), 3) := by decide +kernel
theorem d_Ar_addShifted_98 : decode b_Ar_addShifted 98 = .ok (.goto (-18), 3) := by decide +kernel
theorem d_Ar_addShifted_101 : decode b_Ar_addShifted 101 = .ok (.aload_n 1, 1) := by decide +kernel
theorem d_Ar_addShifted_102 : decode b_Ar_addShifted 102 = .ok (.iload 5, 2) := by decide +kernel
theorem d_Ar_addShifted_104 : decode b_Ar_addShifted 104 = .ok (.putfield 52, 3) := by decide +kernel
theorem d_Ar_addShifted_107 : decode b_Ar_addShifted 107 = .ok (.return_, 1) := by decide +kernel
abbrev ws_Ar_addShifted : List Cond := .code y_Ar_addShifted b_Ar_addShifted 7 none :: TB
abbrev b_Ar_addProduct : ByteArray := prog_2_method_4_code
theorem d_Ar_addProduct_0 : decode b_Ar_addProduct 0 = .ok (.iconst 0, 1) := by decide +kernel
theorem d_Ar_addProduct_1 : decode b_Ar_addProduct 1 = .ok (.istore 5, 2) := by decide +kernel
theorem d_Ar_addProduct_3 : decode b_Ar_addProduct 3 = .ok (.iload 5, 2) := by decide +kernel
theorem d_Ar_addProduct_5 : decode b_Ar_addProduct 5 = .ok (.aload_n 3, 1) := by decide +kernel
theorem d_Ar_addProduct_6 : decode b_Ar_addProduct 6 = .ok (.getfield 52, 3) := by decide +kernel
theorem d_Ar_addProduct_9 : decode b_Ar_addProduct 9 = .ok (.if_icmp .gt 37, 3) := by decide +kernel
theorem d_Ar_addProduct_12 : decode b_Ar_addProduct 12 = .ok (.aload_n 3, 1) := by decide +kernel
theorem d_Ar_addProduct_13 : decode b_Ar_addProduct 13 = .ok (.getfield 55, 3) := by decide +kernel
theorem d_Ar_addProduct_16 : decode b_Ar_addProduct 16 = .ok (.iload 5, 2) := by decide +kernel
theorem d_Ar_addProduct_18 : decode b_Ar_addProduct 18 = .ok (.iaload, 1) := by decide +kernel
theorem d_Ar_addProduct_19 : decode b_Ar_addProduct 19 = .ok (.ifCond .eq 21, 3) := by decide +kernel
theorem d_Ar_addProduct_22 : decode b_Ar_addProduct 22 = .ok (.aload_n 0, 1) := by decide +kernel
theorem d_Ar_addProduct_23 : decode b_Ar_addProduct 23 = .ok (.aload_n 1, 1) := by decide +kernel
theorem d_Ar_addProduct_24 : decode b_Ar_addProduct 24 = .ok (.iload_n 2, 1) := by decide +kernel
theorem d_Ar_addProduct_25 : decode b_Ar_addProduct 25 = .ok (.aload_n 3, 1) := by decide +kernel
theorem d_Ar_addProduct_26 : decode b_Ar_addProduct 26 = .ok (.getfield 55, 3) := by decide +kernel
theorem d_Ar_addProduct_29 : decode b_Ar_addProduct 29 = .ok (.iload 5, 2) := by decide +kernel
theorem d_Ar_addProduct_31 : decode b_Ar_addProduct 31 = .ok (.iaload, 1) := by decide +kernel
theorem d_Ar_addProduct_32 : decode b_Ar_addProduct 32 = .ok (.imul, 1) := by decide +kernel
theorem d_Ar_addProduct_33 : decode b_Ar_addProduct 33 = .ok (.iload 5, 2) := by decide +kernel
theorem d_Ar_addProduct_35 : decode b_Ar_addProduct 35 = .ok (.aload 4, 2) := by decide +kernel
theorem d_Ar_addProduct_37 : decode b_Ar_addProduct 37 = .ok (.invokevirtual 64, 3) := by decide +kernel
theorem d_Ar_addProduct_40 : decode b_Ar_addProduct 40 = .ok (.iinc 5 1, 3) := by decide +kernel
theorem d_Ar_addProduct_43 : decode b_Ar_addProduct 43 = .ok (.goto (-40), 3) := by decide +kernel
theorem d_Ar_addProduct_46 : decode b_Ar_addProduct 46 = .ok (.return_, 1) := by decide +kernel
abbrev ws_Ar_addProduct : List Cond := .code y_Ar_addProduct b_Ar_addProduct 6 none :: TB
abbrev b_Ar_scale : ByteArray := prog_2_method_5_code
theorem d_Ar_scale_0 : decode b_Ar_scale 0 = .ok (.iconst 0, 1) := by decide +kernel
theorem d_Ar_scale_1 : decode b_Ar_scale 1 = .ok (.istore_n 3, 1) := by decide +kernel
theorem d_Ar_scale_2 : decode b_Ar_scale 2 = .ok (.iload_n 3, 1) := by decide +kernel
theorem d_Ar_scale_3 : decode b_Ar_scale 3 = .ok (.aload_n 1, 1) := by decide +kernel
theorem d_Ar_scale_4 : decode b_Ar_scale 4 = .ok (.getfield 52, 3) := by decide +kernel
theorem d_Ar_scale_7 : decode b_Ar_scale 7 = .ok (.if_icmp .gt 28, 3) := by decide +kernel
theorem d_Ar_scale_10 : decode b_Ar_scale 10 = .ok (.aload_n 1, 1) := by decide +kernel
theorem d_Ar_scale_11 : decode b_Ar_scale 11 = .ok (.getfield 55, 3) := by decide +kernel
theorem d_Ar_scale_14 : decode b_Ar_scale 14 = .ok (.iload_n 3, 1) := by decide +kernel
theorem d_Ar_scale_15 : decode b_Ar_scale 15 = .ok (.aload_n 1, 1) := by decide +kernel
theorem d_Ar_scale_16 : decode b_Ar_scale 16 = .ok (.getfield 55, 3) := by decide +kernel
theorem d_Ar_scale_19 : decode b_Ar_scale 19 = .ok (.iload_n 3, 1) := by decide +kernel
theorem d_Ar_scale_20 : decode b_Ar_scale 20 = .ok (.iaload, 1) := by decide +kernel
theorem d_Ar_scale_21 : decode b_Ar_scale 21 = .ok (.iload_n 2, 1) := by decide +kernel
theorem d_Ar_scale_22 : decode b_Ar_scale 22 = .ok (.imul, 1) := by decide +kernel
theorem d_Ar_scale_23 : decode b_Ar_scale 23 = .ok (.aload_n 0, 1) := by decide +kernel
theorem d_Ar_scale_24 : decode b_Ar_scale 24 = .ok (.getfield 48, 3) := by decide +kernel
theorem d_Ar_scale_27 : decode b_Ar_scale 27 = .ok (.irem, 1) := by decide +kernel
theorem d_Ar_scale_28 : decode b_Ar_scale 28 = .ok (.iastore, 1) := by decide +kernel
theorem d_Ar_scale_29 : decode b_Ar_scale 29 = .ok (.iinc 3 1, 3) := by decide +kernel
theorem d_Ar_scale_32 : decode b_Ar_scale 32 = .ok (.goto (-30), 3) := by decide +kernel
theorem d_Ar_scale_35 : decode b_Ar_scale 35 = .ok (.return_, 1) := by decide +kernel
abbrev ws_Ar_scale : List Cond := .code y_Ar_scale b_Ar_scale 4 none :: TB
abbrev b_Ar_makeMonic : ByteArray := prog_2_method_6_code
theorem d_Ar_makeMonic_0 : decode b_Ar_makeMonic 0 = .ok (.aload_n 1, 1) := by decide +kernel
theorem d_Ar_makeMonic_1 : decode b_Ar_makeMonic 1 = .ok (.getfield 52, 3) := by decide +kernel
theorem d_Ar_makeMonic_4 : decode b_Ar_makeMonic 4 = .ok (.ifCond .lt 17, 3) := by decide +kernel
theorem d_Ar_makeMonic_7 : decode b_Ar_makeMonic 7 = .ok (.aload_n 0, 1) := by decide +kernel
theorem d_Ar_makeMonic_8 : decode b_Ar_makeMonic 8 = .ok (.aload_n 1, 1) := by decide +kernel
theorem d_Ar_makeMonic_9 : decode b_Ar_makeMonic 9 = .ok (.aload_n 0, 1) := by decide +kernel
theorem d_Ar_makeMonic_10 : decode b_Ar_makeMonic 10 = .ok (.getfield 9, 3) := by decide +kernel
theorem d_Ar_makeMonic_13 : decode b_Ar_makeMonic 13 = .ok (.aload_n 1, 1) := by decide +kernel
theorem d_Ar_makeMonic_14 : decode b_Ar_makeMonic 14 = .ok (.invokevirtual 68, 3) := by decide +kernel
theorem d_Ar_makeMonic_17 : decode b_Ar_makeMonic 17 = .ok (.iaload, 1) := by decide +kernel
theorem d_Ar_makeMonic_18 : decode b_Ar_makeMonic 18 = .ok (.invokevirtual 72, 3) := by decide +kernel
theorem d_Ar_makeMonic_21 : decode b_Ar_makeMonic 21 = .ok (.return_, 1) := by decide +kernel
abbrev ws_Ar_makeMonic : List Cond := .code y_Ar_makeMonic b_Ar_makeMonic 2 none :: TB
abbrev b_Ar_derive : ByteArray := prog_2_method_7_code
theorem d_Ar_derive_0 : decode b_Ar_derive 0 = .ok (.aload_n 1, 1) := by decide +kernel
theorem d_Ar_derive_1 : decode b_Ar_derive 1 = .ok (.invokevirtual 76, 3) := by decide +kernel
theorem d_Ar_derive_4 : decode b_Ar_derive 4 = .ok (.iconst 1, 1) := by decide +kernel
theorem d_Ar_derive_5 : decode b_Ar_derive 5 = .ok (.istore_n 3, 1) := by decide +kernel
theorem d_Ar_derive_6 : decode b_Ar_derive 6 = .ok (.iload_n 3, 1) := by decide +kernel
theorem d_Ar_derive_7 : decode b_Ar_derive 7 = .ok (.aload_n 2, 1) := by decide +kernel
theorem d_Ar_derive_8 : decode b_Ar_derive 8 = .ok (.getfield 52, 3) := by decide +kernel
theorem d_Ar_derive_11 : decode b_Ar_derive 11 = .ok (.if_icmp .gt 29, 3) := by decide +kernel
theorem d_Ar_derive_14 : decode b_Ar_derive 14 = .ok (.aload_n 1, 1) := by decide +kernel
theorem d_Ar_derive_15 : decode b_Ar_derive 15 = .ok (.iload_n 3, 1) := by decide +kernel
theorem d_Ar_derive_16 : decode b_Ar_derive 16 = .ok (.iconst 1, 1) := by decide +kernel
theorem d_Ar_derive_17 : decode b_Ar_derive 17 = .ok (.isub, 1) := by decide +kernel
theorem d_Ar_derive_18 : decode b_Ar_derive 18 = .ok (.iload_n 3, 1) := by decide +kernel
theorem d_Ar_derive_19 : decode b_Ar_derive 19 = .ok (.aload_n 2, 1) := by decide +kernel
theorem d_Ar_derive_20 : decode b_Ar_derive 20 = .ok (.getfield 55, 3) := by decide +kernel
theorem d_Ar_derive_23 : decode b_Ar_derive 23 = .ok (.iload_n 3, 1) := by decide +kernel
theorem d_Ar_derive_24 : decode b_Ar_derive 24 = .ok (.iaload, 1) := by decide +kernel
theorem d_Ar_derive_25 : decode b_Ar_derive 25 = .ok (.imul, 1) := by decide +kernel
theorem d_Ar_derive_26 : decode b_Ar_derive 26 = .ok (.aload_n 0, 1) := by decide +kernel
theorem d_Ar_derive_27 : decode b_Ar_derive 27 = .ok (.getfield 48, 3) := by decide +kernel
theorem d_Ar_derive_30 : decode b_Ar_derive 30 = .ok (.irem, 1) := by decide +kernel
theorem d_Ar_derive_31 : decode b_Ar_derive 31 = .ok (.invokevirtual 79, 3) := by decide +kernel
theorem d_Ar_derive_34 : decode b_Ar_derive 34 = .ok (.iinc 3 1, 3) := by decide +kernel
theorem d_Ar_derive_37 : decode b_Ar_derive 37 = .ok (.goto (-31), 3) := by decide +kernel
theorem d_Ar_derive_40 : decode b_Ar_derive 40 = .ok (.return_, 1) := by decide +kernel
abbrev ws_Ar_derive : List Cond := .code y_Ar_derive b_Ar_derive 4 none :: TB
abbrev b_Ar_evaluate : ByteArray := prog_2_method_8_code
theorem d_Ar_evaluate_0 : decode b_Ar_evaluate 0 = .ok (.iconst 0, 1) := by decide +kernel
theorem d_Ar_evaluate_1 : decode b_Ar_evaluate 1 = .ok (.istore_n 3, 1) := by decide +kernel
theorem d_Ar_evaluate_2 : decode b_Ar_evaluate 2 = .ok (.aload_n 1, 1) := by decide +kernel
theorem d_Ar_evaluate_3 : decode b_Ar_evaluate 3 = .ok (.getfield 52, 3) := by decide +kernel
theorem d_Ar_evaluate_6 : decode b_Ar_evaluate 6 = .ok (.istore 4, 2) := by decide +kernel
theorem d_Ar_evaluate_8 : decode b_Ar_evaluate 8 = .ok (.iload 4, 2) := by decide +kernel
theorem d_Ar_evaluate_10 : decode b_Ar_evaluate 10 = .ok (.ifCond .lt 26, 3) := by decide +kernel
theorem d_Ar_evaluate_13 : decode b_Ar_evaluate 13 = .ok (.iload_n 3, 1) := by decide +kernel
theorem d_Ar_evaluate_14 : decode b_Ar_evaluate 14 = .ok (.iload_n 2, 1) := by decide +kernel
theorem d_Ar_evaluate_15 : decode b_Ar_evaluate 15 = .ok (.imul, 1) := by decide +kernel
theorem d_Ar_evaluate_16 : decode b_Ar_evaluate 16 = .ok (.aload_n 1, 1) := by decide +kernel
theorem d_Ar_evaluate_17 : decode b_Ar_evaluate 17 = .ok (.getfield 55, 3) := by decide +kernel
theorem d_Ar_evaluate_20 : decode b_Ar_evaluate 20 = .ok (.iload 4, 2) := by decide +kernel
theorem d_Ar_evaluate_22 : decode b_Ar_evaluate 22 = .ok (.iaload, 1) := by decide +kernel
theorem d_Ar_evaluate_23 : decode b_Ar_evaluate 23 = .ok (.iadd, 1) := by decide +kernel
theorem d_Ar_evaluate_24 : decode b_Ar_evaluate 24 = .ok (.aload_n 0, 1) := by decide +kernel
theorem d_Ar_evaluate_25 : decode b_Ar_evaluate 25 = .ok (.getfield 48, 3) := by decide +kernel
theorem d_Ar_evaluate_28 : decode b_Ar_evaluate 28 = .ok (.irem, 1) := by decide +kernel
theorem d_Ar_evaluate_29 : decode b_Ar_evaluate 29 = .ok (.istore_n 3, 1) := by decide +kernel
theorem d_Ar_evaluate_30 : decode b_Ar_evaluate 30 = .ok (.iinc 4 (-1), 3) := by decide +kernel
theorem d_Ar_evaluate_33 : decode b_Ar_evaluate 33 = .ok (.goto (-25), 3) := by decide +kernel
theorem d_Ar_evaluate_36 : decode b_Ar_evaluate 36 = .ok (.iload_n 3, 1) := by decide +kernel
theorem d_Ar_evaluate_37 : decode b_Ar_evaluate 37 = .ok (.ireturn, 1) := by decide +kernel
abbrev ws_Ar_evaluate : List Cond := .code y_Ar_evaluate b_Ar_evaluate 5 (Option.some .int) :: TB
abbrev b_Ar_divide : ByteArray := prog_2_method_9_code
theorem d_Ar_divide_0 : decode b_Ar_divide 0 = .ok (.aload_n 3, 1) := by decide +kernel
theorem d_Ar_divide_1 : decode b_Ar_divide 1 = .ok (.invokevirtual 76, 3) := by decide +kernel
theorem d_Ar_divide_4 : decode b_Ar_divide 4 = .ok (.aload_n 2, 1) := by decide +kernel
theorem d_Ar_divide_5 : decode b_Ar_divide 5 = .ok (.getfield 52, 3) := by decide +kernel
theorem d_Ar_divide_8 : decode b_Ar_divide 8 = .ok (.ifCond .ge 4, 3) := by decide +kernel
theorem d_Ar_divide_11 : decode b_Ar_divide 11 = .ok (.return_, 1) := by decide +kernel
theorem d_Ar_divide_12 : decode b_Ar_divide 12 = .ok (.aload_n 0, 1) := by decide +kernel
theorem d_Ar_divide_13 : decode b_Ar_divide 13 = .ok (.getfield 9, 3) := by decide +kernel
theorem d_Ar_divide_16 : decode b_Ar_divide 16 = .ok (.aload_n 2, 1) := by decide +kernel
theorem d_Ar_divide_17 : decode b_Ar_divide 17 = .ok (.invokevirtual 68, 3) := by decide +kernel
theorem d_Ar_divide_20 : decode b_Ar_divide 20 = .ok (.iaload, 1) := by decide +kernel
theorem d_Ar_divide_21 : decode b_Ar_divide 21 = .ok (.istore 4, 2) := by decide +kernel
theorem d_Ar_divide_23 : decode b_Ar_divide 23 = .ok (.aload_n 1, 1) := by decide +kernel
theorem d_Ar_divide_24 : decode b_Ar_divide 24 = .ok (.getfield 52, 3) := by decide +kernel
theorem d_Ar_divide_27 : decode b_Ar_divide 27 = .ok (.aload_n 2, 1) := by decide +kernel
theorem d_Ar_divide_28 : decode b_Ar_divide 28 = .ok (.getfield 52, 3) := by decide +kernel
theorem d_Ar_divide_31 : decode b_Ar_divide 31 = .ok (.isub, 1) := by decide +kernel
theorem d_Ar_divide_32 : decode b_Ar_divide 32 = .ok (.istore 5, 2) := by decide +kernel
theorem d_Ar_divide_34 : decode b_Ar_divide 34 = .ok (.iload 5, 2) := by decide +kernel
theorem d_Ar_divide_36 : decode b_Ar_divide 36 = .ok (.ifCond .lt 59, 3) := by decide +kernel
theorem d_Ar_divide_39 : decode b_Ar_divide 39 = .ok (.aload_n 1, 1) := by decide +kernel
theorem d_Ar_divide_40 : decode b_Ar_divide 40 = .ok (.getfield 55, 3) := by decide +kernel
theorem d_Ar_divide_43 : decode b_Ar_divide 43 = .ok (.iload 5, 2) := by decide +kernel
theorem d_Ar_divide_45 : decode b_Ar_divide 45 = .ok (.aload_n 2, 1) := by decide +kernel
theorem d_Ar_divide_46 : decode b_Ar_divide 46 = .ok (.getfield 52, 3) := by decide +kernel
theorem d_Ar_divide_49 : decode b_Ar_divide 49 = .ok (.iadd, 1) := by decide +kernel
theorem d_Ar_divide_50 : decode b_Ar_divide 50 = .ok (.iaload, 1) := by decide +kernel
theorem d_Ar_divide_51 : decode b_Ar_divide 51 = .ok (.iload 4, 2) := by decide +kernel
theorem d_Ar_divide_53 : decode b_Ar_divide 53 = .ok (.imul, 1) := by decide +kernel
theorem d_Ar_divide_54 : decode b_Ar_divide 54 = .ok (.aload_n 0, 1) := by decide +kernel
theorem d_Ar_divide_55 : decode b_Ar_divide 55 = .ok (.getfield 48, 3) := by decide +kernel
theorem d_Ar_divide_58 : decode b_Ar_divide 58 = .ok (.irem, 1) := by decide +kernel
theorem d_Ar_divide_59 : decode b_Ar_divide 59 = .ok (.istore 6, 2) := by decide +kernel
theorem d_Ar_divide_61 : decode b_Ar_divide 61 = .ok (.iload 6, 2) := by decide +kernel
theorem d_Ar_divide_63 : decode b_Ar_divide 63 = .ok (.ifCond .eq 26, 3) := by decide +kernel
theorem d_Ar_divide_66 : decode b_Ar_divide 66 = .ok (.aload_n 3, 1) := by decide +kernel
theorem d_Ar_divide_67 : decode b_Ar_divide 67 = .ok (.iload 5, 2) := by decide +kernel
theorem d_Ar_divide_69 : decode b_Ar_divide 69 = .ok (.iload 6, 2) := by decide +kernel
theorem d_Ar_divide_71 : decode b_Ar_divide 71 = .ok (.invokevirtual 79, 3) := by decide +kernel
theorem d_Ar_divide_74 : decode b_Ar_divide 74 = .ok (.aload_n 0, 1) := by decide +kernel
theorem d_Ar_divide_75 : decode b_Ar_divide 75 = .ok (.aload_n 1, 1) := by decide +kernel
theorem d_Ar_divide_76 : decode b_Ar_divide 76 = .ok (.aload_n 0, 1) := by decide +kernel
theorem d_Ar_divide_77 : decode b_Ar_divide 77 = .ok (.getfield 48, 3) := by decide +kernel
theorem d_Ar_divide_80 : decode b_Ar_divide 80 = .ok (.iload 6, 2) := by decide +kernel
theorem d_Ar_divide_82 : decode b_Ar_divide 82 = .ok (.isub, 1) := by decide +kernel
theorem d_Ar_divide_83 : decode b_Ar_divide 83 = .ok (.iload 5, 2) := by decide +kernel
theorem d_Ar_divide_85 : decode b_Ar_divide 85 = .ok (.aload_n 2, 1) := by decide +kernel
theorem d_Ar_divide_86 : decode b_Ar_divide 86 = .ok (.invokevirtual 64, 3) := by decide +kernel
theorem d_Ar_divide_89 : decode b_Ar_divide 89 = .ok (.iinc 5 (-1), 3) := by decide +kernel
theorem d_Ar_divide_92 : decode b_Ar_divide 92 = .ok (.goto (-58), 3) := by decide +kernel
theorem d_Ar_divide_95 : decode b_Ar_divide 95 = .ok (.return_, 1) := by decide +kernel
abbrev ws_Ar_divide : List Cond := .code y_Ar_divide b_Ar_divide 7 none :: TB
abbrev b_Ar_findCommonDivisor : ByteArray := prog_2_method_10_code
theorem d_Ar_findCommonDivisor_0 : decode b_Ar_findCommonDivisor 0 = .ok (.aload_n 0, 1) := by decide +kernel
theorem d_Ar_findCommonDivisor_1 : decode b_Ar_findCommonDivisor 1 = .ok (.getfield 27, 3) := by decide +kernel
theorem d_Ar_findCommonDivisor_4 : decode b_Ar_findCommonDivisor 4 = .ok (.astore 4, 2) := by decide +kernel
theorem d_Ar_findCommonDivisor_6 : decode b_Ar_findCommonDivisor 6 = .ok (.aload_n 0, 1) := by decide +kernel
theorem d_Ar_findCommonDivisor_7 : decode b_Ar_findCommonDivisor 7 = .ok (.getfield 30, 3) := by decide +kernel
theorem d_Ar_findCommonDivisor_10 : decode b_Ar_findCommonDivisor 10 = .ok (.astore 5, 2) := by decide +kernel
theorem d_Ar_findCommonDivisor_12 : decode b_Ar_findCommonDivisor 12 = .ok (.aload 4, 2) := by decide +kernel
theorem d_Ar_findCommonDivisor_14 : decode b_Ar_findCommonDivisor 14 = .ok (.aload_n 2, 1) := by decide +kernel
theorem d_Ar_findCommonDivisor_15 : decode b_Ar_findCommonDivisor 15 = .ok (.invokevirtual 83, 3) := by decide +kernel
theorem d_Ar_findCommonDivisor_18 : decode b_Ar_findCommonDivisor 18 = .ok (.aload 5, 2) := by decide +kernel
theorem d_Ar_findCommonDivisor_20 : decode b_Ar_findCommonDivisor 20 = .ok (.aload_n 3, 1) := by decide +kernel
theorem d_Ar_findCommonDivisor_21 : decode b_Ar_findCommonDivisor 21 = .ok (.invokevirtual 83, 3) := by decide +kernel
theorem d_Ar_findCommonDivisor_24 : decode b_Ar_findCommonDivisor 24 = .ok (.iconst 0, 1) := by decide +kernel
theorem d_Ar_findCommonDivisor_25 : decode b_Ar_findCommonDivisor 25 = .ok (.istore 6, 2) := by decide +kernel
theorem d_Ar_findCommonDivisor_27 : decode b_Ar_findCommonDivisor 27 = .ok (.iload 6, 2) := by decide +kernel
theorem d_Ar_findCommonDivisor_29 : decode b_Ar_findCommonDivisor 29 = .ok (.bipush 25, 2) := by decide +kernel
theorem d_Ar_findCommonDivisor_31 : decode b_Ar_findCommonDivisor 31 = .ok (.if_icmp .gt 41, 3) := by decide +kernel
theorem d_Ar_findCommonDivisor_34 : decode b_Ar_findCommonDivisor 34 = .ok (.aload 5, 2) := by decide +kernel
theorem d_Ar_findCommonDivisor_36 : decode b_Ar_findCommonDivisor 36 = .ok (.getfield 52, 3) := by decide +kernel
theorem d_Ar_findCommonDivisor_39 : decode b_Ar_findCommonDivisor 39 = .ok (.ifCond .lt 33, 3) := by decide +kernel
theorem d_Ar_findCommonDivisor_42 : decode b_Ar_findCommonDivisor 42 = .ok (.aload_n 0, 1) := by decide +kernel
theorem d_Ar_findCommonDivisor_43 : decode b_Ar_findCommonDivisor 43 = .ok (.aload 4, 2) := by decide +kernel
theorem d_Ar_findCommonDivisor_45 : decode b_Ar_findCommonDivisor 45 = .ok (.aload 5, 2) := by decide +kernel
theorem d_Ar_findCommonDivisor_47 : decode b_Ar_findCommonDivisor 47 = .ok (.aload_n 0, 1) := by decide +kernel
theorem d_Ar_findCommonDivisor_48 : decode b_Ar_findCommonDivisor 48 = .ok (.getfield 20, 3) := by decide +kernel
theorem d_Ar_findCommonDivisor_51 : decode b_Ar_findCommonDivisor 51 = .ok (.invokevirtual 87, 3) := by decide +kernel
theorem d_Ar_findCommonDivisor_54 : decode b_Ar_findCommonDivisor 54 = .ok (.aload 4, 2) := by decide +kernel
theorem d_Ar_findCommonDivisor_56 : decode b_Ar_findCommonDivisor 56 = .ok (.astore 7, 2) := by decide +kernel
theorem d_Ar_findCommonDivisor_58 : decode b_Ar_findCommonDivisor 58 = .ok (.aload 5, 2) := by decide +kernel
theorem d_Ar_findCommonDivisor_60 : decode b_Ar_findCommonDivisor 60 = .ok (.astore 4, 2) := by decide +kernel
theorem d_Ar_findCommonDivisor_62 : decode b_Ar_findCommonDivisor 62 = .ok (.aload 7, 2) := by decide +kernel
theorem d_Ar_findCommonDivisor_64 : decode b_Ar_findCommonDivisor 64 = .ok (.astore 5, 2) := by decide +kernel
theorem d_Ar_findCommonDivisor_66 : decode b_Ar_findCommonDivisor 66 = .ok (.iinc 6 1, 3) := by decide +kernel
theorem d_Ar_findCommonDivisor_69 : decode b_Ar_findCommonDivisor 69 = .ok (.goto (-42), 3) := by decide +kernel
theorem d_Ar_findCommonDivisor_72 : decode b_Ar_findCommonDivisor 72 = .ok (.aload_n 1, 1) := by decide +kernel
theorem d_Ar_findCommonDivisor_73 : decode b_Ar_findCommonDivisor 73 = .ok (.aload 4, 2) := by decide +kernel
theorem d_Ar_findCommonDivisor_75 : decode b_Ar_findCommonDivisor 75 = .ok (.invokevirtual 83, 3) := by decide +kernel
theorem d_Ar_findCommonDivisor_78 : decode b_Ar_findCommonDivisor 78 = .ok (.aload_n 0, 1) := by decide +kernel
theorem d_Ar_findCommonDivisor_79 : decode b_Ar_findCommonDivisor 79 = .ok (.aload_n 1, 1) := by decide +kernel
theorem d_Ar_findCommonDivisor_80 : decode b_Ar_findCommonDivisor 80 = .ok (.invokevirtual 91, 3) := by decide +kernel
theorem d_Ar_findCommonDivisor_83 : decode b_Ar_findCommonDivisor 83 = .ok (.return_, 1) := by decide +kernel
abbrev ws_Ar_findCommonDivisor : List Cond := .code y_Ar_findCommonDivisor b_Ar_findCommonDivisor 8 none :: TB
abbrev b_Ar_multiply : ByteArray := prog_2_method_11_code
theorem d_Ar_multiply_0 : decode b_Ar_multiply 0 = .ok (.aload_n 0, 1) := by decide +kernel
theorem d_Ar_multiply_1 : decode b_Ar_multiply 1 = .ok (.getfield 24, 3) := by decide +kernel
theorem d_Ar_multiply_4 : decode b_Ar_multiply 4 = .ok (.invokevirtual 76, 3) := by decide +kernel
theorem d_Ar_multiply_7 : decode b_Ar_multiply 7 = .ok (.aload_n 0, 1) := by decide +kernel
theorem d_Ar_multiply_8 : decode b_Ar_multiply 8 = .ok (.aload_n 0, 1) := by decide +kernel
theorem d_Ar_multiply_9 : decode b_Ar_multiply 9 = .ok (.getfield 24, 3) := by decide +kernel
theorem d_Ar_multiply_12 : decode b_Ar_multiply 12 = .ok (.iconst 1, 1) := by decide +kernel
theorem d_Ar_multiply_13 : decode b_Ar_multiply 13 = .ok (.aload_n 2, 1) := by decide +kernel
theorem d_Ar_multiply_14 : decode b_Ar_multiply 14 = .ok (.aload_n 3, 1) := by decide +kernel
theorem d_Ar_multiply_15 : decode b_Ar_multiply 15 = .ok (.invokevirtual 94, 3) := by decide +kernel
theorem d_Ar_multiply_18 : decode b_Ar_multiply 18 = .ok (.aload_n 0, 1) := by decide +kernel
theorem d_Ar_multiply_19 : decode b_Ar_multiply 19 = .ok (.aload_n 0, 1) := by decide +kernel
theorem d_Ar_multiply_20 : decode b_Ar_multiply 20 = .ok (.getfield 24, 3) := by decide +kernel
theorem d_Ar_multiply_23 : decode b_Ar_multiply 23 = .ok (.aload 4, 2) := by decide +kernel
theorem d_Ar_multiply_25 : decode b_Ar_multiply 25 = .ok (.aload_n 0, 1) := by decide +kernel
theorem d_Ar_multiply_26 : decode b_Ar_multiply 26 = .ok (.getfield 20, 3) := by decide +kernel
theorem d_Ar_multiply_29 : decode b_Ar_multiply 29 = .ok (.invokevirtual 87, 3) := by decide +kernel
theorem d_Ar_multiply_32 : decode b_Ar_multiply 32 = .ok (.aload_n 1, 1) := by decide +kernel
theorem d_Ar_multiply_33 : decode b_Ar_multiply 33 = .ok (.aload_n 0, 1) := by decide +kernel
theorem d_Ar_multiply_34 : decode b_Ar_multiply 34 = .ok (.getfield 24, 3) := by decide +kernel
theorem d_Ar_multiply_37 : decode b_Ar_multiply 37 = .ok (.invokevirtual 83, 3) := by decide +kernel
theorem d_Ar_multiply_40 : decode b_Ar_multiply 40 = .ok (.return_, 1) := by decide +kernel
abbrev ws_Ar_multiply : List Cond := .code y_Ar_multiply b_Ar_multiply 5 none :: TB
abbrev b_Ar_raiseToP : ByteArray := prog_2_method_12_code
theorem d_Ar_raiseToP_0 : decode b_Ar_raiseToP 0 = .ok (.aload_n 0, 1) := by decide +kernel
theorem d_Ar_raiseToP_1 : decode b_Ar_raiseToP 1 = .ok (.getfield 24, 3) := by decide +kernel
theorem d_Ar_raiseToP_4 : decode b_Ar_raiseToP 4 = .ok (.invokevirtual 76, 3) := by decide +kernel
theorem d_Ar_raiseToP_7 : decode b_Ar_raiseToP 7 = .ok (.iconst 0, 1) := by decide +kernel
theorem d_Ar_raiseToP_8 : decode b_Ar_raiseToP 8 = .ok (.istore_n 3, 1) := by decide +kernel
theorem d_Ar_raiseToP_9 : decode b_Ar_raiseToP 9 = .ok (.iload_n 3, 1) := by decide +kernel
theorem d_Ar_raiseToP_10 : decode b_Ar_raiseToP 10 = .ok (.aload_n 1, 1) := by decide +kernel
theorem d_Ar_raiseToP_11 : decode b_Ar_raiseToP 11 = .ok (.getfield 52, 3) := by decide +kernel
theorem d_Ar_raiseToP_14 : decode b_Ar_raiseToP 14 = .ok (.if_icmp .gt 37, 3) := by decide +kernel
theorem d_Ar_raiseToP_17 : decode b_Ar_raiseToP 17 = .ok (.aload_n 1, 1) := by decide +kernel
theorem d_Ar_raiseToP_18 : decode b_Ar_raiseToP 18 = .ok (.getfield 55, 3) := by decide +kernel
theorem d_Ar_raiseToP_21 : decode b_Ar_raiseToP 21 = .ok (.iload_n 3, 1) := by decide +kernel
theorem d_Ar_raiseToP_22 : decode b_Ar_raiseToP 22 = .ok (.iaload, 1) := by decide +kernel
theorem d_Ar_raiseToP_23 : decode b_Ar_raiseToP 23 = .ok (.ifCond .eq 22, 3) := by decide +kernel
theorem d_Ar_raiseToP_26 : decode b_Ar_raiseToP 26 = .ok (.aload_n 0, 1) := by decide +kernel
theorem d_Ar_raiseToP_27 : decode b_Ar_raiseToP 27 = .ok (.getfield 24, 3) := by decide +kernel
theorem d_Ar_raiseToP_30 : decode b_Ar_raiseToP 30 = .ok (.iload_n 3, 1) := by decide +kernel
theorem d_Ar_raiseToP_31 : decode b_Ar_raiseToP 31 = .ok (.aload_n 0, 1) := by decide +kernel
theorem d_Ar_raiseToP_32 : decode b_Ar_raiseToP 32 = .ok (.getfield 48, 3) := by decide +kernel
theorem d_Ar_raiseToP_35 : decode b_Ar_raiseToP 35 = .ok (.imul, 1) := by decide +kernel
theorem d_Ar_raiseToP_36 : decode b_Ar_raiseToP 36 = .ok (.aload_n 1, 1) := by decide +kernel
theorem d_Ar_raiseToP_37 : decode b_Ar_raiseToP 37 = .ok (.getfield 55, 3) := by decide +kernel
theorem d_Ar_raiseToP_40 : decode b_Ar_raiseToP 40 = .ok (.iload_n 3, 1) := by decide +kernel
theorem d_Ar_raiseToP_41 : decode b_Ar_raiseToP 41 = .ok (.iaload, 1) := by decide +kernel
theorem d_Ar_raiseToP_42 : decode b_Ar_raiseToP 42 = .ok (.invokevirtual 79, 3) := by decide +kernel
theorem d_Ar_raiseToP_45 : decode b_Ar_raiseToP 45 = .ok (.iinc 3 1, 3) := by decide +kernel
theorem d_Ar_raiseToP_48 : decode b_Ar_raiseToP 48 = .ok (.goto (-39), 3) := by decide +kernel
theorem d_Ar_raiseToP_51 : decode b_Ar_raiseToP 51 = .ok (.aload_n 0, 1) := by decide +kernel
theorem d_Ar_raiseToP_52 : decode b_Ar_raiseToP 52 = .ok (.aload_n 0, 1) := by decide +kernel
theorem d_Ar_raiseToP_53 : decode b_Ar_raiseToP 53 = .ok (.getfield 24, 3) := by decide +kernel
theorem d_Ar_raiseToP_56 : decode b_Ar_raiseToP 56 = .ok (.aload_n 2, 1) := by decide +kernel
theorem d_Ar_raiseToP_57 : decode b_Ar_raiseToP 57 = .ok (.aload_n 0, 1) := by decide +kernel
theorem d_Ar_raiseToP_58 : decode b_Ar_raiseToP 58 = .ok (.getfield 20, 3) := by decide +kernel
theorem d_Ar_raiseToP_61 : decode b_Ar_raiseToP 61 = .ok (.invokevirtual 87, 3) := by decide +kernel
theorem d_Ar_raiseToP_64 : decode b_Ar_raiseToP 64 = .ok (.aload_n 1, 1) := by decide +kernel
theorem d_Ar_raiseToP_65 : decode b_Ar_raiseToP 65 = .ok (.aload_n 0, 1) := by decide +kernel
theorem d_Ar_raiseToP_66 : decode b_Ar_raiseToP 66 = .ok (.getfield 24, 3) := by decide +kernel
theorem d_Ar_raiseToP_69 : decode b_Ar_raiseToP 69 = .ok (.invokevirtual 83, 3) := by decide +kernel
theorem d_Ar_raiseToP_72 : decode b_Ar_raiseToP 72 = .ok (.return_, 1) := by decide +kernel
abbrev ws_Ar_raiseToP : List Cond := .code y_Ar_raiseToP b_Ar_raiseToP 4 none :: TB
abbrev b_Ar_raise : ByteArray := prog_2_method_13_code
theorem d_Ar_raise_0 : decode b_Ar_raise 0 = .ok (.aload_n 0, 1) := by decide +kernel
theorem d_Ar_raise_1 : decode b_Ar_raise 1 = .ok (.getfield 27, 3) := by decide +kernel
theorem d_Ar_raise_4 : decode b_Ar_raise 4 = .ok (.astore 5, 2) := by decide +kernel
theorem d_Ar_raise_6 : decode b_Ar_raise 6 = .ok (.aload 5, 2) := by decide +kernel
theorem d_Ar_raise_8 : decode b_Ar_raise 8 = .ok (.aload_n 2, 1) := by decide +kernel
theorem d_Ar_raise_9 : decode b_Ar_raise 9 = .ok (.invokevirtual 83, 3) := by decide +kernel
theorem d_Ar_raise_12 : decode b_Ar_raise 12 = .ok (.aload_n 1, 1) := by decide +kernel
theorem d_Ar_raise_13 : decode b_Ar_raise 13 = .ok (.iconst 0, 1) := by decide +kernel
theorem d_Ar_raise_14 : decode b_Ar_raise 14 = .ok (.invokevirtual 98, 3) := by decide +kernel
theorem d_Ar_raise_17 : decode b_Ar_raise 17 = .ok (.iload_n 3, 1) := by decide +kernel
theorem d_Ar_raise_18 : decode b_Ar_raise 18 = .ok (.istore 6, 2) := by decide +kernel
theorem d_Ar_raise_20 : decode b_Ar_raise 20 = .ok (.iload 6, 2) := by decide +kernel
theorem d_Ar_raise_22 : decode b_Ar_raise 22 = .ok (.ifCond .le 42, 3) := by decide +kernel
theorem d_Ar_raise_25 : decode b_Ar_raise 25 = .ok (.iload 6, 2) := by decide +kernel
theorem d_Ar_raise_27 : decode b_Ar_raise 27 = .ok (.iconst 1, 1) := by decide +kernel
theorem d_Ar_raise_28 : decode b_Ar_raise 28 = .ok (.iand, 1) := by decide +kernel
theorem d_Ar_raise_29 : decode b_Ar_raise 29 = .ok (.iconst 1, 1) := by decide +kernel
theorem d_Ar_raise_30 : decode b_Ar_raise 30 = .ok (.if_icmp .ne 13, 3) := by decide +kernel
theorem d_Ar_raise_33 : decode b_Ar_raise 33 = .ok (.aload_n 0, 1) := by decide +kernel
theorem d_Ar_raise_34 : decode b_Ar_raise 34 = .ok (.aload_n 1, 1) := by decide +kernel
theorem d_Ar_raise_35 : decode b_Ar_raise 35 = .ok (.aload_n 1, 1) := by decide +kernel
theorem d_Ar_raise_36 : decode b_Ar_raise 36 = .ok (.aload 5, 2) := by decide +kernel
theorem d_Ar_raise_38 : decode b_Ar_raise 38 = .ok (.aload 4, 2) := by decide +kernel
theorem d_Ar_raise_40 : decode b_Ar_raise 40 = .ok (.invokevirtual 101, 3) := by decide +kernel
theorem d_Ar_raise_43 : decode b_Ar_raise 43 = .ok (.aload_n 0, 1) := by decide +kernel
theorem d_Ar_raise_44 : decode b_Ar_raise 44 = .ok (.aload 5, 2) := by decide +kernel
theorem d_Ar_raise_46 : decode b_Ar_raise 46 = .ok (.aload 5, 2) := by decide +kernel
theorem d_Ar_raise_48 : decode b_Ar_raise 48 = .ok (.aload 5, 2) := by decide +kernel
theorem d_Ar_raise_50 : decode b_Ar_raise 50 = .ok (.aload 4, 2) := by decide +kernel
theorem d_Ar_raise_52 : decode b_Ar_raise 52 = .ok (.invokevirtual 101, 3) := by decide +kernel
theorem d_Ar_raise_55 : decode b_Ar_raise 55 = .ok (.iload 6, 2) := by decide +kernel
theorem d_Ar_raise_57 : decode b_Ar_raise 57 = .ok (.iconst 1, 1) := by decide +kernel
theorem d_Ar_raise_58 : decode b_Ar_raise 58 = .ok (.ishr, 1) := by decide +kernel
theorem d_Ar_raise_59 : decode b_Ar_raise 59 = .ok (.istore 6, 2) := by decide +kernel
theorem d_Ar_raise_61 : decode b_Ar_raise 61 = .ok (.goto (-41), 3) := by decide +kernel
theorem d_Ar_raise_64 : decode b_Ar_raise 64 = .ok (.return_, 1) := by decide +kernel
abbrev ws_Ar_raise : List Cond := .code y_Ar_raise b_Ar_raise 7 none :: TB
abbrev b_Ar_invert : ByteArray := prog_2_method_14_code
theorem d_Ar_invert_0 : decode b_Ar_invert 0 = .ok (.aload_n 0, 1) := by decide +kernel
theorem d_Ar_invert_1 : decode b_Ar_invert 1 = .ok (.getfield 27, 3) := by decide +kernel
theorem d_Ar_invert_4 : decode b_Ar_invert 4 = .ok (.astore 4, 2) := by decide +kernel
theorem d_Ar_invert_6 : decode b_Ar_invert 6 = .ok (.aload_n 0, 1) := by decide +kernel
theorem d_Ar_invert_7 : decode b_Ar_invert 7 = .ok (.getfield 30, 3) := by decide +kernel
theorem d_Ar_invert_10 : decode b_Ar_invert 10 = .ok (.astore 5, 2) := by decide +kernel
theorem d_Ar_invert_12 : decode b_Ar_invert 12 = .ok (.aload_n 0, 1) := by decide +kernel
theorem d_Ar_invert_13 : decode b_Ar_invert 13 = .ok (.getfield 33, 3) := by decide +kernel
theorem d_Ar_invert_16 : decode b_Ar_invert 16 = .ok (.astore 6, 2) := by decide +kernel
theorem d_Ar_invert_18 : decode b_Ar_invert 18 = .ok (.aload_n 0, 1) := by decide +kernel
theorem d_Ar_invert_19 : decode b_Ar_invert 19 = .ok (.getfield 36, 3) := by decide +kernel
theorem d_Ar_invert_22 : decode b_Ar_invert 22 = .ok (.astore 7, 2) := by decide +kernel
theorem d_Ar_invert_24 : decode b_Ar_invert 24 = .ok (.aload 4, 2) := by decide +kernel
theorem d_Ar_invert_26 : decode b_Ar_invert 26 = .ok (.aload_n 3, 1) := by decide +kernel
theorem d_Ar_invert_27 : decode b_Ar_invert 27 = .ok (.invokevirtual 83, 3) := by decide +kernel
theorem d_Ar_invert_30 : decode b_Ar_invert 30 = .ok (.aload 5, 2) := by decide +kernel
theorem d_Ar_invert_32 : decode b_Ar_invert 32 = .ok (.aload_n 2, 1) := by decide +kernel
theorem d_Ar_invert_33 : decode b_Ar_invert 33 = .ok (.invokevirtual 83, 3) := by decide +kernel
theorem d_Ar_invert_36 : decode b_Ar_invert 36 = .ok (.aload_n 0, 1) := by decide +kernel
theorem d_Ar_invert_37 : decode b_Ar_invert 37 = .ok (.aload 5, 2) := by decide +kernel
theorem d_Ar_invert_39 : decode b_Ar_invert 39 = .ok (.aload_n 3, 1) := by decide +kernel
theorem d_Ar_invert_40 : decode b_Ar_invert 40 = .ok (.aload_n 0, 1) := by decide +kernel
theorem d_Ar_invert_41 : decode b_Ar_invert 41 = .ok (.getfield 20, 3) := by decide +kernel
theorem d_Ar_invert_44 : decode b_Ar_invert 44 = .ok (.invokevirtual 87, 3) := by decide +kernel
theorem d_Ar_invert_47 : decode b_Ar_invert 47 = .ok (.aload 6, 2) := by decide +kernel
theorem d_Ar_invert_49 : decode b_Ar_invert 49 = .ok (.invokevirtual 76, 3) := by decide +kernel
theorem d_Ar_invert_52 : decode b_Ar_invert 52 = .ok (.aload 7, 2) := by decide +kernel
theorem d_Ar_invert_54 : decode b_Ar_invert 54 = .ok (.iconst 0, 1) := by decide +kernel
theorem d_Ar_invert_55 : decode b_Ar_invert 55 = .ok (.invokevirtual 98, 3) := by decide +kernel
theorem d_Ar_invert_58 : decode b_Ar_invert 58 = .ok (.iconst 0, 1) := by decide +kernel
theorem d_Ar_invert_59 : decode b_Ar_invert 59 = .ok (.istore 8, 2) := by decide +kernel
theorem d_Ar_invert_61 : decode b_Ar_invert 61 = .ok (.iload 8, 2) := by decide +kernel
theorem d_Ar_invert_63 : decode b_Ar_invert 63 = .ok (.bipush 25, 2) := by decide +kernel
theorem d_Ar_invert_65 : decode b_Ar_invert 65 = .ok (.if_icmp .gt 71, 3) := by decide +kernel
theorem d_Ar_invert_68 : decode b_Ar_invert 68 = .ok (.aload 5, 2) := by decide +kernel
theorem d_Ar_invert_70 : decode b_Ar_invert 70 = .ok (.getfield 52, 3) := by decide +kernel
theorem d_Ar_invert_73 : decode b_Ar_invert 73 = .ok (.ifCond .le 63, 3) := by decide +kernel
theorem d_Ar_invert_76 : decode b_Ar_invert 76 = .ok (.aload_n 0, 1) := by decide +kernel
theorem d_Ar_invert_77 : decode b_Ar_invert 77 = .ok (.aload 4, 2) := by decide +kernel
theorem d_Ar_invert_79 : decode b_Ar_invert 79 = .ok (.aload 5, 2) := by decide +kernel
theorem d_Ar_invert_81 : decode b_Ar_invert 81 = .ok (.aload_n 0, 1) := by decide +kernel
theorem d_Ar_invert_82 : decode b_Ar_invert 82 = .ok (.getfield 39, 3) := by decide +kernel
theorem d_Ar_invert_85 : decode b_Ar_invert 85 = .ok (.invokevirtual 87, 3) := by decide +kernel
theorem d_Ar_invert_88 : decode b_Ar_invert 88 = .ok (.aload_n 0, 1) := by decide +kernel
theorem d_Ar_invert_89 : decode b_Ar_invert 89 = .ok (.aload 6, 2) := by decide +kernel
theorem d_Ar_invert_91 : decode b_Ar_invert 91 = .ok (.aload_n 0, 1) := by decide +kernel
theorem d_Ar_invert_92 : decode b_Ar_invert 92 = .ok (.getfield 48, 3) := by decide +kernel
theorem d_Ar_invert_95 : decode b_Ar_invert 95 = .ok (.iconst 1, 1) := by decide +kernel
theorem d_Ar_invert_96 : decode b_Ar_invert 96 = .ok (.isub, 1) := by decide +kernel
theorem d_Ar_invert_97 : decode b_Ar_invert 97 = .ok (.aload_n 0, 1) := by decide +kernel
theorem d_Ar_invert_98 : decode b_Ar_invert 98 = .ok (.getfield 39, 3) := by decide +kernel
theorem d_Ar_invert_101 : decode b_Ar_invert 101 = .ok (.aload 7, 2) := by decide +kernel
theorem d_Ar_invert_103 : decode b_Ar_invert 103 = .ok (.invokevirtual 94, 3) := by decide +kernel
theorem d_Ar_invert_106 : decode b_Ar_invert 106 = .ok (.aload 4, 2) := by decide +kernel
theorem d_Ar_invert_108 : decode b_Ar_invert 108 = .ok (.astore 9, 2) := by decide +kernel
theorem d_Ar_invert_110 : decode b_Ar_invert 110 = .ok (.aload 5, 2) := by decide +kernel
theorem d_Ar_invert_112 : decode b_Ar_invert 112 = .ok (.astore 4, 2) := by decide +kernel
theorem d_Ar_invert_114 : decode b_Ar_invert 114 = .ok (.aload 9, 2) := by decide +kernel
theorem d_Ar_invert_116 : decode b_Ar_invert 116 = .ok (.astore 5, 2) := by decide +kernel
theorem d_Ar_invert_118 : decode b_Ar_invert 118 = .ok (.aload 6, 2) := by decide +kernel
theorem d_Ar_invert_120 : decode b_Ar_invert 120 = .ok (.astore 10, 2) := by decide +kernel
theorem d_Ar_invert_122 : decode b_Ar_invert 122 = .ok (.aload 7, 2) := by decide +kernel
theorem d_Ar_invert_124 : decode b_Ar_invert 124 = .ok (.astore 6, 2) := by decide +kernel
theorem d_Ar_invert_126 : decode b_Ar_invert 126 = .ok (.aload 10, 2) := by decide +kernel
theorem d_Ar_invert_128 : decode b_Ar_invert 128 = .ok (.astore 7, 2) := by decide +kernel
theorem d_Ar_invert_130 : decode b_Ar_invert 130 = .ok (.iinc 8 1, 3) := by decide +kernel
theorem d_Ar_invert_133 : decode b_Ar_invert 133 = .ok (.goto (-72), 3) := by decide +kernel
theorem d_Ar_invert_136 : decode b_Ar_invert 136 = .ok (.aload 5, 2) := by decide +kernel
theorem d_Ar_invert_138 : decode b_Ar_invert 138 = .ok (.getfield 52, 3) := by decide +kernel
theorem d_Ar_invert_141 : decode b_Ar_invert 141 = .ok (.ifCond .ge 5, 3) := by decide +kernel
theorem d_Ar_invert_144 : decode b_Ar_invert 144 = .ok (.iconst 0, 1) := by decide +kernel
theorem d_Ar_invert_145 : decode b_Ar_invert 145 = .ok (.ireturn, 1) := by decide +kernel
theorem d_Ar_invert_146 : decode b_Ar_invert 146 = .ok (.aload_n 1, 1) := by decide +kernel
theorem d_Ar_invert_147 : decode b_Ar_invert 147 = .ok (.aload 7, 2) := by decide +kernel
theorem d_Ar_invert_149 : decode b_Ar_invert 149 = .ok (.invokevirtual 83, 3) := by decide +kernel
theorem d_Ar_invert_152 : decode b_Ar_invert 152 = .ok (.aload_n 0, 1) := by decide +kernel
theorem d_Ar_invert_153 : decode b_Ar_invert 153 = .ok (.aload_n 1, 1) := by decide +kernel
theorem d_Ar_invert_154 : decode b_Ar_invert 154 = .ok (.aload_n 0, 1) := by decide +kernel
theorem d_Ar_invert_155 : decode b_Ar_invert 155 = .ok (.getfield 9, 3) := by decide +kernel
theorem d_Ar_invert_158 : decode b_Ar_invert 158 = .ok (.aload 5, 2) := by decide +kernel
theorem d_Ar_invert_160 : decode b_Ar_invert 160 = .ok (.invokevirtual 68, 3) := by decide +kernel
theorem d_Ar_invert_163 : decode b_Ar_invert 163 = .ok (.iaload, 1) := by decide +kernel
theorem d_Ar_invert_164 : decode b_Ar_invert 164 = .ok (.invokevirtual 72, 3) := by decide +kernel
theorem d_Ar_invert_167 : decode b_Ar_invert 167 = .ok (.iconst 1, 1) := by decide +kernel
theorem d_Ar_invert_168 : decode b_Ar_invert 168 = .ok (.ireturn, 1) := by decide +kernel
abbrev ws_Ar_invert : List Cond := .code y_Ar_invert b_Ar_invert 11 (Option.some .boolean) :: TB
abbrev b_Ar_takeOut : ByteArray := prog_2_method_15_code
theorem d_Ar_takeOut_0 : decode b_Ar_takeOut 0 = .ok (.iconst 0, 1) := by decide +kernel
theorem d_Ar_takeOut_1 : decode b_Ar_takeOut 1 = .ok (.istore_n 3, 1) := by decide +kernel
theorem d_Ar_takeOut_2 : decode b_Ar_takeOut 2 = .ok (.iload_n 3, 1) := by decide +kernel
theorem d_Ar_takeOut_3 : decode b_Ar_takeOut 3 = .ok (.bipush 24, 2) := by decide +kernel
theorem d_Ar_takeOut_5 : decode b_Ar_takeOut 5 = .ok (.if_icmp .ge 50, 3) := by decide +kernel
theorem d_Ar_takeOut_8 : decode b_Ar_takeOut 8 = .ok (.aload_n 0, 1) := by decide +kernel
theorem d_Ar_takeOut_9 : decode b_Ar_takeOut 9 = .ok (.getfield 27, 3) := by decide +kernel
theorem d_Ar_takeOut_12 : decode b_Ar_takeOut 12 = .ok (.aload_n 1, 1) := by decide +kernel
theorem d_Ar_takeOut_13 : decode b_Ar_takeOut 13 = .ok (.invokevirtual 83, 3) := by decide +kernel
theorem d_Ar_takeOut_16 : decode b_Ar_takeOut 16 = .ok (.aload_n 0, 1) := by decide +kernel
theorem d_Ar_takeOut_17 : decode b_Ar_takeOut 17 = .ok (.aload_n 0, 1) := by decide +kernel
theorem d_Ar_takeOut_18 : decode b_Ar_takeOut 18 = .ok (.getfield 27, 3) := by decide +kernel
theorem d_Ar_takeOut_21 : decode b_Ar_takeOut 21 = .ok (.aload_n 2, 1) := by decide +kernel
theorem d_Ar_takeOut_22 : decode b_Ar_takeOut 22 = .ok (.aload_n 0, 1) := by decide +kernel
theorem d_Ar_takeOut_23 : decode b_Ar_takeOut 23 = .ok (.getfield 39, 3) := by decide +kernel
theorem d_Ar_takeOut_26 : decode b_Ar_takeOut 26 = .ok (.invokevirtual 87, 3) := by decide +kernel
theorem d_Ar_takeOut_29 : decode b_Ar_takeOut 29 = .ok (.aload_n 0, 1) := by decide +kernel
theorem d_Ar_takeOut_30 : decode b_Ar_takeOut 30 = .ok (.getfield 27, 3) := by decide +kernel
theorem d_Ar_takeOut_33 : decode b_Ar_takeOut 33 = .ok (.getfield 52, 3) := by decide +kernel
theorem d_Ar_takeOut_36 : decode b_Ar_takeOut 36 = .ok (.ifCond .lt 5, 3) := by decide +kernel
theorem d_Ar_takeOut_39 : decode b_Ar_takeOut 39 = .ok (.iload_n 3, 1) := by decide +kernel
theorem d_Ar_takeOut_40 : decode b_Ar_takeOut 40 = .ok (.ireturn, 1) := by decide +kernel
theorem d_Ar_takeOut_41 : decode b_Ar_takeOut 41 = .ok (.aload_n 1, 1) := by decide +kernel
theorem d_Ar_takeOut_42 : decode b_Ar_takeOut 42 = .ok (.aload_n 0, 1) := by decide +kernel
theorem d_Ar_takeOut_43 : decode b_Ar_takeOut 43 = .ok (.getfield 39, 3) := by decide +kernel
theorem d_Ar_takeOut_46 : decode b_Ar_takeOut 46 = .ok (.invokevirtual 83, 3) := by decide +kernel
theorem d_Ar_takeOut_49 : decode b_Ar_takeOut 49 = .ok (.iinc 3 1, 3) := by decide +kernel
theorem d_Ar_takeOut_52 : decode b_Ar_takeOut 52 = .ok (.goto (-50), 3) := by decide +kernel
theorem d_Ar_takeOut_55 : decode b_Ar_takeOut 55 = .ok (.bipush 24, 2) := by decide +kernel
theorem d_Ar_takeOut_57 : decode b_Ar_takeOut 57 = .ok (.ireturn, 1) := by decide +kernel
abbrev ws_Ar_takeOut : List Cond := .code y_Ar_takeOut b_Ar_takeOut 4 (Option.some .int) :: TB
