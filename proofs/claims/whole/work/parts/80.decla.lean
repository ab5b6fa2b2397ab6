/-! decode rows, by my own program -/
abbrev b_La_field : ByteArray := method_3_code
theorem d_La_field_0 : decode b_La_field 0 = .ok (.aload_n 2, 1) := by decide +kernel
theorem d_La_field_1 : decode b_La_field 1 = .ok (.iconst 0, 1) := by decide +kernel
theorem d_La_field_2 : decode b_La_field 2 = .ok (.aload_n 0, 1) := by decide +kernel
theorem d_La_field_3 : decode b_La_field 3 = .ok (.iload_n 1, 1) := by decide +kernel
theorem d_La_field_4 : decode b_La_field 4 = .ok (.invokevirtual 7, 3) := by decide +kernel
theorem d_La_field_7 : decode b_La_field 7 = .ok (.i2l, 1) := by decide +kernel
theorem d_La_field_8 : decode b_La_field 8 = .ok (.lastore, 1) := by decide +kernel
theorem d_La_field_9 : decode b_La_field 9 = .ok (.goto 6, 3) := by decide +kernel
theorem d_La_field_12 : decode b_La_field 12 = .ok (.astore_n 3, 1) := by decide +kernel
theorem d_La_field_13 : decode b_La_field 13 = .ok (.iconst 1, 1) := by decide +kernel
theorem d_La_field_14 : decode b_La_field 14 = .ok (.ireturn, 1) := by decide +kernel
theorem d_La_field_15 : decode b_La_field 15 = .ok (.iconst 0, 1) := by decide +kernel
theorem d_La_field_16 : decode b_La_field 16 = .ok (.ireturn, 1) := by decide +kernel
abbrev b_La_set : ByteArray := method_4_code
theorem d_La_set_0 : decode b_La_set 0 = .ok (.aload 4, 2) := by decide +kernel
theorem d_La_set_2 : decode b_La_set 2 = .ok (.iconst 0, 1) := by decide +kernel
theorem d_La_set_3 : decode b_La_set 3 = .ok (.aload_n 0, 1) := by decide +kernel
theorem d_La_set_4 : decode b_La_set 4 = .ok (.iload_n 1, 1) := by decide +kernel
theorem d_La_set_5 : decode b_La_set 5 = .ok (.iload_n 2, 1) := by decide +kernel
theorem d_La_set_6 : decode b_La_set 6 = .ok (.iload_n 3, 1) := by decide +kernel
theorem d_La_set_7 : decode b_La_set 7 = .ok (.invokevirtual 15, 3) := by decide +kernel
theorem d_La_set_10 : decode b_La_set 10 = .ok (.i2l, 1) := by decide +kernel
theorem d_La_set_11 : decode b_La_set 11 = .ok (.lastore, 1) := by decide +kernel
theorem d_La_set_12 : decode b_La_set 12 = .ok (.goto 11, 3) := by decide +kernel
theorem d_La_set_15 : decode b_La_set 15 = .ok (.astore 5, 2) := by decide +kernel
theorem d_La_set_17 : decode b_La_set 17 = .ok (.iconst 1, 1) := by decide +kernel
theorem d_La_set_18 : decode b_La_set 18 = .ok (.ireturn, 1) := by decide +kernel
theorem d_La_set_19 : decode b_La_set 19 = .ok (.astore 5, 2) := by decide +kernel
theorem d_La_set_21 : decode b_La_set 21 = .ok (.iconst 2, 1) := by decide +kernel
theorem d_La_set_22 : decode b_La_set 22 = .ok (.ireturn, 1) := by decide +kernel
theorem d_La_set_23 : decode b_La_set 23 = .ok (.iconst 0, 1) := by decide +kernel
theorem d_La_set_24 : decode b_La_set 24 = .ok (.ireturn, 1) := by decide +kernel
abbrev b_La_get : ByteArray := method_5_code
theorem d_La_get_0 : decode b_La_get 0 = .ok (.aload_n 3, 1) := by decide +kernel
theorem d_La_get_1 : decode b_La_get 1 = .ok (.iconst 0, 1) := by decide +kernel
theorem d_La_get_2 : decode b_La_get 2 = .ok (.aload_n 0, 1) := by decide +kernel
theorem d_La_get_3 : decode b_La_get 3 = .ok (.iload_n 1, 1) := by decide +kernel
theorem d_La_get_4 : decode b_La_get 4 = .ok (.iload_n 2, 1) := by decide +kernel
theorem d_La_get_5 : decode b_La_get 5 = .ok (.invokevirtual 21, 3) := by decide +kernel
theorem d_La_get_8 : decode b_La_get 8 = .ok (.i2l, 1) := by decide +kernel
theorem d_La_get_9 : decode b_La_get 9 = .ok (.lastore, 1) := by decide +kernel
theorem d_La_get_10 : decode b_La_get 10 = .ok (.goto 11, 3) := by decide +kernel
theorem d_La_get_13 : decode b_La_get 13 = .ok (.astore 4, 2) := by decide +kernel
theorem d_La_get_15 : decode b_La_get 15 = .ok (.iconst 1, 1) := by decide +kernel
theorem d_La_get_16 : decode b_La_get 16 = .ok (.ireturn, 1) := by decide +kernel
theorem d_La_get_17 : decode b_La_get 17 = .ok (.astore 4, 2) := by decide +kernel
theorem d_La_get_19 : decode b_La_get 19 = .ok (.iconst 2, 1) := by decide +kernel
theorem d_La_get_20 : decode b_La_get 20 = .ok (.ireturn, 1) := by decide +kernel
theorem d_La_get_21 : decode b_La_get 21 = .ok (.iconst 0, 1) := by decide +kernel
theorem d_La_get_22 : decode b_La_get 22 = .ok (.ireturn, 1) := by decide +kernel
abbrev b_La_join : ByteArray := method_6_code
theorem d_La_join_0 : decode b_La_join 0 = .ok (.aload 5, 2) := by decide +kernel
theorem d_La_join_2 : decode b_La_join 2 = .ok (.iconst 0, 1) := by decide +kernel
theorem d_La_join_3 : decode b_La_join 3 = .ok (.aload_n 0, 1) := by decide +kernel
theorem d_La_join_4 : decode b_La_join 4 = .ok (.iload_n 1, 1) := by decide +kernel
theorem d_La_join_5 : decode b_La_join 5 = .ok (.iload_n 2, 1) := by decide +kernel
theorem d_La_join_6 : decode b_La_join 6 = .ok (.iload_n 3, 1) := by decide +kernel
theorem d_La_join_7 : decode b_La_join 7 = .ok (.iload 4, 2) := by decide +kernel
theorem d_La_join_9 : decode b_La_join 9 = .ok (.invokevirtual 25, 3) := by decide +kernel
theorem d_La_join_12 : decode b_La_join 12 = .ok (.i2l, 1) := by decide +kernel
theorem d_La_join_13 : decode b_La_join 13 = .ok (.lastore, 1) := by decide +kernel
theorem d_La_join_14 : decode b_La_join 14 = .ok (.goto 15, 3) := by decide +kernel
theorem d_La_join_17 : decode b_La_join 17 = .ok (.astore 6, 2) := by decide +kernel
theorem d_La_join_19 : decode b_La_join 19 = .ok (.iconst 1, 1) := by decide +kernel
theorem d_La_join_20 : decode b_La_join 20 = .ok (.ireturn, 1) := by decide +kernel
theorem d_La_join_21 : decode b_La_join 21 = .ok (.astore 6, 2) := by decide +kernel
theorem d_La_join_23 : decode b_La_join 23 = .ok (.iconst 2, 1) := by decide +kernel
theorem d_La_join_24 : decode b_La_join 24 = .ok (.ireturn, 1) := by decide +kernel
theorem d_La_join_25 : decode b_La_join 25 = .ok (.astore 6, 2) := by decide +kernel
theorem d_La_join_27 : decode b_La_join 27 = .ok (.iconst 3, 1) := by decide +kernel
theorem d_La_join_28 : decode b_La_join 28 = .ok (.ireturn, 1) := by decide +kernel
theorem d_La_join_29 : decode b_La_join 29 = .ok (.iconst 0, 1) := by decide +kernel
theorem d_La_join_30 : decode b_La_join 30 = .ok (.ireturn, 1) := by decide +kernel
abbrev b_La_power : ByteArray := method_7_code
theorem d_La_power_0 : decode b_La_power 0 = .ok (.aload 5, 2) := by decide +kernel
theorem d_La_power_2 : decode b_La_power 2 = .ok (.iconst 0, 1) := by decide +kernel
theorem d_La_power_3 : decode b_La_power 3 = .ok (.aload_n 0, 1) := by decide +kernel
theorem d_La_power_4 : decode b_La_power 4 = .ok (.iload_n 1, 1) := by decide +kernel
theorem d_La_power_5 : decode b_La_power 5 = .ok (.iload_n 2, 1) := by decide +kernel
theorem d_La_power_6 : decode b_La_power 6 = .ok (.iload_n 3, 1) := by decide +kernel
theorem d_La_power_7 : decode b_La_power 7 = .ok (.iload 4, 2) := by decide +kernel
theorem d_La_power_9 : decode b_La_power 9 = .ok (.invokevirtual 31, 3) := by decide +kernel
theorem d_La_power_12 : decode b_La_power 12 = .ok (.i2l, 1) := by decide +kernel
theorem d_La_power_13 : decode b_La_power 13 = .ok (.lastore, 1) := by decide +kernel
theorem d_La_power_14 : decode b_La_power 14 = .ok (.goto 11, 3) := by decide +kernel
theorem d_La_power_17 : decode b_La_power 17 = .ok (.astore 6, 2) := by decide +kernel
theorem d_La_power_19 : decode b_La_power 19 = .ok (.iconst 1, 1) := by decide +kernel
theorem d_La_power_20 : decode b_La_power 20 = .ok (.ireturn, 1) := by decide +kernel
theorem d_La_power_21 : decode b_La_power 21 = .ok (.astore 6, 2) := by decide +kernel
theorem d_La_power_23 : decode b_La_power 23 = .ok (.iconst 2, 1) := by decide +kernel
theorem d_La_power_24 : decode b_La_power 24 = .ok (.ireturn, 1) := by decide +kernel
theorem d_La_power_25 : decode b_La_power 25 = .ok (.iconst 0, 1) := by decide +kernel
theorem d_La_power_26 : decode b_La_power 26 = .ok (.ireturn, 1) := by decide +kernel
abbrev b_La_inverse : ByteArray := method_8_code
theorem d_La_inverse_0 : decode b_La_inverse 0 = .ok (.aload 4, 2) := by decide +kernel
theorem d_La_inverse_2 : decode b_La_inverse 2 = .ok (.iconst 0, 1) := by decide +kernel
theorem d_La_inverse_3 : decode b_La_inverse 3 = .ok (.aload_n 0, 1) := by decide +kernel
theorem d_La_inverse_4 : decode b_La_inverse 4 = .ok (.iload_n 1, 1) := by decide +kernel
theorem d_La_inverse_5 : decode b_La_inverse 5 = .ok (.iload_n 2, 1) := by decide +kernel
theorem d_La_inverse_6 : decode b_La_inverse 6 = .ok (.iload_n 3, 1) := by decide +kernel
theorem d_La_inverse_7 : decode b_La_inverse 7 = .ok (.invokevirtual 34, 3) := by decide +kernel
theorem d_La_inverse_10 : decode b_La_inverse 10 = .ok (.i2l, 1) := by decide +kernel
theorem d_La_inverse_11 : decode b_La_inverse 11 = .ok (.lastore, 1) := by decide +kernel
theorem d_La_inverse_12 : decode b_La_inverse 12 = .ok (.goto 15, 3) := by decide +kernel
theorem d_La_inverse_15 : decode b_La_inverse 15 = .ok (.astore 5, 2) := by decide +kernel
theorem d_La_inverse_17 : decode b_La_inverse 17 = .ok (.iconst 1, 1) := by decide +kernel
theorem d_La_inverse_18 : decode b_La_inverse 18 = .ok (.ireturn, 1) := by decide +kernel
theorem d_La_inverse_19 : decode b_La_inverse 19 = .ok (.astore 5, 2) := by decide +kernel
theorem d_La_inverse_21 : decode b_La_inverse 21 = .ok (.iconst 2, 1) := by decide +kernel
theorem d_La_inverse_22 : decode b_La_inverse 22 = .ok (.ireturn, 1) := by decide +kernel
theorem d_La_inverse_23 : decode b_La_inverse 23 = .ok (.astore 5, 2) := by decide +kernel
theorem d_La_inverse_25 : decode b_La_inverse 25 = .ok (.iconst 3, 1) := by decide +kernel
theorem d_La_inverse_26 : decode b_La_inverse 26 = .ok (.ireturn, 1) := by decide +kernel
theorem d_La_inverse_27 : decode b_La_inverse 27 = .ok (.iconst 0, 1) := by decide +kernel
theorem d_La_inverse_28 : decode b_La_inverse 28 = .ok (.ireturn, 1) := by decide +kernel
abbrev b_La_value : ByteArray := method_9_code
theorem d_La_value_0 : decode b_La_value 0 = .ok (.aload_n 3, 1) := by decide +kernel
theorem d_La_value_1 : decode b_La_value 1 = .ok (.iconst 0, 1) := by decide +kernel
theorem d_La_value_2 : decode b_La_value 2 = .ok (.aload_n 0, 1) := by decide +kernel
theorem d_La_value_3 : decode b_La_value 3 = .ok (.iload_n 1, 1) := by decide +kernel
theorem d_La_value_4 : decode b_La_value 4 = .ok (.iload_n 2, 1) := by decide +kernel
theorem d_La_value_5 : decode b_La_value 5 = .ok (.invokevirtual 39, 3) := by decide +kernel
theorem d_La_value_8 : decode b_La_value 8 = .ok (.i2l, 1) := by decide +kernel
theorem d_La_value_9 : decode b_La_value 9 = .ok (.lastore, 1) := by decide +kernel
theorem d_La_value_10 : decode b_La_value 10 = .ok (.goto 7, 3) := by decide +kernel
theorem d_La_value_13 : decode b_La_value 13 = .ok (.astore 4, 2) := by decide +kernel
theorem d_La_value_15 : decode b_La_value 15 = .ok (.iconst 1, 1) := by decide +kernel
theorem d_La_value_16 : decode b_La_value 16 = .ok (.ireturn, 1) := by decide +kernel
theorem d_La_value_17 : decode b_La_value 17 = .ok (.iconst 0, 1) := by decide +kernel
theorem d_La_value_18 : decode b_La_value 18 = .ok (.ireturn, 1) := by decide +kernel
abbrev b_La_zeros : ByteArray := method_10_code
theorem d_La_zeros_0 : decode b_La_zeros 0 = .ok (.aload_n 2, 1) := by decide +kernel
theorem d_La_zeros_1 : decode b_La_zeros 1 = .ok (.iconst 0, 1) := by decide +kernel
theorem d_La_zeros_2 : decode b_La_zeros 2 = .ok (.aload_n 0, 1) := by decide +kernel
theorem d_La_zeros_3 : decode b_La_zeros 3 = .ok (.iload_n 1, 1) := by decide +kernel
theorem d_La_zeros_4 : decode b_La_zeros 4 = .ok (.invokevirtual 42, 3) := by decide +kernel
theorem d_La_zeros_7 : decode b_La_zeros 7 = .ok (.i2l, 1) := by decide +kernel
theorem d_La_zeros_8 : decode b_La_zeros 8 = .ok (.lastore, 1) := by decide +kernel
theorem d_La_zeros_9 : decode b_La_zeros 9 = .ok (.goto 6, 3) := by decide +kernel
theorem d_La_zeros_12 : decode b_La_zeros 12 = .ok (.astore_n 3, 1) := by decide +kernel
theorem d_La_zeros_13 : decode b_La_zeros 13 = .ok (.iconst 1, 1) := by decide +kernel
theorem d_La_zeros_14 : decode b_La_zeros 14 = .ok (.ireturn, 1) := by decide +kernel
theorem d_La_zeros_15 : decode b_La_zeros 15 = .ok (.iconst 0, 1) := by decide +kernel
theorem d_La_zeros_16 : decode b_La_zeros 16 = .ok (.ireturn, 1) := by decide +kernel
abbrev b_La_factor : ByteArray := method_11_code
theorem d_La_factor_0 : decode b_La_factor 0 = .ok (.aload_n 2, 1) := by decide +kernel
theorem d_La_factor_1 : decode b_La_factor 1 = .ok (.iconst 0, 1) := by decide +kernel
theorem d_La_factor_2 : decode b_La_factor 2 = .ok (.aload_n 0, 1) := by decide +kernel
theorem d_La_factor_3 : decode b_La_factor 3 = .ok (.iload_n 1, 1) := by decide +kernel
theorem d_La_factor_4 : decode b_La_factor 4 = .ok (.invokevirtual 45, 3) := by decide +kernel
theorem d_La_factor_7 : decode b_La_factor 7 = .ok (.i2l, 1) := by decide +kernel
theorem d_La_factor_8 : decode b_La_factor 8 = .ok (.lastore, 1) := by decide +kernel
theorem d_La_factor_9 : decode b_La_factor 9 = .ok (.goto 9, 3) := by decide +kernel
theorem d_La_factor_12 : decode b_La_factor 12 = .ok (.astore_n 3, 1) := by decide +kernel
theorem d_La_factor_13 : decode b_La_factor 13 = .ok (.iconst 1, 1) := by decide +kernel
theorem d_La_factor_14 : decode b_La_factor 14 = .ok (.ireturn, 1) := by decide +kernel
theorem d_La_factor_15 : decode b_La_factor 15 = .ok (.astore_n 3, 1) := by decide +kernel
theorem d_La_factor_16 : decode b_La_factor 16 = .ok (.iconst 2, 1) := by decide +kernel
theorem d_La_factor_17 : decode b_La_factor 17 = .ok (.ireturn, 1) := by decide +kernel
theorem d_La_factor_18 : decode b_La_factor 18 = .ok (.iconst 0, 1) := by decide +kernel
theorem d_La_factor_19 : decode b_La_factor 19 = .ok (.ireturn, 1) := by decide +kernel
abbrev b_La_piece : ByteArray := method_12_code
theorem d_La_piece_0 : decode b_La_piece 0 = .ok (.aload_n 3, 1) := by decide +kernel
theorem d_La_piece_1 : decode b_La_piece 1 = .ok (.iconst 0, 1) := by decide +kernel
theorem d_La_piece_2 : decode b_La_piece 2 = .ok (.aload_n 0, 1) := by decide +kernel
theorem d_La_piece_3 : decode b_La_piece 3 = .ok (.iload_n 1, 1) := by decide +kernel
theorem d_La_piece_4 : decode b_La_piece 4 = .ok (.iload_n 2, 1) := by decide +kernel
theorem d_La_piece_5 : decode b_La_piece 5 = .ok (.invokevirtual 48, 3) := by decide +kernel
theorem d_La_piece_8 : decode b_La_piece 8 = .ok (.i2l, 1) := by decide +kernel
theorem d_La_piece_9 : decode b_La_piece 9 = .ok (.lastore, 1) := by decide +kernel
theorem d_La_piece_10 : decode b_La_piece 10 = .ok (.goto 7, 3) := by decide +kernel
theorem d_La_piece_13 : decode b_La_piece 13 = .ok (.astore 4, 2) := by decide +kernel
theorem d_La_piece_15 : decode b_La_piece 15 = .ok (.iconst 1, 1) := by decide +kernel
theorem d_La_piece_16 : decode b_La_piece 16 = .ok (.ireturn, 1) := by decide +kernel
theorem d_La_piece_17 : decode b_La_piece 17 = .ok (.iconst 0, 1) := by decide +kernel
theorem d_La_piece_18 : decode b_La_piece 18 = .ok (.ireturn, 1) := by decide +kernel
abbrev b_La_irreducible : ByteArray := method_13_code
theorem d_La_irreducible_0 : decode b_La_irreducible 0 = .ok (.aload_n 2, 1) := by decide +kernel
theorem d_La_irreducible_1 : decode b_La_irreducible 1 = .ok (.iconst 0, 1) := by decide +kernel
theorem d_La_irreducible_2 : decode b_La_irreducible 2 = .ok (.aload_n 0, 1) := by decide +kernel
theorem d_La_irreducible_3 : decode b_La_irreducible 3 = .ok (.iload_n 1, 1) := by decide +kernel
theorem d_La_irreducible_4 : decode b_La_irreducible 4 = .ok (.invokevirtual 51, 3) := by decide +kernel
theorem d_La_irreducible_7 : decode b_La_irreducible 7 = .ok (.ifCond .eq 7, 3) := by decide +kernel
theorem d_La_irreducible_10 : decode b_La_irreducible 10 = .ok (.lconst 1, 1) := by decide +kernel
theorem d_La_irreducible_11 : decode b_La_irreducible 11 = .ok (.goto 4, 3) := by decide +kernel
theorem d_La_irreducible_14 : decode b_La_irreducible 14 = .ok (.lconst 0, 1) := by decide +kernel
theorem d_La_irreducible_15 : decode b_La_irreducible 15 = .ok (.lastore, 1) := by decide +kernel
theorem d_La_irreducible_16 : decode b_La_irreducible 16 = .ok (.goto 6, 3) := by decide +kernel
theorem d_La_irreducible_19 : decode b_La_irreducible 19 = .ok (.astore_n 3, 1) := by decide +kernel
theorem d_La_irreducible_20 : decode b_La_irreducible 20 = .ok (.iconst 1, 1) := by decide +kernel
theorem d_La_irreducible_21 : decode b_La_irreducible 21 = .ok (.ireturn, 1) := by decide +kernel
theorem d_La_irreducible_22 : decode b_La_irreducible 22 = .ok (.iconst 0, 1) := by decide +kernel
theorem d_La_irreducible_23 : decode b_La_irreducible 23 = .ok (.ireturn, 1) := by decide +kernel
abbrev b_La_order : ByteArray := method_14_code
theorem d_La_order_0 : decode b_La_order 0 = .ok (.aload_n 2, 1) := by decide +kernel
theorem d_La_order_1 : decode b_La_order 1 = .ok (.iconst 0, 1) := by decide +kernel
theorem d_La_order_2 : decode b_La_order 2 = .ok (.aload_n 0, 1) := by decide +kernel
theorem d_La_order_3 : decode b_La_order 3 = .ok (.iload_n 1, 1) := by decide +kernel
theorem d_La_order_4 : decode b_La_order 4 = .ok (.invokevirtual 55, 3) := by decide +kernel
theorem d_La_order_7 : decode b_La_order 7 = .ok (.i2l, 1) := by decide +kernel
theorem d_La_order_8 : decode b_La_order 8 = .ok (.lastore, 1) := by decide +kernel
theorem d_La_order_9 : decode b_La_order 9 = .ok (.goto 9, 3) := by decide +kernel
theorem d_La_order_12 : decode b_La_order 12 = .ok (.astore_n 3, 1) := by decide +kernel
theorem d_La_order_13 : decode b_La_order 13 = .ok (.iconst 1, 1) := by decide +kernel
theorem d_La_order_14 : decode b_La_order 14 = .ok (.ireturn, 1) := by decide +kernel
theorem d_La_order_15 : decode b_La_order 15 = .ok (.astore_n 3, 1) := by decide +kernel
theorem d_La_order_16 : decode b_La_order 16 = .ok (.iconst 2, 1) := by decide +kernel
theorem d_La_order_17 : decode b_La_order 17 = .ok (.ireturn, 1) := by decide +kernel
theorem d_La_order_18 : decode b_La_order 18 = .ok (.iconst 0, 1) := by decide +kernel
theorem d_La_order_19 : decode b_La_order 19 = .ok (.ireturn, 1) := by decide +kernel
abbrev b_La_linear : ByteArray := method_15_code
theorem d_La_linear_0 : decode b_La_linear 0 = .ok (.aload_n 3, 1) := by decide +kernel
theorem d_La_linear_1 : decode b_La_linear 1 = .ok (.iconst 0, 1) := by decide +kernel
theorem d_La_linear_2 : decode b_La_linear 2 = .ok (.aload_n 0, 1) := by decide +kernel
theorem d_La_linear_3 : decode b_La_linear 3 = .ok (.iload_n 1, 1) := by decide +kernel
theorem d_La_linear_4 : decode b_La_linear 4 = .ok (.iload_n 2, 1) := by decide +kernel
theorem d_La_linear_5 : decode b_La_linear 5 = .ok (.invokevirtual 58, 3) := by decide +kernel
theorem d_La_linear_8 : decode b_La_linear 8 = .ok (.i2l, 1) := by decide +kernel
theorem d_La_linear_9 : decode b_La_linear 9 = .ok (.lastore, 1) := by decide +kernel
theorem d_La_linear_10 : decode b_La_linear 10 = .ok (.goto 11, 3) := by decide +kernel
theorem d_La_linear_13 : decode b_La_linear 13 = .ok (.astore 4, 2) := by decide +kernel
theorem d_La_linear_15 : decode b_La_linear 15 = .ok (.iconst 1, 1) := by decide +kernel
theorem d_La_linear_16 : decode b_La_linear 16 = .ok (.ireturn, 1) := by decide +kernel
theorem d_La_linear_17 : decode b_La_linear 17 = .ok (.astore 4, 2) := by decide +kernel
theorem d_La_linear_19 : decode b_La_linear 19 = .ok (.iconst 2, 1) := by decide +kernel
theorem d_La_linear_20 : decode b_La_linear 20 = .ok (.ireturn, 1) := by decide +kernel
theorem d_La_linear_21 : decode b_La_linear 21 = .ok (.iconst 0, 1) := by decide +kernel
theorem d_La_linear_22 : decode b_La_linear 22 = .ok (.ireturn, 1) := by decide +kernel
abbrev b_La_law : ByteArray := code
theorem d_La_law_0 : decode b_La_law 0 = .ok (.new 8, 3) := by decide +kernel
theorem d_La_law_3 : decode b_La_law 3 = .ok (.dup, 1) := by decide +kernel
theorem d_La_law_4 : decode b_La_law 4 = .ok (.invokespecial 61, 3) := by decide +kernel
theorem d_La_law_7 : decode b_La_law 7 = .ok (.astore_n 1, 1) := by decide +kernel
theorem d_La_law_8 : decode b_La_law 8 = .ok (.new 62, 3) := by decide +kernel
theorem d_La_law_11 : decode b_La_law 11 = .ok (.dup, 1) := by decide +kernel
theorem d_La_law_12 : decode b_La_law 12 = .ok (.invokespecial 64, 3) := by decide +kernel
theorem d_La_law_15 : decode b_La_law 15 = .ok (.astore_n 2, 1) := by decide +kernel
theorem d_La_law_16 : decode b_La_law 16 = .ok (.iconst 1, 1) := by decide +kernel
theorem d_La_law_17 : decode b_La_law 17 = .ok (.newarray .long, 2) := by decide +kernel
theorem d_La_law_19 : decode b_La_law 19 = .ok (.astore_n 3, 1) := by decide +kernel
theorem d_La_law_20 : decode b_La_law 20 = .ok (.iconst 0, 1) := by decide +kernel
theorem d_La_law_21 : decode b_La_law 21 = .ok (.istore 4, 2) := by decide +kernel
theorem d_La_law_23 : decode b_La_law 23 = .ok (.iload 4, 2) := by decide +kernel
theorem d_La_law_25 : decode b_La_law 25 = .ok (.aload_n 0, 1) := by decide +kernel
theorem d_La_law_26 : decode b_La_law 26 = .ok (.arraylength, 1) := by decide +kernel
theorem d_La_law_27 : decode b_La_law 27 = .ok (.iconst 5, 1) := by decide +kernel
theorem d_La_law_28 : decode b_La_law 28 = .ok (.isub, 1) := by decide +kernel
theorem d_La_law_29 : decode b_La_law 29 = .ok (.if_icmp .gt 1013, 3) := by decide +kernel
theorem d_La_law_32 : decode b_La_law 32 = .ok (.aload_n 0, 1) := by decide +kernel
theorem d_La_law_33 : decode b_La_law 33 = .ok (.iload 4, 2) := by decide +kernel
theorem d_La_law_35 : decode b_La_law 35 = .ok (.iaload, 1) := by decide +kernel
theorem d_La_law_36 : decode b_La_law 36 = .ok (.bipush 15, 2) := by decide +kernel
theorem d_La_law_38 : decode b_La_law 38 = .ok (.iand, 1) := by decide +kernel
theorem d_La_law_39 : decode b_La_law 39 = .ok (.tableswitch 997 0 13 #[69, 125, 205, 273, 365, 457, 537, 605, 661, 717, 785, 848, 904, 972], 69) := by decide +kernel
theorem d_La_law_108 : decode b_La_law 108 = .ok (.aload_n 1, 1) := by decide +kernel
theorem d_La_law_109 : decode b_La_law 109 = .ok (.aload_n 0, 1) := by decide +kernel
theorem d_La_law_110 : decode b_La_law 110 = .ok (.iload 4, 2) := by decide +kernel
theorem d_La_law_112 : decode b_La_law 112 = .ok (.iconst 1, 1) := by decide +kernel
theorem d_La_law_113 : decode b_La_law 113 = .ok (.iadd, 1) := by decide +kernel
theorem d_La_law_114 : decode b_La_law 114 = .ok (.iaload, 1) := by decide +kernel
theorem d_La_law_115 : decode b_La_law 115 = .ok (.aload_n 3, 1) := by decide +kernel
theorem d_La_law_116 : decode b_La_law 116 = .ok (.invokestatic 65, 3) := by decide +kernel
theorem d_La_law_119 : decode b_La_law 119 = .ok (.istore 5, 2) := by decide +kernel
theorem d_La_law_121 : decode b_La_law 121 = .ok (.aload_n 2, 1) := by decide +kernel
theorem d_La_law_122 : decode b_La_law 122 = .ok (.aload_n 0, 1) := by decide +kernel
theorem d_La_law_123 : decode b_La_law 123 = .ok (.iload 4, 2) := by decide +kernel
theorem d_La_law_125 : decode b_La_law 125 = .ok (.iconst 1, 1) := by decide +kernel
theorem d_La_law_126 : decode b_La_law 126 = .ok (.iadd, 1) := by decide +kernel
theorem d_La_law_127 : decode b_La_law 127 = .ok (.iaload, 1) := by decide +kernel
theorem d_La_law_128 : decode b_La_law 128 = .ok (.invokevirtual 70, 3) := by decide +kernel
theorem d_La_law_131 : decode b_La_law 131 = .ok (.istore 6, 2) := by decide +kernel
theorem d_La_law_133 : decode b_La_law 133 = .ok (.aload_n 2, 1) := by decide +kernel
theorem d_La_law_134 : decode b_La_law 134 = .ok (.invokevirtual 71, 3) := by decide +kernel
theorem d_La_law_137 : decode b_La_law 137 = .ok (.iload 5, 2) := by decide +kernel
theorem d_La_law_139 : decode b_La_law 139 = .ok (.if_icmp .eq 5, 3) := by decide +kernel
theorem d_La_law_142 : decode b_La_law 142 = .ok (.iconst 0, 1) := by decide +kernel
theorem d_La_law_143 : decode b_La_law 143 = .ok (.ireturn, 1) := by decide +kernel
theorem d_La_law_144 : decode b_La_law 144 = .ok (.iload 5, 2) := by decide +kernel
theorem d_La_law_146 : decode b_La_law 146 = .ok (.ifCond .ne 15, 3) := by decide +kernel
theorem d_La_law_149 : decode b_La_law 149 = .ok (.aload_n 3, 1) := by decide +kernel
theorem d_La_law_150 : decode b_La_law 150 = .ok (.iconst 0, 1) := by decide +kernel
theorem d_La_law_151 : decode b_La_law 151 = .ok (.laload, 1) := by decide +kernel
theorem d_La_law_152 : decode b_La_law 152 = .ok (.iload 6, 2) := by decide +kernel
theorem d_La_law_154 : decode b_La_law 154 = .ok (.i2l, 1) := by decide +kernel
theorem d_La_law_155 : decode b_La_law 155 = .ok (.lcmp, 1) := by decide +kernel
theorem d_La_law_156 : decode b_La_law 156 = .ok (.ifCond .eq 5, 3) := by decide +kernel
theorem d_La_law_159 : decode b_La_law 159 = .ok (.iconst 0, 1) := by decide +kernel
theorem d_La_law_160 : decode b_La_law 160 = .ok (.ireturn, 1) := by decide +kernel
theorem d_La_law_161 : decode b_La_law 161 = .ok (.goto 875, 3) := by decide +kernel
theorem d_La_law_164 : decode b_La_law 164 = .ok (.aload_n 1, 1) := by decide +kernel
theorem d_La_law_165 : decode b_La_law 165 = .ok (.aload_n 0, 1) := by decide +kernel
theorem d_La_law_166 : decode b_La_law 166 = .ok (.iload 4, 2) := by decide +kernel
theorem d_La_law_168 : decode b_La_law 168 = .ok (.iconst 1, 1) := by decide +kernel
theorem d_La_law_169 : decode b_La_law 169 = .ok (.iadd, 1) := by decide +kernel
theorem d_La_law_170 : decode b_La_law 170 = .ok (.iaload, 1) := by decide +kernel
theorem d_La_law_171 : decode b_La_law 171 = .ok (.aload_n 0, 1) := by decide +kernel
theorem d_La_law_172 : decode b_La_law 172 = .ok (.iload 4, 2) := by decide +kernel
theorem d_La_law_174 : decode b_La_law 174 = .ok (.iconst 2, 1) := by decide +kernel
theorem d_La_law_175 : decode b_La_law 175 = .ok (.iadd, 1) := by decide +kernel
theorem d_La_law_176 : decode b_La_law 176 = .ok (.iaload, 1) := by decide +kernel
theorem d_La_law_177 : decode b_La_law 177 = .ok (.aload_n 0, 1) := by decide +kernel
theorem d_La_law_178 : decode b_La_law 178 = .ok (.iload 4, 2) := by decide +kernel
theorem d_La_law_180 : decode b_La_law 180 = .ok (.iconst 3, 1) := by decide +kernel
theorem d_La_law_181 : decode b_La_law 181 = .ok (.iadd, 1) := by decide +kernel
theorem d_La_law_182 : decode b_La_law 182 = .ok (.iaload, 1) := by decide +kernel
theorem d_La_law_183 : decode b_La_law 183 = .ok (.aload_n 3, 1) := by decide +kernel
theorem d_La_law_184 : decode b_La_law 184 = .ok (.invokestatic 75, 3) := by decide +kernel
theorem d_La_law_187 : decode b_La_law 187 = .ok (.istore 5, 2) := by decide +kernel
theorem d_La_law_189 : decode b_La_law 189 = .ok (.aload_n 2, 1) := by decide +kernel
theorem d_La_law_190 : decode b_La_law 190 = .ok (.aload_n 0, 1) := by decide +kernel
theorem d_La_law_191 : decode b_La_law 191 = .ok (.iload 4, 2) := by decide +kernel
theorem d_La_law_193 : decode b_La_law 193 = .ok (.iconst 1, 1) := by decide +kernel
theorem d_La_law_194 : decode b_La_law 194 = .ok (.iadd, 1) := by decide +kernel
theorem d_La_law_195 : decode b_La_law 195 = .ok (.iaload, 1) := by decide +kernel
theorem d_La_law_196 : decode b_La_law 196 = .ok (.aload_n 0, 1) := by decide +kernel
theorem d_La_law_197 : decode b_La_law 197 = .ok (.iload 4, 2) := by decide +kernel
theorem d_La_law_199 : decode b_La_law 199 = .ok (.iconst 2, 1) := by decide +kernel
theorem d_La_law_200 : decode b_La_law 200 = .ok (.iadd, 1) := by decide +kernel
theorem d_La_law_201 : decode b_La_law 201 = .ok (.iaload, 1) := by decide +kernel
theorem d_La_law_202 : decode b_La_law 202 = .ok (.aload_n 0, 1) := by decide +kernel
theorem d_La_law_203 : decode b_La_law 203 = .ok (.iload 4, 2) := by decide +kernel
theorem d_La_law_205 : decode b_La_law 205 = .ok (.iconst 3, 1) := by decide +kernel
theorem d_La_law_206 : decode b_La_law 206 = .ok (.iadd, 1) := by decide +kernel
theorem d_La_law_207 : decode b_La_law 207 = .ok (.iaload, 1) := by decide +kernel
theorem d_La_law_208 : decode b_La_law 208 = .ok (.invokevirtual 78, 3) := by decide +kernel
theorem d_La_law_211 : decode b_La_law 211 = .ok (.istore 6, 2) := by decide +kernel
theorem d_La_law_213 : decode b_La_law 213 = .ok (.aload_n 2, 1) := by decide +kernel
theorem d_La_law_214 : decode b_La_law 214 = .ok (.invokevirtual 71, 3) := by decide +kernel
theorem d_La_law_217 : decode b_La_law 217 = .ok (.iload 5, 2) := by decide +kernel
theorem d_La_law_219 : decode b_La_law 219 = .ok (.if_icmp .eq 5, 3) := by decide +kernel
theorem d_La_law_222 : decode b_La_law 222 = .ok (.iconst 0, 1) := by decide +kernel
theorem d_La_law_223 : decode b_La_law 223 = .ok (.ireturn, 1) := by decide +kernel
theorem d_La_law_224 : decode b_La_law 224 = .ok (.iload 5, 2) := by decide +kernel
theorem d_La_law_226 : decode b_La_law 226 = .ok (.ifCond .ne 15, 3) := by decide +kernel
theorem d_La_law_229 : decode b_La_law 229 = .ok (.aload_n 3, 1) := by decide +kernel
theorem d_La_law_230 : decode b_La_law 230 = .ok (.iconst 0, 1) := by decide +kernel
theorem d_La_law_231 : decode b_La_law 231 = .ok (.laload, 1) := by decide +kernel
theorem d_La_law_232 : decode b_La_law 232 = .ok (.iload 6, 2) := by decide +kernel
theorem d_La_law_234 : decode b_La_law 234 = .ok (.i2l, 1) := by decide +kernel
theorem d_La_law_235 : decode b_La_law 235 = .ok (.lcmp, 1) := by decide +kernel
theorem d_La_law_236 : decode b_La_law 236 = .ok (.ifCond .eq 5, 3) := by decide +kernel
theorem d_La_law_239 : decode b_La_law 239 = .ok (.iconst 0, 1) := by decide +kernel
theorem d_La_law_240 : decode b_La_law 240 = .ok (.ireturn, 1) := by decide +kernel
theorem d_La_law_241 : decode b_La_law 241 = .ok (.goto 795, 3) := by decide +kernel
theorem d_La_law_244 : decode b_La_law 244 = .ok (.aload_n 1, 1) := by decide +kernel
theorem d_La_law_245 : decode b_La_law 245 = .ok (.aload_n 0, 1) := by decide +kernel
theorem d_La_law_246 : decode b_La_law 246 = .ok (.iload 4, 2) := by decide +kernel
theorem d_La_law_248 : decode b_La_law 248 = .ok (.iconst 1, 1) := by decide +kernel
theorem d_La_law_249 : decode b_La_law 249 = .ok (.iadd, 1) := by decide +kernel
theorem d_La_law_250 : decode b_La_law 250 = .ok (.iaload, 1) := by decide +kernel
theorem d_La_law_251 : decode b_La_law 251 = .ok (.aload_n 0, 1) := by decide +kernel
theorem d_La_law_252 : decode b_La_law 252 = .ok (.iload 4, 2) := by decide +kernel
theorem d_La_law_254 : decode b_La_law 254 = .ok (.iconst 2, 1) := by decide +kernel
theorem d_La_law_255 : decode b_La_law 255 = .ok (.iadd, 1) := by decide +kernel
theorem d_La_law_256 : decode b_La_law 256 = .ok (.iaload, 1) := by decide +kernel
theorem d_La_law_257 : decode b_La_law 257 = .ok (.aload_n 3, 1) := by decide +kernel
theorem d_La_law_258 : decode b_La_law 258 = .ok (.invokestatic 79, 3) := by decide +kernel
theorem d_La_law_261 : decode b_La_law 261 = .ok (.istore 5, 2) := by decide +kernel
theorem d_La_law_263 : decode b_La_law 263 = .ok (.aload_n 2, 1) := by decide +kernel
theorem d_La_law_264 : decode b_La_law 264 = .ok (.aload_n 0, 1) := by decide +kernel
theorem d_La_law_265 : decode b_La_law 265 = .ok (.iload 4, 2) := by decide +kernel
theorem d_La_law_267 : decode b_La_law 267 = .ok (.iconst 1, 1) := by decide +kernel
theorem d_La_law_268 : decode b_La_law 268 = .ok (.iadd, 1) := by decide +kernel
theorem d_La_law_269 : decode b_La_law 269 = .ok (.iaload, 1) := by decide +kernel
theorem d_La_law_270 : decode b_La_law 270 = .ok (.aload_n 0, 1) := by decide +kernel
theorem d_La_law_271 : decode b_La_law 271 = .ok (.iload 4, 2) := by decide +kernel
theorem d_La_law_273 : decode b_La_law 273 = .ok (.iconst 2, 1) := by decide +kernel
theorem d_La_law_274 : decode b_La_law 274 = .ok (.iadd, 1) := by decide +kernel
theorem d_La_law_275 : decode b_La_law 275 = .ok (.iaload, 1) := by decide +kernel
theorem d_La_law_276 : decode b_La_law 276 = .ok (.invokevirtual 82, 3) := by decide +kernel
theorem d_La_law_279 : decode b_La_law 279 = .ok (.istore 6, 2) := by decide +kernel
theorem d_La_law_281 : decode b_La_law 281 = .ok (.aload_n 2, 1) := by decide +kernel
theorem d_La_law_282 : decode b_La_law 282 = .ok (.invokevirtual 71, 3) := by decide +kernel
theorem d_La_law_285 : decode b_La_law 285 = .ok (.iload 5, 2) := by decide +kernel
theorem d_La_law_287 : decode b_La_law 287 = .ok (.if_icmp .eq 5, 3) := by decide +kernel
theorem d_La_law_290 : decode b_La_law 290 = .ok (.iconst 0, 1) := by decide +kernel
theorem d_La_law_291 : decode b_La_law 291 = .ok (.ireturn, 1) := by decide +kernel
theorem d_La_law_292 : decode b_La_law 292 = .ok (.iload 5, 2) := by decide +kernel
theorem d_La_law_294 : decode b_La_law 294 = .ok (.ifCond .ne 15, 3) := by decide +kernel
theorem d_La_law_297 : decode b_La_law 297 = .ok (.aload_n 3, 1) := by decide +kernel
theorem d_La_law_298 : decode b_La_law 298 = .ok (.iconst 0, 1) := by decide +kernel
theorem d_La_law_299 : decode b_La_law 299 = .ok (.laload, 1) := by decide +kernel
theorem d_La_law_300 : decode b_La_law 300 = .ok (.iload 6, 2) := by decide +kernel
theorem d_La_law_302 : decode b_La_law 302 = .ok (.i2l, 1) := by decide +kernel
theorem d_La_law_303 : decode b_La_law 303 = .ok (.lcmp, 1) := by decide +kernel
theorem d_La_law_304 : decode b_La_law 304 = .ok (.ifCond .eq 5, 3) := by decide +kernel
theorem d_La_law_307 : decode b_La_law 307 = .ok (.iconst 0, 1) := by decide +kernel
theorem d_La_law_308 : decode b_La_law 308 = .ok (.ireturn, 1) := by decide +kernel
theorem d_La_law_309 : decode b_La_law 309 = .ok (.goto 727, 3) := by decide +kernel
theorem d_La_law_312 : decode b_La_law 312 = .ok (.aload_n 1, 1) := by decide +kernel
theorem d_La_law_313 : decode b_La_law 313 = .ok (.aload_n 0, 1) := by decide +kernel
theorem d_La_law_314 : decode b_La_law 314 = .ok (.iload 4, 2) := by decide +kernel
theorem d_La_law_316 : decode b_La_law 316 = .ok (.iconst 1, 1) := by decide +kernel
theorem d_La_law_317 : decode b_La_law 317 = .ok (.iadd, 1) := by decide +kernel
theorem d_La_law_318 : decode b_La_law 318 = .ok (.iaload, 1) := by decide +kernel
theorem d_La_law_319 : decode b_La_law 319 = .ok (.aload_n 0, 1) := by decide +kernel
theorem d_La_law_320 : decode b_La_law 320 = .ok (.iload 4, 2) := by decide +kernel
theorem d_La_law_322 : decode b_La_law 322 = .ok (.iconst 2, 1) := by decide +kernel
theorem d_La_law_323 : decode b_La_law 323 = .ok (.iadd, 1) := by decide +kernel
theorem d_La_law_324 : decode b_La_law 324 = .ok (.iaload, 1) := by decide +kernel
theorem d_La_law_325 : decode b_La_law 325 = .ok (.aload_n 0, 1) := by decide +kernel
theorem d_La_law_326 : decode b_La_law 326 = .ok (.iload 4, 2) := by decide +kernel
theorem d_La_law_328 : decode b_La_law 328 = .ok (.iconst 3, 1) := by decide +kernel
theorem d_La_law_329 : decode b_La_law 329 = .ok (.iadd, 1) := by decide +kernel
theorem d_La_law_330 : decode b_La_law 330 = .ok (.iaload, 1) := by decide +kernel
theorem d_La_law_331 : decode b_La_law 331 = .ok (.aload_n 0, 1) := by decide +kernel
theorem d_La_law_332 : decode b_La_law 332 = .ok (.iload 4, 2) := by decide +kernel
theorem d_La_law_334 : decode b_La_law 334 = .ok (.iconst 4, 1) := by decide +kernel
theorem d_La_law_335 : decode b_La_law 335 = .ok (.iadd, 1) := by decide +kernel
theorem d_La_law_336 : decode b_La_law 336 = .ok (.iaload, 1) := by decide +kernel
theorem d_La_law_337 : decode b_La_law 337 = .ok (.aload_n 3, 1) := by decide +kernel
theorem d_La_law_338 : decode b_La_law 338 = .ok (.invokestatic 83, 3) := by decide +kernel
theorem d_La_law_341 : decode b_La_law 341 = .ok (.istore 5, 2) := by decide +kernel
theorem d_La_law_343 : decode b_La_law 343 = .ok (.aload_n 2, 1) := by decide +kernel
theorem d_La_law_344 : decode b_La_law 344 = .ok (.aload_n 0, 1) := by decide +kernel
theorem d_La_law_345 : decode b_La_law 345 = .ok (.iload 4, 2) := by decide +kernel
theorem d_La_law_347 : decode b_La_law 347 = .ok (.iconst 1, 1) := by decide +kernel
theorem d_La_law_348 : decode b_La_law 348 = .ok (.iadd, 1) := by decide +kernel
theorem d_La_law_349 : decode b_La_law 349 = .ok (.iaload, 1) := by decide +kernel
theorem d_La_law_350 : decode b_La_law 350 = .ok (.aload_n 0, 1) := by decide +kernel
theorem d_La_law_351 : decode b_La_law 351 = .ok (.iload 4, 2) := by decide +kernel
theorem d_La_law_353 : decode b_La_law 353 = .ok (.iconst 2, 1) := by decide +kernel
theorem d_La_law_354 : decode b_La_law 354 = .ok (.iadd, 1) := by decide +kernel
theorem d_La_law_355 : decode b_La_law 355 = .ok (.iaload, 1) := by decide +kernel
theorem d_La_law_356 : decode b_La_law 356 = .ok (.aload_n 0, 1) := by decide +kernel
theorem d_La_law_357 : decode b_La_law 357 = .ok (.iload 4, 2) := by decide +kernel
theorem d_La_law_359 : decode b_La_law 359 = .ok (.iconst 3, 1) := by decide +kernel
theorem d_La_law_360 : decode b_La_law 360 = .ok (.iadd, 1) := by decide +kernel
theorem d_La_law_361 : decode b_La_law 361 = .ok (.iaload, 1) := by decide +kernel
theorem d_La_law_362 : decode b_La_law 362 = .ok (.aload_n 0, 1) := by decide +kernel
theorem d_La_law_363 : decode b_La_law 363 = .ok (.iload 4, 2) := by decide +kernel
theorem d_La_law_365 : decode b_La_law 365 = .ok (.iconst 4, 1) := by decide +kernel
theorem d_La_law_366 : decode b_La_law 366 = .ok (.iadd, 1) := by decide +kernel
theorem d_La_law_367 : decode b_La_law 367 = .ok (.iaload, 1) := by decide +kernel
theorem d_La_law_368 : decode b_La_law 368 = .ok (.invokevirtual 86, 3) := by decide +kernel
theorem d_La_law_371 : decode b_La_law 371 = .ok (.istore 6, 2) := by decide +kernel
theorem d_La_law_373 : decode b_La_law 373 = .ok (.aload_n 2, 1) := by decide +kernel
theorem d_La_law_374 : decode b_La_law 374 = .ok (.invokevirtual 71, 3) := by decide +kernel
theorem d_La_law_377 : decode b_La_law 377 = .ok (.iload 5, 2) := by decide +kernel
theorem d_La_law_379 : decode b_La_law 379 = .ok (.if_icmp .eq 5, 3) := by decide +kernel
theorem d_La_law_382 : decode b_La_law 382 = .ok (.iconst 0, 1) := by decide +kernel
theorem d_La_law_383 : decode b_La_law 383 = .ok (.ireturn, 1) := by decide +kernel
theorem d_La_law_384 : decode b_La_law 384 = .ok (.iload 5, 2) := by decide +kernel
theorem d_La_law_386 : decode b_La_law 386 = .ok (.ifCond .ne 15, 3) := by decide +kernel
theorem d_La_law_389 : decode b_La_law 389 = .ok (.aload_n 3, 1) := by decide +kernel
theorem d_La_law_390 : decode b_La_law 390 = .ok (.iconst 0, 1) := by decide +kernel
theorem d_La_law_391 : decode b_La_law 391 = .ok (.laload, 1) := by decide +kernel
theorem d_La_law_392 : decode b_La_law 392 = .ok (.iload 6, 2) := by decide +kernel
theorem d_La_law_394 : decode b_La_law 394 = .ok (.i2l, 1) := by decide +kernel
theorem d_La_law_395 : decode b_La_law 395 = .ok (.lcmp, 1) := by decide +kernel
theorem d_La_law_396 : decode b_La_law 396 = .ok (.ifCond .eq 5, 3) := by decide +kernel
theorem d_La_law_399 : decode b_La_law 399 = .ok (.iconst 0, 1) := by decide +kernel
theorem d_La_law_400 : decode b_La_law 400 = .ok (.ireturn, 1) := by decide +kernel
theorem d_La_law_401 : decode b_La_law 401 = .ok (.goto 635, 3) := by decide +kernel
theorem d_La_law_404 : decode b_La_law 404 = .ok (.aload_n 1, 1) := by decide +kernel
theorem d_La_law_405 : decode b_La_law 405 = .ok (.aload_n 0, 1) := by decide +kernel
theorem d_La_law_406 : decode b_La_law 406 = .ok (.iload 4, 2) := by decide +kernel
theorem d_La_law_408 : decode b_La_law 408 = .ok (.iconst 1, 1) := by decide +kernel
theorem d_La_law_409 : decode b_La_law 409 = .ok (.iadd, 1) := by decide +kernel
theorem d_La_law_410 : decode b_La_law 410 = .ok (.iaload, 1) := by decide +kernel
theorem d_La_law_411 : decode b_La_law 411 = .ok (.aload_n 0, 1) := by decide +kernel
theorem d_La_law_412 : decode b_La_law 412 = .ok (.iload 4, 2) := by decide +kernel
theorem d_La_law_414 : decode b_La_law 414 = .ok (.iconst 2, 1) := by decide +kernel
theorem d_La_law_415 : decode b_La_law 415 = .ok (.iadd, 1) := by decide +kernel
theorem d_La_law_416 : decode b_La_law 416 = .ok (.iaload, 1) := by decide +kernel
theorem d_La_law_417 : decode b_La_law 417 = .ok (.aload_n 0, 1) := by decide +kernel
theorem d_La_law_418 : decode b_La_law 418 = .ok (.iload 4, 2) := by decide +kernel
theorem d_La_law_420 : decode b_La_law 420 = .ok (.iconst 3, 1) := by decide +kernel
theorem d_La_law_421 : decode b_La_law 421 = .ok (.iadd, 1) := by decide +kernel
theorem d_La_law_422 : decode b_La_law 422 = .ok (.iaload, 1) := by decide +kernel
theorem d_La_law_423 : decode b_La_law 423 = .ok (.aload_n 0, 1) := by decide +kernel
theorem d_La_law_424 : decode b_La_law 424 = .ok (.iload 4, 2) := by decide +kernel
theorem d_La_law_426 : decode b_La_law 426 = .ok (.iconst 4, 1) := by decide +kernel
theorem d_La_law_427 : decode b_La_law 427 = .ok (.iadd, 1) := by decide +kernel
theorem d_La_law_428 : decode b_La_law 428 = .ok (.iaload, 1) := by decide +kernel
theorem d_La_law_429 : decode b_La_law 429 = .ok (.aload_n 3, 1) := by decide +kernel
theorem d_La_law_430 : decode b_La_law 430 = .ok (.invokestatic 87, 3) := by decide +kernel
theorem d_La_law_433 : decode b_La_law 433 = .ok (.istore 5, 2) := by decide +kernel
theorem d_La_law_435 : decode b_La_law 435 = .ok (.aload_n 2, 1) := by decide +kernel
theorem d_La_law_436 : decode b_La_law 436 = .ok (.aload_n 0, 1) := by decide +kernel
theorem d_La_law_437 : decode b_La_law 437 = .ok (.iload 4, 2) := by decide +kernel
theorem d_La_law_439 : decode b_La_law 439 = .ok (.iconst 1, 1) := by decide +kernel
theorem d_La_law_440 : decode b_La_law 440 = .ok (.iadd, 1) := by decide +kernel
theorem d_La_law_441 : decode b_La_law 441 = .ok (.iaload, 1) := by decide +kernel
theorem d_La_law_442 : decode b_La_law 442 = .ok (.aload_n 0, 1) := by decide +kernel
theorem d_La_law_443 : decode b_La_law 443 = .ok (.iload 4, 2) := by decide +kernel
theorem d_La_law_445 : decode b_La_law 445 = .ok (.iconst 2, 1) := by decide +kernel
theorem d_La_law_446 : decode b_La_law 446 = .ok (.iadd, 1) := by decide +kernel
theorem d_La_law_447 : decode b_La_law 447 = .ok (.iaload, 1) := by decide +kernel
theorem d_La_law_448 : decode b_La_law 448 = .ok (.aload_n 0, 1) := by decide +kernel
theorem d_La_law_449 : decode b_La_law 449 = .ok (.iload 4, 2) := by decide +kernel
theorem d_La_law_451 : decode b_La_law 451 = .ok (.iconst 3, 1) := by decide +kernel
theorem d_La_law_452 : decode b_La_law 452 = .ok (.iadd, 1) := by decide +kernel
theorem d_La_law_453 : decode b_La_law 453 = .ok (.iaload, 1) := by decide +kernel
theorem d_La_law_454 : decode b_La_law 454 = .ok (.aload_n 0, 1) := by decide +kernel
theorem d_La_law_455 : decode b_La_law 455 = .ok (.iload 4, 2) := by decide +kernel
theorem d_La_law_457 : decode b_La_law 457 = .ok (.iconst 4, 1) := by decide +kernel
theorem d_La_law_458 : decode b_La_law 458 = .ok (.iadd, 1) := by decide +kernel
theorem d_La_law_459 : decode b_La_law 459 = .ok (.iaload, 1) := by decide +kernel
theorem d_La_law_460 : decode b_La_law 460 = .ok (.invokevirtual 89, 3) := by decide +kernel
theorem d_La_law_463 : decode b_La_law 463 = .ok (.istore 6, 2) := by decide +kernel
theorem d_La_law_465 : decode b_La_law 465 = .ok (.aload_n 2, 1) := by decide +kernel
theorem d_La_law_466 : decode b_La_law 466 = .ok (.invokevirtual 71, 3) := by decide +kernel
theorem d_La_law_469 : decode b_La_law 469 = .ok (.iload 5, 2) := by decide +kernel
theorem d_La_law_471 : decode b_La_law 471 = .ok (.if_icmp .eq 5, 3) := by decide +kernel
theorem d_La_law_474 : decode b_La_law 474 = .ok (.iconst 0, 1) := by decide +kernel
theorem d_La_law_475 : decode b_La_law 475 = .ok (.ireturn, 1) := by decide +kernel
theorem d_La_law_476 : decode b_La_law 476 = .ok (.iload 5, 2) := by decide +kernel
theorem d_La_law_478 : decode b_La_law 478 = .ok (.ifCond .ne 15, 3) := by decide +kernel
theorem d_La_law_481 : decode b_La_law 481 = .ok (.aload_n 3, 1) := by decide +kernel
theorem d_La_law_482 : decode b_La_law 482 = .ok (.iconst 0, 1) := by decide +kernel
theorem d_La_law_483 : decode b_La_law 483 = .ok (.laload, 1) := by decide +kernel
theorem d_La_law_484 : decode b_La_law 484 = .ok (.iload 6, 2) := by decide +kernel
theorem d_La_law_486 : decode b_La_law 486 = .ok (.i2l, 1) := by decide +kernel
theorem d_La_law_487 : decode b_La_law 487 = .ok (.lcmp, 1) := by decide +kernel
theorem d_La_law_488 : decode b_La_law 488 = .ok (.ifCond .eq 5, 3) := by decide +kernel
theorem d_La_law_491 : decode b_La_law 491 = .ok (.iconst 0, 1) := by decide +kernel
theorem d_La_law_492 : decode b_La_law 492 = .ok (.ireturn, 1) := by decide +kernel
theorem d_La_law_493 : decode b_La_law 493 = .ok (.goto 543, 3) := by decide +kernel
theorem d_La_law_496 : decode b_La_law 496 = .ok (.aload_n 1, 1) := by decide +kernel
theorem d_La_law_497 : decode b_La_law 497 = .ok (.aload_n 0, 1) := by decide +kernel
theorem d_La_law_498 : decode b_La_law 498 = .ok (.iload 4, 2) := by decide +kernel
theorem d_La_law_500 : decode b_La_law 500 = .ok (.iconst 1, 1) := by decide +kernel
theorem d_La_law_501 : decode b_La_law 501 = .ok (.iadd, 1) := by decide +kernel
theorem d_La_law_502 : decode b_La_law 502 = .ok (.iaload, 1) := by decide +kernel
theorem d_La_law_503 : decode b_La_law 503 = .ok (.aload_n 0, 1) := by decide +kernel
theorem d_La_law_504 : decode b_La_law 504 = .ok (.iload 4, 2) := by decide +kernel
theorem d_La_law_506 : decode b_La_law 506 = .ok (.iconst 2, 1) := by decide +kernel
theorem d_La_law_507 : decode b_La_law 507 = .ok (.iadd, 1) := by decide +kernel
theorem d_La_law_508 : decode b_La_law 508 = .ok (.iaload, 1) := by decide +kernel
theorem d_La_law_509 : decode b_La_law 509 = .ok (.aload_n 0, 1) := by decide +kernel
theorem d_La_law_510 : decode b_La_law 510 = .ok (.iload 4, 2) := by decide +kernel
theorem d_La_law_512 : decode b_La_law 512 = .ok (.iconst 3, 1) := by decide +kernel
theorem d_La_law_513 : decode b_La_law 513 = .ok (.iadd, 1) := by decide +kernel
theorem d_La_law_514 : decode b_La_law 514 = .ok (.iaload, 1) := by decide +kernel
theorem d_La_law_515 : decode b_La_law 515 = .ok (.aload_n 3, 1) := by decide +kernel
theorem d_La_law_516 : decode b_La_law 516 = .ok (.invokestatic 90, 3) := by decide +kernel
theorem d_La_law_519 : decode b_La_law 519 = .ok (.istore 5, 2) := by decide +kernel
theorem d_La_law_521 : decode b_La_law 521 = .ok (.aload_n 2, 1) := by decide +kernel
theorem d_La_law_522 : decode b_La_law 522 = .ok (.aload_n 0, 1) := by decide +kernel
theorem d_La_law_523 : decode b_La_law 523 = .ok (.iload 4, 2) := by decide +kernel
theorem d_La_law_525 : decode b_La_law 525 = .ok (.iconst 1, 1) := by decide +kernel
theorem d_La_law_526 : decode b_La_law 526 = .ok (.iadd, 1) := by decide +kernel
theorem d_La_law_527 : decode b_La_law 527 = .ok (.iaload, 1) := by decide +kernel
theorem d_La_law_528 : decode b_La_law 528 = .ok (.aload_n 0, 1) := by decide +kernel
theorem d_La_law_529 : decode b_La_law 529 = .ok (.iload 4, 2) := by decide +kernel
theorem d_La_law_531 : decode b_La_law 531 = .ok (.iconst 2, 1) := by decide +kernel
theorem d_La_law_532 : decode b_La_law 532 = .ok (.iadd, 1) := by decide +kernel
theorem d_La_law_533 : decode b_La_law 533 = .ok (.iaload, 1) := by decide +kernel
theorem d_La_law_534 : decode b_La_law 534 = .ok (.aload_n 0, 1) := by decide +kernel
theorem d_La_law_535 : decode b_La_law 535 = .ok (.iload 4, 2) := by decide +kernel
theorem d_La_law_537 : decode b_La_law 537 = .ok (.iconst 3, 1) := by decide +kernel
theorem d_La_law_538 : decode b_La_law 538 = .ok (.iadd, 1) := by decide +kernel
theorem d_La_law_539 : decode b_La_law 539 = .ok (.iaload, 1) := by decide +kernel
theorem d_La_law_540 : decode b_La_law 540 = .ok (.invokevirtual 92, 3) := by decide +kernel
theorem d_La_law_543 : decode b_La_law 543 = .ok (.istore 6, 2) := by decide +kernel
theorem d_La_law_545 : decode b_La_law 545 = .ok (.aload_n 2, 1) := by decide +kernel
theorem d_La_law_546 : decode b_La_law 546 = .ok (.invokevirtual 71, 3) := by decide +kernel
theorem d_La_law_549 : decode b_La_law 549 = .ok (.iload 5, 2) := by decide +kernel
theorem d_La_law_551 : decode b_La_law 551 = .ok (.if_icmp .eq 5, 3) := by decide +kernel
theorem d_La_law_554 : decode b_La_law 554 = .ok (.iconst 0, 1) := by decide +kernel
theorem d_La_law_555 : decode b_La_law 555 = .ok (.ireturn, 1) := by decide +kernel
theorem d_La_law_556 : decode b_La_law 556 = .ok (.iload 5, 2) := by decide +kernel
theorem d_La_law_558 : decode b_La_law 558 = .ok (.ifCond .ne 15, 3) := by decide +kernel
theorem d_La_law_561 : decode b_La_law 561 = .ok (.aload_n 3, 1) := by decide +kernel
theorem d_La_law_562 : decode b_La_law 562 = .ok (.iconst 0, 1) := by decide +kernel
theorem d_La_law_563 : decode b_La_law 563 = .ok (.laload, 1) := by decide +kernel
theorem d_La_law_564 : decode b_La_law 564 = .ok (.iload 6, 2) := by decide +kernel
theorem d_La_law_566 : decode b_La_law 566 = .ok (.i2l, 1) := by decide +kernel
theorem d_La_law_567 : decode b_La_law 567 = .ok (.lcmp, 1) := by decide +kernel
theorem d_La_law_568 : decode b_La_law 568 = .ok (.ifCond .eq 5, 3) := by decide +kernel
theorem d_La_law_571 : decode b_La_law 571 = .ok (.iconst 0, 1) := by decide +kernel
theorem d_La_law_572 : decode b_La_law 572 = .ok (.ireturn, 1) := by decide +kernel
theorem d_La_law_573 : decode b_La_law 573 = .ok (.goto 463, 3) := by decide +kernel
theorem d_La_law_576 : decode b_La_law 576 = .ok (.aload_n 1, 1) := by decide +kernel
theorem d_La_law_577 : decode b_La_law 577 = .ok (.aload_n 0, 1) := by decide +kernel
theorem d_La_law_578 : decode b_La_law 578 = .ok (.iload 4, 2) := by decide +kernel
theorem d_La_law_580 : decode b_La_law 580 = .ok (.iconst 1, 1) := by decide +kernel
theorem d_La_law_581 : decode b_La_law 581 = .ok (.iadd, 1) := by decide +kernel
theorem d_La_law_582 : decode b_La_law 582 = .ok (.iaload, 1) := by decide +kernel
theorem d_La_law_583 : decode b_La_law 583 = .ok (.aload_n 0, 1) := by decide +kernel
theorem d_La_law_584 : decode b_La_law 584 = .ok (.iload 4, 2) := by decide +kernel
theorem d_La_law_586 : decode b_La_law 586 = .ok (.iconst 2, 1) := by decide +kernel
theorem d_La_law_587 : decode b_La_law 587 = .ok (.iadd, 1) := by decide +kernel
theorem d_La_law_588 : decode b_La_law 588 = .ok (.iaload, 1) := by decide +kernel
theorem d_La_law_589 : decode b_La_law 589 = .ok (.aload_n 3, 1) := by decide +kernel
theorem d_La_law_590 : decode b_La_law 590 = .ok (.invokestatic 93, 3) := by decide +kernel
theorem d_La_law_593 : decode b_La_law 593 = .ok (.istore 5, 2) := by decide +kernel
theorem d_La_law_595 : decode b_La_law 595 = .ok (.aload_n 2, 1) := by decide +kernel
theorem d_La_law_596 : decode b_La_law 596 = .ok (.aload_n 0, 1) := by decide +kernel
theorem d_La_law_597 : decode b_La_law 597 = .ok (.iload 4, 2) := by decide +kernel
theorem d_La_law_599 : decode b_La_law 599 = .ok (.iconst 1, 1) := by decide +kernel
theorem d_La_law_600 : decode b_La_law 600 = .ok (.iadd, 1) := by decide +kernel
theorem d_La_law_601 : decode b_La_law 601 = .ok (.iaload, 1) := by decide +kernel
theorem d_La_law_602 : decode b_La_law 602 = .ok (.aload_n 0, 1) := by decide +kernel
theorem d_La_law_603 : decode b_La_law 603 = .ok (.iload 4, 2) := by decide +kernel
theorem d_La_law_605 : decode b_La_law 605 = .ok (.iconst 2, 1) := by decide +kernel
theorem d_La_law_606 : decode b_La_law 606 = .ok (.iadd, 1) := by decide +kernel
theorem d_La_law_607 : decode b_La_law 607 = .ok (.iaload, 1) := by decide +kernel
theorem d_La_law_608 : decode b_La_law 608 = .ok (.invokevirtual 95, 3) := by decide +kernel
theorem d_La_law_611 : decode b_La_law 611 = .ok (.istore 6, 2) := by decide +kernel
theorem d_La_law_613 : decode b_La_law 613 = .ok (.aload_n 2, 1) := by decide +kernel
theorem d_La_law_614 : decode b_La_law 614 = .ok (.invokevirtual 71, 3) := by decide +kernel
theorem d_La_law_617 : decode b_La_law 617 = .ok (.iload 5, 2) := by decide +kernel
theorem d_La_law_619 : decode b_La_law 619 = .ok (.if_icmp .eq 5, 3) := by decide +kernel
theorem d_La_law_622 : decode b_La_law 622 = .ok (.iconst 0, 1) := by decide +kernel
theorem d_La_law_623 : decode b_La_law 623 = .ok (.ireturn, 1) := by decide +kernel
theorem d_La_law_624 : decode b_La_law 624 = .ok (.iload 5, 2) := by decide +kernel
theorem d_La_law_626 : decode b_La_law 626 = .ok (.ifCond .ne 15, 3) := by decide +kernel
theorem d_La_law_629 : decode b_La_law 629 = .ok (.aload_n 3, 1) := by decide +kernel
theorem d_La_law_630 : decode b_La_law 630 = .ok (.iconst 0, 1) := by decide +kernel
theorem d_La_law_631 : decode b_La_law 631 = .ok (.laload, 1) := by decide +kernel
theorem d_La_law_632 : decode b_La_law 632 = .ok (.iload 6, 2) := by decide +kernel
theorem d_La_law_634 : decode b_La_law 634 = .ok (.i2l, 1) := by decide +kernel
theorem d_La_law_635 : decode b_La_law 635 = .ok (.lcmp, 1) := by decide +kernel
theorem d_La_law_636 : decode b_La_law 636 = .ok (.ifCond .eq 5, 3) := by decide +kernel
theorem d_La_law_639 : decode b_La_law 639 = .ok (.iconst 0, 1) := by decide +kernel
theorem d_La_law_640 : decode b_La_law 640 = .ok (.ireturn, 1) := by decide +kernel
theorem d_La_law_641 : decode b_La_law 641 = .ok (.goto 395, 3) := by decide +kernel
theorem d_La_law_644 : decode b_La_law 644 = .ok (.aload_n 1, 1) := by decide +kernel
theorem d_La_law_645 : decode b_La_law 645 = .ok (.aload_n 0, 1) := by decide +kernel
theorem d_La_law_646 : decode b_La_law 646 = .ok (.iload 4, 2) := by decide +kernel
theorem d_La_law_648 : decode b_La_law 648 = .ok (.iconst 1, 1) := by decide +kernel
theorem d_La_law_649 : decode b_La_law 649 = .ok (.iadd, 1) := by decide +kernel
theorem d_La_law_650 : decode b_La_law 650 = .ok (.iaload, 1) := by decide +kernel
theorem d_La_law_651 : decode b_La_law 651 = .ok (.aload_n 3, 1) := by decide +kernel
theorem d_La_law_652 : decode b_La_law 652 = .ok (.invokestatic 96, 3) := by decide +kernel
theorem d_La_law_655 : decode b_La_law 655 = .ok (.istore 5, 2) := by decide +kernel
theorem d_La_law_657 : decode b_La_law 657 = .ok (.aload_n 2, 1) := by decide +kernel
theorem d_La_law_658 : decode b_La_law 658 = .ok (.aload_n 0, 1) := by decide +kernel
theorem d_La_law_659 : decode b_La_law 659 = .ok (.iload 4, 2) := by decide +kernel
theorem d_La_law_661 : decode b_La_law 661 = .ok (.iconst 1, 1) := by decide +kernel
theorem d_La_law_662 : decode b_La_law 662 = .ok (.iadd, 1) := by decide +kernel
theorem d_La_law_663 : decode b_La_law 663 = .ok (.iaload, 1) := by decide +kernel
theorem d_La_law_664 : decode b_La_law 664 = .ok (.invokevirtual 98, 3) := by decide +kernel
theorem d_La_law_667 : decode b_La_law 667 = .ok (.istore 6, 2) := by decide +kernel
theorem d_La_law_669 : decode b_La_law 669 = .ok (.aload_n 2, 1) := by decide +kernel
theorem d_La_law_670 : decode b_La_law 670 = .ok (.invokevirtual 71, 3) := by decide +kernel
theorem d_La_law_673 : decode b_La_law 673 = .ok (.iload 5, 2) := by decide +kernel
theorem d_La_law_675 : decode b_La_law 675 = .ok (.if_icmp .eq 5, 3) := by decide +kernel
theorem d_La_law_678 : decode b_La_law 678 = .ok (.iconst 0, 1) := by decide +kernel
theorem d_La_law_679 : decode b_La_law 679 = .ok (.ireturn, 1) := by decide +kernel
theorem d_La_law_680 : decode b_La_law 680 = .ok (.iload 5, 2) := by decide +kernel
theorem d_La_law_682 : decode b_La_law 682 = .ok (.ifCond .ne 15, 3) := by decide +kernel
theorem d_La_law_685 : decode b_La_law 685 = .ok (.aload_n 3, 1) := by decide +kernel
theorem d_La_law_686 : decode b_La_law 686 = .ok (.iconst 0, 1) := by decide +kernel
theorem d_La_law_687 : decode b_La_law 687 = .ok (.laload, 1) := by decide +kernel
theorem d_La_law_688 : decode b_La_law 688 = .ok (.iload 6, 2) := by decide +kernel
theorem d_La_law_690 : decode b_La_law 690 = .ok (.i2l, 1) := by decide +kernel
theorem d_La_law_691 : decode b_La_law 691 = .ok (.lcmp, 1) := by decide +kernel
theorem d_La_law_692 : decode b_La_law 692 = .ok (.ifCond .eq 5, 3) := by decide +kernel
theorem d_La_law_695 : decode b_La_law 695 = .ok (.iconst 0, 1) := by decide +kernel
theorem d_La_law_696 : decode b_La_law 696 = .ok (.ireturn, 1) := by decide +kernel
theorem d_La_law_697 : decode b_La_law 697 = .ok (.goto 339, 3) := by decide +kernel
theorem d_La_law_700 : decode b_La_law 700 = .ok (.aload_n 1, 1) := by decide +kernel
theorem d_La_law_701 : decode b_La_law 701 = .ok (.aload_n 0, 1) := by decide +kernel
theorem d_La_law_702 : decode b_La_law 702 = .ok (.iload 4, 2) := by decide +kernel
theorem d_La_law_704 : decode b_La_law 704 = .ok (.iconst 1, 1) := by decide +kernel
theorem d_La_law_705 : decode b_La_law 705 = .ok (.iadd, 1) := by decide +kernel
theorem d_La_law_706 : decode b_La_law 706 = .ok (.iaload, 1) := by decide +kernel
theorem d_La_law_707 : decode b_La_law 707 = .ok (.aload_n 3, 1) := by decide +kernel
theorem d_La_law_708 : decode b_La_law 708 = .ok (.invokestatic 99, 3) := by decide +kernel
theorem d_La_law_711 : decode b_La_law 711 = .ok (.istore 5, 2) := by decide +kernel
theorem d_La_law_713 : decode b_La_law 713 = .ok (.aload_n 2, 1) := by decide +kernel
theorem d_La_law_714 : decode b_La_law 714 = .ok (.aload_n 0, 1) := by decide +kernel
theorem d_La_law_715 : decode b_La_law 715 = .ok (.iload 4, 2) := by decide +kernel
theorem d_La_law_717 : decode b_La_law 717 = .ok (.iconst 1, 1) := by decide +kernel
theorem d_La_law_718 : decode b_La_law 718 = .ok (.iadd, 1) := by decide +kernel
theorem d_La_law_719 : decode b_La_law 719 = .ok (.iaload, 1) := by decide +kernel
theorem d_La_law_720 : decode b_La_law 720 = .ok (.invokevirtual 101, 3) := by decide +kernel
theorem d_La_law_723 : decode b_La_law 723 = .ok (.istore 6, 2) := by decide +kernel
theorem d_La_law_725 : decode b_La_law 725 = .ok (.aload_n 2, 1) := by decide +kernel
theorem d_La_law_726 : decode b_La_law 726 = .ok (.invokevirtual 71, 3) := by decide +kernel
theorem d_La_law_729 : decode b_La_law 729 = .ok (.iload 5, 2) := by decide +kernel
theorem d_La_law_731 : decode b_La_law 731 = .ok (.if_icmp .eq 5, 3) := by decide +kernel
theorem d_La_law_734 : decode b_La_law 734 = .ok (.iconst 0, 1) := by decide +kernel
theorem d_La_law_735 : decode b_La_law 735 = .ok (.ireturn, 1) := by decide +kernel
theorem d_La_law_736 : decode b_La_law 736 = .ok (.iload 5, 2) := by decide +kernel
theorem d_La_law_738 : decode b_La_law 738 = .ok (.ifCond .ne 15, 3) := by decide +kernel
theorem d_La_law_741 : decode b_La_law 741 = .ok (.aload_n 3, 1) := by decide +kernel
theorem d_La_law_742 : decode b_La_law 742 = .ok (.iconst 0, 1) := by decide +kernel
theorem d_La_law_743 : decode b_La_law 743 = .ok (.laload, 1) := by decide +kernel
theorem d_La_law_744 : decode b_La_law 744 = .ok (.iload 6, 2) := by decide +kernel
theorem d_La_law_746 : decode b_La_law 746 = .ok (.i2l, 1) := by decide +kernel
theorem d_La_law_747 : decode b_La_law 747 = .ok (.lcmp, 1) := by decide +kernel
theorem d_La_law_748 : decode b_La_law 748 = .ok (.ifCond .eq 5, 3) := by decide +kernel
theorem d_La_law_751 : decode b_La_law 751 = .ok (.iconst 0, 1) := by decide +kernel
theorem d_La_law_752 : decode b_La_law 752 = .ok (.ireturn, 1) := by decide +kernel
theorem d_La_law_753 : decode b_La_law 753 = .ok (.goto 283, 3) := by decide +kernel
theorem d_La_law_756 : decode b_La_law 756 = .ok (.aload_n 1, 1) := by decide +kernel
theorem d_La_law_757 : decode b_La_law 757 = .ok (.aload_n 0, 1) := by decide +kernel
theorem d_La_law_758 : decode b_La_law 758 = .ok (.iload 4, 2) := by decide +kernel
theorem d_La_law_760 : decode b_La_law 760 = .ok (.iconst 1, 1) := by decide +kernel
theorem d_La_law_761 : decode b_La_law 761 = .ok (.iadd, 1) := by decide +kernel
theorem d_La_law_762 : decode b_La_law 762 = .ok (.iaload, 1) := by decide +kernel
theorem d_La_law_763 : decode b_La_law 763 = .ok (.aload_n 0, 1) := by decide +kernel
theorem d_La_law_764 : decode b_La_law 764 = .ok (.iload 4, 2) := by decide +kernel
theorem d_La_law_766 : decode b_La_law 766 = .ok (.iconst 2, 1) := by decide +kernel
theorem d_La_law_767 : decode b_La_law 767 = .ok (.iadd, 1) := by decide +kernel
theorem d_La_law_768 : decode b_La_law 768 = .ok (.iaload, 1) := by decide +kernel
theorem d_La_law_769 : decode b_La_law 769 = .ok (.aload_n 3, 1) := by decide +kernel
theorem d_La_law_770 : decode b_La_law 770 = .ok (.invokestatic 102, 3) := by decide +kernel
theorem d_La_law_773 : decode b_La_law 773 = .ok (.istore 5, 2) := by decide +kernel
theorem d_La_law_775 : decode b_La_law 775 = .ok (.aload_n 2, 1) := by decide +kernel
theorem d_La_law_776 : decode b_La_law 776 = .ok (.aload_n 0, 1) := by decide +kernel
theorem d_La_law_777 : decode b_La_law 777 = .ok (.iload 4, 2) := by decide +kernel
theorem d_La_law_779 : decode b_La_law 779 = .ok (.iconst 1, 1) := by decide +kernel
theorem d_La_law_780 : decode b_La_law 780 = .ok (.iadd, 1) := by decide +kernel
theorem d_La_law_781 : decode b_La_law 781 = .ok (.iaload, 1) := by decide +kernel
theorem d_La_law_782 : decode b_La_law 782 = .ok (.aload_n 0, 1) := by decide +kernel
theorem d_La_law_783 : decode b_La_law 783 = .ok (.iload 4, 2) := by decide +kernel
theorem d_La_law_785 : decode b_La_law 785 = .ok (.iconst 2, 1) := by decide +kernel
theorem d_La_law_786 : decode b_La_law 786 = .ok (.iadd, 1) := by decide +kernel
theorem d_La_law_787 : decode b_La_law 787 = .ok (.iaload, 1) := by decide +kernel
theorem d_La_law_788 : decode b_La_law 788 = .ok (.invokevirtual 104, 3) := by decide +kernel
theorem d_La_law_791 : decode b_La_law 791 = .ok (.istore 6, 2) := by decide +kernel
theorem d_La_law_793 : decode b_La_law 793 = .ok (.aload_n 2, 1) := by decide +kernel
theorem d_La_law_794 : decode b_La_law 794 = .ok (.invokevirtual 71, 3) := by decide +kernel
theorem d_La_law_797 : decode b_La_law 797 = .ok (.iload 5, 2) := by decide +kernel
theorem d_La_law_799 : decode b_La_law 799 = .ok (.if_icmp .eq 5, 3) := by decide +kernel
theorem d_La_law_802 : decode b_La_law 802 = .ok (.iconst 0, 1) := by decide +kernel
theorem d_La_law_803 : decode b_La_law 803 = .ok (.ireturn, 1) := by decide +kernel
theorem d_La_law_804 : decode b_La_law 804 = .ok (.iload 5, 2) := by decide +kernel
theorem d_La_law_806 : decode b_La_law 806 = .ok (.ifCond .ne 15, 3) := by decide +kernel
theorem d_La_law_809 : decode b_La_law 809 = .ok (.aload_n 3, 1) := by decide +kernel
theorem d_La_law_810 : decode b_La_law 810 = .ok (.iconst 0, 1) := by decide +kernel
theorem d_La_law_811 : decode b_La_law 811 = .ok (.laload, 1) := by decide +kernel
theorem d_La_law_812 : decode b_La_law 812 = .ok (.iload 6, 2) := by decide +kernel
theorem d_La_law_814 : decode b_La_law 814 = .ok (.i2l, 1) := by decide +kernel
theorem d_La_law_815 : decode b_La_law 815 = .ok (.lcmp, 1) := by decide +kernel
theorem d_La_law_816 : decode b_La_law 816 = .ok (.ifCond .eq 5, 3) := by decide +kernel
theorem d_La_law_819 : decode b_La_law 819 = .ok (.iconst 0, 1) := by decide +kernel
theorem d_La_law_820 : decode b_La_law 820 = .ok (.ireturn, 1) := by decide +kernel
theorem d_La_law_821 : decode b_La_law 821 = .ok (.goto 215, 3) := by decide +kernel
theorem d_La_law_824 : decode b_La_law 824 = .ok (.aload_n 1, 1) := by decide +kernel
theorem d_La_law_825 : decode b_La_law 825 = .ok (.aload_n 0, 1) := by decide +kernel
theorem d_La_law_826 : decode b_La_law 826 = .ok (.iload 4, 2) := by decide +kernel
theorem d_La_law_828 : decode b_La_law 828 = .ok (.iconst 1, 1) := by decide +kernel
theorem d_La_law_829 : decode b_La_law 829 = .ok (.iadd, 1) := by decide +kernel
theorem d_La_law_830 : decode b_La_law 830 = .ok (.iaload, 1) := by decide +kernel
theorem d_La_law_831 : decode b_La_law 831 = .ok (.aload_n 3, 1) := by decide +kernel
theorem d_La_law_832 : decode b_La_law 832 = .ok (.invokestatic 105, 3) := by decide +kernel
theorem d_La_law_835 : decode b_La_law 835 = .ok (.istore 5, 2) := by decide +kernel
theorem d_La_law_837 : decode b_La_law 837 = .ok (.aload_n 2, 1) := by decide +kernel
theorem d_La_law_838 : decode b_La_law 838 = .ok (.aload_n 0, 1) := by decide +kernel
theorem d_La_law_839 : decode b_La_law 839 = .ok (.iload 4, 2) := by decide +kernel
theorem d_La_law_841 : decode b_La_law 841 = .ok (.iconst 1, 1) := by decide +kernel
theorem d_La_law_842 : decode b_La_law 842 = .ok (.iadd, 1) := by decide +kernel
theorem d_La_law_843 : decode b_La_law 843 = .ok (.iaload, 1) := by decide +kernel
theorem d_La_law_844 : decode b_La_law 844 = .ok (.invokevirtual 107, 3) := by decide +kernel
theorem d_La_law_847 : decode b_La_law 847 = .ok (.istore 6, 2) := by decide +kernel
theorem d_La_law_849 : decode b_La_law 849 = .ok (.aload_n 2, 1) := by decide +kernel
theorem d_La_law_850 : decode b_La_law 850 = .ok (.invokevirtual 71, 3) := by decide +kernel
theorem d_La_law_853 : decode b_La_law 853 = .ok (.iload 5, 2) := by decide +kernel
theorem d_La_law_855 : decode b_La_law 855 = .ok (.if_icmp .eq 5, 3) := by decide +kernel
theorem d_La_law_858 : decode b_La_law 858 = .ok (.iconst 0, 1) := by decide +kernel
theorem d_La_law_859 : decode b_La_law 859 = .ok (.ireturn, 1) := by decide +kernel
theorem d_La_law_860 : decode b_La_law 860 = .ok (.iload 5, 2) := by decide +kernel
theorem d_La_law_862 : decode b_La_law 862 = .ok (.ifCond .ne 22, 3) := by decide +kernel
theorem d_La_law_865 : decode b_La_law 865 = .ok (.aload_n 3, 1) := by decide +kernel
theorem d_La_law_866 : decode b_La_law 866 = .ok (.iconst 0, 1) := by decide +kernel
theorem d_La_law_867 : decode b_La_law 867 = .ok (.laload, 1) := by decide +kernel
theorem d_La_law_868 : decode b_La_law 868 = .ok (.iload 6, 2) := by decide +kernel
theorem d_La_law_870 : decode b_La_law 870 = .ok (.ifCond .eq 7, 3) := by decide +kernel
theorem d_La_law_873 : decode b_La_law 873 = .ok (.lconst 1, 1) := by decide +kernel
theorem d_La_law_874 : decode b_La_law 874 = .ok (.goto 4, 3) := by decide +kernel
theorem d_La_law_877 : decode b_La_law 877 = .ok (.lconst 0, 1) := by decide +kernel
theorem d_La_law_878 : decode b_La_law 878 = .ok (.lcmp, 1) := by decide +kernel
theorem d_La_law_879 : decode b_La_law 879 = .ok (.ifCond .eq 5, 3) := by decide +kernel
theorem d_La_law_882 : decode b_La_law 882 = .ok (.iconst 0, 1) := by decide +kernel
theorem d_La_law_883 : decode b_La_law 883 = .ok (.ireturn, 1) := by decide +kernel
theorem d_La_law_884 : decode b_La_law 884 = .ok (.goto 152, 3) := by decide +kernel
theorem d_La_law_887 : decode b_La_law 887 = .ok (.aload_n 1, 1) := by decide +kernel
theorem d_La_law_888 : decode b_La_law 888 = .ok (.aload_n 0, 1) := by decide +kernel
theorem d_La_law_889 : decode b_La_law 889 = .ok (.iload 4, 2) := by decide +kernel
theorem d_La_law_891 : decode b_La_law 891 = .ok (.iconst 1, 1) := by decide +kernel
theorem d_La_law_892 : decode b_La_law 892 = .ok (.iadd, 1) := by decide +kernel
theorem d_La_law_893 : decode b_La_law 893 = .ok (.iaload, 1) := by decide +kernel
theorem d_La_law_894 : decode b_La_law 894 = .ok (.aload_n 3, 1) := by decide +kernel
theorem d_La_law_895 : decode b_La_law 895 = .ok (.invokestatic 108, 3) := by decide +kernel
theorem d_La_law_898 : decode b_La_law 898 = .ok (.istore 5, 2) := by decide +kernel
theorem d_La_law_900 : decode b_La_law 900 = .ok (.aload_n 2, 1) := by decide +kernel
theorem d_La_law_901 : decode b_La_law 901 = .ok (.aload_n 0, 1) := by decide +kernel
theorem d_La_law_902 : decode b_La_law 902 = .ok (.iload 4, 2) := by decide +kernel
theorem d_La_law_904 : decode b_La_law 904 = .ok (.iconst 1, 1) := by decide +kernel
theorem d_La_law_905 : decode b_La_law 905 = .ok (.iadd, 1) := by decide +kernel
theorem d_La_law_906 : decode b_La_law 906 = .ok (.iaload, 1) := by decide +kernel
theorem d_La_law_907 : decode b_La_law 907 = .ok (.invokevirtual 110, 3) := by decide +kernel
theorem d_La_law_910 : decode b_La_law 910 = .ok (.istore 6, 2) := by decide +kernel
theorem d_La_law_912 : decode b_La_law 912 = .ok (.aload_n 2, 1) := by decide +kernel
theorem d_La_law_913 : decode b_La_law 913 = .ok (.invokevirtual 71, 3) := by decide +kernel
theorem d_La_law_916 : decode b_La_law 916 = .ok (.iload 5, 2) := by decide +kernel
theorem d_La_law_918 : decode b_La_law 918 = .ok (.if_icmp .eq 5, 3) := by decide +kernel
theorem d_La_law_921 : decode b_La_law 921 = .ok (.iconst 0, 1) := by decide +kernel
theorem d_La_law_922 : decode b_La_law 922 = .ok (.ireturn, 1) := by decide +kernel
theorem d_La_law_923 : decode b_La_law 923 = .ok (.iload 5, 2) := by decide +kernel
theorem d_La_law_925 : decode b_La_law 925 = .ok (.ifCond .ne 15, 3) := by decide +kernel
theorem d_La_law_928 : decode b_La_law 928 = .ok (.aload_n 3, 1) := by decide +kernel
theorem d_La_law_929 : decode b_La_law 929 = .ok (.iconst 0, 1) := by decide +kernel
theorem d_La_law_930 : decode b_La_law 930 = .ok (.laload, 1) := by decide +kernel
theorem d_La_law_931 : decode b_La_law 931 = .ok (.iload 6, 2) := by decide +kernel
theorem d_La_law_933 : decode b_La_law 933 = .ok (.i2l, 1) := by decide +kernel
theorem d_La_law_934 : decode b_La_law 934 = .ok (.lcmp, 1) := by decide +kernel
theorem d_La_law_935 : decode b_La_law 935 = .ok (.ifCond .eq 5, 3) := by decide +kernel
theorem d_La_law_938 : decode b_La_law 938 = .ok (.iconst 0, 1) := by decide +kernel
theorem d_La_law_939 : decode b_La_law 939 = .ok (.ireturn, 1) := by decide +kernel
theorem d_La_law_940 : decode b_La_law 940 = .ok (.goto 96, 3) := by decide +kernel
theorem d_La_law_943 : decode b_La_law 943 = .ok (.aload_n 1, 1) := by decide +kernel
theorem d_La_law_944 : decode b_La_law 944 = .ok (.aload_n 0, 1) := by decide +kernel
theorem d_La_law_945 : decode b_La_law 945 = .ok (.iload 4, 2) := by decide +kernel
theorem d_La_law_947 : decode b_La_law 947 = .ok (.iconst 1, 1) := by decide +kernel
theorem d_La_law_948 : decode b_La_law 948 = .ok (.iadd, 1) := by decide +kernel
theorem d_La_law_949 : decode b_La_law 949 = .ok (.iaload, 1) := by decide +kernel
theorem d_La_law_950 : decode b_La_law 950 = .ok (.aload_n 0, 1) := by decide +kernel
theorem d_La_law_951 : decode b_La_law 951 = .ok (.iload 4, 2) := by decide +kernel
theorem d_La_law_953 : decode b_La_law 953 = .ok (.iconst 2, 1) := by decide +kernel
theorem d_La_law_954 : decode b_La_law 954 = .ok (.iadd, 1) := by decide +kernel
theorem d_La_law_955 : decode b_La_law 955 = .ok (.iaload, 1) := by decide +kernel
theorem d_La_law_956 : decode b_La_law 956 = .ok (.aload_n 3, 1) := by decide +kernel
theorem d_La_law_957 : decode b_La_law 957 = .ok (.invokestatic 111, 3) := by decide +kernel
theorem d_La_law_960 : decode b_La_law 960 = .ok (.istore 5, 2) := by decide +kernel
theorem d_La_law_962 : decode b_La_law 962 = .ok (.aload_n 2, 1) := by decide +kernel
theorem d_La_law_963 : decode b_La_law 963 = .ok (.aload_n 0, 1) := by decide +kernel
theorem d_La_law_964 : decode b_La_law 964 = .ok (.iload 4, 2) := by decide +kernel
theorem d_La_law_966 : decode b_La_law 966 = .ok (.iconst 1, 1) := by decide +kernel
theorem d_La_law_967 : decode b_La_law 967 = .ok (.iadd, 1) := by decide +kernel
theorem d_La_law_968 : decode b_La_law 968 = .ok (.iaload, 1) := by decide +kernel
theorem d_La_law_969 : decode b_La_law 969 = .ok (.aload_n 0, 1) := by decide +kernel
theorem d_La_law_970 : decode b_La_law 970 = .ok (.iload 4, 2) := by decide +kernel
theorem d_La_law_972 : decode b_La_law 972 = .ok (.iconst 2, 1) := by decide +kernel
theorem d_La_law_973 : decode b_La_law 973 = .ok (.iadd, 1) := by decide +kernel
theorem d_La_law_974 : decode b_La_law 974 = .ok (.iaload, 1) := by decide +kernel
theorem d_La_law_975 : decode b_La_law 975 = .ok (.invokevirtual 113, 3) := by decide +kernel
theorem d_La_law_978 : decode b_La_law 978 = .ok (.istore 6, 2) := by decide +kernel
theorem d_La_law_980 : decode b_La_law 980 = .ok (.aload_n 2, 1) := by decide +kernel
theorem d_La_law_981 : decode b_La_law 981 = .ok (.invokevirtual 71, 3) := by decide +kernel
theorem d_La_law_984 : decode b_La_law 984 = .ok (.iload 5, 2) := by decide +kernel
theorem d_La_law_986 : decode b_La_law 986 = .ok (.if_icmp .eq 5, 3) := by decide +kernel
theorem d_La_law_989 : decode b_La_law 989 = .ok (.iconst 0, 1) := by decide +kernel
theorem d_La_law_990 : decode b_La_law 990 = .ok (.ireturn, 1) := by decide +kernel
theorem d_La_law_991 : decode b_La_law 991 = .ok (.iload 5, 2) := by decide +kernel
theorem d_La_law_993 : decode b_La_law 993 = .ok (.ifCond .ne 15, 3) := by decide +kernel
theorem d_La_law_996 : decode b_La_law 996 = .ok (.aload_n 3, 1) := by decide +kernel
theorem d_La_law_997 : decode b_La_law 997 = .ok (.iconst 0, 1) := by decide +kernel
theorem d_La_law_998 : decode b_La_law 998 = .ok (.laload, 1) := by decide +kernel
theorem d_La_law_999 : decode b_La_law 999 = .ok (.iload 6, 2) := by decide +kernel
theorem d_La_law_1001 : decode b_La_law 1001 = .ok (.i2l, 1) := by decide +kernel
theorem d_La_law_1002 : decode b_La_law 1002 = .ok (.lcmp, 1) := by decide +kernel
theorem d_La_law_1003 : decode b_La_law 1003 = .ok (.ifCond .eq 5, 3) := by decide +kernel
theorem d_La_law_1006 : decode b_La_law 1006 = .ok (.iconst 0, 1) := by decide +kernel
theorem d_La_law_1007 : decode b_La_law 1007 = .ok (.ireturn, 1) := by decide +kernel
theorem d_La_law_1008 : decode b_La_law 1008 = .ok (.goto 28, 3) := by decide +kernel
theorem d_La_law_1011 : decode b_La_law 1011 = .ok (.aload_n 1, 1) := by decide +kernel
theorem d_La_law_1012 : decode b_La_law 1012 = .ok (.aload_n 0, 1) := by decide +kernel
theorem d_La_law_1013 : decode b_La_law 1013 = .ok (.iload 4, 2) := by decide +kernel
theorem d_La_law_1015 : decode b_La_law 1015 = .ok (.iconst 1, 1) := by decide +kernel
theorem d_La_law_1016 : decode b_La_law 1016 = .ok (.iadd, 1) := by decide +kernel
theorem d_La_law_1017 : decode b_La_law 1017 = .ok (.iaload, 1) := by decide +kernel
theorem d_La_law_1018 : decode b_La_law 1018 = .ok (.invokevirtual 114, 3) := by decide +kernel
theorem d_La_law_1021 : decode b_La_law 1021 = .ok (.aload_n 2, 1) := by decide +kernel
theorem d_La_law_1022 : decode b_La_law 1022 = .ok (.aload_n 0, 1) := by decide +kernel
theorem d_La_law_1023 : decode b_La_law 1023 = .ok (.iload 4, 2) := by decide +kernel
theorem d_La_law_1025 : decode b_La_law 1025 = .ok (.iconst 1, 1) := by decide +kernel
theorem d_La_law_1026 : decode b_La_law 1026 = .ok (.iadd, 1) := by decide +kernel
theorem d_La_law_1027 : decode b_La_law 1027 = .ok (.iaload, 1) := by decide +kernel
theorem d_La_law_1028 : decode b_La_law 1028 = .ok (.invokevirtual 117, 3) := by decide +kernel
theorem d_La_law_1031 : decode b_La_law 1031 = .ok (.if_icmp .eq 5, 3) := by decide +kernel
theorem d_La_law_1034 : decode b_La_law 1034 = .ok (.iconst 0, 1) := by decide +kernel
theorem d_La_law_1035 : decode b_La_law 1035 = .ok (.ireturn, 1) := by decide +kernel
theorem d_La_law_1036 : decode b_La_law 1036 = .ok (.iinc 4 5, 3) := by decide +kernel
theorem d_La_law_1039 : decode b_La_law 1039 = .ok (.goto (-1016), 3) := by decide +kernel
theorem d_La_law_1042 : decode b_La_law 1042 = .ok (.iconst 1, 1) := by decide +kernel
theorem d_La_law_1043 : decode b_La_law 1043 = .ok (.ireturn, 1) := by decide +kernel
abbrev hh_La_field : List (Nat × Nat × Nat × Nat) := [(0, 9, 12, 13)]
abbrev ws_La_field : List Cond := .codeWith y_La_field b_La_field 4 (some .int) hh_La_field :: TB
abbrev hh_La_set : List (Nat × Nat × Nat × Nat) := [(0, 12, 15, 19), (0, 12, 19, 13)]
abbrev ws_La_set : List Cond := .codeWith y_La_set b_La_set 6 (some .int) hh_La_set :: TB
abbrev hh_La_get : List (Nat × Nat × Nat × Nat) := [(0, 10, 13, 19), (0, 10, 17, 13)]
abbrev ws_La_get : List Cond := .codeWith y_La_get b_La_get 5 (some .int) hh_La_get :: TB
abbrev hh_La_join : List (Nat × Nat × Nat × Nat) := [(0, 14, 17, 19), (0, 14, 21, 13), (0, 14, 25, 29)]
abbrev ws_La_join : List Cond := .codeWith y_La_join b_La_join 7 (some .int) hh_La_join :: TB
abbrev hh_La_power : List (Nat × Nat × Nat × Nat) := [(0, 14, 17, 19), (0, 14, 21, 13)]
abbrev ws_La_power : List Cond := .codeWith y_La_power b_La_power 7 (some .int) hh_La_power :: TB
abbrev hh_La_inverse : List (Nat × Nat × Nat × Nat) := [(0, 12, 15, 19), (0, 12, 19, 13), (0, 12, 23, 37)]
abbrev ws_La_inverse : List Cond := .codeWith y_La_inverse b_La_inverse 6 (some .int) hh_La_inverse :: TB
abbrev hh_La_value : List (Nat × Nat × Nat × Nat) := [(0, 10, 13, 19)]
abbrev ws_La_value : List Cond := .codeWith y_La_value b_La_value 5 (some .int) hh_La_value :: TB
abbrev hh_La_zeros : List (Nat × Nat × Nat × Nat) := [(0, 9, 12, 19)]
abbrev ws_La_zeros : List Cond := .codeWith y_La_zeros b_La_zeros 4 (some .int) hh_La_zeros :: TB
abbrev hh_La_factor : List (Nat × Nat × Nat × Nat) := [(0, 9, 12, 19), (0, 9, 15, 13)]
abbrev ws_La_factor : List Cond := .codeWith y_La_factor b_La_factor 4 (some .int) hh_La_factor :: TB
abbrev hh_La_piece : List (Nat × Nat × Nat × Nat) := [(0, 10, 13, 19)]
abbrev ws_La_piece : List Cond := .codeWith y_La_piece b_La_piece 5 (some .int) hh_La_piece :: TB
abbrev hh_La_irreducible : List (Nat × Nat × Nat × Nat) := [(0, 16, 19, 19)]
abbrev ws_La_irreducible : List Cond := .codeWith y_La_irreducible b_La_irreducible 4 (some .int) hh_La_irreducible :: TB
abbrev hh_La_order : List (Nat × Nat × Nat × Nat) := [(0, 9, 12, 19), (0, 9, 15, 13)]
abbrev ws_La_order : List Cond := .codeWith y_La_order b_La_order 4 (some .int) hh_La_order :: TB
abbrev hh_La_linear : List (Nat × Nat × Nat × Nat) := [(0, 10, 13, 19), (0, 10, 17, 13)]
abbrev ws_La_linear : List Cond := .codeWith y_La_linear b_La_linear 5 (some .int) hh_La_linear :: TB
