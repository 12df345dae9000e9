theorem dX0_init_0 : decode cX0_init 0 = .ok (.aload_n 0, 1) := by decide +kernel
theorem dX0_init_1 : decode cX0_init 1 = .ok (.invokespecial 3, 3) := by decide +kernel
theorem dX0_init_4 : decode cX0_init 4 = .ok (.aload_n 0, 1) := by decide +kernel
theorem dX0_init_5 : decode cX0_init 5 = .ok (.bipush 23, 2) := by decide +kernel
theorem dX0_init_7 : decode cX0_init 7 = .ok (.newarray .int, 2) := by decide +kernel
theorem dX0_init_9 : decode cX0_init 9 = .ok (.putfield 11, 3) := by decide +kernel
theorem dX0_init_12 : decode cX0_init 12 = .ok (.aload_n 0, 1) := by decide +kernel
theorem dX0_init_13 : decode cX0_init 13 = .ok (.bipush 8, 2) := by decide +kernel
theorem dX0_init_15 : decode cX0_init 15 = .ok (.newarray .int, 2) := by decide +kernel
theorem dX0_init_17 : decode cX0_init 17 = .ok (.putfield 15, 3) := by decide +kernel
theorem dX0_init_20 : decode cX0_init 20 = .ok (.aload_n 0, 1) := by decide +kernel
theorem dX0_init_21 : decode cX0_init 21 = .ok (.iconst (-1), 1) := by decide +kernel
theorem dX0_init_22 : decode cX0_init 22 = .ok (.putfield 18, 3) := by decide +kernel
theorem dX0_init_25 : decode cX0_init 25 = .ok (.return_, 1) := by decide +kernel
theorem dX0_length_0 : decode cX0_length 0 = .ok (.aload_n 0, 1) := by decide +kernel
theorem dX0_length_1 : decode cX0_length 1 = .ok (.getfield 22, 3) := by decide +kernel
theorem dX0_length_4 : decode cX0_length 4 = .ok (.ireturn, 1) := by decide +kernel
theorem dX0_number_0 : decode cX0_number 0 = .ok (.aload_n 0, 1) := by decide +kernel
theorem dX0_number_1 : decode cX0_number 1 = .ok (.getfield 25, 3) := by decide +kernel
theorem dX0_number_4 : decode cX0_number 4 = .ok (.ireturn, 1) := by decide +kernel
theorem dX0_faultPlace_0 : decode cX0_faultPlace 0 = .ok (.aload_n 0, 1) := by decide +kernel
theorem dX0_faultPlace_1 : decode cX0_faultPlace 1 = .ok (.getfield 18, 3) := by decide +kernel
theorem dX0_faultPlace_4 : decode cX0_faultPlace 4 = .ok (.ireturn, 1) := by decide +kernel
theorem dX0_has_0 : decode cX0_has 0 = .ok (.iload_n 1, 1) := by decide +kernel
theorem dX0_has_1 : decode cX0_has 1 = .ok (.iconst 0, 1) := by decide +kernel
theorem dX0_has_2 : decode cX0_has 2 = .ok (.aload_n 0, 1) := by decide +kernel
theorem dX0_has_3 : decode cX0_has 3 = .ok (.getfield 25, 3) := by decide +kernel
theorem dX0_has_6 : decode cX0_has 6 = .ok (.iconst 1, 1) := by decide +kernel
theorem dX0_has_7 : decode cX0_has 7 = .ok (.isub, 1) := by decide +kernel
theorem dX0_has_8 : decode cX0_has 8 = .ok (.invokestatic 28, 3) := by decide +kernel
theorem dX0_has_11 : decode cX0_has 11 = .ok (.ireturn, 1) := by decide +kernel
theorem dX0_fineOf_0 : decode cX0_fineOf 0 = .ok (.aload_n 0, 1) := by decide +kernel
theorem dX0_fineOf_1 : decode cX0_fineOf 1 = .ok (.iload_n 1, 1) := by decide +kernel
theorem dX0_fineOf_2 : decode cX0_fineOf 2 = .ok (.invokevirtual 32, 3) := by decide +kernel
theorem dX0_fineOf_5 : decode cX0_fineOf 5 = .ok (.ifCond .eq 12, 3) := by decide +kernel
theorem dX0_fineOf_8 : decode cX0_fineOf 8 = .ok (.aload_n 0, 1) := by decide +kernel
theorem dX0_fineOf_9 : decode cX0_fineOf 9 = .ok (.getfield 15, 3) := by decide +kernel
theorem dX0_fineOf_12 : decode cX0_fineOf 12 = .ok (.iload_n 1, 1) := by decide +kernel
theorem dX0_fineOf_13 : decode cX0_fineOf 13 = .ok (.iaload, 1) := by decide +kernel
theorem dX0_fineOf_14 : decode cX0_fineOf 14 = .ok (.goto 4, 3) := by decide +kernel
theorem dX0_fineOf_17 : decode cX0_fineOf 17 = .ok (.iconst 0, 1) := by decide +kernel
theorem dX0_fineOf_18 : decode cX0_fineOf 18 = .ok (.ireturn, 1) := by decide +kernel
theorem dX0_elderBits_0 : decode cX0_elderBits 0 = .ok (.aload_n 0, 1) := by decide +kernel
theorem dX0_elderBits_1 : decode cX0_elderBits 1 = .ok (.getfield 36, 3) := by decide +kernel
theorem dX0_elderBits_4 : decode cX0_elderBits 4 = .ok (.ireturn, 1) := by decide +kernel
theorem dX0_youngerBits_0 : decode cX0_youngerBits 0 = .ok (.iconst 0, 1) := by decide +kernel
theorem dX0_youngerBits_1 : decode cX0_youngerBits 1 = .ok (.istore_n 2, 1) := by decide +kernel
theorem dX0_youngerBits_2 : decode cX0_youngerBits 2 = .ok (.iconst 0, 1) := by decide +kernel
theorem dX0_youngerBits_3 : decode cX0_youngerBits 3 = .ok (.istore_n 3, 1) := by decide +kernel
theorem dX0_youngerBits_4 : decode cX0_youngerBits 4 = .ok (.iload_n 3, 1) := by decide +kernel
theorem dX0_youngerBits_5 : decode cX0_youngerBits 5 = .ok (.aload_n 0, 1) := by decide +kernel
theorem dX0_youngerBits_6 : decode cX0_youngerBits 6 = .ok (.getfield 25, 3) := by decide +kernel
theorem dX0_youngerBits_9 : decode cX0_youngerBits 9 = .ok (.if_icmp .ge 20, 3) := by decide +kernel
theorem dX0_youngerBits_12 : decode cX0_youngerBits 12 = .ok (.iload_n 2, 1) := by decide +kernel
theorem dX0_youngerBits_13 : decode cX0_youngerBits 13 = .ok (.aload_n 0, 1) := by decide +kernel
theorem dX0_youngerBits_14 : decode cX0_youngerBits 14 = .ok (.iload_n 3, 1) := by decide +kernel
theorem dX0_youngerBits_15 : decode cX0_youngerBits 15 = .ok (.iload_n 1, 1) := by decide +kernel
theorem dX0_youngerBits_16 : decode cX0_youngerBits 16 = .ok (.invokevirtual 39, 3) := by decide +kernel
theorem dX0_youngerBits_19 : decode cX0_youngerBits 19 = .ok (.iload_n 3, 1) := by decide +kernel
theorem dX0_youngerBits_20 : decode cX0_youngerBits 20 = .ok (.ishl, 1) := by decide +kernel
theorem dX0_youngerBits_21 : decode cX0_youngerBits 21 = .ok (.ior, 1) := by decide +kernel
theorem dX0_youngerBits_22 : decode cX0_youngerBits 22 = .ok (.istore_n 2, 1) := by decide +kernel
theorem dX0_youngerBits_23 : decode cX0_youngerBits 23 = .ok (.iinc 3 1, 3) := by decide +kernel
theorem dX0_youngerBits_26 : decode cX0_youngerBits 26 = .ok (.goto (-22), 3) := by decide +kernel
theorem dX0_youngerBits_29 : decode cX0_youngerBits 29 = .ok (.iload_n 2, 1) := by decide +kernel
theorem dX0_youngerBits_30 : decode cX0_youngerBits 30 = .ok (.ireturn, 1) := by decide +kernel
theorem dX0_append_0 : decode cX0_append 0 = .ok (.aload_n 0, 1) := by decide +kernel
theorem dX0_append_1 : decode cX0_append 1 = .ok (.getfield 22, 3) := by decide +kernel
theorem dX0_append_4 : decode cX0_append 4 = .ok (.bipush 23, 2) := by decide +kernel
theorem dX0_append_6 : decode cX0_append 6 = .ok (.if_icmp .lt 6, 3) := by decide +kernel
theorem dX0_append_9 : decode cX0_append 9 = .ok (.bipush (-4), 2) := by decide +kernel
theorem dX0_append_11 : decode cX0_append 11 = .ok (.ireturn, 1) := by decide +kernel
theorem dX0_append_12 : decode cX0_append 12 = .ok (.aload_n 0, 1) := by decide +kernel
theorem dX0_append_13 : decode cX0_append 13 = .ok (.getfield 11, 3) := by decide +kernel
theorem dX0_append_16 : decode cX0_append 16 = .ok (.aload_n 0, 1) := by decide +kernel
theorem dX0_append_17 : decode cX0_append 17 = .ok (.getfield 22, 3) := by decide +kernel
theorem dX0_append_20 : decode cX0_append 20 = .ok (.iload_n 1, 1) := by decide +kernel
theorem dX0_append_21 : decode cX0_append 21 = .ok (.iastore, 1) := by decide +kernel
theorem dX0_append_22 : decode cX0_append 22 = .ok (.aload_n 0, 1) := by decide +kernel
theorem dX0_append_23 : decode cX0_append 23 = .ok (.dup, 1) := by decide +kernel
theorem dX0_append_24 : decode cX0_append 24 = .ok (.getfield 22, 3) := by decide +kernel
theorem dX0_append_27 : decode cX0_append 27 = .ok (.iconst 1, 1) := by decide +kernel
theorem dX0_append_28 : decode cX0_append 28 = .ok (.iadd, 1) := by decide +kernel
theorem dX0_append_29 : decode cX0_append 29 = .ok (.putfield 22, 3) := by decide +kernel
theorem dX0_append_32 : decode cX0_append 32 = .ok (.aload_n 0, 1) := by decide +kernel
theorem dX0_append_33 : decode cX0_append 33 = .ok (.invokevirtual 43, 3) := by decide +kernel
theorem dX0_append_36 : decode cX0_append 36 = .ok (.aload_n 0, 1) := by decide +kernel
theorem dX0_append_37 : decode cX0_append 37 = .ok (.getfield 22, 3) := by decide +kernel
theorem dX0_append_40 : decode cX0_append 40 = .ok (.ireturn, 1) := by decide +kernel
theorem dX0_dropLast_0 : decode cX0_dropLast 0 = .ok (.aload_n 0, 1) := by decide +kernel
theorem dX0_dropLast_1 : decode cX0_dropLast 1 = .ok (.getfield 22, 3) := by decide +kernel
theorem dX0_dropLast_4 : decode cX0_dropLast 4 = .ok (.ifCond .ne 6, 3) := by decide +kernel
theorem dX0_dropLast_7 : decode cX0_dropLast 7 = .ok (.bipush (-3), 2) := by decide +kernel
theorem dX0_dropLast_9 : decode cX0_dropLast 9 = .ok (.ireturn, 1) := by decide +kernel
theorem dX0_dropLast_10 : decode cX0_dropLast 10 = .ok (.aload_n 0, 1) := by decide +kernel
theorem dX0_dropLast_11 : decode cX0_dropLast 11 = .ok (.dup, 1) := by decide +kernel
theorem dX0_dropLast_12 : decode cX0_dropLast 12 = .ok (.getfield 22, 3) := by decide +kernel
theorem dX0_dropLast_15 : decode cX0_dropLast 15 = .ok (.iconst 1, 1) := by decide +kernel
theorem dX0_dropLast_16 : decode cX0_dropLast 16 = .ok (.isub, 1) := by decide +kernel
theorem dX0_dropLast_17 : decode cX0_dropLast 17 = .ok (.putfield 22, 3) := by decide +kernel
theorem dX0_dropLast_20 : decode cX0_dropLast 20 = .ok (.aload_n 0, 1) := by decide +kernel
theorem dX0_dropLast_21 : decode cX0_dropLast 21 = .ok (.invokevirtual 43, 3) := by decide +kernel
theorem dX0_dropLast_24 : decode cX0_dropLast 24 = .ok (.aload_n 0, 1) := by decide +kernel
theorem dX0_dropLast_25 : decode cX0_dropLast 25 = .ok (.getfield 22, 3) := by decide +kernel
theorem dX0_dropLast_28 : decode cX0_dropLast 28 = .ok (.ireturn, 1) := by decide +kernel
theorem dX0_clear_0 : decode cX0_clear 0 = .ok (.aload_n 0, 1) := by decide +kernel
theorem dX0_clear_1 : decode cX0_clear 1 = .ok (.getfield 22, 3) := by decide +kernel
theorem dX0_clear_4 : decode cX0_clear 4 = .ok (.istore_n 1, 1) := by decide +kernel
theorem dX0_clear_5 : decode cX0_clear 5 = .ok (.aload_n 0, 1) := by decide +kernel
theorem dX0_clear_6 : decode cX0_clear 6 = .ok (.iconst 0, 1) := by decide +kernel
theorem dX0_clear_7 : decode cX0_clear 7 = .ok (.putfield 22, 3) := by decide +kernel
theorem dX0_clear_10 : decode cX0_clear 10 = .ok (.aload_n 0, 1) := by decide +kernel
theorem dX0_clear_11 : decode cX0_clear 11 = .ok (.invokevirtual 43, 3) := by decide +kernel
theorem dX0_clear_14 : decode cX0_clear 14 = .ok (.iload_n 1, 1) := by decide +kernel
theorem dX0_clear_15 : decode cX0_clear 15 = .ok (.ireturn, 1) := by decide +kernel
theorem dX0_youngerSays_0 : decode cX0_youngerSays 0 = .ok (.iload_n 2, 1) := by decide +kernel
theorem dX0_youngerSays_1 : decode cX0_youngerSays 1 = .ok (.iconst 2, 1) := by decide +kernel
theorem dX0_youngerSays_2 : decode cX0_youngerSays 2 = .ok (.if_icmp .ne 28, 3) := by decide +kernel
theorem dX0_youngerSays_5 : decode cX0_youngerSays 5 = .ok (.aload_n 0, 1) := by decide +kernel
theorem dX0_youngerSays_6 : decode cX0_youngerSays 6 = .ok (.getfield 36, 3) := by decide +kernel
theorem dX0_youngerSays_9 : decode cX0_youngerSays 9 = .ok (.iload_n 1, 1) := by decide +kernel
theorem dX0_youngerSays_10 : decode cX0_youngerSays 10 = .ok (.iconst 1, 1) := by decide +kernel
theorem dX0_youngerSays_11 : decode cX0_youngerSays 11 = .ok (.iadd, 1) := by decide +kernel
theorem dX0_youngerSays_12 : decode cX0_youngerSays 12 = .ok (.aload_n 0, 1) := by decide +kernel
theorem dX0_youngerSays_13 : decode cX0_youngerSays 13 = .ok (.getfield 25, 3) := by decide +kernel
theorem dX0_youngerSays_16 : decode cX0_youngerSays 16 = .ok (.if_icmp .ge 9, 3) := by decide +kernel
theorem dX0_youngerSays_19 : decode cX0_youngerSays 19 = .ok (.iload_n 1, 1) := by decide +kernel
theorem dX0_youngerSays_20 : decode cX0_youngerSays 20 = .ok (.iconst 1, 1) := by decide +kernel
theorem dX0_youngerSays_21 : decode cX0_youngerSays 21 = .ok (.iadd, 1) := by decide +kernel
theorem dX0_youngerSays_22 : decode cX0_youngerSays 22 = .ok (.goto 4, 3) := by decide +kernel
theorem dX0_youngerSays_25 : decode cX0_youngerSays 25 = .ok (.iconst 0, 1) := by decide +kernel
theorem dX0_youngerSays_26 : decode cX0_youngerSays 26 = .ok (.invokestatic 46, 3) := by decide +kernel
theorem dX0_youngerSays_29 : decode cX0_youngerSays 29 = .ok (.ireturn, 1) := by decide +kernel
theorem dX0_youngerSays_30 : decode cX0_youngerSays 30 = .ok (.iload_n 1, 1) := by decide +kernel
theorem dX0_youngerSays_31 : decode cX0_youngerSays 31 = .ok (.iconst 1, 1) := by decide +kernel
theorem dX0_youngerSays_32 : decode cX0_youngerSays 32 = .ok (.ixor, 1) := by decide +kernel
theorem dX0_youngerSays_33 : decode cX0_youngerSays 33 = .ok (.istore_n 3, 1) := by decide +kernel
theorem dX0_youngerSays_34 : decode cX0_youngerSays 34 = .ok (.iload_n 2, 1) := by decide +kernel
theorem dX0_youngerSays_35 : decode cX0_youngerSays 35 = .ok (.iconst 1, 1) := by decide +kernel
theorem dX0_youngerSays_36 : decode cX0_youngerSays 36 = .ok (.if_icmp .ne 20, 3) := by decide +kernel
theorem dX0_youngerSays_39 : decode cX0_youngerSays 39 = .ok (.iload_n 3, 1) := by decide +kernel
theorem dX0_youngerSays_40 : decode cX0_youngerSays 40 = .ok (.aload_n 0, 1) := by decide +kernel
theorem dX0_youngerSays_41 : decode cX0_youngerSays 41 = .ok (.getfield 25, 3) := by decide +kernel
theorem dX0_youngerSays_44 : decode cX0_youngerSays 44 = .ok (.if_icmp .ge 12, 3) := by decide +kernel
theorem dX0_youngerSays_47 : decode cX0_youngerSays 47 = .ok (.aload_n 0, 1) := by decide +kernel
theorem dX0_youngerSays_48 : decode cX0_youngerSays 48 = .ok (.getfield 36, 3) := by decide +kernel
theorem dX0_youngerSays_51 : decode cX0_youngerSays 51 = .ok (.iload_n 3, 1) := by decide +kernel
theorem dX0_youngerSays_52 : decode cX0_youngerSays 52 = .ok (.invokestatic 46, 3) := by decide +kernel
theorem dX0_youngerSays_55 : decode cX0_youngerSays 55 = .ok (.ireturn, 1) := by decide +kernel
theorem dX0_youngerSays_56 : decode cX0_youngerSays 56 = .ok (.iconst 1, 1) := by decide +kernel
theorem dX0_youngerSays_57 : decode cX0_youngerSays 57 = .ok (.aload_n 0, 1) := by decide +kernel
theorem dX0_youngerSays_58 : decode cX0_youngerSays 58 = .ok (.getfield 36, 3) := by decide +kernel
theorem dX0_youngerSays_61 : decode cX0_youngerSays 61 = .ok (.iload_n 1, 1) := by decide +kernel
theorem dX0_youngerSays_62 : decode cX0_youngerSays 62 = .ok (.invokestatic 46, 3) := by decide +kernel
theorem dX0_youngerSays_65 : decode cX0_youngerSays 65 = .ok (.isub, 1) := by decide +kernel
theorem dX0_youngerSays_66 : decode cX0_youngerSays 66 = .ok (.ireturn, 1) := by decide +kernel
theorem dX0_parse_0 : decode cX0_parse 0 = .ok (.aload_n 0, 1) := by decide +kernel
theorem dX0_parse_1 : decode cX0_parse 1 = .ok (.iconst 0, 1) := by decide +kernel
theorem dX0_parse_2 : decode cX0_parse 2 = .ok (.putfield 25, 3) := by decide +kernel
theorem dX0_parse_5 : decode cX0_parse 5 = .ok (.aload_n 0, 1) := by decide +kernel
theorem dX0_parse_6 : decode cX0_parse 6 = .ok (.iconst 0, 1) := by decide +kernel
theorem dX0_parse_7 : decode cX0_parse 7 = .ok (.putfield 36, 3) := by decide +kernel
theorem dX0_parse_10 : decode cX0_parse 10 = .ok (.aload_n 0, 1) := by decide +kernel
theorem dX0_parse_11 : decode cX0_parse 11 = .ok (.aload_n 0, 1) := by decide +kernel
theorem dX0_parse_12 : decode cX0_parse 12 = .ok (.invokevirtual 49, 3) := by decide +kernel
theorem dX0_parse_15 : decode cX0_parse 15 = .ok (.putfield 18, 3) := by decide +kernel
theorem dX0_parse_18 : decode cX0_parse 18 = .ok (.aload_n 0, 1) := by decide +kernel
theorem dX0_parse_19 : decode cX0_parse 19 = .ok (.getfield 18, 3) := by decide +kernel
theorem dX0_parse_22 : decode cX0_parse 22 = .ok (.iconst (-1), 1) := by decide +kernel
theorem dX0_parse_23 : decode cX0_parse 23 = .ok (.if_icmp .eq 4, 3) := by decide +kernel
theorem dX0_parse_26 : decode cX0_parse 26 = .ok (.return_, 1) := by decide +kernel
theorem dX0_parse_27 : decode cX0_parse 27 = .ok (.iconst 0, 1) := by decide +kernel
theorem dX0_parse_28 : decode cX0_parse 28 = .ok (.istore_n 1, 1) := by decide +kernel
theorem dX0_parse_29 : decode cX0_parse 29 = .ok (.iload_n 1, 1) := by decide +kernel
theorem dX0_parse_30 : decode cX0_parse 30 = .ok (.iconst 1, 1) := by decide +kernel
theorem dX0_parse_31 : decode cX0_parse 31 = .ok (.iadd, 1) := by decide +kernel
theorem dX0_parse_32 : decode cX0_parse 32 = .ok (.aload_n 0, 1) := by decide +kernel
theorem dX0_parse_33 : decode cX0_parse 33 = .ok (.getfield 22, 3) := by decide +kernel
theorem dX0_parse_36 : decode cX0_parse 36 = .ok (.if_icmp .ge 74, 3) := by decide +kernel
theorem dX0_parse_39 : decode cX0_parse 39 = .ok (.aload_n 0, 1) := by decide +kernel
theorem dX0_parse_40 : decode cX0_parse 40 = .ok (.getfield 25, 3) := by decide +kernel
theorem dX0_parse_43 : decode cX0_parse 43 = .ok (.bipush 8, 2) := by decide +kernel
theorem dX0_parse_45 : decode cX0_parse 45 = .ok (.if_icmp .ge 65, 3) := by decide +kernel
theorem dX0_parse_48 : decode cX0_parse 48 = .ok (.aload_n 0, 1) := by decide +kernel
theorem dX0_parse_49 : decode cX0_parse 49 = .ok (.getfield 15, 3) := by decide +kernel
theorem dX0_parse_52 : decode cX0_parse 52 = .ok (.aload_n 0, 1) := by decide +kernel
theorem dX0_parse_53 : decode cX0_parse 53 = .ok (.getfield 25, 3) := by decide +kernel
theorem dX0_parse_56 : decode cX0_parse 56 = .ok (.aload_n 0, 1) := by decide +kernel
theorem dX0_parse_57 : decode cX0_parse 57 = .ok (.getfield 11, 3) := by decide +kernel
theorem dX0_parse_60 : decode cX0_parse 60 = .ok (.iload_n 1, 1) := by decide +kernel
theorem dX0_parse_61 : decode cX0_parse 61 = .ok (.iaload, 1) := by decide +kernel
theorem dX0_parse_62 : decode cX0_parse 62 = .ok (.bipush 48, 2) := by decide +kernel
theorem dX0_parse_64 : decode cX0_parse 64 = .ok (.isub, 1) := by decide +kernel
theorem dX0_parse_65 : decode cX0_parse 65 = .ok (.iastore, 1) := by decide +kernel
theorem dX0_parse_66 : decode cX0_parse 66 = .ok (.aload_n 0, 1) := by decide +kernel
theorem dX0_parse_67 : decode cX0_parse 67 = .ok (.getfield 11, 3) := by decide +kernel
theorem dX0_parse_70 : decode cX0_parse 70 = .ok (.iload_n 1, 1) := by decide +kernel
theorem dX0_parse_71 : decode cX0_parse 71 = .ok (.iconst 1, 1) := by decide +kernel
theorem dX0_parse_72 : decode cX0_parse 72 = .ok (.iadd, 1) := by decide +kernel
theorem dX0_parse_73 : decode cX0_parse 73 = .ok (.iaload, 1) := by decide +kernel
theorem dX0_parse_74 : decode cX0_parse 74 = .ok (.bipush 97, 2) := by decide +kernel
theorem dX0_parse_76 : decode cX0_parse 76 = .ok (.if_icmp .ne 18, 3) := by decide +kernel
theorem dX0_parse_79 : decode cX0_parse 79 = .ok (.aload_n 0, 1) := by decide +kernel
theorem dX0_parse_80 : decode cX0_parse 80 = .ok (.dup, 1) := by decide +kernel
theorem dX0_parse_81 : decode cX0_parse 81 = .ok (.getfield 36, 3) := by decide +kernel
theorem dX0_parse_84 : decode cX0_parse 84 = .ok (.iconst 1, 1) := by decide +kernel
theorem dX0_parse_85 : decode cX0_parse 85 = .ok (.aload_n 0, 1) := by decide +kernel
theorem dX0_parse_86 : decode cX0_parse 86 = .ok (.getfield 25, 3) := by decide +kernel
theorem dX0_parse_89 : decode cX0_parse 89 = .ok (.ishl, 1) := by decide +kernel
theorem dX0_parse_90 : decode cX0_parse 90 = .ok (.ior, 1) := by decide +kernel
theorem dX0_parse_91 : decode cX0_parse 91 = .ok (.putfield 36, 3) := by decide +kernel
theorem dX0_parse_94 : decode cX0_parse 94 = .ok (.aload_n 0, 1) := by decide +kernel
theorem dX0_parse_95 : decode cX0_parse 95 = .ok (.dup, 1) := by decide +kernel
theorem dX0_parse_96 : decode cX0_parse 96 = .ok (.getfield 25, 3) := by decide +kernel
theorem dX0_parse_99 : decode cX0_parse 99 = .ok (.iconst 1, 1) := by decide +kernel
theorem dX0_parse_100 : decode cX0_parse 100 = .ok (.iadd, 1) := by decide +kernel
theorem dX0_parse_101 : decode cX0_parse 101 = .ok (.putfield 25, 3) := by decide +kernel
theorem dX0_parse_104 : decode cX0_parse 104 = .ok (.iinc 1 3, 3) := by decide +kernel
theorem dX0_parse_107 : decode cX0_parse 107 = .ok (.goto (-78), 3) := by decide +kernel
theorem dX0_parse_110 : decode cX0_parse 110 = .ok (.return_, 1) := by decide +kernel
theorem dX0_findFault_0 : decode cX0_findFault 0 = .ok (.iconst 0, 1) := by decide +kernel
theorem dX0_findFault_1 : decode cX0_findFault 1 = .ok (.istore_n 1, 1) := by decide +kernel
theorem dX0_findFault_2 : decode cX0_findFault 2 = .ok (.iload_n 1, 1) := by decide +kernel
theorem dX0_findFault_3 : decode cX0_findFault 3 = .ok (.aload_n 0, 1) := by decide +kernel
theorem dX0_findFault_4 : decode cX0_findFault 4 = .ok (.getfield 22, 3) := by decide +kernel
theorem dX0_findFault_7 : decode cX0_findFault 7 = .ok (.if_icmp .ge 19, 3) := by decide +kernel
theorem dX0_findFault_10 : decode cX0_findFault 10 = .ok (.aload_n 0, 1) := by decide +kernel
theorem dX0_findFault_11 : decode cX0_findFault 11 = .ok (.iload_n 1, 1) := by decide +kernel
theorem dX0_findFault_12 : decode cX0_findFault 12 = .ok (.invokevirtual 53, 3) := by decide +kernel
theorem dX0_findFault_15 : decode cX0_findFault 15 = .ok (.ifCond .ne 5, 3) := by decide +kernel
theorem dX0_findFault_18 : decode cX0_findFault 18 = .ok (.iload_n 1, 1) := by decide +kernel
theorem dX0_findFault_19 : decode cX0_findFault 19 = .ok (.ireturn, 1) := by decide +kernel
theorem dX0_findFault_20 : decode cX0_findFault 20 = .ok (.iinc 1 1, 3) := by decide +kernel
theorem dX0_findFault_23 : decode cX0_findFault 23 = .ok (.goto (-21), 3) := by decide +kernel
theorem dX0_findFault_26 : decode cX0_findFault 26 = .ok (.aload_n 0, 1) := by decide +kernel
theorem dX0_findFault_27 : decode cX0_findFault 27 = .ok (.getfield 22, 3) := by decide +kernel
theorem dX0_findFault_30 : decode cX0_findFault 30 = .ok (.ifCond .eq 13, 3) := by decide +kernel
theorem dX0_findFault_33 : decode cX0_findFault 33 = .ok (.aload_n 0, 1) := by decide +kernel
theorem dX0_findFault_34 : decode cX0_findFault 34 = .ok (.getfield 22, 3) := by decide +kernel
theorem dX0_findFault_37 : decode cX0_findFault 37 = .ok (.iconst 3, 1) := by decide +kernel
theorem dX0_findFault_38 : decode cX0_findFault 38 = .ok (.irem, 1) := by decide +kernel
theorem dX0_findFault_39 : decode cX0_findFault 39 = .ok (.iconst 2, 1) := by decide +kernel
theorem dX0_findFault_40 : decode cX0_findFault 40 = .ok (.if_icmp .ne 7, 3) := by decide +kernel
theorem dX0_findFault_43 : decode cX0_findFault 43 = .ok (.iconst (-1), 1) := by decide +kernel
theorem dX0_findFault_44 : decode cX0_findFault 44 = .ok (.goto 7, 3) := by decide +kernel
theorem dX0_findFault_47 : decode cX0_findFault 47 = .ok (.aload_n 0, 1) := by decide +kernel
theorem dX0_findFault_48 : decode cX0_findFault 48 = .ok (.getfield 22, 3) := by decide +kernel
theorem dX0_findFault_51 : decode cX0_findFault 51 = .ok (.ireturn, 1) := by decide +kernel
theorem dX0_fits_0 : decode cX0_fits 0 = .ok (.iload_n 1, 1) := by decide +kernel
theorem dX0_fits_1 : decode cX0_fits 1 = .ok (.iconst 0, 1) := by decide +kernel
theorem dX0_fits_2 : decode cX0_fits 2 = .ok (.aload_n 0, 1) := by decide +kernel
theorem dX0_fits_3 : decode cX0_fits 3 = .ok (.getfield 22, 3) := by decide +kernel
theorem dX0_fits_6 : decode cX0_fits 6 = .ok (.iconst 1, 1) := by decide +kernel
theorem dX0_fits_7 : decode cX0_fits 7 = .ok (.isub, 1) := by decide +kernel
theorem dX0_fits_8 : decode cX0_fits 8 = .ok (.invokestatic 28, 3) := by decide +kernel
theorem dX0_fits_11 : decode cX0_fits 11 = .ok (.ifCond .eq 9, 3) := by decide +kernel
theorem dX0_fits_14 : decode cX0_fits 14 = .ok (.iload_n 1, 1) := by decide +kernel
theorem dX0_fits_15 : decode cX0_fits 15 = .ok (.bipush 24, 2) := by decide +kernel
theorem dX0_fits_17 : decode cX0_fits 17 = .ok (.if_icmp .lt 5, 3) := by decide +kernel
theorem dX0_fits_20 : decode cX0_fits 20 = .ok (.iconst 0, 1) := by decide +kernel
theorem dX0_fits_21 : decode cX0_fits 21 = .ok (.ireturn, 1) := by decide +kernel
theorem dX0_fits_22 : decode cX0_fits 22 = .ok (.aload_n 0, 1) := by decide +kernel
theorem dX0_fits_23 : decode cX0_fits 23 = .ok (.getfield 11, 3) := by decide +kernel
theorem dX0_fits_26 : decode cX0_fits 26 = .ok (.iload_n 1, 1) := by decide +kernel
theorem dX0_fits_27 : decode cX0_fits 27 = .ok (.iaload, 1) := by decide +kernel
theorem dX0_fits_28 : decode cX0_fits 28 = .ok (.istore_n 2, 1) := by decide +kernel
theorem dX0_fits_29 : decode cX0_fits 29 = .ok (.iload_n 1, 1) := by decide +kernel
theorem dX0_fits_30 : decode cX0_fits 30 = .ok (.iconst 3, 1) := by decide +kernel
theorem dX0_fits_31 : decode cX0_fits 31 = .ok (.irem, 1) := by decide +kernel
theorem dX0_fits_32 : decode cX0_fits 32 = .ok (.lookupswitch 55 #[(0, 28), (1, 37)], 28) := by decide +kernel
theorem dX0_fits_60 : decode cX0_fits 60 = .ok (.iload_n 2, 1) := by decide +kernel
theorem dX0_fits_61 : decode cX0_fits 61 = .ok (.bipush 48, 2) := by decide +kernel
theorem dX0_fits_63 : decode cX0_fits 63 = .ok (.bipush 57, 2) := by decide +kernel
theorem dX0_fits_65 : decode cX0_fits 65 = .ok (.invokestatic 28, 3) := by decide +kernel
theorem dX0_fits_68 : decode cX0_fits 68 = .ok (.ireturn, 1) := by decide +kernel
theorem dX0_fits_69 : decode cX0_fits 69 = .ok (.iload_n 2, 1) := by decide +kernel
theorem dX0_fits_70 : decode cX0_fits 70 = .ok (.bipush 97, 2) := by decide +kernel
theorem dX0_fits_72 : decode cX0_fits 72 = .ok (.if_icmp .eq 9, 3) := by decide +kernel
theorem dX0_fits_75 : decode cX0_fits 75 = .ok (.iload_n 2, 1) := by decide +kernel
theorem dX0_fits_76 : decode cX0_fits 76 = .ok (.bipush 102, 2) := by decide +kernel
theorem dX0_fits_78 : decode cX0_fits 78 = .ok (.if_icmp .ne 7, 3) := by decide +kernel
theorem dX0_fits_81 : decode cX0_fits 81 = .ok (.iconst 1, 1) := by decide +kernel
theorem dX0_fits_82 : decode cX0_fits 82 = .ok (.goto 4, 3) := by decide +kernel
theorem dX0_fits_85 : decode cX0_fits 85 = .ok (.iconst 0, 1) := by decide +kernel
theorem dX0_fits_86 : decode cX0_fits 86 = .ok (.ireturn, 1) := by decide +kernel
theorem dX0_fits_87 : decode cX0_fits 87 = .ok (.iload_n 2, 1) := by decide +kernel
theorem dX0_fits_88 : decode cX0_fits 88 = .ok (.bipush 59, 2) := by decide +kernel
theorem dX0_fits_90 : decode cX0_fits 90 = .ok (.if_icmp .ne 7, 3) := by decide +kernel
theorem dX0_fits_93 : decode cX0_fits 93 = .ok (.iconst 1, 1) := by decide +kernel
theorem dX0_fits_94 : decode cX0_fits 94 = .ok (.goto 4, 3) := by decide +kernel
theorem dX0_fits_97 : decode cX0_fits 97 = .ok (.iconst 0, 1) := by decide +kernel
theorem dX0_fits_98 : decode cX0_fits 98 = .ok (.ireturn, 1) := by decide +kernel
theorem dX1_init_0 : decode cX1_init 0 = .ok (.aload_n 0, 1) := by decide +kernel
theorem dX1_init_1 : decode cX1_init 1 = .ok (.invokespecial 3, 3) := by decide +kernel
theorem dX1_init_4 : decode cX1_init 4 = .ok (.aload_n 0, 1) := by decide +kernel
theorem dX1_init_5 : decode cX1_init 5 = .ok (.bipush 40, 2) := by decide +kernel
theorem dX1_init_7 : decode cX1_init 7 = .ok (.newarray .int, 2) := by decide +kernel
theorem dX1_init_9 : decode cX1_init 9 = .ok (.putfield 9, 3) := by decide +kernel
theorem dX1_init_12 : decode cX1_init 12 = .ok (.aload_n 0, 1) := by decide +kernel
theorem dX1_init_13 : decode cX1_init 13 = .ok (.bipush 40, 2) := by decide +kernel
theorem dX1_init_15 : decode cX1_init 15 = .ok (.newarray .int, 2) := by decide +kernel
theorem dX1_init_17 : decode cX1_init 17 = .ok (.putfield 15, 3) := by decide +kernel
theorem dX1_init_20 : decode cX1_init 20 = .ok (.aload_n 0, 1) := by decide +kernel
theorem dX1_init_21 : decode cX1_init 21 = .ok (.bipush 40, 2) := by decide +kernel
theorem dX1_init_23 : decode cX1_init 23 = .ok (.newarray .int, 2) := by decide +kernel
theorem dX1_init_25 : decode cX1_init 25 = .ok (.putfield 18, 3) := by decide +kernel
theorem dX1_init_28 : decode cX1_init 28 = .ok (.aload_n 0, 1) := by decide +kernel
theorem dX1_init_29 : decode cX1_init 29 = .ok (.bipush 40, 2) := by decide +kernel
theorem dX1_init_31 : decode cX1_init 31 = .ok (.newarray .int, 2) := by decide +kernel
theorem dX1_init_33 : decode cX1_init 33 = .ok (.putfield 21, 3) := by decide +kernel
theorem dX1_init_36 : decode cX1_init 36 = .ok (.aload_n 0, 1) := by decide +kernel
theorem dX1_init_37 : decode cX1_init 37 = .ok (.bipush 40, 2) := by decide +kernel
theorem dX1_init_39 : decode cX1_init 39 = .ok (.newarray .int, 2) := by decide +kernel
theorem dX1_init_41 : decode cX1_init 41 = .ok (.putfield 24, 3) := by decide +kernel
theorem dX1_init_44 : decode cX1_init 44 = .ok (.return_, 1) := by decide +kernel
theorem dX1_seat_0 : decode cX1_seat 0 = .ok (.iconst 0, 1) := by decide +kernel
theorem dX1_seat_1 : decode cX1_seat 1 = .ok (.istore_n 3, 1) := by decide +kernel
theorem dX1_seat_2 : decode cX1_seat 2 = .ok (.iload_n 3, 1) := by decide +kernel
theorem dX1_seat_3 : decode cX1_seat 3 = .ok (.bipush 40, 2) := by decide +kernel
theorem dX1_seat_5 : decode cX1_seat 5 = .ok (.if_icmp .ge 21, 3) := by decide +kernel
theorem dX1_seat_8 : decode cX1_seat 8 = .ok (.aload_n 0, 1) := by decide +kernel
theorem dX1_seat_9 : decode cX1_seat 9 = .ok (.getfield 9, 3) := by decide +kernel
theorem dX1_seat_12 : decode cX1_seat 12 = .ok (.iload_n 3, 1) := by decide +kernel
theorem dX1_seat_13 : decode cX1_seat 13 = .ok (.iload_n 3, 1) := by decide +kernel
theorem dX1_seat_14 : decode cX1_seat 14 = .ok (.aload_n 1, 1) := by decide +kernel
theorem dX1_seat_15 : decode cX1_seat 15 = .ok (.aload_n 2, 1) := by decide +kernel
theorem dX1_seat_16 : decode cX1_seat 16 = .ok (.invokestatic 27, 3) := by decide +kernel
theorem dX1_seat_19 : decode cX1_seat 19 = .ok (.iastore, 1) := by decide +kernel
theorem dX1_seat_20 : decode cX1_seat 20 = .ok (.iinc 3 1, 3) := by decide +kernel
theorem dX1_seat_23 : decode cX1_seat 23 = .ok (.goto (-21), 3) := by decide +kernel
theorem dX1_seat_26 : decode cX1_seat 26 = .ok (.return_, 1) := by decide +kernel
theorem dX1_speak_0 : decode cX1_speak 0 = .ok (.aload_n 0, 1) := by decide +kernel
theorem dX1_speak_1 : decode cX1_speak 1 = .ok (.aload_n 1, 1) := by decide +kernel
theorem dX1_speak_2 : decode cX1_speak 2 = .ok (.invokevirtual 31, 3) := by decide +kernel
theorem dX1_speak_5 : decode cX1_speak 5 = .ok (.putfield 37, 3) := by decide +kernel
theorem dX1_speak_8 : decode cX1_speak 8 = .ok (.aload_n 0, 1) := by decide +kernel
theorem dX1_speak_9 : decode cX1_speak 9 = .ok (.aload_n 3, 1) := by decide +kernel
theorem dX1_speak_10 : decode cX1_speak 10 = .ok (.iload 4, 2) := by decide +kernel
theorem dX1_speak_12 : decode cX1_speak 12 = .ok (.invokevirtual 40, 3) := by decide +kernel
theorem dX1_speak_15 : decode cX1_speak 15 = .ok (.aload_n 1, 1) := by decide +kernel
theorem dX1_speak_16 : decode cX1_speak 16 = .ok (.invokevirtual 44, 3) := by decide +kernel
theorem dX1_speak_19 : decode cX1_speak 19 = .ok (.istore 5, 2) := by decide +kernel
theorem dX1_speak_21 : decode cX1_speak 21 = .ok (.aload_n 1, 1) := by decide +kernel
theorem dX1_speak_22 : decode cX1_speak 22 = .ok (.iload_n 2, 1) := by decide +kernel
theorem dX1_speak_23 : decode cX1_speak 23 = .ok (.invokevirtual 47, 3) := by decide +kernel
theorem dX1_speak_26 : decode cX1_speak 26 = .ok (.istore 6, 2) := by decide +kernel
theorem dX1_speak_28 : decode cX1_speak 28 = .ok (.iconst 0, 1) := by decide +kernel
theorem dX1_speak_29 : decode cX1_speak 29 = .ok (.istore 7, 2) := by decide +kernel
theorem dX1_speak_31 : decode cX1_speak 31 = .ok (.iload 7, 2) := by decide +kernel
theorem dX1_speak_33 : decode cX1_speak 33 = .ok (.bipush 40, 2) := by decide +kernel
theorem dX1_speak_35 : decode cX1_speak 35 = .ok (.if_icmp .ge 100, 3) := by decide +kernel
theorem dX1_speak_38 : decode cX1_speak 38 = .ok (.aload_n 0, 1) := by decide +kernel
theorem dX1_speak_39 : decode cX1_speak 39 = .ok (.getfield 9, 3) := by decide +kernel
theorem dX1_speak_42 : decode cX1_speak 42 = .ok (.iload 7, 2) := by decide +kernel
theorem dX1_speak_44 : decode cX1_speak 44 = .ok (.iaload, 1) := by decide +kernel
theorem dX1_speak_45 : decode cX1_speak 45 = .ok (.istore 8, 2) := by decide +kernel
theorem dX1_speak_47 : decode cX1_speak 47 = .ok (.aload_n 0, 1) := by decide +kernel
theorem dX1_speak_48 : decode cX1_speak 48 = .ok (.getfield 15, 3) := by decide +kernel
theorem dX1_speak_51 : decode cX1_speak 51 = .ok (.iload 7, 2) := by decide +kernel
theorem dX1_speak_53 : decode cX1_speak 53 = .ok (.iload 5, 2) := by decide +kernel
theorem dX1_speak_55 : decode cX1_speak 55 = .ok (.iastore, 1) := by decide +kernel
theorem dX1_speak_56 : decode cX1_speak 56 = .ok (.aload_n 0, 1) := by decide +kernel
theorem dX1_speak_57 : decode cX1_speak 57 = .ok (.getfield 18, 3) := by decide +kernel
theorem dX1_speak_60 : decode cX1_speak 60 = .ok (.iload 7, 2) := by decide +kernel
theorem dX1_speak_62 : decode cX1_speak 62 = .ok (.iload 6, 2) := by decide +kernel
theorem dX1_speak_64 : decode cX1_speak 64 = .ok (.iastore, 1) := by decide +kernel
theorem dX1_speak_65 : decode cX1_speak 65 = .ok (.aload_n 0, 1) := by decide +kernel
theorem dX1_speak_66 : decode cX1_speak 66 = .ok (.getfield 21, 3) := by decide +kernel
theorem dX1_speak_69 : decode cX1_speak 69 = .ok (.iload 7, 2) := by decide +kernel
theorem dX1_speak_71 : decode cX1_speak 71 = .ok (.aload_n 0, 1) := by decide +kernel
theorem dX1_speak_72 : decode cX1_speak 72 = .ok (.iload 8, 2) := by decide +kernel
theorem dX1_speak_74 : decode cX1_speak 74 = .ok (.iload 5, 2) := by decide +kernel
theorem dX1_speak_76 : decode cX1_speak 76 = .ok (.iload 6, 2) := by decide +kernel
theorem dX1_speak_78 : decode cX1_speak 78 = .ok (.invokevirtual 51, 3) := by decide +kernel
theorem dX1_speak_81 : decode cX1_speak 81 = .ok (.iastore, 1) := by decide +kernel
theorem dX1_speak_82 : decode cX1_speak 82 = .ok (.iload 8, 2) := by decide +kernel
theorem dX1_speak_84 : decode cX1_speak 84 = .ok (.ifCond .eq 9, 3) := by decide +kernel
theorem dX1_speak_87 : decode cX1_speak 87 = .ok (.iload 8, 2) := by decide +kernel
theorem dX1_speak_89 : decode cX1_speak 89 = .ok (.iconst 2, 1) := by decide +kernel
theorem dX1_speak_90 : decode cX1_speak 90 = .ok (.if_icmp .ne 15, 3) := by decide +kernel
theorem dX1_speak_93 : decode cX1_speak 93 = .ok (.iload 5, 2) := by decide +kernel
theorem dX1_speak_95 : decode cX1_speak 95 = .ok (.aload_n 0, 1) := by decide +kernel
theorem dX1_speak_96 : decode cX1_speak 96 = .ok (.getfield 24, 3) := by decide +kernel
theorem dX1_speak_99 : decode cX1_speak 99 = .ok (.iload 7, 2) := by decide +kernel
theorem dX1_speak_101 : decode cX1_speak 101 = .ok (.iaload, 1) := by decide +kernel
theorem dX1_speak_102 : decode cX1_speak 102 = .ok (.ixor, 1) := by decide +kernel
theorem dX1_speak_103 : decode cX1_speak 103 = .ok (.istore 5, 2) := by decide +kernel
theorem dX1_speak_105 : decode cX1_speak 105 = .ok (.iload 8, 2) := by decide +kernel
theorem dX1_speak_107 : decode cX1_speak 107 = .ok (.iconst 1, 1) := by decide +kernel
theorem dX1_speak_108 : decode cX1_speak 108 = .ok (.if_icmp .eq 9, 3) := by decide +kernel
theorem dX1_speak_111 : decode cX1_speak 111 = .ok (.iload 8, 2) := by decide +kernel
theorem dX1_speak_113 : decode cX1_speak 113 = .ok (.iconst 2, 1) := by decide +kernel
theorem dX1_speak_114 : decode cX1_speak 114 = .ok (.if_icmp .ne 15, 3) := by decide +kernel
theorem dX1_speak_117 : decode cX1_speak 117 = .ok (.iload 6, 2) := by decide +kernel
theorem dX1_speak_119 : decode cX1_speak 119 = .ok (.aload_n 0, 1) := by decide +kernel
theorem dX1_speak_120 : decode cX1_speak 120 = .ok (.getfield 24, 3) := by decide +kernel
theorem dX1_speak_123 : decode cX1_speak 123 = .ok (.iload 7, 2) := by decide +kernel
theorem dX1_speak_125 : decode cX1_speak 125 = .ok (.iaload, 1) := by decide +kernel
theorem dX1_speak_126 : decode cX1_speak 126 = .ok (.ixor, 1) := by decide +kernel
theorem dX1_speak_127 : decode cX1_speak 127 = .ok (.istore 6, 2) := by decide +kernel
theorem dX1_speak_129 : decode cX1_speak 129 = .ok (.iinc 7 1, 3) := by decide +kernel
theorem dX1_speak_132 : decode cX1_speak 132 = .ok (.goto (-101), 3) := by decide +kernel
theorem dX1_speak_135 : decode cX1_speak 135 = .ok (.return_, 1) := by decide +kernel
theorem dX1_everyDeed_0 : decode cX1_everyDeed 0 = .ok (.iconst 1, 1) := by decide +kernel
theorem dX1_everyDeed_1 : decode cX1_everyDeed 1 = .ok (.aload_n 0, 1) := by decide +kernel
theorem dX1_everyDeed_2 : decode cX1_everyDeed 2 = .ok (.getfield 37, 3) := by decide +kernel
theorem dX1_everyDeed_5 : decode cX1_everyDeed 5 = .ok (.ishl, 1) := by decide +kernel
theorem dX1_everyDeed_6 : decode cX1_everyDeed 6 = .ok (.iconst 1, 1) := by decide +kernel
theorem dX1_everyDeed_7 : decode cX1_everyDeed 7 = .ok (.isub, 1) := by decide +kernel
theorem dX1_everyDeed_8 : decode cX1_everyDeed 8 = .ok (.ireturn, 1) := by decide +kernel
theorem dX1_rulerOn_0 : decode cX1_rulerOn 0 = .ok (.iload_n 1, 1) := by decide +kernel
theorem dX1_rulerOn_1 : decode cX1_rulerOn 1 = .ok (.invokestatic 55, 3) := by decide +kernel
theorem dX1_rulerOn_4 : decode cX1_rulerOn 4 = .ok (.ifCond .eq 12, 3) := by decide +kernel
theorem dX1_rulerOn_7 : decode cX1_rulerOn 7 = .ok (.aload_n 0, 1) := by decide +kernel
theorem dX1_rulerOn_8 : decode cX1_rulerOn 8 = .ok (.getfield 9, 3) := by decide +kernel
theorem dX1_rulerOn_11 : decode cX1_rulerOn 11 = .ok (.iload_n 1, 1) := by decide +kernel
theorem dX1_rulerOn_12 : decode cX1_rulerOn 12 = .ok (.iaload, 1) := by decide +kernel
theorem dX1_rulerOn_13 : decode cX1_rulerOn 13 = .ok (.goto 4, 3) := by decide +kernel
theorem dX1_rulerOn_16 : decode cX1_rulerOn 16 = .ok (.iconst (-1), 1) := by decide +kernel
theorem dX1_rulerOn_17 : decode cX1_rulerOn 17 = .ok (.ireturn, 1) := by decide +kernel
theorem dX1_coinOn_0 : decode cX1_coinOn 0 = .ok (.aload_n 0, 1) := by decide +kernel
theorem dX1_coinOn_1 : decode cX1_coinOn 1 = .ok (.iload_n 1, 1) := by decide +kernel
theorem dX1_coinOn_2 : decode cX1_coinOn 2 = .ok (.invokevirtual 59, 3) := by decide +kernel
theorem dX1_coinOn_5 : decode cX1_coinOn 5 = .ok (.iconst 2, 1) := by decide +kernel
theorem dX1_coinOn_6 : decode cX1_coinOn 6 = .ok (.if_icmp .ne 7, 3) := by decide +kernel
theorem dX1_coinOn_9 : decode cX1_coinOn 9 = .ok (.iconst 0, 1) := by decide +kernel
theorem dX1_coinOn_10 : decode cX1_coinOn 10 = .ok (.goto 8, 3) := by decide +kernel
theorem dX1_coinOn_13 : decode cX1_coinOn 13 = .ok (.aload_n 0, 1) := by decide +kernel
theorem dX1_coinOn_14 : decode cX1_coinOn 14 = .ok (.iload_n 1, 1) := by decide +kernel
theorem dX1_coinOn_15 : decode cX1_coinOn 15 = .ok (.invokevirtual 59, 3) := by decide +kernel
theorem dX1_coinOn_18 : decode cX1_coinOn 18 = .ok (.ireturn, 1) := by decide +kernel
theorem dX1_saidOn_0 : decode cX1_saidOn 0 = .ok (.iload_n 1, 1) := by decide +kernel
theorem dX1_saidOn_1 : decode cX1_saidOn 1 = .ok (.invokestatic 55, 3) := by decide +kernel
theorem dX1_saidOn_4 : decode cX1_saidOn 4 = .ok (.ifCond .ne 5, 3) := by decide +kernel
theorem dX1_saidOn_7 : decode cX1_saidOn 7 = .ok (.iconst 0, 1) := by decide +kernel
theorem dX1_saidOn_8 : decode cX1_saidOn 8 = .ok (.ireturn, 1) := by decide +kernel
theorem dX1_saidOn_9 : decode cX1_saidOn 9 = .ok (.iload_n 2, 1) := by decide +kernel
theorem dX1_saidOn_10 : decode cX1_saidOn 10 = .ok (.ifCond .ne 12, 3) := by decide +kernel
theorem dX1_saidOn_13 : decode cX1_saidOn 13 = .ok (.aload_n 0, 1) := by decide +kernel
theorem dX1_saidOn_14 : decode cX1_saidOn 14 = .ok (.getfield 15, 3) := by decide +kernel
theorem dX1_saidOn_17 : decode cX1_saidOn 17 = .ok (.iload_n 1, 1) := by decide +kernel
theorem dX1_saidOn_18 : decode cX1_saidOn 18 = .ok (.iaload, 1) := by decide +kernel
theorem dX1_saidOn_19 : decode cX1_saidOn 19 = .ok (.goto 9, 3) := by decide +kernel
theorem dX1_saidOn_22 : decode cX1_saidOn 22 = .ok (.aload_n 0, 1) := by decide +kernel
theorem dX1_saidOn_23 : decode cX1_saidOn 23 = .ok (.getfield 18, 3) := by decide +kernel
theorem dX1_saidOn_26 : decode cX1_saidOn 26 = .ok (.iload_n 1, 1) := by decide +kernel
theorem dX1_saidOn_27 : decode cX1_saidOn 27 = .ok (.iaload, 1) := by decide +kernel
theorem dX1_saidOn_28 : decode cX1_saidOn 28 = .ok (.ireturn, 1) := by decide +kernel
theorem dX1_openOn_0 : decode cX1_openOn 0 = .ok (.iload_n 1, 1) := by decide +kernel
theorem dX1_openOn_1 : decode cX1_openOn 1 = .ok (.invokestatic 55, 3) := by decide +kernel
theorem dX1_openOn_4 : decode cX1_openOn 4 = .ok (.ifCond .eq 12, 3) := by decide +kernel
theorem dX1_openOn_7 : decode cX1_openOn 7 = .ok (.aload_n 0, 1) := by decide +kernel
theorem dX1_openOn_8 : decode cX1_openOn 8 = .ok (.getfield 21, 3) := by decide +kernel
theorem dX1_openOn_11 : decode cX1_openOn 11 = .ok (.iload_n 1, 1) := by decide +kernel
theorem dX1_openOn_12 : decode cX1_openOn 12 = .ok (.iaload, 1) := by decide +kernel
theorem dX1_openOn_13 : decode cX1_openOn 13 = .ok (.goto 4, 3) := by decide +kernel
theorem dX1_openOn_16 : decode cX1_openOn 16 = .ok (.iconst 0, 1) := by decide +kernel
theorem dX1_openOn_17 : decode cX1_openOn 17 = .ok (.ireturn, 1) := by decide +kernel
theorem dX1_openDays_0 : decode cX1_openDays 0 = .ok (.lconst 0, 1) := by decide +kernel
theorem dX1_openDays_1 : decode cX1_openDays 1 = .ok (.lstore_n 2, 1) := by decide +kernel
theorem dX1_openDays_2 : decode cX1_openDays 2 = .ok (.iload_n 1, 1) := by decide +kernel
theorem dX1_openDays_3 : decode cX1_openDays 3 = .ok (.iconst 0, 1) := by decide +kernel
theorem dX1_openDays_4 : decode cX1_openDays 4 = .ok (.aload_n 0, 1) := by decide +kernel
theorem dX1_openDays_5 : decode cX1_openDays 5 = .ok (.getfield 37, 3) := by decide +kernel
theorem dX1_openDays_8 : decode cX1_openDays 8 = .ok (.iconst 1, 1) := by decide +kernel
theorem dX1_openDays_9 : decode cX1_openDays 9 = .ok (.isub, 1) := by decide +kernel
theorem dX1_openDays_10 : decode cX1_openDays 10 = .ok (.invokestatic 62, 3) := by decide +kernel
theorem dX1_openDays_13 : decode cX1_openDays 13 = .ok (.ifCond .ne 5, 3) := by decide +kernel
theorem dX1_openDays_16 : decode cX1_openDays 16 = .ok (.lload_n 2, 1) := by decide +kernel
theorem dX1_openDays_17 : decode cX1_openDays 17 = .ok (.lreturn, 1) := by decide +kernel
theorem dX1_openDays_18 : decode cX1_openDays 18 = .ok (.iconst 0, 1) := by decide +kernel
theorem dX1_openDays_19 : decode cX1_openDays 19 = .ok (.istore 4, 2) := by decide +kernel
theorem dX1_openDays_21 : decode cX1_openDays 21 = .ok (.iload 4, 2) := by decide +kernel
theorem dX1_openDays_23 : decode cX1_openDays 23 = .ok (.bipush 40, 2) := by decide +kernel
theorem dX1_openDays_25 : decode cX1_openDays 25 = .ok (.if_icmp .ge 27, 3) := by decide +kernel
theorem dX1_openDays_28 : decode cX1_openDays 28 = .ok (.lload_n 2, 1) := by decide +kernel
theorem dX1_openDays_29 : decode cX1_openDays 29 = .ok (.aload_n 0, 1) := by decide +kernel
theorem dX1_openDays_30 : decode cX1_openDays 30 = .ok (.getfield 21, 3) := by decide +kernel
theorem dX1_openDays_33 : decode cX1_openDays 33 = .ok (.iload 4, 2) := by decide +kernel
theorem dX1_openDays_35 : decode cX1_openDays 35 = .ok (.iaload, 1) := by decide +kernel
theorem dX1_openDays_36 : decode cX1_openDays 36 = .ok (.iload_n 1, 1) := by decide +kernel
theorem dX1_openDays_37 : decode cX1_openDays 37 = .ok (.invokestatic 66, 3) := by decide +kernel
theorem dX1_openDays_40 : decode cX1_openDays 40 = .ok (.i2l, 1) := by decide +kernel
theorem dX1_openDays_41 : decode cX1_openDays 41 = .ok (.iload 4, 2) := by decide +kernel
theorem dX1_openDays_43 : decode cX1_openDays 43 = .ok (.lshl, 1) := by decide +kernel
theorem dX1_openDays_44 : decode cX1_openDays 44 = .ok (.lor, 1) := by decide +kernel
theorem dX1_openDays_45 : decode cX1_openDays 45 = .ok (.lstore_n 2, 1) := by decide +kernel
theorem dX1_openDays_46 : decode cX1_openDays 46 = .ok (.iinc 4 1, 3) := by decide +kernel
theorem dX1_openDays_49 : decode cX1_openDays 49 = .ok (.goto (-28), 3) := by decide +kernel
theorem dX1_openDays_52 : decode cX1_openDays 52 = .ok (.lload_n 2, 1) := by decide +kernel
theorem dX1_openDays_53 : decode cX1_openDays 53 = .ok (.lreturn, 1) := by decide +kernel
theorem dX1_startDays_0 : decode cX1_startDays 0 = .ok (.aload_n 0, 1) := by decide +kernel
theorem dX1_startDays_1 : decode cX1_startDays 1 = .ok (.iload_n 1, 1) := by decide +kernel
theorem dX1_startDays_2 : decode cX1_startDays 2 = .ok (.invokevirtual 70, 3) := by decide +kernel
theorem dX1_startDays_5 : decode cX1_startDays 5 = .ok (.lstore_n 3, 1) := by decide +kernel
theorem dX1_startDays_6 : decode cX1_startDays 6 = .ok (.lload_n 3, 1) := by decide +kernel
theorem dX1_startDays_7 : decode cX1_startDays 7 = .ok (.lstore 5, 2) := by decide +kernel
theorem dX1_startDays_9 : decode cX1_startDays 9 = .ok (.iconst 1, 1) := by decide +kernel
theorem dX1_startDays_10 : decode cX1_startDays 10 = .ok (.istore 7, 2) := by decide +kernel
theorem dX1_startDays_12 : decode cX1_startDays 12 = .ok (.iload 7, 2) := by decide +kernel
theorem dX1_startDays_14 : decode cX1_startDays 14 = .ok (.iload_n 2, 1) := by decide +kernel
theorem dX1_startDays_15 : decode cX1_startDays 15 = .ok (.if_icmp .ge 18, 3) := by decide +kernel
theorem dX1_startDays_18 : decode cX1_startDays 18 = .ok (.lload 5, 2) := by decide +kernel
theorem dX1_startDays_20 : decode cX1_startDays 20 = .ok (.lload_n 3, 1) := by decide +kernel
theorem dX1_startDays_21 : decode cX1_startDays 21 = .ok (.iload 7, 2) := by decide +kernel
theorem dX1_startDays_23 : decode cX1_startDays 23 = .ok (.lushr, 1) := by decide +kernel
theorem dX1_startDays_24 : decode cX1_startDays 24 = .ok (.land, 1) := by decide +kernel
theorem dX1_startDays_25 : decode cX1_startDays 25 = .ok (.lstore 5, 2) := by decide +kernel
theorem dX1_startDays_27 : decode cX1_startDays 27 = .ok (.iinc 7 1, 3) := by decide +kernel
theorem dX1_startDays_30 : decode cX1_startDays 30 = .ok (.goto (-18), 3) := by decide +kernel
theorem dX1_startDays_33 : decode cX1_startDays 33 = .ok (.lload 5, 2) := by decide +kernel
theorem dX1_startDays_35 : decode cX1_startDays 35 = .ok (.lreturn, 1) := by decide +kernel
theorem dX1_openIn256_0 : decode cX1_openIn256 0 = .ok (.aload_n 0, 1) := by decide +kernel
theorem dX1_openIn256_1 : decode cX1_openIn256 1 = .ok (.iload_n 1, 1) := by decide +kernel
theorem dX1_openIn256_2 : decode cX1_openIn256 2 = .ok (.invokevirtual 59, 3) := by decide +kernel
theorem dX1_openIn256_5 : decode cX1_openIn256 5 = .ok (.iconst 2, 1) := by decide +kernel
theorem dX1_openIn256_6 : decode cX1_openIn256 6 = .ok (.if_icmp .ne 17, 3) := by decide +kernel
theorem dX1_openIn256_9 : decode cX1_openIn256 9 = .ok (.sipush 256, 3) := by decide +kernel
theorem dX1_openIn256_12 : decode cX1_openIn256 12 = .ok (.aload_n 0, 1) := by decide +kernel
theorem dX1_openIn256_13 : decode cX1_openIn256 13 = .ok (.iload_n 1, 1) := by decide +kernel
theorem dX1_openIn256_14 : decode cX1_openIn256 14 = .ok (.invokevirtual 74, 3) := by decide +kernel
theorem dX1_openIn256_17 : decode cX1_openIn256 17 = .ok (.iload_n 2, 1) := by decide +kernel
theorem dX1_openIn256_18 : decode cX1_openIn256 18 = .ok (.invokestatic 66, 3) := by decide +kernel
theorem dX1_openIn256_21 : decode cX1_openIn256 21 = .ok (.imul, 1) := by decide +kernel
theorem dX1_openIn256_22 : decode cX1_openIn256 22 = .ok (.ireturn, 1) := by decide +kernel
theorem dX1_openIn256_23 : decode cX1_openIn256 23 = .ok (.iload_n 1, 1) := by decide +kernel
theorem dX1_openIn256_24 : decode cX1_openIn256 24 = .ok (.invokestatic 77, 3) := by decide +kernel
theorem dX1_openIn256_27 : decode cX1_openIn256 27 = .ok (.ifCond .eq 7, 3) := by decide +kernel
theorem dX1_openIn256_30 : decode cX1_openIn256 30 = .ok (.sipush 256, 3) := by decide +kernel
theorem dX1_openIn256_33 : decode cX1_openIn256 33 = .ok (.ireturn, 1) := by decide +kernel
theorem dX1_openIn256_34 : decode cX1_openIn256 34 = .ok (.iload_n 1, 1) := by decide +kernel
theorem dX1_openIn256_35 : decode cX1_openIn256 35 = .ok (.invokestatic 80, 3) := by decide +kernel
theorem dX1_openIn256_38 : decode cX1_openIn256 38 = .ok (.istore 4, 2) := by decide +kernel
theorem dX1_openIn256_40 : decode cX1_openIn256 40 = .ok (.bipush 16, 2) := by decide +kernel
theorem dX1_openIn256_42 : decode cX1_openIn256 42 = .ok (.bipush 16, 2) := by decide +kernel
theorem dX1_openIn256_44 : decode cX1_openIn256 44 = .ok (.iload_n 3, 1) := by decide +kernel
theorem dX1_openIn256_45 : decode cX1_openIn256 45 = .ok (.isub, 1) := by decide +kernel
theorem dX1_openIn256_46 : decode cX1_openIn256 46 = .ok (.imul, 1) := by decide +kernel
theorem dX1_openIn256_47 : decode cX1_openIn256 47 = .ok (.aload_n 0, 1) := by decide +kernel
theorem dX1_openIn256_48 : decode cX1_openIn256 48 = .ok (.iload_n 1, 1) := by decide +kernel
theorem dX1_openIn256_49 : decode cX1_openIn256 49 = .ok (.iload 4, 2) := by decide +kernel
theorem dX1_openIn256_51 : decode cX1_openIn256 51 = .ok (.invokevirtual 83, 3) := by decide +kernel
theorem dX1_openIn256_54 : decode cX1_openIn256 54 = .ok (.iload_n 2, 1) := by decide +kernel
theorem dX1_openIn256_55 : decode cX1_openIn256 55 = .ok (.invokestatic 66, 3) := by decide +kernel
theorem dX1_openIn256_58 : decode cX1_openIn256 58 = .ok (.imul, 1) := by decide +kernel
theorem dX1_openIn256_59 : decode cX1_openIn256 59 = .ok (.istore 5, 2) := by decide +kernel
theorem dX1_openIn256_61 : decode cX1_openIn256 61 = .ok (.iload_n 3, 1) := by decide +kernel
theorem dX1_openIn256_62 : decode cX1_openIn256 62 = .ok (.bipush 16, 2) := by decide +kernel
theorem dX1_openIn256_64 : decode cX1_openIn256 64 = .ok (.iload_n 3, 1) := by decide +kernel
theorem dX1_openIn256_65 : decode cX1_openIn256 65 = .ok (.isub, 1) := by decide +kernel
theorem dX1_openIn256_66 : decode cX1_openIn256 66 = .ok (.imul, 1) := by decide +kernel
theorem dX1_openIn256_67 : decode cX1_openIn256 67 = .ok (.aload_n 0, 1) := by decide +kernel
theorem dX1_openIn256_68 : decode cX1_openIn256 68 = .ok (.iload_n 1, 1) := by decide +kernel
theorem dX1_openIn256_69 : decode cX1_openIn256 69 = .ok (.iconst 1, 1) := by decide +kernel
theorem dX1_openIn256_70 : decode cX1_openIn256 70 = .ok (.iload 4, 2) := by decide +kernel
theorem dX1_openIn256_72 : decode cX1_openIn256 72 = .ok (.isub, 1) := by decide +kernel
theorem dX1_openIn256_73 : decode cX1_openIn256 73 = .ok (.invokevirtual 83, 3) := by decide +kernel
theorem dX1_openIn256_76 : decode cX1_openIn256 76 = .ok (.iload_n 2, 1) := by decide +kernel
theorem dX1_openIn256_77 : decode cX1_openIn256 77 = .ok (.invokestatic 66, 3) := by decide +kernel
theorem dX1_openIn256_80 : decode cX1_openIn256 80 = .ok (.imul, 1) := by decide +kernel
theorem dX1_openIn256_81 : decode cX1_openIn256 81 = .ok (.istore 6, 2) := by decide +kernel
theorem dX1_openIn256_83 : decode cX1_openIn256 83 = .ok (.iload 5, 2) := by decide +kernel
theorem dX1_openIn256_85 : decode cX1_openIn256 85 = .ok (.iload 6, 2) := by decide +kernel
theorem dX1_openIn256_87 : decode cX1_openIn256 87 = .ok (.iadd, 1) := by decide +kernel
theorem dX1_openIn256_88 : decode cX1_openIn256 88 = .ok (.iload_n 3, 1) := by decide +kernel
theorem dX1_openIn256_89 : decode cX1_openIn256 89 = .ok (.iload_n 3, 1) := by decide +kernel
theorem dX1_openIn256_90 : decode cX1_openIn256 90 = .ok (.imul, 1) := by decide +kernel
theorem dX1_openIn256_91 : decode cX1_openIn256 91 = .ok (.iadd, 1) := by decide +kernel
theorem dX1_openIn256_92 : decode cX1_openIn256 92 = .ok (.ireturn, 1) := by decide +kernel
theorem dX1_numberAtBest_0 : decode cX1_numberAtBest 0 = .ok (.aload_n 0, 1) := by decide +kernel
theorem dX1_numberAtBest_1 : decode cX1_numberAtBest 1 = .ok (.iload_n 1, 1) := by decide +kernel
theorem dX1_numberAtBest_2 : decode cX1_numberAtBest 2 = .ok (.iload_n 2, 1) := by decide +kernel
theorem dX1_numberAtBest_3 : decode cX1_numberAtBest 3 = .ok (.iconst 0, 1) := by decide +kernel
theorem dX1_numberAtBest_4 : decode cX1_numberAtBest 4 = .ok (.iconst 0, 1) := by decide +kernel
theorem dX1_numberAtBest_5 : decode cX1_numberAtBest 5 = .ok (.invokevirtual 86, 3) := by decide +kernel
theorem dX1_numberAtBest_8 : decode cX1_numberAtBest 8 = .ok (.ireturn, 1) := by decide +kernel
theorem dX1_wordAtBest_0 : decode cX1_wordAtBest 0 = .ok (.aload_n 0, 1) := by decide +kernel
theorem dX1_wordAtBest_1 : decode cX1_wordAtBest 1 = .ok (.iload_n 1, 1) := by decide +kernel
theorem dX1_wordAtBest_2 : decode cX1_wordAtBest 2 = .ok (.invokevirtual 59, 3) := by decide +kernel
theorem dX1_wordAtBest_5 : decode cX1_wordAtBest 5 = .ok (.istore_n 3, 1) := by decide +kernel
theorem dX1_wordAtBest_6 : decode cX1_wordAtBest 6 = .ok (.iload_n 3, 1) := by decide +kernel
theorem dX1_wordAtBest_7 : decode cX1_wordAtBest 7 = .ok (.invokestatic 90, 3) := by decide +kernel
theorem dX1_wordAtBest_10 : decode cX1_wordAtBest 10 = .ok (.ifCond .ne 5, 3) := by decide +kernel
theorem dX1_wordAtBest_13 : decode cX1_wordAtBest 13 = .ok (.iconst (-1), 1) := by decide +kernel
theorem dX1_wordAtBest_14 : decode cX1_wordAtBest 14 = .ok (.ireturn, 1) := by decide +kernel
theorem dX1_wordAtBest_15 : decode cX1_wordAtBest 15 = .ok (.aload_n 0, 1) := by decide +kernel
theorem dX1_wordAtBest_16 : decode cX1_wordAtBest 16 = .ok (.iload_n 1, 1) := by decide +kernel
theorem dX1_wordAtBest_17 : decode cX1_wordAtBest 17 = .ok (.iload_n 2, 1) := by decide +kernel
theorem dX1_wordAtBest_18 : decode cX1_wordAtBest 18 = .ok (.invokevirtual 93, 3) := by decide +kernel
theorem dX1_wordAtBest_21 : decode cX1_wordAtBest 21 = .ok (.istore 4, 2) := by decide +kernel
theorem dX1_wordAtBest_23 : decode cX1_wordAtBest 23 = .ok (.iconst 0, 1) := by decide +kernel
theorem dX1_wordAtBest_24 : decode cX1_wordAtBest 24 = .ok (.istore 5, 2) := by decide +kernel
theorem dX1_wordAtBest_26 : decode cX1_wordAtBest 26 = .ok (.iload 5, 2) := by decide +kernel
theorem dX1_wordAtBest_28 : decode cX1_wordAtBest 28 = .ok (.aload_n 0, 1) := by decide +kernel
theorem dX1_wordAtBest_29 : decode cX1_wordAtBest 29 = .ok (.getfield 37, 3) := by decide +kernel
theorem dX1_wordAtBest_32 : decode cX1_wordAtBest 32 = .ok (.if_icmp .ge 53, 3) := by decide +kernel
theorem dX1_wordAtBest_35 : decode cX1_wordAtBest 35 = .ok (.iconst 1, 1) := by decide +kernel
theorem dX1_wordAtBest_36 : decode cX1_wordAtBest 36 = .ok (.iload 5, 2) := by decide +kernel
theorem dX1_wordAtBest_38 : decode cX1_wordAtBest 38 = .ok (.ishl, 1) := by decide +kernel
theorem dX1_wordAtBest_39 : decode cX1_wordAtBest 39 = .ok (.istore 6, 2) := by decide +kernel
theorem dX1_wordAtBest_41 : decode cX1_wordAtBest 41 = .ok (.aload_n 0, 1) := by decide +kernel
theorem dX1_wordAtBest_42 : decode cX1_wordAtBest 42 = .ok (.iload_n 1, 1) := by decide +kernel
theorem dX1_wordAtBest_43 : decode cX1_wordAtBest 43 = .ok (.iconst 1, 1) := by decide +kernel
theorem dX1_wordAtBest_44 : decode cX1_wordAtBest 44 = .ok (.iadd, 1) := by decide +kernel
theorem dX1_wordAtBest_45 : decode cX1_wordAtBest 45 = .ok (.iload_n 2, 1) := by decide +kernel
theorem dX1_wordAtBest_46 : decode cX1_wordAtBest 46 = .ok (.iconst 1, 1) := by decide +kernel
theorem dX1_wordAtBest_47 : decode cX1_wordAtBest 47 = .ok (.isub, 1) := by decide +kernel
theorem dX1_wordAtBest_48 : decode cX1_wordAtBest 48 = .ok (.iload_n 3, 1) := by decide +kernel
theorem dX1_wordAtBest_49 : decode cX1_wordAtBest 49 = .ok (.ifCond .ne 8, 3) := by decide +kernel
theorem dX1_wordAtBest_52 : decode cX1_wordAtBest 52 = .ok (.iload 6, 2) := by decide +kernel
theorem dX1_wordAtBest_54 : decode cX1_wordAtBest 54 = .ok (.goto 4, 3) := by decide +kernel
theorem dX1_wordAtBest_57 : decode cX1_wordAtBest 57 = .ok (.iconst 0, 1) := by decide +kernel
theorem dX1_wordAtBest_58 : decode cX1_wordAtBest 58 = .ok (.iload_n 3, 1) := by decide +kernel
theorem dX1_wordAtBest_59 : decode cX1_wordAtBest 59 = .ok (.ifCond .ne 7, 3) := by decide +kernel
theorem dX1_wordAtBest_62 : decode cX1_wordAtBest 62 = .ok (.iconst 0, 1) := by decide +kernel
theorem dX1_wordAtBest_63 : decode cX1_wordAtBest 63 = .ok (.goto 5, 3) := by decide +kernel
theorem dX1_wordAtBest_66 : decode cX1_wordAtBest 66 = .ok (.iload 6, 2) := by decide +kernel
theorem dX1_wordAtBest_68 : decode cX1_wordAtBest 68 = .ok (.invokevirtual 86, 3) := by decide +kernel
theorem dX1_wordAtBest_71 : decode cX1_wordAtBest 71 = .ok (.iload 4, 2) := by decide +kernel
theorem dX1_wordAtBest_73 : decode cX1_wordAtBest 73 = .ok (.if_icmp .ne 6, 3) := by decide +kernel
theorem dX1_wordAtBest_76 : decode cX1_wordAtBest 76 = .ok (.iload 5, 2) := by decide +kernel
theorem dX1_wordAtBest_78 : decode cX1_wordAtBest 78 = .ok (.ireturn, 1) := by decide +kernel
theorem dX1_wordAtBest_79 : decode cX1_wordAtBest 79 = .ok (.iinc 5 1, 3) := by decide +kernel
theorem dX1_wordAtBest_82 : decode cX1_wordAtBest 82 = .ok (.goto (-56), 3) := by decide +kernel
theorem dX1_wordAtBest_85 : decode cX1_wordAtBest 85 = .ok (.bipush 8, 2) := by decide +kernel
theorem dX1_wordAtBest_87 : decode cX1_wordAtBest 87 = .ok (.ireturn, 1) := by decide +kernel
theorem dX1_playOn_0 : decode cX1_playOn 0 = .ok (.iload_n 2, 1) := by decide +kernel
theorem dX1_playOn_1 : decode cX1_playOn 1 = .ok (.ifCond .gt 41, 3) := by decide +kernel
theorem dX1_playOn_4 : decode cX1_playOn 4 = .ok (.aload_n 0, 1) := by decide +kernel
theorem dX1_playOn_5 : decode cX1_playOn 5 = .ok (.iload_n 1, 1) := by decide +kernel
theorem dX1_playOn_6 : decode cX1_playOn 6 = .ok (.iconst 0, 1) := by decide +kernel
theorem dX1_playOn_7 : decode cX1_playOn 7 = .ok (.invokevirtual 83, 3) := by decide +kernel
theorem dX1_playOn_10 : decode cX1_playOn 10 = .ok (.iload_n 3, 1) := by decide +kernel
theorem dX1_playOn_11 : decode cX1_playOn 11 = .ok (.ixor, 1) := by decide +kernel
theorem dX1_playOn_12 : decode cX1_playOn 12 = .ok (.istore 5, 2) := by decide +kernel
theorem dX1_playOn_14 : decode cX1_playOn 14 = .ok (.aload_n 0, 1) := by decide +kernel
theorem dX1_playOn_15 : decode cX1_playOn 15 = .ok (.iload_n 1, 1) := by decide +kernel
theorem dX1_playOn_16 : decode cX1_playOn 16 = .ok (.iconst 1, 1) := by decide +kernel
theorem dX1_playOn_17 : decode cX1_playOn 17 = .ok (.invokevirtual 83, 3) := by decide +kernel
theorem dX1_playOn_20 : decode cX1_playOn 20 = .ok (.iload 4, 2) := by decide +kernel
theorem dX1_playOn_22 : decode cX1_playOn 22 = .ok (.ixor, 1) := by decide +kernel
theorem dX1_playOn_23 : decode cX1_playOn 23 = .ok (.istore 6, 2) := by decide +kernel
theorem dX1_playOn_25 : decode cX1_playOn 25 = .ok (.aload_n 0, 1) := by decide +kernel
theorem dX1_playOn_26 : decode cX1_playOn 26 = .ok (.aload_n 0, 1) := by decide +kernel
theorem dX1_playOn_27 : decode cX1_playOn 27 = .ok (.iload_n 1, 1) := by decide +kernel
theorem dX1_playOn_28 : decode cX1_playOn 28 = .ok (.invokevirtual 59, 3) := by decide +kernel
theorem dX1_playOn_31 : decode cX1_playOn 31 = .ok (.iload 5, 2) := by decide +kernel
theorem dX1_playOn_33 : decode cX1_playOn 33 = .ok (.iload 6, 2) := by decide +kernel
theorem dX1_playOn_35 : decode cX1_playOn 35 = .ok (.invokevirtual 51, 3) := by decide +kernel
theorem dX1_playOn_38 : decode cX1_playOn 38 = .ok (.invokestatic 96, 3) := by decide +kernel
theorem dX1_playOn_41 : decode cX1_playOn 41 = .ok (.ireturn, 1) := by decide +kernel
theorem dX1_playOn_42 : decode cX1_playOn 42 = .ok (.aload_n 0, 1) := by decide +kernel
theorem dX1_playOn_43 : decode cX1_playOn 43 = .ok (.iload_n 1, 1) := by decide +kernel
theorem dX1_playOn_44 : decode cX1_playOn 44 = .ok (.iconst 1, 1) := by decide +kernel
theorem dX1_playOn_45 : decode cX1_playOn 45 = .ok (.iadd, 1) := by decide +kernel
theorem dX1_playOn_46 : decode cX1_playOn 46 = .ok (.iload_n 2, 1) := by decide +kernel
theorem dX1_playOn_47 : decode cX1_playOn 47 = .ok (.iconst 1, 1) := by decide +kernel
theorem dX1_playOn_48 : decode cX1_playOn 48 = .ok (.isub, 1) := by decide +kernel
theorem dX1_playOn_49 : decode cX1_playOn 49 = .ok (.iload_n 3, 1) := by decide +kernel
theorem dX1_playOn_50 : decode cX1_playOn 50 = .ok (.iload 4, 2) := by decide +kernel
theorem dX1_playOn_52 : decode cX1_playOn 52 = .ok (.invokevirtual 86, 3) := by decide +kernel
theorem dX1_playOn_55 : decode cX1_playOn 55 = .ok (.istore 5, 2) := by decide +kernel
theorem dX1_playOn_57 : decode cX1_playOn 57 = .ok (.aload_n 0, 1) := by decide +kernel
theorem dX1_playOn_58 : decode cX1_playOn 58 = .ok (.iload_n 1, 1) := by decide +kernel
theorem dX1_playOn_59 : decode cX1_playOn 59 = .ok (.invokevirtual 59, 3) := by decide +kernel
theorem dX1_playOn_62 : decode cX1_playOn 62 = .ok (.istore 6, 2) := by decide +kernel
theorem dX1_playOn_64 : decode cX1_playOn 64 = .ok (.iconst 0, 1) := by decide +kernel
theorem dX1_playOn_65 : decode cX1_playOn 65 = .ok (.istore 7, 2) := by decide +kernel
theorem dX1_playOn_67 : decode cX1_playOn 67 = .ok (.iload 7, 2) := by decide +kernel
theorem dX1_playOn_69 : decode cX1_playOn 69 = .ok (.aload_n 0, 1) := by decide +kernel
theorem dX1_playOn_70 : decode cX1_playOn 70 = .ok (.getfield 37, 3) := by decide +kernel
theorem dX1_playOn_73 : decode cX1_playOn 73 = .ok (.if_icmp .ge 77, 3) := by decide +kernel
theorem dX1_playOn_76 : decode cX1_playOn 76 = .ok (.iload 6, 2) := by decide +kernel
theorem dX1_playOn_78 : decode cX1_playOn 78 = .ok (.invokestatic 90, 3) := by decide +kernel
theorem dX1_playOn_81 : decode cX1_playOn 81 = .ok (.ifCond .eq 69, 3) := by decide +kernel
theorem dX1_playOn_84 : decode cX1_playOn 84 = .ok (.iconst 1, 1) := by decide +kernel
theorem dX1_playOn_85 : decode cX1_playOn 85 = .ok (.iload 7, 2) := by decide +kernel
theorem dX1_playOn_87 : decode cX1_playOn 87 = .ok (.ishl, 1) := by decide +kernel
theorem dX1_playOn_88 : decode cX1_playOn 88 = .ok (.istore 8, 2) := by decide +kernel
theorem dX1_playOn_90 : decode cX1_playOn 90 = .ok (.iload 6, 2) := by decide +kernel
theorem dX1_playOn_92 : decode cX1_playOn 92 = .ok (.ifCond .ne 29, 3) := by decide +kernel
theorem dX1_playOn_95 : decode cX1_playOn 95 = .ok (.iload 5, 2) := by decide +kernel
theorem dX1_playOn_97 : decode cX1_playOn 97 = .ok (.aload_n 0, 1) := by decide +kernel
theorem dX1_playOn_98 : decode cX1_playOn 98 = .ok (.iload_n 1, 1) := by decide +kernel
theorem dX1_playOn_99 : decode cX1_playOn 99 = .ok (.iconst 1, 1) := by decide +kernel
theorem dX1_playOn_100 : decode cX1_playOn 100 = .ok (.iadd, 1) := by decide +kernel
theorem dX1_playOn_101 : decode cX1_playOn 101 = .ok (.iload_n 2, 1) := by decide +kernel
theorem dX1_playOn_102 : decode cX1_playOn 102 = .ok (.iconst 1, 1) := by decide +kernel
theorem dX1_playOn_103 : decode cX1_playOn 103 = .ok (.isub, 1) := by decide +kernel
theorem dX1_playOn_104 : decode cX1_playOn 104 = .ok (.iload_n 3, 1) := by decide +kernel
theorem dX1_playOn_105 : decode cX1_playOn 105 = .ok (.iload 8, 2) := by decide +kernel
theorem dX1_playOn_107 : decode cX1_playOn 107 = .ok (.ixor, 1) := by decide +kernel
theorem dX1_playOn_108 : decode cX1_playOn 108 = .ok (.iload 4, 2) := by decide +kernel
theorem dX1_playOn_110 : decode cX1_playOn 110 = .ok (.invokevirtual 86, 3) := by decide +kernel
theorem dX1_playOn_113 : decode cX1_playOn 113 = .ok (.invokestatic 101, 3) := by decide +kernel
theorem dX1_playOn_116 : decode cX1_playOn 116 = .ok (.istore 5, 2) := by decide +kernel
theorem dX1_playOn_118 : decode cX1_playOn 118 = .ok (.goto 26, 3) := by decide +kernel
theorem dX1_playOn_121 : decode cX1_playOn 121 = .ok (.iload 5, 2) := by decide +kernel
theorem dX1_playOn_123 : decode cX1_playOn 123 = .ok (.aload_n 0, 1) := by decide +kernel
theorem dX1_playOn_124 : decode cX1_playOn 124 = .ok (.iload_n 1, 1) := by decide +kernel
theorem dX1_playOn_125 : decode cX1_playOn 125 = .ok (.iconst 1, 1) := by decide +kernel
theorem dX1_playOn_126 : decode cX1_playOn 126 = .ok (.iadd, 1) := by decide +kernel
theorem dX1_playOn_127 : decode cX1_playOn 127 = .ok (.iload_n 2, 1) := by decide +kernel
theorem dX1_playOn_128 : decode cX1_playOn 128 = .ok (.iconst 1, 1) := by decide +kernel
theorem dX1_playOn_129 : decode cX1_playOn 129 = .ok (.isub, 1) := by decide +kernel
theorem dX1_playOn_130 : decode cX1_playOn 130 = .ok (.iload_n 3, 1) := by decide +kernel
theorem dX1_playOn_131 : decode cX1_playOn 131 = .ok (.iload 4, 2) := by decide +kernel
theorem dX1_playOn_133 : decode cX1_playOn 133 = .ok (.iload 8, 2) := by decide +kernel
theorem dX1_playOn_135 : decode cX1_playOn 135 = .ok (.ixor, 1) := by decide +kernel
theorem dX1_playOn_136 : decode cX1_playOn 136 = .ok (.invokevirtual 86, 3) := by decide +kernel
theorem dX1_playOn_139 : decode cX1_playOn 139 = .ok (.invokestatic 106, 3) := by decide +kernel
theorem dX1_playOn_142 : decode cX1_playOn 142 = .ok (.istore 5, 2) := by decide +kernel
theorem dX1_playOn_144 : decode cX1_playOn 144 = .ok (.iinc 7 1, 3) := by decide +kernel
theorem dX1_playOn_147 : decode cX1_playOn 147 = .ok (.goto (-80), 3) := by decide +kernel
theorem dX1_playOn_150 : decode cX1_playOn 150 = .ok (.iload 5, 2) := by decide +kernel
theorem dX1_playOn_152 : decode cX1_playOn 152 = .ok (.ireturn, 1) := by decide +kernel
theorem dX1_isSunday_0 : decode cX1_isSunday 0 = .ok (.iload_n 0, 1) := by decide +kernel
theorem dX1_isSunday_1 : decode cX1_isSunday 1 = .ok (.bipush 7, 2) := by decide +kernel
theorem dX1_isSunday_3 : decode cX1_isSunday 3 = .ok (.irem, 1) := by decide +kernel
theorem dX1_isSunday_4 : decode cX1_isSunday 4 = .ok (.bipush 6, 2) := by decide +kernel
theorem dX1_isSunday_6 : decode cX1_isSunday 6 = .ok (.if_icmp .ne 7, 3) := by decide +kernel
theorem dX1_isSunday_9 : decode cX1_isSunday 9 = .ok (.iconst 1, 1) := by decide +kernel
theorem dX1_isSunday_10 : decode cX1_isSunday 10 = .ok (.goto 4, 3) := by decide +kernel
theorem dX1_isSunday_13 : decode cX1_isSunday 13 = .ok (.iconst 0, 1) := by decide +kernel
theorem dX1_isSunday_14 : decode cX1_isSunday 14 = .ok (.ireturn, 1) := by decide +kernel
theorem dX1_kingInTurn_0 : decode cX1_kingInTurn 0 = .ok (.iload_n 0, 1) := by decide +kernel
theorem dX1_kingInTurn_1 : decode cX1_kingInTurn 1 = .ok (.iconst 2, 1) := by decide +kernel
theorem dX1_kingInTurn_2 : decode cX1_kingInTurn 2 = .ok (.irem, 1) := by decide +kernel
theorem dX1_kingInTurn_3 : decode cX1_kingInTurn 3 = .ok (.ifCond .ne 7, 3) := by decide +kernel
theorem dX1_kingInTurn_6 : decode cX1_kingInTurn 6 = .ok (.iconst 0, 1) := by decide +kernel
theorem dX1_kingInTurn_7 : decode cX1_kingInTurn 7 = .ok (.goto 4, 3) := by decide +kernel
theorem dX1_kingInTurn_10 : decode cX1_kingInTurn 10 = .ok (.iconst 1, 1) := by decide +kernel
theorem dX1_kingInTurn_11 : decode cX1_kingInTurn 11 = .ok (.ireturn, 1) := by decide +kernel
theorem dX1_rulerBy_0 : decode cX1_rulerBy 0 = .ok (.aload_n 2, 1) := by decide +kernel
theorem dX1_rulerBy_1 : decode cX1_rulerBy 1 = .ok (.iload_n 0, 1) := by decide +kernel
theorem dX1_rulerBy_2 : decode cX1_rulerBy 2 = .ok (.iconst 0, 1) := by decide +kernel
theorem dX1_rulerBy_3 : decode cX1_rulerBy 3 = .ok (.invokevirtual 109, 3) := by decide +kernel
theorem dX1_rulerBy_6 : decode cX1_rulerBy 6 = .ok (.ifCond .eq 5, 3) := by decide +kernel
theorem dX1_rulerBy_9 : decode cX1_rulerBy 9 = .ok (.iconst 2, 1) := by decide +kernel
theorem dX1_rulerBy_10 : decode cX1_rulerBy 10 = .ok (.ireturn, 1) := by decide +kernel
theorem dX1_rulerBy_11 : decode cX1_rulerBy 11 = .ok (.iload_n 0, 1) := by decide +kernel
theorem dX1_rulerBy_12 : decode cX1_rulerBy 12 = .ok (.invokestatic 77, 3) := by decide +kernel
theorem dX1_rulerBy_15 : decode cX1_rulerBy 15 = .ok (.ifCond .eq 5, 3) := by decide +kernel
theorem dX1_rulerBy_18 : decode cX1_rulerBy 18 = .ok (.iconst (-1), 1) := by decide +kernel
theorem dX1_rulerBy_19 : decode cX1_rulerBy 19 = .ok (.ireturn, 1) := by decide +kernel
theorem dX1_rulerBy_20 : decode cX1_rulerBy 20 = .ok (.iload_n 0, 1) := by decide +kernel
theorem dX1_rulerBy_21 : decode cX1_rulerBy 21 = .ok (.invokestatic 80, 3) := by decide +kernel
theorem dX1_rulerBy_24 : decode cX1_rulerBy 24 = .ok (.istore_n 3, 1) := by decide +kernel
theorem dX1_rulerBy_25 : decode cX1_rulerBy 25 = .ok (.aload_n 1, 1) := by decide +kernel
theorem dX1_rulerBy_26 : decode cX1_rulerBy 26 = .ok (.iload_n 3, 1) := by decide +kernel
theorem dX1_rulerBy_27 : decode cX1_rulerBy 27 = .ok (.iload_n 0, 1) := by decide +kernel
theorem dX1_rulerBy_28 : decode cX1_rulerBy 28 = .ok (.invokevirtual 109, 3) := by decide +kernel
theorem dX1_rulerBy_31 : decode cX1_rulerBy 31 = .ok (.ifCond .ne 5, 3) := by decide +kernel
theorem dX1_rulerBy_34 : decode cX1_rulerBy 34 = .ok (.iload_n 3, 1) := by decide +kernel
theorem dX1_rulerBy_35 : decode cX1_rulerBy 35 = .ok (.ireturn, 1) := by decide +kernel
theorem dX1_rulerBy_36 : decode cX1_rulerBy 36 = .ok (.aload_n 1, 1) := by decide +kernel
theorem dX1_rulerBy_37 : decode cX1_rulerBy 37 = .ok (.iconst 1, 1) := by decide +kernel
theorem dX1_rulerBy_38 : decode cX1_rulerBy 38 = .ok (.iload_n 3, 1) := by decide +kernel
theorem dX1_rulerBy_39 : decode cX1_rulerBy 39 = .ok (.isub, 1) := by decide +kernel
theorem dX1_rulerBy_40 : decode cX1_rulerBy 40 = .ok (.iload_n 0, 1) := by decide +kernel
theorem dX1_rulerBy_41 : decode cX1_rulerBy 41 = .ok (.invokevirtual 109, 3) := by decide +kernel
theorem dX1_rulerBy_44 : decode cX1_rulerBy 44 = .ok (.ifCond .eq 7, 3) := by decide +kernel
theorem dX1_rulerBy_47 : decode cX1_rulerBy 47 = .ok (.iconst (-1), 1) := by decide +kernel
theorem dX1_rulerBy_48 : decode cX1_rulerBy 48 = .ok (.goto 6, 3) := by decide +kernel
theorem dX1_rulerBy_51 : decode cX1_rulerBy 51 = .ok (.iconst 1, 1) := by decide +kernel
theorem dX1_rulerBy_52 : decode cX1_rulerBy 52 = .ok (.iload_n 3, 1) := by decide +kernel
theorem dX1_rulerBy_53 : decode cX1_rulerBy 53 = .ok (.isub, 1) := by decide +kernel
theorem dX1_rulerBy_54 : decode cX1_rulerBy 54 = .ok (.ireturn, 1) := by decide +kernel
theorem dX1_gatherTurned_0 : decode cX1_gatherTurned 0 = .ok (.iconst 0, 1) := by decide +kernel
theorem dX1_gatherTurned_1 : decode cX1_gatherTurned 1 = .ok (.istore_n 3, 1) := by decide +kernel
theorem dX1_gatherTurned_2 : decode cX1_gatherTurned 2 = .ok (.iload_n 3, 1) := by decide +kernel
theorem dX1_gatherTurned_3 : decode cX1_gatherTurned 3 = .ok (.bipush 40, 2) := by decide +kernel
theorem dX1_gatherTurned_5 : decode cX1_gatherTurned 5 = .ok (.if_icmp .ge 16, 3) := by decide +kernel
theorem dX1_gatherTurned_8 : decode cX1_gatherTurned 8 = .ok (.aload_n 0, 1) := by decide +kernel
theorem dX1_gatherTurned_9 : decode cX1_gatherTurned 9 = .ok (.getfield 24, 3) := by decide +kernel
theorem dX1_gatherTurned_12 : decode cX1_gatherTurned 12 = .ok (.iload_n 3, 1) := by decide +kernel
theorem dX1_gatherTurned_13 : decode cX1_gatherTurned 13 = .ok (.iconst 0, 1) := by decide +kernel
theorem dX1_gatherTurned_14 : decode cX1_gatherTurned 14 = .ok (.iastore, 1) := by decide +kernel
theorem dX1_gatherTurned_15 : decode cX1_gatherTurned 15 = .ok (.iinc 3 1, 3) := by decide +kernel
theorem dX1_gatherTurned_18 : decode cX1_gatherTurned 18 = .ok (.goto (-16), 3) := by decide +kernel
theorem dX1_gatherTurned_21 : decode cX1_gatherTurned 21 = .ok (.iconst 0, 1) := by decide +kernel
theorem dX1_gatherTurned_22 : decode cX1_gatherTurned 22 = .ok (.istore_n 3, 1) := by decide +kernel
theorem dX1_gatherTurned_23 : decode cX1_gatherTurned 23 = .ok (.iload_n 3, 1) := by decide +kernel
theorem dX1_gatherTurned_24 : decode cX1_gatherTurned 24 = .ok (.aload_n 1, 1) := by decide +kernel
theorem dX1_gatherTurned_25 : decode cX1_gatherTurned 25 = .ok (.invokevirtual 115, 3) := by decide +kernel
theorem dX1_gatherTurned_28 : decode cX1_gatherTurned 28 = .ok (.if_icmp .ge 65, 3) := by decide +kernel
theorem dX1_gatherTurned_31 : decode cX1_gatherTurned 31 = .ok (.aload_n 1, 1) := by decide +kernel
theorem dX1_gatherTurned_32 : decode cX1_gatherTurned 32 = .ok (.iload_n 3, 1) := by decide +kernel
theorem dX1_gatherTurned_33 : decode cX1_gatherTurned 33 = .ok (.invokevirtual 118, 3) := by decide +kernel
theorem dX1_gatherTurned_36 : decode cX1_gatherTurned 36 = .ok (.istore 4, 2) := by decide +kernel
theorem dX1_gatherTurned_38 : decode cX1_gatherTurned 38 = .ok (.aload_n 1, 1) := by decide +kernel
theorem dX1_gatherTurned_39 : decode cX1_gatherTurned 39 = .ok (.iload_n 3, 1) := by decide +kernel
theorem dX1_gatherTurned_40 : decode cX1_gatherTurned 40 = .ok (.invokevirtual 121, 3) := by decide +kernel
theorem dX1_gatherTurned_43 : decode cX1_gatherTurned 43 = .ok (.istore 5, 2) := by decide +kernel
theorem dX1_gatherTurned_45 : decode cX1_gatherTurned 45 = .ok (.iload_n 3, 1) := by decide +kernel
theorem dX1_gatherTurned_46 : decode cX1_gatherTurned 46 = .ok (.iload_n 2, 1) := by decide +kernel
theorem dX1_gatherTurned_47 : decode cX1_gatherTurned 47 = .ok (.if_icmp .eq 40, 3) := by decide +kernel
theorem dX1_gatherTurned_50 : decode cX1_gatherTurned 50 = .ok (.iload 4, 2) := by decide +kernel
theorem dX1_gatherTurned_52 : decode cX1_gatherTurned 52 = .ok (.invokestatic 55, 3) := by decide +kernel
theorem dX1_gatherTurned_55 : decode cX1_gatherTurned 55 = .ok (.ifCond .eq 32, 3) := by decide +kernel
theorem dX1_gatherTurned_58 : decode cX1_gatherTurned 58 = .ok (.iload 5, 2) := by decide +kernel
theorem dX1_gatherTurned_60 : decode cX1_gatherTurned 60 = .ok (.iconst 0, 1) := by decide +kernel
theorem dX1_gatherTurned_61 : decode cX1_gatherTurned 61 = .ok (.aload_n 0, 1) := by decide +kernel
theorem dX1_gatherTurned_62 : decode cX1_gatherTurned 62 = .ok (.getfield 37, 3) := by decide +kernel
theorem dX1_gatherTurned_65 : decode cX1_gatherTurned 65 = .ok (.iconst 1, 1) := by decide +kernel
theorem dX1_gatherTurned_66 : decode cX1_gatherTurned 66 = .ok (.isub, 1) := by decide +kernel
theorem dX1_gatherTurned_67 : decode cX1_gatherTurned 67 = .ok (.invokestatic 62, 3) := by decide +kernel
theorem dX1_gatherTurned_70 : decode cX1_gatherTurned 70 = .ok (.ifCond .eq 17, 3) := by decide +kernel
theorem dX1_gatherTurned_73 : decode cX1_gatherTurned 73 = .ok (.aload_n 0, 1) := by decide +kernel
theorem dX1_gatherTurned_74 : decode cX1_gatherTurned 74 = .ok (.getfield 24, 3) := by decide +kernel
theorem dX1_gatherTurned_77 : decode cX1_gatherTurned 77 = .ok (.iload 4, 2) := by decide +kernel
theorem dX1_gatherTurned_79 : decode cX1_gatherTurned 79 = .ok (.dup2, 1) := by decide +kernel
theorem dX1_gatherTurned_80 : decode cX1_gatherTurned 80 = .ok (.iaload, 1) := by decide +kernel
theorem dX1_gatherTurned_81 : decode cX1_gatherTurned 81 = .ok (.iconst 1, 1) := by decide +kernel
theorem dX1_gatherTurned_82 : decode cX1_gatherTurned 82 = .ok (.iload 5, 2) := by decide +kernel
theorem dX1_gatherTurned_84 : decode cX1_gatherTurned 84 = .ok (.ishl, 1) := by decide +kernel
theorem dX1_gatherTurned_85 : decode cX1_gatherTurned 85 = .ok (.ixor, 1) := by decide +kernel
theorem dX1_gatherTurned_86 : decode cX1_gatherTurned 86 = .ok (.iastore, 1) := by decide +kernel
theorem dX1_gatherTurned_87 : decode cX1_gatherTurned 87 = .ok (.iinc 3 1, 3) := by decide +kernel
theorem dX1_gatherTurned_90 : decode cX1_gatherTurned 90 = .ok (.goto (-67), 3) := by decide +kernel
theorem dX1_gatherTurned_93 : decode cX1_gatherTurned 93 = .ok (.return_, 1) := by decide +kernel
theorem dX1_openBy_0 : decode cX1_openBy 0 = .ok (.iload_n 1, 1) := by decide +kernel
theorem dX1_openBy_1 : decode cX1_openBy 1 = .ok (.tableswitch 35 0 2 #[27, 29, 31], 27) := by decide +kernel
theorem dX1_openBy_28 : decode cX1_openBy 28 = .ok (.iload_n 2, 1) := by decide +kernel
theorem dX1_openBy_29 : decode cX1_openBy 29 = .ok (.ireturn, 1) := by decide +kernel
theorem dX1_openBy_30 : decode cX1_openBy 30 = .ok (.iload_n 3, 1) := by decide +kernel
theorem dX1_openBy_31 : decode cX1_openBy 31 = .ok (.ireturn, 1) := by decide +kernel
theorem dX1_openBy_32 : decode cX1_openBy 32 = .ok (.iload_n 2, 1) := by decide +kernel
theorem dX1_openBy_33 : decode cX1_openBy 33 = .ok (.iload_n 3, 1) := by decide +kernel
theorem dX1_openBy_34 : decode cX1_openBy 34 = .ok (.iand, 1) := by decide +kernel
theorem dX1_openBy_35 : decode cX1_openBy 35 = .ok (.ireturn, 1) := by decide +kernel
theorem dX1_openBy_36 : decode cX1_openBy 36 = .ok (.aload_n 0, 1) := by decide +kernel
theorem dX1_openBy_37 : decode cX1_openBy 37 = .ok (.invokevirtual 124, 3) := by decide +kernel
theorem dX1_openBy_40 : decode cX1_openBy 40 = .ok (.ireturn, 1) := by decide +kernel
theorem dX2_init_0 : decode cX2_init 0 = .ok (.aload_n 0, 1) := by decide +kernel
theorem dX2_init_1 : decode cX2_init 1 = .ok (.invokespecial 3, 3) := by decide +kernel
theorem dX2_init_4 : decode cX2_init 4 = .ok (.aload_n 0, 1) := by decide +kernel
theorem dX2_init_5 : decode cX2_init 5 = .ok (.bipush 6, 2) := by decide +kernel
theorem dX2_init_7 : decode cX2_init 7 = .ok (.newarray .long, 2) := by decide +kernel
theorem dX2_init_9 : decode cX2_init 9 = .ok (.putfield 9, 3) := by decide +kernel
theorem dX2_init_12 : decode cX2_init 12 = .ok (.aload_n 0, 1) := by decide +kernel
theorem dX2_init_13 : decode cX2_init 13 = .ok (.bipush 6, 2) := by decide +kernel
theorem dX2_init_15 : decode cX2_init 15 = .ok (.newarray .int, 2) := by decide +kernel
theorem dX2_init_17 : decode cX2_init 17 = .ok (.putfield 15, 3) := by decide +kernel
theorem dX2_init_20 : decode cX2_init 20 = .ok (.aload_n 0, 1) := by decide +kernel
theorem dX2_init_21 : decode cX2_init 21 = .ok (.bipush 6, 2) := by decide +kernel
theorem dX2_init_23 : decode cX2_init 23 = .ok (.newarray .int, 2) := by decide +kernel
theorem dX2_init_25 : decode cX2_init 25 = .ok (.putfield 19, 3) := by decide +kernel
theorem dX2_init_28 : decode cX2_init 28 = .ok (.aload_n 0, 1) := by decide +kernel
theorem dX2_init_29 : decode cX2_init 29 = .ok (.bipush 6, 2) := by decide +kernel
theorem dX2_init_31 : decode cX2_init 31 = .ok (.newarray .int, 2) := by decide +kernel
theorem dX2_init_33 : decode cX2_init 33 = .ok (.putfield 22, 3) := by decide +kernel
theorem dX2_init_36 : decode cX2_init 36 = .ok (.aload_n 0, 1) := by decide +kernel
theorem dX2_init_37 : decode cX2_init 37 = .ok (.bipush 6, 2) := by decide +kernel
theorem dX2_init_39 : decode cX2_init 39 = .ok (.newarray .int, 2) := by decide +kernel
theorem dX2_init_41 : decode cX2_init 41 = .ok (.putfield 25, 3) := by decide +kernel
theorem dX2_init_44 : decode cX2_init 44 = .ok (.return_, 1) := by decide +kernel
theorem dX2_prepare_0 : decode cX2_prepare 0 = .ok (.aload_n 0, 1) := by decide +kernel
theorem dX2_prepare_1 : decode cX2_prepare 1 = .ok (.aload_n 1, 1) := by decide +kernel
theorem dX2_prepare_2 : decode cX2_prepare 2 = .ok (.invokevirtual 28, 3) := by decide +kernel
theorem dX2_prepare_5 : decode cX2_prepare 5 = .ok (.bipush 6, 2) := by decide +kernel
theorem dX2_prepare_7 : decode cX2_prepare 7 = .ok (.invokestatic 34, 3) := by decide +kernel
theorem dX2_prepare_10 : decode cX2_prepare 10 = .ok (.putfield 40, 3) := by decide +kernel
theorem dX2_prepare_13 : decode cX2_prepare 13 = .ok (.iconst 0, 1) := by decide +kernel
theorem dX2_prepare_14 : decode cX2_prepare 14 = .ok (.istore_n 3, 1) := by decide +kernel
theorem dX2_prepare_15 : decode cX2_prepare 15 = .ok (.iload_n 3, 1) := by decide +kernel
theorem dX2_prepare_16 : decode cX2_prepare 16 = .ok (.aload_n 0, 1) := by decide +kernel
theorem dX2_prepare_17 : decode cX2_prepare 17 = .ok (.getfield 40, 3) := by decide +kernel
theorem dX2_prepare_20 : decode cX2_prepare 20 = .ok (.if_icmp .ge 41, 3) := by decide +kernel
theorem dX2_prepare_23 : decode cX2_prepare 23 = .ok (.aload_n 0, 1) := by decide +kernel
theorem dX2_prepare_24 : decode cX2_prepare 24 = .ok (.getfield 15, 3) := by decide +kernel
theorem dX2_prepare_27 : decode cX2_prepare 27 = .ok (.iload_n 3, 1) := by decide +kernel
theorem dX2_prepare_28 : decode cX2_prepare 28 = .ok (.aload_n 1, 1) := by decide +kernel
theorem dX2_prepare_29 : decode cX2_prepare 29 = .ok (.iload_n 3, 1) := by decide +kernel
theorem dX2_prepare_30 : decode cX2_prepare 30 = .ok (.invokevirtual 44, 3) := by decide +kernel
theorem dX2_prepare_33 : decode cX2_prepare 33 = .ok (.iastore, 1) := by decide +kernel
theorem dX2_prepare_34 : decode cX2_prepare 34 = .ok (.aload_n 0, 1) := by decide +kernel
theorem dX2_prepare_35 : decode cX2_prepare 35 = .ok (.getfield 9, 3) := by decide +kernel
theorem dX2_prepare_38 : decode cX2_prepare 38 = .ok (.iload_n 3, 1) := by decide +kernel
theorem dX2_prepare_39 : decode cX2_prepare 39 = .ok (.aload_n 2, 1) := by decide +kernel
theorem dX2_prepare_40 : decode cX2_prepare 40 = .ok (.aload_n 1, 1) := by decide +kernel
theorem dX2_prepare_41 : decode cX2_prepare 41 = .ok (.iload_n 3, 1) := by decide +kernel
theorem dX2_prepare_42 : decode cX2_prepare 42 = .ok (.invokevirtual 48, 3) := by decide +kernel
theorem dX2_prepare_45 : decode cX2_prepare 45 = .ok (.aload_n 0, 1) := by decide +kernel
theorem dX2_prepare_46 : decode cX2_prepare 46 = .ok (.getfield 15, 3) := by decide +kernel
theorem dX2_prepare_49 : decode cX2_prepare 49 = .ok (.iload_n 3, 1) := by decide +kernel
theorem dX2_prepare_50 : decode cX2_prepare 50 = .ok (.iaload, 1) := by decide +kernel
theorem dX2_prepare_51 : decode cX2_prepare 51 = .ok (.invokevirtual 51, 3) := by decide +kernel
theorem dX2_prepare_54 : decode cX2_prepare 54 = .ok (.lastore, 1) := by decide +kernel
theorem dX2_prepare_55 : decode cX2_prepare 55 = .ok (.iinc 3 1, 3) := by decide +kernel
theorem dX2_prepare_58 : decode cX2_prepare 58 = .ok (.goto (-43), 3) := by decide +kernel
theorem dX2_prepare_61 : decode cX2_prepare 61 = .ok (.return_, 1) := by decide +kernel
theorem dX2_layInTurn_0 : decode cX2_layInTurn 0 = .ok (.iload_n 1, 1) := by decide +kernel
theorem dX2_layInTurn_1 : decode cX2_layInTurn 1 = .ok (.istore_n 2, 1) := by decide +kernel
theorem dX2_layInTurn_2 : decode cX2_layInTurn 2 = .ok (.iconst 0, 1) := by decide +kernel
theorem dX2_layInTurn_3 : decode cX2_layInTurn 3 = .ok (.istore_n 3, 1) := by decide +kernel
theorem dX2_layInTurn_4 : decode cX2_layInTurn 4 = .ok (.iload_n 3, 1) := by decide +kernel
theorem dX2_layInTurn_5 : decode cX2_layInTurn 5 = .ok (.aload_n 0, 1) := by decide +kernel
theorem dX2_layInTurn_6 : decode cX2_layInTurn 6 = .ok (.getfield 40, 3) := by decide +kernel
theorem dX2_layInTurn_9 : decode cX2_layInTurn 9 = .ok (.if_icmp .ge 47, 3) := by decide +kernel
theorem dX2_layInTurn_12 : decode cX2_layInTurn 12 = .ok (.aload_n 0, 1) := by decide +kernel
theorem dX2_layInTurn_13 : decode cX2_layInTurn 13 = .ok (.getfield 9, 3) := by decide +kernel
theorem dX2_layInTurn_16 : decode cX2_layInTurn 16 = .ok (.iload_n 3, 1) := by decide +kernel
theorem dX2_layInTurn_17 : decode cX2_layInTurn 17 = .ok (.laload, 1) := by decide +kernel
theorem dX2_layInTurn_18 : decode cX2_layInTurn 18 = .ok (.iload_n 2, 1) := by decide +kernel
theorem dX2_layInTurn_19 : decode cX2_layInTurn 19 = .ok (.invokestatic 57, 3) := by decide +kernel
theorem dX2_layInTurn_22 : decode cX2_layInTurn 22 = .ok (.istore 4, 2) := by decide +kernel
theorem dX2_layInTurn_24 : decode cX2_layInTurn 24 = .ok (.iload 4, 2) := by decide +kernel
theorem dX2_layInTurn_26 : decode cX2_layInTurn 26 = .ok (.iconst (-1), 1) := by decide +kernel
theorem dX2_layInTurn_27 : decode cX2_layInTurn 27 = .ok (.if_icmp .ne 5, 3) := by decide +kernel
theorem dX2_layInTurn_30 : decode cX2_layInTurn 30 = .ok (.iconst (-1), 1) := by decide +kernel
theorem dX2_layInTurn_31 : decode cX2_layInTurn 31 = .ok (.ireturn, 1) := by decide +kernel
theorem dX2_layInTurn_32 : decode cX2_layInTurn 32 = .ok (.aload_n 0, 1) := by decide +kernel
theorem dX2_layInTurn_33 : decode cX2_layInTurn 33 = .ok (.getfield 19, 3) := by decide +kernel
theorem dX2_layInTurn_36 : decode cX2_layInTurn 36 = .ok (.iload_n 3, 1) := by decide +kernel
theorem dX2_layInTurn_37 : decode cX2_layInTurn 37 = .ok (.iload 4, 2) := by decide +kernel
theorem dX2_layInTurn_39 : decode cX2_layInTurn 39 = .ok (.iastore, 1) := by decide +kernel
theorem dX2_layInTurn_40 : decode cX2_layInTurn 40 = .ok (.iload 4, 2) := by decide +kernel
theorem dX2_layInTurn_42 : decode cX2_layInTurn 42 = .ok (.aload_n 0, 1) := by decide +kernel
theorem dX2_layInTurn_43 : decode cX2_layInTurn 43 = .ok (.getfield 15, 3) := by decide +kernel
theorem dX2_layInTurn_46 : decode cX2_layInTurn 46 = .ok (.iload_n 3, 1) := by decide +kernel
theorem dX2_layInTurn_47 : decode cX2_layInTurn 47 = .ok (.iaload, 1) := by decide +kernel
theorem dX2_layInTurn_48 : decode cX2_layInTurn 48 = .ok (.iadd, 1) := by decide +kernel
theorem dX2_layInTurn_49 : decode cX2_layInTurn 49 = .ok (.istore_n 2, 1) := by decide +kernel
theorem dX2_layInTurn_50 : decode cX2_layInTurn 50 = .ok (.iinc 3 1, 3) := by decide +kernel
theorem dX2_layInTurn_53 : decode cX2_layInTurn 53 = .ok (.goto (-49), 3) := by decide +kernel
theorem dX2_layInTurn_56 : decode cX2_layInTurn 56 = .ok (.aload_n 0, 1) := by decide +kernel
theorem dX2_layInTurn_57 : decode cX2_layInTurn 57 = .ok (.getfield 40, 3) := by decide +kernel
theorem dX2_layInTurn_60 : decode cX2_layInTurn 60 = .ok (.ifCond .ne 7, 3) := by decide +kernel
theorem dX2_layInTurn_63 : decode cX2_layInTurn 63 = .ok (.iconst (-1), 1) := by decide +kernel
theorem dX2_layInTurn_64 : decode cX2_layInTurn 64 = .ok (.goto 6, 3) := by decide +kernel
theorem dX2_layInTurn_67 : decode cX2_layInTurn 67 = .ok (.iload_n 2, 1) := by decide +kernel
theorem dX2_layInTurn_68 : decode cX2_layInTurn 68 = .ok (.iconst 1, 1) := by decide +kernel
theorem dX2_layInTurn_69 : decode cX2_layInTurn 69 = .ok (.isub, 1) := by decide +kernel
theorem dX2_layInTurn_70 : decode cX2_layInTurn 70 = .ok (.ireturn, 1) := by decide +kernel
theorem dX2_startInTurn_0 : decode cX2_startInTurn 0 = .ok (.iload_n 1, 1) := by decide +kernel
theorem dX2_startInTurn_1 : decode cX2_startInTurn 1 = .ok (.iconst 0, 1) := by decide +kernel
theorem dX2_startInTurn_2 : decode cX2_startInTurn 2 = .ok (.aload_n 0, 1) := by decide +kernel
theorem dX2_startInTurn_3 : decode cX2_startInTurn 3 = .ok (.getfield 40, 3) := by decide +kernel
theorem dX2_startInTurn_6 : decode cX2_startInTurn 6 = .ok (.iconst 1, 1) := by decide +kernel
theorem dX2_startInTurn_7 : decode cX2_startInTurn 7 = .ok (.isub, 1) := by decide +kernel
theorem dX2_startInTurn_8 : decode cX2_startInTurn 8 = .ok (.invokestatic 61, 3) := by decide +kernel
theorem dX2_startInTurn_11 : decode cX2_startInTurn 11 = .ok (.ifCond .eq 12, 3) := by decide +kernel
theorem dX2_startInTurn_14 : decode cX2_startInTurn 14 = .ok (.aload_n 0, 1) := by decide +kernel
theorem dX2_startInTurn_15 : decode cX2_startInTurn 15 = .ok (.getfield 19, 3) := by decide +kernel
theorem dX2_startInTurn_18 : decode cX2_startInTurn 18 = .ok (.iload_n 1, 1) := by decide +kernel
theorem dX2_startInTurn_19 : decode cX2_startInTurn 19 = .ok (.iaload, 1) := by decide +kernel
theorem dX2_startInTurn_20 : decode cX2_startInTurn 20 = .ok (.goto 4, 3) := by decide +kernel
theorem dX2_startInTurn_23 : decode cX2_startInTurn 23 = .ok (.iconst (-1), 1) := by decide +kernel
theorem dX2_startInTurn_24 : decode cX2_startInTurn 24 = .ok (.ireturn, 1) := by decide +kernel
theorem dX2_findBestRow_0 : decode cX2_findBestRow 0 = .ok (.aload_n 0, 1) := by decide +kernel
theorem dX2_findBestRow_1 : decode cX2_findBestRow 1 = .ok (.bipush 40, 2) := by decide +kernel
theorem dX2_findBestRow_3 : decode cX2_findBestRow 3 = .ok (.putfield 65, 3) := by decide +kernel
theorem dX2_findBestRow_6 : decode cX2_findBestRow 6 = .ok (.aload_n 0, 1) := by decide +kernel
theorem dX2_findBestRow_7 : decode cX2_findBestRow 7 = .ok (.getfield 40, 3) := by decide +kernel
theorem dX2_findBestRow_10 : decode cX2_findBestRow 10 = .ok (.ifCond .le 10, 3) := by decide +kernel
theorem dX2_findBestRow_13 : decode cX2_findBestRow 13 = .ok (.aload_n 0, 1) := by decide +kernel
theorem dX2_findBestRow_14 : decode cX2_findBestRow 14 = .ok (.iconst 0, 1) := by decide +kernel
theorem dX2_findBestRow_15 : decode cX2_findBestRow 15 = .ok (.iload_n 1, 1) := by decide +kernel
theorem dX2_findBestRow_16 : decode cX2_findBestRow 16 = .ok (.iconst 0, 1) := by decide +kernel
theorem dX2_findBestRow_17 : decode cX2_findBestRow 17 = .ok (.invokevirtual 68, 3) := by decide +kernel
theorem dX2_findBestRow_20 : decode cX2_findBestRow 20 = .ok (.aload_n 0, 1) := by decide +kernel
theorem dX2_findBestRow_21 : decode cX2_findBestRow 21 = .ok (.getfield 65, 3) := by decide +kernel
theorem dX2_findBestRow_24 : decode cX2_findBestRow 24 = .ok (.bipush 40, 2) := by decide +kernel
theorem dX2_findBestRow_26 : decode cX2_findBestRow 26 = .ok (.if_icmp .ne 7, 3) := by decide +kernel
theorem dX2_findBestRow_29 : decode cX2_findBestRow 29 = .ok (.iconst (-1), 1) := by decide +kernel
theorem dX2_findBestRow_30 : decode cX2_findBestRow 30 = .ok (.goto 7, 3) := by decide +kernel
theorem dX2_findBestRow_33 : decode cX2_findBestRow 33 = .ok (.aload_n 0, 1) := by decide +kernel
theorem dX2_findBestRow_34 : decode cX2_findBestRow 34 = .ok (.getfield 65, 3) := by decide +kernel
theorem dX2_findBestRow_37 : decode cX2_findBestRow 37 = .ok (.ireturn, 1) := by decide +kernel
theorem dX2_taskInBestRow_0 : decode cX2_taskInBestRow 0 = .ok (.iload_n 1, 1) := by decide +kernel
theorem dX2_taskInBestRow_1 : decode cX2_taskInBestRow 1 = .ok (.iconst 0, 1) := by decide +kernel
theorem dX2_taskInBestRow_2 : decode cX2_taskInBestRow 2 = .ok (.aload_n 0, 1) := by decide +kernel
theorem dX2_taskInBestRow_3 : decode cX2_taskInBestRow 3 = .ok (.getfield 40, 3) := by decide +kernel
theorem dX2_taskInBestRow_6 : decode cX2_taskInBestRow 6 = .ok (.iconst 1, 1) := by decide +kernel
theorem dX2_taskInBestRow_7 : decode cX2_taskInBestRow 7 = .ok (.isub, 1) := by decide +kernel
theorem dX2_taskInBestRow_8 : decode cX2_taskInBestRow 8 = .ok (.invokestatic 61, 3) := by decide +kernel
theorem dX2_taskInBestRow_11 : decode cX2_taskInBestRow 11 = .ok (.ifCond .eq 12, 3) := by decide +kernel
theorem dX2_taskInBestRow_14 : decode cX2_taskInBestRow 14 = .ok (.aload_n 0, 1) := by decide +kernel
theorem dX2_taskInBestRow_15 : decode cX2_taskInBestRow 15 = .ok (.getfield 25, 3) := by decide +kernel
theorem dX2_taskInBestRow_18 : decode cX2_taskInBestRow 18 = .ok (.iload_n 1, 1) := by decide +kernel
theorem dX2_taskInBestRow_19 : decode cX2_taskInBestRow 19 = .ok (.iaload, 1) := by decide +kernel
theorem dX2_taskInBestRow_20 : decode cX2_taskInBestRow 20 = .ok (.goto 4, 3) := by decide +kernel
theorem dX2_taskInBestRow_23 : decode cX2_taskInBestRow 23 = .ok (.iconst (-1), 1) := by decide +kernel
theorem dX2_taskInBestRow_24 : decode cX2_taskInBestRow 24 = .ok (.ireturn, 1) := by decide +kernel
theorem dX2_search_0 : decode cX2_search 0 = .ok (.iload_n 1, 1) := by decide +kernel
theorem dX2_search_1 : decode cX2_search 1 = .ok (.aload_n 0, 1) := by decide +kernel
theorem dX2_search_2 : decode cX2_search 2 = .ok (.getfield 40, 3) := by decide +kernel
theorem dX2_search_5 : decode cX2_search 5 = .ok (.if_icmp .lt 15, 3) := by decide +kernel
theorem dX2_search_8 : decode cX2_search 8 = .ok (.aload_n 0, 1) := by decide +kernel
theorem dX2_search_9 : decode cX2_search 9 = .ok (.iload_n 2, 1) := by decide +kernel
theorem dX2_search_10 : decode cX2_search 10 = .ok (.iconst 1, 1) := by decide +kernel
theorem dX2_search_11 : decode cX2_search 11 = .ok (.isub, 1) := by decide +kernel
theorem dX2_search_12 : decode cX2_search 12 = .ok (.putfield 65, 3) := by decide +kernel
theorem dX2_search_15 : decode cX2_search 15 = .ok (.aload_n 0, 1) := by decide +kernel
theorem dX2_search_16 : decode cX2_search 16 = .ok (.invokevirtual 72, 3) := by decide +kernel
theorem dX2_search_19 : decode cX2_search 19 = .ok (.return_, 1) := by decide +kernel
theorem dX2_search_20 : decode cX2_search 20 = .ok (.iconst 0, 1) := by decide +kernel
theorem dX2_search_21 : decode cX2_search 21 = .ok (.istore 4, 2) := by decide +kernel
theorem dX2_search_23 : decode cX2_search 23 = .ok (.iload 4, 2) := by decide +kernel
theorem dX2_search_25 : decode cX2_search 25 = .ok (.aload_n 0, 1) := by decide +kernel
theorem dX2_search_26 : decode cX2_search 26 = .ok (.getfield 40, 3) := by decide +kernel
theorem dX2_search_29 : decode cX2_search 29 = .ok (.if_icmp .ge 85, 3) := by decide +kernel
theorem dX2_search_32 : decode cX2_search 32 = .ok (.aload_n 0, 1) := by decide +kernel
theorem dX2_search_33 : decode cX2_search 33 = .ok (.getfield 9, 3) := by decide +kernel
theorem dX2_search_36 : decode cX2_search 36 = .ok (.iload 4, 2) := by decide +kernel
theorem dX2_search_38 : decode cX2_search 38 = .ok (.laload, 1) := by decide +kernel
theorem dX2_search_39 : decode cX2_search 39 = .ok (.iload_n 2, 1) := by decide +kernel
theorem dX2_search_40 : decode cX2_search 40 = .ok (.invokestatic 57, 3) := by decide +kernel
theorem dX2_search_43 : decode cX2_search 43 = .ok (.istore 5, 2) := by decide +kernel
theorem dX2_search_45 : decode cX2_search 45 = .ok (.iload 5, 2) := by decide +kernel
theorem dX2_search_47 : decode cX2_search 47 = .ok (.aload_n 0, 1) := by decide +kernel
theorem dX2_search_48 : decode cX2_search 48 = .ok (.getfield 15, 3) := by decide +kernel
theorem dX2_search_51 : decode cX2_search 51 = .ok (.iload 4, 2) := by decide +kernel
theorem dX2_search_53 : decode cX2_search 53 = .ok (.iaload, 1) := by decide +kernel
theorem dX2_search_54 : decode cX2_search 54 = .ok (.iadd, 1) := by decide +kernel
theorem dX2_search_55 : decode cX2_search 55 = .ok (.iconst 1, 1) := by decide +kernel
theorem dX2_search_56 : decode cX2_search 56 = .ok (.isub, 1) := by decide +kernel
theorem dX2_search_57 : decode cX2_search 57 = .ok (.istore 6, 2) := by decide +kernel
theorem dX2_search_59 : decode cX2_search 59 = .ok (.iload_n 3, 1) := by decide +kernel
theorem dX2_search_60 : decode cX2_search 60 = .ok (.iload 4, 2) := by decide +kernel
theorem dX2_search_62 : decode cX2_search 62 = .ok (.invokestatic 75, 3) := by decide +kernel
theorem dX2_search_65 : decode cX2_search 65 = .ok (.ifCond .ne 43, 3) := by decide +kernel
theorem dX2_search_68 : decode cX2_search 68 = .ok (.iload 5, 2) := by decide +kernel
theorem dX2_search_70 : decode cX2_search 70 = .ok (.iconst (-1), 1) := by decide +kernel
theorem dX2_search_71 : decode cX2_search 71 = .ok (.if_icmp .eq 37, 3) := by decide +kernel
theorem dX2_search_74 : decode cX2_search 74 = .ok (.iload 6, 2) := by decide +kernel
theorem dX2_search_76 : decode cX2_search 76 = .ok (.aload_n 0, 1) := by decide +kernel
theorem dX2_search_77 : decode cX2_search 77 = .ok (.getfield 65, 3) := by decide +kernel
theorem dX2_search_80 : decode cX2_search 80 = .ok (.if_icmp .ge 28, 3) := by decide +kernel
theorem dX2_search_83 : decode cX2_search 83 = .ok (.aload_n 0, 1) := by decide +kernel
theorem dX2_search_84 : decode cX2_search 84 = .ok (.getfield 22, 3) := by decide +kernel
theorem dX2_search_87 : decode cX2_search 87 = .ok (.iload_n 1, 1) := by decide +kernel
theorem dX2_search_88 : decode cX2_search 88 = .ok (.iload 4, 2) := by decide +kernel
theorem dX2_search_90 : decode cX2_search 90 = .ok (.iastore, 1) := by decide +kernel
theorem dX2_search_91 : decode cX2_search 91 = .ok (.aload_n 0, 1) := by decide +kernel
theorem dX2_search_92 : decode cX2_search 92 = .ok (.iload_n 1, 1) := by decide +kernel
theorem dX2_search_93 : decode cX2_search 93 = .ok (.iconst 1, 1) := by decide +kernel
theorem dX2_search_94 : decode cX2_search 94 = .ok (.iadd, 1) := by decide +kernel
theorem dX2_search_95 : decode cX2_search 95 = .ok (.iload 6, 2) := by decide +kernel
theorem dX2_search_97 : decode cX2_search 97 = .ok (.iconst 1, 1) := by decide +kernel
theorem dX2_search_98 : decode cX2_search 98 = .ok (.iadd, 1) := by decide +kernel
theorem dX2_search_99 : decode cX2_search 99 = .ok (.iload_n 3, 1) := by decide +kernel
theorem dX2_search_100 : decode cX2_search 100 = .ok (.iconst 1, 1) := by decide +kernel
theorem dX2_search_101 : decode cX2_search 101 = .ok (.iload 4, 2) := by decide +kernel
theorem dX2_search_103 : decode cX2_search 103 = .ok (.ishl, 1) := by decide +kernel
theorem dX2_search_104 : decode cX2_search 104 = .ok (.ior, 1) := by decide +kernel
theorem dX2_search_105 : decode cX2_search 105 = .ok (.invokevirtual 68, 3) := by decide +kernel
theorem dX2_search_108 : decode cX2_search 108 = .ok (.iinc 4 1, 3) := by decide +kernel
theorem dX2_search_111 : decode cX2_search 111 = .ok (.goto (-88), 3) := by decide +kernel
theorem dX2_search_114 : decode cX2_search 114 = .ok (.return_, 1) := by decide +kernel
theorem dX2_keepRow_0 : decode cX2_keepRow 0 = .ok (.iconst 0, 1) := by decide +kernel
theorem dX2_keepRow_1 : decode cX2_keepRow 1 = .ok (.istore_n 1, 1) := by decide +kernel
theorem dX2_keepRow_2 : decode cX2_keepRow 2 = .ok (.iload_n 1, 1) := by decide +kernel
theorem dX2_keepRow_3 : decode cX2_keepRow 3 = .ok (.aload_n 0, 1) := by decide +kernel
theorem dX2_keepRow_4 : decode cX2_keepRow 4 = .ok (.getfield 40, 3) := by decide +kernel
theorem dX2_keepRow_7 : decode cX2_keepRow 7 = .ok (.if_icmp .ge 21, 3) := by decide +kernel
theorem dX2_keepRow_10 : decode cX2_keepRow 10 = .ok (.aload_n 0, 1) := by decide +kernel
theorem dX2_keepRow_11 : decode cX2_keepRow 11 = .ok (.getfield 25, 3) := by decide +kernel
theorem dX2_keepRow_14 : decode cX2_keepRow 14 = .ok (.iload_n 1, 1) := by decide +kernel
theorem dX2_keepRow_15 : decode cX2_keepRow 15 = .ok (.aload_n 0, 1) := by decide +kernel
theorem dX2_keepRow_16 : decode cX2_keepRow 16 = .ok (.getfield 22, 3) := by decide +kernel
theorem dX2_keepRow_19 : decode cX2_keepRow 19 = .ok (.iload_n 1, 1) := by decide +kernel
theorem dX2_keepRow_20 : decode cX2_keepRow 20 = .ok (.iaload, 1) := by decide +kernel
theorem dX2_keepRow_21 : decode cX2_keepRow 21 = .ok (.iastore, 1) := by decide +kernel
theorem dX2_keepRow_22 : decode cX2_keepRow 22 = .ok (.iinc 1 1, 3) := by decide +kernel
theorem dX2_keepRow_25 : decode cX2_keepRow 25 = .ok (.goto (-23), 3) := by decide +kernel
theorem dX2_keepRow_28 : decode cX2_keepRow 28 = .ok (.return_, 1) := by decide +kernel
theorem dX3_init_0 : decode cX3_init 0 = .ok (.aload_n 0, 1) := by decide +kernel
theorem dX3_init_1 : decode cX3_init 1 = .ok (.invokespecial 3, 3) := by decide +kernel
theorem dX3_init_4 : decode cX3_init 4 = .ok (.aload_n 0, 1) := by decide +kernel
theorem dX3_init_5 : decode cX3_init 5 = .ok (.iload_n 1, 1) := by decide +kernel
theorem dX3_init_6 : decode cX3_init 6 = .ok (.iconst 0, 1) := by decide +kernel
theorem dX3_init_7 : decode cX3_init 7 = .ok (.invokestatic 9, 3) := by decide +kernel
theorem dX3_init_10 : decode cX3_init 10 = .ok (.putfield 15, 3) := by decide +kernel
theorem dX3_init_13 : decode cX3_init 13 = .ok (.aload_n 0, 1) := by decide +kernel
theorem dX3_init_14 : decode cX3_init 14 = .ok (.aload_n 0, 1) := by decide +kernel
theorem dX3_init_15 : decode cX3_init 15 = .ok (.getfield 15, 3) := by decide +kernel
theorem dX3_init_18 : decode cX3_init 18 = .ok (.newarray .int, 2) := by decide +kernel
theorem dX3_init_20 : decode cX3_init 20 = .ok (.putfield 21, 3) := by decide +kernel
theorem dX3_init_23 : decode cX3_init 23 = .ok (.aload_n 0, 1) := by decide +kernel
theorem dX3_init_24 : decode cX3_init 24 = .ok (.aload_n 0, 1) := by decide +kernel
theorem dX3_init_25 : decode cX3_init 25 = .ok (.getfield 15, 3) := by decide +kernel
theorem dX3_init_28 : decode cX3_init 28 = .ok (.newarray .int, 2) := by decide +kernel
theorem dX3_init_30 : decode cX3_init 30 = .ok (.putfield 25, 3) := by decide +kernel
theorem dX3_init_33 : decode cX3_init 33 = .ok (.aload_n 0, 1) := by decide +kernel
theorem dX3_init_34 : decode cX3_init 34 = .ok (.aload_n 0, 1) := by decide +kernel
theorem dX3_init_35 : decode cX3_init 35 = .ok (.getfield 15, 3) := by decide +kernel
theorem dX3_init_38 : decode cX3_init 38 = .ok (.newarray .int, 2) := by decide +kernel
theorem dX3_init_40 : decode cX3_init 40 = .ok (.putfield 28, 3) := by decide +kernel
theorem dX3_init_43 : decode cX3_init 43 = .ok (.return_, 1) := by decide +kernel
theorem dX3_size_0 : decode cX3_size 0 = .ok (.aload_n 0, 1) := by decide +kernel
theorem dX3_size_1 : decode cX3_size 1 = .ok (.getfield 31, 3) := by decide +kernel
theorem dX3_size_4 : decode cX3_size 4 = .ok (.ireturn, 1) := by decide +kernel
theorem dX3_add_0 : decode cX3_add 0 = .ok (.aload_n 0, 1) := by decide +kernel
theorem dX3_add_1 : decode cX3_add 1 = .ok (.getfield 31, 3) := by decide +kernel
theorem dX3_add_4 : decode cX3_add 4 = .ok (.aload_n 0, 1) := by decide +kernel
theorem dX3_add_5 : decode cX3_add 5 = .ok (.getfield 15, 3) := by decide +kernel
theorem dX3_add_8 : decode cX3_add 8 = .ok (.if_icmp .lt 6, 3) := by decide +kernel
theorem dX3_add_11 : decode cX3_add 11 = .ok (.bipush (-4), 2) := by decide +kernel
theorem dX3_add_13 : decode cX3_add 13 = .ok (.ireturn, 1) := by decide +kernel
theorem dX3_add_14 : decode cX3_add 14 = .ok (.aload_n 0, 1) := by decide +kernel
theorem dX3_add_15 : decode cX3_add 15 = .ok (.getfield 21, 3) := by decide +kernel
theorem dX3_add_18 : decode cX3_add 18 = .ok (.aload_n 0, 1) := by decide +kernel
theorem dX3_add_19 : decode cX3_add 19 = .ok (.getfield 31, 3) := by decide +kernel
theorem dX3_add_22 : decode cX3_add 22 = .ok (.iload_n 1, 1) := by decide +kernel
theorem dX3_add_23 : decode cX3_add 23 = .ok (.iastore, 1) := by decide +kernel
theorem dX3_add_24 : decode cX3_add 24 = .ok (.aload_n 0, 1) := by decide +kernel
theorem dX3_add_25 : decode cX3_add 25 = .ok (.getfield 25, 3) := by decide +kernel
theorem dX3_add_28 : decode cX3_add 28 = .ok (.aload_n 0, 1) := by decide +kernel
theorem dX3_add_29 : decode cX3_add 29 = .ok (.getfield 31, 3) := by decide +kernel
theorem dX3_add_32 : decode cX3_add 32 = .ok (.iload_n 2, 1) := by decide +kernel
theorem dX3_add_33 : decode cX3_add 33 = .ok (.iastore, 1) := by decide +kernel
theorem dX3_add_34 : decode cX3_add 34 = .ok (.aload_n 0, 1) := by decide +kernel
theorem dX3_add_35 : decode cX3_add 35 = .ok (.getfield 28, 3) := by decide +kernel
theorem dX3_add_38 : decode cX3_add 38 = .ok (.aload_n 0, 1) := by decide +kernel
theorem dX3_add_39 : decode cX3_add 39 = .ok (.getfield 31, 3) := by decide +kernel
theorem dX3_add_42 : decode cX3_add 42 = .ok (.iload_n 3, 1) := by decide +kernel
theorem dX3_add_43 : decode cX3_add 43 = .ok (.iastore, 1) := by decide +kernel
theorem dX3_add_44 : decode cX3_add 44 = .ok (.aload_n 0, 1) := by decide +kernel
theorem dX3_add_45 : decode cX3_add 45 = .ok (.dup, 1) := by decide +kernel
theorem dX3_add_46 : decode cX3_add 46 = .ok (.getfield 31, 3) := by decide +kernel
theorem dX3_add_49 : decode cX3_add 49 = .ok (.iconst 1, 1) := by decide +kernel
theorem dX3_add_50 : decode cX3_add 50 = .ok (.iadd, 1) := by decide +kernel
theorem dX3_add_51 : decode cX3_add 51 = .ok (.putfield 31, 3) := by decide +kernel
theorem dX3_add_54 : decode cX3_add 54 = .ok (.aload_n 0, 1) := by decide +kernel
theorem dX3_add_55 : decode cX3_add 55 = .ok (.getfield 31, 3) := by decide +kernel
theorem dX3_add_58 : decode cX3_add 58 = .ok (.ireturn, 1) := by decide +kernel
theorem dX3_dropLast_0 : decode cX3_dropLast 0 = .ok (.aload_n 0, 1) := by decide +kernel
theorem dX3_dropLast_1 : decode cX3_dropLast 1 = .ok (.getfield 31, 3) := by decide +kernel
theorem dX3_dropLast_4 : decode cX3_dropLast 4 = .ok (.ifCond .ne 6, 3) := by decide +kernel
theorem dX3_dropLast_7 : decode cX3_dropLast 7 = .ok (.bipush (-3), 2) := by decide +kernel
theorem dX3_dropLast_9 : decode cX3_dropLast 9 = .ok (.ireturn, 1) := by decide +kernel
theorem dX3_dropLast_10 : decode cX3_dropLast 10 = .ok (.aload_n 0, 1) := by decide +kernel
theorem dX3_dropLast_11 : decode cX3_dropLast 11 = .ok (.dup, 1) := by decide +kernel
theorem dX3_dropLast_12 : decode cX3_dropLast 12 = .ok (.getfield 31, 3) := by decide +kernel
theorem dX3_dropLast_15 : decode cX3_dropLast 15 = .ok (.iconst 1, 1) := by decide +kernel
theorem dX3_dropLast_16 : decode cX3_dropLast 16 = .ok (.isub, 1) := by decide +kernel
theorem dX3_dropLast_17 : decode cX3_dropLast 17 = .ok (.putfield 31, 3) := by decide +kernel
theorem dX3_dropLast_20 : decode cX3_dropLast 20 = .ok (.aload_n 0, 1) := by decide +kernel
theorem dX3_dropLast_21 : decode cX3_dropLast 21 = .ok (.getfield 31, 3) := by decide +kernel
theorem dX3_dropLast_24 : decode cX3_dropLast 24 = .ok (.ireturn, 1) := by decide +kernel
theorem dX3_clear_0 : decode cX3_clear 0 = .ok (.aload_n 0, 1) := by decide +kernel
theorem dX3_clear_1 : decode cX3_clear 1 = .ok (.getfield 31, 3) := by decide +kernel
theorem dX3_clear_4 : decode cX3_clear 4 = .ok (.istore_n 1, 1) := by decide +kernel
theorem dX3_clear_5 : decode cX3_clear 5 = .ok (.aload_n 0, 1) := by decide +kernel
theorem dX3_clear_6 : decode cX3_clear 6 = .ok (.iconst 0, 1) := by decide +kernel
theorem dX3_clear_7 : decode cX3_clear 7 = .ok (.putfield 31, 3) := by decide +kernel
theorem dX3_clear_10 : decode cX3_clear 10 = .ok (.iload_n 1, 1) := by decide +kernel
theorem dX3_clear_11 : decode cX3_clear 11 = .ok (.ireturn, 1) := by decide +kernel
theorem dX3_first_0 : decode cX3_first 0 = .ok (.iload_n 1, 1) := by decide +kernel
theorem dX3_first_1 : decode cX3_first 1 = .ok (.iconst 0, 1) := by decide +kernel
theorem dX3_first_2 : decode cX3_first 2 = .ok (.aload_n 0, 1) := by decide +kernel
theorem dX3_first_3 : decode cX3_first 3 = .ok (.getfield 31, 3) := by decide +kernel
theorem dX3_first_6 : decode cX3_first 6 = .ok (.iconst 1, 1) := by decide +kernel
theorem dX3_first_7 : decode cX3_first 7 = .ok (.isub, 1) := by decide +kernel
theorem dX3_first_8 : decode cX3_first 8 = .ok (.invokestatic 34, 3) := by decide +kernel
theorem dX3_first_11 : decode cX3_first 11 = .ok (.ifCond .eq 12, 3) := by decide +kernel
theorem dX3_first_14 : decode cX3_first 14 = .ok (.aload_n 0, 1) := by decide +kernel
theorem dX3_first_15 : decode cX3_first 15 = .ok (.getfield 21, 3) := by decide +kernel
theorem dX3_first_18 : decode cX3_first 18 = .ok (.iload_n 1, 1) := by decide +kernel
theorem dX3_first_19 : decode cX3_first 19 = .ok (.iaload, 1) := by decide +kernel
theorem dX3_first_20 : decode cX3_first 20 = .ok (.goto 4, 3) := by decide +kernel
theorem dX3_first_23 : decode cX3_first 23 = .ok (.iconst (-1), 1) := by decide +kernel
theorem dX3_first_24 : decode cX3_first 24 = .ok (.ireturn, 1) := by decide +kernel
theorem dX3_second_0 : decode cX3_second 0 = .ok (.iload_n 1, 1) := by decide +kernel
theorem dX3_second_1 : decode cX3_second 1 = .ok (.iconst 0, 1) := by decide +kernel
theorem dX3_second_2 : decode cX3_second 2 = .ok (.aload_n 0, 1) := by decide +kernel
theorem dX3_second_3 : decode cX3_second 3 = .ok (.getfield 31, 3) := by decide +kernel
theorem dX3_second_6 : decode cX3_second 6 = .ok (.iconst 1, 1) := by decide +kernel
theorem dX3_second_7 : decode cX3_second 7 = .ok (.isub, 1) := by decide +kernel
theorem dX3_second_8 : decode cX3_second 8 = .ok (.invokestatic 34, 3) := by decide +kernel
theorem dX3_second_11 : decode cX3_second 11 = .ok (.ifCond .eq 12, 3) := by decide +kernel
theorem dX3_second_14 : decode cX3_second 14 = .ok (.aload_n 0, 1) := by decide +kernel
theorem dX3_second_15 : decode cX3_second 15 = .ok (.getfield 25, 3) := by decide +kernel
theorem dX3_second_18 : decode cX3_second 18 = .ok (.iload_n 1, 1) := by decide +kernel
theorem dX3_second_19 : decode cX3_second 19 = .ok (.iaload, 1) := by decide +kernel
theorem dX3_second_20 : decode cX3_second 20 = .ok (.goto 4, 3) := by decide +kernel
theorem dX3_second_23 : decode cX3_second 23 = .ok (.iconst (-1), 1) := by decide +kernel
theorem dX3_second_24 : decode cX3_second 24 = .ok (.ireturn, 1) := by decide +kernel
theorem dX3_third_0 : decode cX3_third 0 = .ok (.iload_n 1, 1) := by decide +kernel
theorem dX3_third_1 : decode cX3_third 1 = .ok (.iconst 0, 1) := by decide +kernel
theorem dX3_third_2 : decode cX3_third 2 = .ok (.aload_n 0, 1) := by decide +kernel
theorem dX3_third_3 : decode cX3_third 3 = .ok (.getfield 31, 3) := by decide +kernel
theorem dX3_third_6 : decode cX3_third 6 = .ok (.iconst 1, 1) := by decide +kernel
theorem dX3_third_7 : decode cX3_third 7 = .ok (.isub, 1) := by decide +kernel
theorem dX3_third_8 : decode cX3_third 8 = .ok (.invokestatic 34, 3) := by decide +kernel
theorem dX3_third_11 : decode cX3_third 11 = .ok (.ifCond .eq 12, 3) := by decide +kernel
theorem dX3_third_14 : decode cX3_third 14 = .ok (.aload_n 0, 1) := by decide +kernel
theorem dX3_third_15 : decode cX3_third 15 = .ok (.getfield 28, 3) := by decide +kernel
theorem dX3_third_18 : decode cX3_third 18 = .ok (.iload_n 1, 1) := by decide +kernel
theorem dX3_third_19 : decode cX3_third 19 = .ok (.iaload, 1) := by decide +kernel
theorem dX3_third_20 : decode cX3_third 20 = .ok (.goto 4, 3) := by decide +kernel
theorem dX3_third_23 : decode cX3_third 23 = .ok (.iconst (-1), 1) := by decide +kernel
theorem dX3_third_24 : decode cX3_third 24 = .ok (.ireturn, 1) := by decide +kernel
theorem dX3_holds_0 : decode cX3_holds 0 = .ok (.iconst 0, 1) := by decide +kernel
theorem dX3_holds_1 : decode cX3_holds 1 = .ok (.istore_n 3, 1) := by decide +kernel
theorem dX3_holds_2 : decode cX3_holds 2 = .ok (.iload_n 3, 1) := by decide +kernel
theorem dX3_holds_3 : decode cX3_holds 3 = .ok (.aload_n 0, 1) := by decide +kernel
theorem dX3_holds_4 : decode cX3_holds 4 = .ok (.getfield 31, 3) := by decide +kernel
theorem dX3_holds_7 : decode cX3_holds 7 = .ok (.if_icmp .ge 31, 3) := by decide +kernel
theorem dX3_holds_10 : decode cX3_holds 10 = .ok (.aload_n 0, 1) := by decide +kernel
theorem dX3_holds_11 : decode cX3_holds 11 = .ok (.getfield 21, 3) := by decide +kernel
theorem dX3_holds_14 : decode cX3_holds 14 = .ok (.iload_n 3, 1) := by decide +kernel
theorem dX3_holds_15 : decode cX3_holds 15 = .ok (.iaload, 1) := by decide +kernel
theorem dX3_holds_16 : decode cX3_holds 16 = .ok (.iload_n 1, 1) := by decide +kernel
theorem dX3_holds_17 : decode cX3_holds 17 = .ok (.if_icmp .ne 15, 3) := by decide +kernel
theorem dX3_holds_20 : decode cX3_holds 20 = .ok (.aload_n 0, 1) := by decide +kernel
theorem dX3_holds_21 : decode cX3_holds 21 = .ok (.getfield 25, 3) := by decide +kernel
theorem dX3_holds_24 : decode cX3_holds 24 = .ok (.iload_n 3, 1) := by decide +kernel
theorem dX3_holds_25 : decode cX3_holds 25 = .ok (.iaload, 1) := by decide +kernel
theorem dX3_holds_26 : decode cX3_holds 26 = .ok (.iload_n 2, 1) := by decide +kernel
theorem dX3_holds_27 : decode cX3_holds 27 = .ok (.if_icmp .ne 5, 3) := by decide +kernel
theorem dX3_holds_30 : decode cX3_holds 30 = .ok (.iconst 1, 1) := by decide +kernel
theorem dX3_holds_31 : decode cX3_holds 31 = .ok (.ireturn, 1) := by decide +kernel
theorem dX3_holds_32 : decode cX3_holds 32 = .ok (.iinc 3 1, 3) := by decide +kernel
theorem dX3_holds_35 : decode cX3_holds 35 = .ok (.goto (-33), 3) := by decide +kernel
theorem dX3_holds_38 : decode cX3_holds 38 = .ok (.iconst 0, 1) := by decide +kernel
theorem dX3_holds_39 : decode cX3_holds 39 = .ok (.ireturn, 1) := by decide +kernel
theorem dX4_init_0 : decode cX4_init 0 = .ok (.aload_n 0, 1) := by decide +kernel
theorem dX4_init_1 : decode cX4_init 1 = .ok (.invokespecial 3, 3) := by decide +kernel
theorem dX4_init_4 : decode cX4_init 4 = .ok (.aload_n 0, 1) := by decide +kernel
theorem dX4_init_5 : decode cX4_init 5 = .ok (.bipush 60, 2) := by decide +kernel
theorem dX4_init_7 : decode cX4_init 7 = .ok (.newarray .int, 2) := by decide +kernel
theorem dX4_init_9 : decode cX4_init 9 = .ok (.putfield 9, 3) := by decide +kernel
theorem dX4_init_12 : decode cX4_init 12 = .ok (.aload_n 0, 1) := by decide +kernel
theorem dX4_init_13 : decode cX4_init 13 = .ok (.iconst (-1), 1) := by decide +kernel
theorem dX4_init_14 : decode cX4_init 14 = .ok (.putfield 15, 3) := by decide +kernel
theorem dX4_init_17 : decode cX4_init 17 = .ok (.return_, 1) := by decide +kernel
theorem dX4_isLost_0 : decode cX4_isLost 0 = .ok (.aload_n 0, 1) := by decide +kernel
theorem dX4_isLost_1 : decode cX4_isLost 1 = .ok (.getfield 15, 3) := by decide +kernel
theorem dX4_isLost_4 : decode cX4_isLost 4 = .ok (.iconst (-1), 1) := by decide +kernel
theorem dX4_isLost_5 : decode cX4_isLost 5 = .ok (.if_icmp .ne 7, 3) := by decide +kernel
theorem dX4_isLost_8 : decode cX4_isLost 8 = .ok (.iconst 1, 1) := by decide +kernel
theorem dX4_isLost_9 : decode cX4_isLost 9 = .ok (.goto 4, 3) := by decide +kernel
theorem dX4_isLost_12 : decode cX4_isLost 12 = .ok (.iconst 0, 1) := by decide +kernel
theorem dX4_isLost_13 : decode cX4_isLost 13 = .ok (.ireturn, 1) := by decide +kernel
theorem dX4_form_0 : decode cX4_form 0 = .ok (.aload_n 0, 1) := by decide +kernel
theorem dX4_form_1 : decode cX4_form 1 = .ok (.getfield 15, 3) := by decide +kernel
theorem dX4_form_4 : decode cX4_form 4 = .ok (.ireturn, 1) := by decide +kernel
theorem dX4_size_0 : decode cX4_size 0 = .ok (.aload_n 0, 1) := by decide +kernel
theorem dX4_size_1 : decode cX4_size 1 = .ok (.getfield 19, 3) := by decide +kernel
theorem dX4_size_4 : decode cX4_size 4 = .ok (.ireturn, 1) := by decide +kernel
theorem dX4_begin_0 : decode cX4_begin 0 = .ok (.aload_n 0, 1) := by decide +kernel
theorem dX4_begin_1 : decode cX4_begin 1 = .ok (.iload_n 1, 1) := by decide +kernel
theorem dX4_begin_2 : decode cX4_begin 2 = .ok (.putfield 15, 3) := by decide +kernel
theorem dX4_begin_5 : decode cX4_begin 5 = .ok (.aload_n 0, 1) := by decide +kernel
theorem dX4_begin_6 : decode cX4_begin 6 = .ok (.iconst 0, 1) := by decide +kernel
theorem dX4_begin_7 : decode cX4_begin 7 = .ok (.iload_n 2, 1) := by decide +kernel
theorem dX4_begin_8 : decode cX4_begin 8 = .ok (.bipush 60, 2) := by decide +kernel
theorem dX4_begin_10 : decode cX4_begin 10 = .ok (.invokestatic 22, 3) := by decide +kernel
theorem dX4_begin_13 : decode cX4_begin 13 = .ok (.invokestatic 28, 3) := by decide +kernel
theorem dX4_begin_16 : decode cX4_begin 16 = .ok (.putfield 19, 3) := by decide +kernel
theorem dX4_begin_19 : decode cX4_begin 19 = .ok (.iconst 0, 1) := by decide +kernel
theorem dX4_begin_20 : decode cX4_begin 20 = .ok (.istore_n 3, 1) := by decide +kernel
theorem dX4_begin_21 : decode cX4_begin 21 = .ok (.iload_n 3, 1) := by decide +kernel
theorem dX4_begin_22 : decode cX4_begin 22 = .ok (.aload_n 0, 1) := by decide +kernel
theorem dX4_begin_23 : decode cX4_begin 23 = .ok (.getfield 19, 3) := by decide +kernel
theorem dX4_begin_26 : decode cX4_begin 26 = .ok (.if_icmp .ge 16, 3) := by decide +kernel
theorem dX4_begin_29 : decode cX4_begin 29 = .ok (.aload_n 0, 1) := by decide +kernel
theorem dX4_begin_30 : decode cX4_begin 30 = .ok (.getfield 9, 3) := by decide +kernel
theorem dX4_begin_33 : decode cX4_begin 33 = .ok (.iload_n 3, 1) := by decide +kernel
theorem dX4_begin_34 : decode cX4_begin 34 = .ok (.iconst 0, 1) := by decide +kernel
theorem dX4_begin_35 : decode cX4_begin 35 = .ok (.iastore, 1) := by decide +kernel
theorem dX4_begin_36 : decode cX4_begin 36 = .ok (.iinc 3 1, 3) := by decide +kernel
theorem dX4_begin_39 : decode cX4_begin 39 = .ok (.goto (-18), 3) := by decide +kernel
theorem dX4_begin_42 : decode cX4_begin 42 = .ok (.return_, 1) := by decide +kernel
theorem dX4_tear_0 : decode cX4_tear 0 = .ok (.aload_n 0, 1) := by decide +kernel
theorem dX4_tear_1 : decode cX4_tear 1 = .ok (.getfield 19, 3) := by decide +kernel
theorem dX4_tear_4 : decode cX4_tear 4 = .ok (.istore_n 1, 1) := by decide +kernel
theorem dX4_tear_5 : decode cX4_tear 5 = .ok (.aload_n 0, 1) := by decide +kernel
theorem dX4_tear_6 : decode cX4_tear 6 = .ok (.iconst (-1), 1) := by decide +kernel
theorem dX4_tear_7 : decode cX4_tear 7 = .ok (.putfield 15, 3) := by decide +kernel
theorem dX4_tear_10 : decode cX4_tear 10 = .ok (.aload_n 0, 1) := by decide +kernel
theorem dX4_tear_11 : decode cX4_tear 11 = .ok (.iconst 0, 1) := by decide +kernel
theorem dX4_tear_12 : decode cX4_tear 12 = .ok (.putfield 19, 3) := by decide +kernel
theorem dX4_tear_15 : decode cX4_tear 15 = .ok (.iload_n 1, 1) := by decide +kernel
theorem dX4_tear_16 : decode cX4_tear 16 = .ok (.ireturn, 1) := by decide +kernel
theorem dX4_hasRange_0 : decode cX4_hasRange 0 = .ok (.iload_n 1, 1) := by decide +kernel
theorem dX4_hasRange_1 : decode cX4_hasRange 1 = .ok (.ifCond .lt 29, 3) := by decide +kernel
theorem dX4_hasRange_4 : decode cX4_hasRange 4 = .ok (.iload_n 2, 1) := by decide +kernel
theorem dX4_hasRange_5 : decode cX4_hasRange 5 = .ok (.ifCond .lt 25, 3) := by decide +kernel
theorem dX4_hasRange_8 : decode cX4_hasRange 8 = .ok (.iload_n 1, 1) := by decide +kernel
theorem dX4_hasRange_9 : decode cX4_hasRange 9 = .ok (.aload_n 0, 1) := by decide +kernel
theorem dX4_hasRange_10 : decode cX4_hasRange 10 = .ok (.getfield 19, 3) := by decide +kernel
theorem dX4_hasRange_13 : decode cX4_hasRange 13 = .ok (.if_icmp .gt 17, 3) := by decide +kernel
theorem dX4_hasRange_16 : decode cX4_hasRange 16 = .ok (.iload_n 2, 1) := by decide +kernel
theorem dX4_hasRange_17 : decode cX4_hasRange 17 = .ok (.aload_n 0, 1) := by decide +kernel
theorem dX4_hasRange_18 : decode cX4_hasRange 18 = .ok (.getfield 19, 3) := by decide +kernel
theorem dX4_hasRange_21 : decode cX4_hasRange 21 = .ok (.iload_n 1, 1) := by decide +kernel
theorem dX4_hasRange_22 : decode cX4_hasRange 22 = .ok (.isub, 1) := by decide +kernel
theorem dX4_hasRange_23 : decode cX4_hasRange 23 = .ok (.if_icmp .gt 7, 3) := by decide +kernel
theorem dX4_hasRange_26 : decode cX4_hasRange 26 = .ok (.iconst 1, 1) := by decide +kernel
theorem dX4_hasRange_27 : decode cX4_hasRange 27 = .ok (.goto 4, 3) := by decide +kernel
theorem dX4_hasRange_30 : decode cX4_hasRange 30 = .ok (.iconst 0, 1) := by decide +kernel
theorem dX4_hasRange_31 : decode cX4_hasRange 31 = .ok (.ireturn, 1) := by decide +kernel
theorem dX4_item_0 : decode cX4_item 0 = .ok (.iload_n 1, 1) := by decide +kernel
theorem dX4_item_1 : decode cX4_item 1 = .ok (.iconst 0, 1) := by decide +kernel
theorem dX4_item_2 : decode cX4_item 2 = .ok (.aload_n 0, 1) := by decide +kernel
theorem dX4_item_3 : decode cX4_item 3 = .ok (.getfield 19, 3) := by decide +kernel
theorem dX4_item_6 : decode cX4_item 6 = .ok (.iconst 1, 1) := by decide +kernel
theorem dX4_item_7 : decode cX4_item 7 = .ok (.isub, 1) := by decide +kernel
theorem dX4_item_8 : decode cX4_item 8 = .ok (.invokestatic 31, 3) := by decide +kernel
theorem dX4_item_11 : decode cX4_item 11 = .ok (.ifCond .eq 12, 3) := by decide +kernel
theorem dX4_item_14 : decode cX4_item 14 = .ok (.aload_n 0, 1) := by decide +kernel
theorem dX4_item_15 : decode cX4_item 15 = .ok (.getfield 9, 3) := by decide +kernel
theorem dX4_item_18 : decode cX4_item 18 = .ok (.iload_n 1, 1) := by decide +kernel
theorem dX4_item_19 : decode cX4_item 19 = .ok (.iaload, 1) := by decide +kernel
theorem dX4_item_20 : decode cX4_item 20 = .ok (.goto 4, 3) := by decide +kernel
theorem dX4_item_23 : decode cX4_item 23 = .ok (.iconst 0, 1) := by decide +kernel
theorem dX4_item_24 : decode cX4_item 24 = .ok (.ireturn, 1) := by decide +kernel
theorem dX4_keep_0 : decode cX4_keep 0 = .ok (.iload_n 1, 1) := by decide +kernel
theorem dX4_keep_1 : decode cX4_keep 1 = .ok (.iconst 0, 1) := by decide +kernel
theorem dX4_keep_2 : decode cX4_keep 2 = .ok (.aload_n 0, 1) := by decide +kernel
theorem dX4_keep_3 : decode cX4_keep 3 = .ok (.getfield 19, 3) := by decide +kernel
theorem dX4_keep_6 : decode cX4_keep 6 = .ok (.iconst 1, 1) := by decide +kernel
theorem dX4_keep_7 : decode cX4_keep 7 = .ok (.isub, 1) := by decide +kernel
theorem dX4_keep_8 : decode cX4_keep 8 = .ok (.invokestatic 31, 3) := by decide +kernel
theorem dX4_keep_11 : decode cX4_keep 11 = .ok (.ifCond .eq 14, 3) := by decide +kernel
theorem dX4_keep_14 : decode cX4_keep 14 = .ok (.aload_n 0, 1) := by decide +kernel
theorem dX4_keep_15 : decode cX4_keep 15 = .ok (.getfield 9, 3) := by decide +kernel
theorem dX4_keep_18 : decode cX4_keep 18 = .ok (.iload_n 1, 1) := by decide +kernel
theorem dX4_keep_19 : decode cX4_keep 19 = .ok (.aload_n 0, 1) := by decide +kernel
theorem dX4_keep_20 : decode cX4_keep 20 = .ok (.iload_n 2, 1) := by decide +kernel
theorem dX4_keep_21 : decode cX4_keep 21 = .ok (.invokevirtual 35, 3) := by decide +kernel
theorem dX4_keep_24 : decode cX4_keep 24 = .ok (.iastore, 1) := by decide +kernel
theorem dX4_keep_25 : decode cX4_keep 25 = .ok (.return_, 1) := by decide +kernel
theorem dX4_takeItems_0 : decode cX4_takeItems 0 = .ok (.aload_n 0, 1) := by decide +kernel
theorem dX4_takeItems_1 : decode cX4_takeItems 1 = .ok (.iload_n 1, 1) := by decide +kernel
theorem dX4_takeItems_2 : decode cX4_takeItems 2 = .ok (.iload 4, 2) := by decide +kernel
theorem dX4_takeItems_4 : decode cX4_takeItems 4 = .ok (.invokevirtual 39, 3) := by decide +kernel
theorem dX4_takeItems_7 : decode cX4_takeItems 7 = .ok (.ifCond .eq 28, 3) := by decide +kernel
theorem dX4_takeItems_10 : decode cX4_takeItems 10 = .ok (.aload_n 2, 1) := by decide +kernel
theorem dX4_takeItems_11 : decode cX4_takeItems 11 = .ok (.iload_n 3, 1) := by decide +kernel
theorem dX4_takeItems_12 : decode cX4_takeItems 12 = .ok (.iload 4, 2) := by decide +kernel
theorem dX4_takeItems_14 : decode cX4_takeItems 14 = .ok (.invokevirtual 39, 3) := by decide +kernel
theorem dX4_takeItems_17 : decode cX4_takeItems 17 = .ok (.ifCond .eq 18, 3) := by decide +kernel
theorem dX4_takeItems_20 : decode cX4_takeItems 20 = .ok (.aload_n 2, 1) := by decide +kernel
theorem dX4_takeItems_21 : decode cX4_takeItems 21 = .ok (.getfield 9, 3) := by decide +kernel
theorem dX4_takeItems_24 : decode cX4_takeItems 24 = .ok (.iload_n 3, 1) := by decide +kernel
theorem dX4_takeItems_25 : decode cX4_takeItems 25 = .ok (.aload_n 0, 1) := by decide +kernel
theorem dX4_takeItems_26 : decode cX4_takeItems 26 = .ok (.getfield 9, 3) := by decide +kernel
theorem dX4_takeItems_29 : decode cX4_takeItems 29 = .ok (.iload_n 1, 1) := by decide +kernel
theorem dX4_takeItems_30 : decode cX4_takeItems 30 = .ok (.iload 4, 2) := by decide +kernel
theorem dX4_takeItems_32 : decode cX4_takeItems 32 = .ok (.invokestatic 43, 3) := by decide +kernel
theorem dX4_takeItems_35 : decode cX4_takeItems 35 = .ok (.return_, 1) := by decide +kernel
theorem dX4_cut_0 : decode cX4_cut 0 = .ok (.aload_n 0, 1) := by decide +kernel
theorem dX4_cut_1 : decode cX4_cut 1 = .ok (.getfield 15, 3) := by decide +kernel
theorem dX4_cut_4 : decode cX4_cut 4 = .ok (.lookupswitch 34 #[(0, 28), (1, 31)], 28) := by decide +kernel
theorem dX4_cut_32 : decode cX4_cut 32 = .ok (.iload_n 1, 1) := by decide +kernel
theorem dX4_cut_33 : decode cX4_cut 33 = .ok (.i2b, 1) := by decide +kernel
theorem dX4_cut_34 : decode cX4_cut 34 = .ok (.ireturn, 1) := by decide +kernel
theorem dX4_cut_35 : decode cX4_cut 35 = .ok (.iload_n 1, 1) := by decide +kernel
theorem dX4_cut_36 : decode cX4_cut 36 = .ok (.i2s, 1) := by decide +kernel
theorem dX4_cut_37 : decode cX4_cut 37 = .ok (.ireturn, 1) := by decide +kernel
theorem dX4_cut_38 : decode cX4_cut 38 = .ok (.iload_n 1, 1) := by decide +kernel
theorem dX4_cut_39 : decode cX4_cut 39 = .ok (.ireturn, 1) := by decide +kernel
theorem dX5_init_0 : decode cX5_init 0 = .ok (.aload_n 0, 1) := by decide +kernel
theorem dX5_init_1 : decode cX5_init 1 = .ok (.invokespecial 3, 3) := by decide +kernel
theorem dX5_init_4 : decode cX5_init 4 = .ok (.aload_n 0, 1) := by decide +kernel
theorem dX5_init_5 : decode cX5_init 5 = .ok (.new 9, 3) := by decide +kernel
theorem dX5_init_8 : decode cX5_init 8 = .ok (.dup, 1) := by decide +kernel
theorem dX5_init_9 : decode cX5_init 9 = .ok (.invokespecial 11, 3) := by decide +kernel
theorem dX5_init_12 : decode cX5_init 12 = .ok (.putfield 12, 3) := by decide +kernel
theorem dX5_init_15 : decode cX5_init 15 = .ok (.aload_n 0, 1) := by decide +kernel
theorem dX5_init_16 : decode cX5_init 16 = .ok (.new 16, 3) := by decide +kernel
theorem dX5_init_19 : decode cX5_init 19 = .ok (.dup, 1) := by decide +kernel
theorem dX5_init_20 : decode cX5_init 20 = .ok (.bipush 8, 2) := by decide +kernel
theorem dX5_init_22 : decode cX5_init 22 = .ok (.invokespecial 18, 3) := by decide +kernel
theorem dX5_init_25 : decode cX5_init 25 = .ok (.putfield 21, 3) := by decide +kernel
theorem dX5_init_28 : decode cX5_init 28 = .ok (.aload_n 0, 1) := by decide +kernel
theorem dX5_init_29 : decode cX5_init 29 = .ok (.new 16, 3) := by decide +kernel
theorem dX5_init_32 : decode cX5_init 32 = .ok (.dup, 1) := by decide +kernel
theorem dX5_init_33 : decode cX5_init 33 = .ok (.iconst 4, 1) := by decide +kernel
theorem dX5_init_34 : decode cX5_init 34 = .ok (.invokespecial 18, 3) := by decide +kernel
theorem dX5_init_37 : decode cX5_init 37 = .ok (.putfield 25, 3) := by decide +kernel
theorem dX5_init_40 : decode cX5_init 40 = .ok (.aload_n 0, 1) := by decide +kernel
theorem dX5_init_41 : decode cX5_init 41 = .ok (.new 16, 3) := by decide +kernel
theorem dX5_init_44 : decode cX5_init 44 = .ok (.dup, 1) := by decide +kernel
theorem dX5_init_45 : decode cX5_init 45 = .ok (.bipush 10, 2) := by decide +kernel
theorem dX5_init_47 : decode cX5_init 47 = .ok (.invokespecial 18, 3) := by decide +kernel
theorem dX5_init_50 : decode cX5_init 50 = .ok (.putfield 28, 3) := by decide +kernel
theorem dX5_init_53 : decode cX5_init 53 = .ok (.aload_n 0, 1) := by decide +kernel
theorem dX5_init_54 : decode cX5_init 54 = .ok (.new 16, 3) := by decide +kernel
theorem dX5_init_57 : decode cX5_init 57 = .ok (.dup, 1) := by decide +kernel
theorem dX5_init_58 : decode cX5_init 58 = .ok (.bipush 12, 2) := by decide +kernel
theorem dX5_init_60 : decode cX5_init 60 = .ok (.invokespecial 18, 3) := by decide +kernel
theorem dX5_init_63 : decode cX5_init 63 = .ok (.putfield 31, 3) := by decide +kernel
theorem dX5_init_66 : decode cX5_init 66 = .ok (.aload_n 0, 1) := by decide +kernel
theorem dX5_init_67 : decode cX5_init 67 = .ok (.new 16, 3) := by decide +kernel
theorem dX5_init_70 : decode cX5_init 70 = .ok (.dup, 1) := by decide +kernel
theorem dX5_init_71 : decode cX5_init 71 = .ok (.bipush 6, 2) := by decide +kernel
theorem dX5_init_73 : decode cX5_init 73 = .ok (.invokespecial 18, 3) := by decide +kernel
theorem dX5_init_76 : decode cX5_init 76 = .ok (.putfield 34, 3) := by decide +kernel
theorem dX5_init_79 : decode cX5_init 79 = .ok (.aload_n 0, 1) := by decide +kernel
theorem dX5_init_80 : decode cX5_init 80 = .ok (.new 16, 3) := by decide +kernel
theorem dX5_init_83 : decode cX5_init 83 = .ok (.dup, 1) := by decide +kernel
theorem dX5_init_84 : decode cX5_init 84 = .ok (.bipush 8, 2) := by decide +kernel
theorem dX5_init_86 : decode cX5_init 86 = .ok (.invokespecial 18, 3) := by decide +kernel
theorem dX5_init_89 : decode cX5_init 89 = .ok (.putfield 37, 3) := by decide +kernel
theorem dX5_init_92 : decode cX5_init 92 = .ok (.aload_n 0, 1) := by decide +kernel
theorem dX5_init_93 : decode cX5_init 93 = .ok (.new 16, 3) := by decide +kernel
theorem dX5_init_96 : decode cX5_init 96 = .ok (.dup, 1) := by decide +kernel
theorem dX5_init_97 : decode cX5_init 97 = .ok (.bipush 8, 2) := by decide +kernel
theorem dX5_init_99 : decode cX5_init 99 = .ok (.invokespecial 18, 3) := by decide +kernel
theorem dX5_init_102 : decode cX5_init 102 = .ok (.putfield 40, 3) := by decide +kernel
theorem dX5_init_105 : decode cX5_init 105 = .ok (.aload_n 0, 1) := by decide +kernel
theorem dX5_init_106 : decode cX5_init 106 = .ok (.new 43, 3) := by decide +kernel
theorem dX5_init_109 : decode cX5_init 109 = .ok (.dup, 1) := by decide +kernel
theorem dX5_init_110 : decode cX5_init 110 = .ok (.invokespecial 45, 3) := by decide +kernel
theorem dX5_init_113 : decode cX5_init 113 = .ok (.putfield 46, 3) := by decide +kernel
theorem dX5_init_116 : decode cX5_init 116 = .ok (.aload_n 0, 1) := by decide +kernel
theorem dX5_init_117 : decode cX5_init 117 = .ok (.new 43, 3) := by decide +kernel
theorem dX5_init_120 : decode cX5_init 120 = .ok (.dup, 1) := by decide +kernel
theorem dX5_init_121 : decode cX5_init 121 = .ok (.invokespecial 45, 3) := by decide +kernel
theorem dX5_init_124 : decode cX5_init 124 = .ok (.putfield 50, 3) := by decide +kernel
theorem dX5_init_127 : decode cX5_init 127 = .ok (.aload_n 0, 1) := by decide +kernel
theorem dX5_init_128 : decode cX5_init 128 = .ok (.new 53, 3) := by decide +kernel
theorem dX5_init_131 : decode cX5_init 131 = .ok (.dup, 1) := by decide +kernel
theorem dX5_init_132 : decode cX5_init 132 = .ok (.invokespecial 55, 3) := by decide +kernel
theorem dX5_init_135 : decode cX5_init 135 = .ok (.putfield 56, 3) := by decide +kernel
theorem dX5_init_138 : decode cX5_init 138 = .ok (.aload_n 0, 1) := by decide +kernel
theorem dX5_init_139 : decode cX5_init 139 = .ok (.iconst 4, 1) := by decide +kernel
theorem dX5_init_140 : decode cX5_init 140 = .ok (.anewarray 60, 3) := by decide +kernel
theorem dX5_init_143 : decode cX5_init 143 = .ok (.putfield 62, 3) := by decide +kernel
theorem dX5_init_146 : decode cX5_init 146 = .ok (.aload_n 0, 1) := by decide +kernel
theorem dX5_init_147 : decode cX5_init 147 = .ok (.iconst 1, 1) := by decide +kernel
theorem dX5_init_148 : decode cX5_init 148 = .ok (.putfield 66, 3) := by decide +kernel
theorem dX5_init_151 : decode cX5_init 151 = .ok (.iconst 0, 1) := by decide +kernel
theorem dX5_init_152 : decode cX5_init 152 = .ok (.istore_n 1, 1) := by decide +kernel
theorem dX5_init_153 : decode cX5_init 153 = .ok (.iload_n 1, 1) := by decide +kernel
theorem dX5_init_154 : decode cX5_init 154 = .ok (.iconst 4, 1) := by decide +kernel
theorem dX5_init_155 : decode cX5_init 155 = .ok (.if_icmp .ge 22, 3) := by decide +kernel
theorem dX5_init_158 : decode cX5_init 158 = .ok (.aload_n 0, 1) := by decide +kernel
theorem dX5_init_159 : decode cX5_init 159 = .ok (.getfield 62, 3) := by decide +kernel
theorem dX5_init_162 : decode cX5_init 162 = .ok (.iload_n 1, 1) := by decide +kernel
theorem dX5_init_163 : decode cX5_init 163 = .ok (.new 60, 3) := by decide +kernel
theorem dX5_init_166 : decode cX5_init 166 = .ok (.dup, 1) := by decide +kernel
theorem dX5_init_167 : decode cX5_init 167 = .ok (.invokespecial 70, 3) := by decide +kernel
theorem dX5_init_170 : decode cX5_init 170 = .ok (.aastore, 1) := by decide +kernel
theorem dX5_init_171 : decode cX5_init 171 = .ok (.iinc 1 1, 3) := by decide +kernel
theorem dX5_init_174 : decode cX5_init 174 = .ok (.goto (-21), 3) := by decide +kernel
theorem dX5_init_177 : decode cX5_init 177 = .ok (.return_, 1) := by decide +kernel
theorem dX5_type_0 : decode cX5_type 0 = .ok (.iload_n 1, 1) := by decide +kernel
theorem dX5_type_1 : decode cX5_type 1 = .ok (.iconst 0, 1) := by decide +kernel
theorem dX5_type_2 : decode cX5_type 2 = .ok (.sipush 255, 3) := by decide +kernel
theorem dX5_type_5 : decode cX5_type 5 = .ok (.invokestatic 71, 3) := by decide +kernel
theorem dX5_type_8 : decode cX5_type 8 = .ok (.ifCond .ne 6, 3) := by decide +kernel
theorem dX5_type_11 : decode cX5_type 11 = .ok (.bipush (-2), 2) := by decide +kernel
theorem dX5_type_13 : decode cX5_type 13 = .ok (.ireturn, 1) := by decide +kernel
theorem dX5_type_14 : decode cX5_type 14 = .ok (.aload_n 0, 1) := by decide +kernel
theorem dX5_type_15 : decode cX5_type 15 = .ok (.aload_n 0, 1) := by decide +kernel
theorem dX5_type_16 : decode cX5_type 16 = .ok (.getfield 12, 3) := by decide +kernel
theorem dX5_type_19 : decode cX5_type 19 = .ok (.iload_n 1, 1) := by decide +kernel
theorem dX5_type_20 : decode cX5_type 20 = .ok (.invokevirtual 75, 3) := by decide +kernel
theorem dX5_type_23 : decode cX5_type 23 = .ok (.invokevirtual 79, 3) := by decide +kernel
theorem dX5_type_26 : decode cX5_type 26 = .ok (.ireturn, 1) := by decide +kernel
theorem dX5_wipe_0 : decode cX5_wipe 0 = .ok (.aload_n 0, 1) := by decide +kernel
theorem dX5_wipe_1 : decode cX5_wipe 1 = .ok (.aload_n 0, 1) := by decide +kernel
theorem dX5_wipe_2 : decode cX5_wipe 2 = .ok (.getfield 12, 3) := by decide +kernel
theorem dX5_wipe_5 : decode cX5_wipe 5 = .ok (.invokevirtual 82, 3) := by decide +kernel
theorem dX5_wipe_8 : decode cX5_wipe 8 = .ok (.invokevirtual 79, 3) := by decide +kernel
theorem dX5_wipe_11 : decode cX5_wipe 11 = .ok (.ireturn, 1) := by decide +kernel
theorem dX5_undo_0 : decode cX5_undo 0 = .ok (.aload_n 0, 1) := by decide +kernel
theorem dX5_undo_1 : decode cX5_undo 1 = .ok (.aload_n 0, 1) := by decide +kernel
theorem dX5_undo_2 : decode cX5_undo 2 = .ok (.getfield 12, 3) := by decide +kernel
theorem dX5_undo_5 : decode cX5_undo 5 = .ok (.invokevirtual 86, 3) := by decide +kernel
theorem dX5_undo_8 : decode cX5_undo 8 = .ok (.invokevirtual 79, 3) := by decide +kernel
theorem dX5_undo_11 : decode cX5_undo 11 = .ok (.ireturn, 1) := by decide +kernel
theorem dX5_fault_0 : decode cX5_fault 0 = .ok (.aload_n 0, 1) := by decide +kernel
theorem dX5_fault_1 : decode cX5_fault 1 = .ok (.getfield 12, 3) := by decide +kernel
theorem dX5_fault_4 : decode cX5_fault 4 = .ok (.invokevirtual 89, 3) := by decide +kernel
theorem dX5_fault_7 : decode cX5_fault 7 = .ok (.ireturn, 1) := by decide +kernel
theorem dX5_deed_0 : decode cX5_deed 0 = .ok (.aload_n 0, 1) := by decide +kernel
theorem dX5_deed_1 : decode cX5_deed 1 = .ok (.getfield 12, 3) := by decide +kernel
theorem dX5_deed_4 : decode cX5_deed 4 = .ok (.iload_n 1, 1) := by decide +kernel
theorem dX5_deed_5 : decode cX5_deed 5 = .ok (.invokevirtual 92, 3) := by decide +kernel
theorem dX5_deed_8 : decode cX5_deed 8 = .ok (.ifCond .ne 6, 3) := by decide +kernel
theorem dX5_deed_11 : decode cX5_deed 11 = .ok (.bipush (-2), 2) := by decide +kernel
theorem dX5_deed_13 : decode cX5_deed 13 = .ok (.ireturn, 1) := by decide +kernel
theorem dX5_deed_14 : decode cX5_deed 14 = .ok (.iload_n 2, 1) := by decide +kernel
theorem dX5_deed_15 : decode cX5_deed 15 = .ok (.tableswitch 62 0 2 #[25, 34, 46], 25) := by decide +kernel
theorem dX5_deed_40 : decode cX5_deed 40 = .ok (.aload_n 0, 1) := by decide +kernel
theorem dX5_deed_41 : decode cX5_deed 41 = .ok (.getfield 12, 3) := by decide +kernel
theorem dX5_deed_44 : decode cX5_deed 44 = .ok (.iload_n 1, 1) := by decide +kernel
theorem dX5_deed_45 : decode cX5_deed 45 = .ok (.invokevirtual 96, 3) := by decide +kernel
theorem dX5_deed_48 : decode cX5_deed 48 = .ok (.ireturn, 1) := by decide +kernel
theorem dX5_deed_49 : decode cX5_deed 49 = .ok (.aload_n 0, 1) := by decide +kernel
theorem dX5_deed_50 : decode cX5_deed 50 = .ok (.getfield 12, 3) := by decide +kernel
theorem dX5_deed_53 : decode cX5_deed 53 = .ok (.invokevirtual 99, 3) := by decide +kernel
theorem dX5_deed_56 : decode cX5_deed 56 = .ok (.iload_n 1, 1) := by decide +kernel
theorem dX5_deed_57 : decode cX5_deed 57 = .ok (.invokestatic 102, 3) := by decide +kernel
theorem dX5_deed_60 : decode cX5_deed 60 = .ok (.ireturn, 1) := by decide +kernel
theorem dX5_deed_61 : decode cX5_deed 61 = .ok (.aload_n 0, 1) := by decide +kernel
theorem dX5_deed_62 : decode cX5_deed 62 = .ok (.getfield 12, 3) := by decide +kernel
theorem dX5_deed_65 : decode cX5_deed 65 = .ok (.aload_n 0, 1) := by decide +kernel
theorem dX5_deed_66 : decode cX5_deed 66 = .ok (.getfield 106, 3) := by decide +kernel
theorem dX5_deed_69 : decode cX5_deed 69 = .ok (.invokevirtual 110, 3) := by decide +kernel
theorem dX5_deed_72 : decode cX5_deed 72 = .ok (.iload_n 1, 1) := by decide +kernel
theorem dX5_deed_73 : decode cX5_deed 73 = .ok (.invokestatic 102, 3) := by decide +kernel
theorem dX5_deed_76 : decode cX5_deed 76 = .ok (.ireturn, 1) := by decide +kernel
theorem dX5_deed_77 : decode cX5_deed 77 = .ok (.bipush (-2), 2) := by decide +kernel
theorem dX5_deed_79 : decode cX5_deed 79 = .ok (.ireturn, 1) := by decide +kernel
theorem dX5_set_0 : decode cX5_set 0 = .ok (.iload_n 1, 1) := by decide +kernel
theorem dX5_set_1 : decode cX5_set 1 = .ok (.iconst 0, 1) := by decide +kernel
theorem dX5_set_2 : decode cX5_set 2 = .ok (.iconst 1, 1) := by decide +kernel
theorem dX5_set_3 : decode cX5_set 3 = .ok (.invokestatic 71, 3) := by decide +kernel
theorem dX5_set_6 : decode cX5_set 6 = .ok (.ifCond .eq 12, 3) := by decide +kernel
theorem dX5_set_9 : decode cX5_set 9 = .ok (.iload_n 2, 1) := by decide +kernel
theorem dX5_set_10 : decode cX5_set 10 = .ok (.iconst 0, 1) := by decide +kernel
theorem dX5_set_11 : decode cX5_set 11 = .ok (.iconst 2, 1) := by decide +kernel
theorem dX5_set_12 : decode cX5_set 12 = .ok (.invokestatic 71, 3) := by decide +kernel
theorem dX5_set_15 : decode cX5_set 15 = .ok (.ifCond .ne 6, 3) := by decide +kernel
theorem dX5_set_18 : decode cX5_set 18 = .ok (.bipush (-2), 2) := by decide +kernel
theorem dX5_set_20 : decode cX5_set 20 = .ok (.ireturn, 1) := by decide +kernel
theorem dX5_set_21 : decode cX5_set 21 = .ok (.iload_n 1, 1) := by decide +kernel
theorem dX5_set_22 : decode cX5_set 22 = .ok (.ifCond .ne 16, 3) := by decide +kernel
theorem dX5_set_25 : decode cX5_set 25 = .ok (.aload_n 0, 1) := by decide +kernel
theorem dX5_set_26 : decode cX5_set 26 = .ok (.getfield 106, 3) := by decide +kernel
theorem dX5_set_29 : decode cX5_set 29 = .ok (.istore_n 3, 1) := by decide +kernel
theorem dX5_set_30 : decode cX5_set 30 = .ok (.aload_n 0, 1) := by decide +kernel
theorem dX5_set_31 : decode cX5_set 31 = .ok (.iload_n 2, 1) := by decide +kernel
theorem dX5_set_32 : decode cX5_set 32 = .ok (.putfield 106, 3) := by decide +kernel
theorem dX5_set_35 : decode cX5_set 35 = .ok (.goto 13, 3) := by decide +kernel
theorem dX5_set_38 : decode cX5_set 38 = .ok (.aload_n 0, 1) := by decide +kernel
theorem dX5_set_39 : decode cX5_set 39 = .ok (.getfield 113, 3) := by decide +kernel
theorem dX5_set_42 : decode cX5_set 42 = .ok (.istore_n 3, 1) := by decide +kernel
theorem dX5_set_43 : decode cX5_set 43 = .ok (.aload_n 0, 1) := by decide +kernel
theorem dX5_set_44 : decode cX5_set 44 = .ok (.iload_n 2, 1) := by decide +kernel
theorem dX5_set_45 : decode cX5_set 45 = .ok (.putfield 113, 3) := by decide +kernel
theorem dX5_set_48 : decode cX5_set 48 = .ok (.aload_n 0, 1) := by decide +kernel
theorem dX5_set_49 : decode cX5_set 49 = .ok (.iload_n 3, 1) := by decide +kernel
theorem dX5_set_50 : decode cX5_set 50 = .ok (.invokevirtual 79, 3) := by decide +kernel
theorem dX5_set_53 : decode cX5_set 53 = .ok (.ireturn, 1) := by decide +kernel
theorem dX5_sick_0 : decode cX5_sick 0 = .ok (.iload_n 1, 1) := by decide +kernel
theorem dX5_sick_1 : decode cX5_sick 1 = .ok (.invokestatic 116, 3) := by decide +kernel
theorem dX5_sick_4 : decode cX5_sick 4 = .ok (.ifCond .eq 10, 3) := by decide +kernel
theorem dX5_sick_7 : decode cX5_sick 7 = .ok (.iload_n 2, 1) := by decide +kernel
theorem dX5_sick_8 : decode cX5_sick 8 = .ok (.invokestatic 119, 3) := by decide +kernel
theorem dX5_sick_11 : decode cX5_sick 11 = .ok (.ifCond .ne 6, 3) := by decide +kernel
theorem dX5_sick_14 : decode cX5_sick 14 = .ok (.bipush (-2), 2) := by decide +kernel
theorem dX5_sick_16 : decode cX5_sick 16 = .ok (.ireturn, 1) := by decide +kernel
theorem dX5_sick_17 : decode cX5_sick 17 = .ok (.aload_n 0, 1) := by decide +kernel
theorem dX5_sick_18 : decode cX5_sick 18 = .ok (.aload_n 0, 1) := by decide +kernel
theorem dX5_sick_19 : decode cX5_sick 19 = .ok (.getfield 21, 3) := by decide +kernel
theorem dX5_sick_22 : decode cX5_sick 22 = .ok (.iload_n 1, 1) := by decide +kernel
theorem dX5_sick_23 : decode cX5_sick 23 = .ok (.iload_n 2, 1) := by decide +kernel
theorem dX5_sick_24 : decode cX5_sick 24 = .ok (.iconst 0, 1) := by decide +kernel
theorem dX5_sick_25 : decode cX5_sick 25 = .ok (.invokevirtual 122, 3) := by decide +kernel
theorem dX5_sick_28 : decode cX5_sick 28 = .ok (.invokevirtual 79, 3) := by decide +kernel
theorem dX5_sick_31 : decode cX5_sick 31 = .ok (.ireturn, 1) := by decide +kernel
theorem dX5_leap_0 : decode cX5_leap 0 = .ok (.iload_n 1, 1) := by decide +kernel
theorem dX5_leap_1 : decode cX5_leap 1 = .ok (.invokestatic 119, 3) := by decide +kernel
theorem dX5_leap_4 : decode cX5_leap 4 = .ok (.ifCond .ne 6, 3) := by decide +kernel
theorem dX5_leap_7 : decode cX5_leap 7 = .ok (.bipush (-2), 2) := by decide +kernel
theorem dX5_leap_9 : decode cX5_leap 9 = .ok (.ireturn, 1) := by decide +kernel
theorem dX5_leap_10 : decode cX5_leap 10 = .ok (.aload_n 0, 1) := by decide +kernel
theorem dX5_leap_11 : decode cX5_leap 11 = .ok (.aload_n 0, 1) := by decide +kernel
theorem dX5_leap_12 : decode cX5_leap 12 = .ok (.getfield 25, 3) := by decide +kernel
theorem dX5_leap_15 : decode cX5_leap 15 = .ok (.iload_n 1, 1) := by decide +kernel
theorem dX5_leap_16 : decode cX5_leap 16 = .ok (.iconst 0, 1) := by decide +kernel
theorem dX5_leap_17 : decode cX5_leap 17 = .ok (.iconst 0, 1) := by decide +kernel
theorem dX5_leap_18 : decode cX5_leap 18 = .ok (.invokevirtual 122, 3) := by decide +kernel
theorem dX5_leap_21 : decode cX5_leap 21 = .ok (.invokevirtual 79, 3) := by decide +kernel
theorem dX5_leap_24 : decode cX5_leap 24 = .ok (.ireturn, 1) := by decide +kernel
theorem dX5_edict_0 : decode cX5_edict 0 = .ok (.iload_n 1, 1) := by decide +kernel
theorem dX5_edict_1 : decode cX5_edict 1 = .ok (.invokestatic 119, 3) := by decide +kernel
theorem dX5_edict_4 : decode cX5_edict 4 = .ok (.ifCond .eq 10, 3) := by decide +kernel
theorem dX5_edict_7 : decode cX5_edict 7 = .ok (.iload_n 2, 1) := by decide +kernel
theorem dX5_edict_8 : decode cX5_edict 8 = .ok (.invokestatic 126, 3) := by decide +kernel
theorem dX5_edict_11 : decode cX5_edict 11 = .ok (.ifCond .ne 6, 3) := by decide +kernel
theorem dX5_edict_14 : decode cX5_edict 14 = .ok (.bipush (-2), 2) := by decide +kernel
theorem dX5_edict_16 : decode cX5_edict 16 = .ok (.ireturn, 1) := by decide +kernel
theorem dX5_edict_17 : decode cX5_edict 17 = .ok (.aload_n 0, 1) := by decide +kernel
theorem dX5_edict_18 : decode cX5_edict 18 = .ok (.aload_n 0, 1) := by decide +kernel
theorem dX5_edict_19 : decode cX5_edict 19 = .ok (.getfield 28, 3) := by decide +kernel
theorem dX5_edict_22 : decode cX5_edict 22 = .ok (.iload_n 1, 1) := by decide +kernel
theorem dX5_edict_23 : decode cX5_edict 23 = .ok (.iload_n 2, 1) := by decide +kernel
theorem dX5_edict_24 : decode cX5_edict 24 = .ok (.iconst 0, 1) := by decide +kernel
theorem dX5_edict_25 : decode cX5_edict 25 = .ok (.invokevirtual 122, 3) := by decide +kernel
theorem dX5_edict_28 : decode cX5_edict 28 = .ok (.invokevirtual 79, 3) := by decide +kernel
theorem dX5_edict_31 : decode cX5_edict 31 = .ok (.ireturn, 1) := by decide +kernel
theorem dX5_does_0 : decode cX5_does 0 = .ok (.iload_n 1, 1) := by decide +kernel
theorem dX5_does_1 : decode cX5_does 1 = .ok (.invokestatic 119, 3) := by decide +kernel
theorem dX5_does_4 : decode cX5_does 4 = .ok (.ifCond .eq 30, 3) := by decide +kernel
theorem dX5_does_7 : decode cX5_does 7 = .ok (.iload_n 2, 1) := by decide +kernel
theorem dX5_does_8 : decode cX5_does 8 = .ok (.invokestatic 126, 3) := by decide +kernel
theorem dX5_does_11 : decode cX5_does 11 = .ok (.ifCond .eq 23, 3) := by decide +kernel
theorem dX5_does_14 : decode cX5_does 14 = .ok (.iload_n 3, 1) := by decide +kernel
theorem dX5_does_15 : decode cX5_does 15 = .ok (.iconst 1, 1) := by decide +kernel
theorem dX5_does_16 : decode cX5_does 16 = .ok (.iconst 5, 1) := by decide +kernel
theorem dX5_does_17 : decode cX5_does 17 = .ok (.invokestatic 71, 3) := by decide +kernel
theorem dX5_does_20 : decode cX5_does 20 = .ok (.ifCond .eq 14, 3) := by decide +kernel
theorem dX5_does_23 : decode cX5_does 23 = .ok (.iload_n 1, 1) := by decide +kernel
theorem dX5_does_24 : decode cX5_does 24 = .ok (.iload_n 3, 1) := by decide +kernel
theorem dX5_does_25 : decode cX5_does 25 = .ok (.iadd, 1) := by decide +kernel
theorem dX5_does_26 : decode cX5_does 26 = .ok (.iconst 1, 1) := by decide +kernel
theorem dX5_does_27 : decode cX5_does 27 = .ok (.isub, 1) := by decide +kernel
theorem dX5_does_28 : decode cX5_does 28 = .ok (.invokestatic 119, 3) := by decide +kernel
theorem dX5_does_31 : decode cX5_does 31 = .ok (.ifCond .ne 6, 3) := by decide +kernel
theorem dX5_does_34 : decode cX5_does 34 = .ok (.bipush (-2), 2) := by decide +kernel
theorem dX5_does_36 : decode cX5_does 36 = .ok (.ireturn, 1) := by decide +kernel
theorem dX5_does_37 : decode cX5_does 37 = .ok (.aload_n 0, 1) := by decide +kernel
theorem dX5_does_38 : decode cX5_does 38 = .ok (.getfield 31, 3) := by decide +kernel
theorem dX5_does_41 : decode cX5_does 41 = .ok (.iload_n 1, 1) := by decide +kernel
theorem dX5_does_42 : decode cX5_does 42 = .ok (.iload_n 2, 1) := by decide +kernel
theorem dX5_does_43 : decode cX5_does 43 = .ok (.iload_n 3, 1) := by decide +kernel
theorem dX5_does_44 : decode cX5_does 44 = .ok (.invokevirtual 122, 3) := by decide +kernel
theorem dX5_does_47 : decode cX5_does 47 = .ok (.ireturn, 1) := by decide +kernel
theorem dX5_task_0 : decode cX5_task 0 = .ok (.iload_n 1, 1) := by decide +kernel
theorem dX5_task_1 : decode cX5_task 1 = .ok (.invokestatic 126, 3) := by decide +kernel
theorem dX5_task_4 : decode cX5_task 4 = .ok (.ifCond .eq 12, 3) := by decide +kernel
theorem dX5_task_7 : decode cX5_task 7 = .ok (.iload_n 2, 1) := by decide +kernel
theorem dX5_task_8 : decode cX5_task 8 = .ok (.iconst 1, 1) := by decide +kernel
theorem dX5_task_9 : decode cX5_task 9 = .ok (.iconst 5, 1) := by decide +kernel
theorem dX5_task_10 : decode cX5_task 10 = .ok (.invokestatic 71, 3) := by decide +kernel
theorem dX5_task_13 : decode cX5_task 13 = .ok (.ifCond .ne 6, 3) := by decide +kernel
theorem dX5_task_16 : decode cX5_task 16 = .ok (.bipush (-2), 2) := by decide +kernel
theorem dX5_task_18 : decode cX5_task 18 = .ok (.ireturn, 1) := by decide +kernel
theorem dX5_task_19 : decode cX5_task 19 = .ok (.aload_n 0, 1) := by decide +kernel
theorem dX5_task_20 : decode cX5_task 20 = .ok (.getfield 34, 3) := by decide +kernel
theorem dX5_task_23 : decode cX5_task 23 = .ok (.iload_n 1, 1) := by decide +kernel
theorem dX5_task_24 : decode cX5_task 24 = .ok (.iload_n 2, 1) := by decide +kernel
theorem dX5_task_25 : decode cX5_task 25 = .ok (.iconst 0, 1) := by decide +kernel
theorem dX5_task_26 : decode cX5_task 26 = .ok (.invokevirtual 122, 3) := by decide +kernel
theorem dX5_task_29 : decode cX5_task 29 = .ok (.ireturn, 1) := by decide +kernel
theorem dX5_back_0 : decode cX5_back 0 = .ok (.aload_n 0, 1) := by decide +kernel
theorem dX5_back_1 : decode cX5_back 1 = .ok (.iload_n 1, 1) := by decide +kernel
theorem dX5_back_2 : decode cX5_back 2 = .ok (.invokevirtual 129, 3) := by decide +kernel
theorem dX5_back_5 : decode cX5_back 5 = .ok (.astore_n 2, 1) := by decide +kernel
theorem dX5_back_6 : decode cX5_back 6 = .ok (.aload_n 2, 1) := by decide +kernel
theorem dX5_back_7 : decode cX5_back 7 = .ok (.ifnonnull 6, 3) := by decide +kernel
theorem dX5_back_10 : decode cX5_back 10 = .ok (.bipush (-2), 2) := by decide +kernel
theorem dX5_back_12 : decode cX5_back 12 = .ok (.ireturn, 1) := by decide +kernel
theorem dX5_back_13 : decode cX5_back 13 = .ok (.aload_n 0, 1) := by decide +kernel
theorem dX5_back_14 : decode cX5_back 14 = .ok (.aload_n 2, 1) := by decide +kernel
theorem dX5_back_15 : decode cX5_back 15 = .ok (.invokevirtual 133, 3) := by decide +kernel
theorem dX5_back_18 : decode cX5_back 18 = .ok (.invokevirtual 79, 3) := by decide +kernel
theorem dX5_back_21 : decode cX5_back 21 = .ok (.ireturn, 1) := by decide +kernel
theorem dX5_read_0 : decode cX5_read 0 = .ok (.iload_n 1, 1) := by decide +kernel
theorem dX5_read_1 : decode cX5_read 1 = .ok (.invokestatic 134, 3) := by decide +kernel
theorem dX5_read_4 : decode cX5_read 4 = .ok (.ifCond .ne 6, 3) := by decide +kernel
theorem dX5_read_7 : decode cX5_read 7 = .ok (.bipush (-2), 2) := by decide +kernel
theorem dX5_read_9 : decode cX5_read 9 = .ok (.ireturn, 1) := by decide +kernel
theorem dX5_read_10 : decode cX5_read 10 = .ok (.aload_n 0, 1) := by decide +kernel
theorem dX5_read_11 : decode cX5_read 11 = .ok (.getfield 62, 3) := by decide +kernel
theorem dX5_read_14 : decode cX5_read 14 = .ok (.iload_n 1, 1) := by decide +kernel
theorem dX5_read_15 : decode cX5_read 15 = .ok (.aaload, 1) := by decide +kernel
theorem dX5_read_16 : decode cX5_read 16 = .ok (.astore_n 2, 1) := by decide +kernel
theorem dX5_read_17 : decode cX5_read 17 = .ok (.aload_n 2, 1) := by decide +kernel
theorem dX5_read_18 : decode cX5_read 18 = .ok (.invokevirtual 137, 3) := by decide +kernel
theorem dX5_read_21 : decode cX5_read 21 = .ok (.ifCond .eq 9, 3) := by decide +kernel
theorem dX5_read_24 : decode cX5_read 24 = .ok (.aload_n 0, 1) := by decide +kernel
theorem dX5_read_25 : decode cX5_read 25 = .ok (.iconst 1, 1) := by decide +kernel
theorem dX5_read_26 : decode cX5_read 26 = .ok (.invokevirtual 141, 3) := by decide +kernel
theorem dX5_read_29 : decode cX5_read 29 = .ok (.ireturn, 1) := by decide +kernel
theorem dX5_read_30 : decode cX5_read 30 = .ok (.iconst 0, 1) := by decide +kernel
theorem dX5_read_31 : decode cX5_read 31 = .ok (.istore_n 3, 1) := by decide +kernel
theorem dX5_read_32 : decode cX5_read 32 = .ok (.iconst 0, 1) := by decide +kernel
theorem dX5_read_33 : decode cX5_read 33 = .ok (.istore 4, 2) := by decide +kernel
theorem dX5_read_35 : decode cX5_read 35 = .ok (.iload 4, 2) := by decide +kernel
theorem dX5_read_37 : decode cX5_read 37 = .ok (.iconst 1, 1) := by decide +kernel
theorem dX5_read_38 : decode cX5_read 38 = .ok (.iadd, 1) := by decide +kernel
theorem dX5_read_39 : decode cX5_read 39 = .ok (.aload_n 2, 1) := by decide +kernel
theorem dX5_read_40 : decode cX5_read 40 = .ok (.invokevirtual 144, 3) := by decide +kernel
theorem dX5_read_43 : decode cX5_read 43 = .ok (.if_icmp .ge 36, 3) := by decide +kernel
theorem dX5_read_46 : decode cX5_read 46 = .ok (.aload_n 0, 1) := by decide +kernel
theorem dX5_read_47 : decode cX5_read 47 = .ok (.aload_n 2, 1) := by decide +kernel
theorem dX5_read_48 : decode cX5_read 48 = .ok (.iload 4, 2) := by decide +kernel
theorem dX5_read_50 : decode cX5_read 50 = .ok (.invokevirtual 147, 3) := by decide +kernel
theorem dX5_read_53 : decode cX5_read 53 = .ok (.aload_n 2, 1) := by decide +kernel
theorem dX5_read_54 : decode cX5_read 54 = .ok (.iload 4, 2) := by decide +kernel
theorem dX5_read_56 : decode cX5_read 56 = .ok (.iconst 1, 1) := by decide +kernel
theorem dX5_read_57 : decode cX5_read 57 = .ok (.iadd, 1) := by decide +kernel
theorem dX5_read_58 : decode cX5_read 58 = .ok (.invokevirtual 147, 3) := by decide +kernel
theorem dX5_read_61 : decode cX5_read 61 = .ok (.invokevirtual 150, 3) := by decide +kernel
theorem dX5_read_64 : decode cX5_read 64 = .ok (.ifCond .ge 6, 3) := by decide +kernel
theorem dX5_read_67 : decode cX5_read 67 = .ok (.goto 12, 3) := by decide +kernel
theorem dX5_read_70 : decode cX5_read 70 = .ok (.iinc 3 1, 3) := by decide +kernel
theorem dX5_read_73 : decode cX5_read 73 = .ok (.iinc 4 2, 3) := by decide +kernel
theorem dX5_read_76 : decode cX5_read 76 = .ok (.goto (-41), 3) := by decide +kernel
theorem dX5_read_79 : decode cX5_read 79 = .ok (.iload_n 3, 1) := by decide +kernel
theorem dX5_read_80 : decode cX5_read 80 = .ok (.ireturn, 1) := by decide +kernel
theorem dX5_rules_0 : decode cX5_rules 0 = .ok (.iload_n 1, 1) := by decide +kernel
theorem dX5_rules_1 : decode cX5_rules 1 = .ok (.invokestatic 119, 3) := by decide +kernel
theorem dX5_rules_4 : decode cX5_rules 4 = .ok (.ifCond .eq 14, 3) := by decide +kernel
theorem dX5_rules_7 : decode cX5_rules 7 = .ok (.aload_n 0, 1) := by decide +kernel
theorem dX5_rules_8 : decode cX5_rules 8 = .ok (.invokevirtual 153, 3) := by decide +kernel
theorem dX5_rules_11 : decode cX5_rules 11 = .ok (.iload_n 1, 1) := by decide +kernel
theorem dX5_rules_12 : decode cX5_rules 12 = .ok (.invokevirtual 157, 3) := by decide +kernel
theorem dX5_rules_15 : decode cX5_rules 15 = .ok (.goto 5, 3) := by decide +kernel
theorem dX5_rules_18 : decode cX5_rules 18 = .ok (.bipush (-2), 2) := by decide +kernel
theorem dX5_rules_20 : decode cX5_rules 20 = .ok (.ireturn, 1) := by decide +kernel
theorem dX5_allows_0 : decode cX5_allows 0 = .ok (.iload_n 1, 1) := by decide +kernel
theorem dX5_allows_1 : decode cX5_allows 1 = .ok (.invokestatic 119, 3) := by decide +kernel
theorem dX5_allows_4 : decode cX5_allows 4 = .ok (.ifCond .eq 10, 3) := by decide +kernel
theorem dX5_allows_7 : decode cX5_allows 7 = .ok (.iload_n 2, 1) := by decide +kernel
theorem dX5_allows_8 : decode cX5_allows 8 = .ok (.invokestatic 116, 3) := by decide +kernel
theorem dX5_allows_11 : decode cX5_allows 11 = .ok (.ifCond .ne 6, 3) := by decide +kernel
theorem dX5_allows_14 : decode cX5_allows 14 = .ok (.bipush (-2), 2) := by decide +kernel
theorem dX5_allows_16 : decode cX5_allows 16 = .ok (.ireturn, 1) := by decide +kernel
theorem dX5_allows_17 : decode cX5_allows 17 = .ok (.aload_n 0, 1) := by decide +kernel
theorem dX5_allows_18 : decode cX5_allows 18 = .ok (.invokevirtual 153, 3) := by decide +kernel
theorem dX5_allows_21 : decode cX5_allows 21 = .ok (.iload_n 1, 1) := by decide +kernel
theorem dX5_allows_22 : decode cX5_allows 22 = .ok (.iload_n 2, 1) := by decide +kernel
theorem dX5_allows_23 : decode cX5_allows 23 = .ok (.invokevirtual 160, 3) := by decide +kernel
theorem dX5_allows_26 : decode cX5_allows 26 = .ok (.ireturn, 1) := by decide +kernel
theorem dX5_allowed_0 : decode cX5_allowed 0 = .ok (.iload_n 1, 1) := by decide +kernel
theorem dX5_allowed_1 : decode cX5_allowed 1 = .ok (.invokestatic 119, 3) := by decide +kernel
theorem dX5_allowed_4 : decode cX5_allowed 4 = .ok (.ifCond .eq 14, 3) := by decide +kernel
theorem dX5_allowed_7 : decode cX5_allowed 7 = .ok (.aload_n 0, 1) := by decide +kernel
theorem dX5_allowed_8 : decode cX5_allowed 8 = .ok (.invokevirtual 153, 3) := by decide +kernel
theorem dX5_allowed_11 : decode cX5_allowed 11 = .ok (.iload_n 1, 1) := by decide +kernel
theorem dX5_allowed_12 : decode cX5_allowed 12 = .ok (.invokevirtual 163, 3) := by decide +kernel
theorem dX5_allowed_15 : decode cX5_allowed 15 = .ok (.goto 5, 3) := by decide +kernel
theorem dX5_allowed_18 : decode cX5_allowed 18 = .ok (.bipush (-2), 2) := by decide +kernel
theorem dX5_allowed_20 : decode cX5_allowed 20 = .ok (.ireturn, 1) := by decide +kernel
theorem dX5_never_0 : decode cX5_never 0 = .ok (.aload_n 0, 1) := by decide +kernel
theorem dX5_never_1 : decode cX5_never 1 = .ok (.invokevirtual 153, 3) := by decide +kernel
theorem dX5_never_4 : decode cX5_never 4 = .ok (.astore_n 1, 1) := by decide +kernel
theorem dX5_never_5 : decode cX5_never 5 = .ok (.aload_n 1, 1) := by decide +kernel
theorem dX5_never_6 : decode cX5_never 6 = .ok (.invokevirtual 166, 3) := by decide +kernel
theorem dX5_never_9 : decode cX5_never 9 = .ok (.istore_n 2, 1) := by decide +kernel
theorem dX5_never_10 : decode cX5_never 10 = .ok (.iconst 0, 1) := by decide +kernel
theorem dX5_never_11 : decode cX5_never 11 = .ok (.istore_n 3, 1) := by decide +kernel
theorem dX5_never_12 : decode cX5_never 12 = .ok (.iload_n 3, 1) := by decide +kernel
theorem dX5_never_13 : decode cX5_never 13 = .ok (.bipush 40, 2) := by decide +kernel
theorem dX5_never_15 : decode cX5_never 15 = .ok (.if_icmp .ge 19, 3) := by decide +kernel
theorem dX5_never_18 : decode cX5_never 18 = .ok (.iload_n 2, 1) := by decide +kernel
theorem dX5_never_19 : decode cX5_never 19 = .ok (.aload_n 1, 1) := by decide +kernel
theorem dX5_never_20 : decode cX5_never 20 = .ok (.iload_n 3, 1) := by decide +kernel
theorem dX5_never_21 : decode cX5_never 21 = .ok (.invokevirtual 163, 3) := by decide +kernel
theorem dX5_never_24 : decode cX5_never 24 = .ok (.iconst (-1), 1) := by decide +kernel
theorem dX5_never_25 : decode cX5_never 25 = .ok (.ixor, 1) := by decide +kernel
theorem dX5_never_26 : decode cX5_never 26 = .ok (.iand, 1) := by decide +kernel
theorem dX5_never_27 : decode cX5_never 27 = .ok (.istore_n 2, 1) := by decide +kernel
theorem dX5_never_28 : decode cX5_never 28 = .ok (.iinc 3 1, 3) := by decide +kernel
theorem dX5_never_31 : decode cX5_never 31 = .ok (.goto (-19), 3) := by decide +kernel
theorem dX5_never_34 : decode cX5_never 34 = .ok (.iload_n 2, 1) := by decide +kernel
theorem dX5_never_35 : decode cX5_never 35 = .ok (.ireturn, 1) := by decide +kernel
theorem dX5_alike_0 : decode cX5_alike 0 = .ok (.aload_n 0, 1) := by decide +kernel
theorem dX5_alike_1 : decode cX5_alike 1 = .ok (.invokevirtual 153, 3) := by decide +kernel
theorem dX5_alike_4 : decode cX5_alike 4 = .ok (.astore_n 1, 1) := by decide +kernel
theorem dX5_alike_5 : decode cX5_alike 5 = .ok (.iconst 0, 1) := by decide +kernel
theorem dX5_alike_6 : decode cX5_alike 6 = .ok (.istore_n 2, 1) := by decide +kernel
theorem dX5_alike_7 : decode cX5_alike 7 = .ok (.iload_n 2, 1) := by decide +kernel
theorem dX5_alike_8 : decode cX5_alike 8 = .ok (.bipush 40, 2) := by decide +kernel
theorem dX5_alike_10 : decode cX5_alike 10 = .ok (.if_icmp .ge 26, 3) := by decide +kernel
theorem dX5_alike_13 : decode cX5_alike 13 = .ok (.aload_n 1, 1) := by decide +kernel
theorem dX5_alike_14 : decode cX5_alike 14 = .ok (.iload_n 2, 1) := by decide +kernel
theorem dX5_alike_15 : decode cX5_alike 15 = .ok (.iconst 0, 1) := by decide +kernel
theorem dX5_alike_16 : decode cX5_alike 16 = .ok (.invokevirtual 160, 3) := by decide +kernel
theorem dX5_alike_19 : decode cX5_alike 19 = .ok (.aload_n 1, 1) := by decide +kernel
theorem dX5_alike_20 : decode cX5_alike 20 = .ok (.iload_n 2, 1) := by decide +kernel
theorem dX5_alike_21 : decode cX5_alike 21 = .ok (.iconst 1, 1) := by decide +kernel
theorem dX5_alike_22 : decode cX5_alike 22 = .ok (.invokevirtual 160, 3) := by decide +kernel
theorem dX5_alike_25 : decode cX5_alike 25 = .ok (.if_icmp .ne 5, 3) := by decide +kernel
theorem dX5_alike_28 : decode cX5_alike 28 = .ok (.iload_n 2, 1) := by decide +kernel
theorem dX5_alike_29 : decode cX5_alike 29 = .ok (.ireturn, 1) := by decide +kernel
theorem dX5_alike_30 : decode cX5_alike 30 = .ok (.iinc 2 1, 3) := by decide +kernel
theorem dX5_alike_33 : decode cX5_alike 33 = .ok (.goto (-26), 3) := by decide +kernel
theorem dX5_alike_36 : decode cX5_alike 36 = .ok (.iconst (-1), 1) := by decide +kernel
theorem dX5_alike_37 : decode cX5_alike 37 = .ok (.ireturn, 1) := by decide +kernel
theorem dX5_crossing_0 : decode cX5_crossing 0 = .ok (.aload_n 0, 1) := by decide +kernel
theorem dX5_crossing_1 : decode cX5_crossing 1 = .ok (.getfield 12, 3) := by decide +kernel
theorem dX5_crossing_4 : decode cX5_crossing 4 = .ok (.iload_n 1, 1) := by decide +kernel
theorem dX5_crossing_5 : decode cX5_crossing 5 = .ok (.invokevirtual 92, 3) := by decide +kernel
theorem dX5_crossing_8 : decode cX5_crossing 8 = .ok (.ifCond .eq 16, 3) := by decide +kernel
theorem dX5_crossing_11 : decode cX5_crossing 11 = .ok (.aload_n 0, 1) := by decide +kernel
theorem dX5_crossing_12 : decode cX5_crossing 12 = .ok (.invokevirtual 153, 3) := by decide +kernel
theorem dX5_crossing_15 : decode cX5_crossing 15 = .ok (.iload_n 1, 1) := by decide +kernel
theorem dX5_crossing_16 : decode cX5_crossing 16 = .ok (.iconst 2, 1) := by decide +kernel
theorem dX5_crossing_17 : decode cX5_crossing 17 = .ok (.invokevirtual 169, 3) := by decide +kernel
theorem dX5_crossing_20 : decode cX5_crossing 20 = .ok (.l2i, 1) := by decide +kernel
theorem dX5_crossing_21 : decode cX5_crossing 21 = .ok (.goto 5, 3) := by decide +kernel
theorem dX5_crossing_24 : decode cX5_crossing 24 = .ok (.bipush (-2), 2) := by decide +kernel
theorem dX5_crossing_26 : decode cX5_crossing 26 = .ok (.ireturn, 1) := by decide +kernel
theorem dX5_fined_0 : decode cX5_fined 0 = .ok (.iload_n 1, 1) := by decide +kernel
theorem dX5_fined_1 : decode cX5_fined 1 = .ok (.iconst 0, 1) := by decide +kernel
theorem dX5_fined_2 : decode cX5_fined 2 = .ok (.aload_n 0, 1) := by decide +kernel
theorem dX5_fined_3 : decode cX5_fined 3 = .ok (.getfield 31, 3) := by decide +kernel
theorem dX5_fined_6 : decode cX5_fined 6 = .ok (.invokevirtual 173, 3) := by decide +kernel
theorem dX5_fined_9 : decode cX5_fined 9 = .ok (.iconst 1, 1) := by decide +kernel
theorem dX5_fined_10 : decode cX5_fined 10 = .ok (.isub, 1) := by decide +kernel
theorem dX5_fined_11 : decode cX5_fined 11 = .ok (.invokestatic 71, 3) := by decide +kernel
theorem dX5_fined_14 : decode cX5_fined 14 = .ok (.ifCond .ne 6, 3) := by decide +kernel
theorem dX5_fined_17 : decode cX5_fined 17 = .ok (.bipush (-2), 2) := by decide +kernel
theorem dX5_fined_19 : decode cX5_fined 19 = .ok (.ireturn, 1) := by decide +kernel
theorem dX5_fined_20 : decode cX5_fined 20 = .ok (.aload_n 0, 1) := by decide +kernel
theorem dX5_fined_21 : decode cX5_fined 21 = .ok (.invokevirtual 153, 3) := by decide +kernel
theorem dX5_fined_24 : decode cX5_fined 24 = .ok (.astore_n 2, 1) := by decide +kernel
theorem dX5_fined_25 : decode cX5_fined 25 = .ok (.aload_n 0, 1) := by decide +kernel
theorem dX5_fined_26 : decode cX5_fined 26 = .ok (.aload_n 2, 1) := by decide +kernel
theorem dX5_fined_27 : decode cX5_fined 27 = .ok (.iload_n 1, 1) := by decide +kernel
theorem dX5_fined_28 : decode cX5_fined 28 = .ok (.iconst 0, 1) := by decide +kernel
theorem dX5_fined_29 : decode cX5_fined 29 = .ok (.invokevirtual 174, 3) := by decide +kernel
theorem dX5_fined_32 : decode cX5_fined 32 = .ok (.aload_n 0, 1) := by decide +kernel
theorem dX5_fined_33 : decode cX5_fined 33 = .ok (.aload_n 2, 1) := by decide +kernel
theorem dX5_fined_34 : decode cX5_fined 34 = .ok (.iload_n 1, 1) := by decide +kernel
theorem dX5_fined_35 : decode cX5_fined 35 = .ok (.iconst 1, 1) := by decide +kernel
theorem dX5_fined_36 : decode cX5_fined 36 = .ok (.invokevirtual 174, 3) := by decide +kernel
theorem dX5_fined_39 : decode cX5_fined 39 = .ok (.iadd, 1) := by decide +kernel
theorem dX5_fined_40 : decode cX5_fined 40 = .ok (.ireturn, 1) := by decide +kernel
theorem dX5_coins_0 : decode cX5_coins 0 = .ok (.iload_n 1, 1) := by decide +kernel
theorem dX5_coins_1 : decode cX5_coins 1 = .ok (.invokestatic 116, 3) := by decide +kernel
theorem dX5_coins_4 : decode cX5_coins 4 = .ok (.ifCond .ne 6, 3) := by decide +kernel
theorem dX5_coins_7 : decode cX5_coins 7 = .ok (.bipush (-2), 2) := by decide +kernel
theorem dX5_coins_9 : decode cX5_coins 9 = .ok (.ireturn, 1) := by decide +kernel
theorem dX5_coins_10 : decode cX5_coins 10 = .ok (.aload_n 0, 1) := by decide +kernel
theorem dX5_coins_11 : decode cX5_coins 11 = .ok (.invokevirtual 153, 3) := by decide +kernel
theorem dX5_coins_14 : decode cX5_coins 14 = .ok (.astore_n 2, 1) := by decide +kernel
theorem dX5_coins_15 : decode cX5_coins 15 = .ok (.iconst 0, 1) := by decide +kernel
theorem dX5_coins_16 : decode cX5_coins 16 = .ok (.istore_n 3, 1) := by decide +kernel
theorem dX5_coins_17 : decode cX5_coins 17 = .ok (.iconst 0, 1) := by decide +kernel
theorem dX5_coins_18 : decode cX5_coins 18 = .ok (.istore 4, 2) := by decide +kernel
theorem dX5_coins_20 : decode cX5_coins 20 = .ok (.iload 4, 2) := by decide +kernel
theorem dX5_coins_22 : decode cX5_coins 22 = .ok (.aload_n 0, 1) := by decide +kernel
theorem dX5_coins_23 : decode cX5_coins 23 = .ok (.getfield 31, 3) := by decide +kernel
theorem dX5_coins_26 : decode cX5_coins 26 = .ok (.invokevirtual 173, 3) := by decide +kernel
theorem dX5_coins_29 : decode cX5_coins 29 = .ok (.if_icmp .ge 20, 3) := by decide +kernel
theorem dX5_coins_32 : decode cX5_coins 32 = .ok (.iload_n 3, 1) := by decide +kernel
theorem dX5_coins_33 : decode cX5_coins 33 = .ok (.aload_n 0, 1) := by decide +kernel
theorem dX5_coins_34 : decode cX5_coins 34 = .ok (.aload_n 2, 1) := by decide +kernel
theorem dX5_coins_35 : decode cX5_coins 35 = .ok (.iload 4, 2) := by decide +kernel
theorem dX5_coins_37 : decode cX5_coins 37 = .ok (.iload_n 1, 1) := by decide +kernel
theorem dX5_coins_38 : decode cX5_coins 38 = .ok (.invokevirtual 174, 3) := by decide +kernel
theorem dX5_coins_41 : decode cX5_coins 41 = .ok (.iadd, 1) := by decide +kernel
theorem dX5_coins_42 : decode cX5_coins 42 = .ok (.istore_n 3, 1) := by decide +kernel
theorem dX5_coins_43 : decode cX5_coins 43 = .ok (.iinc 4 1, 3) := by decide +kernel
theorem dX5_coins_46 : decode cX5_coins 46 = .ok (.goto (-26), 3) := by decide +kernel
theorem dX5_coins_49 : decode cX5_coins 49 = .ok (.iload_n 3, 1) := by decide +kernel
theorem dX5_coins_50 : decode cX5_coins 50 = .ok (.ireturn, 1) := by decide +kernel
theorem dX5_soonest_0 : decode cX5_soonest 0 = .ok (.aload_n 0, 1) := by decide +kernel
theorem dX5_soonest_1 : decode cX5_soonest 1 = .ok (.getfield 12, 3) := by decide +kernel
theorem dX5_soonest_4 : decode cX5_soonest 4 = .ok (.iload_n 1, 1) := by decide +kernel
theorem dX5_soonest_5 : decode cX5_soonest 5 = .ok (.invokevirtual 92, 3) := by decide +kernel
theorem dX5_soonest_8 : decode cX5_soonest 8 = .ok (.ifCond .eq 20, 3) := by decide +kernel
theorem dX5_soonest_11 : decode cX5_soonest 11 = .ok (.iload_n 2, 1) := by decide +kernel
theorem dX5_soonest_12 : decode cX5_soonest 12 = .ok (.iconst 1, 1) := by decide +kernel
theorem dX5_soonest_13 : decode cX5_soonest 13 = .ok (.bipush 9, 2) := by decide +kernel
theorem dX5_soonest_15 : decode cX5_soonest 15 = .ok (.invokestatic 71, 3) := by decide +kernel
theorem dX5_soonest_18 : decode cX5_soonest 18 = .ok (.ifCond .eq 10, 3) := by decide +kernel
theorem dX5_soonest_21 : decode cX5_soonest 21 = .ok (.iload_n 3, 1) := by decide +kernel
theorem dX5_soonest_22 : decode cX5_soonest 22 = .ok (.invokestatic 119, 3) := by decide +kernel
theorem dX5_soonest_25 : decode cX5_soonest 25 = .ok (.ifCond .ne 6, 3) := by decide +kernel
theorem dX5_soonest_28 : decode cX5_soonest 28 = .ok (.bipush (-2), 2) := by decide +kernel
theorem dX5_soonest_30 : decode cX5_soonest 30 = .ok (.ireturn, 1) := by decide +kernel
theorem dX5_soonest_31 : decode cX5_soonest 31 = .ok (.aload_n 0, 1) := by decide +kernel
theorem dX5_soonest_32 : decode cX5_soonest 32 = .ok (.invokevirtual 153, 3) := by decide +kernel
theorem dX5_soonest_35 : decode cX5_soonest 35 = .ok (.iload_n 1, 1) := by decide +kernel
theorem dX5_soonest_36 : decode cX5_soonest 36 = .ok (.iload_n 2, 1) := by decide +kernel
theorem dX5_soonest_37 : decode cX5_soonest 37 = .ok (.invokevirtual 169, 3) := by decide +kernel
theorem dX5_soonest_40 : decode cX5_soonest 40 = .ok (.iload_n 3, 1) := by decide +kernel
theorem dX5_soonest_41 : decode cX5_soonest 41 = .ok (.invokestatic 178, 3) := by decide +kernel
theorem dX5_soonest_44 : decode cX5_soonest 44 = .ok (.ireturn, 1) := by decide +kernel
theorem dX5_cheapest_0 : decode cX5_cheapest 0 = .ok (.aload_n 0, 1) := by decide +kernel
theorem dX5_cheapest_1 : decode cX5_cheapest 1 = .ok (.getfield 12, 3) := by decide +kernel
theorem dX5_cheapest_4 : decode cX5_cheapest 4 = .ok (.iload_n 1, 1) := by decide +kernel
theorem dX5_cheapest_5 : decode cX5_cheapest 5 = .ok (.invokevirtual 92, 3) := by decide +kernel
theorem dX5_cheapest_8 : decode cX5_cheapest 8 = .ok (.ifCond .eq 30, 3) := by decide +kernel
theorem dX5_cheapest_11 : decode cX5_cheapest 11 = .ok (.iload_n 2, 1) := by decide +kernel
theorem dX5_cheapest_12 : decode cX5_cheapest 12 = .ok (.iconst 1, 1) := by decide +kernel
theorem dX5_cheapest_13 : decode cX5_cheapest 13 = .ok (.bipush 9, 2) := by decide +kernel
theorem dX5_cheapest_15 : decode cX5_cheapest 15 = .ok (.invokestatic 71, 3) := by decide +kernel
theorem dX5_cheapest_18 : decode cX5_cheapest 18 = .ok (.ifCond .eq 20, 3) := by decide +kernel
theorem dX5_cheapest_21 : decode cX5_cheapest 21 = .ok (.iload_n 3, 1) := by decide +kernel
theorem dX5_cheapest_22 : decode cX5_cheapest 22 = .ok (.invokestatic 119, 3) := by decide +kernel
theorem dX5_cheapest_25 : decode cX5_cheapest 25 = .ok (.ifCond .eq 13, 3) := by decide +kernel
theorem dX5_cheapest_28 : decode cX5_cheapest 28 = .ok (.iload 4, 2) := by decide +kernel
theorem dX5_cheapest_30 : decode cX5_cheapest 30 = .ok (.iconst 0, 1) := by decide +kernel
theorem dX5_cheapest_31 : decode cX5_cheapest 31 = .ok (.iconst 1, 1) := by decide +kernel
theorem dX5_cheapest_32 : decode cX5_cheapest 32 = .ok (.invokestatic 71, 3) := by decide +kernel
theorem dX5_cheapest_35 : decode cX5_cheapest 35 = .ok (.ifCond .ne 6, 3) := by decide +kernel
theorem dX5_cheapest_38 : decode cX5_cheapest 38 = .ok (.bipush (-2), 2) := by decide +kernel
theorem dX5_cheapest_40 : decode cX5_cheapest 40 = .ok (.ireturn, 1) := by decide +kernel
theorem dX5_cheapest_41 : decode cX5_cheapest 41 = .ok (.aload_n 0, 1) := by decide +kernel
theorem dX5_cheapest_42 : decode cX5_cheapest 42 = .ok (.invokevirtual 153, 3) := by decide +kernel
theorem dX5_cheapest_45 : decode cX5_cheapest 45 = .ok (.iload_n 1, 1) := by decide +kernel
theorem dX5_cheapest_46 : decode cX5_cheapest 46 = .ok (.invokevirtual 182, 3) := by decide +kernel
theorem dX5_cheapest_49 : decode cX5_cheapest 49 = .ok (.lstore 5, 2) := by decide +kernel
theorem dX5_cheapest_51 : decode cX5_cheapest 51 = .ok (.iconst (-1), 1) := by decide +kernel
theorem dX5_cheapest_52 : decode cX5_cheapest 52 = .ok (.istore 7, 2) := by decide +kernel
theorem dX5_cheapest_54 : decode cX5_cheapest 54 = .ok (.iconst (-1), 1) := by decide +kernel
theorem dX5_cheapest_55 : decode cX5_cheapest 55 = .ok (.istore 8, 2) := by decide +kernel
theorem dX5_cheapest_57 : decode cX5_cheapest 57 = .ok (.iload_n 3, 1) := by decide +kernel
theorem dX5_cheapest_58 : decode cX5_cheapest 58 = .ok (.istore 9, 2) := by decide +kernel
theorem dX5_cheapest_60 : decode cX5_cheapest 60 = .ok (.iload 9, 2) := by decide +kernel
theorem dX5_cheapest_62 : decode cX5_cheapest 62 = .ok (.iload_n 2, 1) := by decide +kernel
theorem dX5_cheapest_63 : decode cX5_cheapest 63 = .ok (.iadd, 1) := by decide +kernel
theorem dX5_cheapest_64 : decode cX5_cheapest 64 = .ok (.bipush 40, 2) := by decide +kernel
theorem dX5_cheapest_66 : decode cX5_cheapest 66 = .ok (.if_icmp .gt 49, 3) := by decide +kernel
theorem dX5_cheapest_69 : decode cX5_cheapest 69 = .ok (.aload_n 0, 1) := by decide +kernel
theorem dX5_cheapest_70 : decode cX5_cheapest 70 = .ok (.getfield 12, 3) := by decide +kernel
theorem dX5_cheapest_73 : decode cX5_cheapest 73 = .ok (.iload_n 1, 1) := by decide +kernel
theorem dX5_cheapest_74 : decode cX5_cheapest 74 = .ok (.invokevirtual 96, 3) := by decide +kernel
theorem dX5_cheapest_77 : decode cX5_cheapest 77 = .ok (.lload 5, 2) := by decide +kernel
theorem dX5_cheapest_79 : decode cX5_cheapest 79 = .ok (.iload 9, 2) := by decide +kernel
theorem dX5_cheapest_81 : decode cX5_cheapest 81 = .ok (.iload_n 2, 1) := by decide +kernel
theorem dX5_cheapest_82 : decode cX5_cheapest 82 = .ok (.invokestatic 186, 3) := by decide +kernel
theorem dX5_cheapest_85 : decode cX5_cheapest 85 = .ok (.imul, 1) := by decide +kernel
theorem dX5_cheapest_86 : decode cX5_cheapest 86 = .ok (.istore 10, 2) := by decide +kernel
theorem dX5_cheapest_88 : decode cX5_cheapest 88 = .ok (.iload 7, 2) := by decide +kernel
theorem dX5_cheapest_90 : decode cX5_cheapest 90 = .ok (.iconst (-1), 1) := by decide +kernel
theorem dX5_cheapest_91 : decode cX5_cheapest 91 = .ok (.if_icmp .eq 10, 3) := by decide +kernel
theorem dX5_cheapest_94 : decode cX5_cheapest 94 = .ok (.iload 10, 2) := by decide +kernel
theorem dX5_cheapest_96 : decode cX5_cheapest 96 = .ok (.iload 8, 2) := by decide +kernel
theorem dX5_cheapest_98 : decode cX5_cheapest 98 = .ok (.if_icmp .ge 11, 3) := by decide +kernel
theorem dX5_cheapest_101 : decode cX5_cheapest 101 = .ok (.iload 9, 2) := by decide +kernel
theorem dX5_cheapest_103 : decode cX5_cheapest 103 = .ok (.istore 7, 2) := by decide +kernel
theorem dX5_cheapest_105 : decode cX5_cheapest 105 = .ok (.iload 10, 2) := by decide +kernel
theorem dX5_cheapest_107 : decode cX5_cheapest 107 = .ok (.istore 8, 2) := by decide +kernel
theorem dX5_cheapest_109 : decode cX5_cheapest 109 = .ok (.iinc 9 1, 3) := by decide +kernel
theorem dX5_cheapest_112 : decode cX5_cheapest 112 = .ok (.goto (-52), 3) := by decide +kernel
theorem dX5_cheapest_115 : decode cX5_cheapest 115 = .ok (.iload 4, 2) := by decide +kernel
theorem dX5_cheapest_117 : decode cX5_cheapest 117 = .ok (.ifCond .ne 8, 3) := by decide +kernel
theorem dX5_cheapest_120 : decode cX5_cheapest 120 = .ok (.iload 7, 2) := by decide +kernel
theorem dX5_cheapest_122 : decode cX5_cheapest 122 = .ok (.goto 5, 3) := by decide +kernel
theorem dX5_cheapest_125 : decode cX5_cheapest 125 = .ok (.iload 8, 2) := by decide +kernel
theorem dX5_cheapest_127 : decode cX5_cheapest 127 = .ok (.ireturn, 1) := by decide +kernel
theorem dX5_finish_0 : decode cX5_finish 0 = .ok (.iload_n 1, 1) := by decide +kernel
theorem dX5_finish_1 : decode cX5_finish 1 = .ok (.invokestatic 119, 3) := by decide +kernel
theorem dX5_finish_4 : decode cX5_finish 4 = .ok (.ifCond .eq 12, 3) := by decide +kernel
theorem dX5_finish_7 : decode cX5_finish 7 = .ok (.iload_n 2, 1) := by decide +kernel
theorem dX5_finish_8 : decode cX5_finish 8 = .ok (.iconst (-1), 1) := by decide +kernel
theorem dX5_finish_9 : decode cX5_finish 9 = .ok (.iconst 5, 1) := by decide +kernel
theorem dX5_finish_10 : decode cX5_finish 10 = .ok (.invokestatic 71, 3) := by decide +kernel
theorem dX5_finish_13 : decode cX5_finish 13 = .ok (.ifCond .ne 6, 3) := by decide +kernel
theorem dX5_finish_16 : decode cX5_finish 16 = .ok (.bipush (-2), 2) := by decide +kernel
theorem dX5_finish_18 : decode cX5_finish 18 = .ok (.ireturn, 1) := by decide +kernel
theorem dX5_finish_19 : decode cX5_finish 19 = .ok (.aload_n 0, 1) := by decide +kernel
theorem dX5_finish_20 : decode cX5_finish 20 = .ok (.getfield 56, 3) := by decide +kernel
theorem dX5_finish_23 : decode cX5_finish 23 = .ok (.aload_n 0, 1) := by decide +kernel
theorem dX5_finish_24 : decode cX5_finish 24 = .ok (.getfield 34, 3) := by decide +kernel
theorem dX5_finish_27 : decode cX5_finish 27 = .ok (.aload_n 0, 1) := by decide +kernel
theorem dX5_finish_28 : decode cX5_finish 28 = .ok (.invokevirtual 153, 3) := by decide +kernel
theorem dX5_finish_31 : decode cX5_finish 31 = .ok (.invokevirtual 190, 3) := by decide +kernel
theorem dX5_finish_34 : decode cX5_finish 34 = .ok (.aload_n 0, 1) := by decide +kernel
theorem dX5_finish_35 : decode cX5_finish 35 = .ok (.getfield 56, 3) := by decide +kernel
theorem dX5_finish_38 : decode cX5_finish 38 = .ok (.iload_n 1, 1) := by decide +kernel
theorem dX5_finish_39 : decode cX5_finish 39 = .ok (.invokevirtual 194, 3) := by decide +kernel
theorem dX5_finish_42 : decode cX5_finish 42 = .ok (.istore_n 3, 1) := by decide +kernel
theorem dX5_finish_43 : decode cX5_finish 43 = .ok (.iload_n 3, 1) := by decide +kernel
theorem dX5_finish_44 : decode cX5_finish 44 = .ok (.iconst (-1), 1) := by decide +kernel
theorem dX5_finish_45 : decode cX5_finish 45 = .ok (.if_icmp .eq 8, 3) := by decide +kernel
theorem dX5_finish_48 : decode cX5_finish 48 = .ok (.iload_n 2, 1) := by decide +kernel
theorem dX5_finish_49 : decode cX5_finish 49 = .ok (.iconst (-1), 1) := by decide +kernel
theorem dX5_finish_50 : decode cX5_finish 50 = .ok (.if_icmp .ne 5, 3) := by decide +kernel
theorem dX5_finish_53 : decode cX5_finish 53 = .ok (.iload_n 3, 1) := by decide +kernel
theorem dX5_finish_54 : decode cX5_finish 54 = .ok (.ireturn, 1) := by decide +kernel
theorem dX5_finish_55 : decode cX5_finish 55 = .ok (.aload_n 0, 1) := by decide +kernel
theorem dX5_finish_56 : decode cX5_finish 56 = .ok (.getfield 56, 3) := by decide +kernel
theorem dX5_finish_59 : decode cX5_finish 59 = .ok (.iload_n 2, 1) := by decide +kernel
theorem dX5_finish_60 : decode cX5_finish 60 = .ok (.invokevirtual 197, 3) := by decide +kernel
theorem dX5_finish_63 : decode cX5_finish 63 = .ok (.ireturn, 1) := by decide +kernel
theorem dX5_plan_0 : decode cX5_plan 0 = .ok (.iload_n 1, 1) := by decide +kernel
theorem dX5_plan_1 : decode cX5_plan 1 = .ok (.invokestatic 119, 3) := by decide +kernel
theorem dX5_plan_4 : decode cX5_plan 4 = .ok (.ifCond .eq 12, 3) := by decide +kernel
theorem dX5_plan_7 : decode cX5_plan 7 = .ok (.iload_n 2, 1) := by decide +kernel
theorem dX5_plan_8 : decode cX5_plan 8 = .ok (.iconst (-1), 1) := by decide +kernel
theorem dX5_plan_9 : decode cX5_plan 9 = .ok (.iconst 5, 1) := by decide +kernel
theorem dX5_plan_10 : decode cX5_plan 10 = .ok (.invokestatic 71, 3) := by decide +kernel
theorem dX5_plan_13 : decode cX5_plan 13 = .ok (.ifCond .ne 6, 3) := by decide +kernel
theorem dX5_plan_16 : decode cX5_plan 16 = .ok (.bipush (-2), 2) := by decide +kernel
theorem dX5_plan_18 : decode cX5_plan 18 = .ok (.ireturn, 1) := by decide +kernel
theorem dX5_plan_19 : decode cX5_plan 19 = .ok (.aload_n 0, 1) := by decide +kernel
theorem dX5_plan_20 : decode cX5_plan 20 = .ok (.getfield 56, 3) := by decide +kernel
theorem dX5_plan_23 : decode cX5_plan 23 = .ok (.aload_n 0, 1) := by decide +kernel
theorem dX5_plan_24 : decode cX5_plan 24 = .ok (.getfield 34, 3) := by decide +kernel
theorem dX5_plan_27 : decode cX5_plan 27 = .ok (.aload_n 0, 1) := by decide +kernel
theorem dX5_plan_28 : decode cX5_plan 28 = .ok (.invokevirtual 153, 3) := by decide +kernel
theorem dX5_plan_31 : decode cX5_plan 31 = .ok (.invokevirtual 190, 3) := by decide +kernel
theorem dX5_plan_34 : decode cX5_plan 34 = .ok (.aload_n 0, 1) := by decide +kernel
theorem dX5_plan_35 : decode cX5_plan 35 = .ok (.getfield 56, 3) := by decide +kernel
theorem dX5_plan_38 : decode cX5_plan 38 = .ok (.iload_n 1, 1) := by decide +kernel
theorem dX5_plan_39 : decode cX5_plan 39 = .ok (.invokevirtual 200, 3) := by decide +kernel
theorem dX5_plan_42 : decode cX5_plan 42 = .ok (.istore_n 3, 1) := by decide +kernel
theorem dX5_plan_43 : decode cX5_plan 43 = .ok (.iload_n 3, 1) := by decide +kernel
theorem dX5_plan_44 : decode cX5_plan 44 = .ok (.iconst (-1), 1) := by decide +kernel
theorem dX5_plan_45 : decode cX5_plan 45 = .ok (.if_icmp .eq 8, 3) := by decide +kernel
theorem dX5_plan_48 : decode cX5_plan 48 = .ok (.iload_n 2, 1) := by decide +kernel
theorem dX5_plan_49 : decode cX5_plan 49 = .ok (.iconst (-1), 1) := by decide +kernel
theorem dX5_plan_50 : decode cX5_plan 50 = .ok (.if_icmp .ne 5, 3) := by decide +kernel
theorem dX5_plan_53 : decode cX5_plan 53 = .ok (.iload_n 3, 1) := by decide +kernel
theorem dX5_plan_54 : decode cX5_plan 54 = .ok (.ireturn, 1) := by decide +kernel
theorem dX5_plan_55 : decode cX5_plan 55 = .ok (.aload_n 0, 1) := by decide +kernel
theorem dX5_plan_56 : decode cX5_plan 56 = .ok (.getfield 56, 3) := by decide +kernel
theorem dX5_plan_59 : decode cX5_plan 59 = .ok (.iload_n 2, 1) := by decide +kernel
theorem dX5_plan_60 : decode cX5_plan 60 = .ok (.invokevirtual 203, 3) := by decide +kernel
theorem dX5_plan_63 : decode cX5_plan 63 = .ok (.ireturn, 1) := by decide +kernel
theorem dX5_words_0 : decode cX5_words 0 = .ok (.iload_n 1, 1) := by decide +kernel
theorem dX5_words_1 : decode cX5_words 1 = .ok (.invokestatic 119, 3) := by decide +kernel
theorem dX5_words_4 : decode cX5_words 4 = .ok (.ifCond .eq 29, 3) := by decide +kernel
theorem dX5_words_7 : decode cX5_words 7 = .ok (.iload_n 2, 1) := by decide +kernel
theorem dX5_words_8 : decode cX5_words 8 = .ok (.iconst 1, 1) := by decide +kernel
theorem dX5_words_9 : decode cX5_words 9 = .ok (.iconst 3, 1) := by decide +kernel
theorem dX5_words_10 : decode cX5_words 10 = .ok (.invokestatic 71, 3) := by decide +kernel
theorem dX5_words_13 : decode cX5_words 13 = .ok (.ifCond .eq 20, 3) := by decide +kernel
theorem dX5_words_16 : decode cX5_words 16 = .ok (.iload_n 1, 1) := by decide +kernel
theorem dX5_words_17 : decode cX5_words 17 = .ok (.iload_n 2, 1) := by decide +kernel
theorem dX5_words_18 : decode cX5_words 18 = .ok (.iadd, 1) := by decide +kernel
theorem dX5_words_19 : decode cX5_words 19 = .ok (.bipush 39, 2) := by decide +kernel
theorem dX5_words_21 : decode cX5_words 21 = .ok (.if_icmp .gt 12, 3) := by decide +kernel
theorem dX5_words_24 : decode cX5_words 24 = .ok (.iload_n 3, 1) := by decide +kernel
theorem dX5_words_25 : decode cX5_words 25 = .ok (.iconst 0, 1) := by decide +kernel
theorem dX5_words_26 : decode cX5_words 26 = .ok (.iconst 1, 1) := by decide +kernel
theorem dX5_words_27 : decode cX5_words 27 = .ok (.invokestatic 71, 3) := by decide +kernel
theorem dX5_words_30 : decode cX5_words 30 = .ok (.ifCond .ne 6, 3) := by decide +kernel
theorem dX5_words_33 : decode cX5_words 33 = .ok (.bipush (-2), 2) := by decide +kernel
theorem dX5_words_35 : decode cX5_words 35 = .ok (.ireturn, 1) := by decide +kernel
theorem dX5_words_36 : decode cX5_words 36 = .ok (.aload_n 0, 1) := by decide +kernel
theorem dX5_words_37 : decode cX5_words 37 = .ok (.invokevirtual 153, 3) := by decide +kernel
theorem dX5_words_40 : decode cX5_words 40 = .ok (.astore 4, 2) := by decide +kernel
theorem dX5_words_42 : decode cX5_words 42 = .ok (.iload_n 3, 1) := by decide +kernel
theorem dX5_words_43 : decode cX5_words 43 = .ok (.ifCond .ne 13, 3) := by decide +kernel
theorem dX5_words_46 : decode cX5_words 46 = .ok (.aload 4, 2) := by decide +kernel
theorem dX5_words_48 : decode cX5_words 48 = .ok (.iload_n 1, 1) := by decide +kernel
theorem dX5_words_49 : decode cX5_words 49 = .ok (.iload_n 2, 1) := by decide +kernel
theorem dX5_words_50 : decode cX5_words 50 = .ok (.invokevirtual 206, 3) := by decide +kernel
theorem dX5_words_53 : decode cX5_words 53 = .ok (.goto 10, 3) := by decide +kernel
theorem dX5_words_56 : decode cX5_words 56 = .ok (.aload 4, 2) := by decide +kernel
theorem dX5_words_58 : decode cX5_words 58 = .ok (.iload_n 1, 1) := by decide +kernel
theorem dX5_words_59 : decode cX5_words 59 = .ok (.iload_n 2, 1) := by decide +kernel
theorem dX5_words_60 : decode cX5_words 60 = .ok (.invokevirtual 209, 3) := by decide +kernel
theorem dX5_words_63 : decode cX5_words 63 = .ok (.ireturn, 1) := by decide +kernel
theorem dX5_seen_0 : decode cX5_seen 0 = .ok (.iload_n 1, 1) := by decide +kernel
theorem dX5_seen_1 : decode cX5_seen 1 = .ok (.invokestatic 126, 3) := by decide +kernel
theorem dX5_seen_4 : decode cX5_seen 4 = .ok (.ifCond .eq 12, 3) := by decide +kernel
theorem dX5_seen_7 : decode cX5_seen 7 = .ok (.iload_n 2, 1) := by decide +kernel
theorem dX5_seen_8 : decode cX5_seen 8 = .ok (.iconst 0, 1) := by decide +kernel
theorem dX5_seen_9 : decode cX5_seen 9 = .ok (.iconst 1, 1) := by decide +kernel
theorem dX5_seen_10 : decode cX5_seen 10 = .ok (.invokestatic 71, 3) := by decide +kernel
theorem dX5_seen_13 : decode cX5_seen 13 = .ok (.ifCond .ne 6, 3) := by decide +kernel
theorem dX5_seen_16 : decode cX5_seen 16 = .ok (.bipush (-2), 2) := by decide +kernel
theorem dX5_seen_18 : decode cX5_seen 18 = .ok (.ireturn, 1) := by decide +kernel
theorem dX5_seen_19 : decode cX5_seen 19 = .ok (.aload_n 0, 1) := by decide +kernel
theorem dX5_seen_20 : decode cX5_seen 20 = .ok (.getfield 37, 3) := by decide +kernel
theorem dX5_seen_23 : decode cX5_seen 23 = .ok (.iload_n 1, 1) := by decide +kernel
theorem dX5_seen_24 : decode cX5_seen 24 = .ok (.iload_n 2, 1) := by decide +kernel
theorem dX5_seen_25 : decode cX5_seen 25 = .ok (.iconst 0, 1) := by decide +kernel
theorem dX5_seen_26 : decode cX5_seen 26 = .ok (.invokevirtual 122, 3) := by decide +kernel
theorem dX5_seen_29 : decode cX5_seen 29 = .ok (.ireturn, 1) := by decide +kernel
theorem dX5_book_0 : decode cX5_book 0 = .ok (.iload_n 1, 1) := by decide +kernel
theorem dX5_book_1 : decode cX5_book 1 = .ok (.invokestatic 119, 3) := by decide +kernel
theorem dX5_book_4 : decode cX5_book 4 = .ok (.ifCond .eq 19, 3) := by decide +kernel
theorem dX5_book_7 : decode cX5_book 7 = .ok (.iload_n 2, 1) := by decide +kernel
theorem dX5_book_8 : decode cX5_book 8 = .ok (.invokestatic 126, 3) := by decide +kernel
theorem dX5_book_11 : decode cX5_book 11 = .ok (.ifCond .eq 12, 3) := by decide +kernel
theorem dX5_book_14 : decode cX5_book 14 = .ok (.iload_n 3, 1) := by decide +kernel
theorem dX5_book_15 : decode cX5_book 15 = .ok (.iconst 0, 1) := by decide +kernel
theorem dX5_book_16 : decode cX5_book 16 = .ok (.iconst 1, 1) := by decide +kernel
theorem dX5_book_17 : decode cX5_book 17 = .ok (.invokestatic 71, 3) := by decide +kernel
theorem dX5_book_20 : decode cX5_book 20 = .ok (.ifCond .ne 6, 3) := by decide +kernel
theorem dX5_book_23 : decode cX5_book 23 = .ok (.bipush (-2), 2) := by decide +kernel
theorem dX5_book_25 : decode cX5_book 25 = .ok (.ireturn, 1) := by decide +kernel
theorem dX5_book_26 : decode cX5_book 26 = .ok (.aload_n 0, 1) := by decide +kernel
theorem dX5_book_27 : decode cX5_book 27 = .ok (.getfield 40, 3) := by decide +kernel
theorem dX5_book_30 : decode cX5_book 30 = .ok (.iload_n 1, 1) := by decide +kernel
theorem dX5_book_31 : decode cX5_book 31 = .ok (.iload_n 2, 1) := by decide +kernel
theorem dX5_book_32 : decode cX5_book 32 = .ok (.iload_n 3, 1) := by decide +kernel
theorem dX5_book_33 : decode cX5_book 33 = .ok (.invokevirtual 122, 3) := by decide +kernel
theorem dX5_book_36 : decode cX5_book 36 = .ok (.ireturn, 1) := by decide +kernel
theorem dX5_forget_0 : decode cX5_forget 0 = .ok (.iload_n 1, 1) := by decide +kernel
theorem dX5_forget_1 : decode cX5_forget 1 = .ok (.iconst 0, 1) := by decide +kernel
theorem dX5_forget_2 : decode cX5_forget 2 = .ok (.iconst 1, 1) := by decide +kernel
theorem dX5_forget_3 : decode cX5_forget 3 = .ok (.invokestatic 71, 3) := by decide +kernel
theorem dX5_forget_6 : decode cX5_forget 6 = .ok (.ifCond .ne 6, 3) := by decide +kernel
theorem dX5_forget_9 : decode cX5_forget 9 = .ok (.bipush (-2), 2) := by decide +kernel
theorem dX5_forget_11 : decode cX5_forget 11 = .ok (.ireturn, 1) := by decide +kernel
theorem dX5_forget_12 : decode cX5_forget 12 = .ok (.iload_n 1, 1) := by decide +kernel
theorem dX5_forget_13 : decode cX5_forget 13 = .ok (.ifCond .ne 13, 3) := by decide +kernel
theorem dX5_forget_16 : decode cX5_forget 16 = .ok (.aload_n 0, 1) := by decide +kernel
theorem dX5_forget_17 : decode cX5_forget 17 = .ok (.getfield 37, 3) := by decide +kernel
theorem dX5_forget_20 : decode cX5_forget 20 = .ok (.invokevirtual 212, 3) := by decide +kernel
theorem dX5_forget_23 : decode cX5_forget 23 = .ok (.goto 10, 3) := by decide +kernel
theorem dX5_forget_26 : decode cX5_forget 26 = .ok (.aload_n 0, 1) := by decide +kernel
theorem dX5_forget_27 : decode cX5_forget 27 = .ok (.getfield 40, 3) := by decide +kernel
theorem dX5_forget_30 : decode cX5_forget 30 = .ok (.invokevirtual 212, 3) := by decide +kernel
theorem dX5_forget_33 : decode cX5_forget 33 = .ok (.ireturn, 1) := by decide +kernel
theorem dX5_when_0 : decode cX5_when 0 = .ok (.iload_n 1, 1) := by decide +kernel
theorem dX5_when_1 : decode cX5_when 1 = .ok (.iconst (-1), 1) := by decide +kernel
theorem dX5_when_2 : decode cX5_when 2 = .ok (.bipush 39, 2) := by decide +kernel
theorem dX5_when_4 : decode cX5_when 4 = .ok (.invokestatic 71, 3) := by decide +kernel
theorem dX5_when_7 : decode cX5_when 7 = .ok (.ifCond .ne 6, 3) := by decide +kernel
theorem dX5_when_10 : decode cX5_when 10 = .ok (.bipush (-2), 2) := by decide +kernel
theorem dX5_when_12 : decode cX5_when 12 = .ok (.ireturn, 1) := by decide +kernel
theorem dX5_when_13 : decode cX5_when 13 = .ok (.aload_n 0, 1) := by decide +kernel
theorem dX5_when_14 : decode cX5_when 14 = .ok (.invokevirtual 213, 3) := by decide +kernel
theorem dX5_when_17 : decode cX5_when 17 = .ok (.lstore_n 2, 1) := by decide +kernel
theorem dX5_when_18 : decode cX5_when 18 = .ok (.iload_n 1, 1) := by decide +kernel
theorem dX5_when_19 : decode cX5_when 19 = .ok (.iconst (-1), 1) := by decide +kernel
theorem dX5_when_20 : decode cX5_when 20 = .ok (.if_icmp .ne 10, 3) := by decide +kernel
theorem dX5_when_23 : decode cX5_when 23 = .ok (.lload_n 2, 1) := by decide +kernel
theorem dX5_when_24 : decode cX5_when 24 = .ok (.invokestatic 217, 3) := by decide +kernel
theorem dX5_when_27 : decode cX5_when 27 = .ok (.goto 8, 3) := by decide +kernel
theorem dX5_when_30 : decode cX5_when 30 = .ok (.lload_n 2, 1) := by decide +kernel
theorem dX5_when_31 : decode cX5_when 31 = .ok (.iload_n 1, 1) := by decide +kernel
theorem dX5_when_32 : decode cX5_when 32 = .ok (.invokestatic 223, 3) := by decide +kernel
theorem dX5_when_35 : decode cX5_when 35 = .ok (.ireturn, 1) := by decide +kernel
theorem dX5_ask_0 : decode cX5_ask 0 = .ok (.aload_n 0, 1) := by decide +kernel
theorem dX5_ask_1 : decode cX5_ask 1 = .ok (.invokevirtual 153, 3) := by decide +kernel
theorem dX5_ask_4 : decode cX5_ask 4 = .ok (.astore_n 1, 1) := by decide +kernel
theorem dX5_ask_5 : decode cX5_ask 5 = .ok (.aload_n 0, 1) := by decide +kernel
theorem dX5_ask_6 : decode cX5_ask 6 = .ok (.invokevirtual 213, 3) := by decide +kernel
theorem dX5_ask_9 : decode cX5_ask 9 = .ok (.lstore_n 2, 1) := by decide +kernel
theorem dX5_ask_10 : decode cX5_ask 10 = .ok (.iconst (-1), 1) := by decide +kernel
theorem dX5_ask_11 : decode cX5_ask 11 = .ok (.istore 4, 2) := by decide +kernel
theorem dX5_ask_13 : decode cX5_ask 13 = .ok (.iconst 0, 1) := by decide +kernel
theorem dX5_ask_14 : decode cX5_ask 14 = .ok (.istore 5, 2) := by decide +kernel
theorem dX5_ask_16 : decode cX5_ask 16 = .ok (.iconst 0, 1) := by decide +kernel
theorem dX5_ask_17 : decode cX5_ask 17 = .ok (.istore 6, 2) := by decide +kernel
theorem dX5_ask_19 : decode cX5_ask 19 = .ok (.iload 6, 2) := by decide +kernel
theorem dX5_ask_21 : decode cX5_ask 21 = .ok (.aload_n 0, 1) := by decide +kernel
theorem dX5_ask_22 : decode cX5_ask 22 = .ok (.getfield 12, 3) := by decide +kernel
theorem dX5_ask_25 : decode cX5_ask 25 = .ok (.invokevirtual 226, 3) := by decide +kernel
theorem dX5_ask_28 : decode cX5_ask 28 = .ok (.if_icmp .ge 57, 3) := by decide +kernel
theorem dX5_ask_31 : decode cX5_ask 31 = .ok (.lload_n 2, 1) := by decide +kernel
theorem dX5_ask_32 : decode cX5_ask 32 = .ok (.aload_n 1, 1) := by decide +kernel
theorem dX5_ask_33 : decode cX5_ask 33 = .ok (.iload 6, 2) := by decide +kernel
theorem dX5_ask_35 : decode cX5_ask 35 = .ok (.invokevirtual 182, 3) := by decide +kernel
theorem dX5_ask_38 : decode cX5_ask 38 = .ok (.land, 1) := by decide +kernel
theorem dX5_ask_39 : decode cX5_ask 39 = .ok (.invokestatic 217, 3) := by decide +kernel
theorem dX5_ask_42 : decode cX5_ask 42 = .ok (.istore 7, 2) := by decide +kernel
theorem dX5_ask_44 : decode cX5_ask 44 = .ok (.iload 7, 2) := by decide +kernel
theorem dX5_ask_46 : decode cX5_ask 46 = .ok (.lload_n 2, 1) := by decide +kernel
theorem dX5_ask_47 : decode cX5_ask 47 = .ok (.invokestatic 217, 3) := by decide +kernel
theorem dX5_ask_50 : decode cX5_ask 50 = .ok (.iload 7, 2) := by decide +kernel
theorem dX5_ask_52 : decode cX5_ask 52 = .ok (.isub, 1) := by decide +kernel
theorem dX5_ask_53 : decode cX5_ask 53 = .ok (.invokestatic 229, 3) := by decide +kernel
theorem dX5_ask_56 : decode cX5_ask 56 = .ok (.istore 8, 2) := by decide +kernel
theorem dX5_ask_58 : decode cX5_ask 58 = .ok (.iload 4, 2) := by decide +kernel
theorem dX5_ask_60 : decode cX5_ask 60 = .ok (.iconst (-1), 1) := by decide +kernel
theorem dX5_ask_61 : decode cX5_ask 61 = .ok (.if_icmp .eq 10, 3) := by decide +kernel
theorem dX5_ask_64 : decode cX5_ask 64 = .ok (.iload 8, 2) := by decide +kernel
theorem dX5_ask_66 : decode cX5_ask 66 = .ok (.iload 5, 2) := by decide +kernel
theorem dX5_ask_68 : decode cX5_ask 68 = .ok (.if_icmp .ge 11, 3) := by decide +kernel
theorem dX5_ask_71 : decode cX5_ask 71 = .ok (.iload 6, 2) := by decide +kernel
theorem dX5_ask_73 : decode cX5_ask 73 = .ok (.istore 4, 2) := by decide +kernel
theorem dX5_ask_75 : decode cX5_ask 75 = .ok (.iload 8, 2) := by decide +kernel
theorem dX5_ask_77 : decode cX5_ask 77 = .ok (.istore 5, 2) := by decide +kernel
theorem dX5_ask_79 : decode cX5_ask 79 = .ok (.iinc 6 1, 3) := by decide +kernel
theorem dX5_ask_82 : decode cX5_ask 82 = .ok (.goto (-63), 3) := by decide +kernel
theorem dX5_ask_85 : decode cX5_ask 85 = .ok (.iload 4, 2) := by decide +kernel
theorem dX5_ask_87 : decode cX5_ask 87 = .ok (.ireturn, 1) := by decide +kernel
theorem dX5_forged_0 : decode cX5_forged 0 = .ok (.iconst 0, 1) := by decide +kernel
theorem dX5_forged_1 : decode cX5_forged 1 = .ok (.istore_n 1, 1) := by decide +kernel
theorem dX5_forged_2 : decode cX5_forged 2 = .ok (.aload_n 0, 1) := by decide +kernel
theorem dX5_forged_3 : decode cX5_forged 3 = .ok (.getfield 50, 3) := by decide +kernel
theorem dX5_forged_6 : decode cX5_forged 6 = .ok (.aload_n 0, 1) := by decide +kernel
theorem dX5_forged_7 : decode cX5_forged 7 = .ok (.getfield 21, 3) := by decide +kernel
theorem dX5_forged_10 : decode cX5_forged 10 = .ok (.aload_n 0, 1) := by decide +kernel
theorem dX5_forged_11 : decode cX5_forged 11 = .ok (.getfield 25, 3) := by decide +kernel
theorem dX5_forged_14 : decode cX5_forged 14 = .ok (.invokevirtual 234, 3) := by decide +kernel
theorem dX5_forged_17 : decode cX5_forged 17 = .ok (.iconst 0, 1) := by decide +kernel
theorem dX5_forged_18 : decode cX5_forged 18 = .ok (.istore_n 2, 1) := by decide +kernel
theorem dX5_forged_19 : decode cX5_forged 19 = .ok (.iload_n 2, 1) := by decide +kernel
theorem dX5_forged_20 : decode cX5_forged 20 = .ok (.aload_n 0, 1) := by decide +kernel
theorem dX5_forged_21 : decode cX5_forged 21 = .ok (.getfield 28, 3) := by decide +kernel
theorem dX5_forged_24 : decode cX5_forged 24 = .ok (.invokevirtual 173, 3) := by decide +kernel
theorem dX5_forged_27 : decode cX5_forged 27 = .ok (.if_icmp .ge 46, 3) := by decide +kernel
theorem dX5_forged_30 : decode cX5_forged 30 = .ok (.aload_n 0, 1) := by decide +kernel
theorem dX5_forged_31 : decode cX5_forged 31 = .ok (.getfield 50, 3) := by decide +kernel
theorem dX5_forged_34 : decode cX5_forged 34 = .ok (.aload_n 0, 1) := by decide +kernel
theorem dX5_forged_35 : decode cX5_forged 35 = .ok (.getfield 12, 3) := by decide +kernel
theorem dX5_forged_38 : decode cX5_forged 38 = .ok (.aload_n 0, 1) := by decide +kernel
theorem dX5_forged_39 : decode cX5_forged 39 = .ok (.getfield 106, 3) := by decide +kernel
theorem dX5_forged_42 : decode cX5_forged 42 = .ok (.aload_n 0, 1) := by decide +kernel
theorem dX5_forged_43 : decode cX5_forged 43 = .ok (.getfield 28, 3) := by decide +kernel
theorem dX5_forged_46 : decode cX5_forged 46 = .ok (.iload_n 2, 1) := by decide +kernel
theorem dX5_forged_47 : decode cX5_forged 47 = .ok (.invokevirtual 238, 3) := by decide +kernel
theorem dX5_forged_50 : decode cX5_forged 50 = .ok (.aload_n 0, 1) := by decide +kernel
theorem dX5_forged_51 : decode cX5_forged 51 = .ok (.aload_n 0, 1) := by decide +kernel
theorem dX5_forged_52 : decode cX5_forged 52 = .ok (.getfield 50, 3) := by decide +kernel
theorem dX5_forged_55 : decode cX5_forged 55 = .ok (.invokevirtual 242, 3) := by decide +kernel
theorem dX5_forged_58 : decode cX5_forged 58 = .ok (.ifCond .eq 9, 3) := by decide +kernel
theorem dX5_forged_61 : decode cX5_forged 61 = .ok (.iload_n 1, 1) := by decide +kernel
theorem dX5_forged_62 : decode cX5_forged 62 = .ok (.iconst 1, 1) := by decide +kernel
theorem dX5_forged_63 : decode cX5_forged 63 = .ok (.iload_n 2, 1) := by decide +kernel
theorem dX5_forged_64 : decode cX5_forged 64 = .ok (.ishl, 1) := by decide +kernel
theorem dX5_forged_65 : decode cX5_forged 65 = .ok (.ior, 1) := by decide +kernel
theorem dX5_forged_66 : decode cX5_forged 66 = .ok (.istore_n 1, 1) := by decide +kernel
theorem dX5_forged_67 : decode cX5_forged 67 = .ok (.iinc 2 1, 3) := by decide +kernel
theorem dX5_forged_70 : decode cX5_forged 70 = .ok (.goto (-51), 3) := by decide +kernel
theorem dX5_forged_73 : decode cX5_forged 73 = .ok (.iload_n 1, 1) := by decide +kernel
theorem dX5_forged_74 : decode cX5_forged 74 = .ok (.ireturn, 1) := by decide +kernel
theorem dX5_chance_0 : decode cX5_chance 0 = .ok (.iload_n 1, 1) := by decide +kernel
theorem dX5_chance_1 : decode cX5_chance 1 = .ok (.iconst 0, 1) := by decide +kernel
theorem dX5_chance_2 : decode cX5_chance 2 = .ok (.bipush 16, 2) := by decide +kernel
theorem dX5_chance_4 : decode cX5_chance 4 = .ok (.invokestatic 71, 3) := by decide +kernel
theorem dX5_chance_7 : decode cX5_chance 7 = .ok (.ifCond .eq 54, 3) := by decide +kernel
theorem dX5_chance_10 : decode cX5_chance 10 = .ok (.iload_n 2, 1) := by decide +kernel
theorem dX5_chance_11 : decode cX5_chance 11 = .ok (.invokestatic 119, 3) := by decide +kernel
theorem dX5_chance_14 : decode cX5_chance 14 = .ok (.ifCond .eq 47, 3) := by decide +kernel
theorem dX5_chance_17 : decode cX5_chance 17 = .ok (.aload_n 0, 1) := by decide +kernel
theorem dX5_chance_18 : decode cX5_chance 18 = .ok (.getfield 12, 3) := by decide +kernel
theorem dX5_chance_21 : decode cX5_chance 21 = .ok (.iload_n 3, 1) := by decide +kernel
theorem dX5_chance_22 : decode cX5_chance 22 = .ok (.invokevirtual 92, 3) := by decide +kernel
theorem dX5_chance_25 : decode cX5_chance 25 = .ok (.ifCond .eq 36, 3) := by decide +kernel
theorem dX5_chance_28 : decode cX5_chance 28 = .ok (.iload 4, 2) := by decide +kernel
theorem dX5_chance_30 : decode cX5_chance 30 = .ok (.iconst 1, 1) := by decide +kernel
theorem dX5_chance_31 : decode cX5_chance 31 = .ok (.bipush 6, 2) := by decide +kernel
theorem dX5_chance_33 : decode cX5_chance 33 = .ok (.invokestatic 71, 3) := by decide +kernel
theorem dX5_chance_36 : decode cX5_chance 36 = .ok (.ifCond .eq 25, 3) := by decide +kernel
theorem dX5_chance_39 : decode cX5_chance 39 = .ok (.iload_n 2, 1) := by decide +kernel
theorem dX5_chance_40 : decode cX5_chance 40 = .ok (.iload 4, 2) := by decide +kernel
theorem dX5_chance_42 : decode cX5_chance 42 = .ok (.iadd, 1) := by decide +kernel
theorem dX5_chance_43 : decode cX5_chance 43 = .ok (.iconst 1, 1) := by decide +kernel
theorem dX5_chance_44 : decode cX5_chance 44 = .ok (.isub, 1) := by decide +kernel
theorem dX5_chance_45 : decode cX5_chance 45 = .ok (.invokestatic 119, 3) := by decide +kernel
theorem dX5_chance_48 : decode cX5_chance 48 = .ok (.ifCond .eq 13, 3) := by decide +kernel
theorem dX5_chance_51 : decode cX5_chance 51 = .ok (.iload 5, 2) := by decide +kernel
theorem dX5_chance_53 : decode cX5_chance 53 = .ok (.iconst 0, 1) := by decide +kernel
theorem dX5_chance_54 : decode cX5_chance 54 = .ok (.iconst 1, 1) := by decide +kernel
theorem dX5_chance_55 : decode cX5_chance 55 = .ok (.invokestatic 71, 3) := by decide +kernel
theorem dX5_chance_58 : decode cX5_chance 58 = .ok (.ifCond .ne 7, 3) := by decide +kernel
theorem dX5_chance_61 : decode cX5_chance 61 = .ok (.ldc2_w 246, 3) := by decide +kernel
theorem dX5_chance_64 : decode cX5_chance 64 = .ok (.lreturn, 1) := by decide +kernel
theorem dX5_chance_65 : decode cX5_chance 65 = .ok (.aload_n 0, 1) := by decide +kernel
theorem dX5_chance_66 : decode cX5_chance 66 = .ok (.invokevirtual 153, 3) := by decide +kernel
theorem dX5_chance_69 : decode cX5_chance 69 = .ok (.astore 6, 2) := by decide +kernel
theorem dX5_chance_71 : decode cX5_chance 71 = .ok (.lconst 1, 1) := by decide +kernel
theorem dX5_chance_72 : decode cX5_chance 72 = .ok (.lstore 7, 2) := by decide +kernel
theorem dX5_chance_74 : decode cX5_chance 74 = .ok (.lconst 1, 1) := by decide +kernel
theorem dX5_chance_75 : decode cX5_chance 75 = .ok (.lstore 9, 2) := by decide +kernel
theorem dX5_chance_77 : decode cX5_chance 77 = .ok (.iload_n 2, 1) := by decide +kernel
theorem dX5_chance_78 : decode cX5_chance 78 = .ok (.istore 11, 2) := by decide +kernel
theorem dX5_chance_80 : decode cX5_chance 80 = .ok (.iload 11, 2) := by decide +kernel
theorem dX5_chance_82 : decode cX5_chance 82 = .ok (.iload_n 2, 1) := by decide +kernel
theorem dX5_chance_83 : decode cX5_chance 83 = .ok (.iload 4, 2) := by decide +kernel
theorem dX5_chance_85 : decode cX5_chance 85 = .ok (.iadd, 1) := by decide +kernel
theorem dX5_chance_86 : decode cX5_chance 86 = .ok (.if_icmp .ge 32, 3) := by decide +kernel
theorem dX5_chance_89 : decode cX5_chance 89 = .ok (.lload 7, 2) := by decide +kernel
theorem dX5_chance_91 : decode cX5_chance 91 = .ok (.aload 6, 2) := by decide +kernel
theorem dX5_chance_93 : decode cX5_chance 93 = .ok (.iload 11, 2) := by decide +kernel
theorem dX5_chance_95 : decode cX5_chance 95 = .ok (.iload_n 3, 1) := by decide +kernel
theorem dX5_chance_96 : decode cX5_chance 96 = .ok (.iload_n 1, 1) := by decide +kernel
theorem dX5_chance_97 : decode cX5_chance 97 = .ok (.invokevirtual 248, 3) := by decide +kernel
theorem dX5_chance_100 : decode cX5_chance 100 = .ok (.i2l, 1) := by decide +kernel
theorem dX5_chance_101 : decode cX5_chance 101 = .ok (.lmul, 1) := by decide +kernel
theorem dX5_chance_102 : decode cX5_chance 102 = .ok (.lstore 7, 2) := by decide +kernel
theorem dX5_chance_104 : decode cX5_chance 104 = .ok (.lload 9, 2) := by decide +kernel
theorem dX5_chance_106 : decode cX5_chance 106 = .ok (.ldc2_w 251, 3) := by decide +kernel
theorem dX5_chance_109 : decode cX5_chance 109 = .ok (.lmul, 1) := by decide +kernel
theorem dX5_chance_110 : decode cX5_chance 110 = .ok (.lstore 9, 2) := by decide +kernel
theorem dX5_chance_112 : decode cX5_chance 112 = .ok (.iinc 11 1, 3) := by decide +kernel
theorem dX5_chance_115 : decode cX5_chance 115 = .ok (.goto (-35), 3) := by decide +kernel
theorem dX5_chance_118 : decode cX5_chance 118 = .ok (.lload 7, 2) := by decide +kernel
theorem dX5_chance_120 : decode cX5_chance 120 = .ok (.lload 9, 2) := by decide +kernel
theorem dX5_chance_122 : decode cX5_chance 122 = .ok (.iload 5, 2) := by decide +kernel
theorem dX5_chance_124 : decode cX5_chance 124 = .ok (.invokestatic 253, 3) := by decide +kernel
theorem dX5_chance_127 : decode cX5_chance 127 = .ok (.lreturn, 1) := by decide +kernel
theorem dX5_year_0 : decode cX5_year 0 = .ok (.iload_n 2, 1) := by decide +kernel
theorem dX5_year_1 : decode cX5_year 1 = .ok (.iconst 1, 1) := by decide +kernel
theorem dX5_year_2 : decode cX5_year 2 = .ok (.bipush 40, 2) := by decide +kernel
theorem dX5_year_4 : decode cX5_year 4 = .ok (.invokestatic 71, 3) := by decide +kernel
theorem dX5_year_7 : decode cX5_year 7 = .ok (.ifCond .eq 12, 3) := by decide +kernel
theorem dX5_year_10 : decode cX5_year 10 = .ok (.iload_n 3, 1) := by decide +kernel
theorem dX5_year_11 : decode cX5_year 11 = .ok (.iconst 0, 1) := by decide +kernel
theorem dX5_year_12 : decode cX5_year 12 = .ok (.iconst 1, 1) := by decide +kernel
theorem dX5_year_13 : decode cX5_year 13 = .ok (.invokestatic 71, 3) := by decide +kernel
theorem dX5_year_16 : decode cX5_year 16 = .ok (.ifCond .ne 6, 3) := by decide +kernel
theorem dX5_year_19 : decode cX5_year 19 = .ok (.bipush (-2), 2) := by decide +kernel
theorem dX5_year_21 : decode cX5_year 21 = .ok (.ireturn, 1) := by decide +kernel
theorem dX5_year_22 : decode cX5_year 22 = .ok (.aload_n 0, 1) := by decide +kernel
theorem dX5_year_23 : decode cX5_year 23 = .ok (.invokevirtual 153, 3) := by decide +kernel
theorem dX5_year_26 : decode cX5_year 26 = .ok (.astore 4, 2) := by decide +kernel
theorem dX5_year_28 : decode cX5_year 28 = .ok (.aload_n 0, 1) := by decide +kernel
theorem dX5_year_29 : decode cX5_year 29 = .ok (.getfield 12, 3) := by decide +kernel
theorem dX5_year_32 : decode cX5_year 32 = .ok (.invokevirtual 226, 3) := by decide +kernel
theorem dX5_year_35 : decode cX5_year 35 = .ok (.istore 5, 2) := by decide +kernel
theorem dX5_year_37 : decode cX5_year 37 = .ok (.iload_n 1, 1) := by decide +kernel
theorem dX5_year_38 : decode cX5_year 38 = .ok (.istore 6, 2) := by decide +kernel
theorem dX5_year_40 : decode cX5_year 40 = .ok (.iconst 0, 1) := by decide +kernel
theorem dX5_year_41 : decode cX5_year 41 = .ok (.istore 7, 2) := by decide +kernel
theorem dX5_year_43 : decode cX5_year 43 = .ok (.iconst 0, 1) := by decide +kernel
theorem dX5_year_44 : decode cX5_year 44 = .ok (.istore 8, 2) := by decide +kernel
theorem dX5_year_46 : decode cX5_year 46 = .ok (.iload 8, 2) := by decide +kernel
theorem dX5_year_48 : decode cX5_year 48 = .ok (.iload_n 2, 1) := by decide +kernel
theorem dX5_year_49 : decode cX5_year 49 = .ok (.if_icmp .ge 73, 3) := by decide +kernel
theorem dX5_year_52 : decode cX5_year 52 = .ok (.iload 5, 2) := by decide +kernel
theorem dX5_year_54 : decode cX5_year 54 = .ok (.ifCond .le 68, 3) := by decide +kernel
theorem dX5_year_57 : decode cX5_year 57 = .ok (.ldc_w 257, 3) := by decide +kernel
theorem dX5_year_60 : decode cX5_year 60 = .ok (.iload 6, 2) := by decide +kernel
theorem dX5_year_62 : decode cX5_year 62 = .ok (.imul, 1) := by decide +kernel
theorem dX5_year_63 : decode cX5_year 63 = .ok (.sipush 12345, 3) := by decide +kernel
theorem dX5_year_66 : decode cX5_year 66 = .ok (.iadd, 1) := by decide +kernel
theorem dX5_year_67 : decode cX5_year 67 = .ok (.istore 6, 2) := by decide +kernel
theorem dX5_year_69 : decode cX5_year 69 = .ok (.iload 6, 2) := by decide +kernel
theorem dX5_year_71 : decode cX5_year 71 = .ok (.bipush 16, 2) := by decide +kernel
theorem dX5_year_73 : decode cX5_year 73 = .ok (.iushr, 1) := by decide +kernel
theorem dX5_year_74 : decode cX5_year 74 = .ok (.iload 5, 2) := by decide +kernel
theorem dX5_year_76 : decode cX5_year 76 = .ok (.irem, 1) := by decide +kernel
theorem dX5_year_77 : decode cX5_year 77 = .ok (.istore 9, 2) := by decide +kernel
theorem dX5_year_79 : decode cX5_year 79 = .ok (.aload 4, 2) := by decide +kernel
theorem dX5_year_81 : decode cX5_year 81 = .ok (.iload 8, 2) := by decide +kernel
theorem dX5_year_83 : decode cX5_year 83 = .ok (.invokevirtual 163, 3) := by decide +kernel
theorem dX5_year_86 : decode cX5_year 86 = .ok (.iload 9, 2) := by decide +kernel
theorem dX5_year_88 : decode cX5_year 88 = .ok (.invokestatic 102, 3) := by decide +kernel
theorem dX5_year_91 : decode cX5_year 91 = .ok (.ifCond .ne 25, 3) := by decide +kernel
theorem dX5_year_94 : decode cX5_year 94 = .ok (.iload 7, 2) := by decide +kernel
theorem dX5_year_96 : decode cX5_year 96 = .ok (.iload_n 3, 1) := by decide +kernel
theorem dX5_year_97 : decode cX5_year 97 = .ok (.ifCond .ne 7, 3) := by decide +kernel
theorem dX5_year_100 : decode cX5_year 100 = .ok (.iconst 1, 1) := by decide +kernel
theorem dX5_year_101 : decode cX5_year 101 = .ok (.goto 12, 3) := by decide +kernel
theorem dX5_year_104 : decode cX5_year 104 = .ok (.aload_n 0, 1) := by decide +kernel
theorem dX5_year_105 : decode cX5_year 105 = .ok (.getfield 12, 3) := by decide +kernel
theorem dX5_year_108 : decode cX5_year 108 = .ok (.iload 9, 2) := by decide +kernel
theorem dX5_year_110 : decode cX5_year 110 = .ok (.invokevirtual 96, 3) := by decide +kernel
theorem dX5_year_113 : decode cX5_year 113 = .ok (.iadd, 1) := by decide +kernel
theorem dX5_year_114 : decode cX5_year 114 = .ok (.istore 7, 2) := by decide +kernel
theorem dX5_year_116 : decode cX5_year 116 = .ok (.iinc 8 1, 3) := by decide +kernel
theorem dX5_year_119 : decode cX5_year 119 = .ok (.goto (-73), 3) := by decide +kernel
theorem dX5_year_122 : decode cX5_year 122 = .ok (.iload 7, 2) := by decide +kernel
theorem dX5_year_124 : decode cX5_year 124 = .ok (.ireturn, 1) := by decide +kernel
theorem dX5_sheet_0 : decode cX5_sheet 0 = .ok (.iload_n 1, 1) := by decide +kernel
theorem dX5_sheet_1 : decode cX5_sheet 1 = .ok (.invokestatic 134, 3) := by decide +kernel
theorem dX5_sheet_4 : decode cX5_sheet 4 = .ok (.ifCond .eq 16, 3) := by decide +kernel
theorem dX5_sheet_7 : decode cX5_sheet 7 = .ok (.iload_n 2, 1) := by decide +kernel
theorem dX5_sheet_8 : decode cX5_sheet 8 = .ok (.invokestatic 258, 3) := by decide +kernel
theorem dX5_sheet_11 : decode cX5_sheet 11 = .ok (.ifCond .eq 9, 3) := by decide +kernel
theorem dX5_sheet_14 : decode cX5_sheet 14 = .ok (.iload_n 3, 1) := by decide +kernel
theorem dX5_sheet_15 : decode cX5_sheet 15 = .ok (.bipush 60, 2) := by decide +kernel
theorem dX5_sheet_17 : decode cX5_sheet 17 = .ok (.if_icmp .le 6, 3) := by decide +kernel
theorem dX5_sheet_20 : decode cX5_sheet 20 = .ok (.bipush (-2), 2) := by decide +kernel
theorem dX5_sheet_22 : decode cX5_sheet 22 = .ok (.ireturn, 1) := by decide +kernel
theorem dX5_sheet_23 : decode cX5_sheet 23 = .ok (.iload_n 3, 1) := by decide +kernel
theorem dX5_sheet_24 : decode cX5_sheet 24 = .ok (.ifCond .ge 9, 3) := by decide +kernel
theorem dX5_sheet_27 : decode cX5_sheet 27 = .ok (.aload_n 0, 1) := by decide +kernel
theorem dX5_sheet_28 : decode cX5_sheet 28 = .ok (.iconst 5, 1) := by decide +kernel
theorem dX5_sheet_29 : decode cX5_sheet 29 = .ok (.invokevirtual 141, 3) := by decide +kernel
theorem dX5_sheet_32 : decode cX5_sheet 32 = .ok (.ireturn, 1) := by decide +kernel
theorem dX5_sheet_33 : decode cX5_sheet 33 = .ok (.aload_n 0, 1) := by decide +kernel
theorem dX5_sheet_34 : decode cX5_sheet 34 = .ok (.getfield 62, 3) := by decide +kernel
theorem dX5_sheet_37 : decode cX5_sheet 37 = .ok (.iload_n 1, 1) := by decide +kernel
theorem dX5_sheet_38 : decode cX5_sheet 38 = .ok (.aaload, 1) := by decide +kernel
theorem dX5_sheet_39 : decode cX5_sheet 39 = .ok (.iload_n 2, 1) := by decide +kernel
theorem dX5_sheet_40 : decode cX5_sheet 40 = .ok (.iload_n 3, 1) := by decide +kernel
theorem dX5_sheet_41 : decode cX5_sheet 41 = .ok (.invokevirtual 261, 3) := by decide +kernel
theorem dX5_sheet_44 : decode cX5_sheet 44 = .ok (.iload_n 3, 1) := by decide +kernel
theorem dX5_sheet_45 : decode cX5_sheet 45 = .ok (.ireturn, 1) := by decide +kernel
theorem dX5_lose_0 : decode cX5_lose 0 = .ok (.iload_n 1, 1) := by decide +kernel
theorem dX5_lose_1 : decode cX5_lose 1 = .ok (.invokestatic 134, 3) := by decide +kernel
theorem dX5_lose_4 : decode cX5_lose 4 = .ok (.ifCond .ne 6, 3) := by decide +kernel
theorem dX5_lose_7 : decode cX5_lose 7 = .ok (.bipush (-2), 2) := by decide +kernel
theorem dX5_lose_9 : decode cX5_lose 9 = .ok (.ireturn, 1) := by decide +kernel
theorem dX5_lose_10 : decode cX5_lose 10 = .ok (.aload_n 0, 1) := by decide +kernel
theorem dX5_lose_11 : decode cX5_lose 11 = .ok (.getfield 62, 3) := by decide +kernel
theorem dX5_lose_14 : decode cX5_lose 14 = .ok (.iload_n 1, 1) := by decide +kernel
theorem dX5_lose_15 : decode cX5_lose 15 = .ok (.aaload, 1) := by decide +kernel
theorem dX5_lose_16 : decode cX5_lose 16 = .ok (.invokevirtual 137, 3) := by decide +kernel
theorem dX5_lose_19 : decode cX5_lose 19 = .ok (.ifCond .eq 9, 3) := by decide +kernel
theorem dX5_lose_22 : decode cX5_lose 22 = .ok (.aload_n 0, 1) := by decide +kernel
theorem dX5_lose_23 : decode cX5_lose 23 = .ok (.iconst 1, 1) := by decide +kernel
theorem dX5_lose_24 : decode cX5_lose 24 = .ok (.invokevirtual 141, 3) := by decide +kernel
theorem dX5_lose_27 : decode cX5_lose 27 = .ok (.ireturn, 1) := by decide +kernel
theorem dX5_lose_28 : decode cX5_lose 28 = .ok (.aload_n 0, 1) := by decide +kernel
theorem dX5_lose_29 : decode cX5_lose 29 = .ok (.getfield 62, 3) := by decide +kernel
theorem dX5_lose_32 : decode cX5_lose 32 = .ok (.iload_n 1, 1) := by decide +kernel
theorem dX5_lose_33 : decode cX5_lose 33 = .ok (.aaload, 1) := by decide +kernel
theorem dX5_lose_34 : decode cX5_lose 34 = .ok (.invokevirtual 265, 3) := by decide +kernel
theorem dX5_lose_37 : decode cX5_lose 37 = .ok (.ireturn, 1) := by decide +kernel
theorem dX5_put_0 : decode cX5_put 0 = .ok (.iload_n 1, 1) := by decide +kernel
theorem dX5_put_1 : decode cX5_put 1 = .ok (.invokestatic 134, 3) := by decide +kernel
theorem dX5_put_4 : decode cX5_put 4 = .ok (.ifCond .eq 10, 3) := by decide +kernel
theorem dX5_put_7 : decode cX5_put 7 = .ok (.iload_n 2, 1) := by decide +kernel
theorem dX5_put_8 : decode cX5_put 8 = .ok (.invokestatic 258, 3) := by decide +kernel
theorem dX5_put_11 : decode cX5_put 11 = .ok (.ifCond .ne 6, 3) := by decide +kernel
theorem dX5_put_14 : decode cX5_put 14 = .ok (.bipush (-2), 2) := by decide +kernel
theorem dX5_put_16 : decode cX5_put 16 = .ok (.ireturn, 1) := by decide +kernel
theorem dX5_put_17 : decode cX5_put 17 = .ok (.aload_n 0, 1) := by decide +kernel
theorem dX5_put_18 : decode cX5_put 18 = .ok (.getfield 62, 3) := by decide +kernel
theorem dX5_put_21 : decode cX5_put 21 = .ok (.iload_n 1, 1) := by decide +kernel
theorem dX5_put_22 : decode cX5_put 22 = .ok (.aaload, 1) := by decide +kernel
theorem dX5_put_23 : decode cX5_put 23 = .ok (.iload_n 2, 1) := by decide +kernel
theorem dX5_put_24 : decode cX5_put 24 = .ok (.iload_n 3, 1) := by decide +kernel
theorem dX5_put_25 : decode cX5_put 25 = .ok (.invokestatic 268, 3) := by decide +kernel
theorem dX5_put_28 : decode cX5_put 28 = .ok (.istore 5, 2) := by decide +kernel
theorem dX5_put_30 : decode cX5_put 30 = .ok (.iload 5, 2) := by decide +kernel
theorem dX5_put_32 : decode cX5_put 32 = .ok (.ifCond .eq 10, 3) := by decide +kernel
theorem dX5_put_35 : decode cX5_put 35 = .ok (.aload_n 0, 1) := by decide +kernel
theorem dX5_put_36 : decode cX5_put 36 = .ok (.iload 5, 2) := by decide +kernel
theorem dX5_put_38 : decode cX5_put 38 = .ok (.invokevirtual 141, 3) := by decide +kernel
theorem dX5_put_41 : decode cX5_put 41 = .ok (.ireturn, 1) := by decide +kernel
theorem dX5_put_42 : decode cX5_put 42 = .ok (.aload_n 0, 1) := by decide +kernel
theorem dX5_put_43 : decode cX5_put 43 = .ok (.getfield 62, 3) := by decide +kernel
theorem dX5_put_46 : decode cX5_put 46 = .ok (.iload_n 1, 1) := by decide +kernel
theorem dX5_put_47 : decode cX5_put 47 = .ok (.aaload, 1) := by decide +kernel
theorem dX5_put_48 : decode cX5_put 48 = .ok (.iload_n 3, 1) := by decide +kernel
theorem dX5_put_49 : decode cX5_put 49 = .ok (.iload 4, 2) := by decide +kernel
theorem dX5_put_51 : decode cX5_put 51 = .ok (.invokevirtual 272, 3) := by decide +kernel
theorem dX5_put_54 : decode cX5_put 54 = .ok (.iconst 1, 1) := by decide +kernel
theorem dX5_put_55 : decode cX5_put 55 = .ok (.ireturn, 1) := by decide +kernel
theorem dX5_get_0 : decode cX5_get 0 = .ok (.iload_n 1, 1) := by decide +kernel
theorem dX5_get_1 : decode cX5_get 1 = .ok (.invokestatic 134, 3) := by decide +kernel
theorem dX5_get_4 : decode cX5_get 4 = .ok (.ifCond .eq 10, 3) := by decide +kernel
theorem dX5_get_7 : decode cX5_get 7 = .ok (.iload_n 2, 1) := by decide +kernel
theorem dX5_get_8 : decode cX5_get 8 = .ok (.invokestatic 258, 3) := by decide +kernel
theorem dX5_get_11 : decode cX5_get 11 = .ok (.ifCond .ne 7, 3) := by decide +kernel
theorem dX5_get_14 : decode cX5_get 14 = .ok (.ldc_w 275, 3) := by decide +kernel
theorem dX5_get_17 : decode cX5_get 17 = .ok (.ireturn, 1) := by decide +kernel
theorem dX5_get_18 : decode cX5_get 18 = .ok (.aload_n 0, 1) := by decide +kernel
theorem dX5_get_19 : decode cX5_get 19 = .ok (.getfield 62, 3) := by decide +kernel
theorem dX5_get_22 : decode cX5_get 22 = .ok (.iload_n 1, 1) := by decide +kernel
theorem dX5_get_23 : decode cX5_get 23 = .ok (.aaload, 1) := by decide +kernel
theorem dX5_get_24 : decode cX5_get 24 = .ok (.iload_n 2, 1) := by decide +kernel
theorem dX5_get_25 : decode cX5_get 25 = .ok (.iload_n 3, 1) := by decide +kernel
theorem dX5_get_26 : decode cX5_get 26 = .ok (.invokestatic 268, 3) := by decide +kernel
theorem dX5_get_29 : decode cX5_get 29 = .ok (.istore 4, 2) := by decide +kernel
theorem dX5_get_31 : decode cX5_get 31 = .ok (.iload 4, 2) := by decide +kernel
theorem dX5_get_33 : decode cX5_get 33 = .ok (.ifCond .eq 14, 3) := by decide +kernel
theorem dX5_get_36 : decode cX5_get 36 = .ok (.aload_n 0, 1) := by decide +kernel
theorem dX5_get_37 : decode cX5_get 37 = .ok (.iload 4, 2) := by decide +kernel
theorem dX5_get_39 : decode cX5_get 39 = .ok (.invokevirtual 141, 3) := by decide +kernel
theorem dX5_get_42 : decode cX5_get 42 = .ok (.pop, 1) := by decide +kernel
theorem dX5_get_43 : decode cX5_get 43 = .ok (.ldc_w 275, 3) := by decide +kernel
theorem dX5_get_46 : decode cX5_get 46 = .ok (.ireturn, 1) := by decide +kernel
theorem dX5_get_47 : decode cX5_get 47 = .ok (.aload_n 0, 1) := by decide +kernel
theorem dX5_get_48 : decode cX5_get 48 = .ok (.getfield 62, 3) := by decide +kernel
theorem dX5_get_51 : decode cX5_get 51 = .ok (.iload_n 1, 1) := by decide +kernel
theorem dX5_get_52 : decode cX5_get 52 = .ok (.aaload, 1) := by decide +kernel
theorem dX5_get_53 : decode cX5_get 53 = .ok (.iload_n 3, 1) := by decide +kernel
theorem dX5_get_54 : decode cX5_get 54 = .ok (.invokevirtual 147, 3) := by decide +kernel
theorem dX5_get_57 : decode cX5_get 57 = .ok (.ireturn, 1) := by decide +kernel
theorem dX5_copy_0 : decode cX5_copy 0 = .ok (.iload_n 1, 1) := by decide +kernel
theorem dX5_copy_1 : decode cX5_copy 1 = .ok (.invokestatic 134, 3) := by decide +kernel
theorem dX5_copy_4 : decode cX5_copy 4 = .ok (.ifCond .eq 10, 3) := by decide +kernel
theorem dX5_copy_7 : decode cX5_copy 7 = .ok (.iload_n 3, 1) := by decide +kernel
theorem dX5_copy_8 : decode cX5_copy 8 = .ok (.invokestatic 134, 3) := by decide +kernel
theorem dX5_copy_11 : decode cX5_copy 11 = .ok (.ifCond .ne 6, 3) := by decide +kernel
theorem dX5_copy_14 : decode cX5_copy 14 = .ok (.bipush (-2), 2) := by decide +kernel
theorem dX5_copy_16 : decode cX5_copy 16 = .ok (.ireturn, 1) := by decide +kernel
theorem dX5_copy_17 : decode cX5_copy 17 = .ok (.aload_n 0, 1) := by decide +kernel
theorem dX5_copy_18 : decode cX5_copy 18 = .ok (.getfield 62, 3) := by decide +kernel
theorem dX5_copy_21 : decode cX5_copy 21 = .ok (.iload_n 1, 1) := by decide +kernel
theorem dX5_copy_22 : decode cX5_copy 22 = .ok (.aaload, 1) := by decide +kernel
theorem dX5_copy_23 : decode cX5_copy 23 = .ok (.astore 6, 2) := by decide +kernel
theorem dX5_copy_25 : decode cX5_copy 25 = .ok (.aload_n 0, 1) := by decide +kernel
theorem dX5_copy_26 : decode cX5_copy 26 = .ok (.getfield 62, 3) := by decide +kernel
theorem dX5_copy_29 : decode cX5_copy 29 = .ok (.iload_n 3, 1) := by decide +kernel
theorem dX5_copy_30 : decode cX5_copy 30 = .ok (.aaload, 1) := by decide +kernel
theorem dX5_copy_31 : decode cX5_copy 31 = .ok (.astore 7, 2) := by decide +kernel
theorem dX5_copy_33 : decode cX5_copy 33 = .ok (.aload 6, 2) := by decide +kernel
theorem dX5_copy_35 : decode cX5_copy 35 = .ok (.invokevirtual 137, 3) := by decide +kernel
theorem dX5_copy_38 : decode cX5_copy 38 = .ok (.ifCond .ne 11, 3) := by decide +kernel
theorem dX5_copy_41 : decode cX5_copy 41 = .ok (.aload 7, 2) := by decide +kernel
theorem dX5_copy_43 : decode cX5_copy 43 = .ok (.invokevirtual 137, 3) := by decide +kernel
theorem dX5_copy_46 : decode cX5_copy 46 = .ok (.ifCond .eq 9, 3) := by decide +kernel
theorem dX5_copy_49 : decode cX5_copy 49 = .ok (.aload_n 0, 1) := by decide +kernel
theorem dX5_copy_50 : decode cX5_copy 50 = .ok (.iconst 1, 1) := by decide +kernel
theorem dX5_copy_51 : decode cX5_copy 51 = .ok (.invokevirtual 141, 3) := by decide +kernel
theorem dX5_copy_54 : decode cX5_copy 54 = .ok (.ireturn, 1) := by decide +kernel
theorem dX5_copy_55 : decode cX5_copy 55 = .ok (.aload 6, 2) := by decide +kernel
theorem dX5_copy_57 : decode cX5_copy 57 = .ok (.invokevirtual 276, 3) := by decide +kernel
theorem dX5_copy_60 : decode cX5_copy 60 = .ok (.aload 7, 2) := by decide +kernel
theorem dX5_copy_62 : decode cX5_copy 62 = .ok (.invokevirtual 276, 3) := by decide +kernel
theorem dX5_copy_65 : decode cX5_copy 65 = .ok (.if_icmp .eq 9, 3) := by decide +kernel
theorem dX5_copy_68 : decode cX5_copy 68 = .ok (.aload_n 0, 1) := by decide +kernel
theorem dX5_copy_69 : decode cX5_copy 69 = .ok (.iconst 4, 1) := by decide +kernel
theorem dX5_copy_70 : decode cX5_copy 70 = .ok (.invokevirtual 141, 3) := by decide +kernel
theorem dX5_copy_73 : decode cX5_copy 73 = .ok (.ireturn, 1) := by decide +kernel
theorem dX5_copy_74 : decode cX5_copy 74 = .ok (.aload 6, 2) := by decide +kernel
theorem dX5_copy_76 : decode cX5_copy 76 = .ok (.iload_n 2, 1) := by decide +kernel
theorem dX5_copy_77 : decode cX5_copy 77 = .ok (.iload 5, 2) := by decide +kernel
theorem dX5_copy_79 : decode cX5_copy 79 = .ok (.invokevirtual 279, 3) := by decide +kernel
theorem dX5_copy_82 : decode cX5_copy 82 = .ok (.ifCond .eq 15, 3) := by decide +kernel
theorem dX5_copy_85 : decode cX5_copy 85 = .ok (.aload 7, 2) := by decide +kernel
theorem dX5_copy_87 : decode cX5_copy 87 = .ok (.iload 4, 2) := by decide +kernel
theorem dX5_copy_89 : decode cX5_copy 89 = .ok (.iload 5, 2) := by decide +kernel
theorem dX5_copy_91 : decode cX5_copy 91 = .ok (.invokevirtual 279, 3) := by decide +kernel
theorem dX5_copy_94 : decode cX5_copy 94 = .ok (.ifCond .ne 9, 3) := by decide +kernel
theorem dX5_copy_97 : decode cX5_copy 97 = .ok (.aload_n 0, 1) := by decide +kernel
theorem dX5_copy_98 : decode cX5_copy 98 = .ok (.iconst 2, 1) := by decide +kernel
theorem dX5_copy_99 : decode cX5_copy 99 = .ok (.invokevirtual 141, 3) := by decide +kernel
theorem dX5_copy_102 : decode cX5_copy 102 = .ok (.ireturn, 1) := by decide +kernel
theorem dX5_copy_103 : decode cX5_copy 103 = .ok (.aload 7, 2) := by decide +kernel
theorem dX5_copy_105 : decode cX5_copy 105 = .ok (.iload 4, 2) := by decide +kernel
theorem dX5_copy_107 : decode cX5_copy 107 = .ok (.aload 6, 2) := by decide +kernel
theorem dX5_copy_109 : decode cX5_copy 109 = .ok (.iload_n 2, 1) := by decide +kernel
theorem dX5_copy_110 : decode cX5_copy 110 = .ok (.iload 5, 2) := by decide +kernel
theorem dX5_copy_112 : decode cX5_copy 112 = .ok (.invokevirtual 283, 3) := by decide +kernel
theorem dX5_copy_115 : decode cX5_copy 115 = .ok (.iconst 1, 1) := by decide +kernel
theorem dX5_copy_116 : decode cX5_copy 116 = .ok (.ireturn, 1) := by decide +kernel
theorem dX5_write_0 : decode cX5_write 0 = .ok (.iload_n 1, 1) := by decide +kernel
theorem dX5_write_1 : decode cX5_write 1 = .ok (.invokestatic 134, 3) := by decide +kernel
theorem dX5_write_4 : decode cX5_write 4 = .ok (.ifCond .ne 6, 3) := by decide +kernel
theorem dX5_write_7 : decode cX5_write 7 = .ok (.bipush (-2), 2) := by decide +kernel
theorem dX5_write_9 : decode cX5_write 9 = .ok (.ireturn, 1) := by decide +kernel
theorem dX5_write_10 : decode cX5_write 10 = .ok (.aload_n 0, 1) := by decide +kernel
theorem dX5_write_11 : decode cX5_write 11 = .ok (.getfield 62, 3) := by decide +kernel
theorem dX5_write_14 : decode cX5_write 14 = .ok (.iload_n 1, 1) := by decide +kernel
theorem dX5_write_15 : decode cX5_write 15 = .ok (.aaload, 1) := by decide +kernel
theorem dX5_write_16 : decode cX5_write 16 = .ok (.astore_n 2, 1) := by decide +kernel
theorem dX5_write_17 : decode cX5_write 17 = .ok (.aload_n 2, 1) := by decide +kernel
theorem dX5_write_18 : decode cX5_write 18 = .ok (.invokevirtual 137, 3) := by decide +kernel
theorem dX5_write_21 : decode cX5_write 21 = .ok (.ifCond .eq 9, 3) := by decide +kernel
theorem dX5_write_24 : decode cX5_write 24 = .ok (.aload_n 0, 1) := by decide +kernel
theorem dX5_write_25 : decode cX5_write 25 = .ok (.iconst 1, 1) := by decide +kernel
theorem dX5_write_26 : decode cX5_write 26 = .ok (.invokevirtual 141, 3) := by decide +kernel
theorem dX5_write_29 : decode cX5_write 29 = .ok (.ireturn, 1) := by decide +kernel
theorem dX5_write_30 : decode cX5_write 30 = .ok (.aload_n 0, 1) := by decide +kernel
theorem dX5_write_31 : decode cX5_write 31 = .ok (.invokevirtual 153, 3) := by decide +kernel
theorem dX5_write_34 : decode cX5_write 34 = .ok (.astore_n 3, 1) := by decide +kernel
theorem dX5_write_35 : decode cX5_write 35 = .ok (.aload_n 2, 1) := by decide +kernel
theorem dX5_write_36 : decode cX5_write 36 = .ok (.invokevirtual 144, 3) := by decide +kernel
theorem dX5_write_39 : decode cX5_write 39 = .ok (.bipush 40, 2) := by decide +kernel
theorem dX5_write_41 : decode cX5_write 41 = .ok (.invokestatic 287, 3) := by decide +kernel
theorem dX5_write_44 : decode cX5_write 44 = .ok (.istore 4, 2) := by decide +kernel
theorem dX5_write_46 : decode cX5_write 46 = .ok (.iconst 0, 1) := by decide +kernel
theorem dX5_write_47 : decode cX5_write 47 = .ok (.istore 5, 2) := by decide +kernel
theorem dX5_write_49 : decode cX5_write 49 = .ok (.iload 5, 2) := by decide +kernel
theorem dX5_write_51 : decode cX5_write 51 = .ok (.iload 4, 2) := by decide +kernel
theorem dX5_write_53 : decode cX5_write 53 = .ok (.if_icmp .ge 21, 3) := by decide +kernel
theorem dX5_write_56 : decode cX5_write 56 = .ok (.aload_n 2, 1) := by decide +kernel
theorem dX5_write_57 : decode cX5_write 57 = .ok (.iload 5, 2) := by decide +kernel
theorem dX5_write_59 : decode cX5_write 59 = .ok (.aload_n 3, 1) := by decide +kernel
theorem dX5_write_60 : decode cX5_write 60 = .ok (.iload 5, 2) := by decide +kernel
theorem dX5_write_62 : decode cX5_write 62 = .ok (.invokevirtual 163, 3) := by decide +kernel
theorem dX5_write_65 : decode cX5_write 65 = .ok (.invokevirtual 272, 3) := by decide +kernel
theorem dX5_write_68 : decode cX5_write 68 = .ok (.iinc 5 1, 3) := by decide +kernel
theorem dX5_write_71 : decode cX5_write 71 = .ok (.goto (-22), 3) := by decide +kernel
theorem dX5_write_74 : decode cX5_write 74 = .ok (.iload 4, 2) := by decide +kernel
theorem dX5_write_76 : decode cX5_write 76 = .ok (.ireturn, 1) := by decide +kernel
theorem dX5_count_0 : decode cX5_count 0 = .ok (.iload_n 1, 1) := by decide +kernel
theorem dX5_count_1 : decode cX5_count 1 = .ok (.tableswitch 128 0 8 #[51, 59, 67, 75, 83, 91, 99, 107, 123], 51) := by decide +kernel
theorem dX5_count_52 : decode cX5_count 52 = .ok (.aload_n 0, 1) := by decide +kernel
theorem dX5_count_53 : decode cX5_count 53 = .ok (.getfield 12, 3) := by decide +kernel
theorem dX5_count_56 : decode cX5_count 56 = .ok (.invokevirtual 226, 3) := by decide +kernel
theorem dX5_count_59 : decode cX5_count 59 = .ok (.ireturn, 1) := by decide +kernel
theorem dX5_count_60 : decode cX5_count 60 = .ok (.aload_n 0, 1) := by decide +kernel
theorem dX5_count_61 : decode cX5_count 61 = .ok (.getfield 12, 3) := by decide +kernel
theorem dX5_count_64 : decode cX5_count 64 = .ok (.invokevirtual 290, 3) := by decide +kernel
theorem dX5_count_67 : decode cX5_count 67 = .ok (.ireturn, 1) := by decide +kernel
theorem dX5_count_68 : decode cX5_count 68 = .ok (.aload_n 0, 1) := by decide +kernel
theorem dX5_count_69 : decode cX5_count 69 = .ok (.getfield 21, 3) := by decide +kernel
theorem dX5_count_72 : decode cX5_count 72 = .ok (.invokevirtual 173, 3) := by decide +kernel
theorem dX5_count_75 : decode cX5_count 75 = .ok (.ireturn, 1) := by decide +kernel
theorem dX5_count_76 : decode cX5_count 76 = .ok (.aload_n 0, 1) := by decide +kernel
theorem dX5_count_77 : decode cX5_count 77 = .ok (.getfield 25, 3) := by decide +kernel
theorem dX5_count_80 : decode cX5_count 80 = .ok (.invokevirtual 173, 3) := by decide +kernel
theorem dX5_count_83 : decode cX5_count 83 = .ok (.ireturn, 1) := by decide +kernel
theorem dX5_count_84 : decode cX5_count 84 = .ok (.aload_n 0, 1) := by decide +kernel
theorem dX5_count_85 : decode cX5_count 85 = .ok (.getfield 28, 3) := by decide +kernel
theorem dX5_count_88 : decode cX5_count 88 = .ok (.invokevirtual 173, 3) := by decide +kernel
theorem dX5_count_91 : decode cX5_count 91 = .ok (.ireturn, 1) := by decide +kernel
theorem dX5_count_92 : decode cX5_count 92 = .ok (.aload_n 0, 1) := by decide +kernel
theorem dX5_count_93 : decode cX5_count 93 = .ok (.getfield 31, 3) := by decide +kernel
theorem dX5_count_96 : decode cX5_count 96 = .ok (.invokevirtual 173, 3) := by decide +kernel
theorem dX5_count_99 : decode cX5_count 99 = .ok (.ireturn, 1) := by decide +kernel
theorem dX5_count_100 : decode cX5_count 100 = .ok (.aload_n 0, 1) := by decide +kernel
theorem dX5_count_101 : decode cX5_count 101 = .ok (.getfield 34, 3) := by decide +kernel
theorem dX5_count_104 : decode cX5_count 104 = .ok (.invokevirtual 173, 3) := by decide +kernel
theorem dX5_count_107 : decode cX5_count 107 = .ok (.ireturn, 1) := by decide +kernel
theorem dX5_count_108 : decode cX5_count 108 = .ok (.aload_n 0, 1) := by decide +kernel
theorem dX5_count_109 : decode cX5_count 109 = .ok (.getfield 37, 3) := by decide +kernel
theorem dX5_count_112 : decode cX5_count 112 = .ok (.invokevirtual 173, 3) := by decide +kernel
theorem dX5_count_115 : decode cX5_count 115 = .ok (.aload_n 0, 1) := by decide +kernel
theorem dX5_count_116 : decode cX5_count 116 = .ok (.getfield 40, 3) := by decide +kernel
theorem dX5_count_119 : decode cX5_count 119 = .ok (.invokevirtual 173, 3) := by decide +kernel
theorem dX5_count_122 : decode cX5_count 122 = .ok (.iadd, 1) := by decide +kernel
theorem dX5_count_123 : decode cX5_count 123 = .ok (.ireturn, 1) := by decide +kernel
theorem dX5_count_124 : decode cX5_count 124 = .ok (.aload_n 0, 1) := by decide +kernel
theorem dX5_count_125 : decode cX5_count 125 = .ok (.getfield 293, 3) := by decide +kernel
theorem dX5_count_128 : decode cX5_count 128 = .ok (.ireturn, 1) := by decide +kernel
theorem dX5_count_129 : decode cX5_count 129 = .ok (.bipush (-2), 2) := by decide +kernel
theorem dX5_count_131 : decode cX5_count 131 = .ok (.ireturn, 1) := by decide +kernel
theorem dX5_digest_0 : decode cX5_digest 0 = .ok (.ldc2_w 296, 3) := by decide +kernel
theorem dX5_digest_3 : decode cX5_digest 3 = .ok (.lstore_n 1, 1) := by decide +kernel
theorem dX5_digest_4 : decode cX5_digest 4 = .ok (.iconst 0, 1) := by decide +kernel
theorem dX5_digest_5 : decode cX5_digest 5 = .ok (.istore_n 3, 1) := by decide +kernel
theorem dX5_digest_6 : decode cX5_digest 6 = .ok (.iload_n 3, 1) := by decide +kernel
theorem dX5_digest_7 : decode cX5_digest 7 = .ok (.bipush 7, 2) := by decide +kernel
theorem dX5_digest_9 : decode cX5_digest 9 = .ok (.if_icmp .gt 20, 3) := by decide +kernel
theorem dX5_digest_12 : decode cX5_digest 12 = .ok (.lload_n 1, 1) := by decide +kernel
theorem dX5_digest_13 : decode cX5_digest 13 = .ok (.aload_n 0, 1) := by decide +kernel
theorem dX5_digest_14 : decode cX5_digest 14 = .ok (.iload_n 3, 1) := by decide +kernel
theorem dX5_digest_15 : decode cX5_digest 15 = .ok (.invokevirtual 298, 3) := by decide +kernel
theorem dX5_digest_18 : decode cX5_digest 18 = .ok (.i2l, 1) := by decide +kernel
theorem dX5_digest_19 : decode cX5_digest 19 = .ok (.invokestatic 301, 3) := by decide +kernel
theorem dX5_digest_22 : decode cX5_digest 22 = .ok (.lstore_n 1, 1) := by decide +kernel
theorem dX5_digest_23 : decode cX5_digest 23 = .ok (.iinc 3 1, 3) := by decide +kernel
theorem dX5_digest_26 : decode cX5_digest 26 = .ok (.goto (-20), 3) := by decide +kernel
theorem dX5_digest_29 : decode cX5_digest 29 = .ok (.lload_n 1, 1) := by decide +kernel
theorem dX5_digest_30 : decode cX5_digest 30 = .ok (.aload_n 0, 1) := by decide +kernel
theorem dX5_digest_31 : decode cX5_digest 31 = .ok (.invokevirtual 305, 3) := by decide +kernel
theorem dX5_digest_34 : decode cX5_digest 34 = .ok (.i2l, 1) := by decide +kernel
theorem dX5_digest_35 : decode cX5_digest 35 = .ok (.invokestatic 301, 3) := by decide +kernel
theorem dX5_digest_38 : decode cX5_digest 38 = .ok (.lstore_n 1, 1) := by decide +kernel
theorem dX5_digest_39 : decode cX5_digest 39 = .ok (.aload_n 0, 1) := by decide +kernel
theorem dX5_digest_40 : decode cX5_digest 40 = .ok (.lload_n 1, 1) := by decide +kernel
theorem dX5_digest_41 : decode cX5_digest 41 = .ok (.invokevirtual 308, 3) := by decide +kernel
theorem dX5_digest_44 : decode cX5_digest 44 = .ok (.lstore_n 1, 1) := by decide +kernel
theorem dX5_digest_45 : decode cX5_digest 45 = .ok (.aload_n 0, 1) := by decide +kernel
theorem dX5_digest_46 : decode cX5_digest 46 = .ok (.lload_n 1, 1) := by decide +kernel
theorem dX5_digest_47 : decode cX5_digest 47 = .ok (.invokevirtual 312, 3) := by decide +kernel
theorem dX5_digest_50 : decode cX5_digest 50 = .ok (.lstore_n 1, 1) := by decide +kernel
theorem dX5_digest_51 : decode cX5_digest 51 = .ok (.lload_n 1, 1) := by decide +kernel
theorem dX5_digest_52 : decode cX5_digest 52 = .ok (.aload_n 0, 1) := by decide +kernel
theorem dX5_digest_53 : decode cX5_digest 53 = .ok (.invokevirtual 315, 3) := by decide +kernel
theorem dX5_digest_56 : decode cX5_digest 56 = .ok (.i2l, 1) := by decide +kernel
theorem dX5_digest_57 : decode cX5_digest 57 = .ok (.invokestatic 301, 3) := by decide +kernel
theorem dX5_digest_60 : decode cX5_digest 60 = .ok (.aload_n 0, 1) := by decide +kernel
theorem dX5_digest_61 : decode cX5_digest 61 = .ok (.invokevirtual 318, 3) := by decide +kernel
theorem dX5_digest_64 : decode cX5_digest 64 = .ok (.i2l, 1) := by decide +kernel
theorem dX5_digest_65 : decode cX5_digest 65 = .ok (.invokestatic 301, 3) := by decide +kernel
theorem dX5_digest_68 : decode cX5_digest 68 = .ok (.lstore_n 1, 1) := by decide +kernel
theorem dX5_digest_69 : decode cX5_digest 69 = .ok (.aload_n 0, 1) := by decide +kernel
theorem dX5_digest_70 : decode cX5_digest 70 = .ok (.lload_n 1, 1) := by decide +kernel
theorem dX5_digest_71 : decode cX5_digest 71 = .ok (.invokevirtual 321, 3) := by decide +kernel
theorem dX5_digest_74 : decode cX5_digest 74 = .ok (.lstore_n 1, 1) := by decide +kernel
theorem dX5_digest_75 : decode cX5_digest 75 = .ok (.aload_n 0, 1) := by decide +kernel
theorem dX5_digest_76 : decode cX5_digest 76 = .ok (.lload_n 1, 1) := by decide +kernel
theorem dX5_digest_77 : decode cX5_digest 77 = .ok (.invokevirtual 324, 3) := by decide +kernel
theorem dX5_digest_80 : decode cX5_digest 80 = .ok (.lstore_n 1, 1) := by decide +kernel
theorem dX5_digest_81 : decode cX5_digest 81 = .ok (.lload_n 1, 1) := by decide +kernel
theorem dX5_digest_82 : decode cX5_digest 82 = .ok (.aload_n 0, 1) := by decide +kernel
theorem dX5_digest_83 : decode cX5_digest 83 = .ok (.iconst (-1), 1) := by decide +kernel
theorem dX5_digest_84 : decode cX5_digest 84 = .ok (.invokevirtual 327, 3) := by decide +kernel
theorem dX5_digest_87 : decode cX5_digest 87 = .ok (.i2l, 1) := by decide +kernel
theorem dX5_digest_88 : decode cX5_digest 88 = .ok (.invokestatic 301, 3) := by decide +kernel
theorem dX5_digest_91 : decode cX5_digest 91 = .ok (.aload_n 0, 1) := by decide +kernel
theorem dX5_digest_92 : decode cX5_digest 92 = .ok (.iconst 0, 1) := by decide +kernel
theorem dX5_digest_93 : decode cX5_digest 93 = .ok (.invokevirtual 327, 3) := by decide +kernel
theorem dX5_digest_96 : decode cX5_digest 96 = .ok (.i2l, 1) := by decide +kernel
theorem dX5_digest_97 : decode cX5_digest 97 = .ok (.invokestatic 301, 3) := by decide +kernel
theorem dX5_digest_100 : decode cX5_digest 100 = .ok (.lstore_n 1, 1) := by decide +kernel
theorem dX5_digest_101 : decode cX5_digest 101 = .ok (.lload_n 1, 1) := by decide +kernel
theorem dX5_digest_102 : decode cX5_digest 102 = .ok (.aload_n 0, 1) := by decide +kernel
theorem dX5_digest_103 : decode cX5_digest 103 = .ok (.invokevirtual 330, 3) := by decide +kernel
theorem dX5_digest_106 : decode cX5_digest 106 = .ok (.i2l, 1) := by decide +kernel
theorem dX5_digest_107 : decode cX5_digest 107 = .ok (.invokestatic 301, 3) := by decide +kernel
theorem dX5_digest_110 : decode cX5_digest 110 = .ok (.aload_n 0, 1) := by decide +kernel
theorem dX5_digest_111 : decode cX5_digest 111 = .ok (.invokevirtual 333, 3) := by decide +kernel
theorem dX5_digest_114 : decode cX5_digest 114 = .ok (.i2l, 1) := by decide +kernel
theorem dX5_digest_115 : decode cX5_digest 115 = .ok (.invokestatic 301, 3) := by decide +kernel
theorem dX5_digest_118 : decode cX5_digest 118 = .ok (.lstore_n 1, 1) := by decide +kernel
theorem dX5_digest_119 : decode cX5_digest 119 = .ok (.lload_n 1, 1) := by decide +kernel
theorem dX5_digest_120 : decode cX5_digest 120 = .ok (.aload_n 0, 1) := by decide +kernel
theorem dX5_digest_121 : decode cX5_digest 121 = .ok (.bipush 7, 2) := by decide +kernel
theorem dX5_digest_123 : decode cX5_digest 123 = .ok (.bipush 30, 2) := by decide +kernel
theorem dX5_digest_125 : decode cX5_digest 125 = .ok (.iconst 0, 1) := by decide +kernel
theorem dX5_digest_126 : decode cX5_digest 126 = .ok (.invokevirtual 336, 3) := by decide +kernel
theorem dX5_digest_129 : decode cX5_digest 129 = .ok (.i2l, 1) := by decide +kernel
theorem dX5_digest_130 : decode cX5_digest 130 = .ok (.invokestatic 301, 3) := by decide +kernel
theorem dX5_digest_133 : decode cX5_digest 133 = .ok (.aload_n 0, 1) := by decide +kernel
theorem dX5_digest_134 : decode cX5_digest 134 = .ok (.bipush 7, 2) := by decide +kernel
theorem dX5_digest_136 : decode cX5_digest 136 = .ok (.bipush 30, 2) := by decide +kernel
theorem dX5_digest_138 : decode cX5_digest 138 = .ok (.iconst 1, 1) := by decide +kernel
theorem dX5_digest_139 : decode cX5_digest 139 = .ok (.invokevirtual 336, 3) := by decide +kernel
theorem dX5_digest_142 : decode cX5_digest 142 = .ok (.i2l, 1) := by decide +kernel
theorem dX5_digest_143 : decode cX5_digest 143 = .ok (.invokestatic 301, 3) := by decide +kernel
theorem dX5_digest_146 : decode cX5_digest 146 = .ok (.lreturn, 1) := by decide +kernel
theorem dX5_mix_0 : decode cX5_mix 0 = .ok (.ldc2_w 339, 3) := by decide +kernel
theorem dX5_mix_3 : decode cX5_mix 3 = .ok (.lload_n 0, 1) := by decide +kernel
theorem dX5_mix_4 : decode cX5_mix 4 = .ok (.lmul, 1) := by decide +kernel
theorem dX5_mix_5 : decode cX5_mix 5 = .ok (.lload_n 2, 1) := by decide +kernel
theorem dX5_mix_6 : decode cX5_mix 6 = .ok (.ladd, 1) := by decide +kernel
theorem dX5_mix_7 : decode cX5_mix 7 = .ok (.lreturn, 1) := by decide +kernel
theorem dX5_mixDeeds_0 : decode cX5_mixDeeds 0 = .ok (.lload_n 1, 1) := by decide +kernel
theorem dX5_mixDeeds_1 : decode cX5_mixDeeds 1 = .ok (.lstore_n 3, 1) := by decide +kernel
theorem dX5_mixDeeds_2 : decode cX5_mixDeeds 2 = .ok (.iconst 0, 1) := by decide +kernel
theorem dX5_mixDeeds_3 : decode cX5_mixDeeds 3 = .ok (.istore 5, 2) := by decide +kernel
theorem dX5_mixDeeds_5 : decode cX5_mixDeeds 5 = .ok (.iload 5, 2) := by decide +kernel
theorem dX5_mixDeeds_7 : decode cX5_mixDeeds 7 = .ok (.aload_n 0, 1) := by decide +kernel
theorem dX5_mixDeeds_8 : decode cX5_mixDeeds 8 = .ok (.getfield 12, 3) := by decide +kernel
theorem dX5_mixDeeds_11 : decode cX5_mixDeeds 11 = .ok (.invokevirtual 226, 3) := by decide +kernel
theorem dX5_mixDeeds_14 : decode cX5_mixDeeds 14 = .ok (.if_icmp .ge 124, 3) := by decide +kernel
theorem dX5_mixDeeds_17 : decode cX5_mixDeeds 17 = .ok (.lload_n 3, 1) := by decide +kernel
theorem dX5_mixDeeds_18 : decode cX5_mixDeeds 18 = .ok (.aload_n 0, 1) := by decide +kernel
theorem dX5_mixDeeds_19 : decode cX5_mixDeeds 19 = .ok (.iload 5, 2) := by decide +kernel
theorem dX5_mixDeeds_21 : decode cX5_mixDeeds 21 = .ok (.iconst 0, 1) := by decide +kernel
theorem dX5_mixDeeds_22 : decode cX5_mixDeeds 22 = .ok (.invokevirtual 341, 3) := by decide +kernel
theorem dX5_mixDeeds_25 : decode cX5_mixDeeds 25 = .ok (.i2l, 1) := by decide +kernel
theorem dX5_mixDeeds_26 : decode cX5_mixDeeds 26 = .ok (.invokestatic 301, 3) := by decide +kernel
theorem dX5_mixDeeds_29 : decode cX5_mixDeeds 29 = .ok (.aload_n 0, 1) := by decide +kernel
theorem dX5_mixDeeds_30 : decode cX5_mixDeeds 30 = .ok (.iload 5, 2) := by decide +kernel
theorem dX5_mixDeeds_32 : decode cX5_mixDeeds 32 = .ok (.iconst 1, 1) := by decide +kernel
theorem dX5_mixDeeds_33 : decode cX5_mixDeeds 33 = .ok (.invokevirtual 341, 3) := by decide +kernel
theorem dX5_mixDeeds_36 : decode cX5_mixDeeds 36 = .ok (.i2l, 1) := by decide +kernel
theorem dX5_mixDeeds_37 : decode cX5_mixDeeds 37 = .ok (.invokestatic 301, 3) := by decide +kernel
theorem dX5_mixDeeds_40 : decode cX5_mixDeeds 40 = .ok (.aload_n 0, 1) := by decide +kernel
theorem dX5_mixDeeds_41 : decode cX5_mixDeeds 41 = .ok (.iload 5, 2) := by decide +kernel
theorem dX5_mixDeeds_43 : decode cX5_mixDeeds 43 = .ok (.iconst 2, 1) := by decide +kernel
theorem dX5_mixDeeds_44 : decode cX5_mixDeeds 44 = .ok (.invokevirtual 341, 3) := by decide +kernel
theorem dX5_mixDeeds_47 : decode cX5_mixDeeds 47 = .ok (.i2l, 1) := by decide +kernel
theorem dX5_mixDeeds_48 : decode cX5_mixDeeds 48 = .ok (.invokestatic 301, 3) := by decide +kernel
theorem dX5_mixDeeds_51 : decode cX5_mixDeeds 51 = .ok (.lstore_n 3, 1) := by decide +kernel
theorem dX5_mixDeeds_52 : decode cX5_mixDeeds 52 = .ok (.lload_n 3, 1) := by decide +kernel
theorem dX5_mixDeeds_53 : decode cX5_mixDeeds 53 = .ok (.aload_n 0, 1) := by decide +kernel
theorem dX5_mixDeeds_54 : decode cX5_mixDeeds 54 = .ok (.iload 5, 2) := by decide +kernel
theorem dX5_mixDeeds_56 : decode cX5_mixDeeds 56 = .ok (.invokevirtual 344, 3) := by decide +kernel
theorem dX5_mixDeeds_59 : decode cX5_mixDeeds 59 = .ok (.i2l, 1) := by decide +kernel
theorem dX5_mixDeeds_60 : decode cX5_mixDeeds 60 = .ok (.invokestatic 301, 3) := by decide +kernel
theorem dX5_mixDeeds_63 : decode cX5_mixDeeds 63 = .ok (.aload_n 0, 1) := by decide +kernel
theorem dX5_mixDeeds_64 : decode cX5_mixDeeds 64 = .ok (.iload 5, 2) := by decide +kernel
theorem dX5_mixDeeds_66 : decode cX5_mixDeeds 66 = .ok (.iconst 3, 1) := by decide +kernel
theorem dX5_mixDeeds_67 : decode cX5_mixDeeds 67 = .ok (.iconst 5, 1) := by decide +kernel
theorem dX5_mixDeeds_68 : decode cX5_mixDeeds 68 = .ok (.invokevirtual 347, 3) := by decide +kernel
theorem dX5_mixDeeds_71 : decode cX5_mixDeeds 71 = .ok (.i2l, 1) := by decide +kernel
theorem dX5_mixDeeds_72 : decode cX5_mixDeeds 72 = .ok (.invokestatic 301, 3) := by decide +kernel
theorem dX5_mixDeeds_75 : decode cX5_mixDeeds 75 = .ok (.lstore_n 3, 1) := by decide +kernel
theorem dX5_mixDeeds_76 : decode cX5_mixDeeds 76 = .ok (.lload_n 3, 1) := by decide +kernel
theorem dX5_mixDeeds_77 : decode cX5_mixDeeds 77 = .ok (.aload_n 0, 1) := by decide +kernel
theorem dX5_mixDeeds_78 : decode cX5_mixDeeds 78 = .ok (.iload 5, 2) := by decide +kernel
theorem dX5_mixDeeds_80 : decode cX5_mixDeeds 80 = .ok (.iconst 4, 1) := by decide +kernel
theorem dX5_mixDeeds_81 : decode cX5_mixDeeds 81 = .ok (.iconst 2, 1) := by decide +kernel
theorem dX5_mixDeeds_82 : decode cX5_mixDeeds 82 = .ok (.iconst 0, 1) := by decide +kernel
theorem dX5_mixDeeds_83 : decode cX5_mixDeeds 83 = .ok (.invokevirtual 350, 3) := by decide +kernel
theorem dX5_mixDeeds_86 : decode cX5_mixDeeds 86 = .ok (.i2l, 1) := by decide +kernel
theorem dX5_mixDeeds_87 : decode cX5_mixDeeds 87 = .ok (.invokestatic 301, 3) := by decide +kernel
theorem dX5_mixDeeds_90 : decode cX5_mixDeeds 90 = .ok (.aload_n 0, 1) := by decide +kernel
theorem dX5_mixDeeds_91 : decode cX5_mixDeeds 91 = .ok (.iload 5, 2) := by decide +kernel
theorem dX5_mixDeeds_93 : decode cX5_mixDeeds 93 = .ok (.iconst 4, 1) := by decide +kernel
theorem dX5_mixDeeds_94 : decode cX5_mixDeeds 94 = .ok (.iconst 2, 1) := by decide +kernel
theorem dX5_mixDeeds_95 : decode cX5_mixDeeds 95 = .ok (.iconst 1, 1) := by decide +kernel
theorem dX5_mixDeeds_96 : decode cX5_mixDeeds 96 = .ok (.invokevirtual 350, 3) := by decide +kernel
theorem dX5_mixDeeds_99 : decode cX5_mixDeeds 99 = .ok (.i2l, 1) := by decide +kernel
theorem dX5_mixDeeds_100 : decode cX5_mixDeeds 100 = .ok (.invokestatic 301, 3) := by decide +kernel
theorem dX5_mixDeeds_103 : decode cX5_mixDeeds 103 = .ok (.lstore_n 3, 1) := by decide +kernel
theorem dX5_mixDeeds_104 : decode cX5_mixDeeds 104 = .ok (.lload_n 3, 1) := by decide +kernel
theorem dX5_mixDeeds_105 : decode cX5_mixDeeds 105 = .ok (.aload_n 0, 1) := by decide +kernel
theorem dX5_mixDeeds_106 : decode cX5_mixDeeds 106 = .ok (.iconst 5, 1) := by decide +kernel
theorem dX5_mixDeeds_107 : decode cX5_mixDeeds 107 = .ok (.iconst 3, 1) := by decide +kernel
theorem dX5_mixDeeds_108 : decode cX5_mixDeeds 108 = .ok (.iload 5, 2) := by decide +kernel
theorem dX5_mixDeeds_110 : decode cX5_mixDeeds 110 = .ok (.iconst 4, 1) := by decide +kernel
theorem dX5_mixDeeds_111 : decode cX5_mixDeeds 111 = .ok (.iconst 0, 1) := by decide +kernel
theorem dX5_mixDeeds_112 : decode cX5_mixDeeds 112 = .ok (.invokevirtual 354, 3) := by decide +kernel
theorem dX5_mixDeeds_115 : decode cX5_mixDeeds 115 = .ok (.invokestatic 301, 3) := by decide +kernel
theorem dX5_mixDeeds_118 : decode cX5_mixDeeds 118 = .ok (.aload_n 0, 1) := by decide +kernel
theorem dX5_mixDeeds_119 : decode cX5_mixDeeds 119 = .ok (.iconst 5, 1) := by decide +kernel
theorem dX5_mixDeeds_120 : decode cX5_mixDeeds 120 = .ok (.iconst 3, 1) := by decide +kernel
theorem dX5_mixDeeds_121 : decode cX5_mixDeeds 121 = .ok (.iload 5, 2) := by decide +kernel
theorem dX5_mixDeeds_123 : decode cX5_mixDeeds 123 = .ok (.iconst 4, 1) := by decide +kernel
theorem dX5_mixDeeds_124 : decode cX5_mixDeeds 124 = .ok (.iconst 1, 1) := by decide +kernel
theorem dX5_mixDeeds_125 : decode cX5_mixDeeds 125 = .ok (.invokevirtual 354, 3) := by decide +kernel
theorem dX5_mixDeeds_128 : decode cX5_mixDeeds 128 = .ok (.invokestatic 301, 3) := by decide +kernel
theorem dX5_mixDeeds_131 : decode cX5_mixDeeds 131 = .ok (.lstore_n 3, 1) := by decide +kernel
theorem dX5_mixDeeds_132 : decode cX5_mixDeeds 132 = .ok (.iinc 5 1, 3) := by decide +kernel
theorem dX5_mixDeeds_135 : decode cX5_mixDeeds 135 = .ok (.goto (-130), 3) := by decide +kernel
theorem dX5_mixDeeds_138 : decode cX5_mixDeeds 138 = .ok (.lload_n 3, 1) := by decide +kernel
theorem dX5_mixDeeds_139 : decode cX5_mixDeeds 139 = .ok (.lreturn, 1) := by decide +kernel
theorem dX5_mixDays_0 : decode cX5_mixDays 0 = .ok (.lload_n 1, 1) := by decide +kernel
theorem dX5_mixDays_1 : decode cX5_mixDays 1 = .ok (.lstore_n 3, 1) := by decide +kernel
theorem dX5_mixDays_2 : decode cX5_mixDays 2 = .ok (.getstatic 358, 3) := by decide +kernel
theorem dX5_mixDays_5 : decode cX5_mixDays 5 = .ok (.astore 5, 2) := by decide +kernel
theorem dX5_mixDays_7 : decode cX5_mixDays 7 = .ok (.aload 5, 2) := by decide +kernel
theorem dX5_mixDays_9 : decode cX5_mixDays 9 = .ok (.arraylength, 1) := by decide +kernel
theorem dX5_mixDays_10 : decode cX5_mixDays 10 = .ok (.istore 6, 2) := by decide +kernel
theorem dX5_mixDays_12 : decode cX5_mixDays 12 = .ok (.iconst 0, 1) := by decide +kernel
theorem dX5_mixDays_13 : decode cX5_mixDays 13 = .ok (.istore 7, 2) := by decide +kernel
theorem dX5_mixDays_15 : decode cX5_mixDays 15 = .ok (.iload 7, 2) := by decide +kernel
theorem dX5_mixDays_17 : decode cX5_mixDays 17 = .ok (.iload 6, 2) := by decide +kernel
theorem dX5_mixDays_19 : decode cX5_mixDays 19 = .ok (.if_icmp .ge 64, 3) := by decide +kernel
theorem dX5_mixDays_22 : decode cX5_mixDays 22 = .ok (.aload 5, 2) := by decide +kernel
theorem dX5_mixDays_24 : decode cX5_mixDays 24 = .ok (.iload 7, 2) := by decide +kernel
theorem dX5_mixDays_26 : decode cX5_mixDays 26 = .ok (.iaload, 1) := by decide +kernel
theorem dX5_mixDays_27 : decode cX5_mixDays 27 = .ok (.istore 8, 2) := by decide +kernel
theorem dX5_mixDays_29 : decode cX5_mixDays 29 = .ok (.lload_n 3, 1) := by decide +kernel
theorem dX5_mixDays_30 : decode cX5_mixDays 30 = .ok (.aload_n 0, 1) := by decide +kernel
theorem dX5_mixDays_31 : decode cX5_mixDays 31 = .ok (.iload 8, 2) := by decide +kernel
theorem dX5_mixDays_33 : decode cX5_mixDays 33 = .ok (.invokevirtual 362, 3) := by decide +kernel
theorem dX5_mixDays_36 : decode cX5_mixDays 36 = .ok (.i2l, 1) := by decide +kernel
theorem dX5_mixDays_37 : decode cX5_mixDays 37 = .ok (.invokestatic 301, 3) := by decide +kernel
theorem dX5_mixDays_40 : decode cX5_mixDays 40 = .ok (.lstore_n 3, 1) := by decide +kernel
theorem dX5_mixDays_41 : decode cX5_mixDays 41 = .ok (.lload_n 3, 1) := by decide +kernel
theorem dX5_mixDays_42 : decode cX5_mixDays 42 = .ok (.aload_n 0, 1) := by decide +kernel
theorem dX5_mixDays_43 : decode cX5_mixDays 43 = .ok (.iload 8, 2) := by decide +kernel
theorem dX5_mixDays_45 : decode cX5_mixDays 45 = .ok (.iconst 0, 1) := by decide +kernel
theorem dX5_mixDays_46 : decode cX5_mixDays 46 = .ok (.invokevirtual 365, 3) := by decide +kernel
theorem dX5_mixDays_49 : decode cX5_mixDays 49 = .ok (.i2l, 1) := by decide +kernel
theorem dX5_mixDays_50 : decode cX5_mixDays 50 = .ok (.invokestatic 301, 3) := by decide +kernel
theorem dX5_mixDays_53 : decode cX5_mixDays 53 = .ok (.aload_n 0, 1) := by decide +kernel
theorem dX5_mixDays_54 : decode cX5_mixDays 54 = .ok (.iload 8, 2) := by decide +kernel
theorem dX5_mixDays_56 : decode cX5_mixDays 56 = .ok (.iconst 1, 1) := by decide +kernel
theorem dX5_mixDays_57 : decode cX5_mixDays 57 = .ok (.invokevirtual 365, 3) := by decide +kernel
theorem dX5_mixDays_60 : decode cX5_mixDays 60 = .ok (.i2l, 1) := by decide +kernel
theorem dX5_mixDays_61 : decode cX5_mixDays 61 = .ok (.invokestatic 301, 3) := by decide +kernel
theorem dX5_mixDays_64 : decode cX5_mixDays 64 = .ok (.lstore_n 3, 1) := by decide +kernel
theorem dX5_mixDays_65 : decode cX5_mixDays 65 = .ok (.lload_n 3, 1) := by decide +kernel
theorem dX5_mixDays_66 : decode cX5_mixDays 66 = .ok (.aload_n 0, 1) := by decide +kernel
theorem dX5_mixDays_67 : decode cX5_mixDays 67 = .ok (.iload 8, 2) := by decide +kernel
theorem dX5_mixDays_69 : decode cX5_mixDays 69 = .ok (.invokevirtual 368, 3) := by decide +kernel
theorem dX5_mixDays_72 : decode cX5_mixDays 72 = .ok (.i2l, 1) := by decide +kernel
theorem dX5_mixDays_73 : decode cX5_mixDays 73 = .ok (.invokestatic 301, 3) := by decide +kernel
theorem dX5_mixDays_76 : decode cX5_mixDays 76 = .ok (.lstore_n 3, 1) := by decide +kernel
theorem dX5_mixDays_77 : decode cX5_mixDays 77 = .ok (.iinc 7 1, 3) := by decide +kernel
theorem dX5_mixDays_80 : decode cX5_mixDays 80 = .ok (.goto (-65), 3) := by decide +kernel
theorem dX5_mixDays_83 : decode cX5_mixDays 83 = .ok (.lload_n 3, 1) := by decide +kernel
theorem dX5_mixDays_84 : decode cX5_mixDays 84 = .ok (.lreturn, 1) := by decide +kernel
theorem dX5_mixFines_0 : decode cX5_mixFines 0 = .ok (.lload_n 1, 1) := by decide +kernel
theorem dX5_mixFines_1 : decode cX5_mixFines 1 = .ok (.lstore_n 3, 1) := by decide +kernel
theorem dX5_mixFines_2 : decode cX5_mixFines 2 = .ok (.iconst 0, 1) := by decide +kernel
theorem dX5_mixFines_3 : decode cX5_mixFines 3 = .ok (.istore 5, 2) := by decide +kernel
theorem dX5_mixFines_5 : decode cX5_mixFines 5 = .ok (.iload 5, 2) := by decide +kernel
theorem dX5_mixFines_7 : decode cX5_mixFines 7 = .ok (.aload_n 0, 1) := by decide +kernel
theorem dX5_mixFines_8 : decode cX5_mixFines 8 = .ok (.getfield 31, 3) := by decide +kernel
theorem dX5_mixFines_11 : decode cX5_mixFines 11 = .ok (.invokevirtual 173, 3) := by decide +kernel
theorem dX5_mixFines_14 : decode cX5_mixFines 14 = .ok (.if_icmp .ge 21, 3) := by decide +kernel
theorem dX5_mixFines_17 : decode cX5_mixFines 17 = .ok (.lload_n 3, 1) := by decide +kernel
theorem dX5_mixFines_18 : decode cX5_mixFines 18 = .ok (.aload_n 0, 1) := by decide +kernel
theorem dX5_mixFines_19 : decode cX5_mixFines 19 = .ok (.iload 5, 2) := by decide +kernel
theorem dX5_mixFines_21 : decode cX5_mixFines 21 = .ok (.invokevirtual 371, 3) := by decide +kernel
theorem dX5_mixFines_24 : decode cX5_mixFines 24 = .ok (.i2l, 1) := by decide +kernel
theorem dX5_mixFines_25 : decode cX5_mixFines 25 = .ok (.invokestatic 301, 3) := by decide +kernel
theorem dX5_mixFines_28 : decode cX5_mixFines 28 = .ok (.lstore_n 3, 1) := by decide +kernel
theorem dX5_mixFines_29 : decode cX5_mixFines 29 = .ok (.iinc 5 1, 3) := by decide +kernel
theorem dX5_mixFines_32 : decode cX5_mixFines 32 = .ok (.goto (-27), 3) := by decide +kernel
theorem dX5_mixFines_35 : decode cX5_mixFines 35 = .ok (.lload_n 3, 1) := by decide +kernel
theorem dX5_mixFines_36 : decode cX5_mixFines 36 = .ok (.aload_n 0, 1) := by decide +kernel
theorem dX5_mixFines_37 : decode cX5_mixFines 37 = .ok (.iconst 0, 1) := by decide +kernel
theorem dX5_mixFines_38 : decode cX5_mixFines 38 = .ok (.invokevirtual 374, 3) := by decide +kernel
theorem dX5_mixFines_41 : decode cX5_mixFines 41 = .ok (.i2l, 1) := by decide +kernel
theorem dX5_mixFines_42 : decode cX5_mixFines 42 = .ok (.invokestatic 301, 3) := by decide +kernel
theorem dX5_mixFines_45 : decode cX5_mixFines 45 = .ok (.aload_n 0, 1) := by decide +kernel
theorem dX5_mixFines_46 : decode cX5_mixFines 46 = .ok (.iconst 1, 1) := by decide +kernel
theorem dX5_mixFines_47 : decode cX5_mixFines 47 = .ok (.invokevirtual 374, 3) := by decide +kernel
theorem dX5_mixFines_50 : decode cX5_mixFines 50 = .ok (.i2l, 1) := by decide +kernel
theorem dX5_mixFines_51 : decode cX5_mixFines 51 = .ok (.invokestatic 301, 3) := by decide +kernel
theorem dX5_mixFines_54 : decode cX5_mixFines 54 = .ok (.lreturn, 1) := by decide +kernel
theorem dX5_mixPlans_0 : decode cX5_mixPlans 0 = .ok (.lload_n 1, 1) := by decide +kernel
theorem dX5_mixPlans_1 : decode cX5_mixPlans 1 = .ok (.aload_n 0, 1) := by decide +kernel
theorem dX5_mixPlans_2 : decode cX5_mixPlans 2 = .ok (.iconst 2, 1) := by decide +kernel
theorem dX5_mixPlans_3 : decode cX5_mixPlans 3 = .ok (.iconst (-1), 1) := by decide +kernel
theorem dX5_mixPlans_4 : decode cX5_mixPlans 4 = .ok (.invokevirtual 377, 3) := by decide +kernel
theorem dX5_mixPlans_7 : decode cX5_mixPlans 7 = .ok (.i2l, 1) := by decide +kernel
theorem dX5_mixPlans_8 : decode cX5_mixPlans 8 = .ok (.invokestatic 301, 3) := by decide +kernel
theorem dX5_mixPlans_11 : decode cX5_mixPlans 11 = .ok (.aload_n 0, 1) := by decide +kernel
theorem dX5_mixPlans_12 : decode cX5_mixPlans 12 = .ok (.iconst 2, 1) := by decide +kernel
theorem dX5_mixPlans_13 : decode cX5_mixPlans 13 = .ok (.iconst 0, 1) := by decide +kernel
theorem dX5_mixPlans_14 : decode cX5_mixPlans 14 = .ok (.invokevirtual 377, 3) := by decide +kernel
theorem dX5_mixPlans_17 : decode cX5_mixPlans 17 = .ok (.i2l, 1) := by decide +kernel
theorem dX5_mixPlans_18 : decode cX5_mixPlans 18 = .ok (.invokestatic 301, 3) := by decide +kernel
theorem dX5_mixPlans_21 : decode cX5_mixPlans 21 = .ok (.lstore_n 3, 1) := by decide +kernel
theorem dX5_mixPlans_22 : decode cX5_mixPlans 22 = .ok (.lload_n 3, 1) := by decide +kernel
theorem dX5_mixPlans_23 : decode cX5_mixPlans 23 = .ok (.aload_n 0, 1) := by decide +kernel
theorem dX5_mixPlans_24 : decode cX5_mixPlans 24 = .ok (.iconst 2, 1) := by decide +kernel
theorem dX5_mixPlans_25 : decode cX5_mixPlans 25 = .ok (.iconst (-1), 1) := by decide +kernel
theorem dX5_mixPlans_26 : decode cX5_mixPlans 26 = .ok (.invokevirtual 380, 3) := by decide +kernel
theorem dX5_mixPlans_29 : decode cX5_mixPlans 29 = .ok (.i2l, 1) := by decide +kernel
theorem dX5_mixPlans_30 : decode cX5_mixPlans 30 = .ok (.invokestatic 301, 3) := by decide +kernel
theorem dX5_mixPlans_33 : decode cX5_mixPlans 33 = .ok (.aload_n 0, 1) := by decide +kernel
theorem dX5_mixPlans_34 : decode cX5_mixPlans 34 = .ok (.iconst 2, 1) := by decide +kernel
theorem dX5_mixPlans_35 : decode cX5_mixPlans 35 = .ok (.iconst 0, 1) := by decide +kernel
theorem dX5_mixPlans_36 : decode cX5_mixPlans 36 = .ok (.invokevirtual 380, 3) := by decide +kernel
theorem dX5_mixPlans_39 : decode cX5_mixPlans 39 = .ok (.i2l, 1) := by decide +kernel
theorem dX5_mixPlans_40 : decode cX5_mixPlans 40 = .ok (.invokestatic 301, 3) := by decide +kernel
theorem dX5_mixPlans_43 : decode cX5_mixPlans 43 = .ok (.lstore_n 3, 1) := by decide +kernel
theorem dX5_mixPlans_44 : decode cX5_mixPlans 44 = .ok (.lload_n 3, 1) := by decide +kernel
theorem dX5_mixPlans_45 : decode cX5_mixPlans 45 = .ok (.aload_n 0, 1) := by decide +kernel
theorem dX5_mixPlans_46 : decode cX5_mixPlans 46 = .ok (.iconst 4, 1) := by decide +kernel
theorem dX5_mixPlans_47 : decode cX5_mixPlans 47 = .ok (.iconst 2, 1) := by decide +kernel
theorem dX5_mixPlans_48 : decode cX5_mixPlans 48 = .ok (.iconst 0, 1) := by decide +kernel
theorem dX5_mixPlans_49 : decode cX5_mixPlans 49 = .ok (.invokevirtual 383, 3) := by decide +kernel
theorem dX5_mixPlans_52 : decode cX5_mixPlans 52 = .ok (.i2l, 1) := by decide +kernel
theorem dX5_mixPlans_53 : decode cX5_mixPlans 53 = .ok (.invokestatic 301, 3) := by decide +kernel
theorem dX5_mixPlans_56 : decode cX5_mixPlans 56 = .ok (.aload_n 0, 1) := by decide +kernel
theorem dX5_mixPlans_57 : decode cX5_mixPlans 57 = .ok (.iconst 4, 1) := by decide +kernel
theorem dX5_mixPlans_58 : decode cX5_mixPlans 58 = .ok (.iconst 2, 1) := by decide +kernel
theorem dX5_mixPlans_59 : decode cX5_mixPlans 59 = .ok (.iconst 1, 1) := by decide +kernel
theorem dX5_mixPlans_60 : decode cX5_mixPlans 60 = .ok (.invokevirtual 383, 3) := by decide +kernel
theorem dX5_mixPlans_63 : decode cX5_mixPlans 63 = .ok (.i2l, 1) := by decide +kernel
theorem dX5_mixPlans_64 : decode cX5_mixPlans 64 = .ok (.invokestatic 301, 3) := by decide +kernel
theorem dX5_mixPlans_67 : decode cX5_mixPlans 67 = .ok (.lreturn, 1) := by decide +kernel
theorem dX5_within_0 : decode cX5_within 0 = .ok (.iload_n 0, 1) := by decide +kernel
theorem dX5_within_1 : decode cX5_within 1 = .ok (.iload_n 1, 1) := by decide +kernel
theorem dX5_within_2 : decode cX5_within 2 = .ok (.if_icmp .lt 12, 3) := by decide +kernel
theorem dX5_within_5 : decode cX5_within 5 = .ok (.iload_n 0, 1) := by decide +kernel
theorem dX5_within_6 : decode cX5_within 6 = .ok (.iload_n 2, 1) := by decide +kernel
theorem dX5_within_7 : decode cX5_within 7 = .ok (.if_icmp .gt 7, 3) := by decide +kernel
theorem dX5_within_10 : decode cX5_within 10 = .ok (.iconst 1, 1) := by decide +kernel
theorem dX5_within_11 : decode cX5_within 11 = .ok (.goto 4, 3) := by decide +kernel
theorem dX5_within_14 : decode cX5_within 14 = .ok (.iconst 0, 1) := by decide +kernel
theorem dX5_within_15 : decode cX5_within 15 = .ok (.ireturn, 1) := by decide +kernel
theorem dX5_isDay_0 : decode cX5_isDay 0 = .ok (.iload_n 0, 1) := by decide +kernel
theorem dX5_isDay_1 : decode cX5_isDay 1 = .ok (.ifCond .lt 13, 3) := by decide +kernel
theorem dX5_isDay_4 : decode cX5_isDay 4 = .ok (.iload_n 0, 1) := by decide +kernel
theorem dX5_isDay_5 : decode cX5_isDay 5 = .ok (.bipush 40, 2) := by decide +kernel
theorem dX5_isDay_7 : decode cX5_isDay 7 = .ok (.if_icmp .ge 7, 3) := by decide +kernel
theorem dX5_isDay_10 : decode cX5_isDay 10 = .ok (.iconst 1, 1) := by decide +kernel
theorem dX5_isDay_11 : decode cX5_isDay 11 = .ok (.goto 4, 3) := by decide +kernel
theorem dX5_isDay_14 : decode cX5_isDay 14 = .ok (.iconst 0, 1) := by decide +kernel
theorem dX5_isDay_15 : decode cX5_isDay 15 = .ok (.ireturn, 1) := by decide +kernel
theorem dX5_isKing_0 : decode cX5_isKing 0 = .ok (.iload_n 0, 1) := by decide +kernel
theorem dX5_isKing_1 : decode cX5_isKing 1 = .ok (.iconst 0, 1) := by decide +kernel
theorem dX5_isKing_2 : decode cX5_isKing 2 = .ok (.iconst 1, 1) := by decide +kernel
theorem dX5_isKing_3 : decode cX5_isKing 3 = .ok (.invokestatic 71, 3) := by decide +kernel
theorem dX5_isKing_6 : decode cX5_isKing 6 = .ok (.ireturn, 1) := by decide +kernel
theorem dX5_mayBeDeed_0 : decode cX5_mayBeDeed 0 = .ok (.iload_n 0, 1) := by decide +kernel
theorem dX5_mayBeDeed_1 : decode cX5_mayBeDeed 1 = .ok (.iconst 0, 1) := by decide +kernel
theorem dX5_mayBeDeed_2 : decode cX5_mayBeDeed 2 = .ok (.bipush 7, 2) := by decide +kernel
theorem dX5_mayBeDeed_4 : decode cX5_mayBeDeed 4 = .ok (.invokestatic 71, 3) := by decide +kernel
theorem dX5_mayBeDeed_7 : decode cX5_mayBeDeed 7 = .ok (.ireturn, 1) := by decide +kernel
theorem dX5_isSheet_0 : decode cX5_isSheet 0 = .ok (.iload_n 0, 1) := by decide +kernel
theorem dX5_isSheet_1 : decode cX5_isSheet 1 = .ok (.iconst 0, 1) := by decide +kernel
theorem dX5_isSheet_2 : decode cX5_isSheet 2 = .ok (.iconst 3, 1) := by decide +kernel
theorem dX5_isSheet_3 : decode cX5_isSheet 3 = .ok (.invokestatic 71, 3) := by decide +kernel
theorem dX5_isSheet_6 : decode cX5_isSheet 6 = .ok (.ireturn, 1) := by decide +kernel
theorem dX5_isForm_0 : decode cX5_isForm 0 = .ok (.iload_n 0, 1) := by decide +kernel
theorem dX5_isForm_1 : decode cX5_isForm 1 = .ok (.iconst 0, 1) := by decide +kernel
theorem dX5_isForm_2 : decode cX5_isForm 2 = .ok (.iconst 2, 1) := by decide +kernel
theorem dX5_isForm_3 : decode cX5_isForm 3 = .ok (.invokestatic 71, 3) := by decide +kernel
theorem dX5_isForm_6 : decode cX5_isForm 6 = .ok (.ireturn, 1) := by decide +kernel
theorem dX5_changed_0 : decode cX5_changed 0 = .ok (.aload_n 0, 1) := by decide +kernel
theorem dX5_changed_1 : decode cX5_changed 1 = .ok (.iconst 1, 1) := by decide +kernel
theorem dX5_changed_2 : decode cX5_changed 2 = .ok (.putfield 66, 3) := by decide +kernel
theorem dX5_changed_5 : decode cX5_changed 5 = .ok (.iload_n 1, 1) := by decide +kernel
theorem dX5_changed_6 : decode cX5_changed 6 = .ok (.ireturn, 1) := by decide +kernel
theorem dX5_laws_0 : decode cX5_laws 0 = .ok (.aload_n 0, 1) := by decide +kernel
theorem dX5_laws_1 : decode cX5_laws 1 = .ok (.getfield 66, 3) := by decide +kernel
theorem dX5_laws_4 : decode cX5_laws 4 = .ok (.ifCond .eq 43, 3) := by decide +kernel
theorem dX5_laws_7 : decode cX5_laws 7 = .ok (.aload_n 0, 1) := by decide +kernel
theorem dX5_laws_8 : decode cX5_laws 8 = .ok (.getfield 46, 3) := by decide +kernel
theorem dX5_laws_11 : decode cX5_laws 11 = .ok (.aload_n 0, 1) := by decide +kernel
theorem dX5_laws_12 : decode cX5_laws 12 = .ok (.getfield 21, 3) := by decide +kernel
theorem dX5_laws_15 : decode cX5_laws 15 = .ok (.aload_n 0, 1) := by decide +kernel
theorem dX5_laws_16 : decode cX5_laws 16 = .ok (.getfield 25, 3) := by decide +kernel
theorem dX5_laws_19 : decode cX5_laws 19 = .ok (.invokevirtual 234, 3) := by decide +kernel
theorem dX5_laws_22 : decode cX5_laws 22 = .ok (.aload_n 0, 1) := by decide +kernel
theorem dX5_laws_23 : decode cX5_laws 23 = .ok (.getfield 46, 3) := by decide +kernel
theorem dX5_laws_26 : decode cX5_laws 26 = .ok (.aload_n 0, 1) := by decide +kernel
theorem dX5_laws_27 : decode cX5_laws 27 = .ok (.getfield 12, 3) := by decide +kernel
theorem dX5_laws_30 : decode cX5_laws 30 = .ok (.aload_n 0, 1) := by decide +kernel
theorem dX5_laws_31 : decode cX5_laws 31 = .ok (.getfield 106, 3) := by decide +kernel
theorem dX5_laws_34 : decode cX5_laws 34 = .ok (.aload_n 0, 1) := by decide +kernel
theorem dX5_laws_35 : decode cX5_laws 35 = .ok (.getfield 28, 3) := by decide +kernel
theorem dX5_laws_38 : decode cX5_laws 38 = .ok (.iconst (-1), 1) := by decide +kernel
theorem dX5_laws_39 : decode cX5_laws 39 = .ok (.invokevirtual 238, 3) := by decide +kernel
theorem dX5_laws_42 : decode cX5_laws 42 = .ok (.aload_n 0, 1) := by decide +kernel
theorem dX5_laws_43 : decode cX5_laws 43 = .ok (.iconst 0, 1) := by decide +kernel
theorem dX5_laws_44 : decode cX5_laws 44 = .ok (.putfield 66, 3) := by decide +kernel
theorem dX5_laws_47 : decode cX5_laws 47 = .ok (.aload_n 0, 1) := by decide +kernel
theorem dX5_laws_48 : decode cX5_laws 48 = .ok (.getfield 46, 3) := by decide +kernel
theorem dX5_laws_51 : decode cX5_laws 51 = .ok (.areturn, 1) := by decide +kernel
theorem dX5_undoable_0 : decode cX5_undoable 0 = .ok (.iload_n 1, 1) := by decide +kernel
theorem dX5_undoable_1 : decode cX5_undoable 1 = .ok (.tableswitch 60 0 4 #[35, 40, 45, 50, 55], 35) := by decide +kernel
theorem dX5_undoable_36 : decode cX5_undoable 36 = .ok (.aload_n 0, 1) := by decide +kernel
theorem dX5_undoable_37 : decode cX5_undoable 37 = .ok (.getfield 21, 3) := by decide +kernel
theorem dX5_undoable_40 : decode cX5_undoable 40 = .ok (.areturn, 1) := by decide +kernel
theorem dX5_undoable_41 : decode cX5_undoable 41 = .ok (.aload_n 0, 1) := by decide +kernel
theorem dX5_undoable_42 : decode cX5_undoable 42 = .ok (.getfield 25, 3) := by decide +kernel
theorem dX5_undoable_45 : decode cX5_undoable 45 = .ok (.areturn, 1) := by decide +kernel
theorem dX5_undoable_46 : decode cX5_undoable 46 = .ok (.aload_n 0, 1) := by decide +kernel
theorem dX5_undoable_47 : decode cX5_undoable 47 = .ok (.getfield 28, 3) := by decide +kernel
theorem dX5_undoable_50 : decode cX5_undoable 50 = .ok (.areturn, 1) := by decide +kernel
theorem dX5_undoable_51 : decode cX5_undoable 51 = .ok (.aload_n 0, 1) := by decide +kernel
theorem dX5_undoable_52 : decode cX5_undoable 52 = .ok (.getfield 31, 3) := by decide +kernel
theorem dX5_undoable_55 : decode cX5_undoable 55 = .ok (.areturn, 1) := by decide +kernel
theorem dX5_undoable_56 : decode cX5_undoable 56 = .ok (.aload_n 0, 1) := by decide +kernel
theorem dX5_undoable_57 : decode cX5_undoable 57 = .ok (.getfield 34, 3) := by decide +kernel
theorem dX5_undoable_60 : decode cX5_undoable 60 = .ok (.areturn, 1) := by decide +kernel
theorem dX5_undoable_61 : decode cX5_undoable 61 = .ok (.aconst_null, 1) := by decide +kernel
theorem dX5_undoable_62 : decode cX5_undoable 62 = .ok (.areturn, 1) := by decide +kernel
theorem dX5_found_0 : decode cX5_found 0 = .ok (.aload_n 0, 1) := by decide +kernel
theorem dX5_found_1 : decode cX5_found 1 = .ok (.iload_n 1, 1) := by decide +kernel
theorem dX5_found_2 : decode cX5_found 2 = .ok (.putfield 293, 3) := by decide +kernel
theorem dX5_found_5 : decode cX5_found 5 = .ok (.bipush (-10), 2) := by decide +kernel
theorem dX5_found_7 : decode cX5_found 7 = .ok (.iload_n 1, 1) := by decide +kernel
theorem dX5_found_8 : decode cX5_found 8 = .ok (.isub, 1) := by decide +kernel
theorem dX5_found_9 : decode cX5_found 9 = .ok (.ireturn, 1) := by decide +kernel
theorem dX5_itemFinding_0 : decode cX5_itemFinding 0 = .ok (.aload_n 0, 1) := by decide +kernel
theorem dX5_itemFinding_1 : decode cX5_itemFinding 1 = .ok (.invokevirtual 137, 3) := by decide +kernel
theorem dX5_itemFinding_4 : decode cX5_itemFinding 4 = .ok (.ifCond .eq 5, 3) := by decide +kernel
theorem dX5_itemFinding_7 : decode cX5_itemFinding 7 = .ok (.iconst 1, 1) := by decide +kernel
theorem dX5_itemFinding_8 : decode cX5_itemFinding 8 = .ok (.ireturn, 1) := by decide +kernel
theorem dX5_itemFinding_9 : decode cX5_itemFinding 9 = .ok (.aload_n 0, 1) := by decide +kernel
theorem dX5_itemFinding_10 : decode cX5_itemFinding 10 = .ok (.invokevirtual 276, 3) := by decide +kernel
theorem dX5_itemFinding_13 : decode cX5_itemFinding 13 = .ok (.iload_n 1, 1) := by decide +kernel
theorem dX5_itemFinding_14 : decode cX5_itemFinding 14 = .ok (.if_icmp .eq 5, 3) := by decide +kernel
theorem dX5_itemFinding_17 : decode cX5_itemFinding 17 = .ok (.iconst 3, 1) := by decide +kernel
theorem dX5_itemFinding_18 : decode cX5_itemFinding 18 = .ok (.ireturn, 1) := by decide +kernel
theorem dX5_itemFinding_19 : decode cX5_itemFinding 19 = .ok (.aload_n 0, 1) := by decide +kernel
theorem dX5_itemFinding_20 : decode cX5_itemFinding 20 = .ok (.iload_n 2, 1) := by decide +kernel
theorem dX5_itemFinding_21 : decode cX5_itemFinding 21 = .ok (.iconst 1, 1) := by decide +kernel
theorem dX5_itemFinding_22 : decode cX5_itemFinding 22 = .ok (.invokevirtual 279, 3) := by decide +kernel
theorem dX5_itemFinding_25 : decode cX5_itemFinding 25 = .ok (.ifCond .eq 7, 3) := by decide +kernel
theorem dX5_itemFinding_28 : decode cX5_itemFinding 28 = .ok (.iconst 0, 1) := by decide +kernel
theorem dX5_itemFinding_29 : decode cX5_itemFinding 29 = .ok (.goto 4, 3) := by decide +kernel
theorem dX5_itemFinding_32 : decode cX5_itemFinding 32 = .ok (.iconst 2, 1) := by decide +kernel
theorem dX5_itemFinding_33 : decode cX5_itemFinding 33 = .ok (.ireturn, 1) := by decide +kernel
theorem dX5_finesInCoin_0 : decode cX5_finesInCoin 0 = .ok (.aload_n 0, 1) := by decide +kernel
theorem dX5_finesInCoin_1 : decode cX5_finesInCoin 1 = .ok (.getfield 31, 3) := by decide +kernel
theorem dX5_finesInCoin_4 : decode cX5_finesInCoin 4 = .ok (.iload_n 2, 1) := by decide +kernel
theorem dX5_finesInCoin_5 : decode cX5_finesInCoin 5 = .ok (.invokevirtual 386, 3) := by decide +kernel
theorem dX5_finesInCoin_8 : decode cX5_finesInCoin 8 = .ok (.istore 4, 2) := by decide +kernel
theorem dX5_finesInCoin_10 : decode cX5_finesInCoin 10 = .ok (.aload_n 0, 1) := by decide +kernel
theorem dX5_finesInCoin_11 : decode cX5_finesInCoin 11 = .ok (.getfield 12, 3) := by decide +kernel
theorem dX5_finesInCoin_14 : decode cX5_finesInCoin 14 = .ok (.iload 4, 2) := by decide +kernel
theorem dX5_finesInCoin_16 : decode cX5_finesInCoin 16 = .ok (.invokevirtual 92, 3) := by decide +kernel
theorem dX5_finesInCoin_19 : decode cX5_finesInCoin 19 = .ok (.ifCond .ne 5, 3) := by decide +kernel
theorem dX5_finesInCoin_22 : decode cX5_finesInCoin 22 = .ok (.iconst 0, 1) := by decide +kernel
theorem dX5_finesInCoin_23 : decode cX5_finesInCoin 23 = .ok (.ireturn, 1) := by decide +kernel
theorem dX5_finesInCoin_24 : decode cX5_finesInCoin 24 = .ok (.aload_n 0, 1) := by decide +kernel
theorem dX5_finesInCoin_25 : decode cX5_finesInCoin 25 = .ok (.getfield 31, 3) := by decide +kernel
theorem dX5_finesInCoin_28 : decode cX5_finesInCoin 28 = .ok (.iload_n 2, 1) := by decide +kernel
theorem dX5_finesInCoin_29 : decode cX5_finesInCoin 29 = .ok (.invokevirtual 389, 3) := by decide +kernel
theorem dX5_finesInCoin_32 : decode cX5_finesInCoin 32 = .ok (.istore 5, 2) := by decide +kernel
theorem dX5_finesInCoin_34 : decode cX5_finesInCoin 34 = .ok (.iload 5, 2) := by decide +kernel
theorem dX5_finesInCoin_36 : decode cX5_finesInCoin 36 = .ok (.aload_n 0, 1) := by decide +kernel
theorem dX5_finesInCoin_37 : decode cX5_finesInCoin 37 = .ok (.getfield 31, 3) := by decide +kernel
theorem dX5_finesInCoin_40 : decode cX5_finesInCoin 40 = .ok (.iload_n 2, 1) := by decide +kernel
theorem dX5_finesInCoin_41 : decode cX5_finesInCoin 41 = .ok (.invokevirtual 392, 3) := by decide +kernel
theorem dX5_finesInCoin_44 : decode cX5_finesInCoin 44 = .ok (.iadd, 1) := by decide +kernel
theorem dX5_finesInCoin_45 : decode cX5_finesInCoin 45 = .ok (.iconst 1, 1) := by decide +kernel
theorem dX5_finesInCoin_46 : decode cX5_finesInCoin 46 = .ok (.isub, 1) := by decide +kernel
theorem dX5_finesInCoin_47 : decode cX5_finesInCoin 47 = .ok (.istore 6, 2) := by decide +kernel
theorem dX5_finesInCoin_49 : decode cX5_finesInCoin 49 = .ok (.aload_n 0, 1) := by decide +kernel
theorem dX5_finesInCoin_50 : decode cX5_finesInCoin 50 = .ok (.getfield 113, 3) := by decide +kernel
theorem dX5_finesInCoin_53 : decode cX5_finesInCoin 53 = .ok (.iconst 2, 1) := by decide +kernel
theorem dX5_finesInCoin_54 : decode cX5_finesInCoin 54 = .ok (.if_icmp .ne 8, 3) := by decide +kernel
theorem dX5_finesInCoin_57 : decode cX5_finesInCoin 57 = .ok (.iload 6, 2) := by decide +kernel
theorem dX5_finesInCoin_59 : decode cX5_finesInCoin 59 = .ok (.goto 5, 3) := by decide +kernel
theorem dX5_finesInCoin_62 : decode cX5_finesInCoin 62 = .ok (.iload 5, 2) := by decide +kernel
theorem dX5_finesInCoin_64 : decode cX5_finesInCoin 64 = .ok (.istore 7, 2) := by decide +kernel
theorem dX5_finesInCoin_66 : decode cX5_finesInCoin 66 = .ok (.aload_n 0, 1) := by decide +kernel
theorem dX5_finesInCoin_67 : decode cX5_finesInCoin 67 = .ok (.getfield 113, 3) := by decide +kernel
theorem dX5_finesInCoin_70 : decode cX5_finesInCoin 70 = .ok (.ifCond .ne 8, 3) := by decide +kernel
theorem dX5_finesInCoin_73 : decode cX5_finesInCoin 73 = .ok (.iload 5, 2) := by decide +kernel
theorem dX5_finesInCoin_75 : decode cX5_finesInCoin 75 = .ok (.goto 5, 3) := by decide +kernel
theorem dX5_finesInCoin_78 : decode cX5_finesInCoin 78 = .ok (.iload 6, 2) := by decide +kernel
theorem dX5_finesInCoin_80 : decode cX5_finesInCoin 80 = .ok (.istore 8, 2) := by decide +kernel
theorem dX5_finesInCoin_82 : decode cX5_finesInCoin 82 = .ok (.iconst 0, 1) := by decide +kernel
theorem dX5_finesInCoin_83 : decode cX5_finesInCoin 83 = .ok (.istore 9, 2) := by decide +kernel
theorem dX5_finesInCoin_85 : decode cX5_finesInCoin 85 = .ok (.iload 7, 2) := by decide +kernel
theorem dX5_finesInCoin_87 : decode cX5_finesInCoin 87 = .ok (.istore 10, 2) := by decide +kernel
theorem dX5_finesInCoin_89 : decode cX5_finesInCoin 89 = .ok (.iload 10, 2) := by decide +kernel
theorem dX5_finesInCoin_91 : decode cX5_finesInCoin 91 = .ok (.iload 8, 2) := by decide +kernel
theorem dX5_finesInCoin_93 : decode cX5_finesInCoin 93 = .ok (.if_icmp .gt 47, 3) := by decide +kernel
theorem dX5_finesInCoin_96 : decode cX5_finesInCoin 96 = .ok (.aload_n 1, 1) := by decide +kernel
theorem dX5_finesInCoin_97 : decode cX5_finesInCoin 97 = .ok (.iload 10, 2) := by decide +kernel
theorem dX5_finesInCoin_99 : decode cX5_finesInCoin 99 = .ok (.invokevirtual 163, 3) := by decide +kernel
theorem dX5_finesInCoin_102 : decode cX5_finesInCoin 102 = .ok (.iload 4, 2) := by decide +kernel
theorem dX5_finesInCoin_104 : decode cX5_finesInCoin 104 = .ok (.invokestatic 102, 3) := by decide +kernel
theorem dX5_finesInCoin_107 : decode cX5_finesInCoin 107 = .ok (.ifCond .ne 27, 3) := by decide +kernel
theorem dX5_finesInCoin_110 : decode cX5_finesInCoin 110 = .ok (.aload_n 1, 1) := by decide +kernel
theorem dX5_finesInCoin_111 : decode cX5_finesInCoin 111 = .ok (.iload 10, 2) := by decide +kernel
theorem dX5_finesInCoin_113 : decode cX5_finesInCoin 113 = .ok (.invokevirtual 395, 3) := by decide +kernel
theorem dX5_finesInCoin_116 : decode cX5_finesInCoin 116 = .ok (.iload_n 3, 1) := by decide +kernel
theorem dX5_finesInCoin_117 : decode cX5_finesInCoin 117 = .ok (.if_icmp .ne 17, 3) := by decide +kernel
theorem dX5_finesInCoin_120 : decode cX5_finesInCoin 120 = .ok (.iload 9, 2) := by decide +kernel
theorem dX5_finesInCoin_122 : decode cX5_finesInCoin 122 = .ok (.aload_n 0, 1) := by decide +kernel
theorem dX5_finesInCoin_123 : decode cX5_finesInCoin 123 = .ok (.getfield 12, 3) := by decide +kernel
theorem dX5_finesInCoin_126 : decode cX5_finesInCoin 126 = .ok (.iload 4, 2) := by decide +kernel
theorem dX5_finesInCoin_128 : decode cX5_finesInCoin 128 = .ok (.invokevirtual 96, 3) := by decide +kernel
theorem dX5_finesInCoin_131 : decode cX5_finesInCoin 131 = .ok (.iadd, 1) := by decide +kernel
theorem dX5_finesInCoin_132 : decode cX5_finesInCoin 132 = .ok (.istore 9, 2) := by decide +kernel
theorem dX5_finesInCoin_134 : decode cX5_finesInCoin 134 = .ok (.iinc 10 1, 3) := by decide +kernel
theorem dX5_finesInCoin_137 : decode cX5_finesInCoin 137 = .ok (.goto (-48), 3) := by decide +kernel
theorem dX5_finesInCoin_140 : decode cX5_finesInCoin 140 = .ok (.iload 9, 2) := by decide +kernel
theorem dX5_finesInCoin_142 : decode cX5_finesInCoin 142 = .ok (.ireturn, 1) := by decide +kernel
theorem dX5_daysAsSeen_0 : decode cX5_daysAsSeen 0 = .ok (.aload_n 0, 1) := by decide +kernel
theorem dX5_daysAsSeen_1 : decode cX5_daysAsSeen 1 = .ok (.invokevirtual 153, 3) := by decide +kernel
theorem dX5_daysAsSeen_4 : decode cX5_daysAsSeen 4 = .ok (.astore_n 1, 1) := by decide +kernel
theorem dX5_daysAsSeen_5 : decode cX5_daysAsSeen 5 = .ok (.ldc2_w 398, 3) := by decide +kernel
theorem dX5_daysAsSeen_8 : decode cX5_daysAsSeen 8 = .ok (.lstore_n 2, 1) := by decide +kernel
theorem dX5_daysAsSeen_9 : decode cX5_daysAsSeen 9 = .ok (.iconst 0, 1) := by decide +kernel
theorem dX5_daysAsSeen_10 : decode cX5_daysAsSeen 10 = .ok (.istore 4, 2) := by decide +kernel
theorem dX5_daysAsSeen_12 : decode cX5_daysAsSeen 12 = .ok (.iload 4, 2) := by decide +kernel
theorem dX5_daysAsSeen_14 : decode cX5_daysAsSeen 14 = .ok (.aload_n 0, 1) := by decide +kernel
theorem dX5_daysAsSeen_15 : decode cX5_daysAsSeen 15 = .ok (.getfield 37, 3) := by decide +kernel
theorem dX5_daysAsSeen_18 : decode cX5_daysAsSeen 18 = .ok (.invokevirtual 173, 3) := by decide +kernel
theorem dX5_daysAsSeen_21 : decode cX5_daysAsSeen 21 = .ok (.if_icmp .ge 72, 3) := by decide +kernel
theorem dX5_daysAsSeen_24 : decode cX5_daysAsSeen 24 = .ok (.aload_n 0, 1) := by decide +kernel
theorem dX5_daysAsSeen_25 : decode cX5_daysAsSeen 25 = .ok (.getfield 37, 3) := by decide +kernel
theorem dX5_daysAsSeen_28 : decode cX5_daysAsSeen 28 = .ok (.iload 4, 2) := by decide +kernel
theorem dX5_daysAsSeen_30 : decode cX5_daysAsSeen 30 = .ok (.invokevirtual 389, 3) := by decide +kernel
theorem dX5_daysAsSeen_33 : decode cX5_daysAsSeen 33 = .ok (.istore 5, 2) := by decide +kernel
theorem dX5_daysAsSeen_35 : decode cX5_daysAsSeen 35 = .ok (.aload_n 1, 1) := by decide +kernel
theorem dX5_daysAsSeen_36 : decode cX5_daysAsSeen 36 = .ok (.iload 5, 2) := by decide +kernel
theorem dX5_daysAsSeen_38 : decode cX5_daysAsSeen 38 = .ok (.invokevirtual 182, 3) := by decide +kernel
theorem dX5_daysAsSeen_41 : decode cX5_daysAsSeen 41 = .ok (.lstore 6, 2) := by decide +kernel
theorem dX5_daysAsSeen_43 : decode cX5_daysAsSeen 43 = .ok (.aload_n 0, 1) := by decide +kernel
theorem dX5_daysAsSeen_44 : decode cX5_daysAsSeen 44 = .ok (.getfield 12, 3) := by decide +kernel
theorem dX5_daysAsSeen_47 : decode cX5_daysAsSeen 47 = .ok (.iload 5, 2) := by decide +kernel
theorem dX5_daysAsSeen_49 : decode cX5_daysAsSeen 49 = .ok (.invokevirtual 92, 3) := by decide +kernel
theorem dX5_daysAsSeen_52 : decode cX5_daysAsSeen 52 = .ok (.ifCond .ne 8, 3) := by decide +kernel
theorem dX5_daysAsSeen_55 : decode cX5_daysAsSeen 55 = .ok (.lconst 0, 1) := by decide +kernel
theorem dX5_daysAsSeen_56 : decode cX5_daysAsSeen 56 = .ok (.lstore_n 2, 1) := by decide +kernel
theorem dX5_daysAsSeen_57 : decode cX5_daysAsSeen 57 = .ok (.goto 30, 3) := by decide +kernel
theorem dX5_daysAsSeen_60 : decode cX5_daysAsSeen 60 = .ok (.lload_n 2, 1) := by decide +kernel
theorem dX5_daysAsSeen_61 : decode cX5_daysAsSeen 61 = .ok (.aload_n 0, 1) := by decide +kernel
theorem dX5_daysAsSeen_62 : decode cX5_daysAsSeen 62 = .ok (.getfield 37, 3) := by decide +kernel
theorem dX5_daysAsSeen_65 : decode cX5_daysAsSeen 65 = .ok (.iload 4, 2) := by decide +kernel
theorem dX5_daysAsSeen_67 : decode cX5_daysAsSeen 67 = .ok (.invokevirtual 386, 3) := by decide +kernel
theorem dX5_daysAsSeen_70 : decode cX5_daysAsSeen 70 = .ok (.iconst 1, 1) := by decide +kernel
theorem dX5_daysAsSeen_71 : decode cX5_daysAsSeen 71 = .ok (.if_icmp .ne 8, 3) := by decide +kernel
theorem dX5_daysAsSeen_74 : decode cX5_daysAsSeen 74 = .ok (.lload 6, 2) := by decide +kernel
theorem dX5_daysAsSeen_76 : decode cX5_daysAsSeen 76 = .ok (.goto 9, 3) := by decide +kernel
theorem dX5_daysAsSeen_79 : decode cX5_daysAsSeen 79 = .ok (.lload 6, 2) := by decide +kernel
theorem dX5_daysAsSeen_81 : decode cX5_daysAsSeen 81 = .ok (.ldc2_w 400, 3) := by decide +kernel
theorem dX5_daysAsSeen_84 : decode cX5_daysAsSeen 84 = .ok (.lxor, 1) := by decide +kernel
theorem dX5_daysAsSeen_85 : decode cX5_daysAsSeen 85 = .ok (.land, 1) := by decide +kernel
theorem dX5_daysAsSeen_86 : decode cX5_daysAsSeen 86 = .ok (.lstore_n 2, 1) := by decide +kernel
theorem dX5_daysAsSeen_87 : decode cX5_daysAsSeen 87 = .ok (.iinc 4 1, 3) := by decide +kernel
theorem dX5_daysAsSeen_90 : decode cX5_daysAsSeen 90 = .ok (.goto (-78), 3) := by decide +kernel
theorem dX5_daysAsSeen_93 : decode cX5_daysAsSeen 93 = .ok (.lload_n 2, 1) := by decide +kernel
theorem dX5_daysAsSeen_94 : decode cX5_daysAsSeen 94 = .ok (.lreturn, 1) := by decide +kernel
theorem dX5_agreesWithBook_0 : decode cX5_agreesWithBook 0 = .ok (.iconst 0, 1) := by decide +kernel
theorem dX5_agreesWithBook_1 : decode cX5_agreesWithBook 1 = .ok (.istore_n 2, 1) := by decide +kernel
theorem dX5_agreesWithBook_2 : decode cX5_agreesWithBook 2 = .ok (.iload_n 2, 1) := by decide +kernel
theorem dX5_agreesWithBook_3 : decode cX5_agreesWithBook 3 = .ok (.aload_n 0, 1) := by decide +kernel
theorem dX5_agreesWithBook_4 : decode cX5_agreesWithBook 4 = .ok (.getfield 40, 3) := by decide +kernel
theorem dX5_agreesWithBook_7 : decode cX5_agreesWithBook 7 = .ok (.invokevirtual 173, 3) := by decide +kernel
theorem dX5_agreesWithBook_10 : decode cX5_agreesWithBook 10 = .ok (.if_icmp .ge 58, 3) := by decide +kernel
theorem dX5_agreesWithBook_13 : decode cX5_agreesWithBook 13 = .ok (.aload_n 0, 1) := by decide +kernel
theorem dX5_agreesWithBook_14 : decode cX5_agreesWithBook 14 = .ok (.getfield 40, 3) := by decide +kernel
theorem dX5_agreesWithBook_17 : decode cX5_agreesWithBook 17 = .ok (.iload_n 2, 1) := by decide +kernel
theorem dX5_agreesWithBook_18 : decode cX5_agreesWithBook 18 = .ok (.invokevirtual 386, 3) := by decide +kernel
theorem dX5_agreesWithBook_21 : decode cX5_agreesWithBook 21 = .ok (.istore_n 3, 1) := by decide +kernel
theorem dX5_agreesWithBook_22 : decode cX5_agreesWithBook 22 = .ok (.aload_n 0, 1) := by decide +kernel
theorem dX5_agreesWithBook_23 : decode cX5_agreesWithBook 23 = .ok (.getfield 12, 3) := by decide +kernel
theorem dX5_agreesWithBook_26 : decode cX5_agreesWithBook 26 = .ok (.iload_n 3, 1) := by decide +kernel
theorem dX5_agreesWithBook_27 : decode cX5_agreesWithBook 27 = .ok (.invokevirtual 92, 3) := by decide +kernel
theorem dX5_agreesWithBook_30 : decode cX5_agreesWithBook 30 = .ok (.ifCond .eq 30, 3) := by decide +kernel
theorem dX5_agreesWithBook_33 : decode cX5_agreesWithBook 33 = .ok (.aload_n 1, 1) := by decide +kernel
theorem dX5_agreesWithBook_34 : decode cX5_agreesWithBook 34 = .ok (.aload_n 0, 1) := by decide +kernel
theorem dX5_agreesWithBook_35 : decode cX5_agreesWithBook 35 = .ok (.getfield 40, 3) := by decide +kernel
theorem dX5_agreesWithBook_38 : decode cX5_agreesWithBook 38 = .ok (.iload_n 2, 1) := by decide +kernel
theorem dX5_agreesWithBook_39 : decode cX5_agreesWithBook 39 = .ok (.invokevirtual 389, 3) := by decide +kernel
theorem dX5_agreesWithBook_42 : decode cX5_agreesWithBook 42 = .ok (.invokevirtual 163, 3) := by decide +kernel
theorem dX5_agreesWithBook_45 : decode cX5_agreesWithBook 45 = .ok (.iload_n 3, 1) := by decide +kernel
theorem dX5_agreesWithBook_46 : decode cX5_agreesWithBook 46 = .ok (.invokestatic 102, 3) := by decide +kernel
theorem dX5_agreesWithBook_49 : decode cX5_agreesWithBook 49 = .ok (.aload_n 0, 1) := by decide +kernel
theorem dX5_agreesWithBook_50 : decode cX5_agreesWithBook 50 = .ok (.getfield 40, 3) := by decide +kernel
theorem dX5_agreesWithBook_53 : decode cX5_agreesWithBook 53 = .ok (.iload_n 2, 1) := by decide +kernel
theorem dX5_agreesWithBook_54 : decode cX5_agreesWithBook 54 = .ok (.invokevirtual 392, 3) := by decide +kernel
theorem dX5_agreesWithBook_57 : decode cX5_agreesWithBook 57 = .ok (.if_icmp .eq 5, 3) := by decide +kernel
theorem dX5_agreesWithBook_60 : decode cX5_agreesWithBook 60 = .ok (.iconst 0, 1) := by decide +kernel
theorem dX5_agreesWithBook_61 : decode cX5_agreesWithBook 61 = .ok (.ireturn, 1) := by decide +kernel
theorem dX5_agreesWithBook_62 : decode cX5_agreesWithBook 62 = .ok (.iinc 2 1, 3) := by decide +kernel
theorem dX5_agreesWithBook_65 : decode cX5_agreesWithBook 65 = .ok (.goto (-63), 3) := by decide +kernel
theorem dX5_agreesWithBook_68 : decode cX5_agreesWithBook 68 = .ok (.iconst 1, 1) := by decide +kernel
theorem dX5_agreesWithBook_69 : decode cX5_agreesWithBook 69 = .ok (.ireturn, 1) := by decide +kernel
theorem dX5_bit_0 : decode cX5_bit 0 = .ok (.iload_n 0, 1) := by decide +kernel
theorem dX5_bit_1 : decode cX5_bit 1 = .ok (.iload_n 1, 1) := by decide +kernel
theorem dX5_bit_2 : decode cX5_bit 2 = .ok (.iushr, 1) := by decide +kernel
theorem dX5_bit_3 : decode cX5_bit 3 = .ok (.iconst 1, 1) := by decide +kernel
theorem dX5_bit_4 : decode cX5_bit 4 = .ok (.iand, 1) := by decide +kernel
theorem dX5_bit_5 : decode cX5_bit 5 = .ok (.ireturn, 1) := by decide +kernel
theorem dX5_holdsDay_0 : decode cX5_holdsDay 0 = .ok (.lload_n 0, 1) := by decide +kernel
theorem dX5_holdsDay_1 : decode cX5_holdsDay 1 = .ok (.iload_n 2, 1) := by decide +kernel
theorem dX5_holdsDay_2 : decode cX5_holdsDay 2 = .ok (.lushr, 1) := by decide +kernel
theorem dX5_holdsDay_3 : decode cX5_holdsDay 3 = .ok (.lconst 1, 1) := by decide +kernel
theorem dX5_holdsDay_4 : decode cX5_holdsDay 4 = .ok (.land, 1) := by decide +kernel
theorem dX5_holdsDay_5 : decode cX5_holdsDay 5 = .ok (.lconst 1, 1) := by decide +kernel
theorem dX5_holdsDay_6 : decode cX5_holdsDay 6 = .ok (.lcmp, 1) := by decide +kernel
theorem dX5_holdsDay_7 : decode cX5_holdsDay 7 = .ok (.ifCond .ne 7, 3) := by decide +kernel
theorem dX5_holdsDay_10 : decode cX5_holdsDay 10 = .ok (.iconst 1, 1) := by decide +kernel
theorem dX5_holdsDay_11 : decode cX5_holdsDay 11 = .ok (.goto 4, 3) := by decide +kernel
theorem dX5_holdsDay_14 : decode cX5_holdsDay 14 = .ok (.iconst 0, 1) := by decide +kernel
theorem dX5_holdsDay_15 : decode cX5_holdsDay 15 = .ok (.ireturn, 1) := by decide +kernel
theorem dX5_firstDay_0 : decode cX5_firstDay 0 = .ok (.iload_n 2, 1) := by decide +kernel
theorem dX5_firstDay_1 : decode cX5_firstDay 1 = .ok (.istore_n 3, 1) := by decide +kernel
theorem dX5_firstDay_2 : decode cX5_firstDay 2 = .ok (.iload_n 3, 1) := by decide +kernel
theorem dX5_firstDay_3 : decode cX5_firstDay 3 = .ok (.bipush 40, 2) := by decide +kernel
theorem dX5_firstDay_5 : decode cX5_firstDay 5 = .ok (.if_icmp .ge 19, 3) := by decide +kernel
theorem dX5_firstDay_8 : decode cX5_firstDay 8 = .ok (.lload_n 0, 1) := by decide +kernel
theorem dX5_firstDay_9 : decode cX5_firstDay 9 = .ok (.iload_n 3, 1) := by decide +kernel
theorem dX5_firstDay_10 : decode cX5_firstDay 10 = .ok (.invokestatic 402, 3) := by decide +kernel
theorem dX5_firstDay_13 : decode cX5_firstDay 13 = .ok (.ifCond .eq 5, 3) := by decide +kernel
theorem dX5_firstDay_16 : decode cX5_firstDay 16 = .ok (.iload_n 3, 1) := by decide +kernel
theorem dX5_firstDay_17 : decode cX5_firstDay 17 = .ok (.ireturn, 1) := by decide +kernel
theorem dX5_firstDay_18 : decode cX5_firstDay 18 = .ok (.iinc 3 1, 3) := by decide +kernel
theorem dX5_firstDay_21 : decode cX5_firstDay 21 = .ok (.goto (-19), 3) := by decide +kernel
theorem dX5_firstDay_24 : decode cX5_firstDay 24 = .ok (.iconst (-1), 1) := by decide +kernel
theorem dX5_firstDay_25 : decode cX5_firstDay 25 = .ok (.ireturn, 1) := by decide +kernel
theorem dX5_dayInOrder_0 : decode cX5_dayInOrder 0 = .ok (.iconst 0, 1) := by decide +kernel
theorem dX5_dayInOrder_1 : decode cX5_dayInOrder 1 = .ok (.istore_n 3, 1) := by decide +kernel
theorem dX5_dayInOrder_2 : decode cX5_dayInOrder 2 = .ok (.iconst 0, 1) := by decide +kernel
theorem dX5_dayInOrder_3 : decode cX5_dayInOrder 3 = .ok (.istore 4, 2) := by decide +kernel
theorem dX5_dayInOrder_5 : decode cX5_dayInOrder 5 = .ok (.iload 4, 2) := by decide +kernel
theorem dX5_dayInOrder_7 : decode cX5_dayInOrder 7 = .ok (.bipush 40, 2) := by decide +kernel
theorem dX5_dayInOrder_9 : decode cX5_dayInOrder 9 = .ok (.if_icmp .ge 29, 3) := by decide +kernel
theorem dX5_dayInOrder_12 : decode cX5_dayInOrder 12 = .ok (.lload_n 0, 1) := by decide +kernel
theorem dX5_dayInOrder_13 : decode cX5_dayInOrder 13 = .ok (.iload 4, 2) := by decide +kernel
theorem dX5_dayInOrder_15 : decode cX5_dayInOrder 15 = .ok (.invokestatic 402, 3) := by decide +kernel
theorem dX5_dayInOrder_18 : decode cX5_dayInOrder 18 = .ok (.ifCond .eq 14, 3) := by decide +kernel
theorem dX5_dayInOrder_21 : decode cX5_dayInOrder 21 = .ok (.iload_n 3, 1) := by decide +kernel
theorem dX5_dayInOrder_22 : decode cX5_dayInOrder 22 = .ok (.iload_n 2, 1) := by decide +kernel
theorem dX5_dayInOrder_23 : decode cX5_dayInOrder 23 = .ok (.if_icmp .ne 6, 3) := by decide +kernel
theorem dX5_dayInOrder_26 : decode cX5_dayInOrder 26 = .ok (.iload 4, 2) := by decide +kernel
theorem dX5_dayInOrder_28 : decode cX5_dayInOrder 28 = .ok (.ireturn, 1) := by decide +kernel
theorem dX5_dayInOrder_29 : decode cX5_dayInOrder 29 = .ok (.iinc 3 1, 3) := by decide +kernel
theorem dX5_dayInOrder_32 : decode cX5_dayInOrder 32 = .ok (.iinc 4 1, 3) := by decide +kernel
theorem dX5_dayInOrder_35 : decode cX5_dayInOrder 35 = .ok (.goto (-30), 3) := by decide +kernel
theorem dX5_dayInOrder_38 : decode cX5_dayInOrder 38 = .ok (.iconst (-1), 1) := by decide +kernel
theorem dX5_dayInOrder_39 : decode cX5_dayInOrder 39 = .ok (.ireturn, 1) := by decide +kernel
theorem dX5_closedDays_0 : decode cX5_closedDays 0 = .ok (.iconst 0, 1) := by decide +kernel
theorem dX5_closedDays_1 : decode cX5_closedDays 1 = .ok (.istore 4, 2) := by decide +kernel
theorem dX5_closedDays_3 : decode cX5_closedDays 3 = .ok (.iload_n 2, 1) := by decide +kernel
theorem dX5_closedDays_4 : decode cX5_closedDays 4 = .ok (.istore 5, 2) := by decide +kernel
theorem dX5_closedDays_6 : decode cX5_closedDays 6 = .ok (.iload 5, 2) := by decide +kernel
theorem dX5_closedDays_8 : decode cX5_closedDays 8 = .ok (.iload_n 2, 1) := by decide +kernel
theorem dX5_closedDays_9 : decode cX5_closedDays 9 = .ok (.iload_n 3, 1) := by decide +kernel
theorem dX5_closedDays_10 : decode cX5_closedDays 10 = .ok (.iadd, 1) := by decide +kernel
theorem dX5_closedDays_11 : decode cX5_closedDays 11 = .ok (.if_icmp .ge 21, 3) := by decide +kernel
theorem dX5_closedDays_14 : decode cX5_closedDays 14 = .ok (.lload_n 0, 1) := by decide +kernel
theorem dX5_closedDays_15 : decode cX5_closedDays 15 = .ok (.iload 5, 2) := by decide +kernel
theorem dX5_closedDays_17 : decode cX5_closedDays 17 = .ok (.invokestatic 402, 3) := by decide +kernel
theorem dX5_closedDays_20 : decode cX5_closedDays 20 = .ok (.ifCond .ne 6, 3) := by decide +kernel
theorem dX5_closedDays_23 : decode cX5_closedDays 23 = .ok (.iinc 4 1, 3) := by decide +kernel
theorem dX5_closedDays_26 : decode cX5_closedDays 26 = .ok (.iinc 5 1, 3) := by decide +kernel
theorem dX5_closedDays_29 : decode cX5_closedDays 29 = .ok (.goto (-23), 3) := by decide +kernel
theorem dX5_closedDays_32 : decode cX5_closedDays 32 = .ok (.iload 4, 2) := by decide +kernel
theorem dX5_closedDays_34 : decode cX5_closedDays 34 = .ok (.ireturn, 1) := by decide +kernel
theorem dX5_inLowestTerms_0 : decode cX5_inLowestTerms 0 = .ok (.lload_n 0, 1) := by decide +kernel
theorem dX5_inLowestTerms_1 : decode cX5_inLowestTerms 1 = .ok (.lstore 5, 2) := by decide +kernel
theorem dX5_inLowestTerms_3 : decode cX5_inLowestTerms 3 = .ok (.lload_n 2, 1) := by decide +kernel
theorem dX5_inLowestTerms_4 : decode cX5_inLowestTerms 4 = .ok (.lstore 7, 2) := by decide +kernel
theorem dX5_inLowestTerms_6 : decode cX5_inLowestTerms 6 = .ok (.iconst 0, 1) := by decide +kernel
theorem dX5_inLowestTerms_7 : decode cX5_inLowestTerms 7 = .ok (.istore 9, 2) := by decide +kernel
theorem dX5_inLowestTerms_9 : decode cX5_inLowestTerms 9 = .ok (.iload 9, 2) := by decide +kernel
theorem dX5_inLowestTerms_11 : decode cX5_inLowestTerms 11 = .ok (.bipush 62, 2) := by decide +kernel
theorem dX5_inLowestTerms_13 : decode cX5_inLowestTerms 13 = .ok (.if_icmp .ge 39, 3) := by decide +kernel
theorem dX5_inLowestTerms_16 : decode cX5_inLowestTerms 16 = .ok (.lload 5, 2) := by decide +kernel
theorem dX5_inLowestTerms_18 : decode cX5_inLowestTerms 18 = .ok (.lconst 1, 1) := by decide +kernel
theorem dX5_inLowestTerms_19 : decode cX5_inLowestTerms 19 = .ok (.land, 1) := by decide +kernel
theorem dX5_inLowestTerms_20 : decode cX5_inLowestTerms 20 = .ok (.lconst 0, 1) := by decide +kernel
theorem dX5_inLowestTerms_21 : decode cX5_inLowestTerms 21 = .ok (.lcmp, 1) := by decide +kernel
theorem dX5_inLowestTerms_22 : decode cX5_inLowestTerms 22 = .ok (.ifCond .ne 30, 3) := by decide +kernel
theorem dX5_inLowestTerms_25 : decode cX5_inLowestTerms 25 = .ok (.lload 7, 2) := by decide +kernel
theorem dX5_inLowestTerms_27 : decode cX5_inLowestTerms 27 = .ok (.lconst 1, 1) := by decide +kernel
theorem dX5_inLowestTerms_28 : decode cX5_inLowestTerms 28 = .ok (.land, 1) := by decide +kernel
theorem dX5_inLowestTerms_29 : decode cX5_inLowestTerms 29 = .ok (.lconst 0, 1) := by decide +kernel
theorem dX5_inLowestTerms_30 : decode cX5_inLowestTerms 30 = .ok (.lcmp, 1) := by decide +kernel
theorem dX5_inLowestTerms_31 : decode cX5_inLowestTerms 31 = .ok (.ifCond .ne 21, 3) := by decide +kernel
theorem dX5_inLowestTerms_34 : decode cX5_inLowestTerms 34 = .ok (.lload 5, 2) := by decide +kernel
theorem dX5_inLowestTerms_36 : decode cX5_inLowestTerms 36 = .ok (.iconst 1, 1) := by decide +kernel
theorem dX5_inLowestTerms_37 : decode cX5_inLowestTerms 37 = .ok (.lshr, 1) := by decide +kernel
theorem dX5_inLowestTerms_38 : decode cX5_inLowestTerms 38 = .ok (.lstore 5, 2) := by decide +kernel
theorem dX5_inLowestTerms_40 : decode cX5_inLowestTerms 40 = .ok (.lload 7, 2) := by decide +kernel
theorem dX5_inLowestTerms_42 : decode cX5_inLowestTerms 42 = .ok (.iconst 1, 1) := by decide +kernel
theorem dX5_inLowestTerms_43 : decode cX5_inLowestTerms 43 = .ok (.lshr, 1) := by decide +kernel
theorem dX5_inLowestTerms_44 : decode cX5_inLowestTerms 44 = .ok (.lstore 7, 2) := by decide +kernel
theorem dX5_inLowestTerms_46 : decode cX5_inLowestTerms 46 = .ok (.iinc 9 1, 3) := by decide +kernel
theorem dX5_inLowestTerms_49 : decode cX5_inLowestTerms 49 = .ok (.goto (-40), 3) := by decide +kernel
theorem dX5_inLowestTerms_52 : decode cX5_inLowestTerms 52 = .ok (.iload 4, 2) := by decide +kernel
theorem dX5_inLowestTerms_54 : decode cX5_inLowestTerms 54 = .ok (.ifCond .ne 8, 3) := by decide +kernel
theorem dX5_inLowestTerms_57 : decode cX5_inLowestTerms 57 = .ok (.lload 5, 2) := by decide +kernel
theorem dX5_inLowestTerms_59 : decode cX5_inLowestTerms 59 = .ok (.goto 5, 3) := by decide +kernel
theorem dX5_inLowestTerms_62 : decode cX5_inLowestTerms 62 = .ok (.lload 7, 2) := by decide +kernel
theorem dX5_inLowestTerms_64 : decode cX5_inLowestTerms 64 = .ok (.lreturn, 1) := by decide +kernel
theorem dJ6_bitCount_0f7a4_0 : decode cJ6_bitCount_0f7a4 0 = .ok (.iload_n 0, 1) := by decide +kernel
theorem dJ6_bitCount_0f7a4_1 : decode cJ6_bitCount_0f7a4 1 = .ok (.iload_n 0, 1) := by decide +kernel
theorem dJ6_bitCount_0f7a4_2 : decode cJ6_bitCount_0f7a4 2 = .ok (.iconst 1, 1) := by decide +kernel
theorem dJ6_bitCount_0f7a4_3 : decode cJ6_bitCount_0f7a4 3 = .ok (.iushr, 1) := by decide +kernel
theorem dJ6_bitCount_0f7a4_4 : decode cJ6_bitCount_0f7a4 4 = .ok (.ldc_w 265, 3) := by decide +kernel
theorem dJ6_bitCount_0f7a4_7 : decode cJ6_bitCount_0f7a4 7 = .ok (.iand, 1) := by decide +kernel
theorem dJ6_bitCount_0f7a4_8 : decode cJ6_bitCount_0f7a4 8 = .ok (.isub, 1) := by decide +kernel
theorem dJ6_bitCount_0f7a4_9 : decode cJ6_bitCount_0f7a4 9 = .ok (.istore_n 0, 1) := by decide +kernel
theorem dJ6_bitCount_0f7a4_10 : decode cJ6_bitCount_0f7a4 10 = .ok (.iload_n 0, 1) := by decide +kernel
theorem dJ6_bitCount_0f7a4_11 : decode cJ6_bitCount_0f7a4 11 = .ok (.ldc_w 266, 3) := by decide +kernel
theorem dJ6_bitCount_0f7a4_14 : decode cJ6_bitCount_0f7a4 14 = .ok (.iand, 1) := by decide +kernel
theorem dJ6_bitCount_0f7a4_15 : decode cJ6_bitCount_0f7a4 15 = .ok (.iload_n 0, 1) := by decide +kernel
theorem dJ6_bitCount_0f7a4_16 : decode cJ6_bitCount_0f7a4 16 = .ok (.iconst 2, 1) := by decide +kernel
theorem dJ6_bitCount_0f7a4_17 : decode cJ6_bitCount_0f7a4 17 = .ok (.iushr, 1) := by decide +kernel
theorem dJ6_bitCount_0f7a4_18 : decode cJ6_bitCount_0f7a4 18 = .ok (.ldc_w 266, 3) := by decide +kernel
theorem dJ6_bitCount_0f7a4_21 : decode cJ6_bitCount_0f7a4 21 = .ok (.iand, 1) := by decide +kernel
theorem dJ6_bitCount_0f7a4_22 : decode cJ6_bitCount_0f7a4 22 = .ok (.iadd, 1) := by decide +kernel
theorem dJ6_bitCount_0f7a4_23 : decode cJ6_bitCount_0f7a4 23 = .ok (.istore_n 0, 1) := by decide +kernel
theorem dJ6_bitCount_0f7a4_24 : decode cJ6_bitCount_0f7a4 24 = .ok (.iload_n 0, 1) := by decide +kernel
theorem dJ6_bitCount_0f7a4_25 : decode cJ6_bitCount_0f7a4 25 = .ok (.iload_n 0, 1) := by decide +kernel
theorem dJ6_bitCount_0f7a4_26 : decode cJ6_bitCount_0f7a4 26 = .ok (.iconst 4, 1) := by decide +kernel
theorem dJ6_bitCount_0f7a4_27 : decode cJ6_bitCount_0f7a4 27 = .ok (.iushr, 1) := by decide +kernel
theorem dJ6_bitCount_0f7a4_28 : decode cJ6_bitCount_0f7a4 28 = .ok (.iadd, 1) := by decide +kernel
theorem dJ6_bitCount_0f7a4_29 : decode cJ6_bitCount_0f7a4 29 = .ok (.ldc_w 267, 3) := by decide +kernel
theorem dJ6_bitCount_0f7a4_32 : decode cJ6_bitCount_0f7a4 32 = .ok (.iand, 1) := by decide +kernel
theorem dJ6_bitCount_0f7a4_33 : decode cJ6_bitCount_0f7a4 33 = .ok (.istore_n 0, 1) := by decide +kernel
theorem dJ6_bitCount_0f7a4_34 : decode cJ6_bitCount_0f7a4 34 = .ok (.iload_n 0, 1) := by decide +kernel
theorem dJ6_bitCount_0f7a4_35 : decode cJ6_bitCount_0f7a4 35 = .ok (.iload_n 0, 1) := by decide +kernel
theorem dJ6_bitCount_0f7a4_36 : decode cJ6_bitCount_0f7a4 36 = .ok (.bipush 8, 2) := by decide +kernel
theorem dJ6_bitCount_0f7a4_38 : decode cJ6_bitCount_0f7a4 38 = .ok (.iushr, 1) := by decide +kernel
theorem dJ6_bitCount_0f7a4_39 : decode cJ6_bitCount_0f7a4 39 = .ok (.iadd, 1) := by decide +kernel
theorem dJ6_bitCount_0f7a4_40 : decode cJ6_bitCount_0f7a4 40 = .ok (.istore_n 0, 1) := by decide +kernel
theorem dJ6_bitCount_0f7a4_41 : decode cJ6_bitCount_0f7a4 41 = .ok (.iload_n 0, 1) := by decide +kernel
theorem dJ6_bitCount_0f7a4_42 : decode cJ6_bitCount_0f7a4 42 = .ok (.iload_n 0, 1) := by decide +kernel
theorem dJ6_bitCount_0f7a4_43 : decode cJ6_bitCount_0f7a4 43 = .ok (.bipush 16, 2) := by decide +kernel
theorem dJ6_bitCount_0f7a4_45 : decode cJ6_bitCount_0f7a4 45 = .ok (.iushr, 1) := by decide +kernel
theorem dJ6_bitCount_0f7a4_46 : decode cJ6_bitCount_0f7a4 46 = .ok (.iadd, 1) := by decide +kernel
theorem dJ6_bitCount_0f7a4_47 : decode cJ6_bitCount_0f7a4 47 = .ok (.istore_n 0, 1) := by decide +kernel
theorem dJ6_bitCount_0f7a4_48 : decode cJ6_bitCount_0f7a4 48 = .ok (.iload_n 0, 1) := by decide +kernel
theorem dJ6_bitCount_0f7a4_49 : decode cJ6_bitCount_0f7a4 49 = .ok (.bipush 63, 2) := by decide +kernel
theorem dJ6_bitCount_0f7a4_51 : decode cJ6_bitCount_0f7a4 51 = .ok (.iand, 1) := by decide +kernel
theorem dJ6_bitCount_0f7a4_52 : decode cJ6_bitCount_0f7a4 52 = .ok (.ireturn, 1) := by decide +kernel
theorem dJ13_bitCount_95d88_0 : decode cJ13_bitCount_95d88 0 = .ok (.lload_n 0, 1) := by decide +kernel
theorem dJ13_bitCount_95d88_1 : decode cJ13_bitCount_95d88 1 = .ok (.lload_n 0, 1) := by decide +kernel
theorem dJ13_bitCount_95d88_2 : decode cJ13_bitCount_95d88 2 = .ok (.iconst 1, 1) := by decide +kernel
theorem dJ13_bitCount_95d88_3 : decode cJ13_bitCount_95d88 3 = .ok (.lushr, 1) := by decide +kernel
theorem dJ13_bitCount_95d88_4 : decode cJ13_bitCount_95d88 4 = .ok (.ldc2_w 314, 3) := by decide +kernel
theorem dJ13_bitCount_95d88_7 : decode cJ13_bitCount_95d88 7 = .ok (.land, 1) := by decide +kernel
theorem dJ13_bitCount_95d88_8 : decode cJ13_bitCount_95d88 8 = .ok (.lsub, 1) := by decide +kernel
theorem dJ13_bitCount_95d88_9 : decode cJ13_bitCount_95d88 9 = .ok (.lstore_n 0, 1) := by decide +kernel
theorem dJ13_bitCount_95d88_10 : decode cJ13_bitCount_95d88 10 = .ok (.lload_n 0, 1) := by decide +kernel
theorem dJ13_bitCount_95d88_11 : decode cJ13_bitCount_95d88 11 = .ok (.ldc2_w 316, 3) := by decide +kernel
theorem dJ13_bitCount_95d88_14 : decode cJ13_bitCount_95d88 14 = .ok (.land, 1) := by decide +kernel
theorem dJ13_bitCount_95d88_15 : decode cJ13_bitCount_95d88 15 = .ok (.lload_n 0, 1) := by decide +kernel
theorem dJ13_bitCount_95d88_16 : decode cJ13_bitCount_95d88 16 = .ok (.iconst 2, 1) := by decide +kernel
theorem dJ13_bitCount_95d88_17 : decode cJ13_bitCount_95d88 17 = .ok (.lushr, 1) := by decide +kernel
theorem dJ13_bitCount_95d88_18 : decode cJ13_bitCount_95d88 18 = .ok (.ldc2_w 316, 3) := by decide +kernel
theorem dJ13_bitCount_95d88_21 : decode cJ13_bitCount_95d88 21 = .ok (.land, 1) := by decide +kernel
theorem dJ13_bitCount_95d88_22 : decode cJ13_bitCount_95d88 22 = .ok (.ladd, 1) := by decide +kernel
theorem dJ13_bitCount_95d88_23 : decode cJ13_bitCount_95d88 23 = .ok (.lstore_n 0, 1) := by decide +kernel
theorem dJ13_bitCount_95d88_24 : decode cJ13_bitCount_95d88 24 = .ok (.lload_n 0, 1) := by decide +kernel
theorem dJ13_bitCount_95d88_25 : decode cJ13_bitCount_95d88 25 = .ok (.lload_n 0, 1) := by decide +kernel
theorem dJ13_bitCount_95d88_26 : decode cJ13_bitCount_95d88 26 = .ok (.iconst 4, 1) := by decide +kernel
theorem dJ13_bitCount_95d88_27 : decode cJ13_bitCount_95d88 27 = .ok (.lushr, 1) := by decide +kernel
theorem dJ13_bitCount_95d88_28 : decode cJ13_bitCount_95d88 28 = .ok (.ladd, 1) := by decide +kernel
theorem dJ13_bitCount_95d88_29 : decode cJ13_bitCount_95d88 29 = .ok (.ldc2_w 318, 3) := by decide +kernel
theorem dJ13_bitCount_95d88_32 : decode cJ13_bitCount_95d88 32 = .ok (.land, 1) := by decide +kernel
theorem dJ13_bitCount_95d88_33 : decode cJ13_bitCount_95d88 33 = .ok (.lstore_n 0, 1) := by decide +kernel
theorem dJ13_bitCount_95d88_34 : decode cJ13_bitCount_95d88 34 = .ok (.lload_n 0, 1) := by decide +kernel
theorem dJ13_bitCount_95d88_35 : decode cJ13_bitCount_95d88 35 = .ok (.lload_n 0, 1) := by decide +kernel
theorem dJ13_bitCount_95d88_36 : decode cJ13_bitCount_95d88 36 = .ok (.bipush 8, 2) := by decide +kernel
theorem dJ13_bitCount_95d88_38 : decode cJ13_bitCount_95d88 38 = .ok (.lushr, 1) := by decide +kernel
theorem dJ13_bitCount_95d88_39 : decode cJ13_bitCount_95d88 39 = .ok (.ladd, 1) := by decide +kernel
theorem dJ13_bitCount_95d88_40 : decode cJ13_bitCount_95d88 40 = .ok (.lstore_n 0, 1) := by decide +kernel
theorem dJ13_bitCount_95d88_41 : decode cJ13_bitCount_95d88 41 = .ok (.lload_n 0, 1) := by decide +kernel
theorem dJ13_bitCount_95d88_42 : decode cJ13_bitCount_95d88 42 = .ok (.lload_n 0, 1) := by decide +kernel
theorem dJ13_bitCount_95d88_43 : decode cJ13_bitCount_95d88 43 = .ok (.bipush 16, 2) := by decide +kernel
theorem dJ13_bitCount_95d88_45 : decode cJ13_bitCount_95d88 45 = .ok (.lushr, 1) := by decide +kernel
theorem dJ13_bitCount_95d88_46 : decode cJ13_bitCount_95d88 46 = .ok (.ladd, 1) := by decide +kernel
theorem dJ13_bitCount_95d88_47 : decode cJ13_bitCount_95d88 47 = .ok (.lstore_n 0, 1) := by decide +kernel
theorem dJ13_bitCount_95d88_48 : decode cJ13_bitCount_95d88 48 = .ok (.lload_n 0, 1) := by decide +kernel
theorem dJ13_bitCount_95d88_49 : decode cJ13_bitCount_95d88 49 = .ok (.lload_n 0, 1) := by decide +kernel
theorem dJ13_bitCount_95d88_50 : decode cJ13_bitCount_95d88 50 = .ok (.bipush 32, 2) := by decide +kernel
theorem dJ13_bitCount_95d88_52 : decode cJ13_bitCount_95d88 52 = .ok (.lushr, 1) := by decide +kernel
theorem dJ13_bitCount_95d88_53 : decode cJ13_bitCount_95d88 53 = .ok (.ladd, 1) := by decide +kernel
theorem dJ13_bitCount_95d88_54 : decode cJ13_bitCount_95d88 54 = .ok (.lstore_n 0, 1) := by decide +kernel
theorem dJ13_bitCount_95d88_55 : decode cJ13_bitCount_95d88 55 = .ok (.lload_n 0, 1) := by decide +kernel
theorem dJ13_bitCount_95d88_56 : decode cJ13_bitCount_95d88 56 = .ok (.l2i, 1) := by decide +kernel
theorem dJ13_bitCount_95d88_57 : decode cJ13_bitCount_95d88 57 = .ok (.bipush 127, 2) := by decide +kernel
theorem dJ13_bitCount_95d88_59 : decode cJ13_bitCount_95d88 59 = .ok (.iand, 1) := by decide +kernel
theorem dJ13_bitCount_95d88_60 : decode cJ13_bitCount_95d88 60 = .ok (.ireturn, 1) := by decide +kernel
theorem dJ9_max_7cf53_0 : decode cJ9_max_7cf53 0 = .ok (.iload_n 0, 1) := by decide +kernel
theorem dJ9_max_7cf53_1 : decode cJ9_max_7cf53 1 = .ok (.iload_n 1, 1) := by decide +kernel
theorem dJ9_max_7cf53_2 : decode cJ9_max_7cf53 2 = .ok (.if_icmp .lt 7, 3) := by decide +kernel
theorem dJ9_max_7cf53_5 : decode cJ9_max_7cf53 5 = .ok (.iload_n 0, 1) := by decide +kernel
theorem dJ9_max_7cf53_6 : decode cJ9_max_7cf53 6 = .ok (.goto 4, 3) := by decide +kernel
theorem dJ9_max_7cf53_9 : decode cJ9_max_7cf53 9 = .ok (.iload_n 1, 1) := by decide +kernel
theorem dJ9_max_7cf53_10 : decode cJ9_max_7cf53 10 = .ok (.ireturn, 1) := by decide +kernel
theorem dJ9_min_7cf53_0 : decode cJ9_min_7cf53 0 = .ok (.iload_n 0, 1) := by decide +kernel
theorem dJ9_min_7cf53_1 : decode cJ9_min_7cf53 1 = .ok (.iload_n 1, 1) := by decide +kernel
theorem dJ9_min_7cf53_2 : decode cJ9_min_7cf53 2 = .ok (.if_icmp .gt 7, 3) := by decide +kernel
theorem dJ9_min_7cf53_5 : decode cJ9_min_7cf53 5 = .ok (.iload_n 0, 1) := by decide +kernel
theorem dJ9_min_7cf53_6 : decode cJ9_min_7cf53 6 = .ok (.goto 4, 3) := by decide +kernel
theorem dJ9_min_7cf53_9 : decode cJ9_min_7cf53 9 = .ok (.iload_n 1, 1) := by decide +kernel
theorem dJ9_min_7cf53_10 : decode cJ9_min_7cf53 10 = .ok (.ireturn, 1) := by decide +kernel
