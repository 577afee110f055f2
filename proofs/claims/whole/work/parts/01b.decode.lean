theorem dX0_init_0 : decode cX0_init 0 = .ok (.aload_n 0, 1) := by decide +kernel
theorem dX0_init_1 : decode cX0_init 1 = .ok (.invokespecial 3, 3) := by decide +kernel
theorem dX0_init_4 : decode cX0_init 4 = .ok (.aload_n 0, 1) := by decide +kernel
theorem dX0_init_5 : decode cX0_init 5 = .ok (.bipush 10, 2) := by decide +kernel
theorem dX0_init_7 : decode cX0_init 7 = .ok (.newarray .int, 2) := by decide +kernel
theorem dX0_init_9 : decode cX0_init 9 = .ok (.putfield 9, 3) := by decide +kernel
theorem dX0_init_12 : decode cX0_init 12 = .ok (.aload_n 0, 1) := by decide +kernel
theorem dX0_init_13 : decode cX0_init 13 = .ok (.iconst 0, 1) := by decide +kernel
theorem dX0_init_14 : decode cX0_init 14 = .ok (.putfield 15, 3) := by decide +kernel
theorem dX0_init_17 : decode cX0_init 17 = .ok (.aload_n 0, 1) := by decide +kernel
theorem dX0_init_18 : decode cX0_init 18 = .ok (.bipush 9, 2) := by decide +kernel
theorem dX0_init_20 : decode cX0_init 20 = .ok (.putfield 19, 3) := by decide +kernel
theorem dX0_init_23 : decode cX0_init 23 = .ok (.aload_n 0, 1) := by decide +kernel
theorem dX0_init_24 : decode cX0_init 24 = .ok (.iconst 0, 1) := by decide +kernel
theorem dX0_init_25 : decode cX0_init 25 = .ok (.putfield 22, 3) := by decide +kernel
theorem dX0_init_28 : decode cX0_init 28 = .ok (.aload_n 0, 1) := by decide +kernel
theorem dX0_init_29 : decode cX0_init 29 = .ok (.iconst 0, 1) := by decide +kernel
theorem dX0_init_30 : decode cX0_init 30 = .ok (.putfield 25, 3) := by decide +kernel
theorem dX0_init_33 : decode cX0_init 33 = .ok (.aload_n 0, 1) := by decide +kernel
theorem dX0_init_34 : decode cX0_init 34 = .ok (.iconst 0, 1) := by decide +kernel
theorem dX0_init_35 : decode cX0_init 35 = .ok (.putfield 29, 3) := by decide +kernel
theorem dX0_init_38 : decode cX0_init 38 = .ok (.return_, 1) := by decide +kernel
theorem dX0_clear_0 : decode cX0_clear 0 = .ok (.aload_n 0, 1) := by decide +kernel
theorem dX0_clear_1 : decode cX0_clear 1 = .ok (.iconst 0, 1) := by decide +kernel
theorem dX0_clear_2 : decode cX0_clear 2 = .ok (.putfield 15, 3) := by decide +kernel
theorem dX0_clear_5 : decode cX0_clear 5 = .ok (.aload_n 0, 1) := by decide +kernel
theorem dX0_clear_6 : decode cX0_clear 6 = .ok (.bipush 9, 2) := by decide +kernel
theorem dX0_clear_8 : decode cX0_clear 8 = .ok (.putfield 19, 3) := by decide +kernel
theorem dX0_clear_11 : decode cX0_clear 11 = .ok (.aload_n 0, 1) := by decide +kernel
theorem dX0_clear_12 : decode cX0_clear 12 = .ok (.iconst 0, 1) := by decide +kernel
theorem dX0_clear_13 : decode cX0_clear 13 = .ok (.putfield 22, 3) := by decide +kernel
theorem dX0_clear_16 : decode cX0_clear 16 = .ok (.aload_n 0, 1) := by decide +kernel
theorem dX0_clear_17 : decode cX0_clear 17 = .ok (.iconst 0, 1) := by decide +kernel
theorem dX0_clear_18 : decode cX0_clear 18 = .ok (.putfield 25, 3) := by decide +kernel
theorem dX0_clear_21 : decode cX0_clear 21 = .ok (.aload_n 0, 1) := by decide +kernel
theorem dX0_clear_22 : decode cX0_clear 22 = .ok (.iconst 0, 1) := by decide +kernel
theorem dX0_clear_23 : decode cX0_clear 23 = .ok (.putfield 29, 3) := by decide +kernel
theorem dX0_clear_26 : decode cX0_clear 26 = .ok (.return_, 1) := by decide +kernel
theorem dX0_becomeAs_0 : decode cX0_becomeAs 0 = .ok (.aload_n 0, 1) := by decide +kernel
theorem dX0_becomeAs_1 : decode cX0_becomeAs 1 = .ok (.invokevirtual 32, 3) := by decide +kernel
theorem dX0_becomeAs_4 : decode cX0_becomeAs 4 = .ok (.iconst 0, 1) := by decide +kernel
theorem dX0_becomeAs_5 : decode cX0_becomeAs 5 = .ok (.istore_n 2, 1) := by decide +kernel
theorem dX0_becomeAs_6 : decode cX0_becomeAs 6 = .ok (.iload_n 2, 1) := by decide +kernel
theorem dX0_becomeAs_7 : decode cX0_becomeAs 7 = .ok (.aload_n 1, 1) := by decide +kernel
theorem dX0_becomeAs_8 : decode cX0_becomeAs 8 = .ok (.getfield 15, 3) := by decide +kernel
theorem dX0_becomeAs_11 : decode cX0_becomeAs 11 = .ok (.if_icmp .ge 28, 3) := by decide +kernel
theorem dX0_becomeAs_14 : decode cX0_becomeAs 14 = .ok (.iload_n 2, 1) := by decide +kernel
theorem dX0_becomeAs_15 : decode cX0_becomeAs 15 = .ok (.aload_n 1, 1) := by decide +kernel
theorem dX0_becomeAs_16 : decode cX0_becomeAs 16 = .ok (.getfield 9, 3) := by decide +kernel
theorem dX0_becomeAs_19 : decode cX0_becomeAs 19 = .ok (.arraylength, 1) := by decide +kernel
theorem dX0_becomeAs_20 : decode cX0_becomeAs 20 = .ok (.if_icmp .ge 19, 3) := by decide +kernel
theorem dX0_becomeAs_23 : decode cX0_becomeAs 23 = .ok (.aload_n 0, 1) := by decide +kernel
theorem dX0_becomeAs_24 : decode cX0_becomeAs 24 = .ok (.aload_n 1, 1) := by decide +kernel
theorem dX0_becomeAs_25 : decode cX0_becomeAs 25 = .ok (.getfield 9, 3) := by decide +kernel
theorem dX0_becomeAs_28 : decode cX0_becomeAs 28 = .ok (.iload_n 2, 1) := by decide +kernel
theorem dX0_becomeAs_29 : decode cX0_becomeAs 29 = .ok (.iaload, 1) := by decide +kernel
theorem dX0_becomeAs_30 : decode cX0_becomeAs 30 = .ok (.invokevirtual 35, 3) := by decide +kernel
theorem dX0_becomeAs_33 : decode cX0_becomeAs 33 = .ok (.iinc 2 1, 3) := by decide +kernel
theorem dX0_becomeAs_36 : decode cX0_becomeAs 36 = .ok (.goto (-30), 3) := by decide +kernel
theorem dX0_becomeAs_39 : decode cX0_becomeAs 39 = .ok (.aload_n 0, 1) := by decide +kernel
theorem dX0_becomeAs_40 : decode cX0_becomeAs 40 = .ok (.aload_n 1, 1) := by decide +kernel
theorem dX0_becomeAs_41 : decode cX0_becomeAs 41 = .ok (.getfield 19, 3) := by decide +kernel
theorem dX0_becomeAs_44 : decode cX0_becomeAs 44 = .ok (.putfield 19, 3) := by decide +kernel
theorem dX0_becomeAs_47 : decode cX0_becomeAs 47 = .ok (.aload_n 0, 1) := by decide +kernel
theorem dX0_becomeAs_48 : decode cX0_becomeAs 48 = .ok (.aload_n 1, 1) := by decide +kernel
theorem dX0_becomeAs_49 : decode cX0_becomeAs 49 = .ok (.getfield 22, 3) := by decide +kernel
theorem dX0_becomeAs_52 : decode cX0_becomeAs 52 = .ok (.putfield 22, 3) := by decide +kernel
theorem dX0_becomeAs_55 : decode cX0_becomeAs 55 = .ok (.aload_n 0, 1) := by decide +kernel
theorem dX0_becomeAs_56 : decode cX0_becomeAs 56 = .ok (.aload_n 1, 1) := by decide +kernel
theorem dX0_becomeAs_57 : decode cX0_becomeAs 57 = .ok (.getfield 25, 3) := by decide +kernel
theorem dX0_becomeAs_60 : decode cX0_becomeAs 60 = .ok (.putfield 25, 3) := by decide +kernel
theorem dX0_becomeAs_63 : decode cX0_becomeAs 63 = .ok (.aload_n 0, 1) := by decide +kernel
theorem dX0_becomeAs_64 : decode cX0_becomeAs 64 = .ok (.aload_n 1, 1) := by decide +kernel
theorem dX0_becomeAs_65 : decode cX0_becomeAs 65 = .ok (.getfield 29, 3) := by decide +kernel
theorem dX0_becomeAs_68 : decode cX0_becomeAs 68 = .ok (.putfield 29, 3) := by decide +kernel
theorem dX0_becomeAs_71 : decode cX0_becomeAs 71 = .ok (.return_, 1) := by decide +kernel
theorem dX0_addFirst_0 : decode cX0_addFirst 0 = .ok (.aload_n 0, 1) := by decide +kernel
theorem dX0_addFirst_1 : decode cX0_addFirst 1 = .ok (.getfield 15, 3) := by decide +kernel
theorem dX0_addFirst_4 : decode cX0_addFirst 4 = .ok (.aload_n 0, 1) := by decide +kernel
theorem dX0_addFirst_5 : decode cX0_addFirst 5 = .ok (.getfield 9, 3) := by decide +kernel
theorem dX0_addFirst_8 : decode cX0_addFirst 8 = .ok (.arraylength, 1) := by decide +kernel
theorem dX0_addFirst_9 : decode cX0_addFirst 9 = .ok (.if_icmp .ge 23, 3) := by decide +kernel
theorem dX0_addFirst_12 : decode cX0_addFirst 12 = .ok (.aload_n 0, 1) := by decide +kernel
theorem dX0_addFirst_13 : decode cX0_addFirst 13 = .ok (.getfield 9, 3) := by decide +kernel
theorem dX0_addFirst_16 : decode cX0_addFirst 16 = .ok (.aload_n 0, 1) := by decide +kernel
theorem dX0_addFirst_17 : decode cX0_addFirst 17 = .ok (.getfield 15, 3) := by decide +kernel
theorem dX0_addFirst_20 : decode cX0_addFirst 20 = .ok (.iload_n 1, 1) := by decide +kernel
theorem dX0_addFirst_21 : decode cX0_addFirst 21 = .ok (.iastore, 1) := by decide +kernel
theorem dX0_addFirst_22 : decode cX0_addFirst 22 = .ok (.aload_n 0, 1) := by decide +kernel
theorem dX0_addFirst_23 : decode cX0_addFirst 23 = .ok (.dup, 1) := by decide +kernel
theorem dX0_addFirst_24 : decode cX0_addFirst 24 = .ok (.getfield 15, 3) := by decide +kernel
theorem dX0_addFirst_27 : decode cX0_addFirst 27 = .ok (.iconst 1, 1) := by decide +kernel
theorem dX0_addFirst_28 : decode cX0_addFirst 28 = .ok (.iadd, 1) := by decide +kernel
theorem dX0_addFirst_29 : decode cX0_addFirst 29 = .ok (.putfield 15, 3) := by decide +kernel
theorem dX0_addFirst_32 : decode cX0_addFirst 32 = .ok (.return_, 1) := by decide +kernel
theorem dX0_isAhead_0 : decode cX0_isAhead 0 = .ok (.iconst 0, 1) := by decide +kernel
theorem dX0_isAhead_1 : decode cX0_isAhead 1 = .ok (.istore_n 3, 1) := by decide +kernel
theorem dX0_isAhead_2 : decode cX0_isAhead 2 = .ok (.iload_n 3, 1) := by decide +kernel
theorem dX0_isAhead_3 : decode cX0_isAhead 3 = .ok (.aload_n 0, 1) := by decide +kernel
theorem dX0_isAhead_4 : decode cX0_isAhead 4 = .ok (.getfield 15, 3) := by decide +kernel
theorem dX0_isAhead_7 : decode cX0_isAhead 7 = .ok (.if_icmp .ge 57, 3) := by decide +kernel
theorem dX0_isAhead_10 : decode cX0_isAhead 10 = .ok (.iload_n 3, 1) := by decide +kernel
theorem dX0_isAhead_11 : decode cX0_isAhead 11 = .ok (.aload_n 0, 1) := by decide +kernel
theorem dX0_isAhead_12 : decode cX0_isAhead 12 = .ok (.getfield 9, 3) := by decide +kernel
theorem dX0_isAhead_15 : decode cX0_isAhead 15 = .ok (.arraylength, 1) := by decide +kernel
theorem dX0_isAhead_16 : decode cX0_isAhead 16 = .ok (.if_icmp .ge 48, 3) := by decide +kernel
theorem dX0_isAhead_19 : decode cX0_isAhead 19 = .ok (.aload_n 1, 1) := by decide +kernel
theorem dX0_isAhead_20 : decode cX0_isAhead 20 = .ok (.aload_n 0, 1) := by decide +kernel
theorem dX0_isAhead_21 : decode cX0_isAhead 21 = .ok (.getfield 9, 3) := by decide +kernel
theorem dX0_isAhead_24 : decode cX0_isAhead 24 = .ok (.iload_n 3, 1) := by decide +kernel
theorem dX0_isAhead_25 : decode cX0_isAhead 25 = .ok (.iaload, 1) := by decide +kernel
theorem dX0_isAhead_26 : decode cX0_isAhead 26 = .ok (.invokestatic 39, 3) := by decide +kernel
theorem dX0_isAhead_29 : decode cX0_isAhead 29 = .ok (.aload_n 2, 1) := by decide +kernel
theorem dX0_isAhead_30 : decode cX0_isAhead 30 = .ok (.aload_n 0, 1) := by decide +kernel
theorem dX0_isAhead_31 : decode cX0_isAhead 31 = .ok (.getfield 9, 3) := by decide +kernel
theorem dX0_isAhead_34 : decode cX0_isAhead 34 = .ok (.iload_n 3, 1) := by decide +kernel
theorem dX0_isAhead_35 : decode cX0_isAhead 35 = .ok (.iaload, 1) := by decide +kernel
theorem dX0_isAhead_36 : decode cX0_isAhead 36 = .ok (.invokestatic 39, 3) := by decide +kernel
theorem dX0_isAhead_39 : decode cX0_isAhead 39 = .ok (.isub, 1) := by decide +kernel
theorem dX0_isAhead_40 : decode cX0_isAhead 40 = .ok (.istore 4, 2) := by decide +kernel
theorem dX0_isAhead_42 : decode cX0_isAhead 42 = .ok (.iload 4, 2) := by decide +kernel
theorem dX0_isAhead_44 : decode cX0_isAhead 44 = .ok (.ifCond .eq 14, 3) := by decide +kernel
theorem dX0_isAhead_47 : decode cX0_isAhead 47 = .ok (.iload 4, 2) := by decide +kernel
theorem dX0_isAhead_49 : decode cX0_isAhead 49 = .ok (.ifCond .ge 7, 3) := by decide +kernel
theorem dX0_isAhead_52 : decode cX0_isAhead 52 = .ok (.iconst 1, 1) := by decide +kernel
theorem dX0_isAhead_53 : decode cX0_isAhead 53 = .ok (.goto 4, 3) := by decide +kernel
theorem dX0_isAhead_56 : decode cX0_isAhead 56 = .ok (.iconst 0, 1) := by decide +kernel
theorem dX0_isAhead_57 : decode cX0_isAhead 57 = .ok (.ireturn, 1) := by decide +kernel
theorem dX0_isAhead_58 : decode cX0_isAhead 58 = .ok (.iinc 3 1, 3) := by decide +kernel
theorem dX0_isAhead_61 : decode cX0_isAhead 61 = .ok (.goto (-59), 3) := by decide +kernel
theorem dX0_isAhead_64 : decode cX0_isAhead 64 = .ok (.aload_n 1, 1) := by decide +kernel
theorem dX0_isAhead_65 : decode cX0_isAhead 65 = .ok (.getfield 43, 3) := by decide +kernel
theorem dX0_isAhead_68 : decode cX0_isAhead 68 = .ok (.aload_n 2, 1) := by decide +kernel
theorem dX0_isAhead_69 : decode cX0_isAhead 69 = .ok (.getfield 43, 3) := by decide +kernel
theorem dX0_isAhead_72 : decode cX0_isAhead 72 = .ok (.if_icmp .ge 7, 3) := by decide +kernel
theorem dX0_isAhead_75 : decode cX0_isAhead 75 = .ok (.iconst 1, 1) := by decide +kernel
theorem dX0_isAhead_76 : decode cX0_isAhead 76 = .ok (.goto 4, 3) := by decide +kernel
theorem dX0_isAhead_79 : decode cX0_isAhead 79 = .ok (.iconst 0, 1) := by decide +kernel
theorem dX0_isAhead_80 : decode cX0_isAhead 80 = .ok (.ireturn, 1) := by decide +kernel
theorem dX0_rank_0 : decode cX0_rank 0 = .ok (.iload_n 1, 1) := by decide +kernel
theorem dX0_rank_1 : decode cX0_rank 1 = .ok (.lookupswitch 45 #[(0, 27), (1, 40)], 27) := by decide +kernel
theorem dX0_rank_28 : decode cX0_rank 28 = .ok (.aload_n 0, 1) := by decide +kernel
theorem dX0_rank_29 : decode cX0_rank 29 = .ok (.getfield 48, 3) := by decide +kernel
theorem dX0_rank_32 : decode cX0_rank 32 = .ok (.ifCond .eq 7, 3) := by decide +kernel
theorem dX0_rank_35 : decode cX0_rank 35 = .ok (.iconst 0, 1) := by decide +kernel
theorem dX0_rank_36 : decode cX0_rank 36 = .ok (.goto 4, 3) := by decide +kernel
theorem dX0_rank_39 : decode cX0_rank 39 = .ok (.iconst 1, 1) := by decide +kernel
theorem dX0_rank_40 : decode cX0_rank 40 = .ok (.ireturn, 1) := by decide +kernel
theorem dX0_rank_41 : decode cX0_rank 41 = .ok (.aload_n 0, 1) := by decide +kernel
theorem dX0_rank_42 : decode cX0_rank 42 = .ok (.getfield 51, 3) := by decide +kernel
theorem dX0_rank_45 : decode cX0_rank 45 = .ok (.ireturn, 1) := by decide +kernel
theorem dX0_rank_46 : decode cX0_rank 46 = .ok (.aload_n 0, 1) := by decide +kernel
theorem dX0_rank_47 : decode cX0_rank 47 = .ok (.getfield 54, 3) := by decide +kernel
theorem dX0_rank_50 : decode cX0_rank 50 = .ok (.ireturn, 1) := by decide +kernel
theorem dX1_init_0 : decode cX1_init 0 = .ok (.aload_n 0, 1) := by decide +kernel
theorem dX1_init_1 : decode cX1_init 1 = .ok (.invokespecial 1, 3) := by decide +kernel
theorem dX1_init_4 : decode cX1_init 4 = .ok (.aload_n 0, 1) := by decide +kernel
theorem dX1_init_5 : decode cX1_init 5 = .ok (.aconst_null, 1) := by decide +kernel
theorem dX1_init_6 : decode cX1_init 6 = .ok (.putfield 7, 3) := by decide +kernel
theorem dX1_init_9 : decode cX1_init 9 = .ok (.aload_n 0, 1) := by decide +kernel
theorem dX1_init_10 : decode cX1_init 10 = .ok (.iconst 0, 1) := by decide +kernel
theorem dX1_init_11 : decode cX1_init 11 = .ok (.putfield 13, 3) := by decide +kernel
theorem dX1_init_14 : decode cX1_init 14 = .ok (.aload_n 0, 1) := by decide +kernel
theorem dX1_init_15 : decode cX1_init 15 = .ok (.iconst 0, 1) := by decide +kernel
theorem dX1_init_16 : decode cX1_init 16 = .ok (.putfield 17, 3) := by decide +kernel
theorem dX1_init_19 : decode cX1_init 19 = .ok (.aload_n 0, 1) := by decide +kernel
theorem dX1_init_20 : decode cX1_init 20 = .ok (.iconst 0, 1) := by decide +kernel
theorem dX1_init_21 : decode cX1_init 21 = .ok (.putfield 20, 3) := by decide +kernel
theorem dX1_init_24 : decode cX1_init 24 = .ok (.aload_n 0, 1) := by decide +kernel
theorem dX1_init_25 : decode cX1_init 25 = .ok (.iconst 0, 1) := by decide +kernel
theorem dX1_init_26 : decode cX1_init 26 = .ok (.putfield 23, 3) := by decide +kernel
theorem dX1_init_29 : decode cX1_init 29 = .ok (.aload_n 0, 1) := by decide +kernel
theorem dX1_init_30 : decode cX1_init 30 = .ok (.iconst 0, 1) := by decide +kernel
theorem dX1_init_31 : decode cX1_init 31 = .ok (.putfield 26, 3) := by decide +kernel
theorem dX1_init_34 : decode cX1_init 34 = .ok (.aload_n 0, 1) := by decide +kernel
theorem dX1_init_35 : decode cX1_init 35 = .ok (.iload_n 1, 1) := by decide +kernel
theorem dX1_init_36 : decode cX1_init 36 = .ok (.putfield 29, 3) := by decide +kernel
theorem dX1_init_39 : decode cX1_init 39 = .ok (.aload_n 0, 1) := by decide +kernel
theorem dX1_init_40 : decode cX1_init 40 = .ok (.iload_n 2, 1) := by decide +kernel
theorem dX1_init_41 : decode cX1_init 41 = .ok (.putfield 32, 3) := by decide +kernel
theorem dX1_init_44 : decode cX1_init 44 = .ok (.aload_n 0, 1) := by decide +kernel
theorem dX1_init_45 : decode cX1_init 45 = .ok (.iload_n 3, 1) := by decide +kernel
theorem dX1_init_46 : decode cX1_init 46 = .ok (.putfield 35, 3) := by decide +kernel
theorem dX1_init_49 : decode cX1_init 49 = .ok (.aload_n 0, 1) := by decide +kernel
theorem dX1_init_50 : decode cX1_init 50 = .ok (.iload 4, 2) := by decide +kernel
theorem dX1_init_52 : decode cX1_init 52 = .ok (.putfield 38, 3) := by decide +kernel
theorem dX1_init_55 : decode cX1_init 55 = .ok (.aload_n 0, 1) := by decide +kernel
theorem dX1_init_56 : decode cX1_init 56 = .ok (.iload 5, 2) := by decide +kernel
theorem dX1_init_58 : decode cX1_init 58 = .ok (.putfield 41, 3) := by decide +kernel
theorem dX1_init_61 : decode cX1_init 61 = .ok (.aload_n 0, 1) := by decide +kernel
theorem dX1_init_62 : decode cX1_init 62 = .ok (.iload 6, 2) := by decide +kernel
theorem dX1_init_64 : decode cX1_init 64 = .ok (.putfield 44, 3) := by decide +kernel
theorem dX1_init_67 : decode cX1_init 67 = .ok (.return_, 1) := by decide +kernel
theorem dX1_isFed_0 : decode cX1_isFed 0 = .ok (.aload_n 0, 1) := by decide +kernel
theorem dX1_isFed_1 : decode cX1_isFed 1 = .ok (.getfield 13, 3) := by decide +kernel
theorem dX1_isFed_4 : decode cX1_isFed 4 = .ok (.aload_n 0, 1) := by decide +kernel
theorem dX1_isFed_5 : decode cX1_isFed 5 = .ok (.getfield 38, 3) := by decide +kernel
theorem dX1_isFed_8 : decode cX1_isFed 8 = .ok (.if_icmp .ne 7, 3) := by decide +kernel
theorem dX1_isFed_11 : decode cX1_isFed 11 = .ok (.iconst 1, 1) := by decide +kernel
theorem dX1_isFed_12 : decode cX1_isFed 12 = .ok (.goto 4, 3) := by decide +kernel
theorem dX1_isFed_15 : decode cX1_isFed 15 = .ok (.iconst 0, 1) := by decide +kernel
theorem dX1_isFed_16 : decode cX1_isFed 16 = .ok (.ireturn, 1) := by decide +kernel
theorem dX1_keepShare_0 : decode cX1_keepShare 0 = .ok (.aload_n 0, 1) := by decide +kernel
theorem dX1_keepShare_1 : decode cX1_keepShare 1 = .ok (.aload_n 0, 1) := by decide +kernel
theorem dX1_keepShare_2 : decode cX1_keepShare 2 = .ok (.getfield 13, 3) := by decide +kernel
theorem dX1_keepShare_5 : decode cX1_keepShare 5 = .ok (.putfield 26, 3) := by decide +kernel
theorem dX1_keepShare_8 : decode cX1_keepShare 8 = .ok (.aload_n 0, 1) := by decide +kernel
theorem dX1_keepShare_9 : decode cX1_keepShare 9 = .ok (.dup, 1) := by decide +kernel
theorem dX1_keepShare_10 : decode cX1_keepShare 10 = .ok (.getfield 23, 3) := by decide +kernel
theorem dX1_keepShare_13 : decode cX1_keepShare 13 = .ok (.aload_n 0, 1) := by decide +kernel
theorem dX1_keepShare_14 : decode cX1_keepShare 14 = .ok (.getfield 13, 3) := by decide +kernel
theorem dX1_keepShare_17 : decode cX1_keepShare 17 = .ok (.iadd, 1) := by decide +kernel
theorem dX1_keepShare_18 : decode cX1_keepShare 18 = .ok (.putfield 23, 3) := by decide +kernel
theorem dX1_keepShare_21 : decode cX1_keepShare 21 = .ok (.aload_n 0, 1) := by decide +kernel
theorem dX1_keepShare_22 : decode cX1_keepShare 22 = .ok (.invokevirtual 48, 3) := by decide +kernel
theorem dX1_keepShare_25 : decode cX1_keepShare 25 = .ok (.ifCond .eq 13, 3) := by decide +kernel
theorem dX1_keepShare_28 : decode cX1_keepShare 28 = .ok (.aload_n 0, 1) := by decide +kernel
theorem dX1_keepShare_29 : decode cX1_keepShare 29 = .ok (.dup, 1) := by decide +kernel
theorem dX1_keepShare_30 : decode cX1_keepShare 30 = .ok (.getfield 20, 3) := by decide +kernel
theorem dX1_keepShare_33 : decode cX1_keepShare 33 = .ok (.iconst 1, 1) := by decide +kernel
theorem dX1_keepShare_34 : decode cX1_keepShare 34 = .ok (.iadd, 1) := by decide +kernel
theorem dX1_keepShare_35 : decode cX1_keepShare 35 = .ok (.putfield 20, 3) := by decide +kernel
theorem dX1_keepShare_38 : decode cX1_keepShare 38 = .ok (.return_, 1) := by decide +kernel
theorem dX2_init_0 : decode cX2_init 0 = .ok (.aload_n 0, 1) := by decide +kernel
theorem dX2_init_1 : decode cX2_init 1 = .ok (.invokespecial 3, 3) := by decide +kernel
theorem dX2_init_4 : decode cX2_init 4 = .ok (.aload_n 0, 1) := by decide +kernel
theorem dX2_init_5 : decode cX2_init 5 = .ok (.new 9, 3) := by decide +kernel
theorem dX2_init_8 : decode cX2_init 8 = .ok (.dup, 1) := by decide +kernel
theorem dX2_init_9 : decode cX2_init 9 = .ok (.invokespecial 11, 3) := by decide +kernel
theorem dX2_init_12 : decode cX2_init 12 = .ok (.putfield 12, 3) := by decide +kernel
theorem dX2_init_15 : decode cX2_init 15 = .ok (.aload_n 0, 1) := by decide +kernel
theorem dX2_init_16 : decode cX2_init 16 = .ok (.iconst 0, 1) := by decide +kernel
theorem dX2_init_17 : decode cX2_init 17 = .ok (.putfield 18, 3) := by decide +kernel
theorem dX2_init_20 : decode cX2_init 20 = .ok (.aload_n 0, 1) := by decide +kernel
theorem dX2_init_21 : decode cX2_init 21 = .ok (.aload_n 1, 1) := by decide +kernel
theorem dX2_init_22 : decode cX2_init 22 = .ok (.putfield 22, 3) := by decide +kernel
theorem dX2_init_25 : decode cX2_init 25 = .ok (.aload_n 0, 1) := by decide +kernel
theorem dX2_init_26 : decode cX2_init 26 = .ok (.aload_n 2, 1) := by decide +kernel
theorem dX2_init_27 : decode cX2_init 27 = .ok (.putfield 26, 3) := by decide +kernel
theorem dX2_init_30 : decode cX2_init 30 = .ok (.return_, 1) := by decide +kernel
theorem dX2_startFromNow_0 : decode cX2_startFromNow 0 = .ok (.aload_n 0, 1) := by decide +kernel
theorem dX2_startFromNow_1 : decode cX2_startFromNow 1 = .ok (.getfield 22, 3) := by decide +kernel
theorem dX2_startFromNow_4 : decode cX2_startFromNow 4 = .ok (.astore_n 1, 1) := by decide +kernel
theorem dX2_startFromNow_5 : decode cX2_startFromNow 5 = .ok (.aload_n 1, 1) := by decide +kernel
theorem dX2_startFromNow_6 : decode cX2_startFromNow 6 = .ok (.ifnull 22, 3) := by decide +kernel
theorem dX2_startFromNow_9 : decode cX2_startFromNow 9 = .ok (.aload_n 1, 1) := by decide +kernel
theorem dX2_startFromNow_10 : decode cX2_startFromNow 10 = .ok (.getfield 30, 3) := by decide +kernel
theorem dX2_startFromNow_13 : decode cX2_startFromNow 13 = .ok (.aload_n 1, 1) := by decide +kernel
theorem dX2_startFromNow_14 : decode cX2_startFromNow 14 = .ok (.getfield 36, 3) := by decide +kernel
theorem dX2_startFromNow_17 : decode cX2_startFromNow 17 = .ok (.invokevirtual 39, 3) := by decide +kernel
theorem dX2_startFromNow_20 : decode cX2_startFromNow 20 = .ok (.aload_n 1, 1) := by decide +kernel
theorem dX2_startFromNow_21 : decode cX2_startFromNow 21 = .ok (.getfield 45, 3) := by decide +kernel
theorem dX2_startFromNow_24 : decode cX2_startFromNow 24 = .ok (.astore_n 1, 1) := by decide +kernel
theorem dX2_startFromNow_25 : decode cX2_startFromNow 25 = .ok (.goto (-20), 3) := by decide +kernel
theorem dX2_startFromNow_28 : decode cX2_startFromNow 28 = .ok (.return_, 1) := by decide +kernel
theorem dX2_passDay_0 : decode cX2_passDay 0 = .ok (.aload_n 0, 1) := by decide +kernel
theorem dX2_passDay_1 : decode cX2_passDay 1 = .ok (.getfield 12, 3) := by decide +kernel
theorem dX2_passDay_4 : decode cX2_passDay 4 = .ok (.invokevirtual 48, 3) := by decide +kernel
theorem dX2_passDay_7 : decode cX2_passDay 7 = .ok (.aload_n 0, 1) := by decide +kernel
theorem dX2_passDay_8 : decode cX2_passDay 8 = .ok (.iconst 0, 1) := by decide +kernel
theorem dX2_passDay_9 : decode cX2_passDay 9 = .ok (.putfield 18, 3) := by decide +kernel
theorem dX2_passDay_12 : decode cX2_passDay 12 = .ok (.iconst 0, 1) := by decide +kernel
theorem dX2_passDay_13 : decode cX2_passDay 13 = .ok (.istore_n 2, 1) := by decide +kernel
theorem dX2_passDay_14 : decode cX2_passDay 14 = .ok (.aload_n 0, 1) := by decide +kernel
theorem dX2_passDay_15 : decode cX2_passDay 15 = .ok (.getfield 22, 3) := by decide +kernel
theorem dX2_passDay_18 : decode cX2_passDay 18 = .ok (.astore_n 3, 1) := by decide +kernel
theorem dX2_passDay_19 : decode cX2_passDay 19 = .ok (.aload_n 3, 1) := by decide +kernel
theorem dX2_passDay_20 : decode cX2_passDay 20 = .ok (.ifnull 24, 3) := by decide +kernel
theorem dX2_passDay_23 : decode cX2_passDay 23 = .ok (.aload_n 0, 1) := by decide +kernel
theorem dX2_passDay_24 : decode cX2_passDay 24 = .ok (.aload_n 3, 1) := by decide +kernel
theorem dX2_passDay_25 : decode cX2_passDay 25 = .ok (.iload_n 1, 1) := by decide +kernel
theorem dX2_passDay_26 : decode cX2_passDay 26 = .ok (.aload_n 3, 1) := by decide +kernel
theorem dX2_passDay_27 : decode cX2_passDay 27 = .ok (.getfield 51, 3) := by decide +kernel
theorem dX2_passDay_30 : decode cX2_passDay 30 = .ok (.imul, 1) := by decide +kernel
theorem dX2_passDay_31 : decode cX2_passDay 31 = .ok (.iload_n 2, 1) := by decide +kernel
theorem dX2_passDay_32 : decode cX2_passDay 32 = .ok (.invokevirtual 54, 3) := by decide +kernel
theorem dX2_passDay_35 : decode cX2_passDay 35 = .ok (.istore_n 2, 1) := by decide +kernel
theorem dX2_passDay_36 : decode cX2_passDay 36 = .ok (.aload_n 3, 1) := by decide +kernel
theorem dX2_passDay_37 : decode cX2_passDay 37 = .ok (.getfield 45, 3) := by decide +kernel
theorem dX2_passDay_40 : decode cX2_passDay 40 = .ok (.astore_n 3, 1) := by decide +kernel
theorem dX2_passDay_41 : decode cX2_passDay 41 = .ok (.goto (-22), 3) := by decide +kernel
theorem dX2_passDay_44 : decode cX2_passDay 44 = .ok (.aload_n 0, 1) := by decide +kernel
theorem dX2_passDay_45 : decode cX2_passDay 45 = .ok (.getfield 12, 3) := by decide +kernel
theorem dX2_passDay_48 : decode cX2_passDay 48 = .ok (.dup, 1) := by decide +kernel
theorem dX2_passDay_49 : decode cX2_passDay 49 = .ok (.getfield 58, 3) := by decide +kernel
theorem dX2_passDay_52 : decode cX2_passDay 52 = .ok (.iload_n 2, 1) := by decide +kernel
theorem dX2_passDay_53 : decode cX2_passDay 53 = .ok (.iadd, 1) := by decide +kernel
theorem dX2_passDay_54 : decode cX2_passDay 54 = .ok (.putfield 58, 3) := by decide +kernel
theorem dX2_passDay_57 : decode cX2_passDay 57 = .ok (.return_, 1) := by decide +kernel
theorem dX2_sentDown_0 : decode cX2_sentDown 0 = .ok (.aload_n 1, 1) := by decide +kernel
theorem dX2_sentDown_1 : decode cX2_sentDown 1 = .ok (.getfield 30, 3) := by decide +kernel
theorem dX2_sentDown_4 : decode cX2_sentDown 4 = .ok (.astore 4, 2) := by decide +kernel
theorem dX2_sentDown_6 : decode cX2_sentDown 6 = .ok (.aload 4, 2) := by decide +kernel
theorem dX2_sentDown_8 : decode cX2_sentDown 8 = .ok (.getfield 61, 3) := by decide +kernel
theorem dX2_sentDown_11 : decode cX2_sentDown 11 = .ok (.iload_n 2, 1) := by decide +kernel
theorem dX2_sentDown_12 : decode cX2_sentDown 12 = .ok (.iadd, 1) := by decide +kernel
theorem dX2_sentDown_13 : decode cX2_sentDown 13 = .ok (.iload_n 3, 1) := by decide +kernel
theorem dX2_sentDown_14 : decode cX2_sentDown 14 = .ok (.iadd, 1) := by decide +kernel
theorem dX2_sentDown_15 : decode cX2_sentDown 15 = .ok (.istore 5, 2) := by decide +kernel
theorem dX2_sentDown_17 : decode cX2_sentDown 17 = .ok (.iload 5, 2) := by decide +kernel
theorem dX2_sentDown_19 : decode cX2_sentDown 19 = .ok (.bipush 50, 2) := by decide +kernel
theorem dX2_sentDown_21 : decode cX2_sentDown 21 = .ok (.idiv, 1) := by decide +kernel
theorem dX2_sentDown_22 : decode cX2_sentDown 22 = .ok (.istore 6, 2) := by decide +kernel
theorem dX2_sentDown_24 : decode cX2_sentDown 24 = .ok (.iload 5, 2) := by decide +kernel
theorem dX2_sentDown_26 : decode cX2_sentDown 26 = .ok (.iload 6, 2) := by decide +kernel
theorem dX2_sentDown_28 : decode cX2_sentDown 28 = .ok (.isub, 1) := by decide +kernel
theorem dX2_sentDown_29 : decode cX2_sentDown 29 = .ok (.istore 5, 2) := by decide +kernel
theorem dX2_sentDown_31 : decode cX2_sentDown 31 = .ok (.aload_n 0, 1) := by decide +kernel
theorem dX2_sentDown_32 : decode cX2_sentDown 32 = .ok (.aload_n 1, 1) := by decide +kernel
theorem dX2_sentDown_33 : decode cX2_sentDown 33 = .ok (.iload 5, 2) := by decide +kernel
theorem dX2_sentDown_35 : decode cX2_sentDown 35 = .ok (.invokevirtual 64, 3) := by decide +kernel
theorem dX2_sentDown_38 : decode cX2_sentDown 38 = .ok (.istore 7, 2) := by decide +kernel
theorem dX2_sentDown_40 : decode cX2_sentDown 40 = .ok (.iload 5, 2) := by decide +kernel
theorem dX2_sentDown_42 : decode cX2_sentDown 42 = .ok (.iload 7, 2) := by decide +kernel
theorem dX2_sentDown_44 : decode cX2_sentDown 44 = .ok (.isub, 1) := by decide +kernel
theorem dX2_sentDown_45 : decode cX2_sentDown 45 = .ok (.istore 5, 2) := by decide +kernel
theorem dX2_sentDown_47 : decode cX2_sentDown 47 = .ok (.iload 7, 2) := by decide +kernel
theorem dX2_sentDown_49 : decode cX2_sentDown 49 = .ok (.iconst 2, 1) := by decide +kernel
theorem dX2_sentDown_50 : decode cX2_sentDown 50 = .ok (.idiv, 1) := by decide +kernel
theorem dX2_sentDown_51 : decode cX2_sentDown 51 = .ok (.istore 8, 2) := by decide +kernel
theorem dX2_sentDown_53 : decode cX2_sentDown 53 = .ok (.iconst 0, 1) := by decide +kernel
theorem dX2_sentDown_54 : decode cX2_sentDown 54 = .ok (.iload 5, 2) := by decide +kernel
theorem dX2_sentDown_56 : decode cX2_sentDown 56 = .ok (.aload_n 1, 1) := by decide +kernel
theorem dX2_sentDown_57 : decode cX2_sentDown 57 = .ok (.aload 4, 2) := by decide +kernel
theorem dX2_sentDown_59 : decode cX2_sentDown 59 = .ok (.getfield 68, 3) := by decide +kernel
theorem dX2_sentDown_62 : decode cX2_sentDown 62 = .ok (.invokevirtual 72, 3) := by decide +kernel
theorem dX2_sentDown_65 : decode cX2_sentDown 65 = .ok (.isub, 1) := by decide +kernel
theorem dX2_sentDown_66 : decode cX2_sentDown 66 = .ok (.invokestatic 76, 3) := by decide +kernel
theorem dX2_sentDown_69 : decode cX2_sentDown 69 = .ok (.istore 9, 2) := by decide +kernel
theorem dX2_sentDown_71 : decode cX2_sentDown 71 = .ok (.aload 4, 2) := by decide +kernel
theorem dX2_sentDown_73 : decode cX2_sentDown 73 = .ok (.getfield 68, 3) := by decide +kernel
theorem dX2_sentDown_76 : decode cX2_sentDown 76 = .ok (.ifCond .ne 22, 3) := by decide +kernel
theorem dX2_sentDown_79 : decode cX2_sentDown 79 = .ok (.iload 9, 2) := by decide +kernel
theorem dX2_sentDown_81 : decode cX2_sentDown 81 = .ok (.aload_n 1, 1) := by decide +kernel
theorem dX2_sentDown_82 : decode cX2_sentDown 82 = .ok (.getfield 82, 3) := by decide +kernel
theorem dX2_sentDown_85 : decode cX2_sentDown 85 = .ok (.if_icmp .le 13, 3) := by decide +kernel
theorem dX2_sentDown_88 : decode cX2_sentDown 88 = .ok (.aload 4, 2) := by decide +kernel
theorem dX2_sentDown_90 : decode cX2_sentDown 90 = .ok (.iconst 1, 1) := by decide +kernel
theorem dX2_sentDown_91 : decode cX2_sentDown 91 = .ok (.putfield 68, 3) := by decide +kernel
theorem dX2_sentDown_94 : decode cX2_sentDown 94 = .ok (.iload 5, 2) := by decide +kernel
theorem dX2_sentDown_96 : decode cX2_sentDown 96 = .ok (.istore 9, 2) := by decide +kernel
theorem dX2_sentDown_98 : decode cX2_sentDown 98 = .ok (.aload 4, 2) := by decide +kernel
theorem dX2_sentDown_100 : decode cX2_sentDown 100 = .ok (.iload 5, 2) := by decide +kernel
theorem dX2_sentDown_102 : decode cX2_sentDown 102 = .ok (.iload 9, 2) := by decide +kernel
theorem dX2_sentDown_104 : decode cX2_sentDown 104 = .ok (.isub, 1) := by decide +kernel
theorem dX2_sentDown_105 : decode cX2_sentDown 105 = .ok (.putfield 61, 3) := by decide +kernel
theorem dX2_sentDown_108 : decode cX2_sentDown 108 = .ok (.aload 4, 2) := by decide +kernel
theorem dX2_sentDown_110 : decode cX2_sentDown 110 = .ok (.iload 7, 2) := by decide +kernel
theorem dX2_sentDown_112 : decode cX2_sentDown 112 = .ok (.putfield 85, 3) := by decide +kernel
theorem dX2_sentDown_115 : decode cX2_sentDown 115 = .ok (.aload 4, 2) := by decide +kernel
theorem dX2_sentDown_117 : decode cX2_sentDown 117 = .ok (.iload 9, 2) := by decide +kernel
theorem dX2_sentDown_119 : decode cX2_sentDown 119 = .ok (.putfield 88, 3) := by decide +kernel
theorem dX2_sentDown_122 : decode cX2_sentDown 122 = .ok (.aload_n 0, 1) := by decide +kernel
theorem dX2_sentDown_123 : decode cX2_sentDown 123 = .ok (.getfield 12, 3) := by decide +kernel
theorem dX2_sentDown_126 : decode cX2_sentDown 126 = .ok (.dup, 1) := by decide +kernel
theorem dX2_sentDown_127 : decode cX2_sentDown 127 = .ok (.getfield 91, 3) := by decide +kernel
theorem dX2_sentDown_130 : decode cX2_sentDown 130 = .ok (.iload_n 2, 1) := by decide +kernel
theorem dX2_sentDown_131 : decode cX2_sentDown 131 = .ok (.iadd, 1) := by decide +kernel
theorem dX2_sentDown_132 : decode cX2_sentDown 132 = .ok (.putfield 91, 3) := by decide +kernel
theorem dX2_sentDown_135 : decode cX2_sentDown 135 = .ok (.aload_n 0, 1) := by decide +kernel
theorem dX2_sentDown_136 : decode cX2_sentDown 136 = .ok (.getfield 12, 3) := by decide +kernel
theorem dX2_sentDown_139 : decode cX2_sentDown 139 = .ok (.dup, 1) := by decide +kernel
theorem dX2_sentDown_140 : decode cX2_sentDown 140 = .ok (.getfield 94, 3) := by decide +kernel
theorem dX2_sentDown_143 : decode cX2_sentDown 143 = .ok (.iload 6, 2) := by decide +kernel
theorem dX2_sentDown_145 : decode cX2_sentDown 145 = .ok (.iadd, 1) := by decide +kernel
theorem dX2_sentDown_146 : decode cX2_sentDown 146 = .ok (.putfield 94, 3) := by decide +kernel
theorem dX2_sentDown_149 : decode cX2_sentDown 149 = .ok (.aload_n 0, 1) := by decide +kernel
theorem dX2_sentDown_150 : decode cX2_sentDown 150 = .ok (.getfield 12, 3) := by decide +kernel
theorem dX2_sentDown_153 : decode cX2_sentDown 153 = .ok (.dup, 1) := by decide +kernel
theorem dX2_sentDown_154 : decode cX2_sentDown 154 = .ok (.getfield 97, 3) := by decide +kernel
theorem dX2_sentDown_157 : decode cX2_sentDown 157 = .ok (.iload 7, 2) := by decide +kernel
theorem dX2_sentDown_159 : decode cX2_sentDown 159 = .ok (.iload 8, 2) := by decide +kernel
theorem dX2_sentDown_161 : decode cX2_sentDown 161 = .ok (.isub, 1) := by decide +kernel
theorem dX2_sentDown_162 : decode cX2_sentDown 162 = .ok (.iadd, 1) := by decide +kernel
theorem dX2_sentDown_163 : decode cX2_sentDown 163 = .ok (.putfield 97, 3) := by decide +kernel
theorem dX2_sentDown_166 : decode cX2_sentDown 166 = .ok (.iload 8, 2) := by decide +kernel
theorem dX2_sentDown_168 : decode cX2_sentDown 168 = .ok (.iload 9, 2) := by decide +kernel
theorem dX2_sentDown_170 : decode cX2_sentDown 170 = .ok (.iadd, 1) := by decide +kernel
theorem dX2_sentDown_171 : decode cX2_sentDown 171 = .ok (.ireturn, 1) := by decide +kernel
theorem dX2_takenByFields_0 : decode cX2_takenByFields 0 = .ok (.aload_n 1, 1) := by decide +kernel
theorem dX2_takenByFields_1 : decode cX2_takenByFields 1 = .ok (.getfield 100, 3) := by decide +kernel
theorem dX2_takenByFields_4 : decode cX2_takenByFields 4 = .ok (.aload_n 0, 1) := by decide +kernel
theorem dX2_takenByFields_5 : decode cX2_takenByFields 5 = .ok (.getfield 26, 3) := by decide +kernel
theorem dX2_takenByFields_8 : decode cX2_takenByFields 8 = .ok (.getfield 103, 3) := by decide +kernel
theorem dX2_takenByFields_11 : decode cX2_takenByFields 11 = .ok (.imul, 1) := by decide +kernel
theorem dX2_takenByFields_12 : decode cX2_takenByFields 12 = .ok (.bipush 100, 2) := by decide +kernel
theorem dX2_takenByFields_14 : decode cX2_takenByFields 14 = .ok (.idiv, 1) := by decide +kernel
theorem dX2_takenByFields_15 : decode cX2_takenByFields 15 = .ok (.istore_n 3, 1) := by decide +kernel
theorem dX2_takenByFields_16 : decode cX2_takenByFields 16 = .ok (.aload_n 1, 1) := by decide +kernel
theorem dX2_takenByFields_17 : decode cX2_takenByFields 17 = .ok (.getfield 30, 3) := by decide +kernel
theorem dX2_takenByFields_20 : decode cX2_takenByFields 20 = .ok (.getfield 108, 3) := by decide +kernel
theorem dX2_takenByFields_23 : decode cX2_takenByFields 23 = .ok (.iconst 0, 1) := by decide +kernel
theorem dX2_takenByFields_24 : decode cX2_takenByFields 24 = .ok (.iload_n 2, 1) := by decide +kernel
theorem dX2_takenByFields_25 : decode cX2_takenByFields 25 = .ok (.iload_n 3, 1) := by decide +kernel
theorem dX2_takenByFields_26 : decode cX2_takenByFields 26 = .ok (.isub, 1) := by decide +kernel
theorem dX2_takenByFields_27 : decode cX2_takenByFields 27 = .ok (.invokestatic 76, 3) := by decide +kernel
theorem dX2_takenByFields_30 : decode cX2_takenByFields 30 = .ok (.invokestatic 111, 3) := by decide +kernel
theorem dX2_takenByFields_33 : decode cX2_takenByFields 33 = .ok (.istore 4, 2) := by decide +kernel
theorem dX2_takenByFields_35 : decode cX2_takenByFields 35 = .ok (.aload_n 1, 1) := by decide +kernel
theorem dX2_takenByFields_36 : decode cX2_takenByFields 36 = .ok (.iload_n 2, 1) := by decide +kernel
theorem dX2_takenByFields_37 : decode cX2_takenByFields 37 = .ok (.invokevirtual 114, 3) := by decide +kernel
theorem dX2_takenByFields_40 : decode cX2_takenByFields 40 = .ok (.ifCond .eq 13, 3) := by decide +kernel
theorem dX2_takenByFields_43 : decode cX2_takenByFields 43 = .ok (.aload_n 0, 1) := by decide +kernel
theorem dX2_takenByFields_44 : decode cX2_takenByFields 44 = .ok (.getfield 26, 3) := by decide +kernel
theorem dX2_takenByFields_47 : decode cX2_takenByFields 47 = .ok (.getfield 118, 3) := by decide +kernel
theorem dX2_takenByFields_50 : decode cX2_takenByFields 50 = .ok (.goto 5, 3) := by decide +kernel
theorem dX2_takenByFields_53 : decode cX2_takenByFields 53 = .ok (.bipush 9, 2) := by decide +kernel
theorem dX2_takenByFields_55 : decode cX2_takenByFields 55 = .ok (.istore 5, 2) := by decide +kernel
theorem dX2_takenByFields_57 : decode cX2_takenByFields 57 = .ok (.aload_n 1, 1) := by decide +kernel
theorem dX2_takenByFields_58 : decode cX2_takenByFields 58 = .ok (.iload 5, 2) := by decide +kernel
theorem dX2_takenByFields_60 : decode cX2_takenByFields 60 = .ok (.invokestatic 121, 3) := by decide +kernel
theorem dX2_takenByFields_63 : decode cX2_takenByFields 63 = .ok (.istore 6, 2) := by decide +kernel
theorem dX2_takenByFields_65 : decode cX2_takenByFields 65 = .ok (.aload_n 0, 1) := by decide +kernel
theorem dX2_takenByFields_66 : decode cX2_takenByFields 66 = .ok (.getfield 26, 3) := by decide +kernel
theorem dX2_takenByFields_69 : decode cX2_takenByFields 69 = .ok (.getfield 124, 3) := by decide +kernel
theorem dX2_takenByFields_72 : decode cX2_takenByFields 72 = .ok (.ifCond .eq 23, 3) := by decide +kernel
theorem dX2_takenByFields_75 : decode cX2_takenByFields 75 = .ok (.iload 4, 2) := by decide +kernel
theorem dX2_takenByFields_77 : decode cX2_takenByFields 77 = .ok (.iload 6, 2) := by decide +kernel
theorem dX2_takenByFields_79 : decode cX2_takenByFields 79 = .ok (.if_icmp .ge 16, 3) := by decide +kernel
theorem dX2_takenByFields_82 : decode cX2_takenByFields 82 = .ok (.aload_n 1, 1) := by decide +kernel
theorem dX2_takenByFields_83 : decode cX2_takenByFields 83 = .ok (.iload 5, 2) := by decide +kernel
theorem dX2_takenByFields_85 : decode cX2_takenByFields 85 = .ok (.iload 4, 2) := by decide +kernel
theorem dX2_takenByFields_87 : decode cX2_takenByFields 87 = .ok (.iload 6, 2) := by decide +kernel
theorem dX2_takenByFields_89 : decode cX2_takenByFields 89 = .ok (.invokestatic 127, 3) := by decide +kernel
theorem dX2_takenByFields_92 : decode cX2_takenByFields 92 = .ok (.goto 11, 3) := by decide +kernel
theorem dX2_takenByFields_95 : decode cX2_takenByFields 95 = .ok (.aload_n 1, 1) := by decide +kernel
theorem dX2_takenByFields_96 : decode cX2_takenByFields 96 = .ok (.iload 5, 2) := by decide +kernel
theorem dX2_takenByFields_98 : decode cX2_takenByFields 98 = .ok (.iload 4, 2) := by decide +kernel
theorem dX2_takenByFields_100 : decode cX2_takenByFields 100 = .ok (.invokestatic 131, 3) := by decide +kernel
theorem dX2_takenByFields_103 : decode cX2_takenByFields 103 = .ok (.iconst 0, 1) := by decide +kernel
theorem dX2_takenByFields_104 : decode cX2_takenByFields 104 = .ok (.istore 7, 2) := by decide +kernel
theorem dX2_takenByFields_106 : decode cX2_takenByFields 106 = .ok (.aload_n 1, 1) := by decide +kernel
theorem dX2_takenByFields_107 : decode cX2_takenByFields 107 = .ok (.getfield 135, 3) := by decide +kernel
theorem dX2_takenByFields_110 : decode cX2_takenByFields 110 = .ok (.astore 8, 2) := by decide +kernel
theorem dX2_takenByFields_112 : decode cX2_takenByFields 112 = .ok (.aload 8, 2) := by decide +kernel
theorem dX2_takenByFields_114 : decode cX2_takenByFields 114 = .ok (.ifnull 49, 3) := by decide +kernel
theorem dX2_takenByFields_117 : decode cX2_takenByFields 117 = .ok (.iload 7, 2) := by decide +kernel
theorem dX2_takenByFields_119 : decode cX2_takenByFields 119 = .ok (.aload 8, 2) := by decide +kernel
theorem dX2_takenByFields_121 : decode cX2_takenByFields 121 = .ok (.getfield 139, 3) := by decide +kernel
theorem dX2_takenByFields_124 : decode cX2_takenByFields 124 = .ok (.iadd, 1) := by decide +kernel
theorem dX2_takenByFields_125 : decode cX2_takenByFields 125 = .ok (.istore 7, 2) := by decide +kernel
theorem dX2_takenByFields_127 : decode cX2_takenByFields 127 = .ok (.aload_n 0, 1) := by decide +kernel
theorem dX2_takenByFields_128 : decode cX2_takenByFields 128 = .ok (.dup, 1) := by decide +kernel
theorem dX2_takenByFields_129 : decode cX2_takenByFields 129 = .ok (.getfield 18, 3) := by decide +kernel
theorem dX2_takenByFields_132 : decode cX2_takenByFields 132 = .ok (.aload 8, 2) := by decide +kernel
theorem dX2_takenByFields_134 : decode cX2_takenByFields 134 = .ok (.invokevirtual 144, 3) := by decide +kernel
theorem dX2_takenByFields_137 : decode cX2_takenByFields 137 = .ok (.ifCond .eq 11, 3) := by decide +kernel
theorem dX2_takenByFields_140 : decode cX2_takenByFields 140 = .ok (.aload 8, 2) := by decide +kernel
theorem dX2_takenByFields_142 : decode cX2_takenByFields 142 = .ok (.getfield 148, 3) := by decide +kernel
theorem dX2_takenByFields_145 : decode cX2_takenByFields 145 = .ok (.goto 4, 3) := by decide +kernel
theorem dX2_takenByFields_148 : decode cX2_takenByFields 148 = .ok (.iconst 0, 1) := by decide +kernel
theorem dX2_takenByFields_149 : decode cX2_takenByFields 149 = .ok (.iadd, 1) := by decide +kernel
theorem dX2_takenByFields_150 : decode cX2_takenByFields 150 = .ok (.putfield 18, 3) := by decide +kernel
theorem dX2_takenByFields_153 : decode cX2_takenByFields 153 = .ok (.aload 8, 2) := by decide +kernel
theorem dX2_takenByFields_155 : decode cX2_takenByFields 155 = .ok (.getfield 151, 3) := by decide +kernel
theorem dX2_takenByFields_158 : decode cX2_takenByFields 158 = .ok (.astore 8, 2) := by decide +kernel
theorem dX2_takenByFields_160 : decode cX2_takenByFields 160 = .ok (.goto (-48), 3) := by decide +kernel
theorem dX2_takenByFields_163 : decode cX2_takenByFields 163 = .ok (.iload 7, 2) := by decide +kernel
theorem dX2_takenByFields_165 : decode cX2_takenByFields 165 = .ok (.ireturn, 1) := by decide +kernel
theorem dX2_areasWithin_0 : decode cX2_areasWithin 0 = .ok (.iconst 0, 1) := by decide +kernel
theorem dX2_areasWithin_1 : decode cX2_areasWithin 1 = .ok (.istore_n 2, 1) := by decide +kernel
theorem dX2_areasWithin_2 : decode cX2_areasWithin 2 = .ok (.aload_n 0, 1) := by decide +kernel
theorem dX2_areasWithin_3 : decode cX2_areasWithin 3 = .ok (.getfield 135, 3) := by decide +kernel
theorem dX2_areasWithin_6 : decode cX2_areasWithin 6 = .ok (.astore_n 3, 1) := by decide +kernel
theorem dX2_areasWithin_7 : decode cX2_areasWithin 7 = .ok (.aload_n 3, 1) := by decide +kernel
theorem dX2_areasWithin_8 : decode cX2_areasWithin 8 = .ok (.ifnull 30, 3) := by decide +kernel
theorem dX2_areasWithin_11 : decode cX2_areasWithin 11 = .ok (.iload_n 2, 1) := by decide +kernel
theorem dX2_areasWithin_12 : decode cX2_areasWithin 12 = .ok (.aload_n 3, 1) := by decide +kernel
theorem dX2_areasWithin_13 : decode cX2_areasWithin 13 = .ok (.getfield 154, 3) := by decide +kernel
theorem dX2_areasWithin_16 : decode cX2_areasWithin 16 = .ok (.iload_n 1, 1) := by decide +kernel
theorem dX2_areasWithin_17 : decode cX2_areasWithin 17 = .ok (.if_icmp .gt 10, 3) := by decide +kernel
theorem dX2_areasWithin_20 : decode cX2_areasWithin 20 = .ok (.aload_n 3, 1) := by decide +kernel
theorem dX2_areasWithin_21 : decode cX2_areasWithin 21 = .ok (.getfield 148, 3) := by decide +kernel
theorem dX2_areasWithin_24 : decode cX2_areasWithin 24 = .ok (.goto 4, 3) := by decide +kernel
theorem dX2_areasWithin_27 : decode cX2_areasWithin 27 = .ok (.iconst 0, 1) := by decide +kernel
theorem dX2_areasWithin_28 : decode cX2_areasWithin 28 = .ok (.iadd, 1) := by decide +kernel
theorem dX2_areasWithin_29 : decode cX2_areasWithin 29 = .ok (.istore_n 2, 1) := by decide +kernel
theorem dX2_areasWithin_30 : decode cX2_areasWithin 30 = .ok (.aload_n 3, 1) := by decide +kernel
theorem dX2_areasWithin_31 : decode cX2_areasWithin 31 = .ok (.getfield 151, 3) := by decide +kernel
theorem dX2_areasWithin_34 : decode cX2_areasWithin 34 = .ok (.astore_n 3, 1) := by decide +kernel
theorem dX2_areasWithin_35 : decode cX2_areasWithin 35 = .ok (.goto (-28), 3) := by decide +kernel
theorem dX2_areasWithin_38 : decode cX2_areasWithin 38 = .ok (.iload_n 2, 1) := by decide +kernel
theorem dX2_areasWithin_39 : decode cX2_areasWithin 39 = .ok (.ireturn, 1) := by decide +kernel
theorem dX2_shareInOrder_0 : decode cX2_shareInOrder 0 = .ok (.iload_n 2, 1) := by decide +kernel
theorem dX2_shareInOrder_1 : decode cX2_shareInOrder 1 = .ok (.istore_n 3, 1) := by decide +kernel
theorem dX2_shareInOrder_2 : decode cX2_shareInOrder 2 = .ok (.aload_n 0, 1) := by decide +kernel
theorem dX2_shareInOrder_3 : decode cX2_shareInOrder 3 = .ok (.getfield 135, 3) := by decide +kernel
theorem dX2_shareInOrder_6 : decode cX2_shareInOrder 6 = .ok (.astore 4, 2) := by decide +kernel
theorem dX2_shareInOrder_8 : decode cX2_shareInOrder 8 = .ok (.aload 4, 2) := by decide +kernel
theorem dX2_shareInOrder_10 : decode cX2_shareInOrder 10 = .ok (.ifnull 53, 3) := by decide +kernel
theorem dX2_shareInOrder_13 : decode cX2_shareInOrder 13 = .ok (.aload 4, 2) := by decide +kernel
theorem dX2_shareInOrder_15 : decode cX2_shareInOrder 15 = .ok (.aload 4, 2) := by decide +kernel
theorem dX2_shareInOrder_17 : decode cX2_shareInOrder 17 = .ok (.getfield 154, 3) := by decide +kernel
theorem dX2_shareInOrder_20 : decode cX2_shareInOrder 20 = .ok (.iload_n 1, 1) := by decide +kernel
theorem dX2_shareInOrder_21 : decode cX2_shareInOrder 21 = .ok (.if_icmp .gt 20, 3) := by decide +kernel
theorem dX2_shareInOrder_24 : decode cX2_shareInOrder 24 = .ok (.aload 4, 2) := by decide +kernel
theorem dX2_shareInOrder_26 : decode cX2_shareInOrder 26 = .ok (.getfield 148, 3) := by decide +kernel
theorem dX2_shareInOrder_29 : decode cX2_shareInOrder 29 = .ok (.iload_n 3, 1) := by decide +kernel
theorem dX2_shareInOrder_30 : decode cX2_shareInOrder 30 = .ok (.if_icmp .gt 11, 3) := by decide +kernel
theorem dX2_shareInOrder_33 : decode cX2_shareInOrder 33 = .ok (.aload 4, 2) := by decide +kernel
theorem dX2_shareInOrder_35 : decode cX2_shareInOrder 35 = .ok (.getfield 148, 3) := by decide +kernel
theorem dX2_shareInOrder_38 : decode cX2_shareInOrder 38 = .ok (.goto 4, 3) := by decide +kernel
theorem dX2_shareInOrder_41 : decode cX2_shareInOrder 41 = .ok (.iconst 0, 1) := by decide +kernel
theorem dX2_shareInOrder_42 : decode cX2_shareInOrder 42 = .ok (.putfield 139, 3) := by decide +kernel
theorem dX2_shareInOrder_45 : decode cX2_shareInOrder 45 = .ok (.iload_n 3, 1) := by decide +kernel
theorem dX2_shareInOrder_46 : decode cX2_shareInOrder 46 = .ok (.aload 4, 2) := by decide +kernel
theorem dX2_shareInOrder_48 : decode cX2_shareInOrder 48 = .ok (.getfield 139, 3) := by decide +kernel
theorem dX2_shareInOrder_51 : decode cX2_shareInOrder 51 = .ok (.isub, 1) := by decide +kernel
theorem dX2_shareInOrder_52 : decode cX2_shareInOrder 52 = .ok (.istore_n 3, 1) := by decide +kernel
theorem dX2_shareInOrder_53 : decode cX2_shareInOrder 53 = .ok (.aload 4, 2) := by decide +kernel
theorem dX2_shareInOrder_55 : decode cX2_shareInOrder 55 = .ok (.getfield 151, 3) := by decide +kernel
theorem dX2_shareInOrder_58 : decode cX2_shareInOrder 58 = .ok (.astore 4, 2) := by decide +kernel
theorem dX2_shareInOrder_60 : decode cX2_shareInOrder 60 = .ok (.goto (-52), 3) := by decide +kernel
theorem dX2_shareInOrder_63 : decode cX2_shareInOrder 63 = .ok (.return_, 1) := by decide +kernel
theorem dX2_shareFairly_0 : decode cX2_shareFairly 0 = .ok (.iload_n 2, 1) := by decide +kernel
theorem dX2_shareFairly_1 : decode cX2_shareFairly 1 = .ok (.istore 4, 2) := by decide +kernel
theorem dX2_shareFairly_3 : decode cX2_shareFairly 3 = .ok (.aload_n 0, 1) := by decide +kernel
theorem dX2_shareFairly_4 : decode cX2_shareFairly 4 = .ok (.getfield 135, 3) := by decide +kernel
theorem dX2_shareFairly_7 : decode cX2_shareFairly 7 = .ok (.astore 5, 2) := by decide +kernel
theorem dX2_shareFairly_9 : decode cX2_shareFairly 9 = .ok (.aload 5, 2) := by decide +kernel
theorem dX2_shareFairly_11 : decode cX2_shareFairly 11 = .ok (.ifnull 77, 3) := by decide +kernel
theorem dX2_shareFairly_14 : decode cX2_shareFairly 14 = .ok (.aload 5, 2) := by decide +kernel
theorem dX2_shareFairly_16 : decode cX2_shareFairly 16 = .ok (.getfield 154, 3) := by decide +kernel
theorem dX2_shareFairly_19 : decode cX2_shareFairly 19 = .ok (.iload_n 1, 1) := by decide +kernel
theorem dX2_shareFairly_20 : decode cX2_shareFairly 20 = .ok (.if_icmp .gt 13, 3) := by decide +kernel
theorem dX2_shareFairly_23 : decode cX2_shareFairly 23 = .ok (.iload_n 2, 1) := by decide +kernel
theorem dX2_shareFairly_24 : decode cX2_shareFairly 24 = .ok (.aload 5, 2) := by decide +kernel
theorem dX2_shareFairly_26 : decode cX2_shareFairly 26 = .ok (.getfield 148, 3) := by decide +kernel
theorem dX2_shareFairly_29 : decode cX2_shareFairly 29 = .ok (.imul, 1) := by decide +kernel
theorem dX2_shareFairly_30 : decode cX2_shareFairly 30 = .ok (.goto 4, 3) := by decide +kernel
theorem dX2_shareFairly_33 : decode cX2_shareFairly 33 = .ok (.iconst 0, 1) := by decide +kernel
theorem dX2_shareFairly_34 : decode cX2_shareFairly 34 = .ok (.istore 6, 2) := by decide +kernel
theorem dX2_shareFairly_36 : decode cX2_shareFairly 36 = .ok (.aload 5, 2) := by decide +kernel
theorem dX2_shareFairly_38 : decode cX2_shareFairly 38 = .ok (.iload_n 3, 1) := by decide +kernel
theorem dX2_shareFairly_39 : decode cX2_shareFairly 39 = .ok (.ifCond .le 10, 3) := by decide +kernel
theorem dX2_shareFairly_42 : decode cX2_shareFairly 42 = .ok (.iload 6, 2) := by decide +kernel
theorem dX2_shareFairly_44 : decode cX2_shareFairly 44 = .ok (.iload_n 3, 1) := by decide +kernel
theorem dX2_shareFairly_45 : decode cX2_shareFairly 45 = .ok (.idiv, 1) := by decide +kernel
theorem dX2_shareFairly_46 : decode cX2_shareFairly 46 = .ok (.goto 4, 3) := by decide +kernel
theorem dX2_shareFairly_49 : decode cX2_shareFairly 49 = .ok (.iconst 0, 1) := by decide +kernel
theorem dX2_shareFairly_50 : decode cX2_shareFairly 50 = .ok (.putfield 139, 3) := by decide +kernel
theorem dX2_shareFairly_53 : decode cX2_shareFairly 53 = .ok (.aload 5, 2) := by decide +kernel
theorem dX2_shareFairly_55 : decode cX2_shareFairly 55 = .ok (.iload 6, 2) := by decide +kernel
theorem dX2_shareFairly_57 : decode cX2_shareFairly 57 = .ok (.aload 5, 2) := by decide +kernel
theorem dX2_shareFairly_59 : decode cX2_shareFairly 59 = .ok (.getfield 139, 3) := by decide +kernel
theorem dX2_shareFairly_62 : decode cX2_shareFairly 62 = .ok (.iload_n 3, 1) := by decide +kernel
theorem dX2_shareFairly_63 : decode cX2_shareFairly 63 = .ok (.imul, 1) := by decide +kernel
theorem dX2_shareFairly_64 : decode cX2_shareFairly 64 = .ok (.isub, 1) := by decide +kernel
theorem dX2_shareFairly_65 : decode cX2_shareFairly 65 = .ok (.putfield 157, 3) := by decide +kernel
theorem dX2_shareFairly_68 : decode cX2_shareFairly 68 = .ok (.iload 4, 2) := by decide +kernel
theorem dX2_shareFairly_70 : decode cX2_shareFairly 70 = .ok (.aload 5, 2) := by decide +kernel
theorem dX2_shareFairly_72 : decode cX2_shareFairly 72 = .ok (.getfield 139, 3) := by decide +kernel
theorem dX2_shareFairly_75 : decode cX2_shareFairly 75 = .ok (.isub, 1) := by decide +kernel
theorem dX2_shareFairly_76 : decode cX2_shareFairly 76 = .ok (.istore 4, 2) := by decide +kernel
theorem dX2_shareFairly_78 : decode cX2_shareFairly 78 = .ok (.aload 5, 2) := by decide +kernel
theorem dX2_shareFairly_80 : decode cX2_shareFairly 80 = .ok (.getfield 151, 3) := by decide +kernel
theorem dX2_shareFairly_83 : decode cX2_shareFairly 83 = .ok (.astore 5, 2) := by decide +kernel
theorem dX2_shareFairly_85 : decode cX2_shareFairly 85 = .ok (.goto (-76), 3) := by decide +kernel
theorem dX2_shareFairly_88 : decode cX2_shareFairly 88 = .ok (.iload 4, 2) := by decide +kernel
theorem dX2_shareFairly_90 : decode cX2_shareFairly 90 = .ok (.ifCond .le 13, 3) := by decide +kernel
theorem dX2_shareFairly_93 : decode cX2_shareFairly 93 = .ok (.aload_n 0, 1) := by decide +kernel
theorem dX2_shareFairly_94 : decode cX2_shareFairly 94 = .ok (.invokestatic 160, 3) := by decide +kernel
theorem dX2_shareFairly_97 : decode cX2_shareFairly 97 = .ok (.iinc 4 (-1), 3) := by decide +kernel
theorem dX2_shareFairly_100 : decode cX2_shareFairly 100 = .ok (.goto (-12), 3) := by decide +kernel
theorem dX2_shareFairly_103 : decode cX2_shareFairly 103 = .ok (.return_, 1) := by decide +kernel
theorem dX2_giveOneMore_0 : decode cX2_giveOneMore 0 = .ok (.aconst_null, 1) := by decide +kernel
theorem dX2_giveOneMore_1 : decode cX2_giveOneMore 1 = .ok (.astore_n 1, 1) := by decide +kernel
theorem dX2_giveOneMore_2 : decode cX2_giveOneMore 2 = .ok (.iconst 0, 1) := by decide +kernel
theorem dX2_giveOneMore_3 : decode cX2_giveOneMore 3 = .ok (.istore_n 2, 1) := by decide +kernel
theorem dX2_giveOneMore_4 : decode cX2_giveOneMore 4 = .ok (.aload_n 0, 1) := by decide +kernel
theorem dX2_giveOneMore_5 : decode cX2_giveOneMore 5 = .ok (.getfield 135, 3) := by decide +kernel
theorem dX2_giveOneMore_8 : decode cX2_giveOneMore 8 = .ok (.astore_n 3, 1) := by decide +kernel
theorem dX2_giveOneMore_9 : decode cX2_giveOneMore 9 = .ok (.aload_n 3, 1) := by decide +kernel
theorem dX2_giveOneMore_10 : decode cX2_giveOneMore 10 = .ok (.ifnull 26, 3) := by decide +kernel
theorem dX2_giveOneMore_13 : decode cX2_giveOneMore 13 = .ok (.aload_n 3, 1) := by decide +kernel
theorem dX2_giveOneMore_14 : decode cX2_giveOneMore 14 = .ok (.getfield 157, 3) := by decide +kernel
theorem dX2_giveOneMore_17 : decode cX2_giveOneMore 17 = .ok (.iload_n 2, 1) := by decide +kernel
theorem dX2_giveOneMore_18 : decode cX2_giveOneMore 18 = .ok (.if_icmp .le 10, 3) := by decide +kernel
theorem dX2_giveOneMore_21 : decode cX2_giveOneMore 21 = .ok (.aload_n 3, 1) := by decide +kernel
theorem dX2_giveOneMore_22 : decode cX2_giveOneMore 22 = .ok (.getfield 157, 3) := by decide +kernel
theorem dX2_giveOneMore_25 : decode cX2_giveOneMore 25 = .ok (.istore_n 2, 1) := by decide +kernel
theorem dX2_giveOneMore_26 : decode cX2_giveOneMore 26 = .ok (.aload_n 3, 1) := by decide +kernel
theorem dX2_giveOneMore_27 : decode cX2_giveOneMore 27 = .ok (.astore_n 1, 1) := by decide +kernel
theorem dX2_giveOneMore_28 : decode cX2_giveOneMore 28 = .ok (.aload_n 3, 1) := by decide +kernel
theorem dX2_giveOneMore_29 : decode cX2_giveOneMore 29 = .ok (.getfield 151, 3) := by decide +kernel
theorem dX2_giveOneMore_32 : decode cX2_giveOneMore 32 = .ok (.astore_n 3, 1) := by decide +kernel
theorem dX2_giveOneMore_33 : decode cX2_giveOneMore 33 = .ok (.goto (-24), 3) := by decide +kernel
theorem dX2_giveOneMore_36 : decode cX2_giveOneMore 36 = .ok (.aload_n 1, 1) := by decide +kernel
theorem dX2_giveOneMore_37 : decode cX2_giveOneMore 37 = .ok (.ifnull 18, 3) := by decide +kernel
theorem dX2_giveOneMore_40 : decode cX2_giveOneMore 40 = .ok (.aload_n 1, 1) := by decide +kernel
theorem dX2_giveOneMore_41 : decode cX2_giveOneMore 41 = .ok (.dup, 1) := by decide +kernel
theorem dX2_giveOneMore_42 : decode cX2_giveOneMore 42 = .ok (.getfield 139, 3) := by decide +kernel
theorem dX2_giveOneMore_45 : decode cX2_giveOneMore 45 = .ok (.iconst 1, 1) := by decide +kernel
theorem dX2_giveOneMore_46 : decode cX2_giveOneMore 46 = .ok (.iadd, 1) := by decide +kernel
theorem dX2_giveOneMore_47 : decode cX2_giveOneMore 47 = .ok (.putfield 139, 3) := by decide +kernel
theorem dX2_giveOneMore_50 : decode cX2_giveOneMore 50 = .ok (.aload_n 1, 1) := by decide +kernel
theorem dX2_giveOneMore_51 : decode cX2_giveOneMore 51 = .ok (.iconst 0, 1) := by decide +kernel
theorem dX2_giveOneMore_52 : decode cX2_giveOneMore 52 = .ok (.putfield 157, 3) := by decide +kernel
theorem dX2_giveOneMore_55 : decode cX2_giveOneMore 55 = .ok (.return_, 1) := by decide +kernel
theorem dX3_init_0 : decode cX3_init 0 = .ok (.aload_n 0, 1) := by decide +kernel
theorem dX3_init_1 : decode cX3_init 1 = .ok (.invokespecial 1, 3) := by decide +kernel
theorem dX3_init_4 : decode cX3_init 4 = .ok (.aload_n 0, 1) := by decide +kernel
theorem dX3_init_5 : decode cX3_init 5 = .ok (.iconst 0, 1) := by decide +kernel
theorem dX3_init_6 : decode cX3_init 6 = .ok (.putfield 7, 3) := by decide +kernel
theorem dX3_init_9 : decode cX3_init 9 = .ok (.aload_n 0, 1) := by decide +kernel
theorem dX3_init_10 : decode cX3_init 10 = .ok (.iconst 0, 1) := by decide +kernel
theorem dX3_init_11 : decode cX3_init 11 = .ok (.putfield 13, 3) := by decide +kernel
theorem dX3_init_14 : decode cX3_init 14 = .ok (.aload_n 0, 1) := by decide +kernel
theorem dX3_init_15 : decode cX3_init 15 = .ok (.iconst 0, 1) := by decide +kernel
theorem dX3_init_16 : decode cX3_init 16 = .ok (.putfield 16, 3) := by decide +kernel
theorem dX3_init_19 : decode cX3_init 19 = .ok (.aload_n 0, 1) := by decide +kernel
theorem dX3_init_20 : decode cX3_init 20 = .ok (.iconst 0, 1) := by decide +kernel
theorem dX3_init_21 : decode cX3_init 21 = .ok (.putfield 20, 3) := by decide +kernel
theorem dX3_init_24 : decode cX3_init 24 = .ok (.aload_n 0, 1) := by decide +kernel
theorem dX3_init_25 : decode cX3_init 25 = .ok (.iconst 0, 1) := by decide +kernel
theorem dX3_init_26 : decode cX3_init 26 = .ok (.putfield 23, 3) := by decide +kernel
theorem dX3_init_29 : decode cX3_init 29 = .ok (.return_, 1) := by decide +kernel
theorem dX3_becomeAs_0 : decode cX3_becomeAs 0 = .ok (.aload_n 0, 1) := by decide +kernel
theorem dX3_becomeAs_1 : decode cX3_becomeAs 1 = .ok (.aload_n 1, 1) := by decide +kernel
theorem dX3_becomeAs_2 : decode cX3_becomeAs 2 = .ok (.getfield 7, 3) := by decide +kernel
theorem dX3_becomeAs_5 : decode cX3_becomeAs 5 = .ok (.putfield 7, 3) := by decide +kernel
theorem dX3_becomeAs_8 : decode cX3_becomeAs 8 = .ok (.aload_n 0, 1) := by decide +kernel
theorem dX3_becomeAs_9 : decode cX3_becomeAs 9 = .ok (.aload_n 1, 1) := by decide +kernel
theorem dX3_becomeAs_10 : decode cX3_becomeAs 10 = .ok (.getfield 13, 3) := by decide +kernel
theorem dX3_becomeAs_13 : decode cX3_becomeAs 13 = .ok (.putfield 13, 3) := by decide +kernel
theorem dX3_becomeAs_16 : decode cX3_becomeAs 16 = .ok (.aload_n 0, 1) := by decide +kernel
theorem dX3_becomeAs_17 : decode cX3_becomeAs 17 = .ok (.aload_n 1, 1) := by decide +kernel
theorem dX3_becomeAs_18 : decode cX3_becomeAs 18 = .ok (.getfield 16, 3) := by decide +kernel
theorem dX3_becomeAs_21 : decode cX3_becomeAs 21 = .ok (.putfield 16, 3) := by decide +kernel
theorem dX3_becomeAs_24 : decode cX3_becomeAs 24 = .ok (.aload_n 0, 1) := by decide +kernel
theorem dX3_becomeAs_25 : decode cX3_becomeAs 25 = .ok (.aload_n 1, 1) := by decide +kernel
theorem dX3_becomeAs_26 : decode cX3_becomeAs 26 = .ok (.getfield 20, 3) := by decide +kernel
theorem dX3_becomeAs_29 : decode cX3_becomeAs 29 = .ok (.putfield 20, 3) := by decide +kernel
theorem dX3_becomeAs_32 : decode cX3_becomeAs 32 = .ok (.aload_n 0, 1) := by decide +kernel
theorem dX3_becomeAs_33 : decode cX3_becomeAs 33 = .ok (.aload_n 1, 1) := by decide +kernel
theorem dX3_becomeAs_34 : decode cX3_becomeAs 34 = .ok (.getfield 23, 3) := by decide +kernel
theorem dX3_becomeAs_37 : decode cX3_becomeAs 37 = .ok (.putfield 23, 3) := by decide +kernel
theorem dX3_becomeAs_40 : decode cX3_becomeAs 40 = .ok (.return_, 1) := by decide +kernel
theorem dX4_init_0 : decode cX4_init 0 = .ok (.aload_n 0, 1) := by decide +kernel
theorem dX4_init_1 : decode cX4_init 1 = .ok (.invokespecial 1, 3) := by decide +kernel
theorem dX4_init_4 : decode cX4_init 4 = .ok (.aload_n 0, 1) := by decide +kernel
theorem dX4_init_5 : decode cX4_init 5 = .ok (.iconst 0, 1) := by decide +kernel
theorem dX4_init_6 : decode cX4_init 6 = .ok (.putfield 7, 3) := by decide +kernel
theorem dX4_init_9 : decode cX4_init 9 = .ok (.aload_n 0, 1) := by decide +kernel
theorem dX4_init_10 : decode cX4_init 10 = .ok (.iconst 0, 1) := by decide +kernel
theorem dX4_init_11 : decode cX4_init 11 = .ok (.putfield 13, 3) := by decide +kernel
theorem dX4_init_14 : decode cX4_init 14 = .ok (.aload_n 0, 1) := by decide +kernel
theorem dX4_init_15 : decode cX4_init 15 = .ok (.iconst 0, 1) := by decide +kernel
theorem dX4_init_16 : decode cX4_init 16 = .ok (.putfield 16, 3) := by decide +kernel
theorem dX4_init_19 : decode cX4_init 19 = .ok (.aload_n 0, 1) := by decide +kernel
theorem dX4_init_20 : decode cX4_init 20 = .ok (.iconst 0, 1) := by decide +kernel
theorem dX4_init_21 : decode cX4_init 21 = .ok (.putfield 19, 3) := by decide +kernel
theorem dX4_init_24 : decode cX4_init 24 = .ok (.return_, 1) := by decide +kernel
theorem dX4_clear_0 : decode cX4_clear 0 = .ok (.aload_n 0, 1) := by decide +kernel
theorem dX4_clear_1 : decode cX4_clear 1 = .ok (.iconst 0, 1) := by decide +kernel
theorem dX4_clear_2 : decode cX4_clear 2 = .ok (.putfield 7, 3) := by decide +kernel
theorem dX4_clear_5 : decode cX4_clear 5 = .ok (.aload_n 0, 1) := by decide +kernel
theorem dX4_clear_6 : decode cX4_clear 6 = .ok (.iconst 0, 1) := by decide +kernel
theorem dX4_clear_7 : decode cX4_clear 7 = .ok (.putfield 13, 3) := by decide +kernel
theorem dX4_clear_10 : decode cX4_clear 10 = .ok (.aload_n 0, 1) := by decide +kernel
theorem dX4_clear_11 : decode cX4_clear 11 = .ok (.iconst 0, 1) := by decide +kernel
theorem dX4_clear_12 : decode cX4_clear 12 = .ok (.putfield 16, 3) := by decide +kernel
theorem dX4_clear_15 : decode cX4_clear 15 = .ok (.aload_n 0, 1) := by decide +kernel
theorem dX4_clear_16 : decode cX4_clear 16 = .ok (.iconst 0, 1) := by decide +kernel
theorem dX4_clear_17 : decode cX4_clear 17 = .ok (.putfield 19, 3) := by decide +kernel
theorem dX4_clear_20 : decode cX4_clear 20 = .ok (.return_, 1) := by decide +kernel
theorem dX4_addAll_0 : decode cX4_addAll 0 = .ok (.aload_n 0, 1) := by decide +kernel
theorem dX4_addAll_1 : decode cX4_addAll 1 = .ok (.dup, 1) := by decide +kernel
theorem dX4_addAll_2 : decode cX4_addAll 2 = .ok (.getfield 7, 3) := by decide +kernel
theorem dX4_addAll_5 : decode cX4_addAll 5 = .ok (.aload_n 1, 1) := by decide +kernel
theorem dX4_addAll_6 : decode cX4_addAll 6 = .ok (.getfield 7, 3) := by decide +kernel
theorem dX4_addAll_9 : decode cX4_addAll 9 = .ok (.iadd, 1) := by decide +kernel
theorem dX4_addAll_10 : decode cX4_addAll 10 = .ok (.putfield 7, 3) := by decide +kernel
theorem dX4_addAll_13 : decode cX4_addAll 13 = .ok (.aload_n 0, 1) := by decide +kernel
theorem dX4_addAll_14 : decode cX4_addAll 14 = .ok (.dup, 1) := by decide +kernel
theorem dX4_addAll_15 : decode cX4_addAll 15 = .ok (.getfield 13, 3) := by decide +kernel
theorem dX4_addAll_18 : decode cX4_addAll 18 = .ok (.aload_n 1, 1) := by decide +kernel
theorem dX4_addAll_19 : decode cX4_addAll 19 = .ok (.getfield 13, 3) := by decide +kernel
theorem dX4_addAll_22 : decode cX4_addAll 22 = .ok (.iadd, 1) := by decide +kernel
theorem dX4_addAll_23 : decode cX4_addAll 23 = .ok (.putfield 13, 3) := by decide +kernel
theorem dX4_addAll_26 : decode cX4_addAll 26 = .ok (.aload_n 0, 1) := by decide +kernel
theorem dX4_addAll_27 : decode cX4_addAll 27 = .ok (.dup, 1) := by decide +kernel
theorem dX4_addAll_28 : decode cX4_addAll 28 = .ok (.getfield 16, 3) := by decide +kernel
theorem dX4_addAll_31 : decode cX4_addAll 31 = .ok (.aload_n 1, 1) := by decide +kernel
theorem dX4_addAll_32 : decode cX4_addAll 32 = .ok (.getfield 16, 3) := by decide +kernel
theorem dX4_addAll_35 : decode cX4_addAll 35 = .ok (.iadd, 1) := by decide +kernel
theorem dX4_addAll_36 : decode cX4_addAll 36 = .ok (.putfield 16, 3) := by decide +kernel
theorem dX4_addAll_39 : decode cX4_addAll 39 = .ok (.aload_n 0, 1) := by decide +kernel
theorem dX4_addAll_40 : decode cX4_addAll 40 = .ok (.dup, 1) := by decide +kernel
theorem dX4_addAll_41 : decode cX4_addAll 41 = .ok (.getfield 19, 3) := by decide +kernel
theorem dX4_addAll_44 : decode cX4_addAll 44 = .ok (.aload_n 1, 1) := by decide +kernel
theorem dX4_addAll_45 : decode cX4_addAll 45 = .ok (.getfield 19, 3) := by decide +kernel
theorem dX4_addAll_48 : decode cX4_addAll 48 = .ok (.iadd, 1) := by decide +kernel
theorem dX4_addAll_49 : decode cX4_addAll 49 = .ok (.putfield 19, 3) := by decide +kernel
theorem dX4_addAll_52 : decode cX4_addAll 52 = .ok (.return_, 1) := by decide +kernel
theorem dX5_init_0 : decode cX5_init 0 = .ok (.aload_n 0, 1) := by decide +kernel
theorem dX5_init_1 : decode cX5_init 1 = .ok (.invokespecial 3, 3) := by decide +kernel
theorem dX5_init_4 : decode cX5_init 4 = .ok (.aload_n 0, 1) := by decide +kernel
theorem dX5_init_5 : decode cX5_init 5 = .ok (.new 9, 3) := by decide +kernel
theorem dX5_init_8 : decode cX5_init 8 = .ok (.dup, 1) := by decide +kernel
theorem dX5_init_9 : decode cX5_init 9 = .ok (.invokespecial 11, 3) := by decide +kernel
theorem dX5_init_12 : decode cX5_init 12 = .ok (.putfield 12, 3) := by decide +kernel
theorem dX5_init_15 : decode cX5_init 15 = .ok (.aload_n 0, 1) := by decide +kernel
theorem dX5_init_16 : decode cX5_init 16 = .ok (.new 9, 3) := by decide +kernel
theorem dX5_init_19 : decode cX5_init 19 = .ok (.dup, 1) := by decide +kernel
theorem dX5_init_20 : decode cX5_init 20 = .ok (.invokespecial 11, 3) := by decide +kernel
theorem dX5_init_23 : decode cX5_init 23 = .ok (.putfield 18, 3) := by decide +kernel
theorem dX5_init_26 : decode cX5_init 26 = .ok (.aload_n 0, 1) := by decide +kernel
theorem dX5_init_27 : decode cX5_init 27 = .ok (.iconst 0, 1) := by decide +kernel
theorem dX5_init_28 : decode cX5_init 28 = .ok (.putfield 21, 3) := by decide +kernel
theorem dX5_init_31 : decode cX5_init 31 = .ok (.aload_n 0, 1) := by decide +kernel
theorem dX5_init_32 : decode cX5_init 32 = .ok (.bipush 100, 2) := by decide +kernel
theorem dX5_init_34 : decode cX5_init 34 = .ok (.putfield 25, 3) := by decide +kernel
theorem dX5_init_37 : decode cX5_init 37 = .ok (.aload_n 0, 1) := by decide +kernel
theorem dX5_init_38 : decode cX5_init 38 = .ok (.bipush 50, 2) := by decide +kernel
theorem dX5_init_40 : decode cX5_init 40 = .ok (.putfield 28, 3) := by decide +kernel
theorem dX5_init_43 : decode cX5_init 43 = .ok (.aload_n 0, 1) := by decide +kernel
theorem dX5_init_44 : decode cX5_init 44 = .ok (.iconst 0, 1) := by decide +kernel
theorem dX5_init_45 : decode cX5_init 45 = .ok (.putfield 31, 3) := by decide +kernel
theorem dX5_init_48 : decode cX5_init 48 = .ok (.aload_n 0, 1) := by decide +kernel
theorem dX5_init_49 : decode cX5_init 49 = .ok (.iconst (-1), 1) := by decide +kernel
theorem dX5_init_50 : decode cX5_init 50 = .ok (.putfield 34, 3) := by decide +kernel
theorem dX5_init_53 : decode cX5_init 53 = .ok (.aload_n 0, 1) := by decide +kernel
theorem dX5_init_54 : decode cX5_init 54 = .ok (.aconst_null, 1) := by decide +kernel
theorem dX5_init_55 : decode cX5_init 55 = .ok (.putfield 37, 3) := by decide +kernel
theorem dX5_init_58 : decode cX5_init 58 = .ok (.aload_n 0, 1) := by decide +kernel
theorem dX5_init_59 : decode cX5_init 59 = .ok (.iload_n 1, 1) := by decide +kernel
theorem dX5_init_60 : decode cX5_init 60 = .ok (.putfield 41, 3) := by decide +kernel
theorem dX5_init_63 : decode cX5_init 63 = .ok (.aload_n 0, 1) := by decide +kernel
theorem dX5_init_64 : decode cX5_init 64 = .ok (.aload_n 2, 1) := by decide +kernel
theorem dX5_init_65 : decode cX5_init 65 = .ok (.putfield 44, 3) := by decide +kernel
theorem dX5_init_68 : decode cX5_init 68 = .ok (.return_, 1) := by decide +kernel
theorem dX5_roomIf_0 : decode cX5_roomIf 0 = .ok (.iload_n 1, 1) := by decide +kernel
theorem dX5_roomIf_1 : decode cX5_roomIf 1 = .ok (.ifCond .eq 7, 3) := by decide +kernel
theorem dX5_roomIf_4 : decode cX5_roomIf 4 = .ok (.iconst 0, 1) := by decide +kernel
theorem dX5_roomIf_5 : decode cX5_roomIf 5 = .ok (.goto 12, 3) := by decide +kernel
theorem dX5_roomIf_8 : decode cX5_roomIf 8 = .ok (.aload_n 0, 1) := by decide +kernel
theorem dX5_roomIf_9 : decode cX5_roomIf 9 = .ok (.getfield 25, 3) := by decide +kernel
theorem dX5_roomIf_12 : decode cX5_roomIf 12 = .ok (.aload_n 0, 1) := by decide +kernel
theorem dX5_roomIf_13 : decode cX5_roomIf 13 = .ok (.getfield 31, 3) := by decide +kernel
theorem dX5_roomIf_16 : decode cX5_roomIf 16 = .ok (.isub, 1) := by decide +kernel
theorem dX5_roomIf_17 : decode cX5_roomIf 17 = .ok (.ireturn, 1) := by decide +kernel
theorem dX5_isBadYearWith_0 : decode cX5_isBadYearWith 0 = .ok (.iload_n 1, 1) := by decide +kernel
theorem dX5_isBadYearWith_1 : decode cX5_isBadYearWith 1 = .ok (.aload_n 0, 1) := by decide +kernel
theorem dX5_isBadYearWith_2 : decode cX5_isBadYearWith 2 = .ok (.getfield 25, 3) := by decide +kernel
theorem dX5_isBadYearWith_5 : decode cX5_isBadYearWith 5 = .ok (.iconst 2, 1) := by decide +kernel
theorem dX5_isBadYearWith_6 : decode cX5_isBadYearWith 6 = .ok (.idiv, 1) := by decide +kernel
theorem dX5_isBadYearWith_7 : decode cX5_isBadYearWith 7 = .ok (.if_icmp .ge 7, 3) := by decide +kernel
theorem dX5_isBadYearWith_10 : decode cX5_isBadYearWith 10 = .ok (.iconst 1, 1) := by decide +kernel
theorem dX5_isBadYearWith_11 : decode cX5_isBadYearWith 11 = .ok (.goto 4, 3) := by decide +kernel
theorem dX5_isBadYearWith_14 : decode cX5_isBadYearWith 14 = .ok (.iconst 0, 1) := by decide +kernel
theorem dX5_isBadYearWith_15 : decode cX5_isBadYearWith 15 = .ok (.ireturn, 1) := by decide +kernel
theorem dX5_putInOrder_0 : decode cX5_putInOrder 0 = .ok (.aconst_null, 1) := by decide +kernel
theorem dX5_putInOrder_1 : decode cX5_putInOrder 1 = .ok (.astore_n 3, 1) := by decide +kernel
theorem dX5_putInOrder_2 : decode cX5_putInOrder 2 = .ok (.aload_n 0, 1) := by decide +kernel
theorem dX5_putInOrder_3 : decode cX5_putInOrder 3 = .ok (.getfield 37, 3) := by decide +kernel
theorem dX5_putInOrder_6 : decode cX5_putInOrder 6 = .ok (.astore 4, 2) := by decide +kernel
theorem dX5_putInOrder_8 : decode cX5_putInOrder 8 = .ok (.aload 4, 2) := by decide +kernel
theorem dX5_putInOrder_10 : decode cX5_putInOrder 10 = .ok (.ifnull 26, 3) := by decide +kernel
theorem dX5_putInOrder_13 : decode cX5_putInOrder 13 = .ok (.aload_n 2, 1) := by decide +kernel
theorem dX5_putInOrder_14 : decode cX5_putInOrder 14 = .ok (.aload_n 1, 1) := by decide +kernel
theorem dX5_putInOrder_15 : decode cX5_putInOrder 15 = .ok (.aload 4, 2) := by decide +kernel
theorem dX5_putInOrder_17 : decode cX5_putInOrder 17 = .ok (.invokevirtual 48, 3) := by decide +kernel
theorem dX5_putInOrder_20 : decode cX5_putInOrder 20 = .ok (.ifCond .ne 16, 3) := by decide +kernel
theorem dX5_putInOrder_23 : decode cX5_putInOrder 23 = .ok (.aload 4, 2) := by decide +kernel
theorem dX5_putInOrder_25 : decode cX5_putInOrder 25 = .ok (.astore_n 3, 1) := by decide +kernel
theorem dX5_putInOrder_26 : decode cX5_putInOrder 26 = .ok (.aload 4, 2) := by decide +kernel
theorem dX5_putInOrder_28 : decode cX5_putInOrder 28 = .ok (.getfield 54, 3) := by decide +kernel
theorem dX5_putInOrder_31 : decode cX5_putInOrder 31 = .ok (.astore 4, 2) := by decide +kernel
theorem dX5_putInOrder_33 : decode cX5_putInOrder 33 = .ok (.goto (-25), 3) := by decide +kernel
theorem dX5_putInOrder_36 : decode cX5_putInOrder 36 = .ok (.aload_n 1, 1) := by decide +kernel
theorem dX5_putInOrder_37 : decode cX5_putInOrder 37 = .ok (.aload 4, 2) := by decide +kernel
theorem dX5_putInOrder_39 : decode cX5_putInOrder 39 = .ok (.putfield 54, 3) := by decide +kernel
theorem dX5_putInOrder_42 : decode cX5_putInOrder 42 = .ok (.aload_n 3, 1) := by decide +kernel
theorem dX5_putInOrder_43 : decode cX5_putInOrder 43 = .ok (.ifnonnull 11, 3) := by decide +kernel
theorem dX5_putInOrder_46 : decode cX5_putInOrder 46 = .ok (.aload_n 0, 1) := by decide +kernel
theorem dX5_putInOrder_47 : decode cX5_putInOrder 47 = .ok (.aload_n 1, 1) := by decide +kernel
theorem dX5_putInOrder_48 : decode cX5_putInOrder 48 = .ok (.putfield 37, 3) := by decide +kernel
theorem dX5_putInOrder_51 : decode cX5_putInOrder 51 = .ok (.goto 8, 3) := by decide +kernel
theorem dX5_putInOrder_54 : decode cX5_putInOrder 54 = .ok (.aload_n 3, 1) := by decide +kernel
theorem dX5_putInOrder_55 : decode cX5_putInOrder 55 = .ok (.aload_n 1, 1) := by decide +kernel
theorem dX5_putInOrder_56 : decode cX5_putInOrder 56 = .ok (.putfield 54, 3) := by decide +kernel
theorem dX5_putInOrder_59 : decode cX5_putInOrder 59 = .ok (.return_, 1) := by decide +kernel
theorem dX6_init_0 : decode cX6_init 0 = .ok (.aload_n 0, 1) := by decide +kernel
theorem dX6_init_1 : decode cX6_init 1 = .ok (.invokespecial 3, 3) := by decide +kernel
theorem dX6_init_4 : decode cX6_init 4 = .ok (.aload_n 0, 1) := by decide +kernel
theorem dX6_init_5 : decode cX6_init 5 = .ok (.sipush 300, 3) := by decide +kernel
theorem dX6_init_8 : decode cX6_init 8 = .ok (.newarray .byte, 2) := by decide +kernel
theorem dX6_init_10 : decode cX6_init 10 = .ok (.putfield 9, 3) := by decide +kernel
theorem dX6_init_13 : decode cX6_init 13 = .ok (.aload_n 0, 1) := by decide +kernel
theorem dX6_init_14 : decode cX6_init 14 = .ok (.iconst 0, 1) := by decide +kernel
theorem dX6_init_15 : decode cX6_init 15 = .ok (.putfield 15, 3) := by decide +kernel
theorem dX6_init_18 : decode cX6_init 18 = .ok (.aload_n 0, 1) := by decide +kernel
theorem dX6_init_19 : decode cX6_init 19 = .ok (.iconst 0, 1) := by decide +kernel
theorem dX6_init_20 : decode cX6_init 20 = .ok (.putfield 19, 3) := by decide +kernel
theorem dX6_init_23 : decode cX6_init 23 = .ok (.aload_n 0, 1) := by decide +kernel
theorem dX6_init_24 : decode cX6_init 24 = .ok (.iconst 0, 1) := by decide +kernel
theorem dX6_init_25 : decode cX6_init 25 = .ok (.putfield 22, 3) := by decide +kernel
theorem dX6_init_28 : decode cX6_init 28 = .ok (.aload_n 0, 1) := by decide +kernel
theorem dX6_init_29 : decode cX6_init 29 = .ok (.iconst 0, 1) := by decide +kernel
theorem dX6_init_30 : decode cX6_init 30 = .ok (.putfield 25, 3) := by decide +kernel
theorem dX6_init_33 : decode cX6_init 33 = .ok (.aload_n 0, 1) := by decide +kernel
theorem dX6_init_34 : decode cX6_init 34 = .ok (.iconst 0, 1) := by decide +kernel
theorem dX6_init_35 : decode cX6_init 35 = .ok (.putfield 28, 3) := by decide +kernel
theorem dX6_init_38 : decode cX6_init 38 = .ok (.return_, 1) := by decide +kernel
theorem dX6_putFour_0 : decode cX6_putFour 0 = .ok (.aload_n 0, 1) := by decide +kernel
theorem dX6_putFour_1 : decode cX6_putFour 1 = .ok (.iload_n 1, 1) := by decide +kernel
theorem dX6_putFour_2 : decode cX6_putFour 2 = .ok (.bipush 24, 2) := by decide +kernel
theorem dX6_putFour_4 : decode cX6_putFour 4 = .ok (.ishr, 1) := by decide +kernel
theorem dX6_putFour_5 : decode cX6_putFour 5 = .ok (.invokevirtual 31, 3) := by decide +kernel
theorem dX6_putFour_8 : decode cX6_putFour 8 = .ok (.aload_n 0, 1) := by decide +kernel
theorem dX6_putFour_9 : decode cX6_putFour 9 = .ok (.iload_n 1, 1) := by decide +kernel
theorem dX6_putFour_10 : decode cX6_putFour 10 = .ok (.bipush 16, 2) := by decide +kernel
theorem dX6_putFour_12 : decode cX6_putFour 12 = .ok (.ishr, 1) := by decide +kernel
theorem dX6_putFour_13 : decode cX6_putFour 13 = .ok (.invokevirtual 31, 3) := by decide +kernel
theorem dX6_putFour_16 : decode cX6_putFour 16 = .ok (.aload_n 0, 1) := by decide +kernel
theorem dX6_putFour_17 : decode cX6_putFour 17 = .ok (.iload_n 1, 1) := by decide +kernel
theorem dX6_putFour_18 : decode cX6_putFour 18 = .ok (.bipush 8, 2) := by decide +kernel
theorem dX6_putFour_20 : decode cX6_putFour 20 = .ok (.ishr, 1) := by decide +kernel
theorem dX6_putFour_21 : decode cX6_putFour 21 = .ok (.invokevirtual 31, 3) := by decide +kernel
theorem dX6_putFour_24 : decode cX6_putFour 24 = .ok (.aload_n 0, 1) := by decide +kernel
theorem dX6_putFour_25 : decode cX6_putFour 25 = .ok (.iload_n 1, 1) := by decide +kernel
theorem dX6_putFour_26 : decode cX6_putFour 26 = .ok (.invokevirtual 31, 3) := by decide +kernel
theorem dX6_putFour_29 : decode cX6_putFour 29 = .ok (.return_, 1) := by decide +kernel
theorem dX6_putByte_0 : decode cX6_putByte 0 = .ok (.aload_n 0, 1) := by decide +kernel
theorem dX6_putByte_1 : decode cX6_putByte 1 = .ok (.getfield 15, 3) := by decide +kernel
theorem dX6_putByte_4 : decode cX6_putByte 4 = .ok (.ifCond .lt 36, 3) := by decide +kernel
theorem dX6_putByte_7 : decode cX6_putByte 7 = .ok (.aload_n 0, 1) := by decide +kernel
theorem dX6_putByte_8 : decode cX6_putByte 8 = .ok (.getfield 15, 3) := by decide +kernel
theorem dX6_putByte_11 : decode cX6_putByte 11 = .ok (.aload_n 0, 1) := by decide +kernel
theorem dX6_putByte_12 : decode cX6_putByte 12 = .ok (.getfield 9, 3) := by decide +kernel
theorem dX6_putByte_15 : decode cX6_putByte 15 = .ok (.arraylength, 1) := by decide +kernel
theorem dX6_putByte_16 : decode cX6_putByte 16 = .ok (.if_icmp .ge 24, 3) := by decide +kernel
theorem dX6_putByte_19 : decode cX6_putByte 19 = .ok (.aload_n 0, 1) := by decide +kernel
theorem dX6_putByte_20 : decode cX6_putByte 20 = .ok (.getfield 9, 3) := by decide +kernel
theorem dX6_putByte_23 : decode cX6_putByte 23 = .ok (.aload_n 0, 1) := by decide +kernel
theorem dX6_putByte_24 : decode cX6_putByte 24 = .ok (.getfield 15, 3) := by decide +kernel
theorem dX6_putByte_27 : decode cX6_putByte 27 = .ok (.iload_n 1, 1) := by decide +kernel
theorem dX6_putByte_28 : decode cX6_putByte 28 = .ok (.i2b, 1) := by decide +kernel
theorem dX6_putByte_29 : decode cX6_putByte 29 = .ok (.bastore, 1) := by decide +kernel
theorem dX6_putByte_30 : decode cX6_putByte 30 = .ok (.aload_n 0, 1) := by decide +kernel
theorem dX6_putByte_31 : decode cX6_putByte 31 = .ok (.dup, 1) := by decide +kernel
theorem dX6_putByte_32 : decode cX6_putByte 32 = .ok (.getfield 15, 3) := by decide +kernel
theorem dX6_putByte_35 : decode cX6_putByte 35 = .ok (.iconst 1, 1) := by decide +kernel
theorem dX6_putByte_36 : decode cX6_putByte 36 = .ok (.iadd, 1) := by decide +kernel
theorem dX6_putByte_37 : decode cX6_putByte 37 = .ok (.putfield 15, 3) := by decide +kernel
theorem dX6_putByte_40 : decode cX6_putByte 40 = .ok (.return_, 1) := by decide +kernel
theorem dX6_faultReading_0 : decode cX6_faultReading 0 = .ok (.aload_n 0, 1) := by decide +kernel
theorem dX6_faultReading_1 : decode cX6_faultReading 1 = .ok (.iload_n 2, 1) := by decide +kernel
theorem dX6_faultReading_2 : decode cX6_faultReading 2 = .ok (.putfield 19, 3) := by decide +kernel
theorem dX6_faultReading_5 : decode cX6_faultReading 5 = .ok (.aload_n 0, 1) := by decide +kernel
theorem dX6_faultReading_6 : decode cX6_faultReading 6 = .ok (.iconst 0, 1) := by decide +kernel
theorem dX6_faultReading_7 : decode cX6_faultReading 7 = .ok (.putfield 28, 3) := by decide +kernel
theorem dX6_faultReading_10 : decode cX6_faultReading 10 = .ok (.aload_n 1, 1) := by decide +kernel
theorem dX6_faultReading_11 : decode cX6_faultReading 11 = .ok (.invokevirtual 35, 3) := by decide +kernel
theorem dX6_faultReading_14 : decode cX6_faultReading 14 = .ok (.aload_n 0, 1) := by decide +kernel
theorem dX6_faultReading_15 : decode cX6_faultReading 15 = .ok (.invokevirtual 40, 3) := by decide +kernel
theorem dX6_faultReading_18 : decode cX6_faultReading 18 = .ok (.aload_n 0, 1) := by decide +kernel
theorem dX6_faultReading_19 : decode cX6_faultReading 19 = .ok (.getfield 22, 3) := by decide +kernel
theorem dX6_faultReading_22 : decode cX6_faultReading 22 = .ok (.ifCond .eq 42, 3) := by decide +kernel
theorem dX6_faultReading_25 : decode cX6_faultReading 25 = .ok (.aload_n 1, 1) := by decide +kernel
theorem dX6_faultReading_26 : decode cX6_faultReading 26 = .ok (.getfield 43, 3) := by decide +kernel
theorem dX6_faultReading_29 : decode cX6_faultReading 29 = .ok (.bipush 10, 2) := by decide +kernel
theorem dX6_faultReading_31 : decode cX6_faultReading 31 = .ok (.if_icmp .ge 33, 3) := by decide +kernel
theorem dX6_faultReading_34 : decode cX6_faultReading 34 = .ok (.aload_n 0, 1) := by decide +kernel
theorem dX6_faultReading_35 : decode cX6_faultReading 35 = .ok (.aload_n 1, 1) := by decide +kernel
theorem dX6_faultReading_36 : decode cX6_faultReading 36 = .ok (.invokevirtual 46, 3) := by decide +kernel
theorem dX6_faultReading_39 : decode cX6_faultReading 39 = .ok (.ifCond .ne 8, 3) := by decide +kernel
theorem dX6_faultReading_42 : decode cX6_faultReading 42 = .ok (.aload_n 0, 1) := by decide +kernel
theorem dX6_faultReading_43 : decode cX6_faultReading 43 = .ok (.getfield 25, 3) := by decide +kernel
theorem dX6_faultReading_46 : decode cX6_faultReading 46 = .ok (.ireturn, 1) := by decide +kernel
theorem dX6_faultReading_47 : decode cX6_faultReading 47 = .ok (.aload_n 1, 1) := by decide +kernel
theorem dX6_faultReading_48 : decode cX6_faultReading 48 = .ok (.dup, 1) := by decide +kernel
theorem dX6_faultReading_49 : decode cX6_faultReading 49 = .ok (.getfield 43, 3) := by decide +kernel
theorem dX6_faultReading_52 : decode cX6_faultReading 52 = .ok (.iconst 1, 1) := by decide +kernel
theorem dX6_faultReading_53 : decode cX6_faultReading 53 = .ok (.iadd, 1) := by decide +kernel
theorem dX6_faultReading_54 : decode cX6_faultReading 54 = .ok (.putfield 43, 3) := by decide +kernel
theorem dX6_faultReading_57 : decode cX6_faultReading 57 = .ok (.aload_n 0, 1) := by decide +kernel
theorem dX6_faultReading_58 : decode cX6_faultReading 58 = .ok (.invokevirtual 40, 3) := by decide +kernel
theorem dX6_faultReading_61 : decode cX6_faultReading 61 = .ok (.goto (-43), 3) := by decide +kernel
theorem dX6_faultReading_64 : decode cX6_faultReading 64 = .ok (.aload_n 0, 1) := by decide +kernel
theorem dX6_faultReading_65 : decode cX6_faultReading 65 = .ok (.getfield 22, 3) := by decide +kernel
theorem dX6_faultReading_68 : decode cX6_faultReading 68 = .ok (.ifCond .ne 7, 3) := by decide +kernel
theorem dX6_faultReading_71 : decode cX6_faultReading 71 = .ok (.iconst (-1), 1) := by decide +kernel
theorem dX6_faultReading_72 : decode cX6_faultReading 72 = .ok (.goto 7, 3) := by decide +kernel
theorem dX6_faultReading_75 : decode cX6_faultReading 75 = .ok (.aload_n 0, 1) := by decide +kernel
theorem dX6_faultReading_76 : decode cX6_faultReading 76 = .ok (.getfield 25, 3) := by decide +kernel
theorem dX6_faultReading_79 : decode cX6_faultReading 79 = .ok (.ireturn, 1) := by decide +kernel
theorem dX6_readStatement_0 : decode cX6_readStatement 0 = .ok (.aload_n 0, 1) := by decide +kernel
theorem dX6_readStatement_1 : decode cX6_readStatement 1 = .ok (.ldc 50, 2) := by decide +kernel
theorem dX6_readStatement_3 : decode cX6_readStatement 3 = .ok (.invokevirtual 52, 3) := by decide +kernel
theorem dX6_readStatement_6 : decode cX6_readStatement 6 = .ok (.ifCond .eq 16, 3) := by decide +kernel
theorem dX6_readStatement_9 : decode cX6_readStatement 9 = .ok (.aload_n 0, 1) := by decide +kernel
theorem dX6_readStatement_10 : decode cX6_readStatement 10 = .ok (.invokevirtual 40, 3) := by decide +kernel
theorem dX6_readStatement_13 : decode cX6_readStatement 13 = .ok (.aload_n 0, 1) := by decide +kernel
theorem dX6_readStatement_14 : decode cX6_readStatement 14 = .ok (.aload_n 1, 1) := by decide +kernel
theorem dX6_readStatement_15 : decode cX6_readStatement 15 = .ok (.invokevirtual 56, 3) := by decide +kernel
theorem dX6_readStatement_18 : decode cX6_readStatement 18 = .ok (.istore_n 2, 1) := by decide +kernel
theorem dX6_readStatement_19 : decode cX6_readStatement 19 = .ok (.goto 106, 3) := by decide +kernel
theorem dX6_readStatement_22 : decode cX6_readStatement 22 = .ok (.aload_n 0, 1) := by decide +kernel
theorem dX6_readStatement_23 : decode cX6_readStatement 23 = .ok (.ldc 59, 2) := by decide +kernel
theorem dX6_readStatement_25 : decode cX6_readStatement 25 = .ok (.invokevirtual 52, 3) := by decide +kernel
theorem dX6_readStatement_28 : decode cX6_readStatement 28 = .ok (.ifCond .eq 32, 3) := by decide +kernel
theorem dX6_readStatement_31 : decode cX6_readStatement 31 = .ok (.aload_n 0, 1) := by decide +kernel
theorem dX6_readStatement_32 : decode cX6_readStatement 32 = .ok (.invokevirtual 40, 3) := by decide +kernel
theorem dX6_readStatement_35 : decode cX6_readStatement 35 = .ok (.aload_n 1, 1) := by decide +kernel
theorem dX6_readStatement_36 : decode cX6_readStatement 36 = .ok (.aload_n 0, 1) := by decide +kernel
theorem dX6_readStatement_37 : decode cX6_readStatement 37 = .ok (.invokevirtual 61, 3) := by decide +kernel
theorem dX6_readStatement_40 : decode cX6_readStatement 40 = .ok (.putfield 65, 3) := by decide +kernel
theorem dX6_readStatement_43 : decode cX6_readStatement 43 = .ok (.aload_n 1, 1) := by decide +kernel
theorem dX6_readStatement_44 : decode cX6_readStatement 44 = .ok (.getfield 65, 3) := by decide +kernel
theorem dX6_readStatement_47 : decode cX6_readStatement 47 = .ok (.iconst (-1), 1) := by decide +kernel
theorem dX6_readStatement_48 : decode cX6_readStatement 48 = .ok (.if_icmp .eq 7, 3) := by decide +kernel
theorem dX6_readStatement_51 : decode cX6_readStatement 51 = .ok (.iconst 1, 1) := by decide +kernel
theorem dX6_readStatement_52 : decode cX6_readStatement 52 = .ok (.goto 4, 3) := by decide +kernel
theorem dX6_readStatement_55 : decode cX6_readStatement 55 = .ok (.iconst 0, 1) := by decide +kernel
theorem dX6_readStatement_56 : decode cX6_readStatement 56 = .ok (.istore_n 2, 1) := by decide +kernel
theorem dX6_readStatement_57 : decode cX6_readStatement 57 = .ok (.goto 68, 3) := by decide +kernel
theorem dX6_readStatement_60 : decode cX6_readStatement 60 = .ok (.aload_n 0, 1) := by decide +kernel
theorem dX6_readStatement_61 : decode cX6_readStatement 61 = .ok (.ldc 67, 2) := by decide +kernel
theorem dX6_readStatement_63 : decode cX6_readStatement 63 = .ok (.invokevirtual 52, 3) := by decide +kernel
theorem dX6_readStatement_66 : decode cX6_readStatement 66 = .ok (.ifCond .eq 32, 3) := by decide +kernel
theorem dX6_readStatement_69 : decode cX6_readStatement 69 = .ok (.aload_n 0, 1) := by decide +kernel
theorem dX6_readStatement_70 : decode cX6_readStatement 70 = .ok (.invokevirtual 40, 3) := by decide +kernel
theorem dX6_readStatement_73 : decode cX6_readStatement 73 = .ok (.aload_n 1, 1) := by decide +kernel
theorem dX6_readStatement_74 : decode cX6_readStatement 74 = .ok (.aload_n 0, 1) := by decide +kernel
theorem dX6_readStatement_75 : decode cX6_readStatement 75 = .ok (.invokevirtual 61, 3) := by decide +kernel
theorem dX6_readStatement_78 : decode cX6_readStatement 78 = .ok (.putfield 69, 3) := by decide +kernel
theorem dX6_readStatement_81 : decode cX6_readStatement 81 = .ok (.aload_n 1, 1) := by decide +kernel
theorem dX6_readStatement_82 : decode cX6_readStatement 82 = .ok (.getfield 69, 3) := by decide +kernel
theorem dX6_readStatement_85 : decode cX6_readStatement 85 = .ok (.iconst (-1), 1) := by decide +kernel
theorem dX6_readStatement_86 : decode cX6_readStatement 86 = .ok (.if_icmp .eq 7, 3) := by decide +kernel
theorem dX6_readStatement_89 : decode cX6_readStatement 89 = .ok (.iconst 1, 1) := by decide +kernel
theorem dX6_readStatement_90 : decode cX6_readStatement 90 = .ok (.goto 4, 3) := by decide +kernel
theorem dX6_readStatement_93 : decode cX6_readStatement 93 = .ok (.iconst 0, 1) := by decide +kernel
theorem dX6_readStatement_94 : decode cX6_readStatement 94 = .ok (.istore_n 2, 1) := by decide +kernel
theorem dX6_readStatement_95 : decode cX6_readStatement 95 = .ok (.goto 30, 3) := by decide +kernel
theorem dX6_readStatement_98 : decode cX6_readStatement 98 = .ok (.aload_n 0, 1) := by decide +kernel
theorem dX6_readStatement_99 : decode cX6_readStatement 99 = .ok (.ldc 71, 2) := by decide +kernel
theorem dX6_readStatement_101 : decode cX6_readStatement 101 = .ok (.invokevirtual 52, 3) := by decide +kernel
theorem dX6_readStatement_104 : decode cX6_readStatement 104 = .ok (.istore_n 2, 1) := by decide +kernel
theorem dX6_readStatement_105 : decode cX6_readStatement 105 = .ok (.aload_n 1, 1) := by decide +kernel
theorem dX6_readStatement_106 : decode cX6_readStatement 106 = .ok (.aload_n 1, 1) := by decide +kernel
theorem dX6_readStatement_107 : decode cX6_readStatement 107 = .ok (.getfield 73, 3) := by decide +kernel
theorem dX6_readStatement_110 : decode cX6_readStatement 110 = .ok (.ifCond .ne 7, 3) := by decide +kernel
theorem dX6_readStatement_113 : decode cX6_readStatement 113 = .ok (.iload_n 2, 1) := by decide +kernel
theorem dX6_readStatement_114 : decode cX6_readStatement 114 = .ok (.ifCond .eq 7, 3) := by decide +kernel
theorem dX6_readStatement_117 : decode cX6_readStatement 117 = .ok (.iconst 1, 1) := by decide +kernel
theorem dX6_readStatement_118 : decode cX6_readStatement 118 = .ok (.goto 4, 3) := by decide +kernel
theorem dX6_readStatement_121 : decode cX6_readStatement 121 = .ok (.iconst 0, 1) := by decide +kernel
theorem dX6_readStatement_122 : decode cX6_readStatement 122 = .ok (.putfield 73, 3) := by decide +kernel
theorem dX6_readStatement_125 : decode cX6_readStatement 125 = .ok (.iload_n 2, 1) := by decide +kernel
theorem dX6_readStatement_126 : decode cX6_readStatement 126 = .ok (.ifCond .ne 5, 3) := by decide +kernel
theorem dX6_readStatement_129 : decode cX6_readStatement 129 = .ok (.iconst 0, 1) := by decide +kernel
theorem dX6_readStatement_130 : decode cX6_readStatement 130 = .ok (.ireturn, 1) := by decide +kernel
theorem dX6_readStatement_131 : decode cX6_readStatement 131 = .ok (.aload_n 0, 1) := by decide +kernel
theorem dX6_readStatement_132 : decode cX6_readStatement 132 = .ok (.invokevirtual 40, 3) := by decide +kernel
theorem dX6_readStatement_135 : decode cX6_readStatement 135 = .ok (.aload_n 0, 1) := by decide +kernel
theorem dX6_readStatement_136 : decode cX6_readStatement 136 = .ok (.getfield 22, 3) := by decide +kernel
theorem dX6_readStatement_139 : decode cX6_readStatement 139 = .ok (.iconst 3, 1) := by decide +kernel
theorem dX6_readStatement_140 : decode cX6_readStatement 140 = .ok (.if_icmp .ne 7, 3) := by decide +kernel
theorem dX6_readStatement_143 : decode cX6_readStatement 143 = .ok (.iconst 1, 1) := by decide +kernel
theorem dX6_readStatement_144 : decode cX6_readStatement 144 = .ok (.goto 4, 3) := by decide +kernel
theorem dX6_readStatement_147 : decode cX6_readStatement 147 = .ok (.iconst 0, 1) := by decide +kernel
theorem dX6_readStatement_148 : decode cX6_readStatement 148 = .ok (.ireturn, 1) := by decide +kernel
theorem dX6_readFirst_0 : decode cX6_readFirst 0 = .ok (.aload_n 0, 1) := by decide +kernel
theorem dX6_readFirst_1 : decode cX6_readFirst 1 = .ok (.ldc 76, 2) := by decide +kernel
theorem dX6_readFirst_3 : decode cX6_readFirst 3 = .ok (.invokevirtual 52, 3) := by decide +kernel
theorem dX6_readFirst_6 : decode cX6_readFirst 6 = .ok (.ifCond .eq 11, 3) := by decide +kernel
theorem dX6_readFirst_9 : decode cX6_readFirst 9 = .ok (.aload_n 1, 1) := by decide +kernel
theorem dX6_readFirst_10 : decode cX6_readFirst 10 = .ok (.iconst 0, 1) := by decide +kernel
theorem dX6_readFirst_11 : decode cX6_readFirst 11 = .ok (.invokevirtual 78, 3) := by decide +kernel
theorem dX6_readFirst_14 : decode cX6_readFirst 14 = .ok (.goto 39, 3) := by decide +kernel
theorem dX6_readFirst_17 : decode cX6_readFirst 17 = .ok (.aload_n 0, 1) := by decide +kernel
theorem dX6_readFirst_18 : decode cX6_readFirst 18 = .ok (.ldc 81, 2) := by decide +kernel
theorem dX6_readFirst_20 : decode cX6_readFirst 20 = .ok (.invokevirtual 52, 3) := by decide +kernel
theorem dX6_readFirst_23 : decode cX6_readFirst 23 = .ok (.ifCond .eq 11, 3) := by decide +kernel
theorem dX6_readFirst_26 : decode cX6_readFirst 26 = .ok (.aload_n 1, 1) := by decide +kernel
theorem dX6_readFirst_27 : decode cX6_readFirst 27 = .ok (.iconst 1, 1) := by decide +kernel
theorem dX6_readFirst_28 : decode cX6_readFirst 28 = .ok (.invokevirtual 78, 3) := by decide +kernel
theorem dX6_readFirst_31 : decode cX6_readFirst 31 = .ok (.goto 22, 3) := by decide +kernel
theorem dX6_readFirst_34 : decode cX6_readFirst 34 = .ok (.aload_n 0, 1) := by decide +kernel
theorem dX6_readFirst_35 : decode cX6_readFirst 35 = .ok (.ldc 59, 2) := by decide +kernel
theorem dX6_readFirst_37 : decode cX6_readFirst 37 = .ok (.invokevirtual 52, 3) := by decide +kernel
theorem dX6_readFirst_40 : decode cX6_readFirst 40 = .ok (.ifCond .eq 11, 3) := by decide +kernel
theorem dX6_readFirst_43 : decode cX6_readFirst 43 = .ok (.aload_n 1, 1) := by decide +kernel
theorem dX6_readFirst_44 : decode cX6_readFirst 44 = .ok (.iconst 2, 1) := by decide +kernel
theorem dX6_readFirst_45 : decode cX6_readFirst 45 = .ok (.invokevirtual 78, 3) := by decide +kernel
theorem dX6_readFirst_48 : decode cX6_readFirst 48 = .ok (.goto 5, 3) := by decide +kernel
theorem dX6_readFirst_51 : decode cX6_readFirst 51 = .ok (.iconst 0, 1) := by decide +kernel
theorem dX6_readFirst_52 : decode cX6_readFirst 52 = .ok (.ireturn, 1) := by decide +kernel
theorem dX6_readFirst_53 : decode cX6_readFirst 53 = .ok (.iconst 1, 1) := by decide +kernel
theorem dX6_readFirst_54 : decode cX6_readFirst 54 = .ok (.ireturn, 1) := by decide +kernel
theorem dX6_isWord_0 : decode cX6_isWord 0 = .ok (.aload_n 0, 1) := by decide +kernel
theorem dX6_isWord_1 : decode cX6_isWord 1 = .ok (.getfield 22, 3) := by decide +kernel
theorem dX6_isWord_4 : decode cX6_isWord 4 = .ok (.iconst 1, 1) := by decide +kernel
theorem dX6_isWord_5 : decode cX6_isWord 5 = .ok (.if_icmp .ne 19, 3) := by decide +kernel
theorem dX6_isWord_8 : decode cX6_isWord 8 = .ok (.aload_n 0, 1) := by decide +kernel
theorem dX6_isWord_9 : decode cX6_isWord 9 = .ok (.getfield 28, 3) := by decide +kernel
theorem dX6_isWord_12 : decode cX6_isWord 12 = .ok (.aload_n 0, 1) := by decide +kernel
theorem dX6_isWord_13 : decode cX6_isWord 13 = .ok (.getfield 25, 3) := by decide +kernel
theorem dX6_isWord_16 : decode cX6_isWord 16 = .ok (.isub, 1) := by decide +kernel
theorem dX6_isWord_17 : decode cX6_isWord 17 = .ok (.aload_n 1, 1) := by decide +kernel
theorem dX6_isWord_18 : decode cX6_isWord 18 = .ok (.invokevirtual 83, 3) := by decide +kernel
theorem dX6_isWord_21 : decode cX6_isWord 21 = .ok (.if_icmp .eq 5, 3) := by decide +kernel
theorem dX6_isWord_24 : decode cX6_isWord 24 = .ok (.iconst 0, 1) := by decide +kernel
theorem dX6_isWord_25 : decode cX6_isWord 25 = .ok (.ireturn, 1) := by decide +kernel
theorem dX6_isWord_26 : decode cX6_isWord 26 = .ok (.iconst 0, 1) := by decide +kernel
theorem dX6_isWord_27 : decode cX6_isWord 27 = .ok (.istore_n 2, 1) := by decide +kernel
theorem dX6_isWord_28 : decode cX6_isWord 28 = .ok (.iload_n 2, 1) := by decide +kernel
theorem dX6_isWord_29 : decode cX6_isWord 29 = .ok (.aload_n 1, 1) := by decide +kernel
theorem dX6_isWord_30 : decode cX6_isWord 30 = .ok (.invokevirtual 83, 3) := by decide +kernel
theorem dX6_isWord_33 : decode cX6_isWord 33 = .ok (.if_icmp .ge 29, 3) := by decide +kernel
theorem dX6_isWord_36 : decode cX6_isWord 36 = .ok (.aload_n 0, 1) := by decide +kernel
theorem dX6_isWord_37 : decode cX6_isWord 37 = .ok (.aload_n 0, 1) := by decide +kernel
theorem dX6_isWord_38 : decode cX6_isWord 38 = .ok (.getfield 25, 3) := by decide +kernel
theorem dX6_isWord_41 : decode cX6_isWord 41 = .ok (.iload_n 2, 1) := by decide +kernel
theorem dX6_isWord_42 : decode cX6_isWord 42 = .ok (.iadd, 1) := by decide +kernel
theorem dX6_isWord_43 : decode cX6_isWord 43 = .ok (.invokevirtual 87, 3) := by decide +kernel
theorem dX6_isWord_46 : decode cX6_isWord 46 = .ok (.aload_n 1, 1) := by decide +kernel
theorem dX6_isWord_47 : decode cX6_isWord 47 = .ok (.iload_n 2, 1) := by decide +kernel
theorem dX6_isWord_48 : decode cX6_isWord 48 = .ok (.invokevirtual 91, 3) := by decide +kernel
theorem dX6_isWord_51 : decode cX6_isWord 51 = .ok (.if_icmp .eq 5, 3) := by decide +kernel
theorem dX6_isWord_54 : decode cX6_isWord 54 = .ok (.iconst 0, 1) := by decide +kernel
theorem dX6_isWord_55 : decode cX6_isWord 55 = .ok (.ireturn, 1) := by decide +kernel
theorem dX6_isWord_56 : decode cX6_isWord 56 = .ok (.iinc 2 1, 3) := by decide +kernel
theorem dX6_isWord_59 : decode cX6_isWord 59 = .ok (.goto (-31), 3) := by decide +kernel
theorem dX6_isWord_62 : decode cX6_isWord 62 = .ok (.iconst 1, 1) := by decide +kernel
theorem dX6_isWord_63 : decode cX6_isWord 63 = .ok (.ireturn, 1) := by decide +kernel
theorem dX6_numberHere_0 : decode cX6_numberHere 0 = .ok (.aload_n 0, 1) := by decide +kernel
theorem dX6_numberHere_1 : decode cX6_numberHere 1 = .ok (.getfield 22, 3) := by decide +kernel
theorem dX6_numberHere_4 : decode cX6_numberHere 4 = .ok (.iconst 2, 1) := by decide +kernel
theorem dX6_numberHere_5 : decode cX6_numberHere 5 = .ok (.if_icmp .ne 16, 3) := by decide +kernel
theorem dX6_numberHere_8 : decode cX6_numberHere 8 = .ok (.aload_n 0, 1) := by decide +kernel
theorem dX6_numberHere_9 : decode cX6_numberHere 9 = .ok (.getfield 28, 3) := by decide +kernel
theorem dX6_numberHere_12 : decode cX6_numberHere 12 = .ok (.aload_n 0, 1) := by decide +kernel
theorem dX6_numberHere_13 : decode cX6_numberHere 13 = .ok (.getfield 25, 3) := by decide +kernel
theorem dX6_numberHere_16 : decode cX6_numberHere 16 = .ok (.isub, 1) := by decide +kernel
theorem dX6_numberHere_17 : decode cX6_numberHere 17 = .ok (.iconst 3, 1) := by decide +kernel
theorem dX6_numberHere_18 : decode cX6_numberHere 18 = .ok (.if_icmp .le 5, 3) := by decide +kernel
theorem dX6_numberHere_21 : decode cX6_numberHere 21 = .ok (.iconst (-1), 1) := by decide +kernel
theorem dX6_numberHere_22 : decode cX6_numberHere 22 = .ok (.ireturn, 1) := by decide +kernel
theorem dX6_numberHere_23 : decode cX6_numberHere 23 = .ok (.iconst 0, 1) := by decide +kernel
theorem dX6_numberHere_24 : decode cX6_numberHere 24 = .ok (.istore_n 1, 1) := by decide +kernel
theorem dX6_numberHere_25 : decode cX6_numberHere 25 = .ok (.aload_n 0, 1) := by decide +kernel
theorem dX6_numberHere_26 : decode cX6_numberHere 26 = .ok (.getfield 25, 3) := by decide +kernel
theorem dX6_numberHere_29 : decode cX6_numberHere 29 = .ok (.istore_n 2, 1) := by decide +kernel
theorem dX6_numberHere_30 : decode cX6_numberHere 30 = .ok (.iload_n 2, 1) := by decide +kernel
theorem dX6_numberHere_31 : decode cX6_numberHere 31 = .ok (.aload_n 0, 1) := by decide +kernel
theorem dX6_numberHere_32 : decode cX6_numberHere 32 = .ok (.getfield 28, 3) := by decide +kernel
theorem dX6_numberHere_35 : decode cX6_numberHere 35 = .ok (.if_icmp .ge 23, 3) := by decide +kernel
theorem dX6_numberHere_38 : decode cX6_numberHere 38 = .ok (.iload_n 1, 1) := by decide +kernel
theorem dX6_numberHere_39 : decode cX6_numberHere 39 = .ok (.bipush 10, 2) := by decide +kernel
theorem dX6_numberHere_41 : decode cX6_numberHere 41 = .ok (.imul, 1) := by decide +kernel
theorem dX6_numberHere_42 : decode cX6_numberHere 42 = .ok (.aload_n 0, 1) := by decide +kernel
theorem dX6_numberHere_43 : decode cX6_numberHere 43 = .ok (.iload_n 2, 1) := by decide +kernel
theorem dX6_numberHere_44 : decode cX6_numberHere 44 = .ok (.invokevirtual 87, 3) := by decide +kernel
theorem dX6_numberHere_47 : decode cX6_numberHere 47 = .ok (.iadd, 1) := by decide +kernel
theorem dX6_numberHere_48 : decode cX6_numberHere 48 = .ok (.bipush 48, 2) := by decide +kernel
theorem dX6_numberHere_50 : decode cX6_numberHere 50 = .ok (.isub, 1) := by decide +kernel
theorem dX6_numberHere_51 : decode cX6_numberHere 51 = .ok (.istore_n 1, 1) := by decide +kernel
theorem dX6_numberHere_52 : decode cX6_numberHere 52 = .ok (.iinc 2 1, 3) := by decide +kernel
theorem dX6_numberHere_55 : decode cX6_numberHere 55 = .ok (.goto (-25), 3) := by decide +kernel
theorem dX6_numberHere_58 : decode cX6_numberHere 58 = .ok (.iload_n 1, 1) := by decide +kernel
theorem dX6_numberHere_59 : decode cX6_numberHere 59 = .ok (.ireturn, 1) := by decide +kernel
theorem dX6_nextToken_0 : decode cX6_nextToken 0 = .ok (.aload_n 0, 1) := by decide +kernel
theorem dX6_nextToken_1 : decode cX6_nextToken 1 = .ok (.aload_n 0, 1) := by decide +kernel
theorem dX6_nextToken_2 : decode cX6_nextToken 2 = .ok (.getfield 28, 3) := by decide +kernel
theorem dX6_nextToken_5 : decode cX6_nextToken 5 = .ok (.putfield 25, 3) := by decide +kernel
theorem dX6_nextToken_8 : decode cX6_nextToken 8 = .ok (.aload_n 0, 1) := by decide +kernel
theorem dX6_nextToken_9 : decode cX6_nextToken 9 = .ok (.getfield 25, 3) := by decide +kernel
theorem dX6_nextToken_12 : decode cX6_nextToken 12 = .ok (.aload_n 0, 1) := by decide +kernel
theorem dX6_nextToken_13 : decode cX6_nextToken 13 = .ok (.getfield 19, 3) := by decide +kernel
theorem dX6_nextToken_16 : decode cX6_nextToken 16 = .ok (.if_icmp .ge 30, 3) := by decide +kernel
theorem dX6_nextToken_19 : decode cX6_nextToken 19 = .ok (.aload_n 0, 1) := by decide +kernel
theorem dX6_nextToken_20 : decode cX6_nextToken 20 = .ok (.aload_n 0, 1) := by decide +kernel
theorem dX6_nextToken_21 : decode cX6_nextToken 21 = .ok (.getfield 25, 3) := by decide +kernel
theorem dX6_nextToken_24 : decode cX6_nextToken 24 = .ok (.invokevirtual 87, 3) := by decide +kernel
theorem dX6_nextToken_27 : decode cX6_nextToken 27 = .ok (.invokestatic 95, 3) := by decide +kernel
theorem dX6_nextToken_30 : decode cX6_nextToken 30 = .ok (.ifCond .eq 16, 3) := by decide +kernel
theorem dX6_nextToken_33 : decode cX6_nextToken 33 = .ok (.aload_n 0, 1) := by decide +kernel
theorem dX6_nextToken_34 : decode cX6_nextToken 34 = .ok (.dup, 1) := by decide +kernel
theorem dX6_nextToken_35 : decode cX6_nextToken 35 = .ok (.getfield 25, 3) := by decide +kernel
theorem dX6_nextToken_38 : decode cX6_nextToken 38 = .ok (.iconst 1, 1) := by decide +kernel
theorem dX6_nextToken_39 : decode cX6_nextToken 39 = .ok (.iadd, 1) := by decide +kernel
theorem dX6_nextToken_40 : decode cX6_nextToken 40 = .ok (.putfield 25, 3) := by decide +kernel
theorem dX6_nextToken_43 : decode cX6_nextToken 43 = .ok (.goto (-35), 3) := by decide +kernel
theorem dX6_nextToken_46 : decode cX6_nextToken 46 = .ok (.aload_n 0, 1) := by decide +kernel
theorem dX6_nextToken_47 : decode cX6_nextToken 47 = .ok (.aload_n 0, 1) := by decide +kernel
theorem dX6_nextToken_48 : decode cX6_nextToken 48 = .ok (.getfield 25, 3) := by decide +kernel
theorem dX6_nextToken_51 : decode cX6_nextToken 51 = .ok (.putfield 28, 3) := by decide +kernel
theorem dX6_nextToken_54 : decode cX6_nextToken 54 = .ok (.aload_n 0, 1) := by decide +kernel
theorem dX6_nextToken_55 : decode cX6_nextToken 55 = .ok (.getfield 25, 3) := by decide +kernel
theorem dX6_nextToken_58 : decode cX6_nextToken 58 = .ok (.aload_n 0, 1) := by decide +kernel
theorem dX6_nextToken_59 : decode cX6_nextToken 59 = .ok (.getfield 19, 3) := by decide +kernel
theorem dX6_nextToken_62 : decode cX6_nextToken 62 = .ok (.if_icmp .lt 11, 3) := by decide +kernel
theorem dX6_nextToken_65 : decode cX6_nextToken 65 = .ok (.aload_n 0, 1) := by decide +kernel
theorem dX6_nextToken_66 : decode cX6_nextToken 66 = .ok (.iconst 0, 1) := by decide +kernel
theorem dX6_nextToken_67 : decode cX6_nextToken 67 = .ok (.putfield 22, 3) := by decide +kernel
theorem dX6_nextToken_70 : decode cX6_nextToken 70 = .ok (.goto 149, 3) := by decide +kernel
theorem dX6_nextToken_73 : decode cX6_nextToken 73 = .ok (.aload_n 0, 1) := by decide +kernel
theorem dX6_nextToken_74 : decode cX6_nextToken 74 = .ok (.aload_n 0, 1) := by decide +kernel
theorem dX6_nextToken_75 : decode cX6_nextToken 75 = .ok (.getfield 25, 3) := by decide +kernel
theorem dX6_nextToken_78 : decode cX6_nextToken 78 = .ok (.invokevirtual 87, 3) := by decide +kernel
theorem dX6_nextToken_81 : decode cX6_nextToken 81 = .ok (.invokestatic 99, 3) := by decide +kernel
theorem dX6_nextToken_84 : decode cX6_nextToken 84 = .ok (.ifCond .eq 46, 3) := by decide +kernel
theorem dX6_nextToken_87 : decode cX6_nextToken 87 = .ok (.aload_n 0, 1) := by decide +kernel
theorem dX6_nextToken_88 : decode cX6_nextToken 88 = .ok (.iconst 1, 1) := by decide +kernel
theorem dX6_nextToken_89 : decode cX6_nextToken 89 = .ok (.putfield 22, 3) := by decide +kernel
theorem dX6_nextToken_92 : decode cX6_nextToken 92 = .ok (.aload_n 0, 1) := by decide +kernel
theorem dX6_nextToken_93 : decode cX6_nextToken 93 = .ok (.getfield 28, 3) := by decide +kernel
theorem dX6_nextToken_96 : decode cX6_nextToken 96 = .ok (.aload_n 0, 1) := by decide +kernel
theorem dX6_nextToken_97 : decode cX6_nextToken 97 = .ok (.getfield 19, 3) := by decide +kernel
theorem dX6_nextToken_100 : decode cX6_nextToken 100 = .ok (.if_icmp .ge 119, 3) := by decide +kernel
theorem dX6_nextToken_103 : decode cX6_nextToken 103 = .ok (.aload_n 0, 1) := by decide +kernel
theorem dX6_nextToken_104 : decode cX6_nextToken 104 = .ok (.aload_n 0, 1) := by decide +kernel
theorem dX6_nextToken_105 : decode cX6_nextToken 105 = .ok (.getfield 28, 3) := by decide +kernel
theorem dX6_nextToken_108 : decode cX6_nextToken 108 = .ok (.invokevirtual 87, 3) := by decide +kernel
theorem dX6_nextToken_111 : decode cX6_nextToken 111 = .ok (.invokestatic 99, 3) := by decide +kernel
theorem dX6_nextToken_114 : decode cX6_nextToken 114 = .ok (.ifCond .eq 105, 3) := by decide +kernel
theorem dX6_nextToken_117 : decode cX6_nextToken 117 = .ok (.aload_n 0, 1) := by decide +kernel
theorem dX6_nextToken_118 : decode cX6_nextToken 118 = .ok (.dup, 1) := by decide +kernel
theorem dX6_nextToken_119 : decode cX6_nextToken 119 = .ok (.getfield 28, 3) := by decide +kernel
theorem dX6_nextToken_122 : decode cX6_nextToken 122 = .ok (.iconst 1, 1) := by decide +kernel
theorem dX6_nextToken_123 : decode cX6_nextToken 123 = .ok (.iadd, 1) := by decide +kernel
theorem dX6_nextToken_124 : decode cX6_nextToken 124 = .ok (.putfield 28, 3) := by decide +kernel
theorem dX6_nextToken_127 : decode cX6_nextToken 127 = .ok (.goto (-35), 3) := by decide +kernel
theorem dX6_nextToken_130 : decode cX6_nextToken 130 = .ok (.aload_n 0, 1) := by decide +kernel
theorem dX6_nextToken_131 : decode cX6_nextToken 131 = .ok (.aload_n 0, 1) := by decide +kernel
theorem dX6_nextToken_132 : decode cX6_nextToken 132 = .ok (.getfield 25, 3) := by decide +kernel
theorem dX6_nextToken_135 : decode cX6_nextToken 135 = .ok (.invokevirtual 87, 3) := by decide +kernel
theorem dX6_nextToken_138 : decode cX6_nextToken 138 = .ok (.invokestatic 102, 3) := by decide +kernel
theorem dX6_nextToken_141 : decode cX6_nextToken 141 = .ok (.ifCond .eq 46, 3) := by decide +kernel
theorem dX6_nextToken_144 : decode cX6_nextToken 144 = .ok (.aload_n 0, 1) := by decide +kernel
theorem dX6_nextToken_145 : decode cX6_nextToken 145 = .ok (.iconst 2, 1) := by decide +kernel
theorem dX6_nextToken_146 : decode cX6_nextToken 146 = .ok (.putfield 22, 3) := by decide +kernel
theorem dX6_nextToken_149 : decode cX6_nextToken 149 = .ok (.aload_n 0, 1) := by decide +kernel
theorem dX6_nextToken_150 : decode cX6_nextToken 150 = .ok (.getfield 28, 3) := by decide +kernel
theorem dX6_nextToken_153 : decode cX6_nextToken 153 = .ok (.aload_n 0, 1) := by decide +kernel
theorem dX6_nextToken_154 : decode cX6_nextToken 154 = .ok (.getfield 19, 3) := by decide +kernel
theorem dX6_nextToken_157 : decode cX6_nextToken 157 = .ok (.if_icmp .ge 62, 3) := by decide +kernel
theorem dX6_nextToken_160 : decode cX6_nextToken 160 = .ok (.aload_n 0, 1) := by decide +kernel
theorem dX6_nextToken_161 : decode cX6_nextToken 161 = .ok (.aload_n 0, 1) := by decide +kernel
theorem dX6_nextToken_162 : decode cX6_nextToken 162 = .ok (.getfield 28, 3) := by decide +kernel
theorem dX6_nextToken_165 : decode cX6_nextToken 165 = .ok (.invokevirtual 87, 3) := by decide +kernel
theorem dX6_nextToken_168 : decode cX6_nextToken 168 = .ok (.invokestatic 102, 3) := by decide +kernel
theorem dX6_nextToken_171 : decode cX6_nextToken 171 = .ok (.ifCond .eq 48, 3) := by decide +kernel
theorem dX6_nextToken_174 : decode cX6_nextToken 174 = .ok (.aload_n 0, 1) := by decide +kernel
theorem dX6_nextToken_175 : decode cX6_nextToken 175 = .ok (.dup, 1) := by decide +kernel
theorem dX6_nextToken_176 : decode cX6_nextToken 176 = .ok (.getfield 28, 3) := by decide +kernel
theorem dX6_nextToken_179 : decode cX6_nextToken 179 = .ok (.iconst 1, 1) := by decide +kernel
theorem dX6_nextToken_180 : decode cX6_nextToken 180 = .ok (.iadd, 1) := by decide +kernel
theorem dX6_nextToken_181 : decode cX6_nextToken 181 = .ok (.putfield 28, 3) := by decide +kernel
theorem dX6_nextToken_184 : decode cX6_nextToken 184 = .ok (.goto (-35), 3) := by decide +kernel
theorem dX6_nextToken_187 : decode cX6_nextToken 187 = .ok (.aload_n 0, 1) := by decide +kernel
theorem dX6_nextToken_188 : decode cX6_nextToken 188 = .ok (.aload_n 0, 1) := by decide +kernel
theorem dX6_nextToken_189 : decode cX6_nextToken 189 = .ok (.aload_n 0, 1) := by decide +kernel
theorem dX6_nextToken_190 : decode cX6_nextToken 190 = .ok (.getfield 25, 3) := by decide +kernel
theorem dX6_nextToken_193 : decode cX6_nextToken 193 = .ok (.invokevirtual 87, 3) := by decide +kernel
theorem dX6_nextToken_196 : decode cX6_nextToken 196 = .ok (.bipush 59, 2) := by decide +kernel
theorem dX6_nextToken_198 : decode cX6_nextToken 198 = .ok (.if_icmp .ne 7, 3) := by decide +kernel
theorem dX6_nextToken_201 : decode cX6_nextToken 201 = .ok (.iconst 3, 1) := by decide +kernel
theorem dX6_nextToken_202 : decode cX6_nextToken 202 = .ok (.goto 4, 3) := by decide +kernel
theorem dX6_nextToken_205 : decode cX6_nextToken 205 = .ok (.iconst 4, 1) := by decide +kernel
theorem dX6_nextToken_206 : decode cX6_nextToken 206 = .ok (.putfield 22, 3) := by decide +kernel
theorem dX6_nextToken_209 : decode cX6_nextToken 209 = .ok (.aload_n 0, 1) := by decide +kernel
theorem dX6_nextToken_210 : decode cX6_nextToken 210 = .ok (.dup, 1) := by decide +kernel
theorem dX6_nextToken_211 : decode cX6_nextToken 211 = .ok (.getfield 28, 3) := by decide +kernel
theorem dX6_nextToken_214 : decode cX6_nextToken 214 = .ok (.iconst 1, 1) := by decide +kernel
theorem dX6_nextToken_215 : decode cX6_nextToken 215 = .ok (.iadd, 1) := by decide +kernel
theorem dX6_nextToken_216 : decode cX6_nextToken 216 = .ok (.putfield 28, 3) := by decide +kernel
theorem dX6_nextToken_219 : decode cX6_nextToken 219 = .ok (.return_, 1) := by decide +kernel
theorem dX6_byteAt_0 : decode cX6_byteAt 0 = .ok (.iload_n 1, 1) := by decide +kernel
theorem dX6_byteAt_1 : decode cX6_byteAt 1 = .ok (.ifCond .lt 21, 3) := by decide +kernel
theorem dX6_byteAt_4 : decode cX6_byteAt 4 = .ok (.iload_n 1, 1) := by decide +kernel
theorem dX6_byteAt_5 : decode cX6_byteAt 5 = .ok (.aload_n 0, 1) := by decide +kernel
theorem dX6_byteAt_6 : decode cX6_byteAt 6 = .ok (.getfield 9, 3) := by decide +kernel
theorem dX6_byteAt_9 : decode cX6_byteAt 9 = .ok (.arraylength, 1) := by decide +kernel
theorem dX6_byteAt_10 : decode cX6_byteAt 10 = .ok (.if_icmp .ge 12, 3) := by decide +kernel
theorem dX6_byteAt_13 : decode cX6_byteAt 13 = .ok (.aload_n 0, 1) := by decide +kernel
theorem dX6_byteAt_14 : decode cX6_byteAt 14 = .ok (.getfield 9, 3) := by decide +kernel
theorem dX6_byteAt_17 : decode cX6_byteAt 17 = .ok (.iload_n 1, 1) := by decide +kernel
theorem dX6_byteAt_18 : decode cX6_byteAt 18 = .ok (.baload, 1) := by decide +kernel
theorem dX6_byteAt_19 : decode cX6_byteAt 19 = .ok (.goto 4, 3) := by decide +kernel
theorem dX6_byteAt_22 : decode cX6_byteAt 22 = .ok (.iconst 0, 1) := by decide +kernel
theorem dX6_byteAt_23 : decode cX6_byteAt 23 = .ok (.ireturn, 1) := by decide +kernel
theorem dX6_isBlank_0 : decode cX6_isBlank 0 = .ok (.iload_n 0, 1) := by decide +kernel
theorem dX6_isBlank_1 : decode cX6_isBlank 1 = .ok (.bipush 32, 2) := by decide +kernel
theorem dX6_isBlank_3 : decode cX6_isBlank 3 = .ok (.if_icmp .eq 9, 3) := by decide +kernel
theorem dX6_isBlank_6 : decode cX6_isBlank 6 = .ok (.iload_n 0, 1) := by decide +kernel
theorem dX6_isBlank_7 : decode cX6_isBlank 7 = .ok (.bipush 10, 2) := by decide +kernel
theorem dX6_isBlank_9 : decode cX6_isBlank 9 = .ok (.if_icmp .ne 7, 3) := by decide +kernel
theorem dX6_isBlank_12 : decode cX6_isBlank 12 = .ok (.iconst 1, 1) := by decide +kernel
theorem dX6_isBlank_13 : decode cX6_isBlank 13 = .ok (.goto 4, 3) := by decide +kernel
theorem dX6_isBlank_16 : decode cX6_isBlank 16 = .ok (.iconst 0, 1) := by decide +kernel
theorem dX6_isBlank_17 : decode cX6_isBlank 17 = .ok (.ireturn, 1) := by decide +kernel
theorem dX6_isLetter_0 : decode cX6_isLetter 0 = .ok (.iload_n 0, 1) := by decide +kernel
theorem dX6_isLetter_1 : decode cX6_isLetter 1 = .ok (.bipush 97, 2) := by decide +kernel
theorem dX6_isLetter_3 : decode cX6_isLetter 3 = .ok (.if_icmp .lt 13, 3) := by decide +kernel
theorem dX6_isLetter_6 : decode cX6_isLetter 6 = .ok (.iload_n 0, 1) := by decide +kernel
theorem dX6_isLetter_7 : decode cX6_isLetter 7 = .ok (.bipush 122, 2) := by decide +kernel
theorem dX6_isLetter_9 : decode cX6_isLetter 9 = .ok (.if_icmp .gt 7, 3) := by decide +kernel
theorem dX6_isLetter_12 : decode cX6_isLetter 12 = .ok (.iconst 1, 1) := by decide +kernel
theorem dX6_isLetter_13 : decode cX6_isLetter 13 = .ok (.goto 4, 3) := by decide +kernel
theorem dX6_isLetter_16 : decode cX6_isLetter 16 = .ok (.iconst 0, 1) := by decide +kernel
theorem dX6_isLetter_17 : decode cX6_isLetter 17 = .ok (.ireturn, 1) := by decide +kernel
theorem dX6_isDigit_0 : decode cX6_isDigit 0 = .ok (.iload_n 0, 1) := by decide +kernel
theorem dX6_isDigit_1 : decode cX6_isDigit 1 = .ok (.bipush 48, 2) := by decide +kernel
theorem dX6_isDigit_3 : decode cX6_isDigit 3 = .ok (.if_icmp .lt 13, 3) := by decide +kernel
theorem dX6_isDigit_6 : decode cX6_isDigit 6 = .ok (.iload_n 0, 1) := by decide +kernel
theorem dX6_isDigit_7 : decode cX6_isDigit 7 = .ok (.bipush 57, 2) := by decide +kernel
theorem dX6_isDigit_9 : decode cX6_isDigit 9 = .ok (.if_icmp .gt 7, 3) := by decide +kernel
theorem dX6_isDigit_12 : decode cX6_isDigit 12 = .ok (.iconst 1, 1) := by decide +kernel
theorem dX6_isDigit_13 : decode cX6_isDigit 13 = .ok (.goto 4, 3) := by decide +kernel
theorem dX6_isDigit_16 : decode cX6_isDigit 16 = .ok (.iconst 0, 1) := by decide +kernel
theorem dX6_isDigit_17 : decode cX6_isDigit 17 = .ok (.ireturn, 1) := by decide +kernel
theorem dX7_init_0 : decode cX7_init 0 = .ok (.aload_n 0, 1) := by decide +kernel
theorem dX7_init_1 : decode cX7_init 1 = .ok (.invokespecial 1, 3) := by decide +kernel
theorem dX7_init_4 : decode cX7_init 4 = .ok (.aload_n 0, 1) := by decide +kernel
theorem dX7_init_5 : decode cX7_init 5 = .ok (.bipush 40, 2) := by decide +kernel
theorem dX7_init_7 : decode cX7_init 7 = .ok (.anewarray 9, 3) := by decide +kernel
theorem dX7_init_10 : decode cX7_init 10 = .ok (.putfield 11, 3) := by decide +kernel
theorem dX7_init_13 : decode cX7_init 13 = .ok (.aload_n 0, 1) := by decide +kernel
theorem dX7_init_14 : decode cX7_init 14 = .ok (.new 15, 3) := by decide +kernel
theorem dX7_init_17 : decode cX7_init 17 = .ok (.dup, 1) := by decide +kernel
theorem dX7_init_18 : decode cX7_init 18 = .ok (.invokespecial 17, 3) := by decide +kernel
theorem dX7_init_21 : decode cX7_init 21 = .ok (.putfield 18, 3) := by decide +kernel
theorem dX7_init_24 : decode cX7_init 24 = .ok (.aload_n 0, 1) := by decide +kernel
theorem dX7_init_25 : decode cX7_init 25 = .ok (.new 22, 3) := by decide +kernel
theorem dX7_init_28 : decode cX7_init 28 = .ok (.dup, 1) := by decide +kernel
theorem dX7_init_29 : decode cX7_init 29 = .ok (.invokespecial 24, 3) := by decide +kernel
theorem dX7_init_32 : decode cX7_init 32 = .ok (.putfield 25, 3) := by decide +kernel
theorem dX7_init_35 : decode cX7_init 35 = .ok (.aload_n 0, 1) := by decide +kernel
theorem dX7_init_36 : decode cX7_init 36 = .ok (.new 22, 3) := by decide +kernel
theorem dX7_init_39 : decode cX7_init 39 = .ok (.dup, 1) := by decide +kernel
theorem dX7_init_40 : decode cX7_init 40 = .ok (.invokespecial 24, 3) := by decide +kernel
theorem dX7_init_43 : decode cX7_init 43 = .ok (.putfield 29, 3) := by decide +kernel
theorem dX7_init_46 : decode cX7_init 46 = .ok (.aload_n 0, 1) := by decide +kernel
theorem dX7_init_47 : decode cX7_init 47 = .ok (.new 32, 3) := by decide +kernel
theorem dX7_init_50 : decode cX7_init 50 = .ok (.dup, 1) := by decide +kernel
theorem dX7_init_51 : decode cX7_init 51 = .ok (.invokespecial 34, 3) := by decide +kernel
theorem dX7_init_54 : decode cX7_init 54 = .ok (.putfield 35, 3) := by decide +kernel
theorem dX7_init_57 : decode cX7_init 57 = .ok (.aload_n 0, 1) := by decide +kernel
theorem dX7_init_58 : decode cX7_init 58 = .ok (.iconst 0, 1) := by decide +kernel
theorem dX7_init_59 : decode cX7_init 59 = .ok (.putfield 39, 3) := by decide +kernel
theorem dX7_init_62 : decode cX7_init 62 = .ok (.aload_n 0, 1) := by decide +kernel
theorem dX7_init_63 : decode cX7_init 63 = .ok (.iconst 0, 1) := by decide +kernel
theorem dX7_init_64 : decode cX7_init 64 = .ok (.putfield 43, 3) := by decide +kernel
theorem dX7_init_67 : decode cX7_init 67 = .ok (.aload_n 0, 1) := by decide +kernel
theorem dX7_init_68 : decode cX7_init 68 = .ok (.iconst 0, 1) := by decide +kernel
theorem dX7_init_69 : decode cX7_init 69 = .ok (.putfield 46, 3) := by decide +kernel
theorem dX7_init_72 : decode cX7_init 72 = .ok (.aload_n 0, 1) := by decide +kernel
theorem dX7_init_73 : decode cX7_init 73 = .ok (.iconst 0, 1) := by decide +kernel
theorem dX7_init_74 : decode cX7_init 74 = .ok (.putfield 49, 3) := by decide +kernel
theorem dX7_init_77 : decode cX7_init 77 = .ok (.aload_n 0, 1) := by decide +kernel
theorem dX7_init_78 : decode cX7_init 78 = .ok (.iconst (-1), 1) := by decide +kernel
theorem dX7_init_79 : decode cX7_init 79 = .ok (.putfield 52, 3) := by decide +kernel
theorem dX7_init_82 : decode cX7_init 82 = .ok (.aload_n 0, 1) := by decide +kernel
theorem dX7_init_83 : decode cX7_init 83 = .ok (.iconst (-1), 1) := by decide +kernel
theorem dX7_init_84 : decode cX7_init 84 = .ok (.putfield 55, 3) := by decide +kernel
theorem dX7_init_87 : decode cX7_init 87 = .ok (.aload_n 0, 1) := by decide +kernel
theorem dX7_init_88 : decode cX7_init 88 = .ok (.iconst (-1), 1) := by decide +kernel
theorem dX7_init_89 : decode cX7_init 89 = .ok (.putfield 58, 3) := by decide +kernel
theorem dX7_init_92 : decode cX7_init 92 = .ok (.aload_n 0, 1) := by decide +kernel
theorem dX7_init_93 : decode cX7_init 93 = .ok (.iconst (-1), 1) := by decide +kernel
theorem dX7_init_94 : decode cX7_init 94 = .ok (.putfield 61, 3) := by decide +kernel
theorem dX7_init_97 : decode cX7_init 97 = .ok (.iconst 2, 1) := by decide +kernel
theorem dX7_init_98 : decode cX7_init 98 = .ok (.bipush 11, 2) := by decide +kernel
theorem dX7_init_100 : decode cX7_init 100 = .ok (.iload_n 1, 1) := by decide +kernel
theorem dX7_init_101 : decode cX7_init 101 = .ok (.invokestatic 64, 3) := by decide +kernel
theorem dX7_init_104 : decode cX7_init 104 = .ok (.invokestatic 70, 3) := by decide +kernel
theorem dX7_init_107 : decode cX7_init 107 = .ok (.istore_n 2, 1) := by decide +kernel
theorem dX7_init_108 : decode cX7_init 108 = .ok (.aload_n 0, 1) := by decide +kernel
theorem dX7_init_109 : decode cX7_init 109 = .ok (.iload_n 2, 1) := by decide +kernel
theorem dX7_init_110 : decode cX7_init 110 = .ok (.anewarray 73, 3) := by decide +kernel
theorem dX7_init_113 : decode cX7_init 113 = .ok (.putfield 75, 3) := by decide +kernel
theorem dX7_init_116 : decode cX7_init 116 = .ok (.aconst_null, 1) := by decide +kernel
theorem dX7_init_117 : decode cX7_init 117 = .ok (.astore_n 3, 1) := by decide +kernel
theorem dX7_init_118 : decode cX7_init 118 = .ok (.iload_n 2, 1) := by decide +kernel
theorem dX7_init_119 : decode cX7_init 119 = .ok (.iconst 1, 1) := by decide +kernel
theorem dX7_init_120 : decode cX7_init 120 = .ok (.isub, 1) := by decide +kernel
theorem dX7_init_121 : decode cX7_init 121 = .ok (.istore 4, 2) := by decide +kernel
theorem dX7_init_123 : decode cX7_init 123 = .ok (.iload 4, 2) := by decide +kernel
theorem dX7_init_125 : decode cX7_init 125 = .ok (.ifCond .lt 28, 3) := by decide +kernel
theorem dX7_init_128 : decode cX7_init 128 = .ok (.new 73, 3) := by decide +kernel
theorem dX7_init_131 : decode cX7_init 131 = .ok (.dup, 1) := by decide +kernel
theorem dX7_init_132 : decode cX7_init 132 = .ok (.iload 4, 2) := by decide +kernel
theorem dX7_init_134 : decode cX7_init 134 = .ok (.aload_n 3, 1) := by decide +kernel
theorem dX7_init_135 : decode cX7_init 135 = .ok (.invokespecial 79, 3) := by decide +kernel
theorem dX7_init_138 : decode cX7_init 138 = .ok (.astore_n 3, 1) := by decide +kernel
theorem dX7_init_139 : decode cX7_init 139 = .ok (.aload_n 0, 1) := by decide +kernel
theorem dX7_init_140 : decode cX7_init 140 = .ok (.getfield 75, 3) := by decide +kernel
theorem dX7_init_143 : decode cX7_init 143 = .ok (.iload 4, 2) := by decide +kernel
theorem dX7_init_145 : decode cX7_init 145 = .ok (.aload_n 3, 1) := by decide +kernel
theorem dX7_init_146 : decode cX7_init 146 = .ok (.aastore, 1) := by decide +kernel
theorem dX7_init_147 : decode cX7_init 147 = .ok (.iinc 4 (-1), 3) := by decide +kernel
theorem dX7_init_150 : decode cX7_init 150 = .ok (.goto (-27), 3) := by decide +kernel
theorem dX7_init_153 : decode cX7_init 153 = .ok (.aload_n 0, 1) := by decide +kernel
theorem dX7_init_154 : decode cX7_init 154 = .ok (.new 82, 3) := by decide +kernel
theorem dX7_init_157 : decode cX7_init 157 = .ok (.dup, 1) := by decide +kernel
theorem dX7_init_158 : decode cX7_init 158 = .ok (.aload_n 3, 1) := by decide +kernel
theorem dX7_init_159 : decode cX7_init 159 = .ok (.aload_n 0, 1) := by decide +kernel
theorem dX7_init_160 : decode cX7_init 160 = .ok (.getfield 25, 3) := by decide +kernel
theorem dX7_init_163 : decode cX7_init 163 = .ok (.invokespecial 84, 3) := by decide +kernel
theorem dX7_init_166 : decode cX7_init 166 = .ok (.putfield 87, 3) := by decide +kernel
theorem dX7_init_169 : decode cX7_init 169 = .ok (.return_, 1) := by decide +kernel
theorem dX7_tank_0 : decode cX7_tank 0 = .ok (.aload_n 0, 1) := by decide +kernel
theorem dX7_tank_1 : decode cX7_tank 1 = .ok (.iload_n 1, 1) := by decide +kernel
theorem dX7_tank_2 : decode cX7_tank 2 = .ok (.invokevirtual 91, 3) := by decide +kernel
theorem dX7_tank_5 : decode cX7_tank 5 = .ok (.astore 5, 2) := by decide +kernel
theorem dX7_tank_7 : decode cX7_tank 7 = .ok (.aload 5, 2) := by decide +kernel
theorem dX7_tank_9 : decode cX7_tank 9 = .ok (.ifnull 41, 3) := by decide +kernel
theorem dX7_tank_12 : decode cX7_tank 12 = .ok (.iload_n 2, 1) := by decide +kernel
theorem dX7_tank_13 : decode cX7_tank 13 = .ok (.iconst 0, 1) := by decide +kernel
theorem dX7_tank_14 : decode cX7_tank 14 = .ok (.bipush 20, 2) := by decide +kernel
theorem dX7_tank_16 : decode cX7_tank 16 = .ok (.invokestatic 95, 3) := by decide +kernel
theorem dX7_tank_19 : decode cX7_tank 19 = .ok (.ifCond .eq 31, 3) := by decide +kernel
theorem dX7_tank_22 : decode cX7_tank 22 = .ok (.iload_n 3, 1) := by decide +kernel
theorem dX7_tank_23 : decode cX7_tank 23 = .ok (.bipush 10, 2) := by decide +kernel
theorem dX7_tank_25 : decode cX7_tank 25 = .ok (.sipush 1000, 3) := by decide +kernel
theorem dX7_tank_28 : decode cX7_tank 28 = .ok (.invokestatic 95, 3) := by decide +kernel
theorem dX7_tank_31 : decode cX7_tank 31 = .ok (.ifCond .eq 19, 3) := by decide +kernel
theorem dX7_tank_34 : decode cX7_tank 34 = .ok (.iload 4, 2) := by decide +kernel
theorem dX7_tank_36 : decode cX7_tank 36 = .ok (.iconst 0, 1) := by decide +kernel
theorem dX7_tank_37 : decode cX7_tank 37 = .ok (.sipush 500, 3) := by decide +kernel
theorem dX7_tank_40 : decode cX7_tank 40 = .ok (.invokestatic 95, 3) := by decide +kernel
theorem dX7_tank_43 : decode cX7_tank 43 = .ok (.ifCond .eq 7, 3) := by decide +kernel
theorem dX7_tank_46 : decode cX7_tank 46 = .ok (.iconst 1, 1) := by decide +kernel
theorem dX7_tank_47 : decode cX7_tank 47 = .ok (.goto 4, 3) := by decide +kernel
theorem dX7_tank_50 : decode cX7_tank 50 = .ok (.iconst 0, 1) := by decide +kernel
theorem dX7_tank_51 : decode cX7_tank 51 = .ok (.istore 6, 2) := by decide +kernel
theorem dX7_tank_53 : decode cX7_tank 53 = .ok (.iload 6, 2) := by decide +kernel
theorem dX7_tank_55 : decode cX7_tank 55 = .ok (.ifCond .eq 10, 3) := by decide +kernel
theorem dX7_tank_58 : decode cX7_tank 58 = .ok (.aload_n 0, 1) := by decide +kernel
theorem dX7_tank_59 : decode cX7_tank 59 = .ok (.getfield 43, 3) := by decide +kernel
theorem dX7_tank_62 : decode cX7_tank 62 = .ok (.ifCond .le 5, 3) := by decide +kernel
theorem dX7_tank_65 : decode cX7_tank 65 = .ok (.iconst 0, 1) := by decide +kernel
theorem dX7_tank_66 : decode cX7_tank 66 = .ok (.ireturn, 1) := by decide +kernel
theorem dX7_tank_67 : decode cX7_tank 67 = .ok (.aload 5, 2) := by decide +kernel
theorem dX7_tank_69 : decode cX7_tank 69 = .ok (.iload_n 2, 1) := by decide +kernel
theorem dX7_tank_70 : decode cX7_tank 70 = .ok (.putfield 99, 3) := by decide +kernel
theorem dX7_tank_73 : decode cX7_tank 73 = .ok (.aload 5, 2) := by decide +kernel
theorem dX7_tank_75 : decode cX7_tank 75 = .ok (.iload_n 3, 1) := by decide +kernel
theorem dX7_tank_76 : decode cX7_tank 76 = .ok (.putfield 102, 3) := by decide +kernel
theorem dX7_tank_79 : decode cX7_tank 79 = .ok (.aload 5, 2) := by decide +kernel
theorem dX7_tank_81 : decode cX7_tank 81 = .ok (.iload 4, 2) := by decide +kernel
theorem dX7_tank_83 : decode cX7_tank 83 = .ok (.putfield 105, 3) := by decide +kernel
theorem dX7_tank_86 : decode cX7_tank 86 = .ok (.iconst 1, 1) := by decide +kernel
theorem dX7_tank_87 : decode cX7_tank 87 = .ok (.ireturn, 1) := by decide +kernel
theorem dX7_water_0 : decode cX7_water 0 = .ok (.aload_n 0, 1) := by decide +kernel
theorem dX7_water_1 : decode cX7_water 1 = .ok (.iload_n 1, 1) := by decide +kernel
theorem dX7_water_2 : decode cX7_water 2 = .ok (.invokevirtual 91, 3) := by decide +kernel
theorem dX7_water_5 : decode cX7_water 5 = .ok (.astore_n 3, 1) := by decide +kernel
theorem dX7_water_6 : decode cX7_water 6 = .ok (.aload_n 3, 1) := by decide +kernel
theorem dX7_water_7 : decode cX7_water 7 = .ok (.ifnull 22, 3) := by decide +kernel
theorem dX7_water_10 : decode cX7_water 10 = .ok (.iload_n 2, 1) := by decide +kernel
theorem dX7_water_11 : decode cX7_water 11 = .ok (.iconst 0, 1) := by decide +kernel
theorem dX7_water_12 : decode cX7_water 12 = .ok (.aload_n 3, 1) := by decide +kernel
theorem dX7_water_13 : decode cX7_water 13 = .ok (.aload_n 3, 1) := by decide +kernel
theorem dX7_water_14 : decode cX7_water 14 = .ok (.getfield 108, 3) := by decide +kernel
theorem dX7_water_17 : decode cX7_water 17 = .ok (.getfield 112, 3) := by decide +kernel
theorem dX7_water_20 : decode cX7_water 20 = .ok (.invokevirtual 118, 3) := by decide +kernel
theorem dX7_water_23 : decode cX7_water 23 = .ok (.invokestatic 95, 3) := by decide +kernel
theorem dX7_water_26 : decode cX7_water 26 = .ok (.ifCond .ne 5, 3) := by decide +kernel
theorem dX7_water_29 : decode cX7_water 29 = .ok (.iconst 0, 1) := by decide +kernel
theorem dX7_water_30 : decode cX7_water 30 = .ok (.ireturn, 1) := by decide +kernel
theorem dX7_water_31 : decode cX7_water 31 = .ok (.aload_n 0, 1) := by decide +kernel
theorem dX7_water_32 : decode cX7_water 32 = .ok (.dup, 1) := by decide +kernel
theorem dX7_water_33 : decode cX7_water 33 = .ok (.getfield 49, 3) := by decide +kernel
theorem dX7_water_36 : decode cX7_water 36 = .ok (.iload_n 2, 1) := by decide +kernel
theorem dX7_water_37 : decode cX7_water 37 = .ok (.aload_n 3, 1) := by decide +kernel
theorem dX7_water_38 : decode cX7_water 38 = .ok (.getfield 108, 3) := by decide +kernel
theorem dX7_water_41 : decode cX7_water 41 = .ok (.getfield 122, 3) := by decide +kernel
theorem dX7_water_44 : decode cX7_water 44 = .ok (.isub, 1) := by decide +kernel
theorem dX7_water_45 : decode cX7_water 45 = .ok (.iadd, 1) := by decide +kernel
theorem dX7_water_46 : decode cX7_water 46 = .ok (.putfield 49, 3) := by decide +kernel
theorem dX7_water_49 : decode cX7_water 49 = .ok (.aload_n 3, 1) := by decide +kernel
theorem dX7_water_50 : decode cX7_water 50 = .ok (.getfield 108, 3) := by decide +kernel
theorem dX7_water_53 : decode cX7_water 53 = .ok (.iload_n 2, 1) := by decide +kernel
theorem dX7_water_54 : decode cX7_water 54 = .ok (.putfield 122, 3) := by decide +kernel
theorem dX7_water_57 : decode cX7_water 57 = .ok (.iconst 1, 1) := by decide +kernel
theorem dX7_water_58 : decode cX7_water 58 = .ok (.ireturn, 1) := by decide +kernel
theorem dX7_field_0 : decode cX7_field 0 = .ok (.aload_n 0, 1) := by decide +kernel
theorem dX7_field_1 : decode cX7_field 1 = .ok (.iload_n 1, 1) := by decide +kernel
theorem dX7_field_2 : decode cX7_field 2 = .ok (.invokevirtual 91, 3) := by decide +kernel
theorem dX7_field_5 : decode cX7_field 5 = .ok (.astore 6, 2) := by decide +kernel
theorem dX7_field_7 : decode cX7_field 7 = .ok (.aload 6, 2) := by decide +kernel
theorem dX7_field_9 : decode cX7_field 9 = .ok (.ifnull 38, 3) := by decide +kernel
theorem dX7_field_12 : decode cX7_field 12 = .ok (.iload_n 2, 1) := by decide +kernel
theorem dX7_field_13 : decode cX7_field 13 = .ok (.iconst 0, 1) := by decide +kernel
theorem dX7_field_14 : decode cX7_field 14 = .ok (.bipush 9, 2) := by decide +kernel
theorem dX7_field_16 : decode cX7_field 16 = .ok (.invokestatic 95, 3) := by decide +kernel
theorem dX7_field_19 : decode cX7_field 19 = .ok (.ifCond .eq 28, 3) := by decide +kernel
theorem dX7_field_22 : decode cX7_field 22 = .ok (.iload_n 3, 1) := by decide +kernel
theorem dX7_field_23 : decode cX7_field 23 = .ok (.iconst 1, 1) := by decide +kernel
theorem dX7_field_24 : decode cX7_field 24 = .ok (.bipush 20, 2) := by decide +kernel
theorem dX7_field_26 : decode cX7_field 26 = .ok (.invokestatic 95, 3) := by decide +kernel
theorem dX7_field_29 : decode cX7_field 29 = .ok (.ifCond .eq 18, 3) := by decide +kernel
theorem dX7_field_32 : decode cX7_field 32 = .ok (.iload 4, 2) := by decide +kernel
theorem dX7_field_34 : decode cX7_field 34 = .ok (.iconst 0, 1) := by decide +kernel
theorem dX7_field_35 : decode cX7_field 35 = .ok (.bipush 9, 2) := by decide +kernel
theorem dX7_field_37 : decode cX7_field 37 = .ok (.invokestatic 95, 3) := by decide +kernel
theorem dX7_field_40 : decode cX7_field 40 = .ok (.ifCond .eq 7, 3) := by decide +kernel
theorem dX7_field_43 : decode cX7_field 43 = .ok (.iconst 1, 1) := by decide +kernel
theorem dX7_field_44 : decode cX7_field 44 = .ok (.goto 4, 3) := by decide +kernel
theorem dX7_field_47 : decode cX7_field 47 = .ok (.iconst 0, 1) := by decide +kernel
theorem dX7_field_48 : decode cX7_field 48 = .ok (.istore 7, 2) := by decide +kernel
theorem dX7_field_50 : decode cX7_field 50 = .ok (.aload_n 0, 1) := by decide +kernel
theorem dX7_field_51 : decode cX7_field 51 = .ok (.getfield 39, 3) := by decide +kernel
theorem dX7_field_54 : decode cX7_field 54 = .ok (.istore 8, 2) := by decide +kernel
theorem dX7_field_56 : decode cX7_field 56 = .ok (.iload 7, 2) := by decide +kernel
theorem dX7_field_58 : decode cX7_field 58 = .ok (.ifCond .eq 13, 3) := by decide +kernel
theorem dX7_field_61 : decode cX7_field 61 = .ok (.iload 8, 2) := by decide +kernel
theorem dX7_field_63 : decode cX7_field 63 = .ok (.aload_n 0, 1) := by decide +kernel
theorem dX7_field_64 : decode cX7_field 64 = .ok (.getfield 11, 3) := by decide +kernel
theorem dX7_field_67 : decode cX7_field 67 = .ok (.arraylength, 1) := by decide +kernel
theorem dX7_field_68 : decode cX7_field 68 = .ok (.if_icmp .lt 5, 3) := by decide +kernel
theorem dX7_field_71 : decode cX7_field 71 = .ok (.iconst (-1), 1) := by decide +kernel
theorem dX7_field_72 : decode cX7_field 72 = .ok (.ireturn, 1) := by decide +kernel
theorem dX7_field_73 : decode cX7_field 73 = .ok (.new 9, 3) := by decide +kernel
theorem dX7_field_76 : decode cX7_field 76 = .ok (.dup, 1) := by decide +kernel
theorem dX7_field_77 : decode cX7_field 77 = .ok (.iload 8, 2) := by decide +kernel
theorem dX7_field_79 : decode cX7_field 79 = .ok (.iload_n 1, 1) := by decide +kernel
theorem dX7_field_80 : decode cX7_field 80 = .ok (.iload_n 2, 1) := by decide +kernel
theorem dX7_field_81 : decode cX7_field 81 = .ok (.iload_n 3, 1) := by decide +kernel
theorem dX7_field_82 : decode cX7_field 82 = .ok (.iload 4, 2) := by decide +kernel
theorem dX7_field_84 : decode cX7_field 84 = .ok (.iload 5, 2) := by decide +kernel
theorem dX7_field_86 : decode cX7_field 86 = .ok (.invokespecial 125, 3) := by decide +kernel
theorem dX7_field_89 : decode cX7_field 89 = .ok (.astore 9, 2) := by decide +kernel
theorem dX7_field_91 : decode cX7_field 91 = .ok (.aload_n 0, 1) := by decide +kernel
theorem dX7_field_92 : decode cX7_field 92 = .ok (.getfield 11, 3) := by decide +kernel
theorem dX7_field_95 : decode cX7_field 95 = .ok (.iload 8, 2) := by decide +kernel
theorem dX7_field_97 : decode cX7_field 97 = .ok (.aload 9, 2) := by decide +kernel
theorem dX7_field_99 : decode cX7_field 99 = .ok (.aastore, 1) := by decide +kernel
theorem dX7_field_100 : decode cX7_field 100 = .ok (.aload_n 0, 1) := by decide +kernel
theorem dX7_field_101 : decode cX7_field 101 = .ok (.iload 8, 2) := by decide +kernel
theorem dX7_field_103 : decode cX7_field 103 = .ok (.iconst 1, 1) := by decide +kernel
theorem dX7_field_104 : decode cX7_field 104 = .ok (.iadd, 1) := by decide +kernel
theorem dX7_field_105 : decode cX7_field 105 = .ok (.putfield 39, 3) := by decide +kernel
theorem dX7_field_108 : decode cX7_field 108 = .ok (.aload 6, 2) := by decide +kernel
theorem dX7_field_110 : decode cX7_field 110 = .ok (.aload 9, 2) := by decide +kernel
theorem dX7_field_112 : decode cX7_field 112 = .ok (.aload_n 0, 1) := by decide +kernel
theorem dX7_field_113 : decode cX7_field 113 = .ok (.getfield 25, 3) := by decide +kernel
theorem dX7_field_116 : decode cX7_field 116 = .ok (.invokevirtual 128, 3) := by decide +kernel
theorem dX7_field_119 : decode cX7_field 119 = .ok (.iload 8, 2) := by decide +kernel
theorem dX7_field_121 : decode cX7_field 121 = .ok (.ireturn, 1) := by decide +kernel
theorem dX7_open_0 : decode cX7_open 0 = .ok (.aload_n 0, 1) := by decide +kernel
theorem dX7_open_1 : decode cX7_open 1 = .ok (.iload_n 1, 1) := by decide +kernel
theorem dX7_open_2 : decode cX7_open 2 = .ok (.invokevirtual 91, 3) := by decide +kernel
theorem dX7_open_5 : decode cX7_open 5 = .ok (.astore_n 3, 1) := by decide +kernel
theorem dX7_open_6 : decode cX7_open 6 = .ok (.aload_n 3, 1) := by decide +kernel
theorem dX7_open_7 : decode cX7_open 7 = .ok (.ifnull 13, 3) := by decide +kernel
theorem dX7_open_10 : decode cX7_open 10 = .ok (.iload_n 2, 1) := by decide +kernel
theorem dX7_open_11 : decode cX7_open 11 = .ok (.iconst 0, 1) := by decide +kernel
theorem dX7_open_12 : decode cX7_open 12 = .ok (.bipush 20, 2) := by decide +kernel
theorem dX7_open_14 : decode cX7_open 14 = .ok (.invokestatic 95, 3) := by decide +kernel
theorem dX7_open_17 : decode cX7_open 17 = .ok (.ifCond .ne 5, 3) := by decide +kernel
theorem dX7_open_20 : decode cX7_open 20 = .ok (.iconst 0, 1) := by decide +kernel
theorem dX7_open_21 : decode cX7_open 21 = .ok (.ireturn, 1) := by decide +kernel
theorem dX7_open_22 : decode cX7_open 22 = .ok (.aload_n 3, 1) := by decide +kernel
theorem dX7_open_23 : decode cX7_open 23 = .ok (.getfield 108, 3) := by decide +kernel
theorem dX7_open_26 : decode cX7_open 26 = .ok (.iload_n 2, 1) := by decide +kernel
theorem dX7_open_27 : decode cX7_open 27 = .ok (.putfield 132, 3) := by decide +kernel
theorem dX7_open_30 : decode cX7_open 30 = .ok (.iconst 1, 1) := by decide +kernel
theorem dX7_open_31 : decode cX7_open 31 = .ok (.ireturn, 1) := by decide +kernel
theorem dX7_mend_0 : decode cX7_mend 0 = .ok (.aload_n 0, 1) := by decide +kernel
theorem dX7_mend_1 : decode cX7_mend 1 = .ok (.iload_n 1, 1) := by decide +kernel
theorem dX7_mend_2 : decode cX7_mend 2 = .ok (.invokevirtual 91, 3) := by decide +kernel
theorem dX7_mend_5 : decode cX7_mend 5 = .ok (.astore_n 3, 1) := by decide +kernel
theorem dX7_mend_6 : decode cX7_mend 6 = .ok (.aload_n 3, 1) := by decide +kernel
theorem dX7_mend_7 : decode cX7_mend 7 = .ok (.ifnull 14, 3) := by decide +kernel
theorem dX7_mend_10 : decode cX7_mend 10 = .ok (.iload_n 2, 1) := by decide +kernel
theorem dX7_mend_11 : decode cX7_mend 11 = .ok (.iconst 0, 1) := by decide +kernel
theorem dX7_mend_12 : decode cX7_mend 12 = .ok (.sipush 500, 3) := by decide +kernel
theorem dX7_mend_15 : decode cX7_mend 15 = .ok (.invokestatic 95, 3) := by decide +kernel
theorem dX7_mend_18 : decode cX7_mend 18 = .ok (.ifCond .ne 5, 3) := by decide +kernel
theorem dX7_mend_21 : decode cX7_mend 21 = .ok (.iconst 0, 1) := by decide +kernel
theorem dX7_mend_22 : decode cX7_mend 22 = .ok (.ireturn, 1) := by decide +kernel
theorem dX7_mend_23 : decode cX7_mend 23 = .ok (.aload_n 3, 1) := by decide +kernel
theorem dX7_mend_24 : decode cX7_mend 24 = .ok (.getfield 108, 3) := by decide +kernel
theorem dX7_mend_27 : decode cX7_mend 27 = .ok (.iconst 0, 1) := by decide +kernel
theorem dX7_mend_28 : decode cX7_mend 28 = .ok (.putfield 112, 3) := by decide +kernel
theorem dX7_mend_31 : decode cX7_mend 31 = .ok (.aload_n 3, 1) := by decide +kernel
theorem dX7_mend_32 : decode cX7_mend 32 = .ok (.iload_n 2, 1) := by decide +kernel
theorem dX7_mend_33 : decode cX7_mend 33 = .ok (.putfield 105, 3) := by decide +kernel
theorem dX7_mend_36 : decode cX7_mend 36 = .ok (.iconst 1, 1) := by decide +kernel
theorem dX7_mend_37 : decode cX7_mend 37 = .ok (.ireturn, 1) := by decide +kernel
theorem dX7_dredge_0 : decode cX7_dredge 0 = .ok (.aload_n 0, 1) := by decide +kernel
theorem dX7_dredge_1 : decode cX7_dredge 1 = .ok (.iload_n 1, 1) := by decide +kernel
theorem dX7_dredge_2 : decode cX7_dredge 2 = .ok (.invokevirtual 91, 3) := by decide +kernel
theorem dX7_dredge_5 : decode cX7_dredge 5 = .ok (.astore_n 3, 1) := by decide +kernel
theorem dX7_dredge_6 : decode cX7_dredge 6 = .ok (.aload_n 3, 1) := by decide +kernel
theorem dX7_dredge_7 : decode cX7_dredge 7 = .ok (.ifnull 15, 3) := by decide +kernel
theorem dX7_dredge_10 : decode cX7_dredge 10 = .ok (.iload_n 2, 1) := by decide +kernel
theorem dX7_dredge_11 : decode cX7_dredge 11 = .ok (.iconst 1, 1) := by decide +kernel
theorem dX7_dredge_12 : decode cX7_dredge 12 = .ok (.aload_n 3, 1) := by decide +kernel
theorem dX7_dredge_13 : decode cX7_dredge 13 = .ok (.getfield 135, 3) := by decide +kernel
theorem dX7_dredge_16 : decode cX7_dredge 16 = .ok (.invokestatic 95, 3) := by decide +kernel
theorem dX7_dredge_19 : decode cX7_dredge 19 = .ok (.ifCond .ne 5, 3) := by decide +kernel
theorem dX7_dredge_22 : decode cX7_dredge 22 = .ok (.iconst (-1), 1) := by decide +kernel
theorem dX7_dredge_23 : decode cX7_dredge 23 = .ok (.ireturn, 1) := by decide +kernel
theorem dX7_dredge_24 : decode cX7_dredge 24 = .ok (.aload_n 3, 1) := by decide +kernel
theorem dX7_dredge_25 : decode cX7_dredge 25 = .ok (.dup, 1) := by decide +kernel
theorem dX7_dredge_26 : decode cX7_dredge 26 = .ok (.getfield 135, 3) := by decide +kernel
theorem dX7_dredge_29 : decode cX7_dredge 29 = .ok (.iload_n 2, 1) := by decide +kernel
theorem dX7_dredge_30 : decode cX7_dredge 30 = .ok (.isub, 1) := by decide +kernel
theorem dX7_dredge_31 : decode cX7_dredge 31 = .ok (.putfield 135, 3) := by decide +kernel
theorem dX7_dredge_34 : decode cX7_dredge 34 = .ok (.aload_n 3, 1) := by decide +kernel
theorem dX7_dredge_35 : decode cX7_dredge 35 = .ok (.getfield 135, 3) := by decide +kernel
theorem dX7_dredge_38 : decode cX7_dredge 38 = .ok (.ireturn, 1) := by decide +kernel
theorem dX7_feed_0 : decode cX7_feed 0 = .ok (.aload_n 0, 1) := by decide +kernel
theorem dX7_feed_1 : decode cX7_feed 1 = .ok (.getfield 18, 3) := by decide +kernel
theorem dX7_feed_4 : decode cX7_feed 4 = .ok (.getfield 138, 3) := by decide +kernel
theorem dX7_feed_7 : decode cX7_feed 7 = .ok (.bipush 20, 2) := by decide +kernel
theorem dX7_feed_9 : decode cX7_feed 9 = .ok (.iadd, 1) := by decide +kernel
theorem dX7_feed_10 : decode cX7_feed 10 = .ok (.sipush 300, 3) := by decide +kernel
theorem dX7_feed_13 : decode cX7_feed 13 = .ok (.if_icmp .le 5, 3) := by decide +kernel
theorem dX7_feed_16 : decode cX7_feed 16 = .ok (.iconst (-1), 1) := by decide +kernel
theorem dX7_feed_17 : decode cX7_feed 17 = .ok (.ireturn, 1) := by decide +kernel
theorem dX7_feed_18 : decode cX7_feed 18 = .ok (.aload_n 0, 1) := by decide +kernel
theorem dX7_feed_19 : decode cX7_feed 19 = .ok (.getfield 18, 3) := by decide +kernel
theorem dX7_feed_22 : decode cX7_feed 22 = .ok (.iload_n 1, 1) := by decide +kernel
theorem dX7_feed_23 : decode cX7_feed 23 = .ok (.invokevirtual 141, 3) := by decide +kernel
theorem dX7_feed_26 : decode cX7_feed 26 = .ok (.aload_n 0, 1) := by decide +kernel
theorem dX7_feed_27 : decode cX7_feed 27 = .ok (.getfield 18, 3) := by decide +kernel
theorem dX7_feed_30 : decode cX7_feed 30 = .ok (.iload_n 2, 1) := by decide +kernel
theorem dX7_feed_31 : decode cX7_feed 31 = .ok (.invokevirtual 141, 3) := by decide +kernel
theorem dX7_feed_34 : decode cX7_feed 34 = .ok (.aload_n 0, 1) := by decide +kernel
theorem dX7_feed_35 : decode cX7_feed 35 = .ok (.getfield 18, 3) := by decide +kernel
theorem dX7_feed_38 : decode cX7_feed 38 = .ok (.iload_n 3, 1) := by decide +kernel
theorem dX7_feed_39 : decode cX7_feed 39 = .ok (.invokevirtual 141, 3) := by decide +kernel
theorem dX7_feed_42 : decode cX7_feed 42 = .ok (.aload_n 0, 1) := by decide +kernel
theorem dX7_feed_43 : decode cX7_feed 43 = .ok (.getfield 18, 3) := by decide +kernel
theorem dX7_feed_46 : decode cX7_feed 46 = .ok (.iload 4, 2) := by decide +kernel
theorem dX7_feed_48 : decode cX7_feed 48 = .ok (.invokevirtual 141, 3) := by decide +kernel
theorem dX7_feed_51 : decode cX7_feed 51 = .ok (.aload_n 0, 1) := by decide +kernel
theorem dX7_feed_52 : decode cX7_feed 52 = .ok (.getfield 18, 3) := by decide +kernel
theorem dX7_feed_55 : decode cX7_feed 55 = .ok (.iload 5, 2) := by decide +kernel
theorem dX7_feed_57 : decode cX7_feed 57 = .ok (.invokevirtual 141, 3) := by decide +kernel
theorem dX7_feed_60 : decode cX7_feed 60 = .ok (.aload_n 0, 1) := by decide +kernel
theorem dX7_feed_61 : decode cX7_feed 61 = .ok (.getfield 18, 3) := by decide +kernel
theorem dX7_feed_64 : decode cX7_feed 64 = .ok (.getfield 138, 3) := by decide +kernel
theorem dX7_feed_67 : decode cX7_feed 67 = .ok (.ireturn, 1) := by decide +kernel
theorem dX7_custom_0 : decode cX7_custom 0 = .ok (.iload_n 1, 1) := by decide +kernel
theorem dX7_custom_1 : decode cX7_custom 1 = .ok (.iconst 0, 1) := by decide +kernel
theorem dX7_custom_2 : decode cX7_custom 2 = .ok (.aload_n 0, 1) := by decide +kernel
theorem dX7_custom_3 : decode cX7_custom 3 = .ok (.getfield 18, 3) := by decide +kernel
theorem dX7_custom_6 : decode cX7_custom 6 = .ok (.getfield 138, 3) := by decide +kernel
theorem dX7_custom_9 : decode cX7_custom 9 = .ok (.invokestatic 95, 3) := by decide +kernel
theorem dX7_custom_12 : decode cX7_custom 12 = .ok (.ifCond .ne 6, 3) := by decide +kernel
theorem dX7_custom_15 : decode cX7_custom 15 = .ok (.bipush (-2), 2) := by decide +kernel
theorem dX7_custom_17 : decode cX7_custom 17 = .ok (.ireturn, 1) := by decide +kernel
theorem dX7_custom_18 : decode cX7_custom 18 = .ok (.aload_n 0, 1) := by decide +kernel
theorem dX7_custom_19 : decode cX7_custom 19 = .ok (.aload_n 0, 1) := by decide +kernel
theorem dX7_custom_20 : decode cX7_custom 20 = .ok (.getfield 18, 3) := by decide +kernel
theorem dX7_custom_23 : decode cX7_custom 23 = .ok (.aload_n 0, 1) := by decide +kernel
theorem dX7_custom_24 : decode cX7_custom 24 = .ok (.getfield 29, 3) := by decide +kernel
theorem dX7_custom_27 : decode cX7_custom 27 = .ok (.iload_n 1, 1) := by decide +kernel
theorem dX7_custom_28 : decode cX7_custom 28 = .ok (.invokevirtual 145, 3) := by decide +kernel
theorem dX7_custom_31 : decode cX7_custom 31 = .ok (.putfield 52, 3) := by decide +kernel
theorem dX7_custom_34 : decode cX7_custom 34 = .ok (.aload_n 0, 1) := by decide +kernel
theorem dX7_custom_35 : decode cX7_custom 35 = .ok (.getfield 18, 3) := by decide +kernel
theorem dX7_custom_38 : decode cX7_custom 38 = .ok (.iconst 0, 1) := by decide +kernel
theorem dX7_custom_39 : decode cX7_custom 39 = .ok (.putfield 138, 3) := by decide +kernel
theorem dX7_custom_42 : decode cX7_custom 42 = .ok (.aload_n 0, 1) := by decide +kernel
theorem dX7_custom_43 : decode cX7_custom 43 = .ok (.getfield 52, 3) := by decide +kernel
theorem dX7_custom_46 : decode cX7_custom 46 = .ok (.iconst (-1), 1) := by decide +kernel
theorem dX7_custom_47 : decode cX7_custom 47 = .ok (.if_icmp .eq 5, 3) := by decide +kernel
theorem dX7_custom_50 : decode cX7_custom 50 = .ok (.iconst (-1), 1) := by decide +kernel
theorem dX7_custom_51 : decode cX7_custom 51 = .ok (.ireturn, 1) := by decide +kernel
theorem dX7_custom_52 : decode cX7_custom 52 = .ok (.aload_n 0, 1) := by decide +kernel
theorem dX7_custom_53 : decode cX7_custom 53 = .ok (.getfield 25, 3) := by decide +kernel
theorem dX7_custom_56 : decode cX7_custom 56 = .ok (.aload_n 0, 1) := by decide +kernel
theorem dX7_custom_57 : decode cX7_custom 57 = .ok (.getfield 29, 3) := by decide +kernel
theorem dX7_custom_60 : decode cX7_custom 60 = .ok (.invokevirtual 149, 3) := by decide +kernel
theorem dX7_custom_63 : decode cX7_custom 63 = .ok (.aload_n 0, 1) := by decide +kernel
theorem dX7_custom_64 : decode cX7_custom 64 = .ok (.invokevirtual 153, 3) := by decide +kernel
theorem dX7_custom_67 : decode cX7_custom 67 = .ok (.aload_n 0, 1) := by decide +kernel
theorem dX7_custom_68 : decode cX7_custom 68 = .ok (.getfield 25, 3) := by decide +kernel
theorem dX7_custom_71 : decode cX7_custom 71 = .ok (.getfield 156, 3) := by decide +kernel
theorem dX7_custom_74 : decode cX7_custom 74 = .ok (.ireturn, 1) := by decide +kernel
theorem dX7_fault_0 : decode cX7_fault 0 = .ok (.aload_n 0, 1) := by decide +kernel
theorem dX7_fault_1 : decode cX7_fault 1 = .ok (.getfield 52, 3) := by decide +kernel
theorem dX7_fault_4 : decode cX7_fault 4 = .ok (.ireturn, 1) := by decide +kernel
theorem dX7_day_0 : decode cX7_day 0 = .ok (.iload_n 1, 1) := by decide +kernel
theorem dX7_day_1 : decode cX7_day 1 = .ok (.iconst (-1), 1) := by decide +kernel
theorem dX7_day_2 : decode cX7_day 2 = .ok (.if_icmp .eq 13, 3) := by decide +kernel
theorem dX7_day_5 : decode cX7_day 5 = .ok (.iload_n 1, 1) := by decide +kernel
theorem dX7_day_6 : decode cX7_day 6 = .ok (.iconst 0, 1) := by decide +kernel
theorem dX7_day_7 : decode cX7_day 7 = .ok (.bipush 50, 2) := by decide +kernel
theorem dX7_day_9 : decode cX7_day 9 = .ok (.invokestatic 95, 3) := by decide +kernel
theorem dX7_day_12 : decode cX7_day 12 = .ok (.ifCond .eq 7, 3) := by decide +kernel
theorem dX7_day_15 : decode cX7_day 15 = .ok (.iconst 1, 1) := by decide +kernel
theorem dX7_day_16 : decode cX7_day 16 = .ok (.goto 4, 3) := by decide +kernel
theorem dX7_day_19 : decode cX7_day 19 = .ok (.iconst 0, 1) := by decide +kernel
theorem dX7_day_20 : decode cX7_day 20 = .ok (.istore_n 2, 1) := by decide +kernel
theorem dX7_day_21 : decode cX7_day 21 = .ok (.iload_n 2, 1) := by decide +kernel
theorem dX7_day_22 : decode cX7_day 22 = .ok (.ifCond .eq 13, 3) := by decide +kernel
theorem dX7_day_25 : decode cX7_day 25 = .ok (.aload_n 0, 1) := by decide +kernel
theorem dX7_day_26 : decode cX7_day 26 = .ok (.getfield 43, 3) := by decide +kernel
theorem dX7_day_29 : decode cX7_day 29 = .ok (.sipush 1000, 3) := by decide +kernel
theorem dX7_day_32 : decode cX7_day 32 = .ok (.if_icmp .lt 5, 3) := by decide +kernel
theorem dX7_day_35 : decode cX7_day 35 = .ok (.iconst (-1), 1) := by decide +kernel
theorem dX7_day_36 : decode cX7_day 36 = .ok (.ireturn, 1) := by decide +kernel
theorem dX7_day_37 : decode cX7_day 37 = .ok (.iload_n 1, 1) := by decide +kernel
theorem dX7_day_38 : decode cX7_day 38 = .ok (.iconst (-1), 1) := by decide +kernel
theorem dX7_day_39 : decode cX7_day 39 = .ok (.if_icmp .eq 8, 3) := by decide +kernel
theorem dX7_day_42 : decode cX7_day 42 = .ok (.aload_n 0, 1) := by decide +kernel
theorem dX7_day_43 : decode cX7_day 43 = .ok (.iload_n 1, 1) := by decide +kernel
theorem dX7_day_44 : decode cX7_day 44 = .ok (.putfield 46, 3) := by decide +kernel
theorem dX7_day_47 : decode cX7_day 47 = .ok (.aload_n 0, 1) := by decide +kernel
theorem dX7_day_48 : decode cX7_day 48 = .ok (.getfield 43, 3) := by decide +kernel
theorem dX7_day_51 : decode cX7_day 51 = .ok (.iconst 1, 1) := by decide +kernel
theorem dX7_day_52 : decode cX7_day 52 = .ok (.iadd, 1) := by decide +kernel
theorem dX7_day_53 : decode cX7_day 53 = .ok (.bipush 100, 2) := by decide +kernel
theorem dX7_day_55 : decode cX7_day 55 = .ok (.irem, 1) := by decide +kernel
theorem dX7_day_56 : decode cX7_day 56 = .ok (.ifCond .ne 7, 3) := by decide +kernel
theorem dX7_day_59 : decode cX7_day 59 = .ok (.aload_n 0, 1) := by decide +kernel
theorem dX7_day_60 : decode cX7_day 60 = .ok (.invokevirtual 159, 3) := by decide +kernel
theorem dX7_day_63 : decode cX7_day 63 = .ok (.aload_n 0, 1) := by decide +kernel
theorem dX7_day_64 : decode cX7_day 64 = .ok (.getfield 87, 3) := by decide +kernel
theorem dX7_day_67 : decode cX7_day 67 = .ok (.invokevirtual 162, 3) := by decide +kernel
theorem dX7_day_70 : decode cX7_day 70 = .ok (.aload_n 0, 1) := by decide +kernel
theorem dX7_day_71 : decode cX7_day 71 = .ok (.getfield 87, 3) := by decide +kernel
theorem dX7_day_74 : decode cX7_day 74 = .ok (.aload_n 0, 1) := by decide +kernel
theorem dX7_day_75 : decode cX7_day 75 = .ok (.getfield 46, 3) := by decide +kernel
theorem dX7_day_78 : decode cX7_day 78 = .ok (.invokevirtual 165, 3) := by decide +kernel
theorem dX7_day_81 : decode cX7_day 81 = .ok (.aload_n 0, 1) := by decide +kernel
theorem dX7_day_82 : decode cX7_day 82 = .ok (.invokevirtual 168, 3) := by decide +kernel
theorem dX7_day_85 : decode cX7_day 85 = .ok (.aload_n 0, 1) := by decide +kernel
theorem dX7_day_86 : decode cX7_day 86 = .ok (.invokevirtual 171, 3) := by decide +kernel
theorem dX7_day_89 : decode cX7_day 89 = .ok (.aload_n 0, 1) := by decide +kernel
theorem dX7_day_90 : decode cX7_day 90 = .ok (.getfield 35, 3) := by decide +kernel
theorem dX7_day_93 : decode cX7_day 93 = .ok (.aload_n 0, 1) := by decide +kernel
theorem dX7_day_94 : decode cX7_day 94 = .ok (.getfield 87, 3) := by decide +kernel
theorem dX7_day_97 : decode cX7_day 97 = .ok (.getfield 174, 3) := by decide +kernel
theorem dX7_day_100 : decode cX7_day 100 = .ok (.invokevirtual 177, 3) := by decide +kernel
theorem dX7_day_103 : decode cX7_day 103 = .ok (.aload_n 0, 1) := by decide +kernel
theorem dX7_day_104 : decode cX7_day 104 = .ok (.dup, 1) := by decide +kernel
theorem dX7_day_105 : decode cX7_day 105 = .ok (.getfield 43, 3) := by decide +kernel
theorem dX7_day_108 : decode cX7_day 108 = .ok (.iconst 1, 1) := by decide +kernel
theorem dX7_day_109 : decode cX7_day 109 = .ok (.iadd, 1) := by decide +kernel
theorem dX7_day_110 : decode cX7_day 110 = .ok (.putfield 43, 3) := by decide +kernel
theorem dX7_day_113 : decode cX7_day 113 = .ok (.aload_n 0, 1) := by decide +kernel
theorem dX7_day_114 : decode cX7_day 114 = .ok (.getfield 43, 3) := by decide +kernel
theorem dX7_day_117 : decode cX7_day 117 = .ok (.ireturn, 1) := by decide +kernel
theorem dX7_told_0 : decode cX7_told 0 = .ok (.aload_n 0, 1) := by decide +kernel
theorem dX7_told_1 : decode cX7_told 1 = .ok (.iload_n 1, 1) := by decide +kernel
theorem dX7_told_2 : decode cX7_told 2 = .ok (.invokevirtual 91, 3) := by decide +kernel
theorem dX7_told_5 : decode cX7_told 5 = .ok (.astore_n 3, 1) := by decide +kernel
theorem dX7_told_6 : decode cX7_told 6 = .ok (.aload_n 3, 1) := by decide +kernel
theorem dX7_told_7 : decode cX7_told 7 = .ok (.ifnonnull 5, 3) := by decide +kernel
theorem dX7_told_10 : decode cX7_told 10 = .ok (.iconst (-1), 1) := by decide +kernel
theorem dX7_told_11 : decode cX7_told 11 = .ok (.ireturn, 1) := by decide +kernel
theorem dX7_told_12 : decode cX7_told 12 = .ok (.iload_n 2, 1) := by decide +kernel
theorem dX7_told_13 : decode cX7_told 13 = .ok (.tableswitch 158 0 11 #[63, 68, 73, 78, 86, 94, 99, 110, 122, 130, 138, 143], 63) := by decide +kernel
theorem dX7_told_76 : decode cX7_told 76 = .ok (.aload_n 3, 1) := by decide +kernel
theorem dX7_told_77 : decode cX7_told 77 = .ok (.getfield 99, 3) := by decide +kernel
theorem dX7_told_80 : decode cX7_told 80 = .ok (.ireturn, 1) := by decide +kernel
theorem dX7_told_81 : decode cX7_told 81 = .ok (.aload_n 3, 1) := by decide +kernel
theorem dX7_told_82 : decode cX7_told 82 = .ok (.getfield 102, 3) := by decide +kernel
theorem dX7_told_85 : decode cX7_told 85 = .ok (.ireturn, 1) := by decide +kernel
theorem dX7_told_86 : decode cX7_told 86 = .ok (.aload_n 3, 1) := by decide +kernel
theorem dX7_told_87 : decode cX7_told 87 = .ok (.getfield 105, 3) := by decide +kernel
theorem dX7_told_90 : decode cX7_told 90 = .ok (.ireturn, 1) := by decide +kernel
theorem dX7_told_91 : decode cX7_told 91 = .ok (.aload_n 3, 1) := by decide +kernel
theorem dX7_told_92 : decode cX7_told 92 = .ok (.getfield 108, 3) := by decide +kernel
theorem dX7_told_95 : decode cX7_told 95 = .ok (.getfield 122, 3) := by decide +kernel
theorem dX7_told_98 : decode cX7_told 98 = .ok (.ireturn, 1) := by decide +kernel
theorem dX7_told_99 : decode cX7_told 99 = .ok (.aload_n 3, 1) := by decide +kernel
theorem dX7_told_100 : decode cX7_told 100 = .ok (.getfield 108, 3) := by decide +kernel
theorem dX7_told_103 : decode cX7_told 103 = .ok (.getfield 132, 3) := by decide +kernel
theorem dX7_told_106 : decode cX7_told 106 = .ok (.ireturn, 1) := by decide +kernel
theorem dX7_told_107 : decode cX7_told 107 = .ok (.aload_n 3, 1) := by decide +kernel
theorem dX7_told_108 : decode cX7_told 108 = .ok (.getfield 135, 3) := by decide +kernel
theorem dX7_told_111 : decode cX7_told 111 = .ok (.ireturn, 1) := by decide +kernel
theorem dX7_told_112 : decode cX7_told 112 = .ok (.aload_n 3, 1) := by decide +kernel
theorem dX7_told_113 : decode cX7_told 113 = .ok (.getfield 108, 3) := by decide +kernel
theorem dX7_told_116 : decode cX7_told 116 = .ok (.getfield 112, 3) := by decide +kernel
theorem dX7_told_119 : decode cX7_told 119 = .ok (.invokestatic 181, 3) := by decide +kernel
theorem dX7_told_122 : decode cX7_told 122 = .ok (.ireturn, 1) := by decide +kernel
theorem dX7_told_123 : decode cX7_told 123 = .ok (.aload_n 3, 1) := by decide +kernel
theorem dX7_told_124 : decode cX7_told 124 = .ok (.aload_n 3, 1) := by decide +kernel
theorem dX7_told_125 : decode cX7_told 125 = .ok (.getfield 108, 3) := by decide +kernel
theorem dX7_told_128 : decode cX7_told 128 = .ok (.getfield 112, 3) := by decide +kernel
theorem dX7_told_131 : decode cX7_told 131 = .ok (.invokevirtual 118, 3) := by decide +kernel
theorem dX7_told_134 : decode cX7_told 134 = .ok (.ireturn, 1) := by decide +kernel
theorem dX7_told_135 : decode cX7_told 135 = .ok (.aload_n 3, 1) := by decide +kernel
theorem dX7_told_136 : decode cX7_told 136 = .ok (.getfield 108, 3) := by decide +kernel
theorem dX7_told_139 : decode cX7_told 139 = .ok (.getfield 184, 3) := by decide +kernel
theorem dX7_told_142 : decode cX7_told 142 = .ok (.ireturn, 1) := by decide +kernel
theorem dX7_told_143 : decode cX7_told 143 = .ok (.aload_n 3, 1) := by decide +kernel
theorem dX7_told_144 : decode cX7_told 144 = .ok (.getfield 108, 3) := by decide +kernel
theorem dX7_told_147 : decode cX7_told 147 = .ok (.getfield 187, 3) := by decide +kernel
theorem dX7_told_150 : decode cX7_told 150 = .ok (.ireturn, 1) := by decide +kernel
theorem dX7_told_151 : decode cX7_told 151 = .ok (.aload_n 3, 1) := by decide +kernel
theorem dX7_told_152 : decode cX7_told 152 = .ok (.getfield 190, 3) := by decide +kernel
theorem dX7_told_155 : decode cX7_told 155 = .ok (.ireturn, 1) := by decide +kernel
theorem dX7_told_156 : decode cX7_told 156 = .ok (.aload_n 3, 1) := by decide +kernel
theorem dX7_told_157 : decode cX7_told 157 = .ok (.aload_n 3, 1) := by decide +kernel
theorem dX7_told_158 : decode cX7_told 158 = .ok (.getfield 108, 3) := by decide +kernel
theorem dX7_told_161 : decode cX7_told 161 = .ok (.getfield 122, 3) := by decide +kernel
theorem dX7_told_164 : decode cX7_told 164 = .ok (.invokevirtual 193, 3) := by decide +kernel
theorem dX7_told_167 : decode cX7_told 167 = .ok (.invokestatic 181, 3) := by decide +kernel
theorem dX7_told_170 : decode cX7_told 170 = .ok (.ireturn, 1) := by decide +kernel
theorem dX7_told_171 : decode cX7_told 171 = .ok (.iconst (-1), 1) := by decide +kernel
theorem dX7_told_172 : decode cX7_told 172 = .ok (.ireturn, 1) := by decide +kernel
theorem dX7_fieldOf_0 : decode cX7_fieldOf 0 = .ok (.aload_n 0, 1) := by decide +kernel
theorem dX7_fieldOf_1 : decode cX7_fieldOf 1 = .ok (.iload_n 1, 1) := by decide +kernel
theorem dX7_fieldOf_2 : decode cX7_fieldOf 2 = .ok (.invokevirtual 197, 3) := by decide +kernel
theorem dX7_fieldOf_5 : decode cX7_fieldOf 5 = .ok (.astore_n 3, 1) := by decide +kernel
theorem dX7_fieldOf_6 : decode cX7_fieldOf 6 = .ok (.aload_n 3, 1) := by decide +kernel
theorem dX7_fieldOf_7 : decode cX7_fieldOf 7 = .ok (.ifnonnull 5, 3) := by decide +kernel
theorem dX7_fieldOf_10 : decode cX7_fieldOf 10 = .ok (.iconst (-1), 1) := by decide +kernel
theorem dX7_fieldOf_11 : decode cX7_fieldOf 11 = .ok (.ireturn, 1) := by decide +kernel
theorem dX7_fieldOf_12 : decode cX7_fieldOf 12 = .ok (.iload_n 2, 1) := by decide +kernel
theorem dX7_fieldOf_13 : decode cX7_fieldOf 13 = .ok (.tableswitch 90 0 7 #[47, 52, 57, 62, 67, 75, 80, 85], 47) := by decide +kernel
theorem dX7_fieldOf_60 : decode cX7_fieldOf 60 = .ok (.aload_n 3, 1) := by decide +kernel
theorem dX7_fieldOf_61 : decode cX7_fieldOf 61 = .ok (.getfield 201, 3) := by decide +kernel
theorem dX7_fieldOf_64 : decode cX7_fieldOf 64 = .ok (.ireturn, 1) := by decide +kernel
theorem dX7_fieldOf_65 : decode cX7_fieldOf 65 = .ok (.aload_n 3, 1) := by decide +kernel
theorem dX7_fieldOf_66 : decode cX7_fieldOf 66 = .ok (.getfield 204, 3) := by decide +kernel
theorem dX7_fieldOf_69 : decode cX7_fieldOf 69 = .ok (.ireturn, 1) := by decide +kernel
theorem dX7_fieldOf_70 : decode cX7_fieldOf 70 = .ok (.aload_n 3, 1) := by decide +kernel
theorem dX7_fieldOf_71 : decode cX7_fieldOf 71 = .ok (.getfield 207, 3) := by decide +kernel
theorem dX7_fieldOf_74 : decode cX7_fieldOf 74 = .ok (.ireturn, 1) := by decide +kernel
theorem dX7_fieldOf_75 : decode cX7_fieldOf 75 = .ok (.aload_n 3, 1) := by decide +kernel
theorem dX7_fieldOf_76 : decode cX7_fieldOf 76 = .ok (.getfield 210, 3) := by decide +kernel
theorem dX7_fieldOf_79 : decode cX7_fieldOf 79 = .ok (.ireturn, 1) := by decide +kernel
theorem dX7_fieldOf_80 : decode cX7_fieldOf 80 = .ok (.aload_n 3, 1) := by decide +kernel
theorem dX7_fieldOf_81 : decode cX7_fieldOf 81 = .ok (.getfield 213, 3) := by decide +kernel
theorem dX7_fieldOf_84 : decode cX7_fieldOf 84 = .ok (.invokestatic 181, 3) := by decide +kernel
theorem dX7_fieldOf_87 : decode cX7_fieldOf 87 = .ok (.ireturn, 1) := by decide +kernel
theorem dX7_fieldOf_88 : decode cX7_fieldOf 88 = .ok (.aload_n 3, 1) := by decide +kernel
theorem dX7_fieldOf_89 : decode cX7_fieldOf 89 = .ok (.getfield 216, 3) := by decide +kernel
theorem dX7_fieldOf_92 : decode cX7_fieldOf 92 = .ok (.ireturn, 1) := by decide +kernel
theorem dX7_fieldOf_93 : decode cX7_fieldOf 93 = .ok (.aload_n 3, 1) := by decide +kernel
theorem dX7_fieldOf_94 : decode cX7_fieldOf 94 = .ok (.getfield 219, 3) := by decide +kernel
theorem dX7_fieldOf_97 : decode cX7_fieldOf 97 = .ok (.ireturn, 1) := by decide +kernel
theorem dX7_fieldOf_98 : decode cX7_fieldOf 98 = .ok (.aload_n 3, 1) := by decide +kernel
theorem dX7_fieldOf_99 : decode cX7_fieldOf 99 = .ok (.getfield 222, 3) := by decide +kernel
theorem dX7_fieldOf_102 : decode cX7_fieldOf 102 = .ok (.ireturn, 1) := by decide +kernel
theorem dX7_fieldOf_103 : decode cX7_fieldOf 103 = .ok (.iconst (-1), 1) := by decide +kernel
theorem dX7_fieldOf_104 : decode cX7_fieldOf 104 = .ok (.ireturn, 1) := by decide +kernel
theorem dX7_order_0 : decode cX7_order 0 = .ok (.aload_n 0, 1) := by decide +kernel
theorem dX7_order_1 : decode cX7_order 1 = .ok (.iload_n 1, 1) := by decide +kernel
theorem dX7_order_2 : decode cX7_order 2 = .ok (.invokevirtual 91, 3) := by decide +kernel
theorem dX7_order_5 : decode cX7_order 5 = .ok (.astore_n 3, 1) := by decide +kernel
theorem dX7_order_6 : decode cX7_order 6 = .ok (.aload_n 3, 1) := by decide +kernel
theorem dX7_order_7 : decode cX7_order 7 = .ok (.ifnull 7, 3) := by decide +kernel
theorem dX7_order_10 : decode cX7_order 10 = .ok (.iload_n 2, 1) := by decide +kernel
theorem dX7_order_11 : decode cX7_order 11 = .ok (.ifCond .ge 5, 3) := by decide +kernel
theorem dX7_order_14 : decode cX7_order 14 = .ok (.iconst (-1), 1) := by decide +kernel
theorem dX7_order_15 : decode cX7_order 15 = .ok (.ireturn, 1) := by decide +kernel
theorem dX7_order_16 : decode cX7_order 16 = .ok (.iconst 0, 1) := by decide +kernel
theorem dX7_order_17 : decode cX7_order 17 = .ok (.istore 4, 2) := by decide +kernel
theorem dX7_order_19 : decode cX7_order 19 = .ok (.aload_n 3, 1) := by decide +kernel
theorem dX7_order_20 : decode cX7_order 20 = .ok (.getfield 225, 3) := by decide +kernel
theorem dX7_order_23 : decode cX7_order 23 = .ok (.astore 5, 2) := by decide +kernel
theorem dX7_order_25 : decode cX7_order 25 = .ok (.aload 5, 2) := by decide +kernel
theorem dX7_order_27 : decode cX7_order 27 = .ok (.ifnull 28, 3) := by decide +kernel
theorem dX7_order_30 : decode cX7_order 30 = .ok (.iload 4, 2) := by decide +kernel
theorem dX7_order_32 : decode cX7_order 32 = .ok (.iload_n 2, 1) := by decide +kernel
theorem dX7_order_33 : decode cX7_order 33 = .ok (.if_icmp .ne 9, 3) := by decide +kernel
theorem dX7_order_36 : decode cX7_order 36 = .ok (.aload 5, 2) := by decide +kernel
theorem dX7_order_38 : decode cX7_order 38 = .ok (.getfield 229, 3) := by decide +kernel
theorem dX7_order_41 : decode cX7_order 41 = .ok (.ireturn, 1) := by decide +kernel
theorem dX7_order_42 : decode cX7_order 42 = .ok (.iinc 4 1, 3) := by decide +kernel
theorem dX7_order_45 : decode cX7_order 45 = .ok (.aload 5, 2) := by decide +kernel
theorem dX7_order_47 : decode cX7_order 47 = .ok (.getfield 232, 3) := by decide +kernel
theorem dX7_order_50 : decode cX7_order 50 = .ok (.astore 5, 2) := by decide +kernel
theorem dX7_order_52 : decode cX7_order 52 = .ok (.goto (-27), 3) := by decide +kernel
theorem dX7_order_55 : decode cX7_order 55 = .ok (.iconst (-1), 1) := by decide +kernel
theorem dX7_order_56 : decode cX7_order 56 = .ok (.ireturn, 1) := by decide +kernel
theorem dX7_owner_0 : decode cX7_owner 0 = .ok (.iload_n 1, 1) := by decide +kernel
theorem dX7_owner_1 : decode cX7_owner 1 = .ok (.iconst 0, 1) := by decide +kernel
theorem dX7_owner_2 : decode cX7_owner 2 = .ok (.bipush 9, 2) := by decide +kernel
theorem dX7_owner_4 : decode cX7_owner 4 = .ok (.invokestatic 95, 3) := by decide +kernel
theorem dX7_owner_7 : decode cX7_owner 7 = .ok (.ifCond .ne 5, 3) := by decide +kernel
theorem dX7_owner_10 : decode cX7_owner 10 = .ok (.iconst (-1), 1) := by decide +kernel
theorem dX7_owner_11 : decode cX7_owner 11 = .ok (.ireturn, 1) := by decide +kernel
theorem dX7_owner_12 : decode cX7_owner 12 = .ok (.iconst 0, 1) := by decide +kernel
theorem dX7_owner_13 : decode cX7_owner 13 = .ok (.istore_n 2, 1) := by decide +kernel
theorem dX7_owner_14 : decode cX7_owner 14 = .ok (.iconst 0, 1) := by decide +kernel
theorem dX7_owner_15 : decode cX7_owner 15 = .ok (.istore_n 3, 1) := by decide +kernel
theorem dX7_owner_16 : decode cX7_owner 16 = .ok (.iload_n 3, 1) := by decide +kernel
theorem dX7_owner_17 : decode cX7_owner 17 = .ok (.aload_n 0, 1) := by decide +kernel
theorem dX7_owner_18 : decode cX7_owner 18 = .ok (.getfield 39, 3) := by decide +kernel
theorem dX7_owner_21 : decode cX7_owner 21 = .ok (.if_icmp .ge 44, 3) := by decide +kernel
theorem dX7_owner_24 : decode cX7_owner 24 = .ok (.aload_n 0, 1) := by decide +kernel
theorem dX7_owner_25 : decode cX7_owner 25 = .ok (.iload_n 3, 1) := by decide +kernel
theorem dX7_owner_26 : decode cX7_owner 26 = .ok (.invokevirtual 197, 3) := by decide +kernel
theorem dX7_owner_29 : decode cX7_owner 29 = .ok (.astore 4, 2) := by decide +kernel
theorem dX7_owner_31 : decode cX7_owner 31 = .ok (.aload 4, 2) := by decide +kernel
theorem dX7_owner_33 : decode cX7_owner 33 = .ok (.ifnull 26, 3) := by decide +kernel
theorem dX7_owner_36 : decode cX7_owner 36 = .ok (.aload 4, 2) := by decide +kernel
theorem dX7_owner_38 : decode cX7_owner 38 = .ok (.getfield 210, 3) := by decide +kernel
theorem dX7_owner_41 : decode cX7_owner 41 = .ok (.iload_n 1, 1) := by decide +kernel
theorem dX7_owner_42 : decode cX7_owner 42 = .ok (.if_icmp .ne 17, 3) := by decide +kernel
theorem dX7_owner_45 : decode cX7_owner 45 = .ok (.iload_n 2, 1) := by decide +kernel
theorem dX7_owner_46 : decode cX7_owner 46 = .ok (.aload 4, 2) := by decide +kernel
theorem dX7_owner_48 : decode cX7_owner 48 = .ok (.getfield 207, 3) := by decide +kernel
theorem dX7_owner_51 : decode cX7_owner 51 = .ok (.aload 4, 2) := by decide +kernel
theorem dX7_owner_53 : decode cX7_owner 53 = .ok (.getfield 216, 3) := by decide +kernel
theorem dX7_owner_56 : decode cX7_owner 56 = .ok (.imul, 1) := by decide +kernel
theorem dX7_owner_57 : decode cX7_owner 57 = .ok (.iadd, 1) := by decide +kernel
theorem dX7_owner_58 : decode cX7_owner 58 = .ok (.istore_n 2, 1) := by decide +kernel
theorem dX7_owner_59 : decode cX7_owner 59 = .ok (.iinc 3 1, 3) := by decide +kernel
theorem dX7_owner_62 : decode cX7_owner 62 = .ok (.goto (-46), 3) := by decide +kernel
theorem dX7_owner_65 : decode cX7_owner 65 = .ok (.iload_n 2, 1) := by decide +kernel
theorem dX7_owner_66 : decode cX7_owner 66 = .ok (.ireturn, 1) := by decide +kernel
theorem dX7_tried_0 : decode cX7_tried 0 = .ok (.aload_n 0, 1) := by decide +kernel
theorem dX7_tried_1 : decode cX7_tried 1 = .ok (.iload_n 1, 1) := by decide +kernel
theorem dX7_tried_2 : decode cX7_tried 2 = .ok (.invokevirtual 91, 3) := by decide +kernel
theorem dX7_tried_5 : decode cX7_tried 5 = .ok (.astore 4, 2) := by decide +kernel
theorem dX7_tried_7 : decode cX7_tried 7 = .ok (.aload 4, 2) := by decide +kernel
theorem dX7_tried_9 : decode cX7_tried 9 = .ok (.ifnull 11, 3) := by decide +kernel
theorem dX7_tried_12 : decode cX7_tried 12 = .ok (.iload_n 2, 1) := by decide +kernel
theorem dX7_tried_13 : decode cX7_tried 13 = .ok (.iload_n 3, 1) := by decide +kernel
theorem dX7_tried_14 : decode cX7_tried 14 = .ok (.invokestatic 235, 3) := by decide +kernel
theorem dX7_tried_17 : decode cX7_tried 17 = .ok (.ifCond .ne 5, 3) := by decide +kernel
theorem dX7_tried_20 : decode cX7_tried 20 = .ok (.iconst (-1), 1) := by decide +kernel
theorem dX7_tried_21 : decode cX7_tried 21 = .ok (.ireturn, 1) := by decide +kernel
theorem dX7_tried_22 : decode cX7_tried 22 = .ok (.aload_n 0, 1) := by decide +kernel
theorem dX7_tried_23 : decode cX7_tried 23 = .ok (.aload 4, 2) := by decide +kernel
theorem dX7_tried_25 : decode cX7_tried 25 = .ok (.aconst_null, 1) := by decide +kernel
theorem dX7_tried_26 : decode cX7_tried 26 = .ok (.iload_n 2, 1) := by decide +kernel
theorem dX7_tried_27 : decode cX7_tried 27 = .ok (.iload_n 3, 1) := by decide +kernel
theorem dX7_tried_28 : decode cX7_tried 28 = .ok (.invokevirtual 239, 3) := by decide +kernel
theorem dX7_tried_31 : decode cX7_tried 31 = .ok (.ireturn, 1) := by decide +kernel
theorem dX7_lost_0 : decode cX7_lost 0 = .ok (.aload_n 0, 1) := by decide +kernel
theorem dX7_lost_1 : decode cX7_lost 1 = .ok (.iload_n 1, 1) := by decide +kernel
theorem dX7_lost_2 : decode cX7_lost 2 = .ok (.invokevirtual 91, 3) := by decide +kernel
theorem dX7_lost_5 : decode cX7_lost 5 = .ok (.astore 5, 2) := by decide +kernel
theorem dX7_lost_7 : decode cX7_lost 7 = .ok (.aload_n 0, 1) := by decide +kernel
theorem dX7_lost_8 : decode cX7_lost 8 = .ok (.iload_n 2, 1) := by decide +kernel
theorem dX7_lost_9 : decode cX7_lost 9 = .ok (.invokevirtual 91, 3) := by decide +kernel
theorem dX7_lost_12 : decode cX7_lost 12 = .ok (.astore 6, 2) := by decide +kernel
theorem dX7_lost_14 : decode cX7_lost 14 = .ok (.aload 5, 2) := by decide +kernel
theorem dX7_lost_16 : decode cX7_lost 16 = .ok (.ifnull 22, 3) := by decide +kernel
theorem dX7_lost_19 : decode cX7_lost 19 = .ok (.aload 6, 2) := by decide +kernel
theorem dX7_lost_21 : decode cX7_lost 21 = .ok (.ifnull 17, 3) := by decide +kernel
theorem dX7_lost_24 : decode cX7_lost 24 = .ok (.iload_n 2, 1) := by decide +kernel
theorem dX7_lost_25 : decode cX7_lost 25 = .ok (.iload_n 1, 1) := by decide +kernel
theorem dX7_lost_26 : decode cX7_lost 26 = .ok (.if_icmp .le 12, 3) := by decide +kernel
theorem dX7_lost_29 : decode cX7_lost 29 = .ok (.iload_n 3, 1) := by decide +kernel
theorem dX7_lost_30 : decode cX7_lost 30 = .ok (.iload 4, 2) := by decide +kernel
theorem dX7_lost_32 : decode cX7_lost 32 = .ok (.invokestatic 235, 3) := by decide +kernel
theorem dX7_lost_35 : decode cX7_lost 35 = .ok (.ifCond .ne 6, 3) := by decide +kernel
theorem dX7_lost_38 : decode cX7_lost 38 = .ok (.ldc 243, 2) := by decide +kernel
theorem dX7_lost_40 : decode cX7_lost 40 = .ok (.ireturn, 1) := by decide +kernel
theorem dX7_lost_41 : decode cX7_lost 41 = .ok (.aload_n 0, 1) := by decide +kernel
theorem dX7_lost_42 : decode cX7_lost 42 = .ok (.aload 6, 2) := by decide +kernel
theorem dX7_lost_44 : decode cX7_lost 44 = .ok (.aload 5, 2) := by decide +kernel
theorem dX7_lost_46 : decode cX7_lost 46 = .ok (.iload_n 3, 1) := by decide +kernel
theorem dX7_lost_47 : decode cX7_lost 47 = .ok (.iload 4, 2) := by decide +kernel
theorem dX7_lost_49 : decode cX7_lost 49 = .ok (.invokevirtual 239, 3) := by decide +kernel
theorem dX7_lost_52 : decode cX7_lost 52 = .ok (.aload_n 0, 1) := by decide +kernel
theorem dX7_lost_53 : decode cX7_lost 53 = .ok (.aload 6, 2) := by decide +kernel
theorem dX7_lost_55 : decode cX7_lost 55 = .ok (.aconst_null, 1) := by decide +kernel
theorem dX7_lost_56 : decode cX7_lost 56 = .ok (.iload_n 3, 1) := by decide +kernel
theorem dX7_lost_57 : decode cX7_lost 57 = .ok (.iload 4, 2) := by decide +kernel
theorem dX7_lost_59 : decode cX7_lost 59 = .ok (.invokevirtual 239, 3) := by decide +kernel
theorem dX7_lost_62 : decode cX7_lost 62 = .ok (.isub, 1) := by decide +kernel
theorem dX7_lost_63 : decode cX7_lost 63 = .ok (.ireturn, 1) := by decide +kernel
theorem dX7_most_0 : decode cX7_most 0 = .ok (.aload_n 0, 1) := by decide +kernel
theorem dX7_most_1 : decode cX7_most 1 = .ok (.iload_n 1, 1) := by decide +kernel
theorem dX7_most_2 : decode cX7_most 2 = .ok (.invokevirtual 91, 3) := by decide +kernel
theorem dX7_most_5 : decode cX7_most 5 = .ok (.ifnull 47, 3) := by decide +kernel
theorem dX7_most_8 : decode cX7_most 8 = .ok (.iload_n 2, 1) := by decide +kernel
theorem dX7_most_9 : decode cX7_most 9 = .ok (.iconst 1, 1) := by decide +kernel
theorem dX7_most_10 : decode cX7_most 10 = .ok (.iconst 3, 1) := by decide +kernel
theorem dX7_most_11 : decode cX7_most 11 = .ok (.invokestatic 95, 3) := by decide +kernel
theorem dX7_most_14 : decode cX7_most 14 = .ok (.ifCond .eq 38, 3) := by decide +kernel
theorem dX7_most_17 : decode cX7_most 17 = .ok (.aload_n 0, 1) := by decide +kernel
theorem dX7_most_18 : decode cX7_most 18 = .ok (.iload_n 1, 1) := by decide +kernel
theorem dX7_most_19 : decode cX7_most 19 = .ok (.iload_n 2, 1) := by decide +kernel
theorem dX7_most_20 : decode cX7_most 20 = .ok (.iadd, 1) := by decide +kernel
theorem dX7_most_21 : decode cX7_most 21 = .ok (.iconst 1, 1) := by decide +kernel
theorem dX7_most_22 : decode cX7_most 22 = .ok (.isub, 1) := by decide +kernel
theorem dX7_most_23 : decode cX7_most 23 = .ok (.invokevirtual 91, 3) := by decide +kernel
theorem dX7_most_26 : decode cX7_most 26 = .ok (.ifnull 26, 3) := by decide +kernel
theorem dX7_most_29 : decode cX7_most 29 = .ok (.iload_n 3, 1) := by decide +kernel
theorem dX7_most_30 : decode cX7_most 30 = .ok (.iload 4, 2) := by decide +kernel
theorem dX7_most_32 : decode cX7_most 32 = .ok (.invokestatic 235, 3) := by decide +kernel
theorem dX7_most_35 : decode cX7_most 35 = .ok (.ifCond .eq 17, 3) := by decide +kernel
theorem dX7_most_38 : decode cX7_most 38 = .ok (.iload 5, 2) := by decide +kernel
theorem dX7_most_40 : decode cX7_most 40 = .ok (.iconst 0, 1) := by decide +kernel
theorem dX7_most_41 : decode cX7_most 41 = .ok (.iload_n 2, 1) := by decide +kernel
theorem dX7_most_42 : decode cX7_most 42 = .ok (.invokestatic 95, 3) := by decide +kernel
theorem dX7_most_45 : decode cX7_most 45 = .ok (.ifCond .eq 7, 3) := by decide +kernel
theorem dX7_most_48 : decode cX7_most 48 = .ok (.iconst 1, 1) := by decide +kernel
theorem dX7_most_49 : decode cX7_most 49 = .ok (.goto 4, 3) := by decide +kernel
theorem dX7_most_52 : decode cX7_most 52 = .ok (.iconst 0, 1) := by decide +kernel
theorem dX7_most_53 : decode cX7_most 53 = .ok (.istore 6, 2) := by decide +kernel
theorem dX7_most_55 : decode cX7_most 55 = .ok (.iload 6, 2) := by decide +kernel
theorem dX7_most_57 : decode cX7_most 57 = .ok (.ifCond .ne 5, 3) := by decide +kernel
theorem dX7_most_60 : decode cX7_most 60 = .ok (.iconst (-1), 1) := by decide +kernel
theorem dX7_most_61 : decode cX7_most 61 = .ok (.ireturn, 1) := by decide +kernel
theorem dX7_most_62 : decode cX7_most 62 = .ok (.iconst 1, 1) := by decide +kernel
theorem dX7_most_63 : decode cX7_most 63 = .ok (.istore 7, 2) := by decide +kernel
theorem dX7_most_65 : decode cX7_most 65 = .ok (.iconst 0, 1) := by decide +kernel
theorem dX7_most_66 : decode cX7_most 66 = .ok (.istore 8, 2) := by decide +kernel
theorem dX7_most_68 : decode cX7_most 68 = .ok (.iload 8, 2) := by decide +kernel
theorem dX7_most_70 : decode cX7_most 70 = .ok (.iload_n 2, 1) := by decide +kernel
theorem dX7_most_71 : decode cX7_most 71 = .ok (.if_icmp .ge 15, 3) := by decide +kernel
theorem dX7_most_74 : decode cX7_most 74 = .ok (.iload 7, 2) := by decide +kernel
theorem dX7_most_76 : decode cX7_most 76 = .ok (.iconst 5, 1) := by decide +kernel
theorem dX7_most_77 : decode cX7_most 77 = .ok (.imul, 1) := by decide +kernel
theorem dX7_most_78 : decode cX7_most 78 = .ok (.istore 7, 2) := by decide +kernel
theorem dX7_most_80 : decode cX7_most 80 = .ok (.iinc 8 1, 3) := by decide +kernel
theorem dX7_most_83 : decode cX7_most 83 = .ok (.goto (-15), 3) := by decide +kernel
theorem dX7_most_86 : decode cX7_most 86 = .ok (.iconst (-1), 1) := by decide +kernel
theorem dX7_most_87 : decode cX7_most 87 = .ok (.istore 8, 2) := by decide +kernel
theorem dX7_most_89 : decode cX7_most 89 = .ok (.iconst 0, 1) := by decide +kernel
theorem dX7_most_90 : decode cX7_most 90 = .ok (.istore 9, 2) := by decide +kernel
theorem dX7_most_92 : decode cX7_most 92 = .ok (.iconst 0, 1) := by decide +kernel
theorem dX7_most_93 : decode cX7_most 93 = .ok (.istore 10, 2) := by decide +kernel
theorem dX7_most_95 : decode cX7_most 95 = .ok (.iload 10, 2) := by decide +kernel
theorem dX7_most_97 : decode cX7_most 97 = .ok (.iload 7, 2) := by decide +kernel
theorem dX7_most_99 : decode cX7_most 99 = .ok (.if_icmp .ge 37, 3) := by decide +kernel
theorem dX7_most_102 : decode cX7_most 102 = .ok (.aload_n 0, 1) := by decide +kernel
theorem dX7_most_103 : decode cX7_most 103 = .ok (.iload 10, 2) := by decide +kernel
theorem dX7_most_105 : decode cX7_most 105 = .ok (.iload_n 1, 1) := by decide +kernel
theorem dX7_most_106 : decode cX7_most 106 = .ok (.iload_n 2, 1) := by decide +kernel
theorem dX7_most_107 : decode cX7_most 107 = .ok (.iload_n 3, 1) := by decide +kernel
theorem dX7_most_108 : decode cX7_most 108 = .ok (.iload 4, 2) := by decide +kernel
theorem dX7_most_110 : decode cX7_most 110 = .ok (.invokevirtual 244, 3) := by decide +kernel
theorem dX7_most_113 : decode cX7_most 113 = .ok (.istore 11, 2) := by decide +kernel
theorem dX7_most_115 : decode cX7_most 115 = .ok (.iload 11, 2) := by decide +kernel
theorem dX7_most_117 : decode cX7_most 117 = .ok (.iload 8, 2) := by decide +kernel
theorem dX7_most_119 : decode cX7_most 119 = .ok (.if_icmp .le 11, 3) := by decide +kernel
theorem dX7_most_122 : decode cX7_most 122 = .ok (.iload 11, 2) := by decide +kernel
theorem dX7_most_124 : decode cX7_most 124 = .ok (.istore 8, 2) := by decide +kernel
theorem dX7_most_126 : decode cX7_most 126 = .ok (.iload 10, 2) := by decide +kernel
theorem dX7_most_128 : decode cX7_most 128 = .ok (.istore 9, 2) := by decide +kernel
theorem dX7_most_130 : decode cX7_most 130 = .ok (.iinc 10 1, 3) := by decide +kernel
theorem dX7_most_133 : decode cX7_most 133 = .ok (.goto (-38), 3) := by decide +kernel
theorem dX7_most_136 : decode cX7_most 136 = .ok (.iload 5, 2) := by decide +kernel
theorem dX7_most_138 : decode cX7_most 138 = .ok (.ifCond .ne 8, 3) := by decide +kernel
theorem dX7_most_141 : decode cX7_most 141 = .ok (.iload 8, 2) := by decide +kernel
theorem dX7_most_143 : decode cX7_most 143 = .ok (.goto 12, 3) := by decide +kernel
theorem dX7_most_146 : decode cX7_most 146 = .ok (.iload 9, 2) := by decide +kernel
theorem dX7_most_148 : decode cX7_most 148 = .ok (.iload_n 2, 1) := by decide +kernel
theorem dX7_most_149 : decode cX7_most 149 = .ok (.iload 5, 2) := by decide +kernel
theorem dX7_most_151 : decode cX7_most 151 = .ok (.isub, 1) := by decide +kernel
theorem dX7_most_152 : decode cX7_most 152 = .ok (.invokestatic 248, 3) := by decide +kernel
theorem dX7_most_155 : decode cX7_most 155 = .ok (.ireturn, 1) := by decide +kernel
theorem dX7_breach_0 : decode cX7_breach 0 = .ok (.iload_n 1, 1) := by decide +kernel
theorem dX7_breach_1 : decode cX7_breach 1 = .ok (.tableswitch 42 0 2 #[27, 32, 37], 27) := by decide +kernel
theorem dX7_breach_28 : decode cX7_breach 28 = .ok (.aload_n 0, 1) := by decide +kernel
theorem dX7_breach_29 : decode cX7_breach 29 = .ok (.getfield 58, 3) := by decide +kernel
theorem dX7_breach_32 : decode cX7_breach 32 = .ok (.ireturn, 1) := by decide +kernel
theorem dX7_breach_33 : decode cX7_breach 33 = .ok (.aload_n 0, 1) := by decide +kernel
theorem dX7_breach_34 : decode cX7_breach 34 = .ok (.getfield 61, 3) := by decide +kernel
theorem dX7_breach_37 : decode cX7_breach 37 = .ok (.ireturn, 1) := by decide +kernel
theorem dX7_breach_38 : decode cX7_breach 38 = .ok (.aload_n 0, 1) := by decide +kernel
theorem dX7_breach_39 : decode cX7_breach 39 = .ok (.getfield 55, 3) := by decide +kernel
theorem dX7_breach_42 : decode cX7_breach 42 = .ok (.ireturn, 1) := by decide +kernel
theorem dX7_breach_43 : decode cX7_breach 43 = .ok (.iconst (-1), 1) := by decide +kernel
theorem dX7_breach_44 : decode cX7_breach 44 = .ok (.ireturn, 1) := by decide +kernel
theorem dX7_count_0 : decode cX7_count 0 = .ok (.iload_n 1, 1) := by decide +kernel
theorem dX7_count_1 : decode cX7_count 1 = .ok (.tableswitch 121 0 9 #[55, 60, 66, 71, 76, 84, 92, 100, 108, 116], 55) := by decide +kernel
theorem dX7_count_56 : decode cX7_count 56 = .ok (.aload_n 0, 1) := by decide +kernel
theorem dX7_count_57 : decode cX7_count 57 = .ok (.getfield 43, 3) := by decide +kernel
theorem dX7_count_60 : decode cX7_count 60 = .ok (.ireturn, 1) := by decide +kernel
theorem dX7_count_61 : decode cX7_count 61 = .ok (.aload_n 0, 1) := by decide +kernel
theorem dX7_count_62 : decode cX7_count 62 = .ok (.getfield 75, 3) := by decide +kernel
theorem dX7_count_65 : decode cX7_count 65 = .ok (.arraylength, 1) := by decide +kernel
theorem dX7_count_66 : decode cX7_count 66 = .ok (.ireturn, 1) := by decide +kernel
theorem dX7_count_67 : decode cX7_count 67 = .ok (.aload_n 0, 1) := by decide +kernel
theorem dX7_count_68 : decode cX7_count 68 = .ok (.getfield 39, 3) := by decide +kernel
theorem dX7_count_71 : decode cX7_count 71 = .ok (.ireturn, 1) := by decide +kernel
theorem dX7_count_72 : decode cX7_count 72 = .ok (.aload_n 0, 1) := by decide +kernel
theorem dX7_count_73 : decode cX7_count 73 = .ok (.invokevirtual 251, 3) := by decide +kernel
theorem dX7_count_76 : decode cX7_count 76 = .ok (.ireturn, 1) := by decide +kernel
theorem dX7_count_77 : decode cX7_count 77 = .ok (.aload_n 0, 1) := by decide +kernel
theorem dX7_count_78 : decode cX7_count 78 = .ok (.getfield 35, 3) := by decide +kernel
theorem dX7_count_81 : decode cX7_count 81 = .ok (.getfield 255, 3) := by decide +kernel
theorem dX7_count_84 : decode cX7_count 84 = .ok (.ireturn, 1) := by decide +kernel
theorem dX7_count_85 : decode cX7_count 85 = .ok (.aload_n 0, 1) := by decide +kernel
theorem dX7_count_86 : decode cX7_count 86 = .ok (.getfield 35, 3) := by decide +kernel
theorem dX7_count_89 : decode cX7_count 89 = .ok (.getfield 258, 3) := by decide +kernel
theorem dX7_count_92 : decode cX7_count 92 = .ok (.ireturn, 1) := by decide +kernel
theorem dX7_count_93 : decode cX7_count 93 = .ok (.aload_n 0, 1) := by decide +kernel
theorem dX7_count_94 : decode cX7_count 94 = .ok (.getfield 35, 3) := by decide +kernel
theorem dX7_count_97 : decode cX7_count 97 = .ok (.getfield 261, 3) := by decide +kernel
theorem dX7_count_100 : decode cX7_count 100 = .ok (.ireturn, 1) := by decide +kernel
theorem dX7_count_101 : decode cX7_count 101 = .ok (.aload_n 0, 1) := by decide +kernel
theorem dX7_count_102 : decode cX7_count 102 = .ok (.getfield 35, 3) := by decide +kernel
theorem dX7_count_105 : decode cX7_count 105 = .ok (.getfield 264, 3) := by decide +kernel
theorem dX7_count_108 : decode cX7_count 108 = .ok (.ireturn, 1) := by decide +kernel
theorem dX7_count_109 : decode cX7_count 109 = .ok (.aload_n 0, 1) := by decide +kernel
theorem dX7_count_110 : decode cX7_count 110 = .ok (.getfield 18, 3) := by decide +kernel
theorem dX7_count_113 : decode cX7_count 113 = .ok (.getfield 138, 3) := by decide +kernel
theorem dX7_count_116 : decode cX7_count 116 = .ok (.ireturn, 1) := by decide +kernel
theorem dX7_count_117 : decode cX7_count 117 = .ok (.aload_n 0, 1) := by decide +kernel
theorem dX7_count_118 : decode cX7_count 118 = .ok (.getfield 49, 3) := by decide +kernel
theorem dX7_count_121 : decode cX7_count 121 = .ok (.ireturn, 1) := by decide +kernel
theorem dX7_count_122 : decode cX7_count 122 = .ok (.iconst (-1), 1) := by decide +kernel
theorem dX7_count_123 : decode cX7_count 123 = .ok (.ireturn, 1) := by decide +kernel
theorem dX7_isWithin_0 : decode cX7_isWithin 0 = .ok (.iload_n 0, 1) := by decide +kernel
theorem dX7_isWithin_1 : decode cX7_isWithin 1 = .ok (.iload_n 1, 1) := by decide +kernel
theorem dX7_isWithin_2 : decode cX7_isWithin 2 = .ok (.if_icmp .lt 12, 3) := by decide +kernel
theorem dX7_isWithin_5 : decode cX7_isWithin 5 = .ok (.iload_n 0, 1) := by decide +kernel
theorem dX7_isWithin_6 : decode cX7_isWithin 6 = .ok (.iload_n 2, 1) := by decide +kernel
theorem dX7_isWithin_7 : decode cX7_isWithin 7 = .ok (.if_icmp .gt 7, 3) := by decide +kernel
theorem dX7_isWithin_10 : decode cX7_isWithin 10 = .ok (.iconst 1, 1) := by decide +kernel
theorem dX7_isWithin_11 : decode cX7_isWithin 11 = .ok (.goto 4, 3) := by decide +kernel
theorem dX7_isWithin_14 : decode cX7_isWithin 14 = .ok (.iconst 0, 1) := by decide +kernel
theorem dX7_isWithin_15 : decode cX7_isWithin 15 = .ok (.ireturn, 1) := by decide +kernel
theorem dX7_asNumber_0 : decode cX7_asNumber 0 = .ok (.iload_n 0, 1) := by decide +kernel
theorem dX7_asNumber_1 : decode cX7_asNumber 1 = .ok (.ifCond .eq 7, 3) := by decide +kernel
theorem dX7_asNumber_4 : decode cX7_asNumber 4 = .ok (.iconst 1, 1) := by decide +kernel
theorem dX7_asNumber_5 : decode cX7_asNumber 5 = .ok (.goto 4, 3) := by decide +kernel
theorem dX7_asNumber_8 : decode cX7_asNumber 8 = .ok (.iconst 0, 1) := by decide +kernel
theorem dX7_asNumber_9 : decode cX7_asNumber 9 = .ok (.ireturn, 1) := by decide +kernel
theorem dX7_mayTry_0 : decode cX7_mayTry 0 = .ok (.iload_n 0, 1) := by decide +kernel
theorem dX7_mayTry_1 : decode cX7_mayTry 1 = .ok (.iconst 1, 1) := by decide +kernel
theorem dX7_mayTry_2 : decode cX7_mayTry 2 = .ok (.bipush 10, 2) := by decide +kernel
theorem dX7_mayTry_4 : decode cX7_mayTry 4 = .ok (.invokestatic 95, 3) := by decide +kernel
theorem dX7_mayTry_7 : decode cX7_mayTry 7 = .ok (.ifCond .eq 17, 3) := by decide +kernel
theorem dX7_mayTry_10 : decode cX7_mayTry 10 = .ok (.iload_n 1, 1) := by decide +kernel
theorem dX7_mayTry_11 : decode cX7_mayTry 11 = .ok (.iconst 0, 1) := by decide +kernel
theorem dX7_mayTry_12 : decode cX7_mayTry 12 = .ok (.bipush 50, 2) := by decide +kernel
theorem dX7_mayTry_14 : decode cX7_mayTry 14 = .ok (.invokestatic 95, 3) := by decide +kernel
theorem dX7_mayTry_17 : decode cX7_mayTry 17 = .ok (.ifCond .eq 7, 3) := by decide +kernel
theorem dX7_mayTry_20 : decode cX7_mayTry 20 = .ok (.iconst 1, 1) := by decide +kernel
theorem dX7_mayTry_21 : decode cX7_mayTry 21 = .ok (.goto 4, 3) := by decide +kernel
theorem dX7_mayTry_24 : decode cX7_mayTry 24 = .ok (.iconst 0, 1) := by decide +kernel
theorem dX7_mayTry_25 : decode cX7_mayTry 25 = .ok (.ireturn, 1) := by decide +kernel
theorem dX7_tankAt_0 : decode cX7_tankAt 0 = .ok (.iload_n 1, 1) := by decide +kernel
theorem dX7_tankAt_1 : decode cX7_tankAt 1 = .ok (.ifCond .lt 21, 3) := by decide +kernel
theorem dX7_tankAt_4 : decode cX7_tankAt 4 = .ok (.iload_n 1, 1) := by decide +kernel
theorem dX7_tankAt_5 : decode cX7_tankAt 5 = .ok (.aload_n 0, 1) := by decide +kernel
theorem dX7_tankAt_6 : decode cX7_tankAt 6 = .ok (.getfield 75, 3) := by decide +kernel
theorem dX7_tankAt_9 : decode cX7_tankAt 9 = .ok (.arraylength, 1) := by decide +kernel
theorem dX7_tankAt_10 : decode cX7_tankAt 10 = .ok (.if_icmp .ge 12, 3) := by decide +kernel
theorem dX7_tankAt_13 : decode cX7_tankAt 13 = .ok (.aload_n 0, 1) := by decide +kernel
theorem dX7_tankAt_14 : decode cX7_tankAt 14 = .ok (.getfield 75, 3) := by decide +kernel
theorem dX7_tankAt_17 : decode cX7_tankAt 17 = .ok (.iload_n 1, 1) := by decide +kernel
theorem dX7_tankAt_18 : decode cX7_tankAt 18 = .ok (.aaload, 1) := by decide +kernel
theorem dX7_tankAt_19 : decode cX7_tankAt 19 = .ok (.goto 4, 3) := by decide +kernel
theorem dX7_tankAt_22 : decode cX7_tankAt 22 = .ok (.aconst_null, 1) := by decide +kernel
theorem dX7_tankAt_23 : decode cX7_tankAt 23 = .ok (.areturn, 1) := by decide +kernel
theorem dX7_fieldAt_0 : decode cX7_fieldAt 0 = .ok (.iload_n 1, 1) := by decide +kernel
theorem dX7_fieldAt_1 : decode cX7_fieldAt 1 = .ok (.ifCond .lt 21, 3) := by decide +kernel
theorem dX7_fieldAt_4 : decode cX7_fieldAt 4 = .ok (.iload_n 1, 1) := by decide +kernel
theorem dX7_fieldAt_5 : decode cX7_fieldAt 5 = .ok (.aload_n 0, 1) := by decide +kernel
theorem dX7_fieldAt_6 : decode cX7_fieldAt 6 = .ok (.getfield 11, 3) := by decide +kernel
theorem dX7_fieldAt_9 : decode cX7_fieldAt 9 = .ok (.arraylength, 1) := by decide +kernel
theorem dX7_fieldAt_10 : decode cX7_fieldAt 10 = .ok (.if_icmp .ge 12, 3) := by decide +kernel
theorem dX7_fieldAt_13 : decode cX7_fieldAt 13 = .ok (.aload_n 0, 1) := by decide +kernel
theorem dX7_fieldAt_14 : decode cX7_fieldAt 14 = .ok (.getfield 11, 3) := by decide +kernel
theorem dX7_fieldAt_17 : decode cX7_fieldAt 17 = .ok (.iload_n 1, 1) := by decide +kernel
theorem dX7_fieldAt_18 : decode cX7_fieldAt 18 = .ok (.aaload, 1) := by decide +kernel
theorem dX7_fieldAt_19 : decode cX7_fieldAt 19 = .ok (.goto 4, 3) := by decide +kernel
theorem dX7_fieldAt_22 : decode cX7_fieldAt 22 = .ok (.aconst_null, 1) := by decide +kernel
theorem dX7_fieldAt_23 : decode cX7_fieldAt 23 = .ok (.areturn, 1) := by decide +kernel
theorem dX7_allWater_0 : decode cX7_allWater 0 = .ok (.iconst 0, 1) := by decide +kernel
theorem dX7_allWater_1 : decode cX7_allWater 1 = .ok (.istore_n 1, 1) := by decide +kernel
theorem dX7_allWater_2 : decode cX7_allWater 2 = .ok (.aload_n 0, 1) := by decide +kernel
theorem dX7_allWater_3 : decode cX7_allWater 3 = .ok (.getfield 87, 3) := by decide +kernel
theorem dX7_allWater_6 : decode cX7_allWater 6 = .ok (.getfield 267, 3) := by decide +kernel
theorem dX7_allWater_9 : decode cX7_allWater 9 = .ok (.astore_n 2, 1) := by decide +kernel
theorem dX7_allWater_10 : decode cX7_allWater 10 = .ok (.aload_n 2, 1) := by decide +kernel
theorem dX7_allWater_11 : decode cX7_allWater 11 = .ok (.ifnull 21, 3) := by decide +kernel
theorem dX7_allWater_14 : decode cX7_allWater 14 = .ok (.iload_n 1, 1) := by decide +kernel
theorem dX7_allWater_15 : decode cX7_allWater 15 = .ok (.aload_n 2, 1) := by decide +kernel
theorem dX7_allWater_16 : decode cX7_allWater 16 = .ok (.getfield 108, 3) := by decide +kernel
theorem dX7_allWater_19 : decode cX7_allWater 19 = .ok (.getfield 122, 3) := by decide +kernel
theorem dX7_allWater_22 : decode cX7_allWater 22 = .ok (.iadd, 1) := by decide +kernel
theorem dX7_allWater_23 : decode cX7_allWater 23 = .ok (.istore_n 1, 1) := by decide +kernel
theorem dX7_allWater_24 : decode cX7_allWater 24 = .ok (.aload_n 2, 1) := by decide +kernel
theorem dX7_allWater_25 : decode cX7_allWater 25 = .ok (.getfield 271, 3) := by decide +kernel
theorem dX7_allWater_28 : decode cX7_allWater 28 = .ok (.astore_n 2, 1) := by decide +kernel
theorem dX7_allWater_29 : decode cX7_allWater 29 = .ok (.goto (-19), 3) := by decide +kernel
theorem dX7_allWater_32 : decode cX7_allWater 32 = .ok (.iload_n 1, 1) := by decide +kernel
theorem dX7_allWater_33 : decode cX7_allWater 33 = .ok (.ireturn, 1) := by decide +kernel
theorem dX7_orderAnew_0 : decode cX7_orderAnew 0 = .ok (.aload_n 0, 1) := by decide +kernel
theorem dX7_orderAnew_1 : decode cX7_orderAnew 1 = .ok (.getfield 87, 3) := by decide +kernel
theorem dX7_orderAnew_4 : decode cX7_orderAnew 4 = .ok (.getfield 267, 3) := by decide +kernel
theorem dX7_orderAnew_7 : decode cX7_orderAnew 7 = .ok (.astore_n 1, 1) := by decide +kernel
theorem dX7_orderAnew_8 : decode cX7_orderAnew 8 = .ok (.aload_n 1, 1) := by decide +kernel
theorem dX7_orderAnew_9 : decode cX7_orderAnew 9 = .ok (.ifnull 16, 3) := by decide +kernel
theorem dX7_orderAnew_12 : decode cX7_orderAnew 12 = .ok (.aload_n 1, 1) := by decide +kernel
theorem dX7_orderAnew_13 : decode cX7_orderAnew 13 = .ok (.aconst_null, 1) := by decide +kernel
theorem dX7_orderAnew_14 : decode cX7_orderAnew 14 = .ok (.putfield 225, 3) := by decide +kernel
theorem dX7_orderAnew_17 : decode cX7_orderAnew 17 = .ok (.aload_n 1, 1) := by decide +kernel
theorem dX7_orderAnew_18 : decode cX7_orderAnew 18 = .ok (.getfield 271, 3) := by decide +kernel
theorem dX7_orderAnew_21 : decode cX7_orderAnew 21 = .ok (.astore_n 1, 1) := by decide +kernel
theorem dX7_orderAnew_22 : decode cX7_orderAnew 22 = .ok (.goto (-14), 3) := by decide +kernel
theorem dX7_orderAnew_25 : decode cX7_orderAnew 25 = .ok (.iconst 0, 1) := by decide +kernel
theorem dX7_orderAnew_26 : decode cX7_orderAnew 26 = .ok (.istore_n 1, 1) := by decide +kernel
theorem dX7_orderAnew_27 : decode cX7_orderAnew 27 = .ok (.iload_n 1, 1) := by decide +kernel
theorem dX7_orderAnew_28 : decode cX7_orderAnew 28 = .ok (.aload_n 0, 1) := by decide +kernel
theorem dX7_orderAnew_29 : decode cX7_orderAnew 29 = .ok (.getfield 39, 3) := by decide +kernel
theorem dX7_orderAnew_32 : decode cX7_orderAnew 32 = .ok (.if_icmp .ge 45, 3) := by decide +kernel
theorem dX7_orderAnew_35 : decode cX7_orderAnew 35 = .ok (.aload_n 0, 1) := by decide +kernel
theorem dX7_orderAnew_36 : decode cX7_orderAnew 36 = .ok (.iload_n 1, 1) := by decide +kernel
theorem dX7_orderAnew_37 : decode cX7_orderAnew 37 = .ok (.invokevirtual 197, 3) := by decide +kernel
theorem dX7_orderAnew_40 : decode cX7_orderAnew 40 = .ok (.astore_n 2, 1) := by decide +kernel
theorem dX7_orderAnew_41 : decode cX7_orderAnew 41 = .ok (.aload_n 2, 1) := by decide +kernel
theorem dX7_orderAnew_42 : decode cX7_orderAnew 42 = .ok (.ifnonnull 7, 3) := by decide +kernel
theorem dX7_orderAnew_45 : decode cX7_orderAnew 45 = .ok (.aconst_null, 1) := by decide +kernel
theorem dX7_orderAnew_46 : decode cX7_orderAnew 46 = .ok (.goto 11, 3) := by decide +kernel
theorem dX7_orderAnew_49 : decode cX7_orderAnew 49 = .ok (.aload_n 0, 1) := by decide +kernel
theorem dX7_orderAnew_50 : decode cX7_orderAnew 50 = .ok (.aload_n 2, 1) := by decide +kernel
theorem dX7_orderAnew_51 : decode cX7_orderAnew 51 = .ok (.getfield 201, 3) := by decide +kernel
theorem dX7_orderAnew_54 : decode cX7_orderAnew 54 = .ok (.invokevirtual 91, 3) := by decide +kernel
theorem dX7_orderAnew_57 : decode cX7_orderAnew 57 = .ok (.astore_n 3, 1) := by decide +kernel
theorem dX7_orderAnew_58 : decode cX7_orderAnew 58 = .ok (.aload_n 3, 1) := by decide +kernel
theorem dX7_orderAnew_59 : decode cX7_orderAnew 59 = .ok (.ifnull 12, 3) := by decide +kernel
theorem dX7_orderAnew_62 : decode cX7_orderAnew 62 = .ok (.aload_n 3, 1) := by decide +kernel
theorem dX7_orderAnew_63 : decode cX7_orderAnew 63 = .ok (.aload_n 2, 1) := by decide +kernel
theorem dX7_orderAnew_64 : decode cX7_orderAnew 64 = .ok (.aload_n 0, 1) := by decide +kernel
theorem dX7_orderAnew_65 : decode cX7_orderAnew 65 = .ok (.getfield 25, 3) := by decide +kernel
theorem dX7_orderAnew_68 : decode cX7_orderAnew 68 = .ok (.invokevirtual 128, 3) := by decide +kernel
theorem dX7_orderAnew_71 : decode cX7_orderAnew 71 = .ok (.iinc 1 1, 3) := by decide +kernel
theorem dX7_orderAnew_74 : decode cX7_orderAnew 74 = .ok (.goto (-47), 3) := by decide +kernel
theorem dX7_orderAnew_77 : decode cX7_orderAnew 77 = .ok (.return_, 1) := by decide +kernel
theorem dX7_addSilt_0 : decode cX7_addSilt 0 = .ok (.aload_n 0, 1) := by decide +kernel
theorem dX7_addSilt_1 : decode cX7_addSilt 1 = .ok (.getfield 87, 3) := by decide +kernel
theorem dX7_addSilt_4 : decode cX7_addSilt 4 = .ok (.getfield 267, 3) := by decide +kernel
theorem dX7_addSilt_7 : decode cX7_addSilt 7 = .ok (.astore_n 1, 1) := by decide +kernel
theorem dX7_addSilt_8 : decode cX7_addSilt 8 = .ok (.aload_n 1, 1) := by decide +kernel
theorem dX7_addSilt_9 : decode cX7_addSilt 9 = .ok (.ifnull 34, 3) := by decide +kernel
theorem dX7_addSilt_12 : decode cX7_addSilt 12 = .ok (.aload_n 1, 1) := by decide +kernel
theorem dX7_addSilt_13 : decode cX7_addSilt 13 = .ok (.aload_n 1, 1) := by decide +kernel
theorem dX7_addSilt_14 : decode cX7_addSilt 14 = .ok (.getfield 102, 3) := by decide +kernel
theorem dX7_addSilt_17 : decode cX7_addSilt 17 = .ok (.aload_n 1, 1) := by decide +kernel
theorem dX7_addSilt_18 : decode cX7_addSilt 18 = .ok (.getfield 135, 3) := by decide +kernel
theorem dX7_addSilt_21 : decode cX7_addSilt 21 = .ok (.aload_n 1, 1) := by decide +kernel
theorem dX7_addSilt_22 : decode cX7_addSilt 22 = .ok (.getfield 102, 3) := by decide +kernel
theorem dX7_addSilt_25 : decode cX7_addSilt 25 = .ok (.bipush 50, 2) := by decide +kernel
theorem dX7_addSilt_27 : decode cX7_addSilt 27 = .ok (.idiv, 1) := by decide +kernel
theorem dX7_addSilt_28 : decode cX7_addSilt 28 = .ok (.iadd, 1) := by decide +kernel
theorem dX7_addSilt_29 : decode cX7_addSilt 29 = .ok (.invokestatic 64, 3) := by decide +kernel
theorem dX7_addSilt_32 : decode cX7_addSilt 32 = .ok (.putfield 135, 3) := by decide +kernel
theorem dX7_addSilt_35 : decode cX7_addSilt 35 = .ok (.aload_n 1, 1) := by decide +kernel
theorem dX7_addSilt_36 : decode cX7_addSilt 36 = .ok (.getfield 271, 3) := by decide +kernel
theorem dX7_addSilt_39 : decode cX7_addSilt 39 = .ok (.astore_n 1, 1) := by decide +kernel
theorem dX7_addSilt_40 : decode cX7_addSilt 40 = .ok (.goto (-32), 3) := by decide +kernel
theorem dX7_addSilt_43 : decode cX7_addSilt 43 = .ok (.return_, 1) := by decide +kernel
theorem dX7_keepTanks_0 : decode cX7_keepTanks 0 = .ok (.iconst 0, 1) := by decide +kernel
theorem dX7_keepTanks_1 : decode cX7_keepTanks 1 = .ok (.istore_n 1, 1) := by decide +kernel
theorem dX7_keepTanks_2 : decode cX7_keepTanks 2 = .ok (.iconst (-1), 1) := by decide +kernel
theorem dX7_keepTanks_3 : decode cX7_keepTanks 3 = .ok (.istore_n 2, 1) := by decide +kernel
theorem dX7_keepTanks_4 : decode cX7_keepTanks 4 = .ok (.aload_n 0, 1) := by decide +kernel
theorem dX7_keepTanks_5 : decode cX7_keepTanks 5 = .ok (.getfield 87, 3) := by decide +kernel
theorem dX7_keepTanks_8 : decode cX7_keepTanks 8 = .ok (.getfield 267, 3) := by decide +kernel
theorem dX7_keepTanks_11 : decode cX7_keepTanks 11 = .ok (.astore_n 3, 1) := by decide +kernel
theorem dX7_keepTanks_12 : decode cX7_keepTanks 12 = .ok (.aload_n 3, 1) := by decide +kernel
theorem dX7_keepTanks_13 : decode cX7_keepTanks 13 = .ok (.ifnull 66, 3) := by decide +kernel
theorem dX7_keepTanks_16 : decode cX7_keepTanks 16 = .ok (.aload_n 3, 1) := by decide +kernel
theorem dX7_keepTanks_17 : decode cX7_keepTanks 17 = .ok (.getfield 274, 3) := by decide +kernel
theorem dX7_keepTanks_20 : decode cX7_keepTanks 20 = .ok (.getfield 112, 3) := by decide +kernel
theorem dX7_keepTanks_23 : decode cX7_keepTanks 23 = .ok (.ifCond .eq 37, 3) := by decide +kernel
theorem dX7_keepTanks_26 : decode cX7_keepTanks 26 = .ok (.aload_n 3, 1) := by decide +kernel
theorem dX7_keepTanks_27 : decode cX7_keepTanks 27 = .ok (.getfield 108, 3) := by decide +kernel
theorem dX7_keepTanks_30 : decode cX7_keepTanks 30 = .ok (.getfield 112, 3) := by decide +kernel
theorem dX7_keepTanks_33 : decode cX7_keepTanks 33 = .ok (.ifCond .ne 27, 3) := by decide +kernel
theorem dX7_keepTanks_36 : decode cX7_keepTanks 36 = .ok (.aload_n 3, 1) := by decide +kernel
theorem dX7_keepTanks_37 : decode cX7_keepTanks 37 = .ok (.aload_n 0, 1) := by decide +kernel
theorem dX7_keepTanks_38 : decode cX7_keepTanks 38 = .ok (.getfield 43, 3) := by decide +kernel
theorem dX7_keepTanks_41 : decode cX7_keepTanks 41 = .ok (.putfield 190, 3) := by decide +kernel
theorem dX7_keepTanks_44 : decode cX7_keepTanks 44 = .ok (.iload_n 1, 1) := by decide +kernel
theorem dX7_keepTanks_45 : decode cX7_keepTanks 45 = .ok (.ifCond .ne 10, 3) := by decide +kernel
theorem dX7_keepTanks_48 : decode cX7_keepTanks 48 = .ok (.aload_n 3, 1) := by decide +kernel
theorem dX7_keepTanks_49 : decode cX7_keepTanks 49 = .ok (.getfield 277, 3) := by decide +kernel
theorem dX7_keepTanks_52 : decode cX7_keepTanks 52 = .ok (.goto 4, 3) := by decide +kernel
theorem dX7_keepTanks_55 : decode cX7_keepTanks 55 = .ok (.iload_n 2, 1) := by decide +kernel
theorem dX7_keepTanks_56 : decode cX7_keepTanks 56 = .ok (.istore_n 2, 1) := by decide +kernel
theorem dX7_keepTanks_57 : decode cX7_keepTanks 57 = .ok (.iinc 1 1, 3) := by decide +kernel
theorem dX7_keepTanks_60 : decode cX7_keepTanks 60 = .ok (.aload_n 3, 1) := by decide +kernel
theorem dX7_keepTanks_61 : decode cX7_keepTanks 61 = .ok (.getfield 108, 3) := by decide +kernel
theorem dX7_keepTanks_64 : decode cX7_keepTanks 64 = .ok (.aload_n 3, 1) := by decide +kernel
theorem dX7_keepTanks_65 : decode cX7_keepTanks 65 = .ok (.getfield 274, 3) := by decide +kernel
theorem dX7_keepTanks_68 : decode cX7_keepTanks 68 = .ok (.invokevirtual 278, 3) := by decide +kernel
theorem dX7_keepTanks_71 : decode cX7_keepTanks 71 = .ok (.aload_n 3, 1) := by decide +kernel
theorem dX7_keepTanks_72 : decode cX7_keepTanks 72 = .ok (.getfield 271, 3) := by decide +kernel
theorem dX7_keepTanks_75 : decode cX7_keepTanks 75 = .ok (.astore_n 3, 1) := by decide +kernel
theorem dX7_keepTanks_76 : decode cX7_keepTanks 76 = .ok (.goto (-64), 3) := by decide +kernel
theorem dX7_keepTanks_79 : decode cX7_keepTanks 79 = .ok (.iload_n 1, 1) := by decide +kernel
theorem dX7_keepTanks_80 : decode cX7_keepTanks 80 = .ok (.ifCond .le 21, 3) := by decide +kernel
theorem dX7_keepTanks_83 : decode cX7_keepTanks 83 = .ok (.aload_n 0, 1) := by decide +kernel
theorem dX7_keepTanks_84 : decode cX7_keepTanks 84 = .ok (.aload_n 0, 1) := by decide +kernel
theorem dX7_keepTanks_85 : decode cX7_keepTanks 85 = .ok (.getfield 43, 3) := by decide +kernel
theorem dX7_keepTanks_88 : decode cX7_keepTanks 88 = .ok (.putfield 55, 3) := by decide +kernel
theorem dX7_keepTanks_91 : decode cX7_keepTanks 91 = .ok (.aload_n 0, 1) := by decide +kernel
theorem dX7_keepTanks_92 : decode cX7_keepTanks 92 = .ok (.iload_n 2, 1) := by decide +kernel
theorem dX7_keepTanks_93 : decode cX7_keepTanks 93 = .ok (.putfield 58, 3) := by decide +kernel
theorem dX7_keepTanks_96 : decode cX7_keepTanks 96 = .ok (.aload_n 0, 1) := by decide +kernel
theorem dX7_keepTanks_97 : decode cX7_keepTanks 97 = .ok (.iload_n 1, 1) := by decide +kernel
theorem dX7_keepTanks_98 : decode cX7_keepTanks 98 = .ok (.putfield 61, 3) := by decide +kernel
theorem dX7_keepTanks_101 : decode cX7_keepTanks 101 = .ok (.return_, 1) := by decide +kernel
theorem dX7_keepFields_0 : decode cX7_keepFields 0 = .ok (.iconst 0, 1) := by decide +kernel
theorem dX7_keepFields_1 : decode cX7_keepFields 1 = .ok (.istore_n 1, 1) := by decide +kernel
theorem dX7_keepFields_2 : decode cX7_keepFields 2 = .ok (.iload_n 1, 1) := by decide +kernel
theorem dX7_keepFields_3 : decode cX7_keepFields 3 = .ok (.aload_n 0, 1) := by decide +kernel
theorem dX7_keepFields_4 : decode cX7_keepFields 4 = .ok (.getfield 39, 3) := by decide +kernel
theorem dX7_keepFields_7 : decode cX7_keepFields 7 = .ok (.if_icmp .ge 23, 3) := by decide +kernel
theorem dX7_keepFields_10 : decode cX7_keepFields 10 = .ok (.aload_n 0, 1) := by decide +kernel
theorem dX7_keepFields_11 : decode cX7_keepFields 11 = .ok (.iload_n 1, 1) := by decide +kernel
theorem dX7_keepFields_12 : decode cX7_keepFields 12 = .ok (.invokevirtual 197, 3) := by decide +kernel
theorem dX7_keepFields_15 : decode cX7_keepFields 15 = .ok (.astore_n 2, 1) := by decide +kernel
theorem dX7_keepFields_16 : decode cX7_keepFields 16 = .ok (.aload_n 2, 1) := by decide +kernel
theorem dX7_keepFields_17 : decode cX7_keepFields 17 = .ok (.ifnull 7, 3) := by decide +kernel
theorem dX7_keepFields_20 : decode cX7_keepFields 20 = .ok (.aload_n 2, 1) := by decide +kernel
theorem dX7_keepFields_21 : decode cX7_keepFields 21 = .ok (.invokevirtual 281, 3) := by decide +kernel
theorem dX7_keepFields_24 : decode cX7_keepFields 24 = .ok (.iinc 1 1, 3) := by decide +kernel
theorem dX7_keepFields_27 : decode cX7_keepFields 27 = .ok (.goto (-25), 3) := by decide +kernel
theorem dX7_keepFields_30 : decode cX7_keepFields 30 = .ok (.return_, 1) := by decide +kernel
theorem dX7_waterTried_0 : decode cX7_waterTried 0 = .ok (.aload_n 0, 1) := by decide +kernel
theorem dX7_waterTried_1 : decode cX7_waterTried 1 = .ok (.getfield 87, 3) := by decide +kernel
theorem dX7_waterTried_4 : decode cX7_waterTried 4 = .ok (.invokevirtual 162, 3) := by decide +kernel
theorem dX7_waterTried_7 : decode cX7_waterTried 7 = .ok (.aload_n 2, 1) := by decide +kernel
theorem dX7_waterTried_8 : decode cX7_waterTried 8 = .ok (.ifnull 11, 3) := by decide +kernel
theorem dX7_waterTried_11 : decode cX7_waterTried 11 = .ok (.aload_n 2, 1) := by decide +kernel
theorem dX7_waterTried_12 : decode cX7_waterTried 12 = .ok (.getfield 274, 3) := by decide +kernel
theorem dX7_waterTried_15 : decode cX7_waterTried 15 = .ok (.iconst 0, 1) := by decide +kernel
theorem dX7_waterTried_16 : decode cX7_waterTried 16 = .ok (.putfield 132, 3) := by decide +kernel
theorem dX7_waterTried_19 : decode cX7_waterTried 19 = .ok (.iconst 0, 1) := by decide +kernel
theorem dX7_waterTried_20 : decode cX7_waterTried 20 = .ok (.istore 5, 2) := by decide +kernel
theorem dX7_waterTried_22 : decode cX7_waterTried 22 = .ok (.iload 5, 2) := by decide +kernel
theorem dX7_waterTried_24 : decode cX7_waterTried 24 = .ok (.iload_n 3, 1) := by decide +kernel
theorem dX7_waterTried_25 : decode cX7_waterTried 25 = .ok (.if_icmp .ge 18, 3) := by decide +kernel
theorem dX7_waterTried_28 : decode cX7_waterTried 28 = .ok (.aload_n 0, 1) := by decide +kernel
theorem dX7_waterTried_29 : decode cX7_waterTried 29 = .ok (.getfield 87, 3) := by decide +kernel
theorem dX7_waterTried_32 : decode cX7_waterTried 32 = .ok (.iload 4, 2) := by decide +kernel
theorem dX7_waterTried_34 : decode cX7_waterTried 34 = .ok (.invokevirtual 165, 3) := by decide +kernel
theorem dX7_waterTried_37 : decode cX7_waterTried 37 = .ok (.iinc 5 1, 3) := by decide +kernel
theorem dX7_waterTried_40 : decode cX7_waterTried 40 = .ok (.goto (-18), 3) := by decide +kernel
theorem dX7_waterTried_43 : decode cX7_waterTried 43 = .ok (.aload_n 1, 1) := by decide +kernel
theorem dX7_waterTried_44 : decode cX7_waterTried 44 = .ok (.getfield 274, 3) := by decide +kernel
theorem dX7_waterTried_47 : decode cX7_waterTried 47 = .ok (.getfield 122, 3) := by decide +kernel
theorem dX7_waterTried_50 : decode cX7_waterTried 50 = .ok (.ireturn, 1) := by decide +kernel
theorem dX7_areasFedBy_0 : decode cX7_areasFedBy 0 = .ok (.aload_n 0, 1) := by decide +kernel
theorem dX7_areasFedBy_1 : decode cX7_areasFedBy 1 = .ok (.getfield 87, 3) := by decide +kernel
theorem dX7_areasFedBy_4 : decode cX7_areasFedBy 4 = .ok (.invokevirtual 162, 3) := by decide +kernel
theorem dX7_areasFedBy_7 : decode cX7_areasFedBy 7 = .ok (.iconst 0, 1) := by decide +kernel
theorem dX7_areasFedBy_8 : decode cX7_areasFedBy 8 = .ok (.istore 6, 2) := by decide +kernel
theorem dX7_areasFedBy_10 : decode cX7_areasFedBy 10 = .ok (.iload 6, 2) := by decide +kernel
theorem dX7_areasFedBy_12 : decode cX7_areasFedBy 12 = .ok (.iload_n 3, 1) := by decide +kernel
theorem dX7_areasFedBy_13 : decode cX7_areasFedBy 13 = .ok (.if_icmp .ge 42, 3) := by decide +kernel
theorem dX7_areasFedBy_16 : decode cX7_areasFedBy 16 = .ok (.aload_n 0, 1) := by decide +kernel
theorem dX7_areasFedBy_17 : decode cX7_areasFedBy 17 = .ok (.iload_n 2, 1) := by decide +kernel
theorem dX7_areasFedBy_18 : decode cX7_areasFedBy 18 = .ok (.iload 6, 2) := by decide +kernel
theorem dX7_areasFedBy_20 : decode cX7_areasFedBy 20 = .ok (.iadd, 1) := by decide +kernel
theorem dX7_areasFedBy_21 : decode cX7_areasFedBy 21 = .ok (.invokevirtual 91, 3) := by decide +kernel
theorem dX7_areasFedBy_24 : decode cX7_areasFedBy 24 = .ok (.astore 7, 2) := by decide +kernel
theorem dX7_areasFedBy_26 : decode cX7_areasFedBy 26 = .ok (.aload 7, 2) := by decide +kernel
theorem dX7_areasFedBy_28 : decode cX7_areasFedBy 28 = .ok (.ifnull 21, 3) := by decide +kernel
theorem dX7_areasFedBy_31 : decode cX7_areasFedBy 31 = .ok (.aload 7, 2) := by decide +kernel
theorem dX7_areasFedBy_33 : decode cX7_areasFedBy 33 = .ok (.getfield 274, 3) := by decide +kernel
theorem dX7_areasFedBy_36 : decode cX7_areasFedBy 36 = .ok (.iload_n 1, 1) := by decide +kernel
theorem dX7_areasFedBy_37 : decode cX7_areasFedBy 37 = .ok (.iload_n 3, 1) := by decide +kernel
theorem dX7_areasFedBy_38 : decode cX7_areasFedBy 38 = .ok (.iconst 1, 1) := by decide +kernel
theorem dX7_areasFedBy_39 : decode cX7_areasFedBy 39 = .ok (.isub, 1) := by decide +kernel
theorem dX7_areasFedBy_40 : decode cX7_areasFedBy 40 = .ok (.iload 6, 2) := by decide +kernel
theorem dX7_areasFedBy_42 : decode cX7_areasFedBy 42 = .ok (.isub, 1) := by decide +kernel
theorem dX7_areasFedBy_43 : decode cX7_areasFedBy 43 = .ok (.invokestatic 248, 3) := by decide +kernel
theorem dX7_areasFedBy_46 : decode cX7_areasFedBy 46 = .ok (.putfield 132, 3) := by decide +kernel
theorem dX7_areasFedBy_49 : decode cX7_areasFedBy 49 = .ok (.iinc 6 1, 3) := by decide +kernel
theorem dX7_areasFedBy_52 : decode cX7_areasFedBy 52 = .ok (.goto (-42), 3) := by decide +kernel
theorem dX7_areasFedBy_55 : decode cX7_areasFedBy 55 = .ok (.iconst 0, 1) := by decide +kernel
theorem dX7_areasFedBy_56 : decode cX7_areasFedBy 56 = .ok (.istore 6, 2) := by decide +kernel
theorem dX7_areasFedBy_58 : decode cX7_areasFedBy 58 = .ok (.iconst 0, 1) := by decide +kernel
theorem dX7_areasFedBy_59 : decode cX7_areasFedBy 59 = .ok (.istore 7, 2) := by decide +kernel
theorem dX7_areasFedBy_61 : decode cX7_areasFedBy 61 = .ok (.iload 7, 2) := by decide +kernel
theorem dX7_areasFedBy_63 : decode cX7_areasFedBy 63 = .ok (.iload 4, 2) := by decide +kernel
theorem dX7_areasFedBy_65 : decode cX7_areasFedBy 65 = .ok (.if_icmp .ge 30, 3) := by decide +kernel
theorem dX7_areasFedBy_68 : decode cX7_areasFedBy 68 = .ok (.aload_n 0, 1) := by decide +kernel
theorem dX7_areasFedBy_69 : decode cX7_areasFedBy 69 = .ok (.getfield 87, 3) := by decide +kernel
theorem dX7_areasFedBy_72 : decode cX7_areasFedBy 72 = .ok (.iload 5, 2) := by decide +kernel
theorem dX7_areasFedBy_74 : decode cX7_areasFedBy 74 = .ok (.invokevirtual 165, 3) := by decide +kernel
theorem dX7_areasFedBy_77 : decode cX7_areasFedBy 77 = .ok (.iload 6, 2) := by decide +kernel
theorem dX7_areasFedBy_79 : decode cX7_areasFedBy 79 = .ok (.aload_n 0, 1) := by decide +kernel
theorem dX7_areasFedBy_80 : decode cX7_areasFedBy 80 = .ok (.getfield 87, 3) := by decide +kernel
theorem dX7_areasFedBy_83 : decode cX7_areasFedBy 83 = .ok (.getfield 284, 3) := by decide +kernel
theorem dX7_areasFedBy_86 : decode cX7_areasFedBy 86 = .ok (.iadd, 1) := by decide +kernel
theorem dX7_areasFedBy_87 : decode cX7_areasFedBy 87 = .ok (.istore 6, 2) := by decide +kernel
theorem dX7_areasFedBy_89 : decode cX7_areasFedBy 89 = .ok (.iinc 7 1, 3) := by decide +kernel
theorem dX7_areasFedBy_92 : decode cX7_areasFedBy 92 = .ok (.goto (-31), 3) := by decide +kernel
theorem dX7_areasFedBy_95 : decode cX7_areasFedBy 95 = .ok (.iload 6, 2) := by decide +kernel
theorem dX7_areasFedBy_97 : decode cX7_areasFedBy 97 = .ok (.ireturn, 1) := by decide +kernel
theorem dX7_openingIn_0 : decode cX7_openingIn 0 = .ok (.iload_n 0, 1) := by decide +kernel
theorem dX7_openingIn_1 : decode cX7_openingIn 1 = .ok (.istore_n 2, 1) := by decide +kernel
theorem dX7_openingIn_2 : decode cX7_openingIn 2 = .ok (.iconst 0, 1) := by decide +kernel
theorem dX7_openingIn_3 : decode cX7_openingIn 3 = .ok (.istore_n 3, 1) := by decide +kernel
theorem dX7_openingIn_4 : decode cX7_openingIn 4 = .ok (.iload_n 3, 1) := by decide +kernel
theorem dX7_openingIn_5 : decode cX7_openingIn 5 = .ok (.iload_n 1, 1) := by decide +kernel
theorem dX7_openingIn_6 : decode cX7_openingIn 6 = .ok (.if_icmp .ge 13, 3) := by decide +kernel
theorem dX7_openingIn_9 : decode cX7_openingIn 9 = .ok (.iload_n 2, 1) := by decide +kernel
theorem dX7_openingIn_10 : decode cX7_openingIn 10 = .ok (.iconst 5, 1) := by decide +kernel
theorem dX7_openingIn_11 : decode cX7_openingIn 11 = .ok (.idiv, 1) := by decide +kernel
theorem dX7_openingIn_12 : decode cX7_openingIn 12 = .ok (.istore_n 2, 1) := by decide +kernel
theorem dX7_openingIn_13 : decode cX7_openingIn 13 = .ok (.iinc 3 1, 3) := by decide +kernel
theorem dX7_openingIn_16 : decode cX7_openingIn 16 = .ok (.goto (-12), 3) := by decide +kernel
theorem dX7_openingIn_19 : decode cX7_openingIn 19 = .ok (.iload_n 2, 1) := by decide +kernel
theorem dX7_openingIn_20 : decode cX7_openingIn 20 = .ok (.iconst 5, 1) := by decide +kernel
theorem dX7_openingIn_21 : decode cX7_openingIn 21 = .ok (.irem, 1) := by decide +kernel
theorem dX7_openingIn_22 : decode cX7_openingIn 22 = .ok (.iconst 5, 1) := by decide +kernel
theorem dX7_openingIn_23 : decode cX7_openingIn 23 = .ok (.imul, 1) := by decide +kernel
theorem dX7_openingIn_24 : decode cX7_openingIn 24 = .ok (.ireturn, 1) := by decide +kernel
theorem dJ9_max_7cf53_0 : decode cJ9_max_7cf53 0 = .ok (.iload_n 0, 1) := by decide +kernel
theorem dJ9_max_7cf53_1 : decode cJ9_max_7cf53 1 = .ok (.iload_n 1, 1) := by decide +kernel
theorem dJ9_max_7cf53_2 : decode cJ9_max_7cf53 2 = .ok (.if_icmp .lt 7, 3) := by decide +kernel
theorem dJ9_max_7cf53_5 : decode cJ9_max_7cf53 5 = .ok (.iload_n 0, 1) := by decide +kernel
theorem dJ9_max_7cf53_6 : decode cJ9_max_7cf53 6 = .ok (.goto 4, 3) := by decide +kernel
theorem dJ9_max_7cf53_9 : decode cJ9_max_7cf53 9 = .ok (.iload_n 1, 1) := by decide +kernel
theorem dJ9_max_7cf53_10 : decode cJ9_max_7cf53 10 = .ok (.ireturn, 1) := by decide +kernel
theorem dJ9_min_7cf53_0 : decode cJ9_min_7cf53 0 = .ok (.iload_n 0, 1) := by decide +kernel
theorem dJ9_min_7cf53_1 : decode cJ9_min_7cf53 1 = .ok (.iload_n 1, 1) := by decide +kernel
theorem dJ9_min_7cf53_2 : decode cJ9_min_7cf53 2 = .ok (.if_icmp .gt 7, 3) := by decide +kernel
theorem dJ9_min_7cf53_5 : decode cJ9_min_7cf53 5 = .ok (.iload_n 0, 1) := by decide +kernel
theorem dJ9_min_7cf53_6 : decode cJ9_min_7cf53 6 = .ok (.goto 4, 3) := by decide +kernel
theorem dJ9_min_7cf53_9 : decode cJ9_min_7cf53 9 = .ok (.iload_n 1, 1) := by decide +kernel
theorem dJ9_min_7cf53_10 : decode cJ9_min_7cf53 10 = .ok (.ireturn, 1) := by decide +kernel
theorem dJ0_length_8abf5_0 : decode cJ0_length_8abf5 0 = .ok (.aload_n 0, 1) := by decide +kernel
theorem dJ0_length_8abf5_1 : decode cJ0_length_8abf5 1 = .ok (.getfield 9, 3) := by decide +kernel
theorem dJ0_length_8abf5_4 : decode cJ0_length_8abf5 4 = .ok (.arraylength, 1) := by decide +kernel
theorem dJ0_length_8abf5_5 : decode cJ0_length_8abf5 5 = .ok (.aload_n 0, 1) := by decide +kernel
theorem dJ0_length_8abf5_6 : decode cJ0_length_8abf5 6 = .ok (.invokevirtual 335, 3) := by decide +kernel
theorem dJ0_length_8abf5_9 : decode cJ0_length_8abf5 9 = .ok (.ishr, 1) := by decide +kernel
theorem dJ0_length_8abf5_10 : decode cJ0_length_8abf5 10 = .ok (.ireturn, 1) := by decide +kernel
theorem dJ0_charAt_5068e_0 : decode cJ0_charAt_5068e 0 = .ok (.aload_n 0, 1) := by decide +kernel
theorem dJ0_charAt_5068e_1 : decode cJ0_charAt_5068e 1 = .ok (.invokevirtual 492, 3) := by decide +kernel
theorem dJ0_charAt_5068e_4 : decode cJ0_charAt_5068e 4 = .ok (.ifCond .eq 12, 3) := by decide +kernel
theorem dJ0_charAt_5068e_7 : decode cJ0_charAt_5068e 7 = .ok (.aload_n 0, 1) := by decide +kernel
theorem dJ0_charAt_5068e_8 : decode cJ0_charAt_5068e 8 = .ok (.getfield 9, 3) := by decide +kernel
theorem dJ0_charAt_5068e_11 : decode cJ0_charAt_5068e 11 = .ok (.iload_n 1, 1) := by decide +kernel
theorem dJ0_charAt_5068e_12 : decode cJ0_charAt_5068e 12 = .ok (.invokestatic 495, 3) := by decide +kernel
theorem dJ0_charAt_5068e_15 : decode cJ0_charAt_5068e 15 = .ok (.ireturn, 1) := by decide +kernel
theorem dJ0_charAt_5068e_16 : decode cJ0_charAt_5068e 16 = .ok (.aload_n 0, 1) := by decide +kernel
theorem dJ0_charAt_5068e_17 : decode cJ0_charAt_5068e 17 = .ok (.getfield 9, 3) := by decide +kernel
theorem dJ0_charAt_5068e_20 : decode cJ0_charAt_5068e 20 = .ok (.iload_n 1, 1) := by decide +kernel
theorem dJ0_charAt_5068e_21 : decode cJ0_charAt_5068e 21 = .ok (.invokestatic 498, 3) := by decide +kernel
theorem dJ0_charAt_5068e_24 : decode cJ0_charAt_5068e 24 = .ok (.ireturn, 1) := by decide +kernel
theorem dJ0_coder_7d493_0 : decode cJ0_coder_7d493 0 = .ok (.getstatic 38, 3) := by decide +kernel
theorem dJ0_coder_7d493_3 : decode cJ0_coder_7d493 3 = .ok (.ifCond .eq 10, 3) := by decide +kernel
theorem dJ0_coder_7d493_6 : decode cJ0_coder_7d493 6 = .ok (.aload_n 0, 1) := by decide +kernel
theorem dJ0_coder_7d493_7 : decode cJ0_coder_7d493 7 = .ok (.getfield 15, 3) := by decide +kernel
theorem dJ0_coder_7d493_10 : decode cJ0_coder_7d493 10 = .ok (.goto 4, 3) := by decide +kernel
theorem dJ0_coder_7d493_13 : decode cJ0_coder_7d493 13 = .ok (.iconst 1, 1) := by decide +kernel
theorem dJ0_coder_7d493_14 : decode cJ0_coder_7d493 14 = .ok (.ireturn, 1) := by decide +kernel
theorem dJ0_isLatin1_aae02_0 : decode cJ0_isLatin1_aae02 0 = .ok (.getstatic 38, 3) := by decide +kernel
theorem dJ0_isLatin1_aae02_3 : decode cJ0_isLatin1_aae02 3 = .ok (.ifCond .eq 14, 3) := by decide +kernel
theorem dJ0_isLatin1_aae02_6 : decode cJ0_isLatin1_aae02 6 = .ok (.aload_n 0, 1) := by decide +kernel
theorem dJ0_isLatin1_aae02_7 : decode cJ0_isLatin1_aae02 7 = .ok (.getfield 15, 3) := by decide +kernel
theorem dJ0_isLatin1_aae02_10 : decode cJ0_isLatin1_aae02 10 = .ok (.ifCond .ne 7, 3) := by decide +kernel
theorem dJ0_isLatin1_aae02_13 : decode cJ0_isLatin1_aae02 13 = .ok (.iconst 1, 1) := by decide +kernel
theorem dJ0_isLatin1_aae02_14 : decode cJ0_isLatin1_aae02 14 = .ok (.goto 4, 3) := by decide +kernel
theorem dJ0_isLatin1_aae02_17 : decode cJ0_isLatin1_aae02 17 = .ok (.iconst 0, 1) := by decide +kernel
theorem dJ0_isLatin1_aae02_18 : decode cJ0_isLatin1_aae02 18 = .ok (.ireturn, 1) := by decide +kernel
theorem dJ0_checkIndex_df160_0 : decode cJ0_checkIndex_df160 0 = .ok (.iload_n 0, 1) := by decide +kernel
theorem dJ0_checkIndex_df160_1 : decode cJ0_checkIndex_df160 1 = .ok (.iload_n 1, 1) := by decide +kernel
theorem dJ0_checkIndex_df160_2 : decode cJ0_checkIndex_df160 2 = .ok (.getstatic 1053, 3) := by decide +kernel
theorem dJ0_checkIndex_df160_5 : decode cJ0_checkIndex_df160 5 = .ok (.invokestatic 1059, 3) := by decide +kernel
theorem dJ0_checkIndex_df160_8 : decode cJ0_checkIndex_df160 8 = .ok (.pop, 1) := by decide +kernel
theorem dJ0_checkIndex_df160_9 : decode cJ0_checkIndex_df160 9 = .ok (.return_, 1) := by decide +kernel
theorem dJ1_charAt_3b067_0 : decode cJ1_charAt_3b067 0 = .ok (.iload_n 1, 1) := by decide +kernel
theorem dJ1_charAt_3b067_1 : decode cJ1_charAt_3b067 1 = .ok (.aload_n 0, 1) := by decide +kernel
theorem dJ1_charAt_3b067_2 : decode cJ1_charAt_3b067 2 = .ok (.arraylength, 1) := by decide +kernel
theorem dJ1_charAt_3b067_3 : decode cJ1_charAt_3b067 3 = .ok (.invokestatic 9, 3) := by decide +kernel
theorem dJ1_charAt_3b067_6 : decode cJ1_charAt_3b067 6 = .ok (.aload_n 0, 1) := by decide +kernel
theorem dJ1_charAt_3b067_7 : decode cJ1_charAt_3b067 7 = .ok (.iload_n 1, 1) := by decide +kernel
theorem dJ1_charAt_3b067_8 : decode cJ1_charAt_3b067 8 = .ok (.baload, 1) := by decide +kernel
theorem dJ1_charAt_3b067_9 : decode cJ1_charAt_3b067 9 = .ok (.sipush 255, 3) := by decide +kernel
theorem dJ1_charAt_3b067_12 : decode cJ1_charAt_3b067 12 = .ok (.iand, 1) := by decide +kernel
theorem dJ1_charAt_3b067_13 : decode cJ1_charAt_3b067 13 = .ok (.i2c, 1) := by decide +kernel
theorem dJ1_charAt_3b067_14 : decode cJ1_charAt_3b067 14 = .ok (.ireturn, 1) := by decide +kernel
theorem dJ2_getChar_3b067_0 : decode cJ2_getChar_3b067 0 = .ok (.getstatic 44, 3) := by decide +kernel
theorem dJ2_getChar_3b067_3 : decode cJ2_getChar_3b067 3 = .ok (.ifCond .ne 25, 3) := by decide +kernel
theorem dJ2_getChar_3b067_6 : decode cJ2_getChar_3b067 6 = .ok (.iload_n 1, 1) := by decide +kernel
theorem dJ2_getChar_3b067_7 : decode cJ2_getChar_3b067 7 = .ok (.ifCond .lt 11, 3) := by decide +kernel
theorem dJ2_getChar_3b067_10 : decode cJ2_getChar_3b067 10 = .ok (.iload_n 1, 1) := by decide +kernel
theorem dJ2_getChar_3b067_11 : decode cJ2_getChar_3b067 11 = .ok (.aload_n 0, 1) := by decide +kernel
theorem dJ2_getChar_3b067_12 : decode cJ2_getChar_3b067 12 = .ok (.invokestatic 48, 3) := by decide +kernel
theorem dJ2_getChar_3b067_15 : decode cJ2_getChar_3b067 15 = .ok (.if_icmp .lt 13, 3) := by decide +kernel
theorem dJ2_getChar_3b067_18 : decode cJ2_getChar_3b067 18 = .ok (.new 52, 3) := by decide +kernel
theorem dJ2_getChar_3b067_21 : decode cJ2_getChar_3b067 21 = .ok (.dup, 1) := by decide +kernel
theorem dJ2_getChar_3b067_22 : decode cJ2_getChar_3b067 22 = .ok (.ldc 54, 2) := by decide +kernel
theorem dJ2_getChar_3b067_24 : decode cJ2_getChar_3b067 24 = .ok (.invokespecial 56, 3) := by decide +kernel
theorem dJ2_getChar_3b067_27 : decode cJ2_getChar_3b067 27 = .ok (.athrow, 1) := by decide +kernel
theorem dJ2_getChar_3b067_28 : decode cJ2_getChar_3b067 28 = .ok (.iload_n 1, 1) := by decide +kernel
theorem dJ2_getChar_3b067_29 : decode cJ2_getChar_3b067 29 = .ok (.iconst 1, 1) := by decide +kernel
theorem dJ2_getChar_3b067_30 : decode cJ2_getChar_3b067 30 = .ok (.ishl, 1) := by decide +kernel
theorem dJ2_getChar_3b067_31 : decode cJ2_getChar_3b067 31 = .ok (.istore_n 1, 1) := by decide +kernel
theorem dJ2_getChar_3b067_32 : decode cJ2_getChar_3b067 32 = .ok (.aload_n 0, 1) := by decide +kernel
theorem dJ2_getChar_3b067_33 : decode cJ2_getChar_3b067 33 = .ok (.iload_n 1, 1) := by decide +kernel
theorem dJ2_getChar_3b067_34 : decode cJ2_getChar_3b067 34 = .ok (.iinc 1 1, 3) := by decide +kernel
theorem dJ2_getChar_3b067_37 : decode cJ2_getChar_3b067 37 = .ok (.baload, 1) := by decide +kernel
theorem dJ2_getChar_3b067_38 : decode cJ2_getChar_3b067 38 = .ok (.sipush 255, 3) := by decide +kernel
theorem dJ2_getChar_3b067_41 : decode cJ2_getChar_3b067 41 = .ok (.iand, 1) := by decide +kernel
theorem dJ2_getChar_3b067_42 : decode cJ2_getChar_3b067 42 = .ok (.getstatic 59, 3) := by decide +kernel
theorem dJ2_getChar_3b067_45 : decode cJ2_getChar_3b067 45 = .ok (.ishl, 1) := by decide +kernel
theorem dJ2_getChar_3b067_46 : decode cJ2_getChar_3b067 46 = .ok (.aload_n 0, 1) := by decide +kernel
theorem dJ2_getChar_3b067_47 : decode cJ2_getChar_3b067 47 = .ok (.iload_n 1, 1) := by decide +kernel
theorem dJ2_getChar_3b067_48 : decode cJ2_getChar_3b067 48 = .ok (.baload, 1) := by decide +kernel
theorem dJ2_getChar_3b067_49 : decode cJ2_getChar_3b067 49 = .ok (.sipush 255, 3) := by decide +kernel
theorem dJ2_getChar_3b067_52 : decode cJ2_getChar_3b067 52 = .ok (.iand, 1) := by decide +kernel
theorem dJ2_getChar_3b067_53 : decode cJ2_getChar_3b067 53 = .ok (.getstatic 63, 3) := by decide +kernel
theorem dJ2_getChar_3b067_56 : decode cJ2_getChar_3b067 56 = .ok (.ishl, 1) := by decide +kernel
theorem dJ2_getChar_3b067_57 : decode cJ2_getChar_3b067 57 = .ok (.ior, 1) := by decide +kernel
theorem dJ2_getChar_3b067_58 : decode cJ2_getChar_3b067 58 = .ok (.i2c, 1) := by decide +kernel
theorem dJ2_getChar_3b067_59 : decode cJ2_getChar_3b067 59 = .ok (.ireturn, 1) := by decide +kernel
theorem dJ2_length_9d52b_0 : decode cJ2_length_9d52b 0 = .ok (.aload_n 0, 1) := by decide +kernel
theorem dJ2_length_9d52b_1 : decode cJ2_length_9d52b 1 = .ok (.arraylength, 1) := by decide +kernel
theorem dJ2_length_9d52b_2 : decode cJ2_length_9d52b 2 = .ok (.iconst 1, 1) := by decide +kernel
theorem dJ2_length_9d52b_3 : decode cJ2_length_9d52b 3 = .ok (.ishr, 1) := by decide +kernel
theorem dJ2_length_9d52b_4 : decode cJ2_length_9d52b 4 = .ok (.ireturn, 1) := by decide +kernel
theorem dJ2_charAt_3b067_0 : decode cJ2_charAt_3b067 0 = .ok (.iload_n 1, 1) := by decide +kernel
theorem dJ2_charAt_3b067_1 : decode cJ2_charAt_3b067 1 = .ok (.aload_n 0, 1) := by decide +kernel
theorem dJ2_charAt_3b067_2 : decode cJ2_charAt_3b067 2 = .ok (.invokestatic 67, 3) := by decide +kernel
theorem dJ2_charAt_3b067_5 : decode cJ2_charAt_3b067 5 = .ok (.aload_n 0, 1) := by decide +kernel
theorem dJ2_charAt_3b067_6 : decode cJ2_charAt_3b067 6 = .ok (.iload_n 1, 1) := by decide +kernel
theorem dJ2_charAt_3b067_7 : decode cJ2_charAt_3b067 7 = .ok (.invokestatic 71, 3) := by decide +kernel
theorem dJ2_charAt_3b067_10 : decode cJ2_charAt_3b067 10 = .ok (.ireturn, 1) := by decide +kernel
theorem dJ2_checkIndex_2214a_0 : decode cJ2_checkIndex_2214a 0 = .ok (.iload_n 0, 1) := by decide +kernel
theorem dJ2_checkIndex_2214a_1 : decode cJ2_checkIndex_2214a 1 = .ok (.aload_n 1, 1) := by decide +kernel
theorem dJ2_checkIndex_2214a_2 : decode cJ2_checkIndex_2214a 2 = .ok (.invokestatic 48, 3) := by decide +kernel
theorem dJ2_checkIndex_2214a_5 : decode cJ2_checkIndex_2214a 5 = .ok (.invokestatic 414, 3) := by decide +kernel
theorem dJ2_checkIndex_2214a_8 : decode cJ2_checkIndex_2214a 8 = .ok (.return_, 1) := by decide +kernel
theorem dJ3_checkIndex_8e157_0 : decode cJ3_checkIndex_8e157 0 = .ok (.iload_n 0, 1) := by decide +kernel
theorem dJ3_checkIndex_8e157_1 : decode cJ3_checkIndex_8e157 1 = .ok (.ifCond .lt 8, 3) := by decide +kernel
theorem dJ3_checkIndex_8e157_4 : decode cJ3_checkIndex_8e157 4 = .ok (.iload_n 0, 1) := by decide +kernel
theorem dJ3_checkIndex_8e157_5 : decode cJ3_checkIndex_8e157 5 = .ok (.iload_n 1, 1) := by decide +kernel
theorem dJ3_checkIndex_8e157_6 : decode cJ3_checkIndex_8e157 6 = .ok (.if_icmp .lt 10, 3) := by decide +kernel
theorem dJ3_checkIndex_8e157_9 : decode cJ3_checkIndex_8e157 9 = .ok (.aload_n 2, 1) := by decide +kernel
theorem dJ3_checkIndex_8e157_10 : decode cJ3_checkIndex_8e157 10 = .ok (.iload_n 0, 1) := by decide +kernel
theorem dJ3_checkIndex_8e157_11 : decode cJ3_checkIndex_8e157 11 = .ok (.iload_n 1, 1) := by decide +kernel
theorem dJ3_checkIndex_8e157_12 : decode cJ3_checkIndex_8e157 12 = .ok (.invokestatic 95, 3) := by decide +kernel
theorem dJ3_checkIndex_8e157_15 : decode cJ3_checkIndex_8e157 15 = .ok (.athrow, 1) := by decide +kernel
theorem dJ3_checkIndex_8e157_16 : decode cJ3_checkIndex_8e157 16 = .ok (.iload_n 0, 1) := by decide +kernel
theorem dJ3_checkIndex_8e157_17 : decode cJ3_checkIndex_8e157 17 = .ok (.ireturn, 1) := by decide +kernel
