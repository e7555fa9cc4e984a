theorem dX5_fill_57 : decode cX5_fill 57 = .ok (.iload_n 3, 1) := by decide +kernel
theorem dX5_fill_58 : decode cX5_fill 58 = .ok (.invokevirtual 37, 3) := by decide +kernel
theorem dX5_fill_61 : decode cX5_fill 61 = .ok (.iastore, 1) := by decide +kernel
theorem dX5_fill_62 : decode cX5_fill 62 = .ok (.aload_n 0, 1) := by decide +kernel
theorem dX5_fill_63 : decode cX5_fill 63 = .ok (.getfield 21, 3) := by decide +kernel
theorem dX5_fill_66 : decode cX5_fill 66 = .ok (.iload_n 2, 1) := by decide +kernel
theorem dX5_fill_67 : decode cX5_fill 67 = .ok (.bipush 12, 2) := by decide +kernel
theorem dX5_fill_69 : decode cX5_fill 69 = .ok (.imul, 1) := by decide +kernel
theorem dX5_fill_70 : decode cX5_fill 70 = .ok (.bipush 6, 2) := by decide +kernel
theorem dX5_fill_72 : decode cX5_fill 72 = .ok (.iadd, 1) := by decide +kernel
theorem dX5_fill_73 : decode cX5_fill 73 = .ok (.iload_n 3, 1) := by decide +kernel
theorem dX5_fill_74 : decode cX5_fill 74 = .ok (.iadd, 1) := by decide +kernel
theorem dX5_fill_75 : decode cX5_fill 75 = .ok (.aload_n 1, 1) := by decide +kernel
theorem dX5_fill_76 : decode cX5_fill 76 = .ok (.iload_n 2, 1) := by decide +kernel
theorem dX5_fill_77 : decode cX5_fill 77 = .ok (.iconst 1, 1) := by decide +kernel
theorem dX5_fill_78 : decode cX5_fill 78 = .ok (.iload_n 3, 1) := by decide +kernel
theorem dX5_fill_79 : decode cX5_fill 79 = .ok (.invokevirtual 37, 3) := by decide +kernel
theorem dX5_fill_82 : decode cX5_fill 82 = .ok (.iastore, 1) := by decide +kernel
theorem dX5_fill_83 : decode cX5_fill 83 = .ok (.iinc 3 1, 3) := by decide +kernel
theorem dX5_fill_86 : decode cX5_fill 86 = .ok (.goto (-50), 3) := by decide +kernel
theorem dX5_fill_89 : decode cX5_fill 89 = .ok (.iinc 2 1, 3) := by decide +kernel
theorem dX5_fill_92 : decode cX5_fill 92 = .ok (.goto (-66), 3) := by decide +kernel
theorem dX5_fill_95 : decode cX5_fill 95 = .ok (.return_, 1) := by decide +kernel
theorem dX5_rankOf_0 : decode cX5_rankOf 0 = .ok (.aload_n 0, 1) := by decide +kernel
theorem dX5_rankOf_1 : decode cX5_rankOf 1 = .ok (.getfield 28, 3) := by decide +kernel
theorem dX5_rankOf_4 : decode cX5_rankOf 4 = .ok (.aload_n 0, 1) := by decide +kernel
theorem dX5_rankOf_5 : decode cX5_rankOf 5 = .ok (.getfield 9, 3) := by decide +kernel
theorem dX5_rankOf_8 : decode cX5_rankOf 8 = .ok (.aload_n 0, 1) := by decide +kernel
theorem dX5_rankOf_9 : decode cX5_rankOf 9 = .ok (.getfield 15, 3) := by decide +kernel
theorem dX5_rankOf_12 : decode cX5_rankOf 12 = .ok (.iload_n 2, 1) := by decide +kernel
theorem dX5_rankOf_13 : decode cX5_rankOf 13 = .ok (.invokevirtual 41, 3) := by decide +kernel
theorem dX5_rankOf_16 : decode cX5_rankOf 16 = .ok (.iconst 0, 1) := by decide +kernel
theorem dX5_rankOf_17 : decode cX5_rankOf 17 = .ok (.istore_n 3, 1) := by decide +kernel
theorem dX5_rankOf_18 : decode cX5_rankOf 18 = .ok (.iload_n 3, 1) := by decide +kernel
theorem dX5_rankOf_19 : decode cX5_rankOf 19 = .ok (.aload_n 0, 1) := by decide +kernel
theorem dX5_rankOf_20 : decode cX5_rankOf 20 = .ok (.getfield 18, 3) := by decide +kernel
theorem dX5_rankOf_23 : decode cX5_rankOf 23 = .ok (.if_icmp .ge 51, 3) := by decide +kernel
theorem dX5_rankOf_26 : decode cX5_rankOf 26 = .ok (.iload_n 1, 1) := by decide +kernel
theorem dX5_rankOf_27 : decode cX5_rankOf 27 = .ok (.iload_n 3, 1) := by decide +kernel
theorem dX5_rankOf_28 : decode cX5_rankOf 28 = .ok (.ishr, 1) := by decide +kernel
theorem dX5_rankOf_29 : decode cX5_rankOf 29 = .ok (.iconst 1, 1) := by decide +kernel
theorem dX5_rankOf_30 : decode cX5_rankOf 30 = .ok (.iand, 1) := by decide +kernel
theorem dX5_rankOf_31 : decode cX5_rankOf 31 = .ok (.iconst 1, 1) := by decide +kernel
theorem dX5_rankOf_32 : decode cX5_rankOf 32 = .ok (.if_icmp .ne 36, 3) := by decide +kernel
theorem dX5_rankOf_35 : decode cX5_rankOf 35 = .ok (.aload_n 0, 1) := by decide +kernel
theorem dX5_rankOf_36 : decode cX5_rankOf 36 = .ok (.getfield 28, 3) := by decide +kernel
theorem dX5_rankOf_39 : decode cX5_rankOf 39 = .ok (.aload_n 0, 1) := by decide +kernel
theorem dX5_rankOf_40 : decode cX5_rankOf 40 = .ok (.getfield 21, 3) := by decide +kernel
theorem dX5_rankOf_43 : decode cX5_rankOf 43 = .ok (.iload_n 3, 1) := by decide +kernel
theorem dX5_rankOf_44 : decode cX5_rankOf 44 = .ok (.bipush 12, 2) := by decide +kernel
theorem dX5_rankOf_46 : decode cX5_rankOf 46 = .ok (.imul, 1) := by decide +kernel
theorem dX5_rankOf_47 : decode cX5_rankOf 47 = .ok (.invokevirtual 45, 3) := by decide +kernel
theorem dX5_rankOf_50 : decode cX5_rankOf 50 = .ok (.aload_n 0, 1) := by decide +kernel
theorem dX5_rankOf_51 : decode cX5_rankOf 51 = .ok (.getfield 28, 3) := by decide +kernel
theorem dX5_rankOf_54 : decode cX5_rankOf 54 = .ok (.aload_n 0, 1) := by decide +kernel
theorem dX5_rankOf_55 : decode cX5_rankOf 55 = .ok (.getfield 21, 3) := by decide +kernel
theorem dX5_rankOf_58 : decode cX5_rankOf 58 = .ok (.iload_n 3, 1) := by decide +kernel
theorem dX5_rankOf_59 : decode cX5_rankOf 59 = .ok (.bipush 12, 2) := by decide +kernel
theorem dX5_rankOf_61 : decode cX5_rankOf 61 = .ok (.imul, 1) := by decide +kernel
theorem dX5_rankOf_62 : decode cX5_rankOf 62 = .ok (.bipush 6, 2) := by decide +kernel
theorem dX5_rankOf_64 : decode cX5_rankOf 64 = .ok (.iadd, 1) := by decide +kernel
theorem dX5_rankOf_65 : decode cX5_rankOf 65 = .ok (.invokevirtual 45, 3) := by decide +kernel
theorem dX5_rankOf_68 : decode cX5_rankOf 68 = .ok (.iinc 3 1, 3) := by decide +kernel
theorem dX5_rankOf_71 : decode cX5_rankOf 71 = .ok (.goto (-53), 3) := by decide +kernel
theorem dX5_rankOf_74 : decode cX5_rankOf 74 = .ok (.aload_n 0, 1) := by decide +kernel
theorem dX5_rankOf_75 : decode cX5_rankOf 75 = .ok (.getfield 28, 3) := by decide +kernel
theorem dX5_rankOf_78 : decode cX5_rankOf 78 = .ok (.getfield 49, 3) := by decide +kernel
theorem dX5_rankOf_81 : decode cX5_rankOf 81 = .ok (.ireturn, 1) := by decide +kernel
theorem dX5_isStanding_0 : decode cX5_isStanding 0 = .ok (.iconst 2, 1) := by decide +kernel
theorem dX5_isStanding_1 : decode cX5_isStanding 1 = .ok (.iload_n 1, 1) := by decide +kernel
theorem dX5_isStanding_2 : decode cX5_isStanding 2 = .ok (.invokestatic 52, 3) := by decide +kernel
theorem dX5_isStanding_5 : decode cX5_isStanding 5 = .ok (.imul, 1) := by decide +kernel
theorem dX5_isStanding_6 : decode cX5_isStanding 6 = .ok (.istore_n 2, 1) := by decide +kernel
theorem dX5_isStanding_7 : decode cX5_isStanding 7 = .ok (.iload_n 2, 1) := by decide +kernel
theorem dX5_isStanding_8 : decode cX5_isStanding 8 = .ok (.aload_n 0, 1) := by decide +kernel
theorem dX5_isStanding_9 : decode cX5_isStanding 9 = .ok (.getfield 15, 3) := by decide +kernel
theorem dX5_isStanding_12 : decode cX5_isStanding 12 = .ok (.if_icmp .gt 17, 3) := by decide +kernel
theorem dX5_isStanding_15 : decode cX5_isStanding 15 = .ok (.aload_n 0, 1) := by decide +kernel
theorem dX5_isStanding_16 : decode cX5_isStanding 16 = .ok (.iload_n 1, 1) := by decide +kernel
theorem dX5_isStanding_17 : decode cX5_isStanding 17 = .ok (.iconst 0, 1) := by decide +kernel
theorem dX5_isStanding_18 : decode cX5_isStanding 18 = .ok (.invokevirtual 58, 3) := by decide +kernel
theorem dX5_isStanding_21 : decode cX5_isStanding 21 = .ok (.iload_n 2, 1) := by decide +kernel
theorem dX5_isStanding_22 : decode cX5_isStanding 22 = .ok (.if_icmp .ne 7, 3) := by decide +kernel
theorem dX5_isStanding_25 : decode cX5_isStanding 25 = .ok (.iconst 1, 1) := by decide +kernel
theorem dX5_isStanding_26 : decode cX5_isStanding 26 = .ok (.goto 4, 3) := by decide +kernel
theorem dX5_isStanding_29 : decode cX5_isStanding 29 = .ok (.iconst 0, 1) := by decide +kernel
theorem dX5_isStanding_30 : decode cX5_isStanding 30 = .ok (.ireturn, 1) := by decide +kernel
theorem dX5_coverBy_0 : decode cX5_coverBy 0 = .ok (.iload_n 1, 1) := by decide +kernel
theorem dX5_coverBy_1 : decode cX5_coverBy 1 = .ok (.invokestatic 52, 3) := by decide +kernel
theorem dX5_coverBy_4 : decode cX5_coverBy 4 = .ok (.istore_n 3, 1) := by decide +kernel
theorem dX5_coverBy_5 : decode cX5_coverBy 5 = .ok (.iconst 0, 1) := by decide +kernel
theorem dX5_coverBy_6 : decode cX5_coverBy 6 = .ok (.istore 4, 2) := by decide +kernel
theorem dX5_coverBy_8 : decode cX5_coverBy 8 = .ok (.iload 4, 2) := by decide +kernel
theorem dX5_coverBy_10 : decode cX5_coverBy 10 = .ok (.aload_n 0, 1) := by decide +kernel
theorem dX5_coverBy_11 : decode cX5_coverBy 11 = .ok (.getfield 18, 3) := by decide +kernel
theorem dX5_coverBy_14 : decode cX5_coverBy 14 = .ok (.if_icmp .ge 61, 3) := by decide +kernel
theorem dX5_coverBy_17 : decode cX5_coverBy 17 = .ok (.iconst 0, 1) := by decide +kernel
theorem dX5_coverBy_18 : decode cX5_coverBy 18 = .ok (.istore 5, 2) := by decide +kernel
theorem dX5_coverBy_20 : decode cX5_coverBy 20 = .ok (.iload 4, 2) := by decide +kernel
theorem dX5_coverBy_22 : decode cX5_coverBy 22 = .ok (.istore 6, 2) := by decide +kernel
theorem dX5_coverBy_24 : decode cX5_coverBy 24 = .ok (.iload 6, 2) := by decide +kernel
theorem dX5_coverBy_26 : decode cX5_coverBy 26 = .ok (.aload_n 0, 1) := by decide +kernel
theorem dX5_coverBy_27 : decode cX5_coverBy 27 = .ok (.getfield 18, 3) := by decide +kernel
theorem dX5_coverBy_30 : decode cX5_coverBy 30 = .ok (.if_icmp .ge 27, 3) := by decide +kernel
theorem dX5_coverBy_33 : decode cX5_coverBy 33 = .ok (.aload_n 2, 1) := by decide +kernel
theorem dX5_coverBy_34 : decode cX5_coverBy 34 = .ok (.iload 6, 2) := by decide +kernel
theorem dX5_coverBy_36 : decode cX5_coverBy 36 = .ok (.iaload, 1) := by decide +kernel
theorem dX5_coverBy_37 : decode cX5_coverBy 37 = .ok (.iload 4, 2) := by decide +kernel
theorem dX5_coverBy_39 : decode cX5_coverBy 39 = .ok (.if_icmp .ne 12, 3) := by decide +kernel
theorem dX5_coverBy_42 : decode cX5_coverBy 42 = .ok (.iload 5, 2) := by decide +kernel
theorem dX5_coverBy_44 : decode cX5_coverBy 44 = .ok (.iconst 1, 1) := by decide +kernel
theorem dX5_coverBy_45 : decode cX5_coverBy 45 = .ok (.iload 6, 2) := by decide +kernel
theorem dX5_coverBy_47 : decode cX5_coverBy 47 = .ok (.ishl, 1) := by decide +kernel
theorem dX5_coverBy_48 : decode cX5_coverBy 48 = .ok (.ior, 1) := by decide +kernel
theorem dX5_coverBy_49 : decode cX5_coverBy 49 = .ok (.istore 5, 2) := by decide +kernel
theorem dX5_coverBy_51 : decode cX5_coverBy 51 = .ok (.iinc 6 1, 3) := by decide +kernel
theorem dX5_coverBy_54 : decode cX5_coverBy 54 = .ok (.goto (-30), 3) := by decide +kernel
theorem dX5_coverBy_57 : decode cX5_coverBy 57 = .ok (.iload_n 3, 1) := by decide +kernel
theorem dX5_coverBy_58 : decode cX5_coverBy 58 = .ok (.aload_n 0, 1) := by decide +kernel
theorem dX5_coverBy_59 : decode cX5_coverBy 59 = .ok (.iload 5, 2) := by decide +kernel
theorem dX5_coverBy_61 : decode cX5_coverBy 61 = .ok (.iload_n 1, 1) := by decide +kernel
theorem dX5_coverBy_62 : decode cX5_coverBy 62 = .ok (.invokevirtual 58, 3) := by decide +kernel
theorem dX5_coverBy_65 : decode cX5_coverBy 65 = .ok (.iconst 2, 1) := by decide +kernel
theorem dX5_coverBy_66 : decode cX5_coverBy 66 = .ok (.idiv, 1) := by decide +kernel
theorem dX5_coverBy_67 : decode cX5_coverBy 67 = .ok (.iadd, 1) := by decide +kernel
theorem dX5_coverBy_68 : decode cX5_coverBy 68 = .ok (.istore_n 3, 1) := by decide +kernel
theorem dX5_coverBy_69 : decode cX5_coverBy 69 = .ok (.iinc 4 1, 3) := by decide +kernel
theorem dX5_coverBy_72 : decode cX5_coverBy 72 = .ok (.goto (-64), 3) := by decide +kernel
theorem dX5_coverBy_75 : decode cX5_coverBy 75 = .ok (.iload_n 3, 1) := by decide +kernel
theorem dX5_coverBy_76 : decode cX5_coverBy 76 = .ok (.ireturn, 1) := by decide +kernel
theorem dX5_difference_0 : decode cX5_difference 0 = .ok (.iload_n 1, 1) := by decide +kernel
theorem dX5_difference_1 : decode cX5_difference 1 = .ok (.bipush 12, 2) := by decide +kernel
theorem dX5_difference_3 : decode cX5_difference 3 = .ok (.imul, 1) := by decide +kernel
theorem dX5_difference_4 : decode cX5_difference 4 = .ok (.istore 4, 2) := by decide +kernel
theorem dX5_difference_6 : decode cX5_difference 6 = .ok (.iload 4, 2) := by decide +kernel
theorem dX5_difference_8 : decode cX5_difference 8 = .ok (.bipush 6, 2) := by decide +kernel
theorem dX5_difference_10 : decode cX5_difference 10 = .ok (.iadd, 1) := by decide +kernel
theorem dX5_difference_11 : decode cX5_difference 11 = .ok (.istore 5, 2) := by decide +kernel
theorem dX5_difference_13 : decode cX5_difference 13 = .ok (.aload_n 0, 1) := by decide +kernel
theorem dX5_difference_14 : decode cX5_difference 14 = .ok (.getfield 21, 3) := by decide +kernel
theorem dX5_difference_17 : decode cX5_difference 17 = .ok (.iload 4, 2) := by decide +kernel
theorem dX5_difference_19 : decode cX5_difference 19 = .ok (.iload_n 2, 1) := by decide +kernel
theorem dX5_difference_20 : decode cX5_difference 20 = .ok (.iadd, 1) := by decide +kernel
theorem dX5_difference_21 : decode cX5_difference 21 = .ok (.iaload, 1) := by decide +kernel
theorem dX5_difference_22 : decode cX5_difference 22 = .ok (.aload_n 0, 1) := by decide +kernel
theorem dX5_difference_23 : decode cX5_difference 23 = .ok (.getfield 21, 3) := by decide +kernel
theorem dX5_difference_26 : decode cX5_difference 26 = .ok (.iload 5, 2) := by decide +kernel
theorem dX5_difference_28 : decode cX5_difference 28 = .ok (.iload_n 3, 1) := by decide +kernel
theorem dX5_difference_29 : decode cX5_difference 29 = .ok (.iadd, 1) := by decide +kernel
theorem dX5_difference_30 : decode cX5_difference 30 = .ok (.iaload, 1) := by decide +kernel
theorem dX5_difference_31 : decode cX5_difference 31 = .ok (.imul, 1) := by decide +kernel
theorem dX5_difference_32 : decode cX5_difference 32 = .ok (.aload_n 0, 1) := by decide +kernel
theorem dX5_difference_33 : decode cX5_difference 33 = .ok (.getfield 21, 3) := by decide +kernel
theorem dX5_difference_36 : decode cX5_difference 36 = .ok (.iload 5, 2) := by decide +kernel
theorem dX5_difference_38 : decode cX5_difference 38 = .ok (.iload_n 2, 1) := by decide +kernel
theorem dX5_difference_39 : decode cX5_difference 39 = .ok (.iadd, 1) := by decide +kernel
theorem dX5_difference_40 : decode cX5_difference 40 = .ok (.iaload, 1) := by decide +kernel
theorem dX5_difference_41 : decode cX5_difference 41 = .ok (.aload_n 0, 1) := by decide +kernel
theorem dX5_difference_42 : decode cX5_difference 42 = .ok (.getfield 21, 3) := by decide +kernel
theorem dX5_difference_45 : decode cX5_difference 45 = .ok (.iload 4, 2) := by decide +kernel
theorem dX5_difference_47 : decode cX5_difference 47 = .ok (.iload_n 3, 1) := by decide +kernel
theorem dX5_difference_48 : decode cX5_difference 48 = .ok (.iadd, 1) := by decide +kernel
theorem dX5_difference_49 : decode cX5_difference 49 = .ok (.iaload, 1) := by decide +kernel
theorem dX5_difference_50 : decode cX5_difference 50 = .ok (.imul, 1) := by decide +kernel
theorem dX5_difference_51 : decode cX5_difference 51 = .ok (.isub, 1) := by decide +kernel
theorem dX5_difference_52 : decode cX5_difference 52 = .ok (.ireturn, 1) := by decide +kernel
theorem dX6_init_0 : decode cX6_init 0 = .ok (.aload_n 0, 1) := by decide +kernel
theorem dX6_init_1 : decode cX6_init 1 = .ok (.invokespecial 3, 3) := by decide +kernel
theorem dX6_init_4 : decode cX6_init 4 = .ok (.aload_n 0, 1) := by decide +kernel
theorem dX6_init_5 : decode cX6_init 5 = .ok (.iconst (-1), 1) := by decide +kernel
theorem dX6_init_6 : decode cX6_init 6 = .ok (.putfield 9, 3) := by decide +kernel
theorem dX6_init_9 : decode cX6_init 9 = .ok (.aload_n 0, 1) := by decide +kernel
theorem dX6_init_10 : decode cX6_init 10 = .ok (.iconst 0, 1) := by decide +kernel
theorem dX6_init_11 : decode cX6_init 11 = .ok (.putfield 15, 3) := by decide +kernel
theorem dX6_init_14 : decode cX6_init 14 = .ok (.aload_n 0, 1) := by decide +kernel
theorem dX6_init_15 : decode cX6_init 15 = .ok (.bipush 30, 2) := by decide +kernel
theorem dX6_init_17 : decode cX6_init 17 = .ok (.newarray .long, 2) := by decide +kernel
theorem dX6_init_19 : decode cX6_init 19 = .ok (.putfield 18, 3) := by decide +kernel
theorem dX6_init_22 : decode cX6_init 22 = .ok (.return_, 1) := by decide +kernel
theorem dX6_become_0 : decode cX6_become 0 = .ok (.aload_n 0, 1) := by decide +kernel
theorem dX6_become_1 : decode cX6_become 1 = .ok (.iload_n 1, 1) := by decide +kernel
theorem dX6_become_2 : decode cX6_become 2 = .ok (.putfield 9, 3) := by decide +kernel
theorem dX6_become_5 : decode cX6_become 5 = .ok (.aload_n 0, 1) := by decide +kernel
theorem dX6_become_6 : decode cX6_become 6 = .ok (.iload_n 2, 1) := by decide +kernel
theorem dX6_become_7 : decode cX6_become 7 = .ok (.putfield 15, 3) := by decide +kernel
theorem dX6_become_10 : decode cX6_become 10 = .ok (.iconst 0, 1) := by decide +kernel
theorem dX6_become_11 : decode cX6_become 11 = .ok (.istore_n 3, 1) := by decide +kernel
theorem dX6_become_12 : decode cX6_become 12 = .ok (.iload_n 3, 1) := by decide +kernel
theorem dX6_become_13 : decode cX6_become 13 = .ok (.aload_n 0, 1) := by decide +kernel
theorem dX6_become_14 : decode cX6_become 14 = .ok (.getfield 15, 3) := by decide +kernel
theorem dX6_become_17 : decode cX6_become 17 = .ok (.if_icmp .ge 16, 3) := by decide +kernel
theorem dX6_become_20 : decode cX6_become 20 = .ok (.aload_n 0, 1) := by decide +kernel
theorem dX6_become_21 : decode cX6_become 21 = .ok (.getfield 18, 3) := by decide +kernel
theorem dX6_become_24 : decode cX6_become 24 = .ok (.iload_n 3, 1) := by decide +kernel
theorem dX6_become_25 : decode cX6_become 25 = .ok (.lconst 0, 1) := by decide +kernel
theorem dX6_become_26 : decode cX6_become 26 = .ok (.lastore, 1) := by decide +kernel
theorem dX6_become_27 : decode cX6_become 27 = .ok (.iinc 3 1, 3) := by decide +kernel
theorem dX6_become_30 : decode cX6_become 30 = .ok (.goto (-18), 3) := by decide +kernel
theorem dX6_become_33 : decode cX6_become 33 = .ok (.return_, 1) := by decide +kernel
theorem dX6_isMissing_0 : decode cX6_isMissing 0 = .ok (.aload_n 0, 1) := by decide +kernel
theorem dX6_isMissing_1 : decode cX6_isMissing 1 = .ok (.getfield 9, 3) := by decide +kernel
theorem dX6_isMissing_4 : decode cX6_isMissing 4 = .ok (.iconst (-1), 1) := by decide +kernel
theorem dX6_isMissing_5 : decode cX6_isMissing 5 = .ok (.if_icmp .ne 7, 3) := by decide +kernel
theorem dX6_isMissing_8 : decode cX6_isMissing 8 = .ok (.iconst 1, 1) := by decide +kernel
theorem dX6_isMissing_9 : decode cX6_isMissing 9 = .ok (.goto 4, 3) := by decide +kernel
theorem dX6_isMissing_12 : decode cX6_isMissing 12 = .ok (.iconst 0, 1) := by decide +kernel
theorem dX6_isMissing_13 : decode cX6_isMissing 13 = .ok (.ireturn, 1) := by decide +kernel
theorem dX6_has_0 : decode cX6_has 0 = .ok (.iload_n 1, 1) := by decide +kernel
theorem dX6_has_1 : decode cX6_has 1 = .ok (.ifCond .lt 15, 3) := by decide +kernel
theorem dX6_has_4 : decode cX6_has 4 = .ok (.iload_n 1, 1) := by decide +kernel
theorem dX6_has_5 : decode cX6_has 5 = .ok (.aload_n 0, 1) := by decide +kernel
theorem dX6_has_6 : decode cX6_has 6 = .ok (.getfield 15, 3) := by decide +kernel
theorem dX6_has_9 : decode cX6_has 9 = .ok (.if_icmp .ge 7, 3) := by decide +kernel
theorem dX6_has_12 : decode cX6_has 12 = .ok (.iconst 1, 1) := by decide +kernel
theorem dX6_has_13 : decode cX6_has 13 = .ok (.goto 4, 3) := by decide +kernel
theorem dX6_has_16 : decode cX6_has 16 = .ok (.iconst 0, 1) := by decide +kernel
theorem dX6_has_17 : decode cX6_has 17 = .ok (.ireturn, 1) := by decide +kernel
theorem dX6_numberFor_0 : decode cX6_numberFor 0 = .ok (.aload_n 0, 1) := by decide +kernel
theorem dX6_numberFor_1 : decode cX6_numberFor 1 = .ok (.iload_n 1, 1) := by decide +kernel
theorem dX6_numberFor_2 : decode cX6_numberFor 2 = .ok (.invokevirtual 22, 3) := by decide +kernel
theorem dX6_numberFor_5 : decode cX6_numberFor 5 = .ok (.ifCond .eq 12, 3) := by decide +kernel
theorem dX6_numberFor_8 : decode cX6_numberFor 8 = .ok (.aload_n 0, 1) := by decide +kernel
theorem dX6_numberFor_9 : decode cX6_numberFor 9 = .ok (.getfield 18, 3) := by decide +kernel
theorem dX6_numberFor_12 : decode cX6_numberFor 12 = .ok (.iload_n 1, 1) := by decide +kernel
theorem dX6_numberFor_13 : decode cX6_numberFor 13 = .ok (.laload, 1) := by decide +kernel
theorem dX6_numberFor_14 : decode cX6_numberFor 14 = .ok (.goto 4, 3) := by decide +kernel
theorem dX6_numberFor_17 : decode cX6_numberFor 17 = .ok (.lconst 0, 1) := by decide +kernel
theorem dX6_numberFor_18 : decode cX6_numberFor 18 = .ok (.lreturn, 1) := by decide +kernel
theorem dX7_init_0 : decode cX7_init 0 = .ok (.aload_n 0, 1) := by decide +kernel
theorem dX7_init_1 : decode cX7_init 1 = .ok (.invokespecial 3, 3) := by decide +kernel
theorem dX7_init_4 : decode cX7_init 4 = .ok (.aload_n 0, 1) := by decide +kernel
theorem dX7_init_5 : decode cX7_init 5 = .ok (.bipush 6, 2) := by decide +kernel
theorem dX7_init_7 : decode cX7_init 7 = .ok (.newarray .int, 2) := by decide +kernel
theorem dX7_init_9 : decode cX7_init 9 = .ok (.putfield 9, 3) := by decide +kernel
theorem dX7_init_12 : decode cX7_init 12 = .ok (.aload_n 0, 1) := by decide +kernel
theorem dX7_init_13 : decode cX7_init 13 = .ok (.new 15, 3) := by decide +kernel
theorem dX7_init_16 : decode cX7_init 16 = .ok (.dup, 1) := by decide +kernel
theorem dX7_init_17 : decode cX7_init 17 = .ok (.invokespecial 17, 3) := by decide +kernel
theorem dX7_init_20 : decode cX7_init 20 = .ok (.putfield 18, 3) := by decide +kernel
theorem dX7_init_23 : decode cX7_init 23 = .ok (.return_, 1) := by decide +kernel
theorem dX7_numberAt_0 : decode cX7_numberAt 0 = .ok (.iconst 0, 1) := by decide +kernel
theorem dX7_numberAt_1 : decode cX7_numberAt 1 = .ok (.istore 5, 2) := by decide +kernel
theorem dX7_numberAt_3 : decode cX7_numberAt 3 = .ok (.iconst 0, 1) := by decide +kernel
theorem dX7_numberAt_4 : decode cX7_numberAt 4 = .ok (.istore 6, 2) := by decide +kernel
theorem dX7_numberAt_6 : decode cX7_numberAt 6 = .ok (.iload 6, 2) := by decide +kernel
theorem dX7_numberAt_8 : decode cX7_numberAt 8 = .ok (.aload_n 1, 1) := by decide +kernel
theorem dX7_numberAt_9 : decode cX7_numberAt 9 = .ok (.getfield 22, 3) := by decide +kernel
theorem dX7_numberAt_12 : decode cX7_numberAt 12 = .ok (.if_icmp .ge 28, 3) := by decide +kernel
theorem dX7_numberAt_15 : decode cX7_numberAt 15 = .ok (.iload 5, 2) := by decide +kernel
theorem dX7_numberAt_17 : decode cX7_numberAt 17 = .ok (.aload_n 2, 1) := by decide +kernel
theorem dX7_numberAt_18 : decode cX7_numberAt 18 = .ok (.iload 6, 2) := by decide +kernel
theorem dX7_numberAt_20 : decode cX7_numberAt 20 = .ok (.iaload, 1) := by decide +kernel
theorem dX7_numberAt_21 : decode cX7_numberAt 21 = .ok (.aload_n 1, 1) := by decide +kernel
theorem dX7_numberAt_22 : decode cX7_numberAt 22 = .ok (.iload 6, 2) := by decide +kernel
theorem dX7_numberAt_24 : decode cX7_numberAt 24 = .ok (.iload_n 3, 1) := by decide +kernel
theorem dX7_numberAt_25 : decode cX7_numberAt 25 = .ok (.iload 4, 2) := by decide +kernel
theorem dX7_numberAt_27 : decode cX7_numberAt 27 = .ok (.invokevirtual 28, 3) := by decide +kernel
theorem dX7_numberAt_30 : decode cX7_numberAt 30 = .ok (.imul, 1) := by decide +kernel
theorem dX7_numberAt_31 : decode cX7_numberAt 31 = .ok (.iadd, 1) := by decide +kernel
theorem dX7_numberAt_32 : decode cX7_numberAt 32 = .ok (.istore 5, 2) := by decide +kernel
theorem dX7_numberAt_34 : decode cX7_numberAt 34 = .ok (.iinc 6 1, 3) := by decide +kernel
theorem dX7_numberAt_37 : decode cX7_numberAt 37 = .ok (.goto (-31), 3) := by decide +kernel
theorem dX7_numberAt_40 : decode cX7_numberAt 40 = .ok (.iload 5, 2) := by decide +kernel
theorem dX7_numberAt_42 : decode cX7_numberAt 42 = .ok (.i2l, 1) := by decide +kernel
theorem dX7_numberAt_43 : decode cX7_numberAt 43 = .ok (.aload_n 1, 1) := by decide +kernel
theorem dX7_numberAt_44 : decode cX7_numberAt 44 = .ok (.getfield 32, 3) := by decide +kernel
theorem dX7_numberAt_47 : decode cX7_numberAt 47 = .ok (.invokestatic 35, 3) := by decide +kernel
theorem dX7_numberAt_50 : decode cX7_numberAt 50 = .ok (.ireturn, 1) := by decide +kernel
theorem dX7_halfRank_0 : decode cX7_halfRank 0 = .ok (.aload_n 0, 1) := by decide +kernel
theorem dX7_halfRank_1 : decode cX7_halfRank 1 = .ok (.getfield 18, 3) := by decide +kernel
theorem dX7_halfRank_4 : decode cX7_halfRank 4 = .ok (.aload_n 1, 1) := by decide +kernel
theorem dX7_halfRank_5 : decode cX7_halfRank 5 = .ok (.getfield 32, 3) := by decide +kernel
theorem dX7_halfRank_8 : decode cX7_halfRank 8 = .ok (.aload_n 1, 1) := by decide +kernel
theorem dX7_halfRank_9 : decode cX7_halfRank 9 = .ok (.getfield 39, 3) := by decide +kernel
theorem dX7_halfRank_12 : decode cX7_halfRank 12 = .ok (.iconst 0, 1) := by decide +kernel
theorem dX7_halfRank_13 : decode cX7_halfRank 13 = .ok (.invokevirtual 42, 3) := by decide +kernel
theorem dX7_halfRank_16 : decode cX7_halfRank 16 = .ok (.iconst 0, 1) := by decide +kernel
theorem dX7_halfRank_17 : decode cX7_halfRank 17 = .ok (.istore_n 3, 1) := by decide +kernel
theorem dX7_halfRank_18 : decode cX7_halfRank 18 = .ok (.iload_n 3, 1) := by decide +kernel
theorem dX7_halfRank_19 : decode cX7_halfRank 19 = .ok (.aload_n 1, 1) := by decide +kernel
theorem dX7_halfRank_20 : decode cX7_halfRank 20 = .ok (.getfield 39, 3) := by decide +kernel
theorem dX7_halfRank_23 : decode cX7_halfRank 23 = .ok (.if_icmp .ge 55, 3) := by decide +kernel
theorem dX7_halfRank_26 : decode cX7_halfRank 26 = .ok (.iconst 0, 1) := by decide +kernel
theorem dX7_halfRank_27 : decode cX7_halfRank 27 = .ok (.istore 4, 2) := by decide +kernel
theorem dX7_halfRank_29 : decode cX7_halfRank 29 = .ok (.iload 4, 2) := by decide +kernel
theorem dX7_halfRank_31 : decode cX7_halfRank 31 = .ok (.aload_n 1, 1) := by decide +kernel
theorem dX7_halfRank_32 : decode cX7_halfRank 32 = .ok (.getfield 39, 3) := by decide +kernel
theorem dX7_halfRank_35 : decode cX7_halfRank 35 = .ok (.if_icmp .ge 25, 3) := by decide +kernel
theorem dX7_halfRank_38 : decode cX7_halfRank 38 = .ok (.aload_n 0, 1) := by decide +kernel
theorem dX7_halfRank_39 : decode cX7_halfRank 39 = .ok (.getfield 9, 3) := by decide +kernel
theorem dX7_halfRank_42 : decode cX7_halfRank 42 = .ok (.iload 4, 2) := by decide +kernel
theorem dX7_halfRank_44 : decode cX7_halfRank 44 = .ok (.aload_n 0, 1) := by decide +kernel
theorem dX7_halfRank_45 : decode cX7_halfRank 45 = .ok (.aload_n 1, 1) := by decide +kernel
theorem dX7_halfRank_46 : decode cX7_halfRank 46 = .ok (.aload_n 2, 1) := by decide +kernel
theorem dX7_halfRank_47 : decode cX7_halfRank 47 = .ok (.iload_n 3, 1) := by decide +kernel
theorem dX7_halfRank_48 : decode cX7_halfRank 48 = .ok (.iload 4, 2) := by decide +kernel
theorem dX7_halfRank_50 : decode cX7_halfRank 50 = .ok (.invokevirtual 46, 3) := by decide +kernel
theorem dX7_halfRank_53 : decode cX7_halfRank 53 = .ok (.iastore, 1) := by decide +kernel
theorem dX7_halfRank_54 : decode cX7_halfRank 54 = .ok (.iinc 4 1, 3) := by decide +kernel
theorem dX7_halfRank_57 : decode cX7_halfRank 57 = .ok (.goto (-28), 3) := by decide +kernel
theorem dX7_halfRank_60 : decode cX7_halfRank 60 = .ok (.aload_n 0, 1) := by decide +kernel
theorem dX7_halfRank_61 : decode cX7_halfRank 61 = .ok (.getfield 18, 3) := by decide +kernel
theorem dX7_halfRank_64 : decode cX7_halfRank 64 = .ok (.aload_n 0, 1) := by decide +kernel
theorem dX7_halfRank_65 : decode cX7_halfRank 65 = .ok (.getfield 9, 3) := by decide +kernel
theorem dX7_halfRank_68 : decode cX7_halfRank 68 = .ok (.iconst 0, 1) := by decide +kernel
theorem dX7_halfRank_69 : decode cX7_halfRank 69 = .ok (.invokevirtual 50, 3) := by decide +kernel
theorem dX7_halfRank_72 : decode cX7_halfRank 72 = .ok (.iinc 3 1, 3) := by decide +kernel
theorem dX7_halfRank_75 : decode cX7_halfRank 75 = .ok (.goto (-57), 3) := by decide +kernel
theorem dX7_halfRank_78 : decode cX7_halfRank 78 = .ok (.aload_n 0, 1) := by decide +kernel
theorem dX7_halfRank_79 : decode cX7_halfRank 79 = .ok (.getfield 18, 3) := by decide +kernel
theorem dX7_halfRank_82 : decode cX7_halfRank 82 = .ok (.getfield 54, 3) := by decide +kernel
theorem dX7_halfRank_85 : decode cX7_halfRank 85 = .ok (.iconst 2, 1) := by decide +kernel
theorem dX7_halfRank_86 : decode cX7_halfRank 86 = .ok (.idiv, 1) := by decide +kernel
theorem dX7_halfRank_87 : decode cX7_halfRank 87 = .ok (.ireturn, 1) := by decide +kernel
theorem dX8_init_0 : decode cX8_init 0 = .ok (.aload_n 0, 1) := by decide +kernel
theorem dX8_init_1 : decode cX8_init 1 = .ok (.invokespecial 3, 3) := by decide +kernel
theorem dX8_init_4 : decode cX8_init 4 = .ok (.aload_n 0, 1) := by decide +kernel
theorem dX8_init_5 : decode cX8_init 5 = .ok (.iconst 1, 1) := by decide +kernel
theorem dX8_init_6 : decode cX8_init 6 = .ok (.putfield 9, 3) := by decide +kernel
theorem dX8_init_9 : decode cX8_init 9 = .ok (.aload_n 0, 1) := by decide +kernel
theorem dX8_init_10 : decode cX8_init 10 = .ok (.iconst 0, 1) := by decide +kernel
theorem dX8_init_11 : decode cX8_init 11 = .ok (.putfield 15, 3) := by decide +kernel
theorem dX8_init_14 : decode cX8_init 14 = .ok (.aload_n 0, 1) := by decide +kernel
theorem dX8_init_15 : decode cX8_init 15 = .ok (.sipush 1024, 3) := by decide +kernel
theorem dX8_init_18 : decode cX8_init 18 = .ok (.newarray .boolean, 2) := by decide +kernel
theorem dX8_init_20 : decode cX8_init 20 = .ok (.putfield 18, 3) := by decide +kernel
theorem dX8_init_23 : decode cX8_init 23 = .ok (.return_, 1) := by decide +kernel
theorem dX8_fill_0 : decode cX8_fill 0 = .ok (.aload_n 0, 1) := by decide +kernel
theorem dX8_fill_1 : decode cX8_fill 1 = .ok (.aload_n 1, 1) := by decide +kernel
theorem dX8_fill_2 : decode cX8_fill 2 = .ok (.getfield 22, 3) := by decide +kernel
theorem dX8_fill_5 : decode cX8_fill 5 = .ok (.putfield 15, 3) := by decide +kernel
theorem dX8_fill_8 : decode cX8_fill 8 = .ok (.aload_n 0, 1) := by decide +kernel
theorem dX8_fill_9 : decode cX8_fill 9 = .ok (.iconst 1, 1) := by decide +kernel
theorem dX8_fill_10 : decode cX8_fill 10 = .ok (.aload_n 0, 1) := by decide +kernel
theorem dX8_fill_11 : decode cX8_fill 11 = .ok (.getfield 15, 3) := by decide +kernel
theorem dX8_fill_14 : decode cX8_fill 14 = .ok (.ishl, 1) := by decide +kernel
theorem dX8_fill_15 : decode cX8_fill 15 = .ok (.putfield 9, 3) := by decide +kernel
theorem dX8_fill_18 : decode cX8_fill 18 = .ok (.aload_n 0, 1) := by decide +kernel
theorem dX8_fill_19 : decode cX8_fill 19 = .ok (.getfield 18, 3) := by decide +kernel
theorem dX8_fill_22 : decode cX8_fill 22 = .ok (.iconst 0, 1) := by decide +kernel
theorem dX8_fill_23 : decode cX8_fill 23 = .ok (.iconst 1, 1) := by decide +kernel
theorem dX8_fill_24 : decode cX8_fill 24 = .ok (.bastore, 1) := by decide +kernel
theorem dX8_fill_25 : decode cX8_fill 25 = .ok (.iconst 1, 1) := by decide +kernel
theorem dX8_fill_26 : decode cX8_fill 26 = .ok (.istore_n 2, 1) := by decide +kernel
theorem dX8_fill_27 : decode cX8_fill 27 = .ok (.iload_n 2, 1) := by decide +kernel
theorem dX8_fill_28 : decode cX8_fill 28 = .ok (.aload_n 0, 1) := by decide +kernel
theorem dX8_fill_29 : decode cX8_fill 29 = .ok (.getfield 9, 3) := by decide +kernel
theorem dX8_fill_32 : decode cX8_fill 32 = .ok (.if_icmp .ge 41, 3) := by decide +kernel
theorem dX8_fill_35 : decode cX8_fill 35 = .ok (.aload_n 0, 1) := by decide +kernel
theorem dX8_fill_36 : decode cX8_fill 36 = .ok (.getfield 18, 3) := by decide +kernel
theorem dX8_fill_39 : decode cX8_fill 39 = .ok (.iload_n 2, 1) := by decide +kernel
theorem dX8_fill_40 : decode cX8_fill 40 = .ok (.aload_n 0, 1) := by decide +kernel
theorem dX8_fill_41 : decode cX8_fill 41 = .ok (.getfield 18, 3) := by decide +kernel
theorem dX8_fill_44 : decode cX8_fill 44 = .ok (.iload_n 2, 1) := by decide +kernel
theorem dX8_fill_45 : decode cX8_fill 45 = .ok (.iload_n 2, 1) := by decide +kernel
theorem dX8_fill_46 : decode cX8_fill 46 = .ok (.iconst 1, 1) := by decide +kernel
theorem dX8_fill_47 : decode cX8_fill 47 = .ok (.isub, 1) := by decide +kernel
theorem dX8_fill_48 : decode cX8_fill 48 = .ok (.iand, 1) := by decide +kernel
theorem dX8_fill_49 : decode cX8_fill 49 = .ok (.baload, 1) := by decide +kernel
theorem dX8_fill_50 : decode cX8_fill 50 = .ok (.ifCond .eq 15, 3) := by decide +kernel
theorem dX8_fill_53 : decode cX8_fill 53 = .ok (.aload_n 1, 1) := by decide +kernel
theorem dX8_fill_54 : decode cX8_fill 54 = .ok (.iload_n 2, 1) := by decide +kernel
theorem dX8_fill_55 : decode cX8_fill 55 = .ok (.invokevirtual 25, 3) := by decide +kernel
theorem dX8_fill_58 : decode cX8_fill 58 = .ok (.ifCond .eq 7, 3) := by decide +kernel
theorem dX8_fill_61 : decode cX8_fill 61 = .ok (.iconst 1, 1) := by decide +kernel
theorem dX8_fill_62 : decode cX8_fill 62 = .ok (.goto 4, 3) := by decide +kernel
theorem dX8_fill_65 : decode cX8_fill 65 = .ok (.iconst 0, 1) := by decide +kernel
theorem dX8_fill_66 : decode cX8_fill 66 = .ok (.bastore, 1) := by decide +kernel
theorem dX8_fill_67 : decode cX8_fill 67 = .ok (.iinc 2 1, 3) := by decide +kernel
theorem dX8_fill_70 : decode cX8_fill 70 = .ok (.goto (-43), 3) := by decide +kernel
theorem dX8_fill_73 : decode cX8_fill 73 = .ok (.return_, 1) := by decide +kernel
theorem dX8_greatest_0 : decode cX8_greatest 0 = .ok (.iconst 0, 1) := by decide +kernel
theorem dX8_greatest_1 : decode cX8_greatest 1 = .ok (.istore_n 1, 1) := by decide +kernel
theorem dX8_greatest_2 : decode cX8_greatest 2 = .ok (.iconst 0, 1) := by decide +kernel
theorem dX8_greatest_3 : decode cX8_greatest 3 = .ok (.istore_n 2, 1) := by decide +kernel
theorem dX8_greatest_4 : decode cX8_greatest 4 = .ok (.iload_n 2, 1) := by decide +kernel
theorem dX8_greatest_5 : decode cX8_greatest 5 = .ok (.aload_n 0, 1) := by decide +kernel
theorem dX8_greatest_6 : decode cX8_greatest 6 = .ok (.getfield 9, 3) := by decide +kernel
theorem dX8_greatest_9 : decode cX8_greatest 9 = .ok (.if_icmp .ge 27, 3) := by decide +kernel
theorem dX8_greatest_12 : decode cX8_greatest 12 = .ok (.aload_n 0, 1) := by decide +kernel
theorem dX8_greatest_13 : decode cX8_greatest 13 = .ok (.getfield 18, 3) := by decide +kernel
theorem dX8_greatest_16 : decode cX8_greatest 16 = .ok (.iload_n 2, 1) := by decide +kernel
theorem dX8_greatest_17 : decode cX8_greatest 17 = .ok (.baload, 1) := by decide +kernel
theorem dX8_greatest_18 : decode cX8_greatest 18 = .ok (.ifCond .eq 12, 3) := by decide +kernel
theorem dX8_greatest_21 : decode cX8_greatest 21 = .ok (.iload_n 1, 1) := by decide +kernel
theorem dX8_greatest_22 : decode cX8_greatest 22 = .ok (.iload_n 2, 1) := by decide +kernel
theorem dX8_greatest_23 : decode cX8_greatest 23 = .ok (.invokestatic 29, 3) := by decide +kernel
theorem dX8_greatest_26 : decode cX8_greatest 26 = .ok (.invokestatic 35, 3) := by decide +kernel
theorem dX8_greatest_29 : decode cX8_greatest 29 = .ok (.istore_n 1, 1) := by decide +kernel
theorem dX8_greatest_30 : decode cX8_greatest 30 = .ok (.iinc 2 1, 3) := by decide +kernel
theorem dX8_greatest_33 : decode cX8_greatest 33 = .ok (.goto (-29), 3) := by decide +kernel
theorem dX8_greatest_36 : decode cX8_greatest 36 = .ok (.iload_n 1, 1) := by decide +kernel
theorem dX8_greatest_37 : decode cX8_greatest 37 = .ok (.ireturn, 1) := by decide +kernel
theorem dX8_bettered_0 : decode cX8_bettered 0 = .ok (.iload_n 1, 1) := by decide +kernel
theorem dX8_bettered_1 : decode cX8_bettered 1 = .ok (.istore_n 2, 1) := by decide +kernel
theorem dX8_bettered_2 : decode cX8_bettered 2 = .ok (.iconst 0, 1) := by decide +kernel
theorem dX8_bettered_3 : decode cX8_bettered 3 = .ok (.istore_n 3, 1) := by decide +kernel
theorem dX8_bettered_4 : decode cX8_bettered 4 = .ok (.iload_n 3, 1) := by decide +kernel
theorem dX8_bettered_5 : decode cX8_bettered 5 = .ok (.aload_n 0, 1) := by decide +kernel
theorem dX8_bettered_6 : decode cX8_bettered 6 = .ok (.getfield 15, 3) := by decide +kernel
theorem dX8_bettered_9 : decode cX8_bettered 9 = .ok (.if_icmp .ge 33, 3) := by decide +kernel
theorem dX8_bettered_12 : decode cX8_bettered 12 = .ok (.aload_n 0, 1) := by decide +kernel
theorem dX8_bettered_13 : decode cX8_bettered 13 = .ok (.iload_n 2, 1) := by decide +kernel
theorem dX8_bettered_14 : decode cX8_bettered 14 = .ok (.invokevirtual 41, 3) := by decide +kernel
theorem dX8_bettered_17 : decode cX8_bettered 17 = .ok (.istore 4, 2) := by decide +kernel
theorem dX8_bettered_19 : decode cX8_bettered 19 = .ok (.iload 4, 2) := by decide +kernel
theorem dX8_bettered_21 : decode cX8_bettered 21 = .ok (.iload_n 2, 1) := by decide +kernel
theorem dX8_bettered_22 : decode cX8_bettered 22 = .ok (.if_icmp .ne 11, 3) := by decide +kernel
theorem dX8_bettered_25 : decode cX8_bettered 25 = .ok (.aload_n 0, 1) := by decide +kernel
theorem dX8_bettered_26 : decode cX8_bettered 26 = .ok (.iload_n 2, 1) := by decide +kernel
theorem dX8_bettered_27 : decode cX8_bettered 27 = .ok (.invokevirtual 44, 3) := by decide +kernel
theorem dX8_bettered_30 : decode cX8_bettered 30 = .ok (.goto 5, 3) := by decide +kernel
theorem dX8_bettered_33 : decode cX8_bettered 33 = .ok (.iload 4, 2) := by decide +kernel
theorem dX8_bettered_35 : decode cX8_bettered 35 = .ok (.istore_n 2, 1) := by decide +kernel
theorem dX8_bettered_36 : decode cX8_bettered 36 = .ok (.iinc 3 1, 3) := by decide +kernel
theorem dX8_bettered_39 : decode cX8_bettered 39 = .ok (.goto (-35), 3) := by decide +kernel
theorem dX8_bettered_42 : decode cX8_bettered 42 = .ok (.iload_n 2, 1) := by decide +kernel
theorem dX8_bettered_43 : decode cX8_bettered 43 = .ok (.ireturn, 1) := by decide +kernel
theorem dX8_withOneMore_0 : decode cX8_withOneMore 0 = .ok (.iconst 0, 1) := by decide +kernel
theorem dX8_withOneMore_1 : decode cX8_withOneMore 1 = .ok (.istore_n 2, 1) := by decide +kernel
theorem dX8_withOneMore_2 : decode cX8_withOneMore 2 = .ok (.iload_n 2, 1) := by decide +kernel
theorem dX8_withOneMore_3 : decode cX8_withOneMore 3 = .ok (.aload_n 0, 1) := by decide +kernel
theorem dX8_withOneMore_4 : decode cX8_withOneMore 4 = .ok (.getfield 15, 3) := by decide +kernel
theorem dX8_withOneMore_7 : decode cX8_withOneMore 7 = .ok (.if_icmp .ge 31, 3) := by decide +kernel
theorem dX8_withOneMore_10 : decode cX8_withOneMore 10 = .ok (.iload_n 1, 1) := by decide +kernel
theorem dX8_withOneMore_11 : decode cX8_withOneMore 11 = .ok (.iconst 1, 1) := by decide +kernel
theorem dX8_withOneMore_12 : decode cX8_withOneMore 12 = .ok (.iload_n 2, 1) := by decide +kernel
theorem dX8_withOneMore_13 : decode cX8_withOneMore 13 = .ok (.ishl, 1) := by decide +kernel
theorem dX8_withOneMore_14 : decode cX8_withOneMore 14 = .ok (.ior, 1) := by decide +kernel
theorem dX8_withOneMore_15 : decode cX8_withOneMore 15 = .ok (.istore_n 3, 1) := by decide +kernel
theorem dX8_withOneMore_16 : decode cX8_withOneMore 16 = .ok (.iload_n 3, 1) := by decide +kernel
theorem dX8_withOneMore_17 : decode cX8_withOneMore 17 = .ok (.iload_n 1, 1) := by decide +kernel
theorem dX8_withOneMore_18 : decode cX8_withOneMore 18 = .ok (.if_icmp .eq 14, 3) := by decide +kernel
theorem dX8_withOneMore_21 : decode cX8_withOneMore 21 = .ok (.aload_n 0, 1) := by decide +kernel
theorem dX8_withOneMore_22 : decode cX8_withOneMore 22 = .ok (.getfield 18, 3) := by decide +kernel
theorem dX8_withOneMore_25 : decode cX8_withOneMore 25 = .ok (.iload_n 3, 1) := by decide +kernel
theorem dX8_withOneMore_26 : decode cX8_withOneMore 26 = .ok (.baload, 1) := by decide +kernel
theorem dX8_withOneMore_27 : decode cX8_withOneMore 27 = .ok (.ifCond .eq 5, 3) := by decide +kernel
theorem dX8_withOneMore_30 : decode cX8_withOneMore 30 = .ok (.iload_n 3, 1) := by decide +kernel
theorem dX8_withOneMore_31 : decode cX8_withOneMore 31 = .ok (.ireturn, 1) := by decide +kernel
theorem dX8_withOneMore_32 : decode cX8_withOneMore 32 = .ok (.iinc 2 1, 3) := by decide +kernel
theorem dX8_withOneMore_35 : decode cX8_withOneMore 35 = .ok (.goto (-33), 3) := by decide +kernel
theorem dX8_withOneMore_38 : decode cX8_withOneMore 38 = .ok (.iload_n 1, 1) := by decide +kernel
theorem dX8_withOneMore_39 : decode cX8_withOneMore 39 = .ok (.ireturn, 1) := by decide +kernel
theorem dX8_withTwoForOne_0 : decode cX8_withTwoForOne 0 = .ok (.iconst 0, 1) := by decide +kernel
theorem dX8_withTwoForOne_1 : decode cX8_withTwoForOne 1 = .ok (.istore_n 2, 1) := by decide +kernel
theorem dX8_withTwoForOne_2 : decode cX8_withTwoForOne 2 = .ok (.iload_n 2, 1) := by decide +kernel
theorem dX8_withTwoForOne_3 : decode cX8_withTwoForOne 3 = .ok (.aload_n 0, 1) := by decide +kernel
theorem dX8_withTwoForOne_4 : decode cX8_withTwoForOne 4 = .ok (.getfield 15, 3) := by decide +kernel
theorem dX8_withTwoForOne_7 : decode cX8_withTwoForOne 7 = .ok (.if_icmp .ge 38, 3) := by decide +kernel
theorem dX8_withTwoForOne_10 : decode cX8_withTwoForOne 10 = .ok (.iload_n 1, 1) := by decide +kernel
theorem dX8_withTwoForOne_11 : decode cX8_withTwoForOne 11 = .ok (.iload_n 2, 1) := by decide +kernel
theorem dX8_withTwoForOne_12 : decode cX8_withTwoForOne 12 = .ok (.ishr, 1) := by decide +kernel
theorem dX8_withTwoForOne_13 : decode cX8_withTwoForOne 13 = .ok (.iconst 1, 1) := by decide +kernel
theorem dX8_withTwoForOne_14 : decode cX8_withTwoForOne 14 = .ok (.iand, 1) := by decide +kernel
theorem dX8_withTwoForOne_15 : decode cX8_withTwoForOne 15 = .ok (.iconst 1, 1) := by decide +kernel
theorem dX8_withTwoForOne_16 : decode cX8_withTwoForOne 16 = .ok (.if_icmp .ne 23, 3) := by decide +kernel
theorem dX8_withTwoForOne_19 : decode cX8_withTwoForOne 19 = .ok (.aload_n 0, 1) := by decide +kernel
theorem dX8_withTwoForOne_20 : decode cX8_withTwoForOne 20 = .ok (.iload_n 1, 1) := by decide +kernel
theorem dX8_withTwoForOne_21 : decode cX8_withTwoForOne 21 = .ok (.iload_n 1, 1) := by decide +kernel
theorem dX8_withTwoForOne_22 : decode cX8_withTwoForOne 22 = .ok (.iconst 1, 1) := by decide +kernel
theorem dX8_withTwoForOne_23 : decode cX8_withTwoForOne 23 = .ok (.iload_n 2, 1) := by decide +kernel
theorem dX8_withTwoForOne_24 : decode cX8_withTwoForOne 24 = .ok (.ishl, 1) := by decide +kernel
theorem dX8_withTwoForOne_25 : decode cX8_withTwoForOne 25 = .ok (.iconst (-1), 1) := by decide +kernel
theorem dX8_withTwoForOne_26 : decode cX8_withTwoForOne 26 = .ok (.ixor, 1) := by decide +kernel
theorem dX8_withTwoForOne_27 : decode cX8_withTwoForOne 27 = .ok (.iand, 1) := by decide +kernel
theorem dX8_withTwoForOne_28 : decode cX8_withTwoForOne 28 = .ok (.invokevirtual 47, 3) := by decide +kernel
theorem dX8_withTwoForOne_31 : decode cX8_withTwoForOne 31 = .ok (.istore_n 3, 1) := by decide +kernel
theorem dX8_withTwoForOne_32 : decode cX8_withTwoForOne 32 = .ok (.iload_n 3, 1) := by decide +kernel
theorem dX8_withTwoForOne_33 : decode cX8_withTwoForOne 33 = .ok (.iconst (-1), 1) := by decide +kernel
theorem dX8_withTwoForOne_34 : decode cX8_withTwoForOne 34 = .ok (.if_icmp .eq 5, 3) := by decide +kernel
theorem dX8_withTwoForOne_37 : decode cX8_withTwoForOne 37 = .ok (.iload_n 3, 1) := by decide +kernel
theorem dX8_withTwoForOne_38 : decode cX8_withTwoForOne 38 = .ok (.ireturn, 1) := by decide +kernel
theorem dX8_withTwoForOne_39 : decode cX8_withTwoForOne 39 = .ok (.iinc 2 1, 3) := by decide +kernel
theorem dX8_withTwoForOne_42 : decode cX8_withTwoForOne 42 = .ok (.goto (-40), 3) := by decide +kernel
theorem dX8_withTwoForOne_45 : decode cX8_withTwoForOne 45 = .ok (.iload_n 1, 1) := by decide +kernel
theorem dX8_withTwoForOne_46 : decode cX8_withTwoForOne 46 = .ok (.ireturn, 1) := by decide +kernel
theorem dX8_twoMore_0 : decode cX8_twoMore 0 = .ok (.iconst 0, 1) := by decide +kernel
theorem dX8_twoMore_1 : decode cX8_twoMore 1 = .ok (.istore_n 3, 1) := by decide +kernel
theorem dX8_twoMore_2 : decode cX8_twoMore 2 = .ok (.iload_n 3, 1) := by decide +kernel
theorem dX8_twoMore_3 : decode cX8_twoMore 3 = .ok (.aload_n 0, 1) := by decide +kernel
theorem dX8_twoMore_4 : decode cX8_twoMore 4 = .ok (.getfield 15, 3) := by decide +kernel
theorem dX8_twoMore_7 : decode cX8_twoMore 7 = .ok (.if_icmp .ge 63, 3) := by decide +kernel
theorem dX8_twoMore_10 : decode cX8_twoMore 10 = .ok (.iload_n 3, 1) := by decide +kernel
theorem dX8_twoMore_11 : decode cX8_twoMore 11 = .ok (.iconst 1, 1) := by decide +kernel
theorem dX8_twoMore_12 : decode cX8_twoMore 12 = .ok (.iadd, 1) := by decide +kernel
theorem dX8_twoMore_13 : decode cX8_twoMore 13 = .ok (.istore 4, 2) := by decide +kernel
theorem dX8_twoMore_15 : decode cX8_twoMore 15 = .ok (.iload 4, 2) := by decide +kernel
theorem dX8_twoMore_17 : decode cX8_twoMore 17 = .ok (.aload_n 0, 1) := by decide +kernel
theorem dX8_twoMore_18 : decode cX8_twoMore 18 = .ok (.getfield 15, 3) := by decide +kernel
theorem dX8_twoMore_21 : decode cX8_twoMore 21 = .ok (.if_icmp .ge 43, 3) := by decide +kernel
theorem dX8_twoMore_24 : decode cX8_twoMore 24 = .ok (.iconst 1, 1) := by decide +kernel
theorem dX8_twoMore_25 : decode cX8_twoMore 25 = .ok (.iload_n 3, 1) := by decide +kernel
theorem dX8_twoMore_26 : decode cX8_twoMore 26 = .ok (.ishl, 1) := by decide +kernel
theorem dX8_twoMore_27 : decode cX8_twoMore 27 = .ok (.iconst 1, 1) := by decide +kernel
theorem dX8_twoMore_28 : decode cX8_twoMore 28 = .ok (.iload 4, 2) := by decide +kernel
theorem dX8_twoMore_30 : decode cX8_twoMore 30 = .ok (.ishl, 1) := by decide +kernel
theorem dX8_twoMore_31 : decode cX8_twoMore 31 = .ok (.ior, 1) := by decide +kernel
theorem dX8_twoMore_32 : decode cX8_twoMore 32 = .ok (.istore 5, 2) := by decide +kernel
theorem dX8_twoMore_34 : decode cX8_twoMore 34 = .ok (.iload_n 1, 1) := by decide +kernel
theorem dX8_twoMore_35 : decode cX8_twoMore 35 = .ok (.iload 5, 2) := by decide +kernel
theorem dX8_twoMore_37 : decode cX8_twoMore 37 = .ok (.iand, 1) := by decide +kernel
theorem dX8_twoMore_38 : decode cX8_twoMore 38 = .ok (.ifCond .ne 20, 3) := by decide +kernel
theorem dX8_twoMore_41 : decode cX8_twoMore 41 = .ok (.aload_n 0, 1) := by decide +kernel
theorem dX8_twoMore_42 : decode cX8_twoMore 42 = .ok (.getfield 18, 3) := by decide +kernel
theorem dX8_twoMore_45 : decode cX8_twoMore 45 = .ok (.iload_n 2, 1) := by decide +kernel
theorem dX8_twoMore_46 : decode cX8_twoMore 46 = .ok (.iload 5, 2) := by decide +kernel
theorem dX8_twoMore_48 : decode cX8_twoMore 48 = .ok (.ior, 1) := by decide +kernel
theorem dX8_twoMore_49 : decode cX8_twoMore 49 = .ok (.baload, 1) := by decide +kernel
theorem dX8_twoMore_50 : decode cX8_twoMore 50 = .ok (.ifCond .eq 8, 3) := by decide +kernel
theorem dX8_twoMore_53 : decode cX8_twoMore 53 = .ok (.iload_n 2, 1) := by decide +kernel
theorem dX8_twoMore_54 : decode cX8_twoMore 54 = .ok (.iload 5, 2) := by decide +kernel
theorem dX8_twoMore_56 : decode cX8_twoMore 56 = .ok (.ior, 1) := by decide +kernel
theorem dX8_twoMore_57 : decode cX8_twoMore 57 = .ok (.ireturn, 1) := by decide +kernel
theorem dX8_twoMore_58 : decode cX8_twoMore 58 = .ok (.iinc 4 1, 3) := by decide +kernel
theorem dX8_twoMore_61 : decode cX8_twoMore 61 = .ok (.goto (-46), 3) := by decide +kernel
theorem dX8_twoMore_64 : decode cX8_twoMore 64 = .ok (.iinc 3 1, 3) := by decide +kernel
theorem dX8_twoMore_67 : decode cX8_twoMore 67 = .ok (.goto (-65), 3) := by decide +kernel
theorem dX8_twoMore_70 : decode cX8_twoMore 70 = .ok (.iconst (-1), 1) := by decide +kernel
theorem dX8_twoMore_71 : decode cX8_twoMore 71 = .ok (.ireturn, 1) := by decide +kernel
theorem dX9_init_0 : decode cX9_init 0 = .ok (.aload_n 0, 1) := by decide +kernel
theorem dX9_init_1 : decode cX9_init 1 = .ok (.invokespecial 3, 3) := by decide +kernel
theorem dX9_init_4 : decode cX9_init 4 = .ok (.aload_n 0, 1) := by decide +kernel
theorem dX9_init_5 : decode cX9_init 5 = .ok (.new 9, 3) := by decide +kernel
theorem dX9_init_8 : decode cX9_init 8 = .ok (.dup, 1) := by decide +kernel
theorem dX9_init_9 : decode cX9_init 9 = .ok (.invokespecial 11, 3) := by decide +kernel
theorem dX9_init_12 : decode cX9_init 12 = .ok (.putfield 12, 3) := by decide +kernel
theorem dX9_init_15 : decode cX9_init 15 = .ok (.aload_n 0, 1) := by decide +kernel
theorem dX9_init_16 : decode cX9_init 16 = .ok (.new 9, 3) := by decide +kernel
theorem dX9_init_19 : decode cX9_init 19 = .ok (.dup, 1) := by decide +kernel
theorem dX9_init_20 : decode cX9_init 20 = .ok (.invokespecial 11, 3) := by decide +kernel
theorem dX9_init_23 : decode cX9_init 23 = .ok (.putfield 16, 3) := by decide +kernel
theorem dX9_init_26 : decode cX9_init 26 = .ok (.aload_n 0, 1) := by decide +kernel
theorem dX9_init_27 : decode cX9_init 27 = .ok (.iconst 0, 1) := by decide +kernel
theorem dX9_init_28 : decode cX9_init 28 = .ok (.putfield 19, 3) := by decide +kernel
theorem dX9_init_31 : decode cX9_init 31 = .ok (.aload_n 0, 1) := by decide +kernel
theorem dX9_init_32 : decode cX9_init 32 = .ok (.new 23, 3) := by decide +kernel
theorem dX9_init_35 : decode cX9_init 35 = .ok (.dup, 1) := by decide +kernel
theorem dX9_init_36 : decode cX9_init 36 = .ok (.invokespecial 25, 3) := by decide +kernel
theorem dX9_init_39 : decode cX9_init 39 = .ok (.putfield 26, 3) := by decide +kernel
theorem dX9_init_42 : decode cX9_init 42 = .ok (.aload_n 0, 1) := by decide +kernel
theorem dX9_init_43 : decode cX9_init 43 = .ok (.new 30, 3) := by decide +kernel
theorem dX9_init_46 : decode cX9_init 46 = .ok (.dup, 1) := by decide +kernel
theorem dX9_init_47 : decode cX9_init 47 = .ok (.invokespecial 32, 3) := by decide +kernel
theorem dX9_init_50 : decode cX9_init 50 = .ok (.putfield 33, 3) := by decide +kernel
theorem dX9_init_53 : decode cX9_init 53 = .ok (.aload_n 0, 1) := by decide +kernel
theorem dX9_init_54 : decode cX9_init 54 = .ok (.new 37, 3) := by decide +kernel
theorem dX9_init_57 : decode cX9_init 57 = .ok (.dup, 1) := by decide +kernel
theorem dX9_init_58 : decode cX9_init 58 = .ok (.invokespecial 39, 3) := by decide +kernel
theorem dX9_init_61 : decode cX9_init 61 = .ok (.putfield 40, 3) := by decide +kernel
theorem dX9_init_64 : decode cX9_init 64 = .ok (.aload_n 0, 1) := by decide +kernel
theorem dX9_init_65 : decode cX9_init 65 = .ok (.new 44, 3) := by decide +kernel
theorem dX9_init_68 : decode cX9_init 68 = .ok (.dup, 1) := by decide +kernel
theorem dX9_init_69 : decode cX9_init 69 = .ok (.invokespecial 46, 3) := by decide +kernel
theorem dX9_init_72 : decode cX9_init 72 = .ok (.putfield 47, 3) := by decide +kernel
theorem dX9_init_75 : decode cX9_init 75 = .ok (.aload_n 0, 1) := by decide +kernel
theorem dX9_init_76 : decode cX9_init 76 = .ok (.new 51, 3) := by decide +kernel
theorem dX9_init_79 : decode cX9_init 79 = .ok (.dup, 1) := by decide +kernel
theorem dX9_init_80 : decode cX9_init 80 = .ok (.invokespecial 53, 3) := by decide +kernel
theorem dX9_init_83 : decode cX9_init 83 = .ok (.putfield 54, 3) := by decide +kernel
theorem dX9_init_86 : decode cX9_init 86 = .ok (.aload_n 0, 1) := by decide +kernel
theorem dX9_init_87 : decode cX9_init 87 = .ok (.iconst 4, 1) := by decide +kernel
theorem dX9_init_88 : decode cX9_init 88 = .ok (.anewarray 58, 3) := by decide +kernel
theorem dX9_init_91 : decode cX9_init 91 = .ok (.putfield 60, 3) := by decide +kernel
theorem dX9_init_94 : decode cX9_init 94 = .ok (.aload_n 0, 1) := by decide +kernel
theorem dX9_init_95 : decode cX9_init 95 = .ok (.iconst 4, 1) := by decide +kernel
theorem dX9_init_96 : decode cX9_init 96 = .ok (.anewarray 64, 3) := by decide +kernel
theorem dX9_init_99 : decode cX9_init 99 = .ok (.putfield 66, 3) := by decide +kernel
theorem dX9_init_102 : decode cX9_init 102 = .ok (.aload_n 0, 1) := by decide +kernel
theorem dX9_init_103 : decode cX9_init 103 = .ok (.bipush 10, 2) := by decide +kernel
theorem dX9_init_105 : decode cX9_init 105 = .ok (.newarray .int, 2) := by decide +kernel
theorem dX9_init_107 : decode cX9_init 107 = .ok (.putfield 70, 3) := by decide +kernel
theorem dX9_init_110 : decode cX9_init 110 = .ok (.aload_n 0, 1) := by decide +kernel
theorem dX9_init_111 : decode cX9_init 111 = .ok (.bipush 10, 2) := by decide +kernel
theorem dX9_init_113 : decode cX9_init 113 = .ok (.newarray .int, 2) := by decide +kernel
theorem dX9_init_115 : decode cX9_init 115 = .ok (.putfield 74, 3) := by decide +kernel
theorem dX9_init_118 : decode cX9_init 118 = .ok (.aload_n 0, 1) := by decide +kernel
theorem dX9_init_119 : decode cX9_init 119 = .ok (.bipush 10, 2) := by decide +kernel
theorem dX9_init_121 : decode cX9_init 121 = .ok (.newarray .int, 2) := by decide +kernel
theorem dX9_init_123 : decode cX9_init 123 = .ok (.putfield 77, 3) := by decide +kernel
theorem dX9_init_126 : decode cX9_init 126 = .ok (.iconst 0, 1) := by decide +kernel
theorem dX9_init_127 : decode cX9_init 127 = .ok (.istore_n 1, 1) := by decide +kernel
theorem dX9_init_128 : decode cX9_init 128 = .ok (.iload_n 1, 1) := by decide +kernel
theorem dX9_init_129 : decode cX9_init 129 = .ok (.iconst 4, 1) := by decide +kernel
theorem dX9_init_130 : decode cX9_init 130 = .ok (.if_icmp .ge 22, 3) := by decide +kernel
theorem dX9_init_133 : decode cX9_init 133 = .ok (.aload_n 0, 1) := by decide +kernel
theorem dX9_init_134 : decode cX9_init 134 = .ok (.getfield 60, 3) := by decide +kernel
theorem dX9_init_137 : decode cX9_init 137 = .ok (.iload_n 1, 1) := by decide +kernel
theorem dX9_init_138 : decode cX9_init 138 = .ok (.new 58, 3) := by decide +kernel
theorem dX9_init_141 : decode cX9_init 141 = .ok (.dup, 1) := by decide +kernel
theorem dX9_init_142 : decode cX9_init 142 = .ok (.invokespecial 80, 3) := by decide +kernel
theorem dX9_init_145 : decode cX9_init 145 = .ok (.aastore, 1) := by decide +kernel
theorem dX9_init_146 : decode cX9_init 146 = .ok (.iinc 1 1, 3) := by decide +kernel
theorem dX9_init_149 : decode cX9_init 149 = .ok (.goto (-21), 3) := by decide +kernel
theorem dX9_init_152 : decode cX9_init 152 = .ok (.iconst 0, 1) := by decide +kernel
theorem dX9_init_153 : decode cX9_init 153 = .ok (.istore_n 1, 1) := by decide +kernel
theorem dX9_init_154 : decode cX9_init 154 = .ok (.iload_n 1, 1) := by decide +kernel
theorem dX9_init_155 : decode cX9_init 155 = .ok (.iconst 4, 1) := by decide +kernel
theorem dX9_init_156 : decode cX9_init 156 = .ok (.if_icmp .ge 22, 3) := by decide +kernel
theorem dX9_init_159 : decode cX9_init 159 = .ok (.aload_n 0, 1) := by decide +kernel
theorem dX9_init_160 : decode cX9_init 160 = .ok (.getfield 66, 3) := by decide +kernel
theorem dX9_init_163 : decode cX9_init 163 = .ok (.iload_n 1, 1) := by decide +kernel
theorem dX9_init_164 : decode cX9_init 164 = .ok (.new 64, 3) := by decide +kernel
theorem dX9_init_167 : decode cX9_init 167 = .ok (.dup, 1) := by decide +kernel
theorem dX9_init_168 : decode cX9_init 168 = .ok (.invokespecial 81, 3) := by decide +kernel
theorem dX9_init_171 : decode cX9_init 171 = .ok (.aastore, 1) := by decide +kernel
theorem dX9_init_172 : decode cX9_init 172 = .ok (.iinc 1 1, 3) := by decide +kernel
theorem dX9_init_175 : decode cX9_init 175 = .ok (.goto (-21), 3) := by decide +kernel
theorem dX9_init_178 : decode cX9_init 178 = .ok (.return_, 1) := by decide +kernel
theorem dX9_field_0 : decode cX9_field 0 = .ok (.iload_n 1, 1) := by decide +kernel
theorem dX9_field_1 : decode cX9_field 1 = .ok (.invokestatic 82, 3) := by decide +kernel
theorem dX9_field_4 : decode cX9_field 4 = .ok (.ifCond .eq 14, 3) := by decide +kernel
theorem dX9_field_7 : decode cX9_field 7 = .ok (.iload_n 2, 1) := by decide +kernel
theorem dX9_field_8 : decode cX9_field 8 = .ok (.iconst 1, 1) := by decide +kernel
theorem dX9_field_9 : decode cX9_field 9 = .ok (.if_icmp .lt 9, 3) := by decide +kernel
theorem dX9_field_12 : decode cX9_field 12 = .ok (.iload_n 2, 1) := by decide +kernel
theorem dX9_field_13 : decode cX9_field 13 = .ok (.bipush 6, 2) := by decide +kernel
theorem dX9_field_15 : decode cX9_field 15 = .ok (.if_icmp .le 6, 3) := by decide +kernel
theorem dX9_field_18 : decode cX9_field 18 = .ok (.bipush (-2), 2) := by decide +kernel
theorem dX9_field_20 : decode cX9_field 20 = .ok (.ireturn, 1) := by decide +kernel
theorem dX9_field_21 : decode cX9_field 21 = .ok (.aload_n 0, 1) := by decide +kernel
theorem dX9_field_22 : decode cX9_field 22 = .ok (.getfield 12, 3) := by decide +kernel
theorem dX9_field_25 : decode cX9_field 25 = .ok (.getfield 86, 3) := by decide +kernel
theorem dX9_field_28 : decode cX9_field 28 = .ok (.istore_n 3, 1) := by decide +kernel
theorem dX9_field_29 : decode cX9_field 29 = .ok (.aload_n 0, 1) := by decide +kernel
theorem dX9_field_30 : decode cX9_field 30 = .ok (.getfield 12, 3) := by decide +kernel
theorem dX9_field_33 : decode cX9_field 33 = .ok (.iload_n 1, 1) := by decide +kernel
theorem dX9_field_34 : decode cX9_field 34 = .ok (.putfield 86, 3) := by decide +kernel
theorem dX9_field_37 : decode cX9_field 37 = .ok (.aload_n 0, 1) := by decide +kernel
theorem dX9_field_38 : decode cX9_field 38 = .ok (.getfield 12, 3) := by decide +kernel
theorem dX9_field_41 : decode cX9_field 41 = .ok (.iload_n 2, 1) := by decide +kernel
theorem dX9_field_42 : decode cX9_field 42 = .ok (.putfield 90, 3) := by decide +kernel
theorem dX9_field_45 : decode cX9_field 45 = .ok (.iload_n 3, 1) := by decide +kernel
theorem dX9_field_46 : decode cX9_field 46 = .ok (.ireturn, 1) := by decide +kernel
theorem dX9_divided_0 : decode cX9_divided 0 = .ok (.iload_n 2, 1) := by decide +kernel
theorem dX9_divided_1 : decode cX9_divided 1 = .ok (.i2l, 1) := by decide +kernel
theorem dX9_divided_2 : decode cX9_divided 2 = .ok (.aload_n 0, 1) := by decide +kernel
theorem dX9_divided_3 : decode cX9_divided 3 = .ok (.getfield 12, 3) := by decide +kernel
theorem dX9_divided_6 : decode cX9_divided 6 = .ok (.getfield 86, 3) := by decide +kernel
theorem dX9_divided_9 : decode cX9_divided 9 = .ok (.invokestatic 93, 3) := by decide +kernel
theorem dX9_divided_12 : decode cX9_divided 12 = .ok (.istore_n 3, 1) := by decide +kernel
theorem dX9_divided_13 : decode cX9_divided 13 = .ok (.iload_n 3, 1) := by decide +kernel
theorem dX9_divided_14 : decode cX9_divided 14 = .ok (.ifCond .ne 8, 3) := by decide +kernel
theorem dX9_divided_17 : decode cX9_divided 17 = .ok (.bipush (-2), 2) := by decide +kernel
theorem dX9_divided_19 : decode cX9_divided 19 = .ok (.goto 26, 3) := by decide +kernel
theorem dX9_divided_22 : decode cX9_divided 22 = .ok (.iload_n 1, 1) := by decide +kernel
theorem dX9_divided_23 : decode cX9_divided 23 = .ok (.i2l, 1) := by decide +kernel
theorem dX9_divided_24 : decode cX9_divided 24 = .ok (.aload_n 0, 1) := by decide +kernel
theorem dX9_divided_25 : decode cX9_divided 25 = .ok (.getfield 12, 3) := by decide +kernel
theorem dX9_divided_28 : decode cX9_divided 28 = .ok (.getfield 86, 3) := by decide +kernel
theorem dX9_divided_31 : decode cX9_divided 31 = .ok (.invokestatic 93, 3) := by decide +kernel
theorem dX9_divided_34 : decode cX9_divided 34 = .ok (.iload_n 3, 1) := by decide +kernel
theorem dX9_divided_35 : decode cX9_divided 35 = .ok (.aload_n 0, 1) := by decide +kernel
theorem dX9_divided_36 : decode cX9_divided 36 = .ok (.getfield 12, 3) := by decide +kernel
theorem dX9_divided_39 : decode cX9_divided 39 = .ok (.getfield 86, 3) := by decide +kernel
theorem dX9_divided_42 : decode cX9_divided 42 = .ok (.invokestatic 97, 3) := by decide +kernel
theorem dX9_divided_45 : decode cX9_divided 45 = .ok (.ireturn, 1) := by decide +kernel
theorem dX9_pair_0 : decode cX9_pair 0 = .ok (.iload_n 1, 1) := by decide +kernel
theorem dX9_pair_1 : decode cX9_pair 1 = .ok (.invokestatic 101, 3) := by decide +kernel
theorem dX9_pair_4 : decode cX9_pair 4 = .ok (.ifCond .eq 10, 3) := by decide +kernel
theorem dX9_pair_7 : decode cX9_pair 7 = .ok (.iload_n 2, 1) := by decide +kernel
theorem dX9_pair_8 : decode cX9_pair 8 = .ok (.invokestatic 104, 3) := by decide +kernel
theorem dX9_pair_11 : decode cX9_pair 11 = .ok (.ifCond .ne 6, 3) := by decide +kernel
theorem dX9_pair_14 : decode cX9_pair 14 = .ok (.bipush (-2), 2) := by decide +kernel
theorem dX9_pair_16 : decode cX9_pair 16 = .ok (.ireturn, 1) := by decide +kernel
theorem dX9_pair_17 : decode cX9_pair 17 = .ok (.aload_n 0, 1) := by decide +kernel
theorem dX9_pair_18 : decode cX9_pair 18 = .ok (.getfield 12, 3) := by decide +kernel
theorem dX9_pair_21 : decode cX9_pair 21 = .ok (.getfield 107, 3) := by decide +kernel
theorem dX9_pair_24 : decode cX9_pair 24 = .ok (.bipush 10, 2) := by decide +kernel
theorem dX9_pair_26 : decode cX9_pair 26 = .ok (.if_icmp .lt 6, 3) := by decide +kernel
theorem dX9_pair_29 : decode cX9_pair 29 = .ok (.bipush (-4), 2) := by decide +kernel
theorem dX9_pair_31 : decode cX9_pair 31 = .ok (.ireturn, 1) := by decide +kernel
theorem dX9_pair_32 : decode cX9_pair 32 = .ok (.aload_n 0, 1) := by decide +kernel
theorem dX9_pair_33 : decode cX9_pair 33 = .ok (.getfield 12, 3) := by decide +kernel
theorem dX9_pair_36 : decode cX9_pair 36 = .ok (.iload_n 1, 1) := by decide +kernel
theorem dX9_pair_37 : decode cX9_pair 37 = .ok (.iload_n 2, 1) := by decide +kernel
theorem dX9_pair_38 : decode cX9_pair 38 = .ok (.invokevirtual 110, 3) := by decide +kernel
theorem dX9_pair_41 : decode cX9_pair 41 = .ok (.ireturn, 1) := by decide +kernel
theorem dX9_entry_0 : decode cX9_entry 0 = .ok (.aload_n 0, 1) := by decide +kernel
theorem dX9_entry_1 : decode cX9_entry 1 = .ok (.getfield 12, 3) := by decide +kernel
theorem dX9_entry_4 : decode cX9_entry 4 = .ok (.iload_n 1, 1) := by decide +kernel
theorem dX9_entry_5 : decode cX9_entry 5 = .ok (.invokevirtual 114, 3) := by decide +kernel
theorem dX9_entry_8 : decode cX9_entry 8 = .ok (.ifCond .eq 34, 3) := by decide +kernel
theorem dX9_entry_11 : decode cX9_entry 11 = .ok (.iload_n 2, 1) := by decide +kernel
theorem dX9_entry_12 : decode cX9_entry 12 = .ok (.invokestatic 117, 3) := by decide +kernel
theorem dX9_entry_15 : decode cX9_entry 15 = .ok (.ifCond .eq 27, 3) := by decide +kernel
theorem dX9_entry_18 : decode cX9_entry 18 = .ok (.iload_n 3, 1) := by decide +kernel
theorem dX9_entry_19 : decode cX9_entry 19 = .ok (.ifCond .lt 23, 3) := by decide +kernel
theorem dX9_entry_22 : decode cX9_entry 22 = .ok (.iload_n 3, 1) := by decide +kernel
theorem dX9_entry_23 : decode cX9_entry 23 = .ok (.bipush 6, 2) := by decide +kernel
theorem dX9_entry_25 : decode cX9_entry 25 = .ok (.if_icmp .ge 17, 3) := by decide +kernel
theorem dX9_entry_28 : decode cX9_entry 28 = .ok (.iload 4, 2) := by decide +kernel
theorem dX9_entry_30 : decode cX9_entry 30 = .ok (.bipush (-99), 2) := by decide +kernel
theorem dX9_entry_32 : decode cX9_entry 32 = .ok (.if_icmp .lt 10, 3) := by decide +kernel
theorem dX9_entry_35 : decode cX9_entry 35 = .ok (.iload 4, 2) := by decide +kernel
theorem dX9_entry_37 : decode cX9_entry 37 = .ok (.bipush 99, 2) := by decide +kernel
theorem dX9_entry_39 : decode cX9_entry 39 = .ok (.if_icmp .le 6, 3) := by decide +kernel
theorem dX9_entry_42 : decode cX9_entry 42 = .ok (.bipush (-2), 2) := by decide +kernel
theorem dX9_entry_44 : decode cX9_entry 44 = .ok (.ireturn, 1) := by decide +kernel
theorem dX9_entry_45 : decode cX9_entry 45 = .ok (.iload_n 1, 1) := by decide +kernel
theorem dX9_entry_46 : decode cX9_entry 46 = .ok (.bipush 12, 2) := by decide +kernel
theorem dX9_entry_48 : decode cX9_entry 48 = .ok (.imul, 1) := by decide +kernel
theorem dX9_entry_49 : decode cX9_entry 49 = .ok (.iload_n 2, 1) := by decide +kernel
theorem dX9_entry_50 : decode cX9_entry 50 = .ok (.bipush 6, 2) := by decide +kernel
theorem dX9_entry_52 : decode cX9_entry 52 = .ok (.imul, 1) := by decide +kernel
theorem dX9_entry_53 : decode cX9_entry 53 = .ok (.iadd, 1) := by decide +kernel
theorem dX9_entry_54 : decode cX9_entry 54 = .ok (.iload_n 3, 1) := by decide +kernel
theorem dX9_entry_55 : decode cX9_entry 55 = .ok (.iadd, 1) := by decide +kernel
theorem dX9_entry_56 : decode cX9_entry 56 = .ok (.istore 5, 2) := by decide +kernel
theorem dX9_entry_58 : decode cX9_entry 58 = .ok (.aload_n 0, 1) := by decide +kernel
theorem dX9_entry_59 : decode cX9_entry 59 = .ok (.getfield 12, 3) := by decide +kernel
theorem dX9_entry_62 : decode cX9_entry 62 = .ok (.getfield 120, 3) := by decide +kernel
theorem dX9_entry_65 : decode cX9_entry 65 = .ok (.iload 5, 2) := by decide +kernel
theorem dX9_entry_67 : decode cX9_entry 67 = .ok (.iaload, 1) := by decide +kernel
theorem dX9_entry_68 : decode cX9_entry 68 = .ok (.istore 6, 2) := by decide +kernel
theorem dX9_entry_70 : decode cX9_entry 70 = .ok (.aload_n 0, 1) := by decide +kernel
theorem dX9_entry_71 : decode cX9_entry 71 = .ok (.getfield 12, 3) := by decide +kernel
theorem dX9_entry_74 : decode cX9_entry 74 = .ok (.getfield 120, 3) := by decide +kernel
theorem dX9_entry_77 : decode cX9_entry 77 = .ok (.iload 5, 2) := by decide +kernel
theorem dX9_entry_79 : decode cX9_entry 79 = .ok (.iload 4, 2) := by decide +kernel
theorem dX9_entry_81 : decode cX9_entry 81 = .ok (.iastore, 1) := by decide +kernel
theorem dX9_entry_82 : decode cX9_entry 82 = .ok (.iload 6, 2) := by decide +kernel
theorem dX9_entry_84 : decode cX9_entry 84 = .ok (.ireturn, 1) := by decide +kernel
theorem dX9_set_0 : decode cX9_set 0 = .ok (.aload_n 0, 1) := by decide +kernel
theorem dX9_set_1 : decode cX9_set 1 = .ok (.getfield 12, 3) := by decide +kernel
theorem dX9_set_4 : decode cX9_set 4 = .ok (.iload_n 1, 1) := by decide +kernel
theorem dX9_set_5 : decode cX9_set 5 = .ok (.invokevirtual 114, 3) := by decide +kernel
theorem dX9_set_8 : decode cX9_set 8 = .ok (.ifCond .eq 31, 3) := by decide +kernel
theorem dX9_set_11 : decode cX9_set 11 = .ok (.iload_n 2, 1) := by decide +kernel
theorem dX9_set_12 : decode cX9_set 12 = .ok (.invokestatic 117, 3) := by decide +kernel
theorem dX9_set_15 : decode cX9_set 15 = .ok (.ifCond .eq 24, 3) := by decide +kernel
theorem dX9_set_18 : decode cX9_set 18 = .ok (.iload_n 2, 1) := by decide +kernel
theorem dX9_set_19 : decode cX9_set 19 = .ok (.ifCond .ne 13, 3) := by decide +kernel
theorem dX9_set_22 : decode cX9_set 22 = .ok (.iload_n 3, 1) := by decide +kernel
theorem dX9_set_23 : decode cX9_set 23 = .ok (.invokestatic 101, 3) := by decide +kernel
theorem dX9_set_26 : decode cX9_set 26 = .ok (.ifCond .eq 13, 3) := by decide +kernel
theorem dX9_set_29 : decode cX9_set 29 = .ok (.goto 13, 3) := by decide +kernel
theorem dX9_set_32 : decode cX9_set 32 = .ok (.iload_n 3, 1) := by decide +kernel
theorem dX9_set_33 : decode cX9_set 33 = .ok (.invokestatic 104, 3) := by decide +kernel
theorem dX9_set_36 : decode cX9_set 36 = .ok (.ifCond .ne 6, 3) := by decide +kernel
theorem dX9_set_39 : decode cX9_set 39 = .ok (.bipush (-2), 2) := by decide +kernel
theorem dX9_set_41 : decode cX9_set 41 = .ok (.ireturn, 1) := by decide +kernel
theorem dX9_set_42 : decode cX9_set 42 = .ok (.iload_n 2, 1) := by decide +kernel
theorem dX9_set_43 : decode cX9_set 43 = .ok (.ifCond .ne 13, 3) := by decide +kernel
theorem dX9_set_46 : decode cX9_set 46 = .ok (.aload_n 0, 1) := by decide +kernel
theorem dX9_set_47 : decode cX9_set 47 = .ok (.getfield 12, 3) := by decide +kernel
theorem dX9_set_50 : decode cX9_set 50 = .ok (.getfield 123, 3) := by decide +kernel
theorem dX9_set_53 : decode cX9_set 53 = .ok (.goto 10, 3) := by decide +kernel
theorem dX9_set_56 : decode cX9_set 56 = .ok (.aload_n 0, 1) := by decide +kernel
theorem dX9_set_57 : decode cX9_set 57 = .ok (.getfield 12, 3) := by decide +kernel
theorem dX9_set_60 : decode cX9_set 60 = .ok (.getfield 126, 3) := by decide +kernel
theorem dX9_set_63 : decode cX9_set 63 = .ok (.astore 4, 2) := by decide +kernel
theorem dX9_set_65 : decode cX9_set 65 = .ok (.aload 4, 2) := by decide +kernel
theorem dX9_set_67 : decode cX9_set 67 = .ok (.iload_n 1, 1) := by decide +kernel
theorem dX9_set_68 : decode cX9_set 68 = .ok (.iaload, 1) := by decide +kernel
theorem dX9_set_69 : decode cX9_set 69 = .ok (.istore 5, 2) := by decide +kernel
theorem dX9_set_71 : decode cX9_set 71 = .ok (.aload 4, 2) := by decide +kernel
theorem dX9_set_73 : decode cX9_set 73 = .ok (.iload_n 1, 1) := by decide +kernel
theorem dX9_set_74 : decode cX9_set 74 = .ok (.iload_n 3, 1) := by decide +kernel
theorem dX9_set_75 : decode cX9_set 75 = .ok (.iastore, 1) := by decide +kernel
theorem dX9_set_76 : decode cX9_set 76 = .ok (.iload 5, 2) := by decide +kernel
theorem dX9_set_78 : decode cX9_set 78 = .ok (.ireturn, 1) := by decide +kernel
theorem dX9_told_0 : decode cX9_told 0 = .ok (.aload_n 0, 1) := by decide +kernel
theorem dX9_told_1 : decode cX9_told 1 = .ok (.getfield 12, 3) := by decide +kernel
theorem dX9_told_4 : decode cX9_told 4 = .ok (.iload_n 1, 1) := by decide +kernel
theorem dX9_told_5 : decode cX9_told 5 = .ok (.invokevirtual 114, 3) := by decide +kernel
theorem dX9_told_8 : decode cX9_told 8 = .ok (.ifCond .ne 6, 3) := by decide +kernel
theorem dX9_told_11 : decode cX9_told 11 = .ok (.bipush (-2), 2) := by decide +kernel
theorem dX9_told_13 : decode cX9_told 13 = .ok (.ireturn, 1) := by decide +kernel
theorem dX9_told_14 : decode cX9_told 14 = .ok (.iload_n 2, 1) := by decide +kernel
theorem dX9_told_15 : decode cX9_told 15 = .ok (.tableswitch 120 0 4 #[33, 43, 53, 62, 97], 33) := by decide +kernel
theorem dX9_told_48 : decode cX9_told 48 = .ok (.aload_n 0, 1) := by decide +kernel
theorem dX9_told_49 : decode cX9_told 49 = .ok (.getfield 12, 3) := by decide +kernel
theorem dX9_told_52 : decode cX9_told 52 = .ok (.getfield 123, 3) := by decide +kernel
theorem dX9_told_55 : decode cX9_told 55 = .ok (.iload_n 1, 1) := by decide +kernel
theorem dX9_told_56 : decode cX9_told 56 = .ok (.iaload, 1) := by decide +kernel
theorem dX9_told_57 : decode cX9_told 57 = .ok (.ireturn, 1) := by decide +kernel
theorem dX9_told_58 : decode cX9_told 58 = .ok (.aload_n 0, 1) := by decide +kernel
theorem dX9_told_59 : decode cX9_told 59 = .ok (.getfield 12, 3) := by decide +kernel
theorem dX9_told_62 : decode cX9_told 62 = .ok (.getfield 126, 3) := by decide +kernel
theorem dX9_told_65 : decode cX9_told 65 = .ok (.iload_n 1, 1) := by decide +kernel
theorem dX9_told_66 : decode cX9_told 66 = .ok (.iaload, 1) := by decide +kernel
theorem dX9_told_67 : decode cX9_told 67 = .ok (.ireturn, 1) := by decide +kernel
theorem dX9_told_68 : decode cX9_told 68 = .ok (.aload_n 0, 1) := by decide +kernel
theorem dX9_told_69 : decode cX9_told 69 = .ok (.getfield 12, 3) := by decide +kernel
theorem dX9_told_72 : decode cX9_told 72 = .ok (.iload_n 1, 1) := by decide +kernel
theorem dX9_told_73 : decode cX9_told 73 = .ok (.invokevirtual 129, 3) := by decide +kernel
theorem dX9_told_76 : decode cX9_told 76 = .ok (.ireturn, 1) := by decide +kernel
theorem dX9_told_77 : decode cX9_told 77 = .ok (.aload_n 0, 1) := by decide +kernel
theorem dX9_told_78 : decode cX9_told 78 = .ok (.getfield 12, 3) := by decide +kernel
theorem dX9_told_81 : decode cX9_told 81 = .ok (.getfield 133, 3) := by decide +kernel
theorem dX9_told_84 : decode cX9_told 84 = .ok (.iload_n 1, 1) := by decide +kernel
theorem dX9_told_85 : decode cX9_told 85 = .ok (.laload, 1) := by decide +kernel
theorem dX9_told_86 : decode cX9_told 86 = .ok (.lconst 0, 1) := by decide +kernel
theorem dX9_told_87 : decode cX9_told 87 = .ok (.lcmp, 1) := by decide +kernel
theorem dX9_told_88 : decode cX9_told 88 = .ok (.ifCond .ne 7, 3) := by decide +kernel
theorem dX9_told_91 : decode cX9_told 91 = .ok (.iconst (-1), 1) := by decide +kernel
theorem dX9_told_92 : decode cX9_told 92 = .ok (.goto 19, 3) := by decide +kernel
theorem dX9_told_95 : decode cX9_told 95 = .ok (.aload_n 0, 1) := by decide +kernel
theorem dX9_told_96 : decode cX9_told 96 = .ok (.getfield 12, 3) := by decide +kernel
theorem dX9_told_99 : decode cX9_told 99 = .ok (.aload_n 0, 1) := by decide +kernel
theorem dX9_told_100 : decode cX9_told 100 = .ok (.getfield 12, 3) := by decide +kernel
theorem dX9_told_103 : decode cX9_told 103 = .ok (.getfield 133, 3) := by decide +kernel
theorem dX9_told_106 : decode cX9_told 106 = .ok (.iload_n 1, 1) := by decide +kernel
theorem dX9_told_107 : decode cX9_told 107 = .ok (.laload, 1) := by decide +kernel
theorem dX9_told_108 : decode cX9_told 108 = .ok (.invokevirtual 137, 3) := by decide +kernel
theorem dX9_told_111 : decode cX9_told 111 = .ok (.ireturn, 1) := by decide +kernel
theorem dX9_told_112 : decode cX9_told 112 = .ok (.aload_n 0, 1) := by decide +kernel
theorem dX9_told_113 : decode cX9_told 113 = .ok (.getfield 26, 3) := by decide +kernel
theorem dX9_told_116 : decode cX9_told 116 = .ok (.aload_n 0, 1) := by decide +kernel
theorem dX9_told_117 : decode cX9_told 117 = .ok (.getfield 12, 3) := by decide +kernel
theorem dX9_told_120 : decode cX9_told 120 = .ok (.invokevirtual 141, 3) := by decide +kernel
theorem dX9_told_123 : decode cX9_told 123 = .ok (.aload_n 0, 1) := by decide +kernel
theorem dX9_told_124 : decode cX9_told 124 = .ok (.getfield 26, 3) := by decide +kernel
theorem dX9_told_127 : decode cX9_told 127 = .ok (.iconst 1, 1) := by decide +kernel
theorem dX9_told_128 : decode cX9_told 128 = .ok (.iload_n 1, 1) := by decide +kernel
theorem dX9_told_129 : decode cX9_told 129 = .ok (.ishl, 1) := by decide +kernel
theorem dX9_told_130 : decode cX9_told 130 = .ok (.iconst 0, 1) := by decide +kernel
theorem dX9_told_131 : decode cX9_told 131 = .ok (.invokevirtual 145, 3) := by decide +kernel
theorem dX9_told_134 : decode cX9_told 134 = .ok (.ireturn, 1) := by decide +kernel
theorem dX9_told_135 : decode cX9_told 135 = .ok (.bipush (-2), 2) := by decide +kernel
theorem dX9_told_137 : decode cX9_told 137 = .ok (.ireturn, 1) := by decide +kernel
theorem dX9_number_0 : decode cX9_number 0 = .ok (.aload_n 0, 1) := by decide +kernel
theorem dX9_number_1 : decode cX9_number 1 = .ok (.getfield 12, 3) := by decide +kernel
theorem dX9_number_4 : decode cX9_number 4 = .ok (.iload_n 1, 1) := by decide +kernel
theorem dX9_number_5 : decode cX9_number 5 = .ok (.invokevirtual 114, 3) := by decide +kernel
theorem dX9_number_8 : decode cX9_number 8 = .ok (.ifCond .eq 25, 3) := by decide +kernel
theorem dX9_number_11 : decode cX9_number 11 = .ok (.iload_n 2, 1) := by decide +kernel
theorem dX9_number_12 : decode cX9_number 12 = .ok (.invokestatic 117, 3) := by decide +kernel
theorem dX9_number_15 : decode cX9_number 15 = .ok (.ifCond .eq 18, 3) := by decide +kernel
theorem dX9_number_18 : decode cX9_number 18 = .ok (.iload_n 3, 1) := by decide +kernel
theorem dX9_number_19 : decode cX9_number 19 = .ok (.ifCond .lt 14, 3) := by decide +kernel
theorem dX9_number_22 : decode cX9_number 22 = .ok (.iload_n 3, 1) := by decide +kernel
theorem dX9_number_23 : decode cX9_number 23 = .ok (.aload_n 0, 1) := by decide +kernel
theorem dX9_number_24 : decode cX9_number 24 = .ok (.getfield 12, 3) := by decide +kernel
theorem dX9_number_27 : decode cX9_number 27 = .ok (.getfield 90, 3) := by decide +kernel
theorem dX9_number_30 : decode cX9_number 30 = .ok (.if_icmp .lt 6, 3) := by decide +kernel
theorem dX9_number_33 : decode cX9_number 33 = .ok (.bipush (-2), 2) := by decide +kernel
theorem dX9_number_35 : decode cX9_number 35 = .ok (.ireturn, 1) := by decide +kernel
theorem dX9_number_36 : decode cX9_number 36 = .ok (.aload_n 0, 1) := by decide +kernel
theorem dX9_number_37 : decode cX9_number 37 = .ok (.getfield 12, 3) := by decide +kernel
theorem dX9_number_40 : decode cX9_number 40 = .ok (.iload_n 1, 1) := by decide +kernel
theorem dX9_number_41 : decode cX9_number 41 = .ok (.iload_n 2, 1) := by decide +kernel
theorem dX9_number_42 : decode cX9_number 42 = .ok (.iload_n 3, 1) := by decide +kernel
theorem dX9_number_43 : decode cX9_number 43 = .ok (.invokevirtual 148, 3) := by decide +kernel
theorem dX9_number_46 : decode cX9_number 46 = .ok (.ireturn, 1) := by decide +kernel
theorem dX9_drop_0 : decode cX9_drop 0 = .ok (.aload_n 0, 1) := by decide +kernel
theorem dX9_drop_1 : decode cX9_drop 1 = .ok (.getfield 12, 3) := by decide +kernel
theorem dX9_drop_4 : decode cX9_drop 4 = .ok (.getfield 107, 3) := by decide +kernel
theorem dX9_drop_7 : decode cX9_drop 7 = .ok (.ifCond .ne 6, 3) := by decide +kernel
theorem dX9_drop_10 : decode cX9_drop 10 = .ok (.bipush (-3), 2) := by decide +kernel
theorem dX9_drop_12 : decode cX9_drop 12 = .ok (.ireturn, 1) := by decide +kernel
theorem dX9_drop_13 : decode cX9_drop 13 = .ok (.aload_n 0, 1) := by decide +kernel
theorem dX9_drop_14 : decode cX9_drop 14 = .ok (.getfield 12, 3) := by decide +kernel
theorem dX9_drop_17 : decode cX9_drop 17 = .ok (.dup, 1) := by decide +kernel
theorem dX9_drop_18 : decode cX9_drop 18 = .ok (.getfield 107, 3) := by decide +kernel
theorem dX9_drop_21 : decode cX9_drop 21 = .ok (.iconst 1, 1) := by decide +kernel
theorem dX9_drop_22 : decode cX9_drop 22 = .ok (.isub, 1) := by decide +kernel
theorem dX9_drop_23 : decode cX9_drop 23 = .ok (.putfield 107, 3) := by decide +kernel
theorem dX9_drop_26 : decode cX9_drop 26 = .ok (.aload_n 0, 1) := by decide +kernel
theorem dX9_drop_27 : decode cX9_drop 27 = .ok (.getfield 12, 3) := by decide +kernel
theorem dX9_drop_30 : decode cX9_drop 30 = .ok (.getfield 107, 3) := by decide +kernel
theorem dX9_drop_33 : decode cX9_drop 33 = .ok (.ireturn, 1) := by decide +kernel
theorem dX9_name_0 : decode cX9_name 0 = .ok (.aload_n 0, 1) := by decide +kernel
theorem dX9_name_1 : decode cX9_name 1 = .ok (.getfield 12, 3) := by decide +kernel
theorem dX9_name_4 : decode cX9_name 4 = .ok (.iload_n 1, 1) := by decide +kernel
theorem dX9_name_5 : decode cX9_name 5 = .ok (.invokevirtual 114, 3) := by decide +kernel
theorem dX9_name_8 : decode cX9_name 8 = .ok (.ifCond .eq 10, 3) := by decide +kernel
theorem dX9_name_11 : decode cX9_name 11 = .ok (.lload_n 2, 1) := by decide +kernel
theorem dX9_name_12 : decode cX9_name 12 = .ok (.invokestatic 151, 3) := by decide +kernel
theorem dX9_name_15 : decode cX9_name 15 = .ok (.ifCond .ne 6, 3) := by decide +kernel
theorem dX9_name_18 : decode cX9_name 18 = .ok (.bipush (-2), 2) := by decide +kernel
theorem dX9_name_20 : decode cX9_name 20 = .ok (.ireturn, 1) := by decide +kernel
theorem dX9_name_21 : decode cX9_name 21 = .ok (.aload_n 0, 1) := by decide +kernel
theorem dX9_name_22 : decode cX9_name 22 = .ok (.getfield 12, 3) := by decide +kernel
theorem dX9_name_25 : decode cX9_name 25 = .ok (.lload_n 2, 1) := by decide +kernel
theorem dX9_name_26 : decode cX9_name 26 = .ok (.invokevirtual 155, 3) := by decide +kernel
theorem dX9_name_29 : decode cX9_name 29 = .ok (.istore 4, 2) := by decide +kernel
theorem dX9_name_31 : decode cX9_name 31 = .ok (.iload 4, 2) := by decide +kernel
theorem dX9_name_33 : decode cX9_name 33 = .ok (.iconst (-1), 1) := by decide +kernel
theorem dX9_name_34 : decode cX9_name 34 = .ok (.if_icmp .eq 12, 3) := by decide +kernel
theorem dX9_name_37 : decode cX9_name 37 = .ok (.iload 4, 2) := by decide +kernel
theorem dX9_name_39 : decode cX9_name 39 = .ok (.iload_n 1, 1) := by decide +kernel
theorem dX9_name_40 : decode cX9_name 40 = .ok (.if_icmp .eq 6, 3) := by decide +kernel
theorem dX9_name_43 : decode cX9_name 43 = .ok (.bipush (-3), 2) := by decide +kernel
theorem dX9_name_45 : decode cX9_name 45 = .ok (.ireturn, 1) := by decide +kernel
theorem dX9_name_46 : decode cX9_name 46 = .ok (.aload_n 0, 1) := by decide +kernel
theorem dX9_name_47 : decode cX9_name 47 = .ok (.getfield 12, 3) := by decide +kernel
theorem dX9_name_50 : decode cX9_name 50 = .ok (.getfield 133, 3) := by decide +kernel
theorem dX9_name_53 : decode cX9_name 53 = .ok (.iload_n 1, 1) := by decide +kernel
theorem dX9_name_54 : decode cX9_name 54 = .ok (.lload_n 2, 1) := by decide +kernel
theorem dX9_name_55 : decode cX9_name 55 = .ok (.lastore, 1) := by decide +kernel
theorem dX9_name_56 : decode cX9_name 56 = .ok (.iconst 1, 1) := by decide +kernel
theorem dX9_name_57 : decode cX9_name 57 = .ok (.ireturn, 1) := by decide +kernel
theorem dX9_named_0 : decode cX9_named 0 = .ok (.lload_n 1, 1) := by decide +kernel
theorem dX9_named_1 : decode cX9_named 1 = .ok (.invokestatic 151, 3) := by decide +kernel
theorem dX9_named_4 : decode cX9_named 4 = .ok (.ifCond .eq 14, 3) := by decide +kernel
theorem dX9_named_7 : decode cX9_named 7 = .ok (.aload_n 0, 1) := by decide +kernel
theorem dX9_named_8 : decode cX9_named 8 = .ok (.getfield 12, 3) := by decide +kernel
theorem dX9_named_11 : decode cX9_named 11 = .ok (.lload_n 1, 1) := by decide +kernel
theorem dX9_named_12 : decode cX9_named 12 = .ok (.invokevirtual 155, 3) := by decide +kernel
theorem dX9_named_15 : decode cX9_named 15 = .ok (.goto 5, 3) := by decide +kernel
theorem dX9_named_18 : decode cX9_named 18 = .ok (.bipush (-2), 2) := by decide +kernel
theorem dX9_named_20 : decode cX9_named 20 = .ok (.ireturn, 1) := by decide +kernel
theorem dX9_unname_0 : decode cX9_unname 0 = .ok (.aload_n 0, 1) := by decide +kernel
theorem dX9_unname_1 : decode cX9_unname 1 = .ok (.getfield 12, 3) := by decide +kernel
theorem dX9_unname_4 : decode cX9_unname 4 = .ok (.iload_n 1, 1) := by decide +kernel
theorem dX9_unname_5 : decode cX9_unname 5 = .ok (.invokevirtual 114, 3) := by decide +kernel
theorem dX9_unname_8 : decode cX9_unname 8 = .ok (.ifCond .ne 6, 3) := by decide +kernel
theorem dX9_unname_11 : decode cX9_unname 11 = .ok (.bipush (-2), 2) := by decide +kernel
theorem dX9_unname_13 : decode cX9_unname 13 = .ok (.ireturn, 1) := by decide +kernel
theorem dX9_unname_14 : decode cX9_unname 14 = .ok (.aload_n 0, 1) := by decide +kernel
theorem dX9_unname_15 : decode cX9_unname 15 = .ok (.getfield 12, 3) := by decide +kernel
theorem dX9_unname_18 : decode cX9_unname 18 = .ok (.getfield 133, 3) := by decide +kernel
theorem dX9_unname_21 : decode cX9_unname 21 = .ok (.iload_n 1, 1) := by decide +kernel
theorem dX9_unname_22 : decode cX9_unname 22 = .ok (.laload, 1) := by decide +kernel
theorem dX9_unname_23 : decode cX9_unname 23 = .ok (.lconst 0, 1) := by decide +kernel
theorem dX9_unname_24 : decode cX9_unname 24 = .ok (.lcmp, 1) := by decide +kernel
theorem dX9_unname_25 : decode cX9_unname 25 = .ok (.ifCond .ne 7, 3) := by decide +kernel
theorem dX9_unname_28 : decode cX9_unname 28 = .ok (.iconst 0, 1) := by decide +kernel
theorem dX9_unname_29 : decode cX9_unname 29 = .ok (.goto 4, 3) := by decide +kernel
theorem dX9_unname_32 : decode cX9_unname 32 = .ok (.iconst 1, 1) := by decide +kernel
theorem dX9_unname_33 : decode cX9_unname 33 = .ok (.istore_n 2, 1) := by decide +kernel
theorem dX9_unname_34 : decode cX9_unname 34 = .ok (.aload_n 0, 1) := by decide +kernel
theorem dX9_unname_35 : decode cX9_unname 35 = .ok (.getfield 12, 3) := by decide +kernel
theorem dX9_unname_38 : decode cX9_unname 38 = .ok (.getfield 133, 3) := by decide +kernel
theorem dX9_unname_41 : decode cX9_unname 41 = .ok (.iload_n 1, 1) := by decide +kernel
theorem dX9_unname_42 : decode cX9_unname 42 = .ok (.lconst 0, 1) := by decide +kernel
theorem dX9_unname_43 : decode cX9_unname 43 = .ok (.lastore, 1) := by decide +kernel
theorem dX9_unname_44 : decode cX9_unname 44 = .ok (.iload_n 2, 1) := by decide +kernel
theorem dX9_unname_45 : decode cX9_unname 45 = .ok (.ireturn, 1) := by decide +kernel
theorem dX9_nameAt_0 : decode cX9_nameAt 0 = .ok (.iconst 0, 1) := by decide +kernel
theorem dX9_nameAt_1 : decode cX9_nameAt 1 = .ok (.istore_n 2, 1) := by decide +kernel
theorem dX9_nameAt_2 : decode cX9_nameAt 2 = .ok (.iload_n 2, 1) := by decide +kernel
theorem dX9_nameAt_3 : decode cX9_nameAt 3 = .ok (.aload_n 0, 1) := by decide +kernel
theorem dX9_nameAt_4 : decode cX9_nameAt 4 = .ok (.getfield 12, 3) := by decide +kernel
theorem dX9_nameAt_7 : decode cX9_nameAt 7 = .ok (.getfield 107, 3) := by decide +kernel
theorem dX9_nameAt_10 : decode cX9_nameAt 10 = .ok (.if_icmp .ge 39, 3) := by decide +kernel
theorem dX9_nameAt_13 : decode cX9_nameAt 13 = .ok (.aload_n 0, 1) := by decide +kernel
theorem dX9_nameAt_14 : decode cX9_nameAt 14 = .ok (.getfield 12, 3) := by decide +kernel
theorem dX9_nameAt_17 : decode cX9_nameAt 17 = .ok (.getfield 133, 3) := by decide +kernel
theorem dX9_nameAt_20 : decode cX9_nameAt 20 = .ok (.iload_n 2, 1) := by decide +kernel
theorem dX9_nameAt_21 : decode cX9_nameAt 21 = .ok (.laload, 1) := by decide +kernel
theorem dX9_nameAt_22 : decode cX9_nameAt 22 = .ok (.lstore_n 3, 1) := by decide +kernel
theorem dX9_nameAt_23 : decode cX9_nameAt 23 = .ok (.lload_n 3, 1) := by decide +kernel
theorem dX9_nameAt_24 : decode cX9_nameAt 24 = .ok (.lconst 0, 1) := by decide +kernel
theorem dX9_nameAt_25 : decode cX9_nameAt 25 = .ok (.lcmp, 1) := by decide +kernel
theorem dX9_nameAt_26 : decode cX9_nameAt 26 = .ok (.ifCond .eq 17, 3) := by decide +kernel
theorem dX9_nameAt_29 : decode cX9_nameAt 29 = .ok (.aload_n 0, 1) := by decide +kernel
theorem dX9_nameAt_30 : decode cX9_nameAt 30 = .ok (.getfield 12, 3) := by decide +kernel
theorem dX9_nameAt_33 : decode cX9_nameAt 33 = .ok (.lload_n 3, 1) := by decide +kernel
theorem dX9_nameAt_34 : decode cX9_nameAt 34 = .ok (.invokevirtual 137, 3) := by decide +kernel
theorem dX9_nameAt_37 : decode cX9_nameAt 37 = .ok (.iload_n 1, 1) := by decide +kernel
theorem dX9_nameAt_38 : decode cX9_nameAt 38 = .ok (.if_icmp .ne 5, 3) := by decide +kernel
theorem dX9_nameAt_41 : decode cX9_nameAt 41 = .ok (.lload_n 3, 1) := by decide +kernel
theorem dX9_nameAt_42 : decode cX9_nameAt 42 = .ok (.lreturn, 1) := by decide +kernel
theorem dX9_nameAt_43 : decode cX9_nameAt 43 = .ok (.iinc 2 1, 3) := by decide +kernel
theorem dX9_nameAt_46 : decode cX9_nameAt 46 = .ok (.goto (-44), 3) := by decide +kernel
theorem dX9_nameAt_49 : decode cX9_nameAt 49 = .ok (.ldc2_w 158, 3) := by decide +kernel
theorem dX9_nameAt_52 : decode cX9_nameAt 52 = .ok (.lreturn, 1) := by decide +kernel
theorem dX9_rank_0 : decode cX9_rank 0 = .ok (.aload_n 0, 1) := by decide +kernel
theorem dX9_rank_1 : decode cX9_rank 1 = .ok (.getfield 12, 3) := by decide +kernel
theorem dX9_rank_4 : decode cX9_rank 4 = .ok (.iload_n 1, 1) := by decide +kernel
theorem dX9_rank_5 : decode cX9_rank 5 = .ok (.invokevirtual 160, 3) := by decide +kernel
theorem dX9_rank_8 : decode cX9_rank 8 = .ok (.ifCond .ne 6, 3) := by decide +kernel
theorem dX9_rank_11 : decode cX9_rank 11 = .ok (.bipush (-2), 2) := by decide +kernel
theorem dX9_rank_13 : decode cX9_rank 13 = .ok (.ireturn, 1) := by decide +kernel
theorem dX9_rank_14 : decode cX9_rank 14 = .ok (.aload_n 0, 1) := by decide +kernel
theorem dX9_rank_15 : decode cX9_rank 15 = .ok (.getfield 26, 3) := by decide +kernel
theorem dX9_rank_18 : decode cX9_rank 18 = .ok (.aload_n 0, 1) := by decide +kernel
theorem dX9_rank_19 : decode cX9_rank 19 = .ok (.getfield 12, 3) := by decide +kernel
theorem dX9_rank_22 : decode cX9_rank 22 = .ok (.invokevirtual 141, 3) := by decide +kernel
theorem dX9_rank_25 : decode cX9_rank 25 = .ok (.aload_n 0, 1) := by decide +kernel
theorem dX9_rank_26 : decode cX9_rank 26 = .ok (.getfield 26, 3) := by decide +kernel
theorem dX9_rank_29 : decode cX9_rank 29 = .ok (.iload_n 1, 1) := by decide +kernel
theorem dX9_rank_30 : decode cX9_rank 30 = .ok (.iconst 0, 1) := by decide +kernel
theorem dX9_rank_31 : decode cX9_rank 31 = .ok (.invokevirtual 145, 3) := by decide +kernel
theorem dX9_rank_34 : decode cX9_rank 34 = .ok (.ireturn, 1) := by decide +kernel
theorem dX9_stands_0 : decode cX9_stands 0 = .ok (.aload_n 0, 1) := by decide +kernel
theorem dX9_stands_1 : decode cX9_stands 1 = .ok (.getfield 12, 3) := by decide +kernel
theorem dX9_stands_4 : decode cX9_stands 4 = .ok (.iload_n 1, 1) := by decide +kernel
theorem dX9_stands_5 : decode cX9_stands 5 = .ok (.invokevirtual 160, 3) := by decide +kernel
theorem dX9_stands_8 : decode cX9_stands 8 = .ok (.ifCond .ne 6, 3) := by decide +kernel
theorem dX9_stands_11 : decode cX9_stands 11 = .ok (.bipush (-2), 2) := by decide +kernel
theorem dX9_stands_13 : decode cX9_stands 13 = .ok (.ireturn, 1) := by decide +kernel
theorem dX9_stands_14 : decode cX9_stands 14 = .ok (.aload_n 0, 1) := by decide +kernel
theorem dX9_stands_15 : decode cX9_stands 15 = .ok (.getfield 26, 3) := by decide +kernel
theorem dX9_stands_18 : decode cX9_stands 18 = .ok (.aload_n 0, 1) := by decide +kernel
theorem dX9_stands_19 : decode cX9_stands 19 = .ok (.getfield 12, 3) := by decide +kernel
theorem dX9_stands_22 : decode cX9_stands 22 = .ok (.invokevirtual 141, 3) := by decide +kernel
theorem dX9_stands_25 : decode cX9_stands 25 = .ok (.aload_n 0, 1) := by decide +kernel
theorem dX9_stands_26 : decode cX9_stands 26 = .ok (.getfield 26, 3) := by decide +kernel
theorem dX9_stands_29 : decode cX9_stands 29 = .ok (.iload_n 1, 1) := by decide +kernel
theorem dX9_stands_30 : decode cX9_stands 30 = .ok (.invokevirtual 163, 3) := by decide +kernel
theorem dX9_stands_33 : decode cX9_stands 33 = .ok (.ifCond .eq 7, 3) := by decide +kernel
theorem dX9_stands_36 : decode cX9_stands 36 = .ok (.iconst 1, 1) := by decide +kernel
theorem dX9_stands_37 : decode cX9_stands 37 = .ok (.goto 4, 3) := by decide +kernel
theorem dX9_stands_40 : decode cX9_stands 40 = .ok (.iconst 0, 1) := by decide +kernel
theorem dX9_stands_41 : decode cX9_stands 41 = .ok (.ireturn, 1) := by decide +kernel
theorem dX9_most_0 : decode cX9_most 0 = .ok (.aload_n 0, 1) := by decide +kernel
theorem dX9_most_1 : decode cX9_most 1 = .ok (.invokevirtual 166, 3) := by decide +kernel
theorem dX9_most_4 : decode cX9_most 4 = .ok (.aload_n 0, 1) := by decide +kernel
theorem dX9_most_5 : decode cX9_most 5 = .ok (.getfield 33, 3) := by decide +kernel
theorem dX9_most_8 : decode cX9_most 8 = .ok (.invokevirtual 169, 3) := by decide +kernel
theorem dX9_most_11 : decode cX9_most 11 = .ok (.ireturn, 1) := by decide +kernel
theorem dX9_best_0 : decode cX9_best 0 = .ok (.iload_n 1, 1) := by decide +kernel
theorem dX9_best_1 : decode cX9_best 1 = .ok (.ifCond .lt 8, 3) := by decide +kernel
theorem dX9_best_4 : decode cX9_best 4 = .ok (.iload_n 1, 1) := by decide +kernel
theorem dX9_best_5 : decode cX9_best 5 = .ok (.iconst 3, 1) := by decide +kernel
theorem dX9_best_6 : decode cX9_best 6 = .ok (.if_icmp .le 6, 3) := by decide +kernel
theorem dX9_best_9 : decode cX9_best 9 = .ok (.bipush (-2), 2) := by decide +kernel
theorem dX9_best_11 : decode cX9_best 11 = .ok (.ireturn, 1) := by decide +kernel
theorem dX9_best_12 : decode cX9_best 12 = .ok (.aload_n 0, 1) := by decide +kernel
theorem dX9_best_13 : decode cX9_best 13 = .ok (.invokevirtual 166, 3) := by decide +kernel
theorem dX9_best_16 : decode cX9_best 16 = .ok (.aload_n 0, 1) := by decide +kernel
theorem dX9_best_17 : decode cX9_best 17 = .ok (.getfield 33, 3) := by decide +kernel
theorem dX9_best_20 : decode cX9_best 20 = .ok (.invokevirtual 169, 3) := by decide +kernel
theorem dX9_best_23 : decode cX9_best 23 = .ok (.istore_n 2, 1) := by decide +kernel
theorem dX9_best_24 : decode cX9_best 24 = .ok (.iconst 0, 1) := by decide +kernel
theorem dX9_best_25 : decode cX9_best 25 = .ok (.istore_n 3, 1) := by decide +kernel
theorem dX9_best_26 : decode cX9_best 26 = .ok (.iconst 0, 1) := by decide +kernel
theorem dX9_best_27 : decode cX9_best 27 = .ok (.istore 4, 2) := by decide +kernel
theorem dX9_best_29 : decode cX9_best 29 = .ok (.aload_n 0, 1) := by decide +kernel
theorem dX9_best_30 : decode cX9_best 30 = .ok (.getfield 33, 3) := by decide +kernel
theorem dX9_best_33 : decode cX9_best 33 = .ok (.getfield 173, 3) := by decide +kernel
theorem dX9_best_36 : decode cX9_best 36 = .ok (.iconst 1, 1) := by decide +kernel
theorem dX9_best_37 : decode cX9_best 37 = .ok (.isub, 1) := by decide +kernel
theorem dX9_best_38 : decode cX9_best 38 = .ok (.istore 5, 2) := by decide +kernel
theorem dX9_best_40 : decode cX9_best 40 = .ok (.iconst 0, 1) := by decide +kernel
theorem dX9_best_41 : decode cX9_best 41 = .ok (.istore 6, 2) := by decide +kernel
theorem dX9_best_43 : decode cX9_best 43 = .ok (.aload_n 0, 1) := by decide +kernel
theorem dX9_best_44 : decode cX9_best 44 = .ok (.getfield 33, 3) := by decide +kernel
theorem dX9_best_47 : decode cX9_best 47 = .ok (.getfield 173, 3) := by decide +kernel
theorem dX9_best_50 : decode cX9_best 50 = .ok (.iconst 1, 1) := by decide +kernel
theorem dX9_best_51 : decode cX9_best 51 = .ok (.isub, 1) := by decide +kernel
theorem dX9_best_52 : decode cX9_best 52 = .ok (.istore 7, 2) := by decide +kernel
theorem dX9_best_54 : decode cX9_best 54 = .ok (.iload 7, 2) := by decide +kernel
theorem dX9_best_56 : decode cX9_best 56 = .ok (.ifCond .lt 51, 3) := by decide +kernel
theorem dX9_best_59 : decode cX9_best 59 = .ok (.aload_n 0, 1) := by decide +kernel
theorem dX9_best_60 : decode cX9_best 60 = .ok (.getfield 33, 3) := by decide +kernel
theorem dX9_best_63 : decode cX9_best 63 = .ok (.getfield 176, 3) := by decide +kernel
theorem dX9_best_66 : decode cX9_best 66 = .ok (.iload 7, 2) := by decide +kernel
theorem dX9_best_68 : decode cX9_best 68 = .ok (.baload, 1) := by decide +kernel
theorem dX9_best_69 : decode cX9_best 69 = .ok (.ifCond .eq 32, 3) := by decide +kernel
theorem dX9_best_72 : decode cX9_best 72 = .ok (.iload 7, 2) := by decide +kernel
theorem dX9_best_74 : decode cX9_best 74 = .ok (.invokestatic 180, 3) := by decide +kernel
theorem dX9_best_77 : decode cX9_best 77 = .ok (.iload_n 2, 1) := by decide +kernel
theorem dX9_best_78 : decode cX9_best 78 = .ok (.if_icmp .ne 23, 3) := by decide +kernel
theorem dX9_best_81 : decode cX9_best 81 = .ok (.iload 7, 2) := by decide +kernel
theorem dX9_best_83 : decode cX9_best 83 = .ok (.istore_n 3, 1) := by decide +kernel
theorem dX9_best_84 : decode cX9_best 84 = .ok (.iinc 4 1, 3) := by decide +kernel
theorem dX9_best_87 : decode cX9_best 87 = .ok (.iload 5, 2) := by decide +kernel
theorem dX9_best_89 : decode cX9_best 89 = .ok (.iload 7, 2) := by decide +kernel
theorem dX9_best_91 : decode cX9_best 91 = .ok (.iand, 1) := by decide +kernel
theorem dX9_best_92 : decode cX9_best 92 = .ok (.istore 5, 2) := by decide +kernel
theorem dX9_best_94 : decode cX9_best 94 = .ok (.iload 6, 2) := by decide +kernel
theorem dX9_best_96 : decode cX9_best 96 = .ok (.iload 7, 2) := by decide +kernel
theorem dX9_best_98 : decode cX9_best 98 = .ok (.ior, 1) := by decide +kernel
theorem dX9_best_99 : decode cX9_best 99 = .ok (.istore 6, 2) := by decide +kernel
theorem dX9_best_101 : decode cX9_best 101 = .ok (.iinc 7 (-1), 3) := by decide +kernel
theorem dX9_best_104 : decode cX9_best 104 = .ok (.goto (-50), 3) := by decide +kernel
theorem dX9_best_107 : decode cX9_best 107 = .ok (.iload_n 1, 1) := by decide +kernel
theorem dX9_best_108 : decode cX9_best 108 = .ok (.tableswitch 36 0 2 #[28, 30, 33], 28) := by decide +kernel
theorem dX9_best_136 : decode cX9_best 136 = .ok (.iload_n 3, 1) := by decide +kernel
theorem dX9_best_137 : decode cX9_best 137 = .ok (.ireturn, 1) := by decide +kernel
theorem dX9_best_138 : decode cX9_best 138 = .ok (.iload 4, 2) := by decide +kernel
theorem dX9_best_140 : decode cX9_best 140 = .ok (.ireturn, 1) := by decide +kernel
theorem dX9_best_141 : decode cX9_best 141 = .ok (.iload 5, 2) := by decide +kernel
theorem dX9_best_143 : decode cX9_best 143 = .ok (.ireturn, 1) := by decide +kernel
theorem dX9_best_144 : decode cX9_best 144 = .ok (.iload 6, 2) := by decide +kernel
theorem dX9_best_146 : decode cX9_best 146 = .ok (.ireturn, 1) := by decide +kernel
theorem dX9_heavy_0 : decode cX9_heavy 0 = .ok (.iload_n 1, 1) := by decide +kernel
theorem dX9_heavy_1 : decode cX9_heavy 1 = .ok (.invokestatic 117, 3) := by decide +kernel
theorem dX9_heavy_4 : decode cX9_heavy 4 = .ok (.ifCond .ne 6, 3) := by decide +kernel
theorem dX9_heavy_7 : decode cX9_heavy 7 = .ok (.bipush (-2), 2) := by decide +kernel
theorem dX9_heavy_9 : decode cX9_heavy 9 = .ok (.ireturn, 1) := by decide +kernel
theorem dX9_heavy_10 : decode cX9_heavy 10 = .ok (.aload_n 0, 1) := by decide +kernel
theorem dX9_heavy_11 : decode cX9_heavy 11 = .ok (.invokevirtual 166, 3) := by decide +kernel
theorem dX9_heavy_14 : decode cX9_heavy 14 = .ok (.iconst 0, 1) := by decide +kernel
theorem dX9_heavy_15 : decode cX9_heavy 15 = .ok (.istore_n 2, 1) := by decide +kernel
theorem dX9_heavy_16 : decode cX9_heavy 16 = .ok (.iconst 0, 1) := by decide +kernel
theorem dX9_heavy_17 : decode cX9_heavy 17 = .ok (.istore_n 3, 1) := by decide +kernel
theorem dX9_heavy_18 : decode cX9_heavy 18 = .ok (.iconst 0, 1) := by decide +kernel
theorem dX9_heavy_19 : decode cX9_heavy 19 = .ok (.istore 4, 2) := by decide +kernel
theorem dX9_heavy_21 : decode cX9_heavy 21 = .ok (.iload 4, 2) := by decide +kernel
theorem dX9_heavy_23 : decode cX9_heavy 23 = .ok (.aload_n 0, 1) := by decide +kernel
theorem dX9_heavy_24 : decode cX9_heavy 24 = .ok (.getfield 33, 3) := by decide +kernel
theorem dX9_heavy_27 : decode cX9_heavy 27 = .ok (.getfield 173, 3) := by decide +kernel
theorem dX9_heavy_30 : decode cX9_heavy 30 = .ok (.if_icmp .ge 48, 3) := by decide +kernel
theorem dX9_heavy_33 : decode cX9_heavy 33 = .ok (.aload_n 0, 1) := by decide +kernel
theorem dX9_heavy_34 : decode cX9_heavy 34 = .ok (.getfield 33, 3) := by decide +kernel
theorem dX9_heavy_37 : decode cX9_heavy 37 = .ok (.getfield 176, 3) := by decide +kernel
theorem dX9_heavy_40 : decode cX9_heavy 40 = .ok (.iload 4, 2) := by decide +kernel
theorem dX9_heavy_42 : decode cX9_heavy 42 = .ok (.baload, 1) := by decide +kernel
theorem dX9_heavy_43 : decode cX9_heavy 43 = .ok (.ifCond .eq 29, 3) := by decide +kernel
theorem dX9_heavy_46 : decode cX9_heavy 46 = .ok (.aload_n 0, 1) := by decide +kernel
theorem dX9_heavy_47 : decode cX9_heavy 47 = .ok (.getfield 12, 3) := by decide +kernel
theorem dX9_heavy_50 : decode cX9_heavy 50 = .ok (.iload 4, 2) := by decide +kernel
theorem dX9_heavy_52 : decode cX9_heavy 52 = .ok (.invokevirtual 185, 3) := by decide +kernel
theorem dX9_heavy_55 : decode cX9_heavy 55 = .ok (.iload_n 3, 1) := by decide +kernel
theorem dX9_heavy_56 : decode cX9_heavy 56 = .ok (.if_icmp .le 16, 3) := by decide +kernel
theorem dX9_heavy_59 : decode cX9_heavy 59 = .ok (.iload 4, 2) := by decide +kernel
theorem dX9_heavy_61 : decode cX9_heavy 61 = .ok (.istore_n 2, 1) := by decide +kernel
theorem dX9_heavy_62 : decode cX9_heavy 62 = .ok (.aload_n 0, 1) := by decide +kernel
theorem dX9_heavy_63 : decode cX9_heavy 63 = .ok (.getfield 12, 3) := by decide +kernel
theorem dX9_heavy_66 : decode cX9_heavy 66 = .ok (.iload 4, 2) := by decide +kernel
theorem dX9_heavy_68 : decode cX9_heavy 68 = .ok (.invokevirtual 185, 3) := by decide +kernel
theorem dX9_heavy_71 : decode cX9_heavy 71 = .ok (.istore_n 3, 1) := by decide +kernel
theorem dX9_heavy_72 : decode cX9_heavy 72 = .ok (.iinc 4 1, 3) := by decide +kernel
theorem dX9_heavy_75 : decode cX9_heavy 75 = .ok (.goto (-54), 3) := by decide +kernel
theorem dX9_heavy_78 : decode cX9_heavy 78 = .ok (.iload_n 1, 1) := by decide +kernel
theorem dX9_heavy_79 : decode cX9_heavy 79 = .ok (.ifCond .ne 7, 3) := by decide +kernel
theorem dX9_heavy_82 : decode cX9_heavy 82 = .ok (.iload_n 2, 1) := by decide +kernel
theorem dX9_heavy_83 : decode cX9_heavy 83 = .ok (.goto 4, 3) := by decide +kernel
theorem dX9_heavy_86 : decode cX9_heavy 86 = .ok (.iload_n 3, 1) := by decide +kernel
theorem dX9_heavy_87 : decode cX9_heavy 87 = .ok (.ireturn, 1) := by decide +kernel
theorem dX9_queue_0 : decode cX9_queue 0 = .ok (.aload_n 0, 1) := by decide +kernel
theorem dX9_queue_1 : decode cX9_queue 1 = .ok (.getfield 12, 3) := by decide +kernel
theorem dX9_queue_4 : decode cX9_queue 4 = .ok (.iload_n 1, 1) := by decide +kernel
theorem dX9_queue_5 : decode cX9_queue 5 = .ok (.invokevirtual 114, 3) := by decide +kernel
theorem dX9_queue_8 : decode cX9_queue 8 = .ok (.ifCond .ne 6, 3) := by decide +kernel
theorem dX9_queue_11 : decode cX9_queue 11 = .ok (.bipush (-12), 2) := by decide +kernel
theorem dX9_queue_13 : decode cX9_queue 13 = .ok (.ireturn, 1) := by decide +kernel
theorem dX9_queue_14 : decode cX9_queue 14 = .ok (.aload_n 0, 1) := by decide +kernel
theorem dX9_queue_15 : decode cX9_queue 15 = .ok (.invokevirtual 188, 3) := by decide +kernel
theorem dX9_queue_18 : decode cX9_queue 18 = .ok (.aload_n 0, 1) := by decide +kernel
theorem dX9_queue_19 : decode cX9_queue 19 = .ok (.getfield 70, 3) := by decide +kernel
theorem dX9_queue_22 : decode cX9_queue 22 = .ok (.iload_n 1, 1) := by decide +kernel
theorem dX9_queue_23 : decode cX9_queue 23 = .ok (.iaload, 1) := by decide +kernel
theorem dX9_queue_24 : decode cX9_queue 24 = .ok (.ireturn, 1) := by decide +kernel
theorem dX9_greedy_0 : decode cX9_greedy 0 = .ok (.iload_n 1, 1) := by decide +kernel
theorem dX9_greedy_1 : decode cX9_greedy 1 = .ok (.invokestatic 117, 3) := by decide +kernel
theorem dX9_greedy_4 : decode cX9_greedy 4 = .ok (.ifCond .ne 6, 3) := by decide +kernel
theorem dX9_greedy_7 : decode cX9_greedy 7 = .ok (.bipush (-2), 2) := by decide +kernel
theorem dX9_greedy_9 : decode cX9_greedy 9 = .ok (.ireturn, 1) := by decide +kernel
theorem dX9_greedy_10 : decode cX9_greedy 10 = .ok (.aload_n 0, 1) := by decide +kernel
theorem dX9_greedy_11 : decode cX9_greedy 11 = .ok (.getfield 26, 3) := by decide +kernel
theorem dX9_greedy_14 : decode cX9_greedy 14 = .ok (.aload_n 0, 1) := by decide +kernel
theorem dX9_greedy_15 : decode cX9_greedy 15 = .ok (.getfield 12, 3) := by decide +kernel
theorem dX9_greedy_18 : decode cX9_greedy 18 = .ok (.invokevirtual 141, 3) := by decide +kernel
theorem dX9_greedy_21 : decode cX9_greedy 21 = .ok (.aload_n 0, 1) := by decide +kernel
theorem dX9_greedy_22 : decode cX9_greedy 22 = .ok (.invokevirtual 188, 3) := by decide +kernel
theorem dX9_greedy_25 : decode cX9_greedy 25 = .ok (.iconst 0, 1) := by decide +kernel
theorem dX9_greedy_26 : decode cX9_greedy 26 = .ok (.istore_n 2, 1) := by decide +kernel
theorem dX9_greedy_27 : decode cX9_greedy 27 = .ok (.iconst 0, 1) := by decide +kernel
theorem dX9_greedy_28 : decode cX9_greedy 28 = .ok (.istore_n 3, 1) := by decide +kernel
theorem dX9_greedy_29 : decode cX9_greedy 29 = .ok (.iload_n 3, 1) := by decide +kernel
theorem dX9_greedy_30 : decode cX9_greedy 30 = .ok (.aload_n 0, 1) := by decide +kernel
theorem dX9_greedy_31 : decode cX9_greedy 31 = .ok (.getfield 12, 3) := by decide +kernel
theorem dX9_greedy_34 : decode cX9_greedy 34 = .ok (.getfield 107, 3) := by decide +kernel
theorem dX9_greedy_37 : decode cX9_greedy 37 = .ok (.if_icmp .ge 36, 3) := by decide +kernel
theorem dX9_greedy_40 : decode cX9_greedy 40 = .ok (.iload_n 2, 1) := by decide +kernel
theorem dX9_greedy_41 : decode cX9_greedy 41 = .ok (.iconst 1, 1) := by decide +kernel
theorem dX9_greedy_42 : decode cX9_greedy 42 = .ok (.aload_n 0, 1) := by decide +kernel
theorem dX9_greedy_43 : decode cX9_greedy 43 = .ok (.getfield 70, 3) := by decide +kernel
theorem dX9_greedy_46 : decode cX9_greedy 46 = .ok (.iload_n 3, 1) := by decide +kernel
theorem dX9_greedy_47 : decode cX9_greedy 47 = .ok (.iaload, 1) := by decide +kernel
theorem dX9_greedy_48 : decode cX9_greedy 48 = .ok (.ishl, 1) := by decide +kernel
theorem dX9_greedy_49 : decode cX9_greedy 49 = .ok (.ior, 1) := by decide +kernel
theorem dX9_greedy_50 : decode cX9_greedy 50 = .ok (.istore 4, 2) := by decide +kernel
theorem dX9_greedy_52 : decode cX9_greedy 52 = .ok (.aload_n 0, 1) := by decide +kernel
theorem dX9_greedy_53 : decode cX9_greedy 53 = .ok (.getfield 26, 3) := by decide +kernel
theorem dX9_greedy_56 : decode cX9_greedy 56 = .ok (.iload 4, 2) := by decide +kernel
theorem dX9_greedy_58 : decode cX9_greedy 58 = .ok (.invokevirtual 163, 3) := by decide +kernel
theorem dX9_greedy_61 : decode cX9_greedy 61 = .ok (.ifCond .eq 6, 3) := by decide +kernel
theorem dX9_greedy_64 : decode cX9_greedy 64 = .ok (.iload 4, 2) := by decide +kernel
theorem dX9_greedy_66 : decode cX9_greedy 66 = .ok (.istore_n 2, 1) := by decide +kernel
theorem dX9_greedy_67 : decode cX9_greedy 67 = .ok (.iinc 3 1, 3) := by decide +kernel
theorem dX9_greedy_70 : decode cX9_greedy 70 = .ok (.goto (-41), 3) := by decide +kernel
theorem dX9_greedy_73 : decode cX9_greedy 73 = .ok (.iload_n 1, 1) := by decide +kernel
theorem dX9_greedy_74 : decode cX9_greedy 74 = .ok (.ifCond .ne 7, 3) := by decide +kernel
theorem dX9_greedy_77 : decode cX9_greedy 77 = .ok (.iload_n 2, 1) := by decide +kernel
theorem dX9_greedy_78 : decode cX9_greedy 78 = .ok (.goto 11, 3) := by decide +kernel
theorem dX9_greedy_81 : decode cX9_greedy 81 = .ok (.aload_n 0, 1) := by decide +kernel
theorem dX9_greedy_82 : decode cX9_greedy 82 = .ok (.getfield 12, 3) := by decide +kernel
theorem dX9_greedy_85 : decode cX9_greedy 85 = .ok (.iload_n 2, 1) := by decide +kernel
theorem dX9_greedy_86 : decode cX9_greedy 86 = .ok (.invokevirtual 185, 3) := by decide +kernel
theorem dX9_greedy_89 : decode cX9_greedy 89 = .ok (.ireturn, 1) := by decide +kernel
theorem dX9_better_0 : decode cX9_better 0 = .ok (.aload_n 0, 1) := by decide +kernel
theorem dX9_better_1 : decode cX9_better 1 = .ok (.getfield 12, 3) := by decide +kernel
theorem dX9_better_4 : decode cX9_better 4 = .ok (.iload_n 1, 1) := by decide +kernel
theorem dX9_better_5 : decode cX9_better 5 = .ok (.invokevirtual 160, 3) := by decide +kernel
theorem dX9_better_8 : decode cX9_better 8 = .ok (.ifCond .ne 6, 3) := by decide +kernel
theorem dX9_better_11 : decode cX9_better 11 = .ok (.bipush (-2), 2) := by decide +kernel
theorem dX9_better_13 : decode cX9_better 13 = .ok (.ireturn, 1) := by decide +kernel
theorem dX9_better_14 : decode cX9_better 14 = .ok (.aload_n 0, 1) := by decide +kernel
theorem dX9_better_15 : decode cX9_better 15 = .ok (.invokevirtual 166, 3) := by decide +kernel
theorem dX9_better_18 : decode cX9_better 18 = .ok (.aload_n 0, 1) := by decide +kernel
theorem dX9_better_19 : decode cX9_better 19 = .ok (.getfield 33, 3) := by decide +kernel
theorem dX9_better_22 : decode cX9_better 22 = .ok (.getfield 176, 3) := by decide +kernel
theorem dX9_better_25 : decode cX9_better 25 = .ok (.iload_n 1, 1) := by decide +kernel
theorem dX9_better_26 : decode cX9_better 26 = .ok (.baload, 1) := by decide +kernel
theorem dX9_better_27 : decode cX9_better 27 = .ok (.ifCond .eq 14, 3) := by decide +kernel
theorem dX9_better_30 : decode cX9_better 30 = .ok (.aload_n 0, 1) := by decide +kernel
theorem dX9_better_31 : decode cX9_better 31 = .ok (.getfield 33, 3) := by decide +kernel
theorem dX9_better_34 : decode cX9_better 34 = .ok (.iload_n 1, 1) := by decide +kernel
theorem dX9_better_35 : decode cX9_better 35 = .ok (.invokevirtual 191, 3) := by decide +kernel
theorem dX9_better_38 : decode cX9_better 38 = .ok (.goto 5, 3) := by decide +kernel
theorem dX9_better_41 : decode cX9_better 41 = .ok (.bipush (-3), 2) := by decide +kernel
theorem dX9_better_43 : decode cX9_better 43 = .ok (.ireturn, 1) := by decide +kernel
