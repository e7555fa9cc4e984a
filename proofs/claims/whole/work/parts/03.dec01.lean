theorem dX0_init_0 : decode cX0_init 0 = .ok (.aload_n 0, 1) := by decide +kernel
theorem dX0_init_1 : decode cX0_init 1 = .ok (.invokespecial 3, 3) := by decide +kernel
theorem dX0_init_4 : decode cX0_init 4 = .ok (.aload_n 0, 1) := by decide +kernel
theorem dX0_init_5 : decode cX0_init 5 = .ok (.iconst 0, 1) := by decide +kernel
theorem dX0_init_6 : decode cX0_init 6 = .ok (.putfield 9, 3) := by decide +kernel
theorem dX0_init_9 : decode cX0_init 9 = .ok (.aload_n 0, 1) := by decide +kernel
theorem dX0_init_10 : decode cX0_init 10 = .ok (.bipush 7, 2) := by decide +kernel
theorem dX0_init_12 : decode cX0_init 12 = .ok (.putfield 15, 3) := by decide +kernel
theorem dX0_init_15 : decode cX0_init 15 = .ok (.aload_n 0, 1) := by decide +kernel
theorem dX0_init_16 : decode cX0_init 16 = .ok (.iconst 4, 1) := by decide +kernel
theorem dX0_init_17 : decode cX0_init 17 = .ok (.putfield 18, 3) := by decide +kernel
theorem dX0_init_20 : decode cX0_init 20 = .ok (.aload_n 0, 1) := by decide +kernel
theorem dX0_init_21 : decode cX0_init 21 = .ok (.iconst 0, 1) := by decide +kernel
theorem dX0_init_22 : decode cX0_init 22 = .ok (.putfield 21, 3) := by decide +kernel
theorem dX0_init_25 : decode cX0_init 25 = .ok (.aload_n 0, 1) := by decide +kernel
theorem dX0_init_26 : decode cX0_init 26 = .ok (.bipush 36, 2) := by decide +kernel
theorem dX0_init_28 : decode cX0_init 28 = .ok (.newarray .int, 2) := by decide +kernel
theorem dX0_init_30 : decode cX0_init 30 = .ok (.putfield 24, 3) := by decide +kernel
theorem dX0_init_33 : decode cX0_init 33 = .ok (.aload_n 0, 1) := by decide +kernel
theorem dX0_init_34 : decode cX0_init 34 = .ok (.bipush 6, 2) := by decide +kernel
theorem dX0_init_36 : decode cX0_init 36 = .ok (.newarray .boolean, 2) := by decide +kernel
theorem dX0_init_38 : decode cX0_init 38 = .ok (.putfield 28, 3) := by decide +kernel
theorem dX0_init_41 : decode cX0_init 41 = .ok (.aload_n 0, 1) := by decide +kernel
theorem dX0_init_42 : decode cX0_init 42 = .ok (.bipush 6, 2) := by decide +kernel
theorem dX0_init_44 : decode cX0_init 44 = .ok (.newarray .int, 2) := by decide +kernel
theorem dX0_init_46 : decode cX0_init 46 = .ok (.putfield 32, 3) := by decide +kernel
theorem dX0_init_49 : decode cX0_init 49 = .ok (.return_, 1) := by decide +kernel
theorem dX0_clear_0 : decode cX0_clear 0 = .ok (.aload_n 0, 1) := by decide +kernel
theorem dX0_clear_1 : decode cX0_clear 1 = .ok (.iload_n 1, 1) := by decide +kernel
theorem dX0_clear_2 : decode cX0_clear 2 = .ok (.putfield 15, 3) := by decide +kernel
theorem dX0_clear_5 : decode cX0_clear 5 = .ok (.aload_n 0, 1) := by decide +kernel
theorem dX0_clear_6 : decode cX0_clear 6 = .ok (.iload_n 2, 1) := by decide +kernel
theorem dX0_clear_7 : decode cX0_clear 7 = .ok (.putfield 18, 3) := by decide +kernel
theorem dX0_clear_10 : decode cX0_clear 10 = .ok (.aload_n 0, 1) := by decide +kernel
theorem dX0_clear_11 : decode cX0_clear 11 = .ok (.iload_n 3, 1) := by decide +kernel
theorem dX0_clear_12 : decode cX0_clear 12 = .ok (.putfield 21, 3) := by decide +kernel
theorem dX0_clear_15 : decode cX0_clear 15 = .ok (.aload_n 0, 1) := by decide +kernel
theorem dX0_clear_16 : decode cX0_clear 16 = .ok (.iconst 0, 1) := by decide +kernel
theorem dX0_clear_17 : decode cX0_clear 17 = .ok (.putfield 9, 3) := by decide +kernel
theorem dX0_clear_20 : decode cX0_clear 20 = .ok (.iconst 0, 1) := by decide +kernel
theorem dX0_clear_21 : decode cX0_clear 21 = .ok (.istore 4, 2) := by decide +kernel
theorem dX0_clear_23 : decode cX0_clear 23 = .ok (.iload 4, 2) := by decide +kernel
theorem dX0_clear_25 : decode cX0_clear 25 = .ok (.bipush 6, 2) := by decide +kernel
theorem dX0_clear_27 : decode cX0_clear 27 = .ok (.if_icmp .ge 17, 3) := by decide +kernel
theorem dX0_clear_30 : decode cX0_clear 30 = .ok (.aload_n 0, 1) := by decide +kernel
theorem dX0_clear_31 : decode cX0_clear 31 = .ok (.getfield 28, 3) := by decide +kernel
theorem dX0_clear_34 : decode cX0_clear 34 = .ok (.iload 4, 2) := by decide +kernel
theorem dX0_clear_36 : decode cX0_clear 36 = .ok (.iconst 0, 1) := by decide +kernel
theorem dX0_clear_37 : decode cX0_clear 37 = .ok (.bastore, 1) := by decide +kernel
theorem dX0_clear_38 : decode cX0_clear 38 = .ok (.iinc 4 1, 3) := by decide +kernel
theorem dX0_clear_41 : decode cX0_clear 41 = .ok (.goto (-18), 3) := by decide +kernel
theorem dX0_clear_44 : decode cX0_clear 44 = .ok (.return_, 1) := by decide +kernel
theorem dX0_add_0 : decode cX0_add 0 = .ok (.iconst 0, 1) := by decide +kernel
theorem dX0_add_1 : decode cX0_add 1 = .ok (.istore_n 3, 1) := by decide +kernel
theorem dX0_add_2 : decode cX0_add 2 = .ok (.iload_n 3, 1) := by decide +kernel
theorem dX0_add_3 : decode cX0_add 3 = .ok (.aload_n 0, 1) := by decide +kernel
theorem dX0_add_4 : decode cX0_add 4 = .ok (.getfield 18, 3) := by decide +kernel
theorem dX0_add_7 : decode cX0_add 7 = .ok (.if_icmp .ge 36, 3) := by decide +kernel
theorem dX0_add_10 : decode cX0_add 10 = .ok (.aload_n 0, 1) := by decide +kernel
theorem dX0_add_11 : decode cX0_add 11 = .ok (.getfield 32, 3) := by decide +kernel
theorem dX0_add_14 : decode cX0_add 14 = .ok (.iload_n 3, 1) := by decide +kernel
theorem dX0_add_15 : decode cX0_add 15 = .ok (.aload_n 0, 1) := by decide +kernel
theorem dX0_add_16 : decode cX0_add 16 = .ok (.getfield 21, 3) := by decide +kernel
theorem dX0_add_19 : decode cX0_add 19 = .ok (.iload_n 3, 1) := by decide +kernel
theorem dX0_add_20 : decode cX0_add 20 = .ok (.ishr, 1) := by decide +kernel
theorem dX0_add_21 : decode cX0_add 21 = .ok (.iconst 1, 1) := by decide +kernel
theorem dX0_add_22 : decode cX0_add 22 = .ok (.iand, 1) := by decide +kernel
theorem dX0_add_23 : decode cX0_add 23 = .ok (.iconst 1, 1) := by decide +kernel
theorem dX0_add_24 : decode cX0_add 24 = .ok (.if_icmp .ne 7, 3) := by decide +kernel
theorem dX0_add_27 : decode cX0_add 27 = .ok (.iconst 0, 1) := by decide +kernel
theorem dX0_add_28 : decode cX0_add 28 = .ok (.goto 8, 3) := by decide +kernel
theorem dX0_add_31 : decode cX0_add 31 = .ok (.aload_n 1, 1) := by decide +kernel
theorem dX0_add_32 : decode cX0_add 32 = .ok (.iload_n 2, 1) := by decide +kernel
theorem dX0_add_33 : decode cX0_add 33 = .ok (.iload_n 3, 1) := by decide +kernel
theorem dX0_add_34 : decode cX0_add 34 = .ok (.iadd, 1) := by decide +kernel
theorem dX0_add_35 : decode cX0_add 35 = .ok (.iaload, 1) := by decide +kernel
theorem dX0_add_36 : decode cX0_add 36 = .ok (.iastore, 1) := by decide +kernel
theorem dX0_add_37 : decode cX0_add 37 = .ok (.iinc 3 1, 3) := by decide +kernel
theorem dX0_add_40 : decode cX0_add 40 = .ok (.goto (-38), 3) := by decide +kernel
theorem dX0_add_43 : decode cX0_add 43 = .ok (.iconst 0, 1) := by decide +kernel
theorem dX0_add_44 : decode cX0_add 44 = .ok (.istore_n 3, 1) := by decide +kernel
theorem dX0_add_45 : decode cX0_add 45 = .ok (.iload_n 3, 1) := by decide +kernel
theorem dX0_add_46 : decode cX0_add 46 = .ok (.aload_n 0, 1) := by decide +kernel
theorem dX0_add_47 : decode cX0_add 47 = .ok (.getfield 18, 3) := by decide +kernel
theorem dX0_add_50 : decode cX0_add 50 = .ok (.if_icmp .ge 38, 3) := by decide +kernel
theorem dX0_add_53 : decode cX0_add 53 = .ok (.aload_n 0, 1) := by decide +kernel
theorem dX0_add_54 : decode cX0_add 54 = .ok (.getfield 32, 3) := by decide +kernel
theorem dX0_add_57 : decode cX0_add 57 = .ok (.iload_n 3, 1) := by decide +kernel
theorem dX0_add_58 : decode cX0_add 58 = .ok (.iaload, 1) := by decide +kernel
theorem dX0_add_59 : decode cX0_add 59 = .ok (.ifCond .eq 23, 3) := by decide +kernel
theorem dX0_add_62 : decode cX0_add 62 = .ok (.aload_n 0, 1) := by decide +kernel
theorem dX0_add_63 : decode cX0_add 63 = .ok (.getfield 28, 3) := by decide +kernel
theorem dX0_add_66 : decode cX0_add 66 = .ok (.iload_n 3, 1) := by decide +kernel
theorem dX0_add_67 : decode cX0_add 67 = .ok (.baload, 1) := by decide +kernel
theorem dX0_add_68 : decode cX0_add 68 = .ok (.ifCond .ne 9, 3) := by decide +kernel
theorem dX0_add_71 : decode cX0_add 71 = .ok (.aload_n 0, 1) := by decide +kernel
theorem dX0_add_72 : decode cX0_add 72 = .ok (.iload_n 3, 1) := by decide +kernel
theorem dX0_add_73 : decode cX0_add 73 = .ok (.invokevirtual 35, 3) := by decide +kernel
theorem dX0_add_76 : decode cX0_add 76 = .ok (.return_, 1) := by decide +kernel
theorem dX0_add_77 : decode cX0_add 77 = .ok (.aload_n 0, 1) := by decide +kernel
theorem dX0_add_78 : decode cX0_add 78 = .ok (.iload_n 3, 1) := by decide +kernel
theorem dX0_add_79 : decode cX0_add 79 = .ok (.invokevirtual 39, 3) := by decide +kernel
theorem dX0_add_82 : decode cX0_add 82 = .ok (.iinc 3 1, 3) := by decide +kernel
theorem dX0_add_85 : decode cX0_add 85 = .ok (.goto (-40), 3) := by decide +kernel
theorem dX0_add_88 : decode cX0_add 88 = .ok (.return_, 1) := by decide +kernel
theorem dX0_keepWork_0 : decode cX0_keepWork 0 = .ok (.aload_n 0, 1) := by decide +kernel
theorem dX0_keepWork_1 : decode cX0_keepWork 1 = .ok (.getfield 28, 3) := by decide +kernel
theorem dX0_keepWork_4 : decode cX0_keepWork 4 = .ok (.iload_n 1, 1) := by decide +kernel
theorem dX0_keepWork_5 : decode cX0_keepWork 5 = .ok (.iconst 1, 1) := by decide +kernel
theorem dX0_keepWork_6 : decode cX0_keepWork 6 = .ok (.bastore, 1) := by decide +kernel
theorem dX0_keepWork_7 : decode cX0_keepWork 7 = .ok (.aload_n 0, 1) := by decide +kernel
theorem dX0_keepWork_8 : decode cX0_keepWork 8 = .ok (.dup, 1) := by decide +kernel
theorem dX0_keepWork_9 : decode cX0_keepWork 9 = .ok (.getfield 9, 3) := by decide +kernel
theorem dX0_keepWork_12 : decode cX0_keepWork 12 = .ok (.iconst 1, 1) := by decide +kernel
theorem dX0_keepWork_13 : decode cX0_keepWork 13 = .ok (.iadd, 1) := by decide +kernel
theorem dX0_keepWork_14 : decode cX0_keepWork 14 = .ok (.putfield 9, 3) := by decide +kernel
theorem dX0_keepWork_17 : decode cX0_keepWork 17 = .ok (.iconst 0, 1) := by decide +kernel
theorem dX0_keepWork_18 : decode cX0_keepWork 18 = .ok (.istore_n 2, 1) := by decide +kernel
theorem dX0_keepWork_19 : decode cX0_keepWork 19 = .ok (.iload_n 2, 1) := by decide +kernel
theorem dX0_keepWork_20 : decode cX0_keepWork 20 = .ok (.aload_n 0, 1) := by decide +kernel
theorem dX0_keepWork_21 : decode cX0_keepWork 21 = .ok (.getfield 18, 3) := by decide +kernel
theorem dX0_keepWork_24 : decode cX0_keepWork 24 = .ok (.if_icmp .ge 26, 3) := by decide +kernel
theorem dX0_keepWork_27 : decode cX0_keepWork 27 = .ok (.aload_n 0, 1) := by decide +kernel
theorem dX0_keepWork_28 : decode cX0_keepWork 28 = .ok (.getfield 24, 3) := by decide +kernel
theorem dX0_keepWork_31 : decode cX0_keepWork 31 = .ok (.iload_n 1, 1) := by decide +kernel
theorem dX0_keepWork_32 : decode cX0_keepWork 32 = .ok (.bipush 6, 2) := by decide +kernel
theorem dX0_keepWork_34 : decode cX0_keepWork 34 = .ok (.imul, 1) := by decide +kernel
theorem dX0_keepWork_35 : decode cX0_keepWork 35 = .ok (.iload_n 2, 1) := by decide +kernel
theorem dX0_keepWork_36 : decode cX0_keepWork 36 = .ok (.iadd, 1) := by decide +kernel
theorem dX0_keepWork_37 : decode cX0_keepWork 37 = .ok (.aload_n 0, 1) := by decide +kernel
theorem dX0_keepWork_38 : decode cX0_keepWork 38 = .ok (.getfield 32, 3) := by decide +kernel
theorem dX0_keepWork_41 : decode cX0_keepWork 41 = .ok (.iload_n 2, 1) := by decide +kernel
theorem dX0_keepWork_42 : decode cX0_keepWork 42 = .ok (.iaload, 1) := by decide +kernel
theorem dX0_keepWork_43 : decode cX0_keepWork 43 = .ok (.iastore, 1) := by decide +kernel
theorem dX0_keepWork_44 : decode cX0_keepWork 44 = .ok (.iinc 2 1, 3) := by decide +kernel
theorem dX0_keepWork_47 : decode cX0_keepWork 47 = .ok (.goto (-28), 3) := by decide +kernel
theorem dX0_keepWork_50 : decode cX0_keepWork 50 = .ok (.return_, 1) := by decide +kernel
theorem dX0_clearPlace_0 : decode cX0_clearPlace 0 = .ok (.aload_n 0, 1) := by decide +kernel
theorem dX0_clearPlace_1 : decode cX0_clearPlace 1 = .ok (.getfield 15, 3) := by decide +kernel
theorem dX0_clearPlace_4 : decode cX0_clearPlace 4 = .ok (.aload_n 0, 1) := by decide +kernel
theorem dX0_clearPlace_5 : decode cX0_clearPlace 5 = .ok (.getfield 32, 3) := by decide +kernel
theorem dX0_clearPlace_8 : decode cX0_clearPlace 8 = .ok (.iload_n 1, 1) := by decide +kernel
theorem dX0_clearPlace_9 : decode cX0_clearPlace 9 = .ok (.iaload, 1) := by decide +kernel
theorem dX0_clearPlace_10 : decode cX0_clearPlace 10 = .ok (.isub, 1) := by decide +kernel
theorem dX0_clearPlace_11 : decode cX0_clearPlace 11 = .ok (.istore_n 2, 1) := by decide +kernel
theorem dX0_clearPlace_12 : decode cX0_clearPlace 12 = .ok (.aload_n 0, 1) := by decide +kernel
theorem dX0_clearPlace_13 : decode cX0_clearPlace 13 = .ok (.getfield 24, 3) := by decide +kernel
theorem dX0_clearPlace_16 : decode cX0_clearPlace 16 = .ok (.iload_n 1, 1) := by decide +kernel
theorem dX0_clearPlace_17 : decode cX0_clearPlace 17 = .ok (.bipush 6, 2) := by decide +kernel
theorem dX0_clearPlace_19 : decode cX0_clearPlace 19 = .ok (.imul, 1) := by decide +kernel
theorem dX0_clearPlace_20 : decode cX0_clearPlace 20 = .ok (.iload_n 1, 1) := by decide +kernel
theorem dX0_clearPlace_21 : decode cX0_clearPlace 21 = .ok (.iadd, 1) := by decide +kernel
theorem dX0_clearPlace_22 : decode cX0_clearPlace 22 = .ok (.iaload, 1) := by decide +kernel
theorem dX0_clearPlace_23 : decode cX0_clearPlace 23 = .ok (.istore_n 3, 1) := by decide +kernel
theorem dX0_clearPlace_24 : decode cX0_clearPlace 24 = .ok (.iload_n 1, 1) := by decide +kernel
theorem dX0_clearPlace_25 : decode cX0_clearPlace 25 = .ok (.istore 4, 2) := by decide +kernel
theorem dX0_clearPlace_27 : decode cX0_clearPlace 27 = .ok (.iload 4, 2) := by decide +kernel
theorem dX0_clearPlace_29 : decode cX0_clearPlace 29 = .ok (.aload_n 0, 1) := by decide +kernel
theorem dX0_clearPlace_30 : decode cX0_clearPlace 30 = .ok (.getfield 18, 3) := by decide +kernel
theorem dX0_clearPlace_33 : decode cX0_clearPlace 33 = .ok (.if_icmp .ge 45, 3) := by decide +kernel
theorem dX0_clearPlace_36 : decode cX0_clearPlace 36 = .ok (.aload_n 0, 1) := by decide +kernel
theorem dX0_clearPlace_37 : decode cX0_clearPlace 37 = .ok (.getfield 32, 3) := by decide +kernel
theorem dX0_clearPlace_40 : decode cX0_clearPlace 40 = .ok (.iload 4, 2) := by decide +kernel
theorem dX0_clearPlace_42 : decode cX0_clearPlace 42 = .ok (.aload_n 0, 1) := by decide +kernel
theorem dX0_clearPlace_43 : decode cX0_clearPlace 43 = .ok (.getfield 32, 3) := by decide +kernel
theorem dX0_clearPlace_46 : decode cX0_clearPlace 46 = .ok (.iload 4, 2) := by decide +kernel
theorem dX0_clearPlace_48 : decode cX0_clearPlace 48 = .ok (.iaload, 1) := by decide +kernel
theorem dX0_clearPlace_49 : decode cX0_clearPlace 49 = .ok (.iload_n 3, 1) := by decide +kernel
theorem dX0_clearPlace_50 : decode cX0_clearPlace 50 = .ok (.imul, 1) := by decide +kernel
theorem dX0_clearPlace_51 : decode cX0_clearPlace 51 = .ok (.iload_n 2, 1) := by decide +kernel
theorem dX0_clearPlace_52 : decode cX0_clearPlace 52 = .ok (.aload_n 0, 1) := by decide +kernel
theorem dX0_clearPlace_53 : decode cX0_clearPlace 53 = .ok (.getfield 24, 3) := by decide +kernel
theorem dX0_clearPlace_56 : decode cX0_clearPlace 56 = .ok (.iload_n 1, 1) := by decide +kernel
theorem dX0_clearPlace_57 : decode cX0_clearPlace 57 = .ok (.bipush 6, 2) := by decide +kernel
theorem dX0_clearPlace_59 : decode cX0_clearPlace 59 = .ok (.imul, 1) := by decide +kernel
theorem dX0_clearPlace_60 : decode cX0_clearPlace 60 = .ok (.iload 4, 2) := by decide +kernel
theorem dX0_clearPlace_62 : decode cX0_clearPlace 62 = .ok (.iadd, 1) := by decide +kernel
theorem dX0_clearPlace_63 : decode cX0_clearPlace 63 = .ok (.iaload, 1) := by decide +kernel
theorem dX0_clearPlace_64 : decode cX0_clearPlace 64 = .ok (.imul, 1) := by decide +kernel
theorem dX0_clearPlace_65 : decode cX0_clearPlace 65 = .ok (.iadd, 1) := by decide +kernel
theorem dX0_clearPlace_66 : decode cX0_clearPlace 66 = .ok (.aload_n 0, 1) := by decide +kernel
theorem dX0_clearPlace_67 : decode cX0_clearPlace 67 = .ok (.getfield 15, 3) := by decide +kernel
theorem dX0_clearPlace_70 : decode cX0_clearPlace 70 = .ok (.irem, 1) := by decide +kernel
theorem dX0_clearPlace_71 : decode cX0_clearPlace 71 = .ok (.iastore, 1) := by decide +kernel
theorem dX0_clearPlace_72 : decode cX0_clearPlace 72 = .ok (.iinc 4 1, 3) := by decide +kernel
theorem dX0_clearPlace_75 : decode cX0_clearPlace 75 = .ok (.goto (-48), 3) := by decide +kernel
theorem dX0_clearPlace_78 : decode cX0_clearPlace 78 = .ok (.return_, 1) := by decide +kernel
theorem dX1_init_0 : decode cX1_init 0 = .ok (.aload_n 0, 1) := by decide +kernel
theorem dX1_init_1 : decode cX1_init 1 = .ok (.invokespecial 3, 3) := by decide +kernel
theorem dX1_init_4 : decode cX1_init 4 = .ok (.aload_n 0, 1) := by decide +kernel
theorem dX1_init_5 : decode cX1_init 5 = .ok (.iconst 0, 1) := by decide +kernel
theorem dX1_init_6 : decode cX1_init 6 = .ok (.putfield 9, 3) := by decide +kernel
theorem dX1_init_9 : decode cX1_init 9 = .ok (.aload_n 0, 1) := by decide +kernel
theorem dX1_init_10 : decode cX1_init 10 = .ok (.iconst 0, 1) := by decide +kernel
theorem dX1_init_11 : decode cX1_init 11 = .ok (.putfield 15, 3) := by decide +kernel
theorem dX1_init_14 : decode cX1_init 14 = .ok (.aload_n 0, 1) := by decide +kernel
theorem dX1_init_15 : decode cX1_init 15 = .ok (.iconst 0, 1) := by decide +kernel
theorem dX1_init_16 : decode cX1_init 16 = .ok (.putfield 18, 3) := by decide +kernel
theorem dX1_init_19 : decode cX1_init 19 = .ok (.aload_n 0, 1) := by decide +kernel
theorem dX1_init_20 : decode cX1_init 20 = .ok (.iconst 0, 1) := by decide +kernel
theorem dX1_init_21 : decode cX1_init 21 = .ok (.putfield 21, 3) := by decide +kernel
theorem dX1_init_24 : decode cX1_init 24 = .ok (.aload_n 0, 1) := by decide +kernel
theorem dX1_init_25 : decode cX1_init 25 = .ok (.bipush 6, 2) := by decide +kernel
theorem dX1_init_27 : decode cX1_init 27 = .ok (.newarray .int, 2) := by decide +kernel
theorem dX1_init_29 : decode cX1_init 29 = .ok (.putfield 24, 3) := by decide +kernel
theorem dX1_init_32 : decode cX1_init 32 = .ok (.return_, 1) := by decide +kernel
theorem dX1_takePair_0 : decode cX1_takePair 0 = .ok (.aload_n 0, 1) := by decide +kernel
theorem dX1_takePair_1 : decode cX1_takePair 1 = .ok (.iconst 1, 1) := by decide +kernel
theorem dX1_takePair_2 : decode cX1_takePair 2 = .ok (.putfield 9, 3) := by decide +kernel
theorem dX1_takePair_5 : decode cX1_takePair 5 = .ok (.aload_n 0, 1) := by decide +kernel
theorem dX1_takePair_6 : decode cX1_takePair 6 = .ok (.iload_n 1, 1) := by decide +kernel
theorem dX1_takePair_7 : decode cX1_takePair 7 = .ok (.putfield 15, 3) := by decide +kernel
theorem dX1_takePair_10 : decode cX1_takePair 10 = .ok (.aload_n 0, 1) := by decide +kernel
theorem dX1_takePair_11 : decode cX1_takePair 11 = .ok (.iload_n 2, 1) := by decide +kernel
theorem dX1_takePair_12 : decode cX1_takePair 12 = .ok (.putfield 18, 3) := by decide +kernel
theorem dX1_takePair_15 : decode cX1_takePair 15 = .ok (.return_, 1) := by decide +kernel
theorem dX1_takeRay_0 : decode cX1_takeRay 0 = .ok (.aload_n 0, 1) := by decide +kernel
theorem dX1_takeRay_1 : decode cX1_takeRay 1 = .ok (.iconst 2, 1) := by decide +kernel
theorem dX1_takeRay_2 : decode cX1_takeRay 2 = .ok (.putfield 9, 3) := by decide +kernel
theorem dX1_takeRay_5 : decode cX1_takeRay 5 = .ok (.aload_n 0, 1) := by decide +kernel
theorem dX1_takeRay_6 : decode cX1_takeRay 6 = .ok (.iload 4, 2) := by decide +kernel
theorem dX1_takeRay_8 : decode cX1_takeRay 8 = .ok (.putfield 21, 3) := by decide +kernel
theorem dX1_takeRay_11 : decode cX1_takeRay 11 = .ok (.lload_n 1, 1) := by decide +kernel
theorem dX1_takeRay_12 : decode cX1_takeRay 12 = .ok (.lstore 5, 2) := by decide +kernel
theorem dX1_takeRay_14 : decode cX1_takeRay 14 = .ok (.iload 4, 2) := by decide +kernel
theorem dX1_takeRay_16 : decode cX1_takeRay 16 = .ok (.iconst 1, 1) := by decide +kernel
theorem dX1_takeRay_17 : decode cX1_takeRay 17 = .ok (.isub, 1) := by decide +kernel
theorem dX1_takeRay_18 : decode cX1_takeRay 18 = .ok (.istore 7, 2) := by decide +kernel
theorem dX1_takeRay_20 : decode cX1_takeRay 20 = .ok (.iload 7, 2) := by decide +kernel
theorem dX1_takeRay_22 : decode cX1_takeRay 22 = .ok (.ifCond .lt 29, 3) := by decide +kernel
theorem dX1_takeRay_25 : decode cX1_takeRay 25 = .ok (.aload_n 0, 1) := by decide +kernel
theorem dX1_takeRay_26 : decode cX1_takeRay 26 = .ok (.getfield 24, 3) := by decide +kernel
theorem dX1_takeRay_29 : decode cX1_takeRay 29 = .ok (.iload 7, 2) := by decide +kernel
theorem dX1_takeRay_31 : decode cX1_takeRay 31 = .ok (.lload 5, 2) := by decide +kernel
theorem dX1_takeRay_33 : decode cX1_takeRay 33 = .ok (.iload_n 3, 1) := by decide +kernel
theorem dX1_takeRay_34 : decode cX1_takeRay 34 = .ok (.i2l, 1) := by decide +kernel
theorem dX1_takeRay_35 : decode cX1_takeRay 35 = .ok (.lrem, 1) := by decide +kernel
theorem dX1_takeRay_36 : decode cX1_takeRay 36 = .ok (.l2i, 1) := by decide +kernel
theorem dX1_takeRay_37 : decode cX1_takeRay 37 = .ok (.iastore, 1) := by decide +kernel
theorem dX1_takeRay_38 : decode cX1_takeRay 38 = .ok (.lload 5, 2) := by decide +kernel
theorem dX1_takeRay_40 : decode cX1_takeRay 40 = .ok (.iload_n 3, 1) := by decide +kernel
theorem dX1_takeRay_41 : decode cX1_takeRay 41 = .ok (.i2l, 1) := by decide +kernel
theorem dX1_takeRay_42 : decode cX1_takeRay 42 = .ok (.ldiv, 1) := by decide +kernel
theorem dX1_takeRay_43 : decode cX1_takeRay 43 = .ok (.lstore 5, 2) := by decide +kernel
theorem dX1_takeRay_45 : decode cX1_takeRay 45 = .ok (.iinc 7 (-1), 3) := by decide +kernel
theorem dX1_takeRay_48 : decode cX1_takeRay 48 = .ok (.goto (-28), 3) := by decide +kernel
theorem dX1_takeRay_51 : decode cX1_takeRay 51 = .ok (.return_, 1) := by decide +kernel
theorem dX1_orderTo_0 : decode cX1_orderTo 0 = .ok (.aload_n 0, 1) := by decide +kernel
theorem dX1_orderTo_1 : decode cX1_orderTo 1 = .ok (.getfield 21, 3) := by decide +kernel
theorem dX1_orderTo_4 : decode cX1_orderTo 4 = .ok (.aload_n 1, 1) := by decide +kernel
theorem dX1_orderTo_5 : decode cX1_orderTo 5 = .ok (.getfield 21, 3) := by decide +kernel
theorem dX1_orderTo_8 : decode cX1_orderTo 8 = .ok (.invokestatic 28, 3) := by decide +kernel
theorem dX1_orderTo_11 : decode cX1_orderTo 11 = .ok (.istore_n 2, 1) := by decide +kernel
theorem dX1_orderTo_12 : decode cX1_orderTo 12 = .ok (.iconst 0, 1) := by decide +kernel
theorem dX1_orderTo_13 : decode cX1_orderTo 13 = .ok (.istore_n 3, 1) := by decide +kernel
theorem dX1_orderTo_14 : decode cX1_orderTo 14 = .ok (.iload_n 3, 1) := by decide +kernel
theorem dX1_orderTo_15 : decode cX1_orderTo 15 = .ok (.iload_n 2, 1) := by decide +kernel
theorem dX1_orderTo_16 : decode cX1_orderTo 16 = .ok (.if_icmp .ge 45, 3) := by decide +kernel
theorem dX1_orderTo_19 : decode cX1_orderTo 19 = .ok (.aload_n 0, 1) := by decide +kernel
theorem dX1_orderTo_20 : decode cX1_orderTo 20 = .ok (.getfield 24, 3) := by decide +kernel
theorem dX1_orderTo_23 : decode cX1_orderTo 23 = .ok (.iload_n 3, 1) := by decide +kernel
theorem dX1_orderTo_24 : decode cX1_orderTo 24 = .ok (.iaload, 1) := by decide +kernel
theorem dX1_orderTo_25 : decode cX1_orderTo 25 = .ok (.aload_n 1, 1) := by decide +kernel
theorem dX1_orderTo_26 : decode cX1_orderTo 26 = .ok (.getfield 24, 3) := by decide +kernel
theorem dX1_orderTo_29 : decode cX1_orderTo 29 = .ok (.iload_n 3, 1) := by decide +kernel
theorem dX1_orderTo_30 : decode cX1_orderTo 30 = .ok (.iaload, 1) := by decide +kernel
theorem dX1_orderTo_31 : decode cX1_orderTo 31 = .ok (.if_icmp .eq 24, 3) := by decide +kernel
theorem dX1_orderTo_34 : decode cX1_orderTo 34 = .ok (.aload_n 0, 1) := by decide +kernel
theorem dX1_orderTo_35 : decode cX1_orderTo 35 = .ok (.getfield 24, 3) := by decide +kernel
theorem dX1_orderTo_38 : decode cX1_orderTo 38 = .ok (.iload_n 3, 1) := by decide +kernel
theorem dX1_orderTo_39 : decode cX1_orderTo 39 = .ok (.iaload, 1) := by decide +kernel
theorem dX1_orderTo_40 : decode cX1_orderTo 40 = .ok (.aload_n 1, 1) := by decide +kernel
theorem dX1_orderTo_41 : decode cX1_orderTo 41 = .ok (.getfield 24, 3) := by decide +kernel
theorem dX1_orderTo_44 : decode cX1_orderTo 44 = .ok (.iload_n 3, 1) := by decide +kernel
theorem dX1_orderTo_45 : decode cX1_orderTo 45 = .ok (.iaload, 1) := by decide +kernel
theorem dX1_orderTo_46 : decode cX1_orderTo 46 = .ok (.if_icmp .ge 7, 3) := by decide +kernel
theorem dX1_orderTo_49 : decode cX1_orderTo 49 = .ok (.iconst (-1), 1) := by decide +kernel
theorem dX1_orderTo_50 : decode cX1_orderTo 50 = .ok (.goto 4, 3) := by decide +kernel
theorem dX1_orderTo_53 : decode cX1_orderTo 53 = .ok (.iconst 1, 1) := by decide +kernel
theorem dX1_orderTo_54 : decode cX1_orderTo 54 = .ok (.ireturn, 1) := by decide +kernel
theorem dX1_orderTo_55 : decode cX1_orderTo 55 = .ok (.iinc 3 1, 3) := by decide +kernel
theorem dX1_orderTo_58 : decode cX1_orderTo 58 = .ok (.goto (-44), 3) := by decide +kernel
theorem dX1_orderTo_61 : decode cX1_orderTo 61 = .ok (.aload_n 0, 1) := by decide +kernel
theorem dX1_orderTo_62 : decode cX1_orderTo 62 = .ok (.getfield 21, 3) := by decide +kernel
theorem dX1_orderTo_65 : decode cX1_orderTo 65 = .ok (.aload_n 1, 1) := by decide +kernel
theorem dX1_orderTo_66 : decode cX1_orderTo 66 = .ok (.getfield 21, 3) := by decide +kernel
theorem dX1_orderTo_69 : decode cX1_orderTo 69 = .ok (.invokestatic 34, 3) := by decide +kernel
theorem dX1_orderTo_72 : decode cX1_orderTo 72 = .ok (.ireturn, 1) := by decide +kernel
theorem dX2_init_0 : decode cX2_init 0 = .ok (.aload_n 0, 1) := by decide +kernel
theorem dX2_init_1 : decode cX2_init 1 = .ok (.invokespecial 3, 3) := by decide +kernel
theorem dX2_init_4 : decode cX2_init 4 = .ok (.aload_n 0, 1) := by decide +kernel
theorem dX2_init_5 : decode cX2_init 5 = .ok (.bipush 7, 2) := by decide +kernel
theorem dX2_init_7 : decode cX2_init 7 = .ok (.putfield 9, 3) := by decide +kernel
theorem dX2_init_10 : decode cX2_init 10 = .ok (.aload_n 0, 1) := by decide +kernel
theorem dX2_init_11 : decode cX2_init 11 = .ok (.iconst 4, 1) := by decide +kernel
theorem dX2_init_12 : decode cX2_init 12 = .ok (.putfield 15, 3) := by decide +kernel
theorem dX2_init_15 : decode cX2_init 15 = .ok (.aload_n 0, 1) := by decide +kernel
theorem dX2_init_16 : decode cX2_init 16 = .ok (.iconst 0, 1) := by decide +kernel
theorem dX2_init_17 : decode cX2_init 17 = .ok (.putfield 18, 3) := by decide +kernel
theorem dX2_init_20 : decode cX2_init 20 = .ok (.aload_n 0, 1) := by decide +kernel
theorem dX2_init_21 : decode cX2_init 21 = .ok (.bipush 10, 2) := by decide +kernel
theorem dX2_init_23 : decode cX2_init 23 = .ok (.newarray .int, 2) := by decide +kernel
theorem dX2_init_25 : decode cX2_init 25 = .ok (.putfield 21, 3) := by decide +kernel
theorem dX2_init_28 : decode cX2_init 28 = .ok (.aload_n 0, 1) := by decide +kernel
theorem dX2_init_29 : decode cX2_init 29 = .ok (.bipush 10, 2) := by decide +kernel
theorem dX2_init_31 : decode cX2_init 31 = .ok (.newarray .int, 2) := by decide +kernel
theorem dX2_init_33 : decode cX2_init 33 = .ok (.putfield 25, 3) := by decide +kernel
theorem dX2_init_36 : decode cX2_init 36 = .ok (.aload_n 0, 1) := by decide +kernel
theorem dX2_init_37 : decode cX2_init 37 = .ok (.bipush 10, 2) := by decide +kernel
theorem dX2_init_39 : decode cX2_init 39 = .ok (.newarray .long, 2) := by decide +kernel
theorem dX2_init_41 : decode cX2_init 41 = .ok (.putfield 28, 3) := by decide +kernel
theorem dX2_init_44 : decode cX2_init 44 = .ok (.aload_n 0, 1) := by decide +kernel
theorem dX2_init_45 : decode cX2_init 45 = .ok (.bipush 120, 2) := by decide +kernel
theorem dX2_init_47 : decode cX2_init 47 = .ok (.newarray .int, 2) := by decide +kernel
theorem dX2_init_49 : decode cX2_init 49 = .ok (.putfield 32, 3) := by decide +kernel
theorem dX2_init_52 : decode cX2_init 52 = .ok (.aload_n 0, 1) := by decide +kernel
theorem dX2_init_53 : decode cX2_init 53 = .ok (.bipush 8, 2) := by decide +kernel
theorem dX2_init_55 : decode cX2_init 55 = .ok (.newarray .int, 2) := by decide +kernel
theorem dX2_init_57 : decode cX2_init 57 = .ok (.putfield 35, 3) := by decide +kernel
theorem dX2_init_60 : decode cX2_init 60 = .ok (.return_, 1) := by decide +kernel
theorem dX2_become_0 : decode cX2_become 0 = .ok (.aload_n 0, 1) := by decide +kernel
theorem dX2_become_1 : decode cX2_become 1 = .ok (.aload_n 1, 1) := by decide +kernel
theorem dX2_become_2 : decode cX2_become 2 = .ok (.getfield 9, 3) := by decide +kernel
theorem dX2_become_5 : decode cX2_become 5 = .ok (.putfield 9, 3) := by decide +kernel
theorem dX2_become_8 : decode cX2_become 8 = .ok (.aload_n 0, 1) := by decide +kernel
theorem dX2_become_9 : decode cX2_become 9 = .ok (.aload_n 1, 1) := by decide +kernel
theorem dX2_become_10 : decode cX2_become 10 = .ok (.getfield 15, 3) := by decide +kernel
theorem dX2_become_13 : decode cX2_become 13 = .ok (.putfield 15, 3) := by decide +kernel
theorem dX2_become_16 : decode cX2_become 16 = .ok (.aload_n 0, 1) := by decide +kernel
theorem dX2_become_17 : decode cX2_become 17 = .ok (.aload_n 1, 1) := by decide +kernel
theorem dX2_become_18 : decode cX2_become 18 = .ok (.getfield 18, 3) := by decide +kernel
theorem dX2_become_21 : decode cX2_become 21 = .ok (.putfield 18, 3) := by decide +kernel
theorem dX2_become_24 : decode cX2_become 24 = .ok (.aload_n 1, 1) := by decide +kernel
theorem dX2_become_25 : decode cX2_become 25 = .ok (.getfield 21, 3) := by decide +kernel
theorem dX2_become_28 : decode cX2_become 28 = .ok (.iconst 0, 1) := by decide +kernel
theorem dX2_become_29 : decode cX2_become 29 = .ok (.aload_n 0, 1) := by decide +kernel
theorem dX2_become_30 : decode cX2_become 30 = .ok (.getfield 21, 3) := by decide +kernel
theorem dX2_become_33 : decode cX2_become 33 = .ok (.iconst 0, 1) := by decide +kernel
theorem dX2_become_34 : decode cX2_become 34 = .ok (.bipush 10, 2) := by decide +kernel
theorem dX2_become_36 : decode cX2_become 36 = .ok (.invokestatic 38, 3) := by decide +kernel
theorem dX2_become_39 : decode cX2_become 39 = .ok (.aload_n 1, 1) := by decide +kernel
theorem dX2_become_40 : decode cX2_become 40 = .ok (.getfield 25, 3) := by decide +kernel
theorem dX2_become_43 : decode cX2_become 43 = .ok (.iconst 0, 1) := by decide +kernel
theorem dX2_become_44 : decode cX2_become 44 = .ok (.aload_n 0, 1) := by decide +kernel
theorem dX2_become_45 : decode cX2_become 45 = .ok (.getfield 25, 3) := by decide +kernel
theorem dX2_become_48 : decode cX2_become 48 = .ok (.iconst 0, 1) := by decide +kernel
theorem dX2_become_49 : decode cX2_become 49 = .ok (.bipush 10, 2) := by decide +kernel
theorem dX2_become_51 : decode cX2_become 51 = .ok (.invokestatic 38, 3) := by decide +kernel
theorem dX2_become_54 : decode cX2_become 54 = .ok (.aload_n 1, 1) := by decide +kernel
theorem dX2_become_55 : decode cX2_become 55 = .ok (.getfield 28, 3) := by decide +kernel
theorem dX2_become_58 : decode cX2_become 58 = .ok (.iconst 0, 1) := by decide +kernel
theorem dX2_become_59 : decode cX2_become 59 = .ok (.aload_n 0, 1) := by decide +kernel
theorem dX2_become_60 : decode cX2_become 60 = .ok (.getfield 28, 3) := by decide +kernel
theorem dX2_become_63 : decode cX2_become 63 = .ok (.iconst 0, 1) := by decide +kernel
theorem dX2_become_64 : decode cX2_become 64 = .ok (.bipush 10, 2) := by decide +kernel
theorem dX2_become_66 : decode cX2_become 66 = .ok (.invokestatic 38, 3) := by decide +kernel
theorem dX2_become_69 : decode cX2_become 69 = .ok (.aload_n 1, 1) := by decide +kernel
theorem dX2_become_70 : decode cX2_become 70 = .ok (.getfield 32, 3) := by decide +kernel
theorem dX2_become_73 : decode cX2_become 73 = .ok (.iconst 0, 1) := by decide +kernel
theorem dX2_become_74 : decode cX2_become 74 = .ok (.aload_n 0, 1) := by decide +kernel
theorem dX2_become_75 : decode cX2_become 75 = .ok (.getfield 32, 3) := by decide +kernel
theorem dX2_become_78 : decode cX2_become 78 = .ok (.iconst 0, 1) := by decide +kernel
theorem dX2_become_79 : decode cX2_become 79 = .ok (.bipush 120, 2) := by decide +kernel
theorem dX2_become_81 : decode cX2_become 81 = .ok (.invokestatic 38, 3) := by decide +kernel
theorem dX2_become_84 : decode cX2_become 84 = .ok (.aload_n 1, 1) := by decide +kernel
theorem dX2_become_85 : decode cX2_become 85 = .ok (.getfield 35, 3) := by decide +kernel
theorem dX2_become_88 : decode cX2_become 88 = .ok (.iconst 0, 1) := by decide +kernel
theorem dX2_become_89 : decode cX2_become 89 = .ok (.aload_n 0, 1) := by decide +kernel
theorem dX2_become_90 : decode cX2_become 90 = .ok (.getfield 35, 3) := by decide +kernel
theorem dX2_become_93 : decode cX2_become 93 = .ok (.iconst 0, 1) := by decide +kernel
theorem dX2_become_94 : decode cX2_become 94 = .ok (.bipush 8, 2) := by decide +kernel
theorem dX2_become_96 : decode cX2_become 96 = .ok (.invokestatic 38, 3) := by decide +kernel
theorem dX2_become_99 : decode cX2_become 99 = .ok (.return_, 1) := by decide +kernel
theorem dX2_has_0 : decode cX2_has 0 = .ok (.iload_n 1, 1) := by decide +kernel
theorem dX2_has_1 : decode cX2_has 1 = .ok (.ifCond .lt 15, 3) := by decide +kernel
theorem dX2_has_4 : decode cX2_has 4 = .ok (.iload_n 1, 1) := by decide +kernel
theorem dX2_has_5 : decode cX2_has 5 = .ok (.aload_n 0, 1) := by decide +kernel
theorem dX2_has_6 : decode cX2_has 6 = .ok (.getfield 18, 3) := by decide +kernel
theorem dX2_has_9 : decode cX2_has 9 = .ok (.if_icmp .ge 7, 3) := by decide +kernel
theorem dX2_has_12 : decode cX2_has 12 = .ok (.iconst 1, 1) := by decide +kernel
theorem dX2_has_13 : decode cX2_has 13 = .ok (.goto 4, 3) := by decide +kernel
theorem dX2_has_16 : decode cX2_has 16 = .ok (.iconst 0, 1) := by decide +kernel
theorem dX2_has_17 : decode cX2_has 17 = .ok (.ireturn, 1) := by decide +kernel
theorem dX2_hasAll_0 : decode cX2_hasAll 0 = .ok (.iload_n 1, 1) := by decide +kernel
theorem dX2_hasAll_1 : decode cX2_hasAll 1 = .ok (.ifCond .lt 17, 3) := by decide +kernel
theorem dX2_hasAll_4 : decode cX2_hasAll 4 = .ok (.iload_n 1, 1) := by decide +kernel
theorem dX2_hasAll_5 : decode cX2_hasAll 5 = .ok (.iconst 1, 1) := by decide +kernel
theorem dX2_hasAll_6 : decode cX2_hasAll 6 = .ok (.aload_n 0, 1) := by decide +kernel
theorem dX2_hasAll_7 : decode cX2_hasAll 7 = .ok (.getfield 18, 3) := by decide +kernel
theorem dX2_hasAll_10 : decode cX2_hasAll 10 = .ok (.ishl, 1) := by decide +kernel
theorem dX2_hasAll_11 : decode cX2_hasAll 11 = .ok (.if_icmp .ge 7, 3) := by decide +kernel
theorem dX2_hasAll_14 : decode cX2_hasAll 14 = .ok (.iconst 1, 1) := by decide +kernel
theorem dX2_hasAll_15 : decode cX2_hasAll 15 = .ok (.goto 4, 3) := by decide +kernel
theorem dX2_hasAll_18 : decode cX2_hasAll 18 = .ok (.iconst 0, 1) := by decide +kernel
theorem dX2_hasAll_19 : decode cX2_hasAll 19 = .ok (.ireturn, 1) := by decide +kernel
theorem dX2_append_0 : decode cX2_append 0 = .ok (.aload_n 0, 1) := by decide +kernel
theorem dX2_append_1 : decode cX2_append 1 = .ok (.getfield 18, 3) := by decide +kernel
theorem dX2_append_4 : decode cX2_append 4 = .ok (.istore_n 3, 1) := by decide +kernel
theorem dX2_append_5 : decode cX2_append 5 = .ok (.aload_n 0, 1) := by decide +kernel
theorem dX2_append_6 : decode cX2_append 6 = .ok (.getfield 21, 3) := by decide +kernel
theorem dX2_append_9 : decode cX2_append 9 = .ok (.iload_n 3, 1) := by decide +kernel
theorem dX2_append_10 : decode cX2_append 10 = .ok (.iload_n 1, 1) := by decide +kernel
theorem dX2_append_11 : decode cX2_append 11 = .ok (.iastore, 1) := by decide +kernel
theorem dX2_append_12 : decode cX2_append 12 = .ok (.aload_n 0, 1) := by decide +kernel
theorem dX2_append_13 : decode cX2_append 13 = .ok (.getfield 25, 3) := by decide +kernel
theorem dX2_append_16 : decode cX2_append 16 = .ok (.iload_n 3, 1) := by decide +kernel
theorem dX2_append_17 : decode cX2_append 17 = .ok (.iload_n 2, 1) := by decide +kernel
theorem dX2_append_18 : decode cX2_append 18 = .ok (.iastore, 1) := by decide +kernel
theorem dX2_append_19 : decode cX2_append 19 = .ok (.aload_n 0, 1) := by decide +kernel
theorem dX2_append_20 : decode cX2_append 20 = .ok (.getfield 28, 3) := by decide +kernel
theorem dX2_append_23 : decode cX2_append 23 = .ok (.iload_n 3, 1) := by decide +kernel
theorem dX2_append_24 : decode cX2_append 24 = .ok (.lconst 0, 1) := by decide +kernel
theorem dX2_append_25 : decode cX2_append 25 = .ok (.lastore, 1) := by decide +kernel
theorem dX2_append_26 : decode cX2_append 26 = .ok (.iconst 0, 1) := by decide +kernel
theorem dX2_append_27 : decode cX2_append 27 = .ok (.istore 4, 2) := by decide +kernel
theorem dX2_append_29 : decode cX2_append 29 = .ok (.iload 4, 2) := by decide +kernel
theorem dX2_append_31 : decode cX2_append 31 = .ok (.bipush 12, 2) := by decide +kernel
theorem dX2_append_33 : decode cX2_append 33 = .ok (.if_icmp .ge 22, 3) := by decide +kernel
theorem dX2_append_36 : decode cX2_append 36 = .ok (.aload_n 0, 1) := by decide +kernel
theorem dX2_append_37 : decode cX2_append 37 = .ok (.getfield 32, 3) := by decide +kernel
theorem dX2_append_40 : decode cX2_append 40 = .ok (.iload_n 3, 1) := by decide +kernel
theorem dX2_append_41 : decode cX2_append 41 = .ok (.bipush 12, 2) := by decide +kernel
theorem dX2_append_43 : decode cX2_append 43 = .ok (.imul, 1) := by decide +kernel
theorem dX2_append_44 : decode cX2_append 44 = .ok (.iload 4, 2) := by decide +kernel
theorem dX2_append_46 : decode cX2_append 46 = .ok (.iadd, 1) := by decide +kernel
theorem dX2_append_47 : decode cX2_append 47 = .ok (.iconst 0, 1) := by decide +kernel
theorem dX2_append_48 : decode cX2_append 48 = .ok (.iastore, 1) := by decide +kernel
theorem dX2_append_49 : decode cX2_append 49 = .ok (.iinc 4 1, 3) := by decide +kernel
theorem dX2_append_52 : decode cX2_append 52 = .ok (.goto (-23), 3) := by decide +kernel
theorem dX2_append_55 : decode cX2_append 55 = .ok (.aload_n 0, 1) := by decide +kernel
theorem dX2_append_56 : decode cX2_append 56 = .ok (.dup, 1) := by decide +kernel
theorem dX2_append_57 : decode cX2_append 57 = .ok (.getfield 18, 3) := by decide +kernel
theorem dX2_append_60 : decode cX2_append 60 = .ok (.iconst 1, 1) := by decide +kernel
theorem dX2_append_61 : decode cX2_append 61 = .ok (.iadd, 1) := by decide +kernel
theorem dX2_append_62 : decode cX2_append 62 = .ok (.putfield 18, 3) := by decide +kernel
theorem dX2_append_65 : decode cX2_append 65 = .ok (.iload_n 3, 1) := by decide +kernel
theorem dX2_append_66 : decode cX2_append 66 = .ok (.ireturn, 1) := by decide +kernel
theorem dX2_rowNumber_0 : decode cX2_rowNumber 0 = .ok (.aload_n 0, 1) := by decide +kernel
theorem dX2_rowNumber_1 : decode cX2_rowNumber 1 = .ok (.getfield 32, 3) := by decide +kernel
theorem dX2_rowNumber_4 : decode cX2_rowNumber 4 = .ok (.iload_n 1, 1) := by decide +kernel
theorem dX2_rowNumber_5 : decode cX2_rowNumber 5 = .ok (.bipush 12, 2) := by decide +kernel
theorem dX2_rowNumber_7 : decode cX2_rowNumber 7 = .ok (.imul, 1) := by decide +kernel
theorem dX2_rowNumber_8 : decode cX2_rowNumber 8 = .ok (.iload_n 3, 1) := by decide +kernel
theorem dX2_rowNumber_9 : decode cX2_rowNumber 9 = .ok (.iadd, 1) := by decide +kernel
theorem dX2_rowNumber_10 : decode cX2_rowNumber 10 = .ok (.iaload, 1) := by decide +kernel
theorem dX2_rowNumber_11 : decode cX2_rowNumber 11 = .ok (.istore 4, 2) := by decide +kernel
theorem dX2_rowNumber_13 : decode cX2_rowNumber 13 = .ok (.aload_n 0, 1) := by decide +kernel
theorem dX2_rowNumber_14 : decode cX2_rowNumber 14 = .ok (.getfield 32, 3) := by decide +kernel
theorem dX2_rowNumber_17 : decode cX2_rowNumber 17 = .ok (.iload_n 1, 1) := by decide +kernel
theorem dX2_rowNumber_18 : decode cX2_rowNumber 18 = .ok (.bipush 12, 2) := by decide +kernel
theorem dX2_rowNumber_20 : decode cX2_rowNumber 20 = .ok (.imul, 1) := by decide +kernel
theorem dX2_rowNumber_21 : decode cX2_rowNumber 21 = .ok (.bipush 6, 2) := by decide +kernel
theorem dX2_rowNumber_23 : decode cX2_rowNumber 23 = .ok (.iadd, 1) := by decide +kernel
theorem dX2_rowNumber_24 : decode cX2_rowNumber 24 = .ok (.iload_n 3, 1) := by decide +kernel
theorem dX2_rowNumber_25 : decode cX2_rowNumber 25 = .ok (.iadd, 1) := by decide +kernel
theorem dX2_rowNumber_26 : decode cX2_rowNumber 26 = .ok (.iaload, 1) := by decide +kernel
theorem dX2_rowNumber_27 : decode cX2_rowNumber 27 = .ok (.istore 5, 2) := by decide +kernel
theorem dX2_rowNumber_29 : decode cX2_rowNumber 29 = .ok (.aload_n 0, 1) := by decide +kernel
theorem dX2_rowNumber_30 : decode cX2_rowNumber 30 = .ok (.getfield 21, 3) := by decide +kernel
theorem dX2_rowNumber_33 : decode cX2_rowNumber 33 = .ok (.iload_n 1, 1) := by decide +kernel
theorem dX2_rowNumber_34 : decode cX2_rowNumber 34 = .ok (.iaload, 1) := by decide +kernel
theorem dX2_rowNumber_35 : decode cX2_rowNumber 35 = .ok (.istore 6, 2) := by decide +kernel
theorem dX2_rowNumber_37 : decode cX2_rowNumber 37 = .ok (.iload_n 2, 1) := by decide +kernel
theorem dX2_rowNumber_38 : decode cX2_rowNumber 38 = .ok (.ifCond .ne 17, 3) := by decide +kernel
theorem dX2_rowNumber_41 : decode cX2_rowNumber 41 = .ok (.iload 6, 2) := by decide +kernel
theorem dX2_rowNumber_43 : decode cX2_rowNumber 43 = .ok (.iload 4, 2) := by decide +kernel
theorem dX2_rowNumber_45 : decode cX2_rowNumber 45 = .ok (.iload 5, 2) := by decide +kernel
theorem dX2_rowNumber_47 : decode cX2_rowNumber 47 = .ok (.iload_n 3, 1) := by decide +kernel
theorem dX2_rowNumber_48 : decode cX2_rowNumber 48 = .ok (.invokestatic 44, 3) := by decide +kernel
theorem dX2_rowNumber_51 : decode cX2_rowNumber 51 = .ok (.i2l, 1) := by decide +kernel
theorem dX2_rowNumber_52 : decode cX2_rowNumber 52 = .ok (.goto 13, 3) := by decide +kernel
theorem dX2_rowNumber_55 : decode cX2_rowNumber 55 = .ok (.iload 6, 2) := by decide +kernel
theorem dX2_rowNumber_57 : decode cX2_rowNumber 57 = .ok (.iload 4, 2) := by decide +kernel
theorem dX2_rowNumber_59 : decode cX2_rowNumber 59 = .ok (.iload 5, 2) := by decide +kernel
theorem dX2_rowNumber_61 : decode cX2_rowNumber 61 = .ok (.invokestatic 48, 3) := by decide +kernel
theorem dX2_rowNumber_64 : decode cX2_rowNumber 64 = .ok (.i2l, 1) := by decide +kernel
theorem dX2_rowNumber_65 : decode cX2_rowNumber 65 = .ok (.aload_n 0, 1) := by decide +kernel
theorem dX2_rowNumber_66 : decode cX2_rowNumber 66 = .ok (.getfield 9, 3) := by decide +kernel
theorem dX2_rowNumber_69 : decode cX2_rowNumber 69 = .ok (.invokestatic 52, 3) := by decide +kernel
theorem dX2_rowNumber_72 : decode cX2_rowNumber 72 = .ok (.ireturn, 1) := by decide +kernel
theorem dX2_inFirst_0 : decode cX2_inFirst 0 = .ok (.iload_n 0, 1) := by decide +kernel
theorem dX2_inFirst_1 : decode cX2_inFirst 1 = .ok (.lookupswitch 39 #[(2, 27), (4, 29)], 27) := by decide +kernel
theorem dX2_inFirst_28 : decode cX2_inFirst 28 = .ok (.iload_n 2, 1) := by decide +kernel
theorem dX2_inFirst_29 : decode cX2_inFirst 29 = .ok (.ireturn, 1) := by decide +kernel
theorem dX2_inFirst_30 : decode cX2_inFirst 30 = .ok (.iload_n 3, 1) := by decide +kernel
theorem dX2_inFirst_31 : decode cX2_inFirst 31 = .ok (.ifCond .ne 7, 3) := by decide +kernel
theorem dX2_inFirst_34 : decode cX2_inFirst 34 = .ok (.iconst 0, 1) := by decide +kernel
theorem dX2_inFirst_35 : decode cX2_inFirst 35 = .ok (.goto 4, 3) := by decide +kernel
theorem dX2_inFirst_38 : decode cX2_inFirst 38 = .ok (.iload_n 2, 1) := by decide +kernel
theorem dX2_inFirst_39 : decode cX2_inFirst 39 = .ok (.ireturn, 1) := by decide +kernel
theorem dX2_inFirst_40 : decode cX2_inFirst 40 = .ok (.iload_n 1, 1) := by decide +kernel
theorem dX2_inFirst_41 : decode cX2_inFirst 41 = .ok (.ireturn, 1) := by decide +kernel
theorem dX2_inSecond_0 : decode cX2_inSecond 0 = .ok (.iload_n 0, 1) := by decide +kernel
theorem dX2_inSecond_1 : decode cX2_inSecond 1 = .ok (.tableswitch 47 1 5 #[35, 45, 39, 45, 45], 35) := by decide +kernel
theorem dX2_inSecond_36 : decode cX2_inSecond 36 = .ok (.iload_n 1, 1) := by decide +kernel
theorem dX2_inSecond_37 : decode cX2_inSecond 37 = .ok (.iload_n 2, 1) := by decide +kernel
theorem dX2_inSecond_38 : decode cX2_inSecond 38 = .ok (.iadd, 1) := by decide +kernel
theorem dX2_inSecond_39 : decode cX2_inSecond 39 = .ok (.ireturn, 1) := by decide +kernel
theorem dX2_inSecond_40 : decode cX2_inSecond 40 = .ok (.iload_n 1, 1) := by decide +kernel
theorem dX2_inSecond_41 : decode cX2_inSecond 41 = .ok (.iload_n 2, 1) := by decide +kernel
theorem dX2_inSecond_42 : decode cX2_inSecond 42 = .ok (.iadd, 1) := by decide +kernel
theorem dX2_inSecond_43 : decode cX2_inSecond 43 = .ok (.iload_n 1, 1) := by decide +kernel
theorem dX2_inSecond_44 : decode cX2_inSecond 44 = .ok (.iadd, 1) := by decide +kernel
theorem dX2_inSecond_45 : decode cX2_inSecond 45 = .ok (.ireturn, 1) := by decide +kernel
theorem dX2_inSecond_46 : decode cX2_inSecond 46 = .ok (.iload_n 1, 1) := by decide +kernel
theorem dX2_inSecond_47 : decode cX2_inSecond 47 = .ok (.ireturn, 1) := by decide +kernel
theorem dX2_inSecond_48 : decode cX2_inSecond 48 = .ok (.iload_n 2, 1) := by decide +kernel
theorem dX2_inSecond_49 : decode cX2_inSecond 49 = .ok (.ireturn, 1) := by decide +kernel
theorem dX2_weightOf_0 : decode cX2_weightOf 0 = .ok (.iconst 0, 1) := by decide +kernel
theorem dX2_weightOf_1 : decode cX2_weightOf 1 = .ok (.istore_n 2, 1) := by decide +kernel
theorem dX2_weightOf_2 : decode cX2_weightOf 2 = .ok (.iconst 0, 1) := by decide +kernel
theorem dX2_weightOf_3 : decode cX2_weightOf 3 = .ok (.istore_n 3, 1) := by decide +kernel
theorem dX2_weightOf_4 : decode cX2_weightOf 4 = .ok (.iload_n 3, 1) := by decide +kernel
theorem dX2_weightOf_5 : decode cX2_weightOf 5 = .ok (.aload_n 0, 1) := by decide +kernel
theorem dX2_weightOf_6 : decode cX2_weightOf 6 = .ok (.getfield 18, 3) := by decide +kernel
theorem dX2_weightOf_9 : decode cX2_weightOf 9 = .ok (.if_icmp .ge 27, 3) := by decide +kernel
theorem dX2_weightOf_12 : decode cX2_weightOf 12 = .ok (.iload_n 1, 1) := by decide +kernel
theorem dX2_weightOf_13 : decode cX2_weightOf 13 = .ok (.iload_n 3, 1) := by decide +kernel
theorem dX2_weightOf_14 : decode cX2_weightOf 14 = .ok (.ishr, 1) := by decide +kernel
theorem dX2_weightOf_15 : decode cX2_weightOf 15 = .ok (.iconst 1, 1) := by decide +kernel
theorem dX2_weightOf_16 : decode cX2_weightOf 16 = .ok (.iand, 1) := by decide +kernel
theorem dX2_weightOf_17 : decode cX2_weightOf 17 = .ok (.iconst 1, 1) := by decide +kernel
theorem dX2_weightOf_18 : decode cX2_weightOf 18 = .ok (.if_icmp .ne 12, 3) := by decide +kernel
theorem dX2_weightOf_21 : decode cX2_weightOf 21 = .ok (.iload_n 2, 1) := by decide +kernel
theorem dX2_weightOf_22 : decode cX2_weightOf 22 = .ok (.aload_n 0, 1) := by decide +kernel
theorem dX2_weightOf_23 : decode cX2_weightOf 23 = .ok (.getfield 25, 3) := by decide +kernel
theorem dX2_weightOf_26 : decode cX2_weightOf 26 = .ok (.iload_n 3, 1) := by decide +kernel
theorem dX2_weightOf_27 : decode cX2_weightOf 27 = .ok (.iaload, 1) := by decide +kernel
theorem dX2_weightOf_28 : decode cX2_weightOf 28 = .ok (.iadd, 1) := by decide +kernel
theorem dX2_weightOf_29 : decode cX2_weightOf 29 = .ok (.istore_n 2, 1) := by decide +kernel
theorem dX2_weightOf_30 : decode cX2_weightOf 30 = .ok (.iinc 3 1, 3) := by decide +kernel
theorem dX2_weightOf_33 : decode cX2_weightOf 33 = .ok (.goto (-29), 3) := by decide +kernel
theorem dX2_weightOf_36 : decode cX2_weightOf 36 = .ok (.iload_n 2, 1) := by decide +kernel
theorem dX2_weightOf_37 : decode cX2_weightOf 37 = .ok (.ireturn, 1) := by decide +kernel
theorem dX2_placeInQueue_0 : decode cX2_placeInQueue 0 = .ok (.iconst 0, 1) := by decide +kernel
theorem dX2_placeInQueue_1 : decode cX2_placeInQueue 1 = .ok (.istore_n 2, 1) := by decide +kernel
theorem dX2_placeInQueue_2 : decode cX2_placeInQueue 2 = .ok (.iconst 0, 1) := by decide +kernel
theorem dX2_placeInQueue_3 : decode cX2_placeInQueue 3 = .ok (.istore_n 3, 1) := by decide +kernel
theorem dX2_placeInQueue_4 : decode cX2_placeInQueue 4 = .ok (.iload_n 3, 1) := by decide +kernel
theorem dX2_placeInQueue_5 : decode cX2_placeInQueue 5 = .ok (.aload_n 0, 1) := by decide +kernel
theorem dX2_placeInQueue_6 : decode cX2_placeInQueue 6 = .ok (.getfield 18, 3) := by decide +kernel
theorem dX2_placeInQueue_9 : decode cX2_placeInQueue 9 = .ok (.if_icmp .ge 21, 3) := by decide +kernel
theorem dX2_placeInQueue_12 : decode cX2_placeInQueue 12 = .ok (.aload_n 0, 1) := by decide +kernel
theorem dX2_placeInQueue_13 : decode cX2_placeInQueue 13 = .ok (.iload_n 3, 1) := by decide +kernel
theorem dX2_placeInQueue_14 : decode cX2_placeInQueue 14 = .ok (.iload_n 1, 1) := by decide +kernel
theorem dX2_placeInQueue_15 : decode cX2_placeInQueue 15 = .ok (.invokevirtual 56, 3) := by decide +kernel
theorem dX2_placeInQueue_18 : decode cX2_placeInQueue 18 = .ok (.ifCond .eq 6, 3) := by decide +kernel
theorem dX2_placeInQueue_21 : decode cX2_placeInQueue 21 = .ok (.iinc 2 1, 3) := by decide +kernel
theorem dX2_placeInQueue_24 : decode cX2_placeInQueue 24 = .ok (.iinc 3 1, 3) := by decide +kernel
theorem dX2_placeInQueue_27 : decode cX2_placeInQueue 27 = .ok (.goto (-23), 3) := by decide +kernel
theorem dX2_placeInQueue_30 : decode cX2_placeInQueue 30 = .ok (.iload_n 2, 1) := by decide +kernel
theorem dX2_placeInQueue_31 : decode cX2_placeInQueue 31 = .ok (.ireturn, 1) := by decide +kernel
theorem dX2_isAhead_0 : decode cX2_isAhead 0 = .ok (.aload_n 0, 1) := by decide +kernel
theorem dX2_isAhead_1 : decode cX2_isAhead 1 = .ok (.getfield 25, 3) := by decide +kernel
theorem dX2_isAhead_4 : decode cX2_isAhead 4 = .ok (.iload_n 1, 1) := by decide +kernel
theorem dX2_isAhead_5 : decode cX2_isAhead 5 = .ok (.iaload, 1) := by decide +kernel
theorem dX2_isAhead_6 : decode cX2_isAhead 6 = .ok (.aload_n 0, 1) := by decide +kernel
theorem dX2_isAhead_7 : decode cX2_isAhead 7 = .ok (.getfield 25, 3) := by decide +kernel
theorem dX2_isAhead_10 : decode cX2_isAhead 10 = .ok (.iload_n 2, 1) := by decide +kernel
theorem dX2_isAhead_11 : decode cX2_isAhead 11 = .ok (.iaload, 1) := by decide +kernel
theorem dX2_isAhead_12 : decode cX2_isAhead 12 = .ok (.if_icmp .eq 24, 3) := by decide +kernel
theorem dX2_isAhead_15 : decode cX2_isAhead 15 = .ok (.aload_n 0, 1) := by decide +kernel
theorem dX2_isAhead_16 : decode cX2_isAhead 16 = .ok (.getfield 25, 3) := by decide +kernel
theorem dX2_isAhead_19 : decode cX2_isAhead 19 = .ok (.iload_n 1, 1) := by decide +kernel
theorem dX2_isAhead_20 : decode cX2_isAhead 20 = .ok (.iaload, 1) := by decide +kernel
theorem dX2_isAhead_21 : decode cX2_isAhead 21 = .ok (.aload_n 0, 1) := by decide +kernel
theorem dX2_isAhead_22 : decode cX2_isAhead 22 = .ok (.getfield 25, 3) := by decide +kernel
theorem dX2_isAhead_25 : decode cX2_isAhead 25 = .ok (.iload_n 2, 1) := by decide +kernel
theorem dX2_isAhead_26 : decode cX2_isAhead 26 = .ok (.iaload, 1) := by decide +kernel
theorem dX2_isAhead_27 : decode cX2_isAhead 27 = .ok (.if_icmp .le 7, 3) := by decide +kernel
theorem dX2_isAhead_30 : decode cX2_isAhead 30 = .ok (.iconst 1, 1) := by decide +kernel
theorem dX2_isAhead_31 : decode cX2_isAhead 31 = .ok (.goto 4, 3) := by decide +kernel
theorem dX2_isAhead_34 : decode cX2_isAhead 34 = .ok (.iconst 0, 1) := by decide +kernel
theorem dX2_isAhead_35 : decode cX2_isAhead 35 = .ok (.ireturn, 1) := by decide +kernel
theorem dX2_isAhead_36 : decode cX2_isAhead 36 = .ok (.aload_n 0, 1) := by decide +kernel
theorem dX2_isAhead_37 : decode cX2_isAhead 37 = .ok (.getfield 21, 3) := by decide +kernel
theorem dX2_isAhead_40 : decode cX2_isAhead 40 = .ok (.iload_n 1, 1) := by decide +kernel
theorem dX2_isAhead_41 : decode cX2_isAhead 41 = .ok (.iaload, 1) := by decide +kernel
theorem dX2_isAhead_42 : decode cX2_isAhead 42 = .ok (.aload_n 0, 1) := by decide +kernel
theorem dX2_isAhead_43 : decode cX2_isAhead 43 = .ok (.getfield 21, 3) := by decide +kernel
theorem dX2_isAhead_46 : decode cX2_isAhead 46 = .ok (.iload_n 2, 1) := by decide +kernel
theorem dX2_isAhead_47 : decode cX2_isAhead 47 = .ok (.iaload, 1) := by decide +kernel
theorem dX2_isAhead_48 : decode cX2_isAhead 48 = .ok (.if_icmp .eq 24, 3) := by decide +kernel
theorem dX2_isAhead_51 : decode cX2_isAhead 51 = .ok (.aload_n 0, 1) := by decide +kernel
theorem dX2_isAhead_52 : decode cX2_isAhead 52 = .ok (.getfield 21, 3) := by decide +kernel
theorem dX2_isAhead_55 : decode cX2_isAhead 55 = .ok (.iload_n 1, 1) := by decide +kernel
theorem dX2_isAhead_56 : decode cX2_isAhead 56 = .ok (.iaload, 1) := by decide +kernel
theorem dX2_isAhead_57 : decode cX2_isAhead 57 = .ok (.aload_n 0, 1) := by decide +kernel
theorem dX2_isAhead_58 : decode cX2_isAhead 58 = .ok (.getfield 21, 3) := by decide +kernel
theorem dX2_isAhead_61 : decode cX2_isAhead 61 = .ok (.iload_n 2, 1) := by decide +kernel
theorem dX2_isAhead_62 : decode cX2_isAhead 62 = .ok (.iaload, 1) := by decide +kernel
theorem dX2_isAhead_63 : decode cX2_isAhead 63 = .ok (.if_icmp .ge 7, 3) := by decide +kernel
theorem dX2_isAhead_66 : decode cX2_isAhead 66 = .ok (.iconst 1, 1) := by decide +kernel
theorem dX2_isAhead_67 : decode cX2_isAhead 67 = .ok (.goto 4, 3) := by decide +kernel
theorem dX2_isAhead_70 : decode cX2_isAhead 70 = .ok (.iconst 0, 1) := by decide +kernel
theorem dX2_isAhead_71 : decode cX2_isAhead 71 = .ok (.ireturn, 1) := by decide +kernel
theorem dX2_isAhead_72 : decode cX2_isAhead 72 = .ok (.iload_n 1, 1) := by decide +kernel
theorem dX2_isAhead_73 : decode cX2_isAhead 73 = .ok (.iload_n 2, 1) := by decide +kernel
theorem dX2_isAhead_74 : decode cX2_isAhead 74 = .ok (.if_icmp .ge 7, 3) := by decide +kernel
theorem dX2_isAhead_77 : decode cX2_isAhead 77 = .ok (.iconst 1, 1) := by decide +kernel
theorem dX2_isAhead_78 : decode cX2_isAhead 78 = .ok (.goto 4, 3) := by decide +kernel
theorem dX2_isAhead_81 : decode cX2_isAhead 81 = .ok (.iconst 0, 1) := by decide +kernel
theorem dX2_isAhead_82 : decode cX2_isAhead 82 = .ok (.ireturn, 1) := by decide +kernel
theorem dX2_ownerOf_0 : decode cX2_ownerOf 0 = .ok (.iconst 0, 1) := by decide +kernel
theorem dX2_ownerOf_1 : decode cX2_ownerOf 1 = .ok (.istore_n 3, 1) := by decide +kernel
theorem dX2_ownerOf_2 : decode cX2_ownerOf 2 = .ok (.iload_n 3, 1) := by decide +kernel
theorem dX2_ownerOf_3 : decode cX2_ownerOf 3 = .ok (.aload_n 0, 1) := by decide +kernel
theorem dX2_ownerOf_4 : decode cX2_ownerOf 4 = .ok (.getfield 18, 3) := by decide +kernel
theorem dX2_ownerOf_7 : decode cX2_ownerOf 7 = .ok (.if_icmp .ge 22, 3) := by decide +kernel
theorem dX2_ownerOf_10 : decode cX2_ownerOf 10 = .ok (.aload_n 0, 1) := by decide +kernel
theorem dX2_ownerOf_11 : decode cX2_ownerOf 11 = .ok (.getfield 28, 3) := by decide +kernel
theorem dX2_ownerOf_14 : decode cX2_ownerOf 14 = .ok (.iload_n 3, 1) := by decide +kernel
theorem dX2_ownerOf_15 : decode cX2_ownerOf 15 = .ok (.laload, 1) := by decide +kernel
theorem dX2_ownerOf_16 : decode cX2_ownerOf 16 = .ok (.lload_n 1, 1) := by decide +kernel
theorem dX2_ownerOf_17 : decode cX2_ownerOf 17 = .ok (.lcmp, 1) := by decide +kernel
theorem dX2_ownerOf_18 : decode cX2_ownerOf 18 = .ok (.ifCond .ne 5, 3) := by decide +kernel
theorem dX2_ownerOf_21 : decode cX2_ownerOf 21 = .ok (.iload_n 3, 1) := by decide +kernel
theorem dX2_ownerOf_22 : decode cX2_ownerOf 22 = .ok (.ireturn, 1) := by decide +kernel
theorem dX2_ownerOf_23 : decode cX2_ownerOf 23 = .ok (.iinc 3 1, 3) := by decide +kernel
theorem dX2_ownerOf_26 : decode cX2_ownerOf 26 = .ok (.goto (-24), 3) := by decide +kernel
theorem dX2_ownerOf_29 : decode cX2_ownerOf 29 = .ok (.iconst (-1), 1) := by decide +kernel
theorem dX2_ownerOf_30 : decode cX2_ownerOf 30 = .ok (.ireturn, 1) := by decide +kernel
theorem dX2_namesBelow_0 : decode cX2_namesBelow 0 = .ok (.iconst 0, 1) := by decide +kernel
theorem dX2_namesBelow_1 : decode cX2_namesBelow 1 = .ok (.istore_n 3, 1) := by decide +kernel
theorem dX2_namesBelow_2 : decode cX2_namesBelow 2 = .ok (.iconst 0, 1) := by decide +kernel
theorem dX2_namesBelow_3 : decode cX2_namesBelow 3 = .ok (.istore 4, 2) := by decide +kernel
theorem dX2_namesBelow_5 : decode cX2_namesBelow 5 = .ok (.iload 4, 2) := by decide +kernel
theorem dX2_namesBelow_7 : decode cX2_namesBelow 7 = .ok (.aload_n 0, 1) := by decide +kernel
theorem dX2_namesBelow_8 : decode cX2_namesBelow 8 = .ok (.getfield 18, 3) := by decide +kernel
theorem dX2_namesBelow_11 : decode cX2_namesBelow 11 = .ok (.if_icmp .ge 36, 3) := by decide +kernel
theorem dX2_namesBelow_14 : decode cX2_namesBelow 14 = .ok (.aload_n 0, 1) := by decide +kernel
theorem dX2_namesBelow_15 : decode cX2_namesBelow 15 = .ok (.getfield 28, 3) := by decide +kernel
theorem dX2_namesBelow_18 : decode cX2_namesBelow 18 = .ok (.iload 4, 2) := by decide +kernel
theorem dX2_namesBelow_20 : decode cX2_namesBelow 20 = .ok (.laload, 1) := by decide +kernel
theorem dX2_namesBelow_21 : decode cX2_namesBelow 21 = .ok (.lconst 0, 1) := by decide +kernel
theorem dX2_namesBelow_22 : decode cX2_namesBelow 22 = .ok (.lcmp, 1) := by decide +kernel
theorem dX2_namesBelow_23 : decode cX2_namesBelow 23 = .ok (.ifCond .eq 18, 3) := by decide +kernel
theorem dX2_namesBelow_26 : decode cX2_namesBelow 26 = .ok (.aload_n 0, 1) := by decide +kernel
theorem dX2_namesBelow_27 : decode cX2_namesBelow 27 = .ok (.getfield 28, 3) := by decide +kernel
theorem dX2_namesBelow_30 : decode cX2_namesBelow 30 = .ok (.iload 4, 2) := by decide +kernel
theorem dX2_namesBelow_32 : decode cX2_namesBelow 32 = .ok (.laload, 1) := by decide +kernel
theorem dX2_namesBelow_33 : decode cX2_namesBelow 33 = .ok (.lload_n 1, 1) := by decide +kernel
theorem dX2_namesBelow_34 : decode cX2_namesBelow 34 = .ok (.lcmp, 1) := by decide +kernel
theorem dX2_namesBelow_35 : decode cX2_namesBelow 35 = .ok (.ifCond .ge 6, 3) := by decide +kernel
theorem dX2_namesBelow_38 : decode cX2_namesBelow 38 = .ok (.iinc 3 1, 3) := by decide +kernel
theorem dX2_namesBelow_41 : decode cX2_namesBelow 41 = .ok (.iinc 4 1, 3) := by decide +kernel
theorem dX2_namesBelow_44 : decode cX2_namesBelow 44 = .ok (.goto (-39), 3) := by decide +kernel
theorem dX2_namesBelow_47 : decode cX2_namesBelow 47 = .ok (.iload_n 3, 1) := by decide +kernel
theorem dX2_namesBelow_48 : decode cX2_namesBelow 48 = .ok (.ireturn, 1) := by decide +kernel
theorem dX2_namesInAll_0 : decode cX2_namesInAll 0 = .ok (.iconst 0, 1) := by decide +kernel
theorem dX2_namesInAll_1 : decode cX2_namesInAll 1 = .ok (.istore_n 1, 1) := by decide +kernel
theorem dX2_namesInAll_2 : decode cX2_namesInAll 2 = .ok (.iconst 0, 1) := by decide +kernel
theorem dX2_namesInAll_3 : decode cX2_namesInAll 3 = .ok (.istore_n 2, 1) := by decide +kernel
theorem dX2_namesInAll_4 : decode cX2_namesInAll 4 = .ok (.iload_n 2, 1) := by decide +kernel
theorem dX2_namesInAll_5 : decode cX2_namesInAll 5 = .ok (.aload_n 0, 1) := by decide +kernel
theorem dX2_namesInAll_6 : decode cX2_namesInAll 6 = .ok (.getfield 18, 3) := by decide +kernel
theorem dX2_namesInAll_9 : decode cX2_namesInAll 9 = .ok (.if_icmp .ge 23, 3) := by decide +kernel
theorem dX2_namesInAll_12 : decode cX2_namesInAll 12 = .ok (.aload_n 0, 1) := by decide +kernel
theorem dX2_namesInAll_13 : decode cX2_namesInAll 13 = .ok (.getfield 28, 3) := by decide +kernel
theorem dX2_namesInAll_16 : decode cX2_namesInAll 16 = .ok (.iload_n 2, 1) := by decide +kernel
theorem dX2_namesInAll_17 : decode cX2_namesInAll 17 = .ok (.laload, 1) := by decide +kernel
theorem dX2_namesInAll_18 : decode cX2_namesInAll 18 = .ok (.lconst 0, 1) := by decide +kernel
theorem dX2_namesInAll_19 : decode cX2_namesInAll 19 = .ok (.lcmp, 1) := by decide +kernel
theorem dX2_namesInAll_20 : decode cX2_namesInAll 20 = .ok (.ifCond .eq 6, 3) := by decide +kernel
theorem dX2_namesInAll_23 : decode cX2_namesInAll 23 = .ok (.iinc 1 1, 3) := by decide +kernel
theorem dX2_namesInAll_26 : decode cX2_namesInAll 26 = .ok (.iinc 2 1, 3) := by decide +kernel
theorem dX2_namesInAll_29 : decode cX2_namesInAll 29 = .ok (.goto (-25), 3) := by decide +kernel
theorem dX2_namesInAll_32 : decode cX2_namesInAll 32 = .ok (.iload_n 1, 1) := by decide +kernel
theorem dX2_namesInAll_33 : decode cX2_namesInAll 33 = .ok (.ireturn, 1) := by decide +kernel
theorem dX2_linesAt_0 : decode cX2_linesAt 0 = .ok (.aload_n 0, 1) := by decide +kernel
theorem dX2_linesAt_1 : decode cX2_linesAt 1 = .ok (.getfield 35, 3) := by decide +kernel
theorem dX2_linesAt_4 : decode cX2_linesAt 4 = .ok (.iload_n 1, 1) := by decide +kernel
theorem dX2_linesAt_5 : decode cX2_linesAt 5 = .ok (.iaload, 1) := by decide +kernel
theorem dX2_linesAt_6 : decode cX2_linesAt 6 = .ok (.invokestatic 60, 3) := by decide +kernel
theorem dX2_linesAt_9 : decode cX2_linesAt 9 = .ok (.ireturn, 1) := by decide +kernel
theorem dX2_linesInAll_0 : decode cX2_linesInAll 0 = .ok (.iconst 0, 1) := by decide +kernel
theorem dX2_linesInAll_1 : decode cX2_linesInAll 1 = .ok (.istore_n 1, 1) := by decide +kernel
theorem dX2_linesInAll_2 : decode cX2_linesInAll 2 = .ok (.iconst 0, 1) := by decide +kernel
theorem dX2_linesInAll_3 : decode cX2_linesInAll 3 = .ok (.istore_n 2, 1) := by decide +kernel
theorem dX2_linesInAll_4 : decode cX2_linesInAll 4 = .ok (.iload_n 2, 1) := by decide +kernel
theorem dX2_linesInAll_5 : decode cX2_linesInAll 5 = .ok (.bipush 8, 2) := by decide +kernel
theorem dX2_linesInAll_7 : decode cX2_linesInAll 7 = .ok (.if_icmp .ge 17, 3) := by decide +kernel
theorem dX2_linesInAll_10 : decode cX2_linesInAll 10 = .ok (.iload_n 1, 1) := by decide +kernel
theorem dX2_linesInAll_11 : decode cX2_linesInAll 11 = .ok (.aload_n 0, 1) := by decide +kernel
theorem dX2_linesInAll_12 : decode cX2_linesInAll 12 = .ok (.iload_n 2, 1) := by decide +kernel
theorem dX2_linesInAll_13 : decode cX2_linesInAll 13 = .ok (.invokevirtual 66, 3) := by decide +kernel
theorem dX2_linesInAll_16 : decode cX2_linesInAll 16 = .ok (.iadd, 1) := by decide +kernel
theorem dX2_linesInAll_17 : decode cX2_linesInAll 17 = .ok (.istore_n 1, 1) := by decide +kernel
theorem dX2_linesInAll_18 : decode cX2_linesInAll 18 = .ok (.iinc 2 1, 3) := by decide +kernel
theorem dX2_linesInAll_21 : decode cX2_linesInAll 21 = .ok (.goto (-17), 3) := by decide +kernel
theorem dX2_linesInAll_24 : decode cX2_linesInAll 24 = .ok (.iload_n 1, 1) := by decide +kernel
theorem dX2_linesInAll_25 : decode cX2_linesInAll 25 = .ok (.iconst 2, 1) := by decide +kernel
theorem dX2_linesInAll_26 : decode cX2_linesInAll 26 = .ok (.idiv, 1) := by decide +kernel
theorem dX2_linesInAll_27 : decode cX2_linesInAll 27 = .ok (.ireturn, 1) := by decide +kernel
theorem dX3_init_0 : decode cX3_init 0 = .ok (.aload_n 0, 1) := by decide +kernel
theorem dX3_init_1 : decode cX3_init 1 = .ok (.invokespecial 3, 3) := by decide +kernel
theorem dX3_init_4 : decode cX3_init 4 = .ok (.aload_n 0, 1) := by decide +kernel
theorem dX3_init_5 : decode cX3_init 5 = .ok (.iconst 0, 1) := by decide +kernel
theorem dX3_init_6 : decode cX3_init 6 = .ok (.putfield 9, 3) := by decide +kernel
theorem dX3_init_9 : decode cX3_init 9 = .ok (.aload_n 0, 1) := by decide +kernel
theorem dX3_init_10 : decode cX3_init 10 = .ok (.bipush 20, 2) := by decide +kernel
theorem dX3_init_12 : decode cX3_init 12 = .ok (.newarray .long, 2) := by decide +kernel
theorem dX3_init_14 : decode cX3_init 14 = .ok (.putfield 15, 3) := by decide +kernel
theorem dX3_init_17 : decode cX3_init 17 = .ok (.return_, 1) := by decide +kernel
theorem dX3_fill_0 : decode cX3_fill 0 = .ok (.aload_n 0, 1) := by decide +kernel
theorem dX3_fill_1 : decode cX3_fill 1 = .ok (.iconst 0, 1) := by decide +kernel
theorem dX3_fill_2 : decode cX3_fill 2 = .ok (.putfield 9, 3) := by decide +kernel
theorem dX3_fill_5 : decode cX3_fill 5 = .ok (.iconst 0, 1) := by decide +kernel
theorem dX3_fill_6 : decode cX3_fill 6 = .ok (.istore_n 2, 1) := by decide +kernel
theorem dX3_fill_7 : decode cX3_fill 7 = .ok (.iload_n 2, 1) := by decide +kernel
theorem dX3_fill_8 : decode cX3_fill 8 = .ok (.iconst 2, 1) := by decide +kernel
theorem dX3_fill_9 : decode cX3_fill 9 = .ok (.aload_n 1, 1) := by decide +kernel
theorem dX3_fill_10 : decode cX3_fill 10 = .ok (.getfield 19, 3) := by decide +kernel
theorem dX3_fill_13 : decode cX3_fill 13 = .ok (.imul, 1) := by decide +kernel
theorem dX3_fill_14 : decode cX3_fill 14 = .ok (.if_icmp .ge 22, 3) := by decide +kernel
theorem dX3_fill_17 : decode cX3_fill 17 = .ok (.aload_n 0, 1) := by decide +kernel
theorem dX3_fill_18 : decode cX3_fill 18 = .ok (.aload_n 0, 1) := by decide +kernel
theorem dX3_fill_19 : decode cX3_fill 19 = .ok (.aload_n 1, 1) := by decide +kernel
theorem dX3_fill_20 : decode cX3_fill 20 = .ok (.iload_n 2, 1) := by decide +kernel
theorem dX3_fill_21 : decode cX3_fill 21 = .ok (.bipush 6, 2) := by decide +kernel
theorem dX3_fill_23 : decode cX3_fill 23 = .ok (.imul, 1) := by decide +kernel
theorem dX3_fill_24 : decode cX3_fill 24 = .ok (.invokevirtual 24, 3) := by decide +kernel
theorem dX3_fill_27 : decode cX3_fill 27 = .ok (.invokevirtual 28, 3) := by decide +kernel
theorem dX3_fill_30 : decode cX3_fill 30 = .ok (.iinc 2 1, 3) := by decide +kernel
theorem dX3_fill_33 : decode cX3_fill 33 = .ok (.goto (-26), 3) := by decide +kernel
theorem dX3_fill_36 : decode cX3_fill 36 = .ok (.return_, 1) := by decide +kernel
theorem dX3_has_0 : decode cX3_has 0 = .ok (.iload_n 1, 1) := by decide +kernel
theorem dX3_has_1 : decode cX3_has 1 = .ok (.ifCond .lt 15, 3) := by decide +kernel
theorem dX3_has_4 : decode cX3_has 4 = .ok (.iload_n 1, 1) := by decide +kernel
theorem dX3_has_5 : decode cX3_has 5 = .ok (.aload_n 0, 1) := by decide +kernel
theorem dX3_has_6 : decode cX3_has 6 = .ok (.getfield 9, 3) := by decide +kernel
theorem dX3_has_9 : decode cX3_has 9 = .ok (.if_icmp .ge 7, 3) := by decide +kernel
theorem dX3_has_12 : decode cX3_has 12 = .ok (.iconst 1, 1) := by decide +kernel
theorem dX3_has_13 : decode cX3_has 13 = .ok (.goto 4, 3) := by decide +kernel
theorem dX3_has_16 : decode cX3_has 16 = .ok (.iconst 0, 1) := by decide +kernel
theorem dX3_has_17 : decode cX3_has 17 = .ok (.ireturn, 1) := by decide +kernel
theorem dX3_codeOf_0 : decode cX3_codeOf 0 = .ok (.iconst 0, 1) := by decide +kernel
theorem dX3_codeOf_1 : decode cX3_codeOf 1 = .ok (.istore_n 3, 1) := by decide +kernel
theorem dX3_codeOf_2 : decode cX3_codeOf 2 = .ok (.lconst 0, 1) := by decide +kernel
theorem dX3_codeOf_3 : decode cX3_codeOf 3 = .ok (.lstore 4, 2) := by decide +kernel
theorem dX3_codeOf_5 : decode cX3_codeOf 5 = .ok (.iconst 0, 1) := by decide +kernel
theorem dX3_codeOf_6 : decode cX3_codeOf 6 = .ok (.istore 6, 2) := by decide +kernel
theorem dX3_codeOf_8 : decode cX3_codeOf 8 = .ok (.iload 6, 2) := by decide +kernel
theorem dX3_codeOf_10 : decode cX3_codeOf 10 = .ok (.aload_n 1, 1) := by decide +kernel
theorem dX3_codeOf_11 : decode cX3_codeOf 11 = .ok (.getfield 32, 3) := by decide +kernel
theorem dX3_codeOf_14 : decode cX3_codeOf 14 = .ok (.if_icmp .ge 61, 3) := by decide +kernel
theorem dX3_codeOf_17 : decode cX3_codeOf 17 = .ok (.aload_n 1, 1) := by decide +kernel
theorem dX3_codeOf_18 : decode cX3_codeOf 18 = .ok (.getfield 35, 3) := by decide +kernel
theorem dX3_codeOf_21 : decode cX3_codeOf 21 = .ok (.iload_n 2, 1) := by decide +kernel
theorem dX3_codeOf_22 : decode cX3_codeOf 22 = .ok (.iload 6, 2) := by decide +kernel
theorem dX3_codeOf_24 : decode cX3_codeOf 24 = .ok (.iadd, 1) := by decide +kernel
theorem dX3_codeOf_25 : decode cX3_codeOf 25 = .ok (.iaload, 1) := by decide +kernel
theorem dX3_codeOf_26 : decode cX3_codeOf 26 = .ok (.istore 7, 2) := by decide +kernel
theorem dX3_codeOf_28 : decode cX3_codeOf 28 = .ok (.iload_n 3, 1) := by decide +kernel
theorem dX3_codeOf_29 : decode cX3_codeOf 29 = .ok (.ifCond .ne 19, 3) := by decide +kernel
theorem dX3_codeOf_32 : decode cX3_codeOf 32 = .ok (.iload 7, 2) := by decide +kernel
theorem dX3_codeOf_34 : decode cX3_codeOf 34 = .ok (.ifCond .eq 14, 3) := by decide +kernel
theorem dX3_codeOf_37 : decode cX3_codeOf 37 = .ok (.iconst 1, 1) := by decide +kernel
theorem dX3_codeOf_38 : decode cX3_codeOf 38 = .ok (.iload 7, 2) := by decide +kernel
theorem dX3_codeOf_40 : decode cX3_codeOf 40 = .ok (.aload_n 1, 1) := by decide +kernel
theorem dX3_codeOf_41 : decode cX3_codeOf 41 = .ok (.getfield 39, 3) := by decide +kernel
theorem dX3_codeOf_44 : decode cX3_codeOf 44 = .ok (.invokestatic 42, 3) := by decide +kernel
theorem dX3_codeOf_47 : decode cX3_codeOf 47 = .ok (.istore_n 3, 1) := by decide +kernel
theorem dX3_codeOf_48 : decode cX3_codeOf 48 = .ok (.lload 4, 2) := by decide +kernel
theorem dX3_codeOf_50 : decode cX3_codeOf 50 = .ok (.aload_n 1, 1) := by decide +kernel
theorem dX3_codeOf_51 : decode cX3_codeOf 51 = .ok (.getfield 39, 3) := by decide +kernel
theorem dX3_codeOf_54 : decode cX3_codeOf 54 = .ok (.i2l, 1) := by decide +kernel
theorem dX3_codeOf_55 : decode cX3_codeOf 55 = .ok (.lmul, 1) := by decide +kernel
theorem dX3_codeOf_56 : decode cX3_codeOf 56 = .ok (.iload 7, 2) := by decide +kernel
theorem dX3_codeOf_58 : decode cX3_codeOf 58 = .ok (.iload_n 3, 1) := by decide +kernel
theorem dX3_codeOf_59 : decode cX3_codeOf 59 = .ok (.imul, 1) := by decide +kernel
theorem dX3_codeOf_60 : decode cX3_codeOf 60 = .ok (.aload_n 1, 1) := by decide +kernel
theorem dX3_codeOf_61 : decode cX3_codeOf 61 = .ok (.getfield 39, 3) := by decide +kernel
theorem dX3_codeOf_64 : decode cX3_codeOf 64 = .ok (.irem, 1) := by decide +kernel
theorem dX3_codeOf_65 : decode cX3_codeOf 65 = .ok (.i2l, 1) := by decide +kernel
theorem dX3_codeOf_66 : decode cX3_codeOf 66 = .ok (.ladd, 1) := by decide +kernel
theorem dX3_codeOf_67 : decode cX3_codeOf 67 = .ok (.lstore 4, 2) := by decide +kernel
theorem dX3_codeOf_69 : decode cX3_codeOf 69 = .ok (.iinc 6 1, 3) := by decide +kernel
theorem dX3_codeOf_72 : decode cX3_codeOf 72 = .ok (.goto (-64), 3) := by decide +kernel
theorem dX3_codeOf_75 : decode cX3_codeOf 75 = .ok (.lload 4, 2) := by decide +kernel
theorem dX3_codeOf_77 : decode cX3_codeOf 77 = .ok (.lreturn, 1) := by decide +kernel
theorem dX3_raysBelow_0 : decode cX3_raysBelow 0 = .ok (.iconst 0, 1) := by decide +kernel
theorem dX3_raysBelow_1 : decode cX3_raysBelow 1 = .ok (.istore_n 3, 1) := by decide +kernel
theorem dX3_raysBelow_2 : decode cX3_raysBelow 2 = .ok (.iload_n 3, 1) := by decide +kernel
theorem dX3_raysBelow_3 : decode cX3_raysBelow 3 = .ok (.aload_n 0, 1) := by decide +kernel
theorem dX3_raysBelow_4 : decode cX3_raysBelow 4 = .ok (.getfield 9, 3) := by decide +kernel
theorem dX3_raysBelow_7 : decode cX3_raysBelow 7 = .ok (.if_icmp .ge 20, 3) := by decide +kernel
theorem dX3_raysBelow_10 : decode cX3_raysBelow 10 = .ok (.aload_n 0, 1) := by decide +kernel
theorem dX3_raysBelow_11 : decode cX3_raysBelow 11 = .ok (.getfield 15, 3) := by decide +kernel
theorem dX3_raysBelow_14 : decode cX3_raysBelow 14 = .ok (.iload_n 3, 1) := by decide +kernel
theorem dX3_raysBelow_15 : decode cX3_raysBelow 15 = .ok (.laload, 1) := by decide +kernel
theorem dX3_raysBelow_16 : decode cX3_raysBelow 16 = .ok (.lload_n 1, 1) := by decide +kernel
theorem dX3_raysBelow_17 : decode cX3_raysBelow 17 = .ok (.lcmp, 1) := by decide +kernel
theorem dX3_raysBelow_18 : decode cX3_raysBelow 18 = .ok (.ifCond .ge 9, 3) := by decide +kernel
theorem dX3_raysBelow_21 : decode cX3_raysBelow 21 = .ok (.iinc 3 1, 3) := by decide +kernel
theorem dX3_raysBelow_24 : decode cX3_raysBelow 24 = .ok (.goto (-22), 3) := by decide +kernel
theorem dX3_raysBelow_27 : decode cX3_raysBelow 27 = .ok (.iload_n 3, 1) := by decide +kernel
theorem dX3_raysBelow_28 : decode cX3_raysBelow 28 = .ok (.ireturn, 1) := by decide +kernel
theorem dX3_insert_0 : decode cX3_insert 0 = .ok (.aload_n 0, 1) := by decide +kernel
theorem dX3_insert_1 : decode cX3_insert 1 = .ok (.lload_n 1, 1) := by decide +kernel
theorem dX3_insert_2 : decode cX3_insert 2 = .ok (.invokevirtual 46, 3) := by decide +kernel
theorem dX3_insert_5 : decode cX3_insert 5 = .ok (.istore_n 3, 1) := by decide +kernel
theorem dX3_insert_6 : decode cX3_insert 6 = .ok (.iload_n 3, 1) := by decide +kernel
theorem dX3_insert_7 : decode cX3_insert 7 = .ok (.aload_n 0, 1) := by decide +kernel
theorem dX3_insert_8 : decode cX3_insert 8 = .ok (.getfield 9, 3) := by decide +kernel
theorem dX3_insert_11 : decode cX3_insert 11 = .ok (.if_icmp .ge 18, 3) := by decide +kernel
theorem dX3_insert_14 : decode cX3_insert 14 = .ok (.aload_n 0, 1) := by decide +kernel
theorem dX3_insert_15 : decode cX3_insert 15 = .ok (.getfield 15, 3) := by decide +kernel
theorem dX3_insert_18 : decode cX3_insert 18 = .ok (.iload_n 3, 1) := by decide +kernel
theorem dX3_insert_19 : decode cX3_insert 19 = .ok (.laload, 1) := by decide +kernel
theorem dX3_insert_20 : decode cX3_insert 20 = .ok (.lload_n 1, 1) := by decide +kernel
theorem dX3_insert_21 : decode cX3_insert 21 = .ok (.lcmp, 1) := by decide +kernel
theorem dX3_insert_22 : decode cX3_insert 22 = .ok (.ifCond .ne 7, 3) := by decide +kernel
theorem dX3_insert_25 : decode cX3_insert 25 = .ok (.iconst 1, 1) := by decide +kernel
theorem dX3_insert_26 : decode cX3_insert 26 = .ok (.goto 4, 3) := by decide +kernel
theorem dX3_insert_29 : decode cX3_insert 29 = .ok (.iconst 0, 1) := by decide +kernel
theorem dX3_insert_30 : decode cX3_insert 30 = .ok (.istore 4, 2) := by decide +kernel
theorem dX3_insert_32 : decode cX3_insert 32 = .ok (.lload_n 1, 1) := by decide +kernel
theorem dX3_insert_33 : decode cX3_insert 33 = .ok (.lconst 0, 1) := by decide +kernel
theorem dX3_insert_34 : decode cX3_insert 34 = .ok (.lcmp, 1) := by decide +kernel
theorem dX3_insert_35 : decode cX3_insert 35 = .ok (.ifCond .eq 20, 3) := by decide +kernel
theorem dX3_insert_38 : decode cX3_insert 38 = .ok (.iload 4, 2) := by decide +kernel
theorem dX3_insert_40 : decode cX3_insert 40 = .ok (.ifCond .ne 15, 3) := by decide +kernel
theorem dX3_insert_43 : decode cX3_insert 43 = .ok (.aload_n 0, 1) := by decide +kernel
theorem dX3_insert_44 : decode cX3_insert 44 = .ok (.getfield 9, 3) := by decide +kernel
theorem dX3_insert_47 : decode cX3_insert 47 = .ok (.aload_n 0, 1) := by decide +kernel
theorem dX3_insert_48 : decode cX3_insert 48 = .ok (.getfield 15, 3) := by decide +kernel
theorem dX3_insert_51 : decode cX3_insert 51 = .ok (.arraylength, 1) := by decide +kernel
theorem dX3_insert_52 : decode cX3_insert 52 = .ok (.if_icmp .lt 4, 3) := by decide +kernel
theorem dX3_insert_55 : decode cX3_insert 55 = .ok (.return_, 1) := by decide +kernel
theorem dX3_insert_56 : decode cX3_insert 56 = .ok (.aload_n 0, 1) := by decide +kernel
theorem dX3_insert_57 : decode cX3_insert 57 = .ok (.getfield 9, 3) := by decide +kernel
theorem dX3_insert_60 : decode cX3_insert 60 = .ok (.istore 5, 2) := by decide +kernel
theorem dX3_insert_62 : decode cX3_insert 62 = .ok (.iload 5, 2) := by decide +kernel
theorem dX3_insert_64 : decode cX3_insert 64 = .ok (.iload_n 3, 1) := by decide +kernel
theorem dX3_insert_65 : decode cX3_insert 65 = .ok (.if_icmp .le 25, 3) := by decide +kernel
theorem dX3_insert_68 : decode cX3_insert 68 = .ok (.aload_n 0, 1) := by decide +kernel
theorem dX3_insert_69 : decode cX3_insert 69 = .ok (.getfield 15, 3) := by decide +kernel
theorem dX3_insert_72 : decode cX3_insert 72 = .ok (.iload 5, 2) := by decide +kernel
theorem dX3_insert_74 : decode cX3_insert 74 = .ok (.aload_n 0, 1) := by decide +kernel
theorem dX3_insert_75 : decode cX3_insert 75 = .ok (.getfield 15, 3) := by decide +kernel
theorem dX3_insert_78 : decode cX3_insert 78 = .ok (.iload 5, 2) := by decide +kernel
theorem dX3_insert_80 : decode cX3_insert 80 = .ok (.iconst 1, 1) := by decide +kernel
theorem dX3_insert_81 : decode cX3_insert 81 = .ok (.isub, 1) := by decide +kernel
theorem dX3_insert_82 : decode cX3_insert 82 = .ok (.laload, 1) := by decide +kernel
theorem dX3_insert_83 : decode cX3_insert 83 = .ok (.lastore, 1) := by decide +kernel
theorem dX3_insert_84 : decode cX3_insert 84 = .ok (.iinc 5 (-1), 3) := by decide +kernel
theorem dX3_insert_87 : decode cX3_insert 87 = .ok (.goto (-25), 3) := by decide +kernel
theorem dX3_insert_90 : decode cX3_insert 90 = .ok (.aload_n 0, 1) := by decide +kernel
theorem dX3_insert_91 : decode cX3_insert 91 = .ok (.getfield 15, 3) := by decide +kernel
theorem dX3_insert_94 : decode cX3_insert 94 = .ok (.iload_n 3, 1) := by decide +kernel
theorem dX3_insert_95 : decode cX3_insert 95 = .ok (.lload_n 1, 1) := by decide +kernel
theorem dX3_insert_96 : decode cX3_insert 96 = .ok (.lastore, 1) := by decide +kernel
theorem dX3_insert_97 : decode cX3_insert 97 = .ok (.aload_n 0, 1) := by decide +kernel
theorem dX3_insert_98 : decode cX3_insert 98 = .ok (.dup, 1) := by decide +kernel
theorem dX3_insert_99 : decode cX3_insert 99 = .ok (.getfield 9, 3) := by decide +kernel
theorem dX3_insert_102 : decode cX3_insert 102 = .ok (.iconst 1, 1) := by decide +kernel
theorem dX3_insert_103 : decode cX3_insert 103 = .ok (.iadd, 1) := by decide +kernel
theorem dX3_insert_104 : decode cX3_insert 104 = .ok (.putfield 9, 3) := by decide +kernel
theorem dX3_insert_107 : decode cX3_insert 107 = .ok (.return_, 1) := by decide +kernel
theorem dX4_init_0 : decode cX4_init 0 = .ok (.aload_n 0, 1) := by decide +kernel
theorem dX4_init_1 : decode cX4_init 1 = .ok (.invokespecial 3, 3) := by decide +kernel
theorem dX4_init_4 : decode cX4_init 4 = .ok (.aload_n 0, 1) := by decide +kernel
theorem dX4_init_5 : decode cX4_init 5 = .ok (.iconst 4, 1) := by decide +kernel
theorem dX4_init_6 : decode cX4_init 6 = .ok (.putfield 9, 3) := by decide +kernel
theorem dX4_init_9 : decode cX4_init 9 = .ok (.aload_n 0, 1) := by decide +kernel
theorem dX4_init_10 : decode cX4_init 10 = .ok (.iconst 0, 1) := by decide +kernel
theorem dX4_init_11 : decode cX4_init 11 = .ok (.putfield 15, 3) := by decide +kernel
theorem dX4_init_14 : decode cX4_init 14 = .ok (.aload_n 0, 1) := by decide +kernel
theorem dX4_init_15 : decode cX4_init 15 = .ok (.bipush 36, 2) := by decide +kernel
theorem dX4_init_17 : decode cX4_init 17 = .ok (.newarray .long, 2) := by decide +kernel
theorem dX4_init_19 : decode cX4_init 19 = .ok (.putfield 19, 3) := by decide +kernel
theorem dX4_init_22 : decode cX4_init 22 = .ok (.return_, 1) := by decide +kernel
theorem dX4_made_0 : decode cX4_made 0 = .ok (.aload_n 0, 1) := by decide +kernel
theorem dX4_made_1 : decode cX4_made 1 = .ok (.aload_n 1, 1) := by decide +kernel
theorem dX4_made_2 : decode cX4_made 2 = .ok (.getfield 23, 3) := by decide +kernel
theorem dX4_made_5 : decode cX4_made 5 = .ok (.putfield 9, 3) := by decide +kernel
theorem dX4_made_8 : decode cX4_made 8 = .ok (.aload_n 0, 1) := by decide +kernel
theorem dX4_made_9 : decode cX4_made 9 = .ok (.iconst 0, 1) := by decide +kernel
theorem dX4_made_10 : decode cX4_made 10 = .ok (.putfield 15, 3) := by decide +kernel
theorem dX4_made_13 : decode cX4_made 13 = .ok (.iconst 0, 1) := by decide +kernel
theorem dX4_made_14 : decode cX4_made 14 = .ok (.istore_n 3, 1) := by decide +kernel
theorem dX4_made_15 : decode cX4_made 15 = .ok (.iload_n 3, 1) := by decide +kernel
theorem dX4_made_16 : decode cX4_made 16 = .ok (.aload_n 0, 1) := by decide +kernel
theorem dX4_made_17 : decode cX4_made 17 = .ok (.getfield 9, 3) := by decide +kernel
theorem dX4_made_20 : decode cX4_made 20 = .ok (.if_icmp .ge 50, 3) := by decide +kernel
theorem dX4_made_23 : decode cX4_made 23 = .ok (.iload_n 3, 1) := by decide +kernel
theorem dX4_made_24 : decode cX4_made 24 = .ok (.iconst 1, 1) := by decide +kernel
theorem dX4_made_25 : decode cX4_made 25 = .ok (.iadd, 1) := by decide +kernel
theorem dX4_made_26 : decode cX4_made 26 = .ok (.istore 4, 2) := by decide +kernel
theorem dX4_made_28 : decode cX4_made 28 = .ok (.iload 4, 2) := by decide +kernel
theorem dX4_made_30 : decode cX4_made 30 = .ok (.aload_n 0, 1) := by decide +kernel
theorem dX4_made_31 : decode cX4_made 31 = .ok (.getfield 9, 3) := by decide +kernel
theorem dX4_made_34 : decode cX4_made 34 = .ok (.if_icmp .ge 30, 3) := by decide +kernel
theorem dX4_made_37 : decode cX4_made 37 = .ok (.aload_n 0, 1) := by decide +kernel
theorem dX4_made_38 : decode cX4_made 38 = .ok (.getfield 19, 3) := by decide +kernel
theorem dX4_made_41 : decode cX4_made 41 = .ok (.iload_n 3, 1) := by decide +kernel
theorem dX4_made_42 : decode cX4_made 42 = .ok (.bipush 6, 2) := by decide +kernel
theorem dX4_made_44 : decode cX4_made 44 = .ok (.imul, 1) := by decide +kernel
theorem dX4_made_45 : decode cX4_made 45 = .ok (.iload 4, 2) := by decide +kernel
theorem dX4_made_47 : decode cX4_made 47 = .ok (.iadd, 1) := by decide +kernel
theorem dX4_made_48 : decode cX4_made 48 = .ok (.aload_n 0, 1) := by decide +kernel
theorem dX4_made_49 : decode cX4_made 49 = .ok (.aload_n 1, 1) := by decide +kernel
theorem dX4_made_50 : decode cX4_made 50 = .ok (.aload_n 2, 1) := by decide +kernel
theorem dX4_made_51 : decode cX4_made 51 = .ok (.iload_n 3, 1) := by decide +kernel
theorem dX4_made_52 : decode cX4_made 52 = .ok (.iload 4, 2) := by decide +kernel
theorem dX4_made_54 : decode cX4_made 54 = .ok (.invokevirtual 26, 3) := by decide +kernel
theorem dX4_made_57 : decode cX4_made 57 = .ok (.lastore, 1) := by decide +kernel
theorem dX4_made_58 : decode cX4_made 58 = .ok (.iinc 4 1, 3) := by decide +kernel
theorem dX4_made_61 : decode cX4_made 61 = .ok (.goto (-33), 3) := by decide +kernel
theorem dX4_made_64 : decode cX4_made 64 = .ok (.iinc 3 1, 3) := by decide +kernel
theorem dX4_made_67 : decode cX4_made 67 = .ok (.goto (-52), 3) := by decide +kernel
theorem dX4_made_70 : decode cX4_made 70 = .ok (.aload_n 0, 1) := by decide +kernel
theorem dX4_made_71 : decode cX4_made 71 = .ok (.iconst 1, 1) := by decide +kernel
theorem dX4_made_72 : decode cX4_made 72 = .ok (.aload_n 0, 1) := by decide +kernel
theorem dX4_made_73 : decode cX4_made 73 = .ok (.getfield 9, 3) := by decide +kernel
theorem dX4_made_76 : decode cX4_made 76 = .ok (.ishl, 1) := by decide +kernel
theorem dX4_made_77 : decode cX4_made 77 = .ok (.iconst 1, 1) := by decide +kernel
theorem dX4_made_78 : decode cX4_made 78 = .ok (.isub, 1) := by decide +kernel
theorem dX4_made_79 : decode cX4_made 79 = .ok (.iconst 0, 1) := by decide +kernel
theorem dX4_made_80 : decode cX4_made 80 = .ok (.invokevirtual 30, 3) := by decide +kernel
theorem dX4_made_83 : decode cX4_made 83 = .ok (.lstore_n 3, 1) := by decide +kernel
theorem dX4_made_84 : decode cX4_made 84 = .ok (.aload_n 0, 1) := by decide +kernel
theorem dX4_made_85 : decode cX4_made 85 = .ok (.getfield 15, 3) := by decide +kernel
theorem dX4_made_88 : decode cX4_made 88 = .ok (.ifCond .eq 9, 3) := by decide +kernel
theorem dX4_made_91 : decode cX4_made 91 = .ok (.ldc2_w 34, 3) := by decide +kernel
theorem dX4_made_94 : decode cX4_made 94 = .ok (.goto 4, 3) := by decide +kernel
theorem dX4_made_97 : decode cX4_made 97 = .ok (.lload_n 3, 1) := by decide +kernel
theorem dX4_made_98 : decode cX4_made 98 = .ok (.lreturn, 1) := by decide +kernel
theorem dX4_wholeNumber_0 : decode cX4_wholeNumber 0 = .ok (.lconst 0, 1) := by decide +kernel
theorem dX4_wholeNumber_1 : decode cX4_wholeNumber 1 = .ok (.lstore 5, 2) := by decide +kernel
theorem dX4_wholeNumber_3 : decode cX4_wholeNumber 3 = .ok (.iconst 0, 1) := by decide +kernel
theorem dX4_wholeNumber_4 : decode cX4_wholeNumber 4 = .ok (.istore 7, 2) := by decide +kernel
theorem dX4_wholeNumber_6 : decode cX4_wholeNumber 6 = .ok (.iload 7, 2) := by decide +kernel
theorem dX4_wholeNumber_8 : decode cX4_wholeNumber 8 = .ok (.aload_n 1, 1) := by decide +kernel
theorem dX4_wholeNumber_9 : decode cX4_wholeNumber 9 = .ok (.getfield 36, 3) := by decide +kernel
theorem dX4_wholeNumber_12 : decode cX4_wholeNumber 12 = .ok (.if_icmp .ge 37, 3) := by decide +kernel
theorem dX4_wholeNumber_15 : decode cX4_wholeNumber 15 = .ok (.aload_n 0, 1) := by decide +kernel
theorem dX4_wholeNumber_16 : decode cX4_wholeNumber 16 = .ok (.lload 5, 2) := by decide +kernel
theorem dX4_wholeNumber_18 : decode cX4_wholeNumber 18 = .ok (.aload_n 0, 1) := by decide +kernel
theorem dX4_wholeNumber_19 : decode cX4_wholeNumber 19 = .ok (.aload_n 2, 1) := by decide +kernel
theorem dX4_wholeNumber_20 : decode cX4_wholeNumber 20 = .ok (.iload 7, 2) := by decide +kernel
theorem dX4_wholeNumber_22 : decode cX4_wholeNumber 22 = .ok (.invokevirtual 39, 3) := by decide +kernel
theorem dX4_wholeNumber_25 : decode cX4_wholeNumber 25 = .ok (.aload_n 1, 1) := by decide +kernel
theorem dX4_wholeNumber_26 : decode cX4_wholeNumber 26 = .ok (.iload 7, 2) := by decide +kernel
theorem dX4_wholeNumber_28 : decode cX4_wholeNumber 28 = .ok (.iload_n 3, 1) := by decide +kernel
theorem dX4_wholeNumber_29 : decode cX4_wholeNumber 29 = .ok (.iload 4, 2) := by decide +kernel
theorem dX4_wholeNumber_31 : decode cX4_wholeNumber 31 = .ok (.invokevirtual 45, 3) := by decide +kernel
theorem dX4_wholeNumber_34 : decode cX4_wholeNumber 34 = .ok (.i2l, 1) := by decide +kernel
theorem dX4_wholeNumber_35 : decode cX4_wholeNumber 35 = .ok (.invokevirtual 49, 3) := by decide +kernel
theorem dX4_wholeNumber_38 : decode cX4_wholeNumber 38 = .ok (.invokevirtual 53, 3) := by decide +kernel
theorem dX4_wholeNumber_41 : decode cX4_wholeNumber 41 = .ok (.lstore 5, 2) := by decide +kernel
theorem dX4_wholeNumber_43 : decode cX4_wholeNumber 43 = .ok (.iinc 7 1, 3) := by decide +kernel
theorem dX4_wholeNumber_46 : decode cX4_wholeNumber 46 = .ok (.goto (-40), 3) := by decide +kernel
theorem dX4_wholeNumber_49 : decode cX4_wholeNumber 49 = .ok (.aload_n 0, 1) := by decide +kernel
theorem dX4_wholeNumber_50 : decode cX4_wholeNumber 50 = .ok (.dup, 1) := by decide +kernel
theorem dX4_wholeNumber_51 : decode cX4_wholeNumber 51 = .ok (.getfield 15, 3) := by decide +kernel
theorem dX4_wholeNumber_54 : decode cX4_wholeNumber 54 = .ok (.lload 5, 2) := by decide +kernel
theorem dX4_wholeNumber_56 : decode cX4_wholeNumber 56 = .ok (.invokestatic 56, 3) := by decide +kernel
theorem dX4_wholeNumber_59 : decode cX4_wholeNumber 59 = .ok (.ifCond .ne 7, 3) := by decide +kernel
theorem dX4_wholeNumber_62 : decode cX4_wholeNumber 62 = .ok (.iconst 1, 1) := by decide +kernel
theorem dX4_wholeNumber_63 : decode cX4_wholeNumber 63 = .ok (.goto 4, 3) := by decide +kernel
theorem dX4_wholeNumber_66 : decode cX4_wholeNumber 66 = .ok (.iconst 0, 1) := by decide +kernel
theorem dX4_wholeNumber_67 : decode cX4_wholeNumber 67 = .ok (.ior, 1) := by decide +kernel
theorem dX4_wholeNumber_68 : decode cX4_wholeNumber 68 = .ok (.putfield 15, 3) := by decide +kernel
theorem dX4_wholeNumber_71 : decode cX4_wholeNumber 71 = .ok (.lload 5, 2) := by decide +kernel
theorem dX4_wholeNumber_73 : decode cX4_wholeNumber 73 = .ok (.lreturn, 1) := by decide +kernel
theorem dX4_ofPlaces_0 : decode cX4_ofPlaces 0 = .ok (.iload_n 1, 1) := by decide +kernel
theorem dX4_ofPlaces_1 : decode cX4_ofPlaces 1 = .ok (.ifCond .eq 15, 3) := by decide +kernel
theorem dX4_ofPlaces_4 : decode cX4_ofPlaces 4 = .ok (.aload_n 0, 1) := by decide +kernel
theorem dX4_ofPlaces_5 : decode cX4_ofPlaces 5 = .ok (.getfield 15, 3) := by decide +kernel
theorem dX4_ofPlaces_8 : decode cX4_ofPlaces 8 = .ok (.ifCond .ne 8, 3) := by decide +kernel
theorem dX4_ofPlaces_11 : decode cX4_ofPlaces 11 = .ok (.iload_n 2, 1) := by decide +kernel
theorem dX4_ofPlaces_12 : decode cX4_ofPlaces 12 = .ok (.iconst 3, 1) := by decide +kernel
theorem dX4_ofPlaces_13 : decode cX4_ofPlaces 13 = .ok (.if_icmp .le 5, 3) := by decide +kernel
theorem dX4_ofPlaces_16 : decode cX4_ofPlaces 16 = .ok (.lconst 1, 1) := by decide +kernel
theorem dX4_ofPlaces_17 : decode cX4_ofPlaces 17 = .ok (.lreturn, 1) := by decide +kernel
theorem dX4_ofPlaces_18 : decode cX4_ofPlaces 18 = .ok (.iconst 0, 1) := by decide +kernel
theorem dX4_ofPlaces_19 : decode cX4_ofPlaces 19 = .ok (.istore_n 3, 1) := by decide +kernel
theorem dX4_ofPlaces_20 : decode cX4_ofPlaces 20 = .ok (.iload_n 3, 1) := by decide +kernel
theorem dX4_ofPlaces_21 : decode cX4_ofPlaces 21 = .ok (.aload_n 0, 1) := by decide +kernel
theorem dX4_ofPlaces_22 : decode cX4_ofPlaces 22 = .ok (.getfield 9, 3) := by decide +kernel
theorem dX4_ofPlaces_25 : decode cX4_ofPlaces 25 = .ok (.if_icmp .ge 17, 3) := by decide +kernel
theorem dX4_ofPlaces_28 : decode cX4_ofPlaces 28 = .ok (.iload_n 1, 1) := by decide +kernel
theorem dX4_ofPlaces_29 : decode cX4_ofPlaces 29 = .ok (.iload_n 3, 1) := by decide +kernel
theorem dX4_ofPlaces_30 : decode cX4_ofPlaces 30 = .ok (.ishr, 1) := by decide +kernel
theorem dX4_ofPlaces_31 : decode cX4_ofPlaces 31 = .ok (.iconst 1, 1) := by decide +kernel
theorem dX4_ofPlaces_32 : decode cX4_ofPlaces 32 = .ok (.iand, 1) := by decide +kernel
theorem dX4_ofPlaces_33 : decode cX4_ofPlaces 33 = .ok (.ifCond .ne 9, 3) := by decide +kernel
theorem dX4_ofPlaces_36 : decode cX4_ofPlaces 36 = .ok (.iinc 3 1, 3) := by decide +kernel
theorem dX4_ofPlaces_39 : decode cX4_ofPlaces 39 = .ok (.goto (-19), 3) := by decide +kernel
theorem dX4_ofPlaces_42 : decode cX4_ofPlaces 42 = .ok (.lconst 0, 1) := by decide +kernel
theorem dX4_ofPlaces_43 : decode cX4_ofPlaces 43 = .ok (.lstore 4, 2) := by decide +kernel
theorem dX4_ofPlaces_45 : decode cX4_ofPlaces 45 = .ok (.iconst 1, 1) := by decide +kernel
theorem dX4_ofPlaces_46 : decode cX4_ofPlaces 46 = .ok (.istore 6, 2) := by decide +kernel
theorem dX4_ofPlaces_48 : decode cX4_ofPlaces 48 = .ok (.iload_n 3, 1) := by decide +kernel
theorem dX4_ofPlaces_49 : decode cX4_ofPlaces 49 = .ok (.iconst 1, 1) := by decide +kernel
theorem dX4_ofPlaces_50 : decode cX4_ofPlaces 50 = .ok (.iadd, 1) := by decide +kernel
theorem dX4_ofPlaces_51 : decode cX4_ofPlaces 51 = .ok (.istore 7, 2) := by decide +kernel
theorem dX4_ofPlaces_53 : decode cX4_ofPlaces 53 = .ok (.iload 7, 2) := by decide +kernel
theorem dX4_ofPlaces_55 : decode cX4_ofPlaces 55 = .ok (.aload_n 0, 1) := by decide +kernel
theorem dX4_ofPlaces_56 : decode cX4_ofPlaces 56 = .ok (.getfield 9, 3) := by decide +kernel
theorem dX4_ofPlaces_59 : decode cX4_ofPlaces 59 = .ok (.if_icmp .ge 98, 3) := by decide +kernel
theorem dX4_ofPlaces_62 : decode cX4_ofPlaces 62 = .ok (.iload_n 1, 1) := by decide +kernel
theorem dX4_ofPlaces_63 : decode cX4_ofPlaces 63 = .ok (.iload 7, 2) := by decide +kernel
theorem dX4_ofPlaces_65 : decode cX4_ofPlaces 65 = .ok (.ishr, 1) := by decide +kernel
theorem dX4_ofPlaces_66 : decode cX4_ofPlaces 66 = .ok (.iconst 1, 1) := by decide +kernel
theorem dX4_ofPlaces_67 : decode cX4_ofPlaces 67 = .ok (.iand, 1) := by decide +kernel
theorem dX4_ofPlaces_68 : decode cX4_ofPlaces 68 = .ok (.iconst 1, 1) := by decide +kernel
theorem dX4_ofPlaces_69 : decode cX4_ofPlaces 69 = .ok (.if_icmp .ne 82, 3) := by decide +kernel
theorem dX4_ofPlaces_72 : decode cX4_ofPlaces 72 = .ok (.aload_n 0, 1) := by decide +kernel
theorem dX4_ofPlaces_73 : decode cX4_ofPlaces 73 = .ok (.iload_n 1, 1) := by decide +kernel
theorem dX4_ofPlaces_74 : decode cX4_ofPlaces 74 = .ok (.iconst 1, 1) := by decide +kernel
theorem dX4_ofPlaces_75 : decode cX4_ofPlaces 75 = .ok (.iload_n 3, 1) := by decide +kernel
theorem dX4_ofPlaces_76 : decode cX4_ofPlaces 76 = .ok (.ishl, 1) := by decide +kernel
theorem dX4_ofPlaces_77 : decode cX4_ofPlaces 77 = .ok (.iconst 1, 1) := by decide +kernel
theorem dX4_ofPlaces_78 : decode cX4_ofPlaces 78 = .ok (.iload 7, 2) := by decide +kernel
theorem dX4_ofPlaces_80 : decode cX4_ofPlaces 80 = .ok (.ishl, 1) := by decide +kernel
theorem dX4_ofPlaces_81 : decode cX4_ofPlaces 81 = .ok (.ior, 1) := by decide +kernel
theorem dX4_ofPlaces_82 : decode cX4_ofPlaces 82 = .ok (.iconst (-1), 1) := by decide +kernel
theorem dX4_ofPlaces_83 : decode cX4_ofPlaces 83 = .ok (.ixor, 1) := by decide +kernel
theorem dX4_ofPlaces_84 : decode cX4_ofPlaces 84 = .ok (.iand, 1) := by decide +kernel
theorem dX4_ofPlaces_85 : decode cX4_ofPlaces 85 = .ok (.iload_n 2, 1) := by decide +kernel
theorem dX4_ofPlaces_86 : decode cX4_ofPlaces 86 = .ok (.iconst 1, 1) := by decide +kernel
theorem dX4_ofPlaces_87 : decode cX4_ofPlaces 87 = .ok (.iadd, 1) := by decide +kernel
theorem dX4_ofPlaces_88 : decode cX4_ofPlaces 88 = .ok (.invokevirtual 30, 3) := by decide +kernel
theorem dX4_ofPlaces_91 : decode cX4_ofPlaces 91 = .ok (.lstore 8, 2) := by decide +kernel
theorem dX4_ofPlaces_93 : decode cX4_ofPlaces 93 = .ok (.aload_n 0, 1) := by decide +kernel
theorem dX4_ofPlaces_94 : decode cX4_ofPlaces 94 = .ok (.aload_n 0, 1) := by decide +kernel
theorem dX4_ofPlaces_95 : decode cX4_ofPlaces 95 = .ok (.getfield 19, 3) := by decide +kernel
theorem dX4_ofPlaces_98 : decode cX4_ofPlaces 98 = .ok (.iload_n 3, 1) := by decide +kernel
theorem dX4_ofPlaces_99 : decode cX4_ofPlaces 99 = .ok (.bipush 6, 2) := by decide +kernel
theorem dX4_ofPlaces_101 : decode cX4_ofPlaces 101 = .ok (.imul, 1) := by decide +kernel
theorem dX4_ofPlaces_102 : decode cX4_ofPlaces 102 = .ok (.iload 7, 2) := by decide +kernel
theorem dX4_ofPlaces_104 : decode cX4_ofPlaces 104 = .ok (.iadd, 1) := by decide +kernel
theorem dX4_ofPlaces_105 : decode cX4_ofPlaces 105 = .ok (.laload, 1) := by decide +kernel
theorem dX4_ofPlaces_106 : decode cX4_ofPlaces 106 = .ok (.lload 8, 2) := by decide +kernel
theorem dX4_ofPlaces_108 : decode cX4_ofPlaces 108 = .ok (.invokevirtual 49, 3) := by decide +kernel
theorem dX4_ofPlaces_111 : decode cX4_ofPlaces 111 = .ok (.lstore 10, 2) := by decide +kernel
theorem dX4_ofPlaces_113 : decode cX4_ofPlaces 113 = .ok (.iload 6, 2) := by decide +kernel
theorem dX4_ofPlaces_115 : decode cX4_ofPlaces 115 = .ok (.ifCond .eq 14, 3) := by decide +kernel
theorem dX4_ofPlaces_118 : decode cX4_ofPlaces 118 = .ok (.aload_n 0, 1) := by decide +kernel
theorem dX4_ofPlaces_119 : decode cX4_ofPlaces 119 = .ok (.lload 4, 2) := by decide +kernel
theorem dX4_ofPlaces_121 : decode cX4_ofPlaces 121 = .ok (.lload 10, 2) := by decide +kernel
theorem dX4_ofPlaces_123 : decode cX4_ofPlaces 123 = .ok (.invokevirtual 53, 3) := by decide +kernel
theorem dX4_ofPlaces_126 : decode cX4_ofPlaces 126 = .ok (.goto 11, 3) := by decide +kernel
theorem dX4_ofPlaces_129 : decode cX4_ofPlaces 129 = .ok (.aload_n 0, 1) := by decide +kernel
theorem dX4_ofPlaces_130 : decode cX4_ofPlaces 130 = .ok (.lload 4, 2) := by decide +kernel
theorem dX4_ofPlaces_132 : decode cX4_ofPlaces 132 = .ok (.lload 10, 2) := by decide +kernel
theorem dX4_ofPlaces_134 : decode cX4_ofPlaces 134 = .ok (.invokevirtual 60, 3) := by decide +kernel
theorem dX4_ofPlaces_137 : decode cX4_ofPlaces 137 = .ok (.lstore 4, 2) := by decide +kernel
theorem dX4_ofPlaces_139 : decode cX4_ofPlaces 139 = .ok (.iload 6, 2) := by decide +kernel
theorem dX4_ofPlaces_141 : decode cX4_ofPlaces 141 = .ok (.ifCond .ne 7, 3) := by decide +kernel
theorem dX4_ofPlaces_144 : decode cX4_ofPlaces 144 = .ok (.iconst 1, 1) := by decide +kernel
theorem dX4_ofPlaces_145 : decode cX4_ofPlaces 145 = .ok (.goto 4, 3) := by decide +kernel
theorem dX4_ofPlaces_148 : decode cX4_ofPlaces 148 = .ok (.iconst 0, 1) := by decide +kernel
theorem dX4_ofPlaces_149 : decode cX4_ofPlaces 149 = .ok (.istore 6, 2) := by decide +kernel
theorem dX4_ofPlaces_151 : decode cX4_ofPlaces 151 = .ok (.iinc 7 1, 3) := by decide +kernel
theorem dX4_ofPlaces_154 : decode cX4_ofPlaces 154 = .ok (.goto (-101), 3) := by decide +kernel
theorem dX4_ofPlaces_157 : decode cX4_ofPlaces 157 = .ok (.lload 4, 2) := by decide +kernel
theorem dX4_ofPlaces_159 : decode cX4_ofPlaces 159 = .ok (.lreturn, 1) := by decide +kernel
theorem dX4_plus_0 : decode cX4_plus 0 = .ok (.lload_n 1, 1) := by decide +kernel
theorem dX4_plus_1 : decode cX4_plus 1 = .ok (.lload_n 3, 1) := by decide +kernel
theorem dX4_plus_2 : decode cX4_plus 2 = .ok (.ladd, 1) := by decide +kernel
theorem dX4_plus_3 : decode cX4_plus 3 = .ok (.lstore 5, 2) := by decide +kernel
theorem dX4_plus_5 : decode cX4_plus 5 = .ok (.aload_n 0, 1) := by decide +kernel
theorem dX4_plus_6 : decode cX4_plus 6 = .ok (.dup, 1) := by decide +kernel
theorem dX4_plus_7 : decode cX4_plus 7 = .ok (.getfield 15, 3) := by decide +kernel
theorem dX4_plus_10 : decode cX4_plus 10 = .ok (.lload_n 1, 1) := by decide +kernel
theorem dX4_plus_11 : decode cX4_plus 11 = .ok (.lload 5, 2) := by decide +kernel
theorem dX4_plus_13 : decode cX4_plus 13 = .ok (.lxor, 1) := by decide +kernel
theorem dX4_plus_14 : decode cX4_plus 14 = .ok (.lload_n 3, 1) := by decide +kernel
theorem dX4_plus_15 : decode cX4_plus 15 = .ok (.lload 5, 2) := by decide +kernel
theorem dX4_plus_17 : decode cX4_plus 17 = .ok (.lxor, 1) := by decide +kernel
theorem dX4_plus_18 : decode cX4_plus 18 = .ok (.land, 1) := by decide +kernel
theorem dX4_plus_19 : decode cX4_plus 19 = .ok (.lconst 0, 1) := by decide +kernel
theorem dX4_plus_20 : decode cX4_plus 20 = .ok (.lcmp, 1) := by decide +kernel
theorem dX4_plus_21 : decode cX4_plus 21 = .ok (.ifCond .ge 7, 3) := by decide +kernel
theorem dX4_plus_24 : decode cX4_plus 24 = .ok (.iconst 1, 1) := by decide +kernel
theorem dX4_plus_25 : decode cX4_plus 25 = .ok (.goto 4, 3) := by decide +kernel
theorem dX4_plus_28 : decode cX4_plus 28 = .ok (.iconst 0, 1) := by decide +kernel
theorem dX4_plus_29 : decode cX4_plus 29 = .ok (.ior, 1) := by decide +kernel
theorem dX4_plus_30 : decode cX4_plus 30 = .ok (.putfield 15, 3) := by decide +kernel
theorem dX4_plus_33 : decode cX4_plus 33 = .ok (.lload 5, 2) := by decide +kernel
theorem dX4_plus_35 : decode cX4_plus 35 = .ok (.lreturn, 1) := by decide +kernel
theorem dX4_minus_0 : decode cX4_minus 0 = .ok (.lload_n 1, 1) := by decide +kernel
theorem dX4_minus_1 : decode cX4_minus 1 = .ok (.lload_n 3, 1) := by decide +kernel
theorem dX4_minus_2 : decode cX4_minus 2 = .ok (.lsub, 1) := by decide +kernel
theorem dX4_minus_3 : decode cX4_minus 3 = .ok (.lstore 5, 2) := by decide +kernel
theorem dX4_minus_5 : decode cX4_minus 5 = .ok (.aload_n 0, 1) := by decide +kernel
theorem dX4_minus_6 : decode cX4_minus 6 = .ok (.dup, 1) := by decide +kernel
theorem dX4_minus_7 : decode cX4_minus 7 = .ok (.getfield 15, 3) := by decide +kernel
theorem dX4_minus_10 : decode cX4_minus 10 = .ok (.lload_n 1, 1) := by decide +kernel
theorem dX4_minus_11 : decode cX4_minus 11 = .ok (.lload_n 3, 1) := by decide +kernel
theorem dX4_minus_12 : decode cX4_minus 12 = .ok (.lxor, 1) := by decide +kernel
theorem dX4_minus_13 : decode cX4_minus 13 = .ok (.lload_n 1, 1) := by decide +kernel
theorem dX4_minus_14 : decode cX4_minus 14 = .ok (.lload 5, 2) := by decide +kernel
theorem dX4_minus_16 : decode cX4_minus 16 = .ok (.lxor, 1) := by decide +kernel
theorem dX4_minus_17 : decode cX4_minus 17 = .ok (.land, 1) := by decide +kernel
theorem dX4_minus_18 : decode cX4_minus 18 = .ok (.lconst 0, 1) := by decide +kernel
theorem dX4_minus_19 : decode cX4_minus 19 = .ok (.lcmp, 1) := by decide +kernel
theorem dX4_minus_20 : decode cX4_minus 20 = .ok (.ifCond .ge 7, 3) := by decide +kernel
theorem dX4_minus_23 : decode cX4_minus 23 = .ok (.iconst 1, 1) := by decide +kernel
theorem dX4_minus_24 : decode cX4_minus 24 = .ok (.goto 4, 3) := by decide +kernel
theorem dX4_minus_27 : decode cX4_minus 27 = .ok (.iconst 0, 1) := by decide +kernel
theorem dX4_minus_28 : decode cX4_minus 28 = .ok (.ior, 1) := by decide +kernel
theorem dX4_minus_29 : decode cX4_minus 29 = .ok (.putfield 15, 3) := by decide +kernel
theorem dX4_minus_32 : decode cX4_minus 32 = .ok (.lload 5, 2) := by decide +kernel
theorem dX4_minus_34 : decode cX4_minus 34 = .ok (.lreturn, 1) := by decide +kernel
theorem dX4_product_0 : decode cX4_product 0 = .ok (.lload_n 1, 1) := by decide +kernel
theorem dX4_product_1 : decode cX4_product 1 = .ok (.lload_n 3, 1) := by decide +kernel
theorem dX4_product_2 : decode cX4_product 2 = .ok (.lmul, 1) := by decide +kernel
theorem dX4_product_3 : decode cX4_product 3 = .ok (.lstore 5, 2) := by decide +kernel
theorem dX4_product_5 : decode cX4_product 5 = .ok (.aload_n 0, 1) := by decide +kernel
theorem dX4_product_6 : decode cX4_product 6 = .ok (.dup, 1) := by decide +kernel
theorem dX4_product_7 : decode cX4_product 7 = .ok (.getfield 15, 3) := by decide +kernel
theorem dX4_product_10 : decode cX4_product 10 = .ok (.lload_n 3, 1) := by decide +kernel
theorem dX4_product_11 : decode cX4_product 11 = .ok (.ldc2_w 63, 3) := by decide +kernel
theorem dX4_product_14 : decode cX4_product 14 = .ok (.lcmp, 1) := by decide +kernel
theorem dX4_product_15 : decode cX4_product 15 = .ok (.ifCond .ne 19, 3) := by decide +kernel
theorem dX4_product_18 : decode cX4_product 18 = .ok (.lload_n 1, 1) := by decide +kernel
theorem dX4_product_19 : decode cX4_product 19 = .ok (.ldc2_w 65, 3) := by decide +kernel
theorem dX4_product_22 : decode cX4_product 22 = .ok (.lcmp, 1) := by decide +kernel
theorem dX4_product_23 : decode cX4_product 23 = .ok (.ifCond .ne 7, 3) := by decide +kernel
theorem dX4_product_26 : decode cX4_product 26 = .ok (.iconst 1, 1) := by decide +kernel
theorem dX4_product_27 : decode cX4_product 27 = .ok (.goto 27, 3) := by decide +kernel
theorem dX4_product_30 : decode cX4_product 30 = .ok (.iconst 0, 1) := by decide +kernel
theorem dX4_product_31 : decode cX4_product 31 = .ok (.goto 23, 3) := by decide +kernel
theorem dX4_product_34 : decode cX4_product 34 = .ok (.lload_n 3, 1) := by decide +kernel
theorem dX4_product_35 : decode cX4_product 35 = .ok (.lconst 0, 1) := by decide +kernel
theorem dX4_product_36 : decode cX4_product 36 = .ok (.lcmp, 1) := by decide +kernel
theorem dX4_product_37 : decode cX4_product 37 = .ok (.ifCond .eq 16, 3) := by decide +kernel
theorem dX4_product_40 : decode cX4_product 40 = .ok (.lload 5, 2) := by decide +kernel
theorem dX4_product_42 : decode cX4_product 42 = .ok (.lload_n 3, 1) := by decide +kernel
theorem dX4_product_43 : decode cX4_product 43 = .ok (.ldiv, 1) := by decide +kernel
theorem dX4_product_44 : decode cX4_product 44 = .ok (.lload_n 1, 1) := by decide +kernel
theorem dX4_product_45 : decode cX4_product 45 = .ok (.lcmp, 1) := by decide +kernel
theorem dX4_product_46 : decode cX4_product 46 = .ok (.ifCond .eq 7, 3) := by decide +kernel
theorem dX4_product_49 : decode cX4_product 49 = .ok (.iconst 1, 1) := by decide +kernel
theorem dX4_product_50 : decode cX4_product 50 = .ok (.goto 4, 3) := by decide +kernel
theorem dX4_product_53 : decode cX4_product 53 = .ok (.iconst 0, 1) := by decide +kernel
theorem dX4_product_54 : decode cX4_product 54 = .ok (.ior, 1) := by decide +kernel
theorem dX4_product_55 : decode cX4_product 55 = .ok (.putfield 15, 3) := by decide +kernel
theorem dX4_product_58 : decode cX4_product 58 = .ok (.lload 5, 2) := by decide +kernel
theorem dX4_product_60 : decode cX4_product 60 = .ok (.lreturn, 1) := by decide +kernel
theorem dX5_init_0 : decode cX5_init 0 = .ok (.aload_n 0, 1) := by decide +kernel
theorem dX5_init_1 : decode cX5_init 1 = .ok (.invokespecial 3, 3) := by decide +kernel
theorem dX5_init_4 : decode cX5_init 4 = .ok (.aload_n 0, 1) := by decide +kernel
theorem dX5_init_5 : decode cX5_init 5 = .ok (.bipush 7, 2) := by decide +kernel
theorem dX5_init_7 : decode cX5_init 7 = .ok (.putfield 9, 3) := by decide +kernel
theorem dX5_init_10 : decode cX5_init 10 = .ok (.aload_n 0, 1) := by decide +kernel
theorem dX5_init_11 : decode cX5_init 11 = .ok (.iconst 4, 1) := by decide +kernel
theorem dX5_init_12 : decode cX5_init 12 = .ok (.putfield 15, 3) := by decide +kernel
theorem dX5_init_15 : decode cX5_init 15 = .ok (.aload_n 0, 1) := by decide +kernel
theorem dX5_init_16 : decode cX5_init 16 = .ok (.iconst 0, 1) := by decide +kernel
theorem dX5_init_17 : decode cX5_init 17 = .ok (.putfield 18, 3) := by decide +kernel
theorem dX5_init_20 : decode cX5_init 20 = .ok (.aload_n 0, 1) := by decide +kernel
theorem dX5_init_21 : decode cX5_init 21 = .ok (.bipush 120, 2) := by decide +kernel
theorem dX5_init_23 : decode cX5_init 23 = .ok (.newarray .int, 2) := by decide +kernel
theorem dX5_init_25 : decode cX5_init 25 = .ok (.putfield 21, 3) := by decide +kernel
theorem dX5_init_28 : decode cX5_init 28 = .ok (.aload_n 0, 1) := by decide +kernel
theorem dX5_init_29 : decode cX5_init 29 = .ok (.new 25, 3) := by decide +kernel
theorem dX5_init_32 : decode cX5_init 32 = .ok (.dup, 1) := by decide +kernel
theorem dX5_init_33 : decode cX5_init 33 = .ok (.invokespecial 27, 3) := by decide +kernel
theorem dX5_init_36 : decode cX5_init 36 = .ok (.putfield 28, 3) := by decide +kernel
theorem dX5_init_39 : decode cX5_init 39 = .ok (.return_, 1) := by decide +kernel
theorem dX5_fill_0 : decode cX5_fill 0 = .ok (.aload_n 0, 1) := by decide +kernel
theorem dX5_fill_1 : decode cX5_fill 1 = .ok (.aload_n 1, 1) := by decide +kernel
theorem dX5_fill_2 : decode cX5_fill 2 = .ok (.getfield 32, 3) := by decide +kernel
theorem dX5_fill_5 : decode cX5_fill 5 = .ok (.putfield 9, 3) := by decide +kernel
theorem dX5_fill_8 : decode cX5_fill 8 = .ok (.aload_n 0, 1) := by decide +kernel
theorem dX5_fill_9 : decode cX5_fill 9 = .ok (.aload_n 1, 1) := by decide +kernel
theorem dX5_fill_10 : decode cX5_fill 10 = .ok (.getfield 35, 3) := by decide +kernel
theorem dX5_fill_13 : decode cX5_fill 13 = .ok (.putfield 15, 3) := by decide +kernel
theorem dX5_fill_16 : decode cX5_fill 16 = .ok (.aload_n 0, 1) := by decide +kernel
theorem dX5_fill_17 : decode cX5_fill 17 = .ok (.aload_n 1, 1) := by decide +kernel
theorem dX5_fill_18 : decode cX5_fill 18 = .ok (.getfield 36, 3) := by decide +kernel
theorem dX5_fill_21 : decode cX5_fill 21 = .ok (.putfield 18, 3) := by decide +kernel
theorem dX5_fill_24 : decode cX5_fill 24 = .ok (.iconst 0, 1) := by decide +kernel
theorem dX5_fill_25 : decode cX5_fill 25 = .ok (.istore_n 2, 1) := by decide +kernel
theorem dX5_fill_26 : decode cX5_fill 26 = .ok (.iload_n 2, 1) := by decide +kernel
theorem dX5_fill_27 : decode cX5_fill 27 = .ok (.aload_n 0, 1) := by decide +kernel
theorem dX5_fill_28 : decode cX5_fill 28 = .ok (.getfield 18, 3) := by decide +kernel
theorem dX5_fill_31 : decode cX5_fill 31 = .ok (.if_icmp .ge 64, 3) := by decide +kernel
theorem dX5_fill_34 : decode cX5_fill 34 = .ok (.iconst 0, 1) := by decide +kernel
theorem dX5_fill_35 : decode cX5_fill 35 = .ok (.istore_n 3, 1) := by decide +kernel
theorem dX5_fill_36 : decode cX5_fill 36 = .ok (.iload_n 3, 1) := by decide +kernel
theorem dX5_fill_37 : decode cX5_fill 37 = .ok (.aload_n 0, 1) := by decide +kernel
theorem dX5_fill_38 : decode cX5_fill 38 = .ok (.getfield 15, 3) := by decide +kernel
theorem dX5_fill_41 : decode cX5_fill 41 = .ok (.if_icmp .ge 48, 3) := by decide +kernel
theorem dX5_fill_44 : decode cX5_fill 44 = .ok (.aload_n 0, 1) := by decide +kernel
theorem dX5_fill_45 : decode cX5_fill 45 = .ok (.getfield 21, 3) := by decide +kernel
theorem dX5_fill_48 : decode cX5_fill 48 = .ok (.iload_n 2, 1) := by decide +kernel
theorem dX5_fill_49 : decode cX5_fill 49 = .ok (.bipush 12, 2) := by decide +kernel
theorem dX5_fill_51 : decode cX5_fill 51 = .ok (.imul, 1) := by decide +kernel
theorem dX5_fill_52 : decode cX5_fill 52 = .ok (.iload_n 3, 1) := by decide +kernel
theorem dX5_fill_53 : decode cX5_fill 53 = .ok (.iadd, 1) := by decide +kernel
theorem dX5_fill_54 : decode cX5_fill 54 = .ok (.aload_n 1, 1) := by decide +kernel
theorem dX5_fill_55 : decode cX5_fill 55 = .ok (.iload_n 2, 1) := by decide +kernel
theorem dX5_fill_56 : decode cX5_fill 56 = .ok (.iconst 0, 1) := by decide +kernel
