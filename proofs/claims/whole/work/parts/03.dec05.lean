theorem dX10_isStanding_25 : decode cX10_isStanding 25 = .ok (.if_icmp .ne 7, 3) := by decide +kernel
theorem dX10_isStanding_28 : decode cX10_isStanding 28 = .ok (.iconst 1, 1) := by decide +kernel
theorem dX10_isStanding_29 : decode cX10_isStanding 29 = .ok (.goto 4, 3) := by decide +kernel
theorem dX10_isStanding_32 : decode cX10_isStanding 32 = .ok (.iconst 0, 1) := by decide +kernel
theorem dX10_isStanding_33 : decode cX10_isStanding 33 = .ok (.ireturn, 1) := by decide +kernel
theorem dX10_rank_0 : decode cX10_rank 0 = .ok (.aload_n 0, 1) := by decide +kernel
theorem dX10_rank_1 : decode cX10_rank 1 = .ok (.iload_n 1, 1) := by decide +kernel
theorem dX10_rank_2 : decode cX10_rank 2 = .ok (.invokevirtual 167, 3) := by decide +kernel
theorem dX10_rank_5 : decode cX10_rank 5 = .ok (.ifCond .eq 12, 3) := by decide +kernel
theorem dX10_rank_8 : decode cX10_rank 8 = .ok (.aload_n 0, 1) := by decide +kernel
theorem dX10_rank_9 : decode cX10_rank 9 = .ok (.iload_n 1, 1) := by decide +kernel
theorem dX10_rank_10 : decode cX10_rank 10 = .ok (.iconst 0, 1) := by decide +kernel
theorem dX10_rank_11 : decode cX10_rank 11 = .ok (.invokevirtual 118, 3) := by decide +kernel
theorem dX10_rank_14 : decode cX10_rank 14 = .ok (.goto 5, 3) := by decide +kernel
theorem dX10_rank_17 : decode cX10_rank 17 = .ok (.bipush (-2), 2) := by decide +kernel
theorem dX10_rank_19 : decode cX10_rank 19 = .ok (.ireturn, 1) := by decide +kernel
theorem dX10_stands_0 : decode cX10_stands 0 = .ok (.aload_n 0, 1) := by decide +kernel
theorem dX10_stands_1 : decode cX10_stands 1 = .ok (.iload_n 1, 1) := by decide +kernel
theorem dX10_stands_2 : decode cX10_stands 2 = .ok (.invokevirtual 167, 3) := by decide +kernel
theorem dX10_stands_5 : decode cX10_stands 5 = .ok (.ifCond .ne 8, 3) := by decide +kernel
theorem dX10_stands_8 : decode cX10_stands 8 = .ok (.bipush (-2), 2) := by decide +kernel
theorem dX10_stands_10 : decode cX10_stands 10 = .ok (.goto 16, 3) := by decide +kernel
theorem dX10_stands_13 : decode cX10_stands 13 = .ok (.aload_n 0, 1) := by decide +kernel
theorem dX10_stands_14 : decode cX10_stands 14 = .ok (.iload_n 1, 1) := by decide +kernel
theorem dX10_stands_15 : decode cX10_stands 15 = .ok (.invokevirtual 170, 3) := by decide +kernel
theorem dX10_stands_18 : decode cX10_stands 18 = .ok (.ifCond .eq 7, 3) := by decide +kernel
theorem dX10_stands_21 : decode cX10_stands 21 = .ok (.iconst 1, 1) := by decide +kernel
theorem dX10_stands_22 : decode cX10_stands 22 = .ok (.goto 4, 3) := by decide +kernel
theorem dX10_stands_25 : decode cX10_stands 25 = .ok (.iconst 0, 1) := by decide +kernel
theorem dX10_stands_26 : decode cX10_stands 26 = .ok (.ireturn, 1) := by decide +kernel
theorem dX10_mostOf_0 : decode cX10_mostOf 0 = .ok (.iconst 0, 1) := by decide +kernel
theorem dX10_mostOf_1 : decode cX10_mostOf 1 = .ok (.istore_n 1, 1) := by decide +kernel
theorem dX10_mostOf_2 : decode cX10_mostOf 2 = .ok (.iconst 1, 1) := by decide +kernel
theorem dX10_mostOf_3 : decode cX10_mostOf 3 = .ok (.istore_n 2, 1) := by decide +kernel
theorem dX10_mostOf_4 : decode cX10_mostOf 4 = .ok (.iload_n 2, 1) := by decide +kernel
theorem dX10_mostOf_5 : decode cX10_mostOf 5 = .ok (.iconst 1, 1) := by decide +kernel
theorem dX10_mostOf_6 : decode cX10_mostOf 6 = .ok (.aload_n 0, 1) := by decide +kernel
theorem dX10_mostOf_7 : decode cX10_mostOf 7 = .ok (.getfield 75, 3) := by decide +kernel
theorem dX10_mostOf_10 : decode cX10_mostOf 10 = .ok (.ishl, 1) := by decide +kernel
theorem dX10_mostOf_11 : decode cX10_mostOf 11 = .ok (.if_icmp .ge 34, 3) := by decide +kernel
theorem dX10_mostOf_14 : decode cX10_mostOf 14 = .ok (.iload_n 2, 1) := by decide +kernel
theorem dX10_mostOf_15 : decode cX10_mostOf 15 = .ok (.invokestatic 164, 3) := by decide +kernel
theorem dX10_mostOf_18 : decode cX10_mostOf 18 = .ok (.iload_n 1, 1) := by decide +kernel
theorem dX10_mostOf_19 : decode cX10_mostOf 19 = .ok (.if_icmp .le 18, 3) := by decide +kernel
theorem dX10_mostOf_22 : decode cX10_mostOf 22 = .ok (.aload_n 0, 1) := by decide +kernel
theorem dX10_mostOf_23 : decode cX10_mostOf 23 = .ok (.iload_n 2, 1) := by decide +kernel
theorem dX10_mostOf_24 : decode cX10_mostOf 24 = .ok (.invokevirtual 170, 3) := by decide +kernel
theorem dX10_mostOf_27 : decode cX10_mostOf 27 = .ok (.ifCond .eq 10, 3) := by decide +kernel
theorem dX10_mostOf_30 : decode cX10_mostOf 30 = .ok (.iload_n 2, 1) := by decide +kernel
theorem dX10_mostOf_31 : decode cX10_mostOf 31 = .ok (.invokestatic 164, 3) := by decide +kernel
theorem dX10_mostOf_34 : decode cX10_mostOf 34 = .ok (.goto 4, 3) := by decide +kernel
theorem dX10_mostOf_37 : decode cX10_mostOf 37 = .ok (.iload_n 1, 1) := by decide +kernel
theorem dX10_mostOf_38 : decode cX10_mostOf 38 = .ok (.istore_n 1, 1) := by decide +kernel
theorem dX10_mostOf_39 : decode cX10_mostOf 39 = .ok (.iinc 2 1, 3) := by decide +kernel
theorem dX10_mostOf_42 : decode cX10_mostOf 42 = .ok (.goto (-38), 3) := by decide +kernel
theorem dX10_mostOf_45 : decode cX10_mostOf 45 = .ok (.iload_n 1, 1) := by decide +kernel
theorem dX10_mostOf_46 : decode cX10_mostOf 46 = .ok (.ireturn, 1) := by decide +kernel
theorem dX10_most_0 : decode cX10_most 0 = .ok (.aload_n 0, 1) := by decide +kernel
theorem dX10_most_1 : decode cX10_most 1 = .ok (.invokevirtual 173, 3) := by decide +kernel
theorem dX10_most_4 : decode cX10_most 4 = .ok (.ireturn, 1) := by decide +kernel
theorem dX10_best_0 : decode cX10_best 0 = .ok (.iload_n 1, 1) := by decide +kernel
theorem dX10_best_1 : decode cX10_best 1 = .ok (.i2l, 1) := by decide +kernel
theorem dX10_best_2 : decode cX10_best 2 = .ok (.lconst 0, 1) := by decide +kernel
theorem dX10_best_3 : decode cX10_best 3 = .ok (.ldc2_w 176, 3) := by decide +kernel
theorem dX10_best_6 : decode cX10_best 6 = .ok (.invokestatic 78, 3) := by decide +kernel
theorem dX10_best_9 : decode cX10_best 9 = .ok (.ifCond .ne 6, 3) := by decide +kernel
theorem dX10_best_12 : decode cX10_best 12 = .ok (.bipush (-2), 2) := by decide +kernel
theorem dX10_best_14 : decode cX10_best 14 = .ok (.ireturn, 1) := by decide +kernel
theorem dX10_best_15 : decode cX10_best 15 = .ok (.aload_n 0, 1) := by decide +kernel
theorem dX10_best_16 : decode cX10_best 16 = .ok (.invokevirtual 173, 3) := by decide +kernel
theorem dX10_best_19 : decode cX10_best 19 = .ok (.istore_n 2, 1) := by decide +kernel
theorem dX10_best_20 : decode cX10_best 20 = .ok (.iconst (-1), 1) := by decide +kernel
theorem dX10_best_21 : decode cX10_best 21 = .ok (.istore_n 3, 1) := by decide +kernel
theorem dX10_best_22 : decode cX10_best 22 = .ok (.iconst 0, 1) := by decide +kernel
theorem dX10_best_23 : decode cX10_best 23 = .ok (.istore 4, 2) := by decide +kernel
theorem dX10_best_25 : decode cX10_best 25 = .ok (.iconst 1, 1) := by decide +kernel
theorem dX10_best_26 : decode cX10_best 26 = .ok (.aload_n 0, 1) := by decide +kernel
theorem dX10_best_27 : decode cX10_best 27 = .ok (.getfield 75, 3) := by decide +kernel
theorem dX10_best_30 : decode cX10_best 30 = .ok (.ishl, 1) := by decide +kernel
theorem dX10_best_31 : decode cX10_best 31 = .ok (.iconst 1, 1) := by decide +kernel
theorem dX10_best_32 : decode cX10_best 32 = .ok (.isub, 1) := by decide +kernel
theorem dX10_best_33 : decode cX10_best 33 = .ok (.istore 5, 2) := by decide +kernel
theorem dX10_best_35 : decode cX10_best 35 = .ok (.iconst 0, 1) := by decide +kernel
theorem dX10_best_36 : decode cX10_best 36 = .ok (.istore 6, 2) := by decide +kernel
theorem dX10_best_38 : decode cX10_best 38 = .ok (.iconst 0, 1) := by decide +kernel
theorem dX10_best_39 : decode cX10_best 39 = .ok (.istore 7, 2) := by decide +kernel
theorem dX10_best_41 : decode cX10_best 41 = .ok (.iload 7, 2) := by decide +kernel
theorem dX10_best_43 : decode cX10_best 43 = .ok (.iconst 1, 1) := by decide +kernel
theorem dX10_best_44 : decode cX10_best 44 = .ok (.aload_n 0, 1) := by decide +kernel
theorem dX10_best_45 : decode cX10_best 45 = .ok (.getfield 75, 3) := by decide +kernel
theorem dX10_best_48 : decode cX10_best 48 = .ok (.ishl, 1) := by decide +kernel
theorem dX10_best_49 : decode cX10_best 49 = .ok (.if_icmp .ge 56, 3) := by decide +kernel
theorem dX10_best_52 : decode cX10_best 52 = .ok (.iload 7, 2) := by decide +kernel
theorem dX10_best_54 : decode cX10_best 54 = .ok (.invokestatic 164, 3) := by decide +kernel
theorem dX10_best_57 : decode cX10_best 57 = .ok (.iload_n 2, 1) := by decide +kernel
theorem dX10_best_58 : decode cX10_best 58 = .ok (.if_icmp .ne 41, 3) := by decide +kernel
theorem dX10_best_61 : decode cX10_best 61 = .ok (.aload_n 0, 1) := by decide +kernel
theorem dX10_best_62 : decode cX10_best 62 = .ok (.iload 7, 2) := by decide +kernel
theorem dX10_best_64 : decode cX10_best 64 = .ok (.invokevirtual 170, 3) := by decide +kernel
theorem dX10_best_67 : decode cX10_best 67 = .ok (.ifCond .eq 32, 3) := by decide +kernel
theorem dX10_best_70 : decode cX10_best 70 = .ok (.iload_n 3, 1) := by decide +kernel
theorem dX10_best_71 : decode cX10_best 71 = .ok (.iconst (-1), 1) := by decide +kernel
theorem dX10_best_72 : decode cX10_best 72 = .ok (.if_icmp .ne 8, 3) := by decide +kernel
theorem dX10_best_75 : decode cX10_best 75 = .ok (.iload 7, 2) := by decide +kernel
theorem dX10_best_77 : decode cX10_best 77 = .ok (.goto 4, 3) := by decide +kernel
theorem dX10_best_80 : decode cX10_best 80 = .ok (.iload_n 3, 1) := by decide +kernel
theorem dX10_best_81 : decode cX10_best 81 = .ok (.istore_n 3, 1) := by decide +kernel
theorem dX10_best_82 : decode cX10_best 82 = .ok (.iinc 4 1, 3) := by decide +kernel
theorem dX10_best_85 : decode cX10_best 85 = .ok (.iload 5, 2) := by decide +kernel
theorem dX10_best_87 : decode cX10_best 87 = .ok (.iload 7, 2) := by decide +kernel
theorem dX10_best_89 : decode cX10_best 89 = .ok (.iand, 1) := by decide +kernel
theorem dX10_best_90 : decode cX10_best 90 = .ok (.istore 5, 2) := by decide +kernel
theorem dX10_best_92 : decode cX10_best 92 = .ok (.iload 6, 2) := by decide +kernel
theorem dX10_best_94 : decode cX10_best 94 = .ok (.iload 7, 2) := by decide +kernel
theorem dX10_best_96 : decode cX10_best 96 = .ok (.ior, 1) := by decide +kernel
theorem dX10_best_97 : decode cX10_best 97 = .ok (.istore 6, 2) := by decide +kernel
theorem dX10_best_99 : decode cX10_best 99 = .ok (.iinc 7 1, 3) := by decide +kernel
theorem dX10_best_102 : decode cX10_best 102 = .ok (.goto (-61), 3) := by decide +kernel
theorem dX10_best_105 : decode cX10_best 105 = .ok (.iload_n 1, 1) := by decide +kernel
theorem dX10_best_106 : decode cX10_best 106 = .ok (.ifCond .ne 7, 3) := by decide +kernel
theorem dX10_best_109 : decode cX10_best 109 = .ok (.iload_n 3, 1) := by decide +kernel
theorem dX10_best_110 : decode cX10_best 110 = .ok (.goto 25, 3) := by decide +kernel
theorem dX10_best_113 : decode cX10_best 113 = .ok (.iload_n 1, 1) := by decide +kernel
theorem dX10_best_114 : decode cX10_best 114 = .ok (.iconst 1, 1) := by decide +kernel
theorem dX10_best_115 : decode cX10_best 115 = .ok (.if_icmp .ne 8, 3) := by decide +kernel
theorem dX10_best_118 : decode cX10_best 118 = .ok (.iload 4, 2) := by decide +kernel
theorem dX10_best_120 : decode cX10_best 120 = .ok (.goto 15, 3) := by decide +kernel
theorem dX10_best_123 : decode cX10_best 123 = .ok (.iload_n 1, 1) := by decide +kernel
theorem dX10_best_124 : decode cX10_best 124 = .ok (.iconst 2, 1) := by decide +kernel
theorem dX10_best_125 : decode cX10_best 125 = .ok (.if_icmp .ne 8, 3) := by decide +kernel
theorem dX10_best_128 : decode cX10_best 128 = .ok (.iload 5, 2) := by decide +kernel
theorem dX10_best_130 : decode cX10_best 130 = .ok (.goto 5, 3) := by decide +kernel
theorem dX10_best_133 : decode cX10_best 133 = .ok (.iload 6, 2) := by decide +kernel
theorem dX10_best_135 : decode cX10_best 135 = .ok (.ireturn, 1) := by decide +kernel
theorem dX10_weights_0 : decode cX10_weights 0 = .ok (.iconst 0, 1) := by decide +kernel
theorem dX10_weights_1 : decode cX10_weights 1 = .ok (.istore_n 2, 1) := by decide +kernel
theorem dX10_weights_2 : decode cX10_weights 2 = .ok (.iconst 0, 1) := by decide +kernel
theorem dX10_weights_3 : decode cX10_weights 3 = .ok (.istore_n 3, 1) := by decide +kernel
theorem dX10_weights_4 : decode cX10_weights 4 = .ok (.iload_n 3, 1) := by decide +kernel
theorem dX10_weights_5 : decode cX10_weights 5 = .ok (.aload_n 0, 1) := by decide +kernel
theorem dX10_weights_6 : decode cX10_weights 6 = .ok (.getfield 75, 3) := by decide +kernel
theorem dX10_weights_9 : decode cX10_weights 9 = .ok (.if_icmp .ge 30, 3) := by decide +kernel
theorem dX10_weights_12 : decode cX10_weights 12 = .ok (.iload_n 2, 1) := by decide +kernel
theorem dX10_weights_13 : decode cX10_weights 13 = .ok (.iload_n 1, 1) := by decide +kernel
theorem dX10_weights_14 : decode cX10_weights 14 = .ok (.iload_n 3, 1) := by decide +kernel
theorem dX10_weights_15 : decode cX10_weights 15 = .ok (.invokestatic 149, 3) := by decide +kernel
theorem dX10_weights_18 : decode cX10_weights 18 = .ok (.ifCond .eq 12, 3) := by decide +kernel
theorem dX10_weights_21 : decode cX10_weights 21 = .ok (.aload_n 0, 1) := by decide +kernel
theorem dX10_weights_22 : decode cX10_weights 22 = .ok (.getfield 20, 3) := by decide +kernel
theorem dX10_weights_25 : decode cX10_weights 25 = .ok (.iload_n 3, 1) := by decide +kernel
theorem dX10_weights_26 : decode cX10_weights 26 = .ok (.iaload, 1) := by decide +kernel
theorem dX10_weights_27 : decode cX10_weights 27 = .ok (.goto 4, 3) := by decide +kernel
theorem dX10_weights_30 : decode cX10_weights 30 = .ok (.iconst 0, 1) := by decide +kernel
theorem dX10_weights_31 : decode cX10_weights 31 = .ok (.iadd, 1) := by decide +kernel
theorem dX10_weights_32 : decode cX10_weights 32 = .ok (.istore_n 2, 1) := by decide +kernel
theorem dX10_weights_33 : decode cX10_weights 33 = .ok (.iinc 3 1, 3) := by decide +kernel
theorem dX10_weights_36 : decode cX10_weights 36 = .ok (.goto (-32), 3) := by decide +kernel
theorem dX10_weights_39 : decode cX10_weights 39 = .ok (.iload_n 2, 1) := by decide +kernel
theorem dX10_weights_40 : decode cX10_weights 40 = .ok (.ireturn, 1) := by decide +kernel
theorem dX10_heavy_0 : decode cX10_heavy 0 = .ok (.iload_n 1, 1) := by decide +kernel
theorem dX10_heavy_1 : decode cX10_heavy 1 = .ok (.i2l, 1) := by decide +kernel
theorem dX10_heavy_2 : decode cX10_heavy 2 = .ok (.lconst 0, 1) := by decide +kernel
theorem dX10_heavy_3 : decode cX10_heavy 3 = .ok (.lconst 1, 1) := by decide +kernel
theorem dX10_heavy_4 : decode cX10_heavy 4 = .ok (.invokestatic 78, 3) := by decide +kernel
theorem dX10_heavy_7 : decode cX10_heavy 7 = .ok (.ifCond .ne 6, 3) := by decide +kernel
theorem dX10_heavy_10 : decode cX10_heavy 10 = .ok (.bipush (-2), 2) := by decide +kernel
theorem dX10_heavy_12 : decode cX10_heavy 12 = .ok (.ireturn, 1) := by decide +kernel
theorem dX10_heavy_13 : decode cX10_heavy 13 = .ok (.iconst 0, 1) := by decide +kernel
theorem dX10_heavy_14 : decode cX10_heavy 14 = .ok (.istore_n 2, 1) := by decide +kernel
theorem dX10_heavy_15 : decode cX10_heavy 15 = .ok (.iconst 1, 1) := by decide +kernel
theorem dX10_heavy_16 : decode cX10_heavy 16 = .ok (.istore_n 3, 1) := by decide +kernel
theorem dX10_heavy_17 : decode cX10_heavy 17 = .ok (.iload_n 3, 1) := by decide +kernel
theorem dX10_heavy_18 : decode cX10_heavy 18 = .ok (.iconst 1, 1) := by decide +kernel
theorem dX10_heavy_19 : decode cX10_heavy 19 = .ok (.aload_n 0, 1) := by decide +kernel
theorem dX10_heavy_20 : decode cX10_heavy 20 = .ok (.getfield 75, 3) := by decide +kernel
theorem dX10_heavy_23 : decode cX10_heavy 23 = .ok (.ishl, 1) := by decide +kernel
theorem dX10_heavy_24 : decode cX10_heavy 24 = .ok (.if_icmp .ge 36, 3) := by decide +kernel
theorem dX10_heavy_27 : decode cX10_heavy 27 = .ok (.aload_n 0, 1) := by decide +kernel
theorem dX10_heavy_28 : decode cX10_heavy 28 = .ok (.iload_n 3, 1) := by decide +kernel
theorem dX10_heavy_29 : decode cX10_heavy 29 = .ok (.invokevirtual 178, 3) := by decide +kernel
theorem dX10_heavy_32 : decode cX10_heavy 32 = .ok (.aload_n 0, 1) := by decide +kernel
theorem dX10_heavy_33 : decode cX10_heavy 33 = .ok (.iload_n 2, 1) := by decide +kernel
theorem dX10_heavy_34 : decode cX10_heavy 34 = .ok (.invokevirtual 178, 3) := by decide +kernel
theorem dX10_heavy_37 : decode cX10_heavy 37 = .ok (.if_icmp .le 15, 3) := by decide +kernel
theorem dX10_heavy_40 : decode cX10_heavy 40 = .ok (.aload_n 0, 1) := by decide +kernel
theorem dX10_heavy_41 : decode cX10_heavy 41 = .ok (.iload_n 3, 1) := by decide +kernel
theorem dX10_heavy_42 : decode cX10_heavy 42 = .ok (.invokevirtual 170, 3) := by decide +kernel
theorem dX10_heavy_45 : decode cX10_heavy 45 = .ok (.ifCond .eq 7, 3) := by decide +kernel
theorem dX10_heavy_48 : decode cX10_heavy 48 = .ok (.iload_n 3, 1) := by decide +kernel
theorem dX10_heavy_49 : decode cX10_heavy 49 = .ok (.goto 4, 3) := by decide +kernel
theorem dX10_heavy_52 : decode cX10_heavy 52 = .ok (.iload_n 2, 1) := by decide +kernel
theorem dX10_heavy_53 : decode cX10_heavy 53 = .ok (.istore_n 2, 1) := by decide +kernel
theorem dX10_heavy_54 : decode cX10_heavy 54 = .ok (.iinc 3 1, 3) := by decide +kernel
theorem dX10_heavy_57 : decode cX10_heavy 57 = .ok (.goto (-40), 3) := by decide +kernel
theorem dX10_heavy_60 : decode cX10_heavy 60 = .ok (.iload_n 1, 1) := by decide +kernel
theorem dX10_heavy_61 : decode cX10_heavy 61 = .ok (.ifCond .ne 7, 3) := by decide +kernel
theorem dX10_heavy_64 : decode cX10_heavy 64 = .ok (.iload_n 2, 1) := by decide +kernel
theorem dX10_heavy_65 : decode cX10_heavy 65 = .ok (.goto 8, 3) := by decide +kernel
theorem dX10_heavy_68 : decode cX10_heavy 68 = .ok (.aload_n 0, 1) := by decide +kernel
theorem dX10_heavy_69 : decode cX10_heavy 69 = .ok (.iload_n 2, 1) := by decide +kernel
theorem dX10_heavy_70 : decode cX10_heavy 70 = .ok (.invokevirtual 178, 3) := by decide +kernel
theorem dX10_heavy_73 : decode cX10_heavy 73 = .ok (.ireturn, 1) := by decide +kernel
theorem dX10_queue_0 : decode cX10_queue 0 = .ok (.iconst 0, 1) := by decide +kernel
theorem dX10_queue_1 : decode cX10_queue 1 = .ok (.istore_n 2, 1) := by decide +kernel
theorem dX10_queue_2 : decode cX10_queue 2 = .ok (.iload_n 2, 1) := by decide +kernel
theorem dX10_queue_3 : decode cX10_queue 3 = .ok (.aload_n 0, 1) := by decide +kernel
theorem dX10_queue_4 : decode cX10_queue 4 = .ok (.getfield 75, 3) := by decide +kernel
theorem dX10_queue_7 : decode cX10_queue 7 = .ok (.if_icmp .ge 20, 3) := by decide +kernel
theorem dX10_queue_10 : decode cX10_queue 10 = .ok (.aload_n 0, 1) := by decide +kernel
theorem dX10_queue_11 : decode cX10_queue 11 = .ok (.iload_n 2, 1) := by decide +kernel
theorem dX10_queue_12 : decode cX10_queue 12 = .ok (.invokevirtual 111, 3) := by decide +kernel
theorem dX10_queue_15 : decode cX10_queue 15 = .ok (.iload_n 1, 1) := by decide +kernel
theorem dX10_queue_16 : decode cX10_queue 16 = .ok (.if_icmp .ne 5, 3) := by decide +kernel
theorem dX10_queue_19 : decode cX10_queue 19 = .ok (.iload_n 2, 1) := by decide +kernel
theorem dX10_queue_20 : decode cX10_queue 20 = .ok (.ireturn, 1) := by decide +kernel
theorem dX10_queue_21 : decode cX10_queue 21 = .ok (.iinc 2 1, 3) := by decide +kernel
theorem dX10_queue_24 : decode cX10_queue 24 = .ok (.goto (-22), 3) := by decide +kernel
theorem dX10_queue_27 : decode cX10_queue 27 = .ok (.bipush (-12), 2) := by decide +kernel
theorem dX10_queue_29 : decode cX10_queue 29 = .ok (.ireturn, 1) := by decide +kernel
theorem dX10_greedy_0 : decode cX10_greedy 0 = .ok (.iload_n 1, 1) := by decide +kernel
theorem dX10_greedy_1 : decode cX10_greedy 1 = .ok (.i2l, 1) := by decide +kernel
theorem dX10_greedy_2 : decode cX10_greedy 2 = .ok (.lconst 0, 1) := by decide +kernel
theorem dX10_greedy_3 : decode cX10_greedy 3 = .ok (.lconst 1, 1) := by decide +kernel
theorem dX10_greedy_4 : decode cX10_greedy 4 = .ok (.invokestatic 78, 3) := by decide +kernel
theorem dX10_greedy_7 : decode cX10_greedy 7 = .ok (.ifCond .ne 6, 3) := by decide +kernel
theorem dX10_greedy_10 : decode cX10_greedy 10 = .ok (.bipush (-2), 2) := by decide +kernel
theorem dX10_greedy_12 : decode cX10_greedy 12 = .ok (.ireturn, 1) := by decide +kernel
theorem dX10_greedy_13 : decode cX10_greedy 13 = .ok (.iconst 0, 1) := by decide +kernel
theorem dX10_greedy_14 : decode cX10_greedy 14 = .ok (.istore_n 2, 1) := by decide +kernel
theorem dX10_greedy_15 : decode cX10_greedy 15 = .ok (.iconst 0, 1) := by decide +kernel
theorem dX10_greedy_16 : decode cX10_greedy 16 = .ok (.istore_n 3, 1) := by decide +kernel
theorem dX10_greedy_17 : decode cX10_greedy 17 = .ok (.iload_n 3, 1) := by decide +kernel
theorem dX10_greedy_18 : decode cX10_greedy 18 = .ok (.aload_n 0, 1) := by decide +kernel
theorem dX10_greedy_19 : decode cX10_greedy 19 = .ok (.getfield 75, 3) := by decide +kernel
theorem dX10_greedy_22 : decode cX10_greedy 22 = .ok (.if_icmp .ge 36, 3) := by decide +kernel
theorem dX10_greedy_25 : decode cX10_greedy 25 = .ok (.iload_n 2, 1) := by decide +kernel
theorem dX10_greedy_26 : decode cX10_greedy 26 = .ok (.iconst 1, 1) := by decide +kernel
theorem dX10_greedy_27 : decode cX10_greedy 27 = .ok (.aload_n 0, 1) := by decide +kernel
theorem dX10_greedy_28 : decode cX10_greedy 28 = .ok (.iload_n 3, 1) := by decide +kernel
theorem dX10_greedy_29 : decode cX10_greedy 29 = .ok (.invokevirtual 181, 3) := by decide +kernel
theorem dX10_greedy_32 : decode cX10_greedy 32 = .ok (.ishl, 1) := by decide +kernel
theorem dX10_greedy_33 : decode cX10_greedy 33 = .ok (.ior, 1) := by decide +kernel
theorem dX10_greedy_34 : decode cX10_greedy 34 = .ok (.istore 4, 2) := by decide +kernel
theorem dX10_greedy_36 : decode cX10_greedy 36 = .ok (.aload_n 0, 1) := by decide +kernel
theorem dX10_greedy_37 : decode cX10_greedy 37 = .ok (.iload 4, 2) := by decide +kernel
theorem dX10_greedy_39 : decode cX10_greedy 39 = .ok (.invokevirtual 170, 3) := by decide +kernel
theorem dX10_greedy_42 : decode cX10_greedy 42 = .ok (.ifCond .eq 8, 3) := by decide +kernel
theorem dX10_greedy_45 : decode cX10_greedy 45 = .ok (.iload 4, 2) := by decide +kernel
theorem dX10_greedy_47 : decode cX10_greedy 47 = .ok (.goto 4, 3) := by decide +kernel
theorem dX10_greedy_50 : decode cX10_greedy 50 = .ok (.iload_n 2, 1) := by decide +kernel
theorem dX10_greedy_51 : decode cX10_greedy 51 = .ok (.istore_n 2, 1) := by decide +kernel
theorem dX10_greedy_52 : decode cX10_greedy 52 = .ok (.iinc 3 1, 3) := by decide +kernel
theorem dX10_greedy_55 : decode cX10_greedy 55 = .ok (.goto (-38), 3) := by decide +kernel
theorem dX10_greedy_58 : decode cX10_greedy 58 = .ok (.iload_n 1, 1) := by decide +kernel
theorem dX10_greedy_59 : decode cX10_greedy 59 = .ok (.ifCond .ne 7, 3) := by decide +kernel
theorem dX10_greedy_62 : decode cX10_greedy 62 = .ok (.iload_n 2, 1) := by decide +kernel
theorem dX10_greedy_63 : decode cX10_greedy 63 = .ok (.goto 8, 3) := by decide +kernel
theorem dX10_greedy_66 : decode cX10_greedy 66 = .ok (.aload_n 0, 1) := by decide +kernel
theorem dX10_greedy_67 : decode cX10_greedy 67 = .ok (.iload_n 2, 1) := by decide +kernel
theorem dX10_greedy_68 : decode cX10_greedy 68 = .ok (.invokevirtual 178, 3) := by decide +kernel
theorem dX10_greedy_71 : decode cX10_greedy 71 = .ok (.ireturn, 1) := by decide +kernel
theorem dX10_bettered_0 : decode cX10_bettered 0 = .ok (.iconst 0, 1) := by decide +kernel
theorem dX10_bettered_1 : decode cX10_bettered 1 = .ok (.istore_n 2, 1) := by decide +kernel
theorem dX10_bettered_2 : decode cX10_bettered 2 = .ok (.iload_n 2, 1) := by decide +kernel
theorem dX10_bettered_3 : decode cX10_bettered 3 = .ok (.aload_n 0, 1) := by decide +kernel
theorem dX10_bettered_4 : decode cX10_bettered 4 = .ok (.getfield 75, 3) := by decide +kernel
theorem dX10_bettered_7 : decode cX10_bettered 7 = .ok (.if_icmp .ge 35, 3) := by decide +kernel
theorem dX10_bettered_10 : decode cX10_bettered 10 = .ok (.iload_n 1, 1) := by decide +kernel
theorem dX10_bettered_11 : decode cX10_bettered 11 = .ok (.iload_n 2, 1) := by decide +kernel
theorem dX10_bettered_12 : decode cX10_bettered 12 = .ok (.invokestatic 149, 3) := by decide +kernel
theorem dX10_bettered_15 : decode cX10_bettered 15 = .ok (.ifCond .ne 21, 3) := by decide +kernel
theorem dX10_bettered_18 : decode cX10_bettered 18 = .ok (.aload_n 0, 1) := by decide +kernel
theorem dX10_bettered_19 : decode cX10_bettered 19 = .ok (.iload_n 1, 1) := by decide +kernel
theorem dX10_bettered_20 : decode cX10_bettered 20 = .ok (.iconst 1, 1) := by decide +kernel
theorem dX10_bettered_21 : decode cX10_bettered 21 = .ok (.iload_n 2, 1) := by decide +kernel
theorem dX10_bettered_22 : decode cX10_bettered 22 = .ok (.ishl, 1) := by decide +kernel
theorem dX10_bettered_23 : decode cX10_bettered 23 = .ok (.ior, 1) := by decide +kernel
theorem dX10_bettered_24 : decode cX10_bettered 24 = .ok (.invokevirtual 170, 3) := by decide +kernel
theorem dX10_bettered_27 : decode cX10_bettered 27 = .ok (.ifCond .eq 9, 3) := by decide +kernel
theorem dX10_bettered_30 : decode cX10_bettered 30 = .ok (.iload_n 1, 1) := by decide +kernel
theorem dX10_bettered_31 : decode cX10_bettered 31 = .ok (.iconst 1, 1) := by decide +kernel
theorem dX10_bettered_32 : decode cX10_bettered 32 = .ok (.iload_n 2, 1) := by decide +kernel
theorem dX10_bettered_33 : decode cX10_bettered 33 = .ok (.ishl, 1) := by decide +kernel
theorem dX10_bettered_34 : decode cX10_bettered 34 = .ok (.ior, 1) := by decide +kernel
theorem dX10_bettered_35 : decode cX10_bettered 35 = .ok (.ireturn, 1) := by decide +kernel
theorem dX10_bettered_36 : decode cX10_bettered 36 = .ok (.iinc 2 1, 3) := by decide +kernel
theorem dX10_bettered_39 : decode cX10_bettered 39 = .ok (.goto (-37), 3) := by decide +kernel
theorem dX10_bettered_42 : decode cX10_bettered 42 = .ok (.iconst 0, 1) := by decide +kernel
theorem dX10_bettered_43 : decode cX10_bettered 43 = .ok (.istore_n 2, 1) := by decide +kernel
theorem dX10_bettered_44 : decode cX10_bettered 44 = .ok (.iload_n 2, 1) := by decide +kernel
theorem dX10_bettered_45 : decode cX10_bettered 45 = .ok (.aload_n 0, 1) := by decide +kernel
theorem dX10_bettered_46 : decode cX10_bettered 46 = .ok (.getfield 75, 3) := by decide +kernel
theorem dX10_bettered_49 : decode cX10_bettered 49 = .ok (.if_icmp .ge 100, 3) := by decide +kernel
theorem dX10_bettered_52 : decode cX10_bettered 52 = .ok (.iconst 0, 1) := by decide +kernel
theorem dX10_bettered_53 : decode cX10_bettered 53 = .ok (.istore_n 3, 1) := by decide +kernel
theorem dX10_bettered_54 : decode cX10_bettered 54 = .ok (.iload_n 3, 1) := by decide +kernel
theorem dX10_bettered_55 : decode cX10_bettered 55 = .ok (.aload_n 0, 1) := by decide +kernel
theorem dX10_bettered_56 : decode cX10_bettered 56 = .ok (.getfield 75, 3) := by decide +kernel
theorem dX10_bettered_59 : decode cX10_bettered 59 = .ok (.if_icmp .ge 84, 3) := by decide +kernel
theorem dX10_bettered_62 : decode cX10_bettered 62 = .ok (.iload_n 1, 1) := by decide +kernel
theorem dX10_bettered_63 : decode cX10_bettered 63 = .ok (.iload_n 2, 1) := by decide +kernel
theorem dX10_bettered_64 : decode cX10_bettered 64 = .ok (.invokestatic 149, 3) := by decide +kernel
theorem dX10_bettered_67 : decode cX10_bettered 67 = .ok (.ifCond .eq 76, 3) := by decide +kernel
theorem dX10_bettered_70 : decode cX10_bettered 70 = .ok (.iload_n 3, 1) := by decide +kernel
theorem dX10_bettered_71 : decode cX10_bettered 71 = .ok (.iconst 1, 1) := by decide +kernel
theorem dX10_bettered_72 : decode cX10_bettered 72 = .ok (.iadd, 1) := by decide +kernel
theorem dX10_bettered_73 : decode cX10_bettered 73 = .ok (.istore 4, 2) := by decide +kernel
theorem dX10_bettered_75 : decode cX10_bettered 75 = .ok (.iload 4, 2) := by decide +kernel
theorem dX10_bettered_77 : decode cX10_bettered 77 = .ok (.aload_n 0, 1) := by decide +kernel
theorem dX10_bettered_78 : decode cX10_bettered 78 = .ok (.getfield 75, 3) := by decide +kernel
theorem dX10_bettered_81 : decode cX10_bettered 81 = .ok (.if_icmp .ge 56, 3) := by decide +kernel
theorem dX10_bettered_84 : decode cX10_bettered 84 = .ok (.iload_n 1, 1) := by decide +kernel
theorem dX10_bettered_85 : decode cX10_bettered 85 = .ok (.iload_n 3, 1) := by decide +kernel
theorem dX10_bettered_86 : decode cX10_bettered 86 = .ok (.invokestatic 149, 3) := by decide +kernel
theorem dX10_bettered_89 : decode cX10_bettered 89 = .ok (.ifCond .ne 48, 3) := by decide +kernel
theorem dX10_bettered_92 : decode cX10_bettered 92 = .ok (.iload_n 1, 1) := by decide +kernel
theorem dX10_bettered_93 : decode cX10_bettered 93 = .ok (.iconst 1, 1) := by decide +kernel
theorem dX10_bettered_94 : decode cX10_bettered 94 = .ok (.iload_n 2, 1) := by decide +kernel
theorem dX10_bettered_95 : decode cX10_bettered 95 = .ok (.ishl, 1) := by decide +kernel
theorem dX10_bettered_96 : decode cX10_bettered 96 = .ok (.iconst (-1), 1) := by decide +kernel
theorem dX10_bettered_97 : decode cX10_bettered 97 = .ok (.ixor, 1) := by decide +kernel
theorem dX10_bettered_98 : decode cX10_bettered 98 = .ok (.iand, 1) := by decide +kernel
theorem dX10_bettered_99 : decode cX10_bettered 99 = .ok (.iconst 1, 1) := by decide +kernel
theorem dX10_bettered_100 : decode cX10_bettered 100 = .ok (.iload_n 3, 1) := by decide +kernel
theorem dX10_bettered_101 : decode cX10_bettered 101 = .ok (.ishl, 1) := by decide +kernel
theorem dX10_bettered_102 : decode cX10_bettered 102 = .ok (.ior, 1) := by decide +kernel
theorem dX10_bettered_103 : decode cX10_bettered 103 = .ok (.iconst 1, 1) := by decide +kernel
theorem dX10_bettered_104 : decode cX10_bettered 104 = .ok (.iload 4, 2) := by decide +kernel
theorem dX10_bettered_106 : decode cX10_bettered 106 = .ok (.ishl, 1) := by decide +kernel
theorem dX10_bettered_107 : decode cX10_bettered 107 = .ok (.ior, 1) := by decide +kernel
theorem dX10_bettered_108 : decode cX10_bettered 108 = .ok (.istore 5, 2) := by decide +kernel
theorem dX10_bettered_110 : decode cX10_bettered 110 = .ok (.iload_n 1, 1) := by decide +kernel
theorem dX10_bettered_111 : decode cX10_bettered 111 = .ok (.iload 4, 2) := by decide +kernel
theorem dX10_bettered_113 : decode cX10_bettered 113 = .ok (.invokestatic 149, 3) := by decide +kernel
theorem dX10_bettered_116 : decode cX10_bettered 116 = .ok (.ifCond .ne 15, 3) := by decide +kernel
theorem dX10_bettered_119 : decode cX10_bettered 119 = .ok (.aload_n 0, 1) := by decide +kernel
theorem dX10_bettered_120 : decode cX10_bettered 120 = .ok (.iload 5, 2) := by decide +kernel
theorem dX10_bettered_122 : decode cX10_bettered 122 = .ok (.invokevirtual 170, 3) := by decide +kernel
theorem dX10_bettered_125 : decode cX10_bettered 125 = .ok (.ifCond .eq 6, 3) := by decide +kernel
theorem dX10_bettered_128 : decode cX10_bettered 128 = .ok (.iload 5, 2) := by decide +kernel
theorem dX10_bettered_130 : decode cX10_bettered 130 = .ok (.ireturn, 1) := by decide +kernel
theorem dX10_bettered_131 : decode cX10_bettered 131 = .ok (.iinc 4 1, 3) := by decide +kernel
theorem dX10_bettered_134 : decode cX10_bettered 134 = .ok (.goto (-59), 3) := by decide +kernel
theorem dX10_bettered_137 : decode cX10_bettered 137 = .ok (.iinc 3 1, 3) := by decide +kernel
theorem dX10_bettered_140 : decode cX10_bettered 140 = .ok (.goto (-86), 3) := by decide +kernel
theorem dX10_bettered_143 : decode cX10_bettered 143 = .ok (.iinc 2 1, 3) := by decide +kernel
theorem dX10_bettered_146 : decode cX10_bettered 146 = .ok (.goto (-102), 3) := by decide +kernel
theorem dX10_bettered_149 : decode cX10_bettered 149 = .ok (.iload_n 1, 1) := by decide +kernel
theorem dX10_bettered_150 : decode cX10_bettered 150 = .ok (.ireturn, 1) := by decide +kernel
theorem dX10_better_0 : decode cX10_better 0 = .ok (.aload_n 0, 1) := by decide +kernel
theorem dX10_better_1 : decode cX10_better 1 = .ok (.iload_n 1, 1) := by decide +kernel
theorem dX10_better_2 : decode cX10_better 2 = .ok (.invokevirtual 167, 3) := by decide +kernel
theorem dX10_better_5 : decode cX10_better 5 = .ok (.ifCond .ne 6, 3) := by decide +kernel
theorem dX10_better_8 : decode cX10_better 8 = .ok (.bipush (-2), 2) := by decide +kernel
theorem dX10_better_10 : decode cX10_better 10 = .ok (.ireturn, 1) := by decide +kernel
theorem dX10_better_11 : decode cX10_better 11 = .ok (.aload_n 0, 1) := by decide +kernel
theorem dX10_better_12 : decode cX10_better 12 = .ok (.iload_n 1, 1) := by decide +kernel
theorem dX10_better_13 : decode cX10_better 13 = .ok (.invokevirtual 170, 3) := by decide +kernel
theorem dX10_better_16 : decode cX10_better 16 = .ok (.ifCond .ne 6, 3) := by decide +kernel
theorem dX10_better_19 : decode cX10_better 19 = .ok (.bipush (-3), 2) := by decide +kernel
theorem dX10_better_21 : decode cX10_better 21 = .ok (.ireturn, 1) := by decide +kernel
theorem dX10_better_22 : decode cX10_better 22 = .ok (.iconst (-1), 1) := by decide +kernel
theorem dX10_better_23 : decode cX10_better 23 = .ok (.istore_n 2, 1) := by decide +kernel
theorem dX10_better_24 : decode cX10_better 24 = .ok (.iload_n 1, 1) := by decide +kernel
theorem dX10_better_25 : decode cX10_better 25 = .ok (.istore_n 3, 1) := by decide +kernel
theorem dX10_better_26 : decode cX10_better 26 = .ok (.iload_n 2, 1) := by decide +kernel
theorem dX10_better_27 : decode cX10_better 27 = .ok (.iload_n 3, 1) := by decide +kernel
theorem dX10_better_28 : decode cX10_better 28 = .ok (.if_icmp .eq 14, 3) := by decide +kernel
theorem dX10_better_31 : decode cX10_better 31 = .ok (.iload_n 3, 1) := by decide +kernel
theorem dX10_better_32 : decode cX10_better 32 = .ok (.istore_n 2, 1) := by decide +kernel
theorem dX10_better_33 : decode cX10_better 33 = .ok (.aload_n 0, 1) := by decide +kernel
theorem dX10_better_34 : decode cX10_better 34 = .ok (.iload_n 3, 1) := by decide +kernel
theorem dX10_better_35 : decode cX10_better 35 = .ok (.invokevirtual 184, 3) := by decide +kernel
theorem dX10_better_38 : decode cX10_better 38 = .ok (.istore_n 3, 1) := by decide +kernel
theorem dX10_better_39 : decode cX10_better 39 = .ok (.goto (-13), 3) := by decide +kernel
theorem dX10_better_42 : decode cX10_better 42 = .ok (.iload_n 3, 1) := by decide +kernel
theorem dX10_better_43 : decode cX10_better 43 = .ok (.ireturn, 1) := by decide +kernel
theorem dX10_tells_0 : decode cX10_tells 0 = .ok (.iload_n 1, 1) := by decide +kernel
theorem dX10_tells_1 : decode cX10_tells 1 = .ok (.invokestatic 187, 3) := by decide +kernel
theorem dX10_tells_4 : decode cX10_tells 4 = .ok (.ifCond .ne 6, 3) := by decide +kernel
theorem dX10_tells_7 : decode cX10_tells 7 = .ok (.bipush (-2), 2) := by decide +kernel
theorem dX10_tells_9 : decode cX10_tells 9 = .ok (.ireturn, 1) := by decide +kernel
theorem dX10_tells_10 : decode cX10_tells 10 = .ok (.aload_n 0, 1) := by decide +kernel
theorem dX10_tells_11 : decode cX10_tells 11 = .ok (.getfield 60, 3) := by decide +kernel
theorem dX10_tells_14 : decode cX10_tells 14 = .ok (.iload_n 1, 1) := by decide +kernel
theorem dX10_tells_15 : decode cX10_tells 15 = .ok (.iaload, 1) := by decide +kernel
theorem dX10_tells_16 : decode cX10_tells 16 = .ok (.ifCond .ge 6, 3) := by decide +kernel
theorem dX10_tells_19 : decode cX10_tells 19 = .ok (.bipush (-11), 2) := by decide +kernel
theorem dX10_tells_21 : decode cX10_tells 21 = .ok (.ireturn, 1) := by decide +kernel
theorem dX10_tells_22 : decode cX10_tells 22 = .ok (.iconst 0, 1) := by decide +kernel
theorem dX10_tells_23 : decode cX10_tells 23 = .ok (.istore_n 2, 1) := by decide +kernel
theorem dX10_tells_24 : decode cX10_tells 24 = .ok (.iload_n 2, 1) := by decide +kernel
theorem dX10_tells_25 : decode cX10_tells 25 = .ok (.bipush 10, 2) := by decide +kernel
theorem dX10_tells_27 : decode cX10_tells 27 = .ok (.if_icmp .ge 40, 3) := by decide +kernel
theorem dX10_tells_30 : decode cX10_tells 30 = .ok (.aload_n 0, 1) := by decide +kernel
theorem dX10_tells_31 : decode cX10_tells 31 = .ok (.getfield 36, 3) := by decide +kernel
theorem dX10_tells_34 : decode cX10_tells 34 = .ok (.iload_n 2, 1) := by decide +kernel
theorem dX10_tells_35 : decode cX10_tells 35 = .ok (.iload_n 2, 1) := by decide +kernel
theorem dX10_tells_36 : decode cX10_tells 36 = .ok (.aload_n 0, 1) := by decide +kernel
theorem dX10_tells_37 : decode cX10_tells 37 = .ok (.getfield 63, 3) := by decide +kernel
theorem dX10_tells_40 : decode cX10_tells 40 = .ok (.iload_n 1, 1) := by decide +kernel
theorem dX10_tells_41 : decode cX10_tells 41 = .ok (.iaload, 1) := by decide +kernel
theorem dX10_tells_42 : decode cX10_tells 42 = .ok (.if_icmp .ge 17, 3) := by decide +kernel
theorem dX10_tells_45 : decode cX10_tells 45 = .ok (.aload_n 0, 1) := by decide +kernel
theorem dX10_tells_46 : decode cX10_tells 46 = .ok (.getfield 66, 3) := by decide +kernel
theorem dX10_tells_49 : decode cX10_tells 49 = .ok (.bipush 30, 2) := by decide +kernel
theorem dX10_tells_51 : decode cX10_tells 51 = .ok (.iload_n 1, 1) := by decide +kernel
theorem dX10_tells_52 : decode cX10_tells 52 = .ok (.imul, 1) := by decide +kernel
theorem dX10_tells_53 : decode cX10_tells 53 = .ok (.iload_n 2, 1) := by decide +kernel
theorem dX10_tells_54 : decode cX10_tells 54 = .ok (.iadd, 1) := by decide +kernel
theorem dX10_tells_55 : decode cX10_tells 55 = .ok (.laload, 1) := by decide +kernel
theorem dX10_tells_56 : decode cX10_tells 56 = .ok (.goto 4, 3) := by decide +kernel
theorem dX10_tells_59 : decode cX10_tells 59 = .ok (.lconst 0, 1) := by decide +kernel
theorem dX10_tells_60 : decode cX10_tells 60 = .ok (.lastore, 1) := by decide +kernel
theorem dX10_tells_61 : decode cX10_tells 61 = .ok (.iinc 2 1, 3) := by decide +kernel
theorem dX10_tells_64 : decode cX10_tells 64 = .ok (.goto (-40), 3) := by decide +kernel
theorem dX10_tells_67 : decode cX10_tells 67 = .ok (.iconst 0, 1) := by decide +kernel
theorem dX10_tells_68 : decode cX10_tells 68 = .ok (.ireturn, 1) := by decide +kernel
theorem dX10_difference_0 : decode cX10_difference 0 = .ok (.aload_n 0, 1) := by decide +kernel
theorem dX10_difference_1 : decode cX10_difference 1 = .ok (.iload_n 1, 1) := by decide +kernel
theorem dX10_difference_2 : decode cX10_difference 2 = .ok (.iconst 0, 1) := by decide +kernel
theorem dX10_difference_3 : decode cX10_difference 3 = .ok (.iload_n 2, 1) := by decide +kernel
theorem dX10_difference_4 : decode cX10_difference 4 = .ok (.invokevirtual 121, 3) := by decide +kernel
theorem dX10_difference_7 : decode cX10_difference 7 = .ok (.aload_n 0, 1) := by decide +kernel
theorem dX10_difference_8 : decode cX10_difference 8 = .ok (.iload_n 1, 1) := by decide +kernel
theorem dX10_difference_9 : decode cX10_difference 9 = .ok (.iconst 1, 1) := by decide +kernel
theorem dX10_difference_10 : decode cX10_difference 10 = .ok (.iload_n 3, 1) := by decide +kernel
theorem dX10_difference_11 : decode cX10_difference 11 = .ok (.invokevirtual 121, 3) := by decide +kernel
theorem dX10_difference_14 : decode cX10_difference 14 = .ok (.imul, 1) := by decide +kernel
theorem dX10_difference_15 : decode cX10_difference 15 = .ok (.aload_n 0, 1) := by decide +kernel
theorem dX10_difference_16 : decode cX10_difference 16 = .ok (.iload_n 1, 1) := by decide +kernel
theorem dX10_difference_17 : decode cX10_difference 17 = .ok (.iconst 0, 1) := by decide +kernel
theorem dX10_difference_18 : decode cX10_difference 18 = .ok (.iload_n 3, 1) := by decide +kernel
theorem dX10_difference_19 : decode cX10_difference 19 = .ok (.invokevirtual 121, 3) := by decide +kernel
theorem dX10_difference_22 : decode cX10_difference 22 = .ok (.aload_n 0, 1) := by decide +kernel
theorem dX10_difference_23 : decode cX10_difference 23 = .ok (.iload_n 1, 1) := by decide +kernel
theorem dX10_difference_24 : decode cX10_difference 24 = .ok (.iconst 1, 1) := by decide +kernel
theorem dX10_difference_25 : decode cX10_difference 25 = .ok (.iload_n 2, 1) := by decide +kernel
theorem dX10_difference_26 : decode cX10_difference 26 = .ok (.invokevirtual 121, 3) := by decide +kernel
theorem dX10_difference_29 : decode cX10_difference 29 = .ok (.imul, 1) := by decide +kernel
theorem dX10_difference_30 : decode cX10_difference 30 = .ok (.isub, 1) := by decide +kernel
theorem dX10_difference_31 : decode cX10_difference 31 = .ok (.ireturn, 1) := by decide +kernel
theorem dX10_tableAt_0 : decode cX10_tableAt 0 = .ok (.iconst 0, 1) := by decide +kernel
theorem dX10_tableAt_1 : decode cX10_tableAt 1 = .ok (.istore_n 3, 1) := by decide +kernel
theorem dX10_tableAt_2 : decode cX10_tableAt 2 = .ok (.iconst 0, 1) := by decide +kernel
theorem dX10_tableAt_3 : decode cX10_tableAt 3 = .ok (.istore 4, 2) := by decide +kernel
theorem dX10_tableAt_5 : decode cX10_tableAt 5 = .ok (.iload 4, 2) := by decide +kernel
theorem dX10_tableAt_7 : decode cX10_tableAt 7 = .ok (.aload_n 0, 1) := by decide +kernel
theorem dX10_tableAt_8 : decode cX10_tableAt 8 = .ok (.getfield 75, 3) := by decide +kernel
theorem dX10_tableAt_11 : decode cX10_tableAt 11 = .ok (.if_icmp .ge 39, 3) := by decide +kernel
theorem dX10_tableAt_14 : decode cX10_tableAt 14 = .ok (.aload_n 0, 1) := by decide +kernel
theorem dX10_tableAt_15 : decode cX10_tableAt 15 = .ok (.iload_n 3, 1) := by decide +kernel
theorem dX10_tableAt_16 : decode cX10_tableAt 16 = .ok (.i2l, 1) := by decide +kernel
theorem dX10_tableAt_17 : decode cX10_tableAt 17 = .ok (.aload_n 0, 1) := by decide +kernel
theorem dX10_tableAt_18 : decode cX10_tableAt 18 = .ok (.aload_n 0, 1) := by decide +kernel
theorem dX10_tableAt_19 : decode cX10_tableAt 19 = .ok (.getfield 36, 3) := by decide +kernel
theorem dX10_tableAt_22 : decode cX10_tableAt 22 = .ok (.iload 4, 2) := by decide +kernel
theorem dX10_tableAt_24 : decode cX10_tableAt 24 = .ok (.laload, 1) := by decide +kernel
theorem dX10_tableAt_25 : decode cX10_tableAt 25 = .ok (.invokevirtual 82, 3) := by decide +kernel
theorem dX10_tableAt_28 : decode cX10_tableAt 28 = .ok (.i2l, 1) := by decide +kernel
theorem dX10_tableAt_29 : decode cX10_tableAt 29 = .ok (.aload_n 0, 1) := by decide +kernel
theorem dX10_tableAt_30 : decode cX10_tableAt 30 = .ok (.iload 4, 2) := by decide +kernel
theorem dX10_tableAt_32 : decode cX10_tableAt 32 = .ok (.iload_n 1, 1) := by decide +kernel
theorem dX10_tableAt_33 : decode cX10_tableAt 33 = .ok (.iload_n 2, 1) := by decide +kernel
theorem dX10_tableAt_34 : decode cX10_tableAt 34 = .ok (.invokevirtual 190, 3) := by decide +kernel
theorem dX10_tableAt_37 : decode cX10_tableAt 37 = .ok (.i2l, 1) := by decide +kernel
theorem dX10_tableAt_38 : decode cX10_tableAt 38 = .ok (.lmul, 1) := by decide +kernel
theorem dX10_tableAt_39 : decode cX10_tableAt 39 = .ok (.ladd, 1) := by decide +kernel
theorem dX10_tableAt_40 : decode cX10_tableAt 40 = .ok (.invokevirtual 82, 3) := by decide +kernel
theorem dX10_tableAt_43 : decode cX10_tableAt 43 = .ok (.istore_n 3, 1) := by decide +kernel
theorem dX10_tableAt_44 : decode cX10_tableAt 44 = .ok (.iinc 4 1, 3) := by decide +kernel
theorem dX10_tableAt_47 : decode cX10_tableAt 47 = .ok (.goto (-42), 3) := by decide +kernel
theorem dX10_tableAt_50 : decode cX10_tableAt 50 = .ok (.iload_n 3, 1) := by decide +kernel
theorem dX10_tableAt_51 : decode cX10_tableAt 51 = .ok (.ireturn, 1) := by decide +kernel
theorem dX10_table_0 : decode cX10_table 0 = .ok (.iload_n 1, 1) := by decide +kernel
theorem dX10_table_1 : decode cX10_table 1 = .ok (.invokestatic 187, 3) := by decide +kernel
theorem dX10_table_4 : decode cX10_table 4 = .ok (.ifCond .eq 35, 3) := by decide +kernel
theorem dX10_table_7 : decode cX10_table 7 = .ok (.iload_n 2, 1) := by decide +kernel
theorem dX10_table_8 : decode cX10_table 8 = .ok (.i2l, 1) := by decide +kernel
theorem dX10_table_9 : decode cX10_table 9 = .ok (.lconst 0, 1) := by decide +kernel
theorem dX10_table_10 : decode cX10_table 10 = .ok (.aload_n 0, 1) := by decide +kernel
theorem dX10_table_11 : decode cX10_table 11 = .ok (.getfield 13, 3) := by decide +kernel
theorem dX10_table_14 : decode cX10_table 14 = .ok (.iconst 1, 1) := by decide +kernel
theorem dX10_table_15 : decode cX10_table 15 = .ok (.isub, 1) := by decide +kernel
theorem dX10_table_16 : decode cX10_table 16 = .ok (.i2l, 1) := by decide +kernel
theorem dX10_table_17 : decode cX10_table 17 = .ok (.invokestatic 78, 3) := by decide +kernel
theorem dX10_table_20 : decode cX10_table 20 = .ok (.ifCond .eq 19, 3) := by decide +kernel
theorem dX10_table_23 : decode cX10_table 23 = .ok (.iload_n 3, 1) := by decide +kernel
theorem dX10_table_24 : decode cX10_table 24 = .ok (.i2l, 1) := by decide +kernel
theorem dX10_table_25 : decode cX10_table 25 = .ok (.lconst 0, 1) := by decide +kernel
theorem dX10_table_26 : decode cX10_table 26 = .ok (.aload_n 0, 1) := by decide +kernel
theorem dX10_table_27 : decode cX10_table 27 = .ok (.getfield 13, 3) := by decide +kernel
theorem dX10_table_30 : decode cX10_table 30 = .ok (.iconst 1, 1) := by decide +kernel
theorem dX10_table_31 : decode cX10_table 31 = .ok (.isub, 1) := by decide +kernel
theorem dX10_table_32 : decode cX10_table 32 = .ok (.i2l, 1) := by decide +kernel
theorem dX10_table_33 : decode cX10_table 33 = .ok (.invokestatic 78, 3) := by decide +kernel
theorem dX10_table_36 : decode cX10_table 36 = .ok (.ifCond .ne 6, 3) := by decide +kernel
theorem dX10_table_39 : decode cX10_table 39 = .ok (.bipush (-2), 2) := by decide +kernel
theorem dX10_table_41 : decode cX10_table 41 = .ok (.ireturn, 1) := by decide +kernel
theorem dX10_table_42 : decode cX10_table 42 = .ok (.aload_n 0, 1) := by decide +kernel
theorem dX10_table_43 : decode cX10_table 43 = .ok (.iload_n 1, 1) := by decide +kernel
theorem dX10_table_44 : decode cX10_table 44 = .ok (.invokevirtual 193, 3) := by decide +kernel
theorem dX10_table_47 : decode cX10_table 47 = .ok (.istore 4, 2) := by decide +kernel
theorem dX10_table_49 : decode cX10_table 49 = .ok (.iload 4, 2) := by decide +kernel
theorem dX10_table_51 : decode cX10_table 51 = .ok (.ifCond .eq 8, 3) := by decide +kernel
theorem dX10_table_54 : decode cX10_table 54 = .ok (.iload 4, 2) := by decide +kernel
theorem dX10_table_56 : decode cX10_table 56 = .ok (.goto 9, 3) := by decide +kernel
theorem dX10_table_59 : decode cX10_table 59 = .ok (.aload_n 0, 1) := by decide +kernel
theorem dX10_table_60 : decode cX10_table 60 = .ok (.iload_n 2, 1) := by decide +kernel
theorem dX10_table_61 : decode cX10_table 61 = .ok (.iload_n 3, 1) := by decide +kernel
theorem dX10_table_62 : decode cX10_table 62 = .ok (.invokevirtual 196, 3) := by decide +kernel
theorem dX10_table_65 : decode cX10_table 65 = .ok (.ireturn, 1) := by decide +kernel
theorem dX10_halfOf_0 : decode cX10_halfOf 0 = .ok (.aload_n 0, 1) := by decide +kernel
theorem dX10_halfOf_1 : decode cX10_halfOf 1 = .ok (.aload_n 0, 1) := by decide +kernel
theorem dX10_halfOf_2 : decode cX10_halfOf 2 = .ok (.getfield 13, 3) := by decide +kernel
theorem dX10_halfOf_5 : decode cX10_halfOf 5 = .ok (.putfield 138, 3) := by decide +kernel
theorem dX10_halfOf_8 : decode cX10_halfOf 8 = .ok (.iconst 0, 1) := by decide +kernel
theorem dX10_halfOf_9 : decode cX10_halfOf 9 = .ok (.istore_n 1, 1) := by decide +kernel
theorem dX10_halfOf_10 : decode cX10_halfOf 10 = .ok (.iload_n 1, 1) := by decide +kernel
theorem dX10_halfOf_11 : decode cX10_halfOf 11 = .ok (.aload_n 0, 1) := by decide +kernel
theorem dX10_halfOf_12 : decode cX10_halfOf 12 = .ok (.getfield 13, 3) := by decide +kernel
theorem dX10_halfOf_15 : decode cX10_halfOf 15 = .ok (.if_icmp .ge 42, 3) := by decide +kernel
theorem dX10_halfOf_18 : decode cX10_halfOf 18 = .ok (.iconst 0, 1) := by decide +kernel
theorem dX10_halfOf_19 : decode cX10_halfOf 19 = .ok (.istore_n 2, 1) := by decide +kernel
theorem dX10_halfOf_20 : decode cX10_halfOf 20 = .ok (.iload_n 2, 1) := by decide +kernel
theorem dX10_halfOf_21 : decode cX10_halfOf 21 = .ok (.aload_n 0, 1) := by decide +kernel
theorem dX10_halfOf_22 : decode cX10_halfOf 22 = .ok (.getfield 13, 3) := by decide +kernel
theorem dX10_halfOf_25 : decode cX10_halfOf 25 = .ok (.if_icmp .ge 26, 3) := by decide +kernel
theorem dX10_halfOf_28 : decode cX10_halfOf 28 = .ok (.aload_n 0, 1) := by decide +kernel
theorem dX10_halfOf_29 : decode cX10_halfOf 29 = .ok (.getfield 33, 3) := by decide +kernel
theorem dX10_halfOf_32 : decode cX10_halfOf 32 = .ok (.bipush 6, 2) := by decide +kernel
theorem dX10_halfOf_34 : decode cX10_halfOf 34 = .ok (.iload_n 1, 1) := by decide +kernel
theorem dX10_halfOf_35 : decode cX10_halfOf 35 = .ok (.imul, 1) := by decide +kernel
theorem dX10_halfOf_36 : decode cX10_halfOf 36 = .ok (.iload_n 2, 1) := by decide +kernel
theorem dX10_halfOf_37 : decode cX10_halfOf 37 = .ok (.iadd, 1) := by decide +kernel
theorem dX10_halfOf_38 : decode cX10_halfOf 38 = .ok (.aload_n 0, 1) := by decide +kernel
theorem dX10_halfOf_39 : decode cX10_halfOf 39 = .ok (.iload_n 1, 1) := by decide +kernel
theorem dX10_halfOf_40 : decode cX10_halfOf 40 = .ok (.iload_n 2, 1) := by decide +kernel
theorem dX10_halfOf_41 : decode cX10_halfOf 41 = .ok (.invokevirtual 196, 3) := by decide +kernel
theorem dX10_halfOf_44 : decode cX10_halfOf 44 = .ok (.iastore, 1) := by decide +kernel
theorem dX10_halfOf_45 : decode cX10_halfOf 45 = .ok (.iinc 2 1, 3) := by decide +kernel
theorem dX10_halfOf_48 : decode cX10_halfOf 48 = .ok (.goto (-28), 3) := by decide +kernel
theorem dX10_halfOf_51 : decode cX10_halfOf 51 = .ok (.iinc 1 1, 3) := by decide +kernel
theorem dX10_halfOf_54 : decode cX10_halfOf 54 = .ok (.goto (-44), 3) := by decide +kernel
theorem dX10_halfOf_57 : decode cX10_halfOf 57 = .ok (.aload_n 0, 1) := by decide +kernel
theorem dX10_halfOf_58 : decode cX10_halfOf 58 = .ok (.invokevirtual 160, 3) := by decide +kernel
theorem dX10_halfOf_61 : decode cX10_halfOf 61 = .ok (.iconst 2, 1) := by decide +kernel
theorem dX10_halfOf_62 : decode cX10_halfOf 62 = .ok (.idiv, 1) := by decide +kernel
theorem dX10_halfOf_63 : decode cX10_halfOf 63 = .ok (.ireturn, 1) := by decide +kernel
theorem dX10_half_0 : decode cX10_half 0 = .ok (.aload_n 0, 1) := by decide +kernel
theorem dX10_half_1 : decode cX10_half 1 = .ok (.iload_n 1, 1) := by decide +kernel
theorem dX10_half_2 : decode cX10_half 2 = .ok (.invokevirtual 193, 3) := by decide +kernel
theorem dX10_half_5 : decode cX10_half 5 = .ok (.istore_n 2, 1) := by decide +kernel
theorem dX10_half_6 : decode cX10_half 6 = .ok (.iload_n 2, 1) := by decide +kernel
theorem dX10_half_7 : decode cX10_half 7 = .ok (.ifCond .eq 7, 3) := by decide +kernel
theorem dX10_half_10 : decode cX10_half 10 = .ok (.iload_n 2, 1) := by decide +kernel
theorem dX10_half_11 : decode cX10_half 11 = .ok (.goto 7, 3) := by decide +kernel
theorem dX10_half_14 : decode cX10_half 14 = .ok (.aload_n 0, 1) := by decide +kernel
theorem dX10_half_15 : decode cX10_half 15 = .ok (.invokevirtual 199, 3) := by decide +kernel
theorem dX10_half_18 : decode cX10_half 18 = .ok (.ireturn, 1) := by decide +kernel
theorem dX10_times_0 : decode cX10_times 0 = .ok (.lload_n 1, 1) := by decide +kernel
theorem dX10_times_1 : decode cX10_times 1 = .ok (.lload_n 3, 1) := by decide +kernel
theorem dX10_times_2 : decode cX10_times 2 = .ok (.lmul, 1) := by decide +kernel
theorem dX10_times_3 : decode cX10_times 3 = .ok (.lstore 5, 2) := by decide +kernel
theorem dX10_times_5 : decode cX10_times 5 = .ok (.aload_n 0, 1) := by decide +kernel
theorem dX10_times_6 : decode cX10_times 6 = .ok (.dup, 1) := by decide +kernel
theorem dX10_times_7 : decode cX10_times 7 = .ok (.getfield 202, 3) := by decide +kernel
theorem dX10_times_10 : decode cX10_times 10 = .ok (.lload_n 1, 1) := by decide +kernel
theorem dX10_times_11 : decode cX10_times 11 = .ok (.lconst 0, 1) := by decide +kernel
theorem dX10_times_12 : decode cX10_times 12 = .ok (.lcmp, 1) := by decide +kernel
theorem dX10_times_13 : decode cX10_times 13 = .ok (.ifCond .eq 37, 3) := by decide +kernel
theorem dX10_times_16 : decode cX10_times 16 = .ok (.lload 5, 2) := by decide +kernel
theorem dX10_times_18 : decode cX10_times 18 = .ok (.lload_n 1, 1) := by decide +kernel
theorem dX10_times_19 : decode cX10_times 19 = .ok (.ldiv, 1) := by decide +kernel
theorem dX10_times_20 : decode cX10_times 20 = .ok (.lload_n 3, 1) := by decide +kernel
theorem dX10_times_21 : decode cX10_times 21 = .ok (.lcmp, 1) := by decide +kernel
theorem dX10_times_22 : decode cX10_times 22 = .ok (.ifCond .ne 24, 3) := by decide +kernel
theorem dX10_times_25 : decode cX10_times 25 = .ok (.lload_n 1, 1) := by decide +kernel
theorem dX10_times_26 : decode cX10_times 26 = .ok (.ldc2_w 206, 3) := by decide +kernel
theorem dX10_times_29 : decode cX10_times 29 = .ok (.lcmp, 1) := by decide +kernel
theorem dX10_times_30 : decode cX10_times 30 = .ok (.ifCond .ne 20, 3) := by decide +kernel
theorem dX10_times_33 : decode cX10_times 33 = .ok (.lload_n 3, 1) := by decide +kernel
theorem dX10_times_34 : decode cX10_times 34 = .ok (.lconst 0, 1) := by decide +kernel
theorem dX10_times_35 : decode cX10_times 35 = .ok (.lcmp, 1) := by decide +kernel
theorem dX10_times_36 : decode cX10_times 36 = .ok (.ifCond .ge 14, 3) := by decide +kernel
theorem dX10_times_39 : decode cX10_times 39 = .ok (.lload 5, 2) := by decide +kernel
theorem dX10_times_41 : decode cX10_times 41 = .ok (.lload_n 3, 1) := by decide +kernel
theorem dX10_times_42 : decode cX10_times 42 = .ok (.lcmp, 1) := by decide +kernel
theorem dX10_times_43 : decode cX10_times 43 = .ok (.ifCond .ne 7, 3) := by decide +kernel
theorem dX10_times_46 : decode cX10_times 46 = .ok (.iconst 1, 1) := by decide +kernel
theorem dX10_times_47 : decode cX10_times 47 = .ok (.goto 4, 3) := by decide +kernel
theorem dX10_times_50 : decode cX10_times 50 = .ok (.iconst 0, 1) := by decide +kernel
theorem dX10_times_51 : decode cX10_times 51 = .ok (.ior, 1) := by decide +kernel
theorem dX10_times_52 : decode cX10_times 52 = .ok (.putfield 202, 3) := by decide +kernel
theorem dX10_times_55 : decode cX10_times 55 = .ok (.lload 5, 2) := by decide +kernel
theorem dX10_times_57 : decode cX10_times 57 = .ok (.lreturn, 1) := by decide +kernel
theorem dX10_plus_0 : decode cX10_plus 0 = .ok (.lload_n 1, 1) := by decide +kernel
theorem dX10_plus_1 : decode cX10_plus 1 = .ok (.lload_n 3, 1) := by decide +kernel
theorem dX10_plus_2 : decode cX10_plus 2 = .ok (.ladd, 1) := by decide +kernel
theorem dX10_plus_3 : decode cX10_plus 3 = .ok (.lstore 5, 2) := by decide +kernel
theorem dX10_plus_5 : decode cX10_plus 5 = .ok (.aload_n 0, 1) := by decide +kernel
theorem dX10_plus_6 : decode cX10_plus 6 = .ok (.dup, 1) := by decide +kernel
theorem dX10_plus_7 : decode cX10_plus 7 = .ok (.getfield 202, 3) := by decide +kernel
theorem dX10_plus_10 : decode cX10_plus 10 = .ok (.lload_n 1, 1) := by decide +kernel
theorem dX10_plus_11 : decode cX10_plus 11 = .ok (.lload 5, 2) := by decide +kernel
theorem dX10_plus_13 : decode cX10_plus 13 = .ok (.lxor, 1) := by decide +kernel
theorem dX10_plus_14 : decode cX10_plus 14 = .ok (.lconst 0, 1) := by decide +kernel
theorem dX10_plus_15 : decode cX10_plus 15 = .ok (.lcmp, 1) := by decide +kernel
theorem dX10_plus_16 : decode cX10_plus 16 = .ok (.ifCond .ge 16, 3) := by decide +kernel
theorem dX10_plus_19 : decode cX10_plus 19 = .ok (.lload_n 3, 1) := by decide +kernel
theorem dX10_plus_20 : decode cX10_plus 20 = .ok (.lload 5, 2) := by decide +kernel
theorem dX10_plus_22 : decode cX10_plus 22 = .ok (.lxor, 1) := by decide +kernel
theorem dX10_plus_23 : decode cX10_plus 23 = .ok (.lconst 0, 1) := by decide +kernel
theorem dX10_plus_24 : decode cX10_plus 24 = .ok (.lcmp, 1) := by decide +kernel
theorem dX10_plus_25 : decode cX10_plus 25 = .ok (.ifCond .ge 7, 3) := by decide +kernel
theorem dX10_plus_28 : decode cX10_plus 28 = .ok (.iconst 1, 1) := by decide +kernel
theorem dX10_plus_29 : decode cX10_plus 29 = .ok (.goto 4, 3) := by decide +kernel
theorem dX10_plus_32 : decode cX10_plus 32 = .ok (.iconst 0, 1) := by decide +kernel
theorem dX10_plus_33 : decode cX10_plus 33 = .ok (.ior, 1) := by decide +kernel
theorem dX10_plus_34 : decode cX10_plus 34 = .ok (.putfield 202, 3) := by decide +kernel
theorem dX10_plus_37 : decode cX10_plus 37 = .ok (.lload 5, 2) := by decide +kernel
theorem dX10_plus_39 : decode cX10_plus 39 = .ok (.lreturn, 1) := by decide +kernel
theorem dX10_less_0 : decode cX10_less 0 = .ok (.lload_n 1, 1) := by decide +kernel
theorem dX10_less_1 : decode cX10_less 1 = .ok (.lload_n 3, 1) := by decide +kernel
theorem dX10_less_2 : decode cX10_less 2 = .ok (.lsub, 1) := by decide +kernel
theorem dX10_less_3 : decode cX10_less 3 = .ok (.lstore 5, 2) := by decide +kernel
theorem dX10_less_5 : decode cX10_less 5 = .ok (.aload_n 0, 1) := by decide +kernel
theorem dX10_less_6 : decode cX10_less 6 = .ok (.dup, 1) := by decide +kernel
theorem dX10_less_7 : decode cX10_less 7 = .ok (.getfield 202, 3) := by decide +kernel
theorem dX10_less_10 : decode cX10_less 10 = .ok (.lload_n 1, 1) := by decide +kernel
theorem dX10_less_11 : decode cX10_less 11 = .ok (.lload_n 3, 1) := by decide +kernel
theorem dX10_less_12 : decode cX10_less 12 = .ok (.lxor, 1) := by decide +kernel
theorem dX10_less_13 : decode cX10_less 13 = .ok (.lconst 0, 1) := by decide +kernel
theorem dX10_less_14 : decode cX10_less 14 = .ok (.lcmp, 1) := by decide +kernel
theorem dX10_less_15 : decode cX10_less 15 = .ok (.ifCond .ge 16, 3) := by decide +kernel
theorem dX10_less_18 : decode cX10_less 18 = .ok (.lload_n 1, 1) := by decide +kernel
theorem dX10_less_19 : decode cX10_less 19 = .ok (.lload 5, 2) := by decide +kernel
theorem dX10_less_21 : decode cX10_less 21 = .ok (.lxor, 1) := by decide +kernel
theorem dX10_less_22 : decode cX10_less 22 = .ok (.lconst 0, 1) := by decide +kernel
theorem dX10_less_23 : decode cX10_less 23 = .ok (.lcmp, 1) := by decide +kernel
theorem dX10_less_24 : decode cX10_less 24 = .ok (.ifCond .ge 7, 3) := by decide +kernel
theorem dX10_less_27 : decode cX10_less 27 = .ok (.iconst 1, 1) := by decide +kernel
theorem dX10_less_28 : decode cX10_less 28 = .ok (.goto 4, 3) := by decide +kernel
theorem dX10_less_31 : decode cX10_less 31 = .ok (.iconst 0, 1) := by decide +kernel
theorem dX10_less_32 : decode cX10_less 32 = .ok (.ior, 1) := by decide +kernel
theorem dX10_less_33 : decode cX10_less 33 = .ok (.putfield 202, 3) := by decide +kernel
theorem dX10_less_36 : decode cX10_less 36 = .ok (.lload 5, 2) := by decide +kernel
theorem dX10_less_38 : decode cX10_less 38 = .ok (.lreturn, 1) := by decide +kernel
theorem dX10_laysWhole_0 : decode cX10_laysWhole 0 = .ok (.iconst 0, 1) := by decide +kernel
theorem dX10_laysWhole_1 : decode cX10_laysWhole 1 = .ok (.istore_n 1, 1) := by decide +kernel
theorem dX10_laysWhole_2 : decode cX10_laysWhole 2 = .ok (.iload_n 1, 1) := by decide +kernel
theorem dX10_laysWhole_3 : decode cX10_laysWhole 3 = .ok (.aload_n 0, 1) := by decide +kernel
theorem dX10_laysWhole_4 : decode cX10_laysWhole 4 = .ok (.getfield 13, 3) := by decide +kernel
theorem dX10_laysWhole_7 : decode cX10_laysWhole 7 = .ok (.if_icmp .ge 107, 3) := by decide +kernel
theorem dX10_laysWhole_10 : decode cX10_laysWhole 10 = .ok (.iload_n 1, 1) := by decide +kernel
theorem dX10_laysWhole_11 : decode cX10_laysWhole 11 = .ok (.iconst 1, 1) := by decide +kernel
theorem dX10_laysWhole_12 : decode cX10_laysWhole 12 = .ok (.iadd, 1) := by decide +kernel
theorem dX10_laysWhole_13 : decode cX10_laysWhole 13 = .ok (.istore_n 2, 1) := by decide +kernel
theorem dX10_laysWhole_14 : decode cX10_laysWhole 14 = .ok (.iload_n 2, 1) := by decide +kernel
theorem dX10_laysWhole_15 : decode cX10_laysWhole 15 = .ok (.aload_n 0, 1) := by decide +kernel
theorem dX10_laysWhole_16 : decode cX10_laysWhole 16 = .ok (.getfield 13, 3) := by decide +kernel
theorem dX10_laysWhole_19 : decode cX10_laysWhole 19 = .ok (.if_icmp .ge 89, 3) := by decide +kernel
theorem dX10_laysWhole_22 : decode cX10_laysWhole 22 = .ok (.lconst 0, 1) := by decide +kernel
theorem dX10_laysWhole_23 : decode cX10_laysWhole 23 = .ok (.lstore_n 3, 1) := by decide +kernel
theorem dX10_laysWhole_24 : decode cX10_laysWhole 24 = .ok (.iconst 0, 1) := by decide +kernel
theorem dX10_laysWhole_25 : decode cX10_laysWhole 25 = .ok (.istore 5, 2) := by decide +kernel
theorem dX10_laysWhole_27 : decode cX10_laysWhole 27 = .ok (.iload 5, 2) := by decide +kernel
theorem dX10_laysWhole_29 : decode cX10_laysWhole 29 = .ok (.aload_n 0, 1) := by decide +kernel
theorem dX10_laysWhole_30 : decode cX10_laysWhole 30 = .ok (.getfield 75, 3) := by decide +kernel
theorem dX10_laysWhole_33 : decode cX10_laysWhole 33 = .ok (.if_icmp .ge 35, 3) := by decide +kernel
theorem dX10_laysWhole_36 : decode cX10_laysWhole 36 = .ok (.aload_n 0, 1) := by decide +kernel
theorem dX10_laysWhole_37 : decode cX10_laysWhole 37 = .ok (.lload_n 3, 1) := by decide +kernel
theorem dX10_laysWhole_38 : decode cX10_laysWhole 38 = .ok (.aload_n 0, 1) := by decide +kernel
theorem dX10_laysWhole_39 : decode cX10_laysWhole 39 = .ok (.aload_n 0, 1) := by decide +kernel
theorem dX10_laysWhole_40 : decode cX10_laysWhole 40 = .ok (.getfield 36, 3) := by decide +kernel
theorem dX10_laysWhole_43 : decode cX10_laysWhole 43 = .ok (.iload 5, 2) := by decide +kernel
theorem dX10_laysWhole_45 : decode cX10_laysWhole 45 = .ok (.laload, 1) := by decide +kernel
theorem dX10_laysWhole_46 : decode cX10_laysWhole 46 = .ok (.aload_n 0, 1) := by decide +kernel
theorem dX10_laysWhole_47 : decode cX10_laysWhole 47 = .ok (.iload 5, 2) := by decide +kernel
theorem dX10_laysWhole_49 : decode cX10_laysWhole 49 = .ok (.iload_n 1, 1) := by decide +kernel
theorem dX10_laysWhole_50 : decode cX10_laysWhole 50 = .ok (.iload_n 2, 1) := by decide +kernel
theorem dX10_laysWhole_51 : decode cX10_laysWhole 51 = .ok (.invokevirtual 190, 3) := by decide +kernel
theorem dX10_laysWhole_54 : decode cX10_laysWhole 54 = .ok (.i2l, 1) := by decide +kernel
theorem dX10_laysWhole_55 : decode cX10_laysWhole 55 = .ok (.invokevirtual 208, 3) := by decide +kernel
theorem dX10_laysWhole_58 : decode cX10_laysWhole 58 = .ok (.invokevirtual 212, 3) := by decide +kernel
theorem dX10_laysWhole_61 : decode cX10_laysWhole 61 = .ok (.lstore_n 3, 1) := by decide +kernel
theorem dX10_laysWhole_62 : decode cX10_laysWhole 62 = .ok (.iinc 5 1, 3) := by decide +kernel
theorem dX10_laysWhole_65 : decode cX10_laysWhole 65 = .ok (.goto (-38), 3) := by decide +kernel
theorem dX10_laysWhole_68 : decode cX10_laysWhole 68 = .ok (.aload_n 0, 1) := by decide +kernel
theorem dX10_laysWhole_69 : decode cX10_laysWhole 69 = .ok (.dup, 1) := by decide +kernel
theorem dX10_laysWhole_70 : decode cX10_laysWhole 70 = .ok (.getfield 202, 3) := by decide +kernel
theorem dX10_laysWhole_73 : decode cX10_laysWhole 73 = .ok (.lload_n 3, 1) := by decide +kernel
theorem dX10_laysWhole_74 : decode cX10_laysWhole 74 = .ok (.lload_n 3, 1) := by decide +kernel
theorem dX10_laysWhole_75 : decode cX10_laysWhole 75 = .ok (.l2i, 1) := by decide +kernel
theorem dX10_laysWhole_76 : decode cX10_laysWhole 76 = .ok (.i2l, 1) := by decide +kernel
theorem dX10_laysWhole_77 : decode cX10_laysWhole 77 = .ok (.lcmp, 1) := by decide +kernel
theorem dX10_laysWhole_78 : decode cX10_laysWhole 78 = .ok (.ifCond .eq 7, 3) := by decide +kernel
theorem dX10_laysWhole_81 : decode cX10_laysWhole 81 = .ok (.iconst 1, 1) := by decide +kernel
theorem dX10_laysWhole_82 : decode cX10_laysWhole 82 = .ok (.goto 4, 3) := by decide +kernel
theorem dX10_laysWhole_85 : decode cX10_laysWhole 85 = .ok (.iconst 0, 1) := by decide +kernel
theorem dX10_laysWhole_86 : decode cX10_laysWhole 86 = .ok (.ior, 1) := by decide +kernel
theorem dX10_laysWhole_87 : decode cX10_laysWhole 87 = .ok (.putfield 202, 3) := by decide +kernel
theorem dX10_laysWhole_90 : decode cX10_laysWhole 90 = .ok (.aload_n 0, 1) := by decide +kernel
theorem dX10_laysWhole_91 : decode cX10_laysWhole 91 = .ok (.getfield 39, 3) := by decide +kernel
theorem dX10_laysWhole_94 : decode cX10_laysWhole 94 = .ok (.bipush 6, 2) := by decide +kernel
theorem dX10_laysWhole_96 : decode cX10_laysWhole 96 = .ok (.iload_n 1, 1) := by decide +kernel
theorem dX10_laysWhole_97 : decode cX10_laysWhole 97 = .ok (.imul, 1) := by decide +kernel
theorem dX10_laysWhole_98 : decode cX10_laysWhole 98 = .ok (.iload_n 2, 1) := by decide +kernel
theorem dX10_laysWhole_99 : decode cX10_laysWhole 99 = .ok (.iadd, 1) := by decide +kernel
theorem dX10_laysWhole_100 : decode cX10_laysWhole 100 = .ok (.lload_n 3, 1) := by decide +kernel
theorem dX10_laysWhole_101 : decode cX10_laysWhole 101 = .ok (.lastore, 1) := by decide +kernel
theorem dX10_laysWhole_102 : decode cX10_laysWhole 102 = .ok (.iinc 2 1, 3) := by decide +kernel
theorem dX10_laysWhole_105 : decode cX10_laysWhole 105 = .ok (.goto (-91), 3) := by decide +kernel
theorem dX10_laysWhole_108 : decode cX10_laysWhole 108 = .ok (.iinc 1 1, 3) := by decide +kernel
theorem dX10_laysWhole_111 : decode cX10_laysWhole 111 = .ok (.goto (-109), 3) := by decide +kernel
theorem dX10_laysWhole_114 : decode cX10_laysWhole 114 = .ok (.return_, 1) := by decide +kernel
theorem dX10_rootOf_0 : decode cX10_rootOf 0 = .ok (.iconst 0, 1) := by decide +kernel
theorem dX10_rootOf_1 : decode cX10_rootOf 1 = .ok (.istore_n 2, 1) := by decide +kernel
theorem dX10_rootOf_2 : decode cX10_rootOf 2 = .ok (.iload_n 2, 1) := by decide +kernel
theorem dX10_rootOf_3 : decode cX10_rootOf 3 = .ok (.aload_n 0, 1) := by decide +kernel
theorem dX10_rootOf_4 : decode cX10_rootOf 4 = .ok (.getfield 13, 3) := by decide +kernel
theorem dX10_rootOf_7 : decode cX10_rootOf 7 = .ok (.if_icmp .ge 17, 3) := by decide +kernel
theorem dX10_rootOf_10 : decode cX10_rootOf 10 = .ok (.iload_n 1, 1) := by decide +kernel
theorem dX10_rootOf_11 : decode cX10_rootOf 11 = .ok (.iload_n 2, 1) := by decide +kernel
theorem dX10_rootOf_12 : decode cX10_rootOf 12 = .ok (.invokestatic 149, 3) := by decide +kernel
theorem dX10_rootOf_15 : decode cX10_rootOf 15 = .ok (.ifCond .ne 9, 3) := by decide +kernel
theorem dX10_rootOf_18 : decode cX10_rootOf 18 = .ok (.iinc 2 1, 3) := by decide +kernel
theorem dX10_rootOf_21 : decode cX10_rootOf 21 = .ok (.goto (-19), 3) := by decide +kernel
theorem dX10_rootOf_24 : decode cX10_rootOf 24 = .ok (.iload_n 1, 1) := by decide +kernel
theorem dX10_rootOf_25 : decode cX10_rootOf 25 = .ok (.ifCond .ne 7, 3) := by decide +kernel
theorem dX10_rootOf_28 : decode cX10_rootOf 28 = .ok (.lconst 1, 1) := by decide +kernel
theorem dX10_rootOf_29 : decode cX10_rootOf 29 = .ok (.goto 4, 3) := by decide +kernel
theorem dX10_rootOf_32 : decode cX10_rootOf 32 = .ok (.lconst 0, 1) := by decide +kernel
theorem dX10_rootOf_33 : decode cX10_rootOf 33 = .ok (.lstore_n 3, 1) := by decide +kernel
theorem dX10_rootOf_34 : decode cX10_rootOf 34 = .ok (.iconst 1, 1) := by decide +kernel
theorem dX10_rootOf_35 : decode cX10_rootOf 35 = .ok (.istore 5, 2) := by decide +kernel
theorem dX10_rootOf_37 : decode cX10_rootOf 37 = .ok (.iload_n 2, 1) := by decide +kernel
theorem dX10_rootOf_38 : decode cX10_rootOf 38 = .ok (.iconst 1, 1) := by decide +kernel
theorem dX10_rootOf_39 : decode cX10_rootOf 39 = .ok (.iadd, 1) := by decide +kernel
theorem dX10_rootOf_40 : decode cX10_rootOf 40 = .ok (.istore 6, 2) := by decide +kernel
theorem dX10_rootOf_42 : decode cX10_rootOf 42 = .ok (.iload 6, 2) := by decide +kernel
theorem dX10_rootOf_44 : decode cX10_rootOf 44 = .ok (.aload_n 0, 1) := by decide +kernel
theorem dX10_rootOf_45 : decode cX10_rootOf 45 = .ok (.getfield 13, 3) := by decide +kernel
theorem dX10_rootOf_48 : decode cX10_rootOf 48 = .ok (.if_icmp .ge 89, 3) := by decide +kernel
theorem dX10_rootOf_51 : decode cX10_rootOf 51 = .ok (.iload_n 1, 1) := by decide +kernel
theorem dX10_rootOf_52 : decode cX10_rootOf 52 = .ok (.iload 6, 2) := by decide +kernel
theorem dX10_rootOf_54 : decode cX10_rootOf 54 = .ok (.invokestatic 149, 3) := by decide +kernel
theorem dX10_rootOf_57 : decode cX10_rootOf 57 = .ok (.ifCond .eq 74, 3) := by decide +kernel
theorem dX10_rootOf_60 : decode cX10_rootOf 60 = .ok (.aload_n 0, 1) := by decide +kernel
theorem dX10_rootOf_61 : decode cX10_rootOf 61 = .ok (.aload_n 0, 1) := by decide +kernel
theorem dX10_rootOf_62 : decode cX10_rootOf 62 = .ok (.getfield 39, 3) := by decide +kernel
theorem dX10_rootOf_65 : decode cX10_rootOf 65 = .ok (.bipush 6, 2) := by decide +kernel
theorem dX10_rootOf_67 : decode cX10_rootOf 67 = .ok (.iload_n 2, 1) := by decide +kernel
theorem dX10_rootOf_68 : decode cX10_rootOf 68 = .ok (.imul, 1) := by decide +kernel
theorem dX10_rootOf_69 : decode cX10_rootOf 69 = .ok (.iload 6, 2) := by decide +kernel
theorem dX10_rootOf_71 : decode cX10_rootOf 71 = .ok (.iadd, 1) := by decide +kernel
theorem dX10_rootOf_72 : decode cX10_rootOf 72 = .ok (.laload, 1) := by decide +kernel
theorem dX10_rootOf_73 : decode cX10_rootOf 73 = .ok (.aload_n 0, 1) := by decide +kernel
theorem dX10_rootOf_74 : decode cX10_rootOf 74 = .ok (.iload_n 1, 1) := by decide +kernel
theorem dX10_rootOf_75 : decode cX10_rootOf 75 = .ok (.iconst 1, 1) := by decide +kernel
theorem dX10_rootOf_76 : decode cX10_rootOf 76 = .ok (.iload_n 2, 1) := by decide +kernel
theorem dX10_rootOf_77 : decode cX10_rootOf 77 = .ok (.ishl, 1) := by decide +kernel
theorem dX10_rootOf_78 : decode cX10_rootOf 78 = .ok (.iconst (-1), 1) := by decide +kernel
theorem dX10_rootOf_79 : decode cX10_rootOf 79 = .ok (.ixor, 1) := by decide +kernel
theorem dX10_rootOf_80 : decode cX10_rootOf 80 = .ok (.iand, 1) := by decide +kernel
theorem dX10_rootOf_81 : decode cX10_rootOf 81 = .ok (.iconst 1, 1) := by decide +kernel
theorem dX10_rootOf_82 : decode cX10_rootOf 82 = .ok (.iload 6, 2) := by decide +kernel
theorem dX10_rootOf_84 : decode cX10_rootOf 84 = .ok (.ishl, 1) := by decide +kernel
theorem dX10_rootOf_85 : decode cX10_rootOf 85 = .ok (.iconst (-1), 1) := by decide +kernel
theorem dX10_rootOf_86 : decode cX10_rootOf 86 = .ok (.ixor, 1) := by decide +kernel
theorem dX10_rootOf_87 : decode cX10_rootOf 87 = .ok (.iand, 1) := by decide +kernel
theorem dX10_rootOf_88 : decode cX10_rootOf 88 = .ok (.invokevirtual 215, 3) := by decide +kernel
theorem dX10_rootOf_91 : decode cX10_rootOf 91 = .ok (.invokevirtual 208, 3) := by decide +kernel
theorem dX10_rootOf_94 : decode cX10_rootOf 94 = .ok (.lstore 7, 2) := by decide +kernel
theorem dX10_rootOf_96 : decode cX10_rootOf 96 = .ok (.iload 5, 2) := by decide +kernel
theorem dX10_rootOf_98 : decode cX10_rootOf 98 = .ok (.ifCond .eq 13, 3) := by decide +kernel
theorem dX10_rootOf_101 : decode cX10_rootOf 101 = .ok (.aload_n 0, 1) := by decide +kernel
theorem dX10_rootOf_102 : decode cX10_rootOf 102 = .ok (.lload_n 3, 1) := by decide +kernel
theorem dX10_rootOf_103 : decode cX10_rootOf 103 = .ok (.lload 7, 2) := by decide +kernel
theorem dX10_rootOf_105 : decode cX10_rootOf 105 = .ok (.invokevirtual 212, 3) := by decide +kernel
theorem dX10_rootOf_108 : decode cX10_rootOf 108 = .ok (.goto 10, 3) := by decide +kernel
theorem dX10_rootOf_111 : decode cX10_rootOf 111 = .ok (.aload_n 0, 1) := by decide +kernel
theorem dX10_rootOf_112 : decode cX10_rootOf 112 = .ok (.lload_n 3, 1) := by decide +kernel
theorem dX10_rootOf_113 : decode cX10_rootOf 113 = .ok (.lload 7, 2) := by decide +kernel
theorem dX10_rootOf_115 : decode cX10_rootOf 115 = .ok (.invokevirtual 219, 3) := by decide +kernel
theorem dX10_rootOf_118 : decode cX10_rootOf 118 = .ok (.lstore_n 3, 1) := by decide +kernel
theorem dX10_rootOf_119 : decode cX10_rootOf 119 = .ok (.iload 5, 2) := by decide +kernel
theorem dX10_rootOf_121 : decode cX10_rootOf 121 = .ok (.ifCond .ne 7, 3) := by decide +kernel
theorem dX10_rootOf_124 : decode cX10_rootOf 124 = .ok (.iconst 1, 1) := by decide +kernel
theorem dX10_rootOf_125 : decode cX10_rootOf 125 = .ok (.goto 4, 3) := by decide +kernel
theorem dX10_rootOf_128 : decode cX10_rootOf 128 = .ok (.iconst 0, 1) := by decide +kernel
theorem dX10_rootOf_129 : decode cX10_rootOf 129 = .ok (.istore 5, 2) := by decide +kernel
theorem dX10_rootOf_131 : decode cX10_rootOf 131 = .ok (.iinc 6 1, 3) := by decide +kernel
theorem dX10_rootOf_134 : decode cX10_rootOf 134 = .ok (.goto (-92), 3) := by decide +kernel
theorem dX10_rootOf_137 : decode cX10_rootOf 137 = .ok (.lload_n 3, 1) := by decide +kernel
theorem dX10_rootOf_138 : decode cX10_rootOf 138 = .ok (.lreturn, 1) := by decide +kernel
theorem dX10_root_0 : decode cX10_root 0 = .ok (.aload_n 0, 1) := by decide +kernel
theorem dX10_root_1 : decode cX10_root 1 = .ok (.iload_n 1, 1) := by decide +kernel
theorem dX10_root_2 : decode cX10_root 2 = .ok (.invokevirtual 193, 3) := by decide +kernel
theorem dX10_root_5 : decode cX10_root 5 = .ok (.istore_n 2, 1) := by decide +kernel
theorem dX10_root_6 : decode cX10_root 6 = .ok (.iload_n 2, 1) := by decide +kernel
theorem dX10_root_7 : decode cX10_root 7 = .ok (.ifCond .eq 6, 3) := by decide +kernel
theorem dX10_root_10 : decode cX10_root 10 = .ok (.iload_n 2, 1) := by decide +kernel
theorem dX10_root_11 : decode cX10_root 11 = .ok (.i2l, 1) := by decide +kernel
theorem dX10_root_12 : decode cX10_root 12 = .ok (.lreturn, 1) := by decide +kernel
theorem dX10_root_13 : decode cX10_root 13 = .ok (.aload_n 0, 1) := by decide +kernel
theorem dX10_root_14 : decode cX10_root 14 = .ok (.getfield 13, 3) := by decide +kernel
theorem dX10_root_17 : decode cX10_root 17 = .ok (.iconst 2, 1) := by decide +kernel
theorem dX10_root_18 : decode cX10_root 18 = .ok (.irem, 1) := by decide +kernel
theorem dX10_root_19 : decode cX10_root 19 = .ok (.iconst 1, 1) := by decide +kernel
theorem dX10_root_20 : decode cX10_root 20 = .ok (.if_icmp .ne 7, 3) := by decide +kernel
theorem dX10_root_23 : decode cX10_root 23 = .ok (.ldc2_w 222, 3) := by decide +kernel
theorem dX10_root_26 : decode cX10_root 26 = .ok (.lreturn, 1) := by decide +kernel
theorem dX10_root_27 : decode cX10_root 27 = .ok (.aload_n 0, 1) := by decide +kernel
theorem dX10_root_28 : decode cX10_root 28 = .ok (.iconst 0, 1) := by decide +kernel
theorem dX10_root_29 : decode cX10_root 29 = .ok (.putfield 202, 3) := by decide +kernel
theorem dX10_root_32 : decode cX10_root 32 = .ok (.aload_n 0, 1) := by decide +kernel
theorem dX10_root_33 : decode cX10_root 33 = .ok (.invokevirtual 224, 3) := by decide +kernel
theorem dX10_root_36 : decode cX10_root 36 = .ok (.aload_n 0, 1) := by decide +kernel
theorem dX10_root_37 : decode cX10_root 37 = .ok (.getfield 202, 3) := by decide +kernel
theorem dX10_root_40 : decode cX10_root 40 = .ok (.ifCond .eq 7, 3) := by decide +kernel
theorem dX10_root_43 : decode cX10_root 43 = .ok (.lconst 0, 1) := by decide +kernel
theorem dX10_root_44 : decode cX10_root 44 = .ok (.goto 15, 3) := by decide +kernel
theorem dX10_root_47 : decode cX10_root 47 = .ok (.aload_n 0, 1) := by decide +kernel
theorem dX10_root_48 : decode cX10_root 48 = .ok (.iconst 1, 1) := by decide +kernel
theorem dX10_root_49 : decode cX10_root 49 = .ok (.aload_n 0, 1) := by decide +kernel
theorem dX10_root_50 : decode cX10_root 50 = .ok (.getfield 13, 3) := by decide +kernel
theorem dX10_root_53 : decode cX10_root 53 = .ok (.ishl, 1) := by decide +kernel
theorem dX10_root_54 : decode cX10_root 54 = .ok (.iconst 1, 1) := by decide +kernel
theorem dX10_root_55 : decode cX10_root 55 = .ok (.isub, 1) := by decide +kernel
theorem dX10_root_56 : decode cX10_root 56 = .ok (.invokevirtual 215, 3) := by decide +kernel
theorem dX10_root_59 : decode cX10_root 59 = .ok (.lstore_n 3, 1) := by decide +kernel
theorem dX10_root_60 : decode cX10_root 60 = .ok (.aload_n 0, 1) := by decide +kernel
theorem dX10_root_61 : decode cX10_root 61 = .ok (.getfield 202, 3) := by decide +kernel
theorem dX10_root_64 : decode cX10_root 64 = .ok (.ifCond .eq 9, 3) := by decide +kernel
theorem dX10_root_67 : decode cX10_root 67 = .ok (.ldc2_w 227, 3) := by decide +kernel
theorem dX10_root_70 : decode cX10_root 70 = .ok (.goto 4, 3) := by decide +kernel
theorem dX10_root_73 : decode cX10_root 73 = .ok (.lload_n 3, 1) := by decide +kernel
theorem dX10_root_74 : decode cX10_root 74 = .ok (.lreturn, 1) := by decide +kernel
theorem dX10_draws_0 : decode cX10_draws 0 = .ok (.iconst 0, 1) := by decide +kernel
theorem dX10_draws_1 : decode cX10_draws 1 = .ok (.istore_n 1, 1) := by decide +kernel
theorem dX10_draws_2 : decode cX10_draws 2 = .ok (.iload_n 1, 1) := by decide +kernel
theorem dX10_draws_3 : decode cX10_draws 3 = .ok (.aload_n 0, 1) := by decide +kernel
theorem dX10_draws_4 : decode cX10_draws 4 = .ok (.getfield 75, 3) := by decide +kernel
theorem dX10_draws_7 : decode cX10_draws 7 = .ok (.if_icmp .ge 43, 3) := by decide +kernel
theorem dX10_draws_10 : decode cX10_draws 10 = .ok (.aload_n 0, 1) := by decide +kernel
theorem dX10_draws_11 : decode cX10_draws 11 = .ok (.aload_n 0, 1) := by decide +kernel
theorem dX10_draws_12 : decode cX10_draws 12 = .ok (.getfield 229, 3) := by decide +kernel
theorem dX10_draws_15 : decode cX10_draws 15 = .ok (.ldc 232, 2) := by decide +kernel
theorem dX10_draws_17 : decode cX10_draws 17 = .ok (.imul, 1) := by decide +kernel
theorem dX10_draws_18 : decode cX10_draws 18 = .ok (.sipush 12345, 3) := by decide +kernel
theorem dX10_draws_21 : decode cX10_draws 21 = .ok (.iadd, 1) := by decide +kernel
theorem dX10_draws_22 : decode cX10_draws 22 = .ok (.putfield 229, 3) := by decide +kernel
theorem dX10_draws_25 : decode cX10_draws 25 = .ok (.aload_n 0, 1) := by decide +kernel
theorem dX10_draws_26 : decode cX10_draws 26 = .ok (.getfield 36, 3) := by decide +kernel
theorem dX10_draws_29 : decode cX10_draws 29 = .ok (.iload_n 1, 1) := by decide +kernel
theorem dX10_draws_30 : decode cX10_draws 30 = .ok (.aload_n 0, 1) := by decide +kernel
theorem dX10_draws_31 : decode cX10_draws 31 = .ok (.getfield 229, 3) := by decide +kernel
theorem dX10_draws_34 : decode cX10_draws 34 = .ok (.bipush 8, 2) := by decide +kernel
theorem dX10_draws_36 : decode cX10_draws 36 = .ok (.iushr, 1) := by decide +kernel
theorem dX10_draws_37 : decode cX10_draws 37 = .ok (.aload_n 0, 1) := by decide +kernel
theorem dX10_draws_38 : decode cX10_draws 38 = .ok (.getfield 7, 3) := by decide +kernel
theorem dX10_draws_41 : decode cX10_draws 41 = .ok (.irem, 1) := by decide +kernel
theorem dX10_draws_42 : decode cX10_draws 42 = .ok (.i2l, 1) := by decide +kernel
theorem dX10_draws_43 : decode cX10_draws 43 = .ok (.lastore, 1) := by decide +kernel
theorem dX10_draws_44 : decode cX10_draws 44 = .ok (.iinc 1 1, 3) := by decide +kernel
theorem dX10_draws_47 : decode cX10_draws 47 = .ok (.goto (-45), 3) := by decide +kernel
theorem dX10_draws_50 : decode cX10_draws 50 = .ok (.return_, 1) := by decide +kernel
theorem dX10_claim_0 : decode cX10_claim 0 = .ok (.iload_n 2, 1) := by decide +kernel
theorem dX10_claim_1 : decode cX10_claim 1 = .ok (.i2l, 1) := by decide +kernel
theorem dX10_claim_2 : decode cX10_claim 2 = .ok (.lconst 1, 1) := by decide +kernel
theorem dX10_claim_3 : decode cX10_claim 3 = .ok (.ldc2_w 233, 3) := by decide +kernel
theorem dX10_claim_6 : decode cX10_claim 6 = .ok (.invokestatic 78, 3) := by decide +kernel
theorem dX10_claim_9 : decode cX10_claim 9 = .ok (.ifCond .ne 6, 3) := by decide +kernel
theorem dX10_claim_12 : decode cX10_claim 12 = .ok (.bipush (-2), 2) := by decide +kernel
theorem dX10_claim_14 : decode cX10_claim 14 = .ok (.ireturn, 1) := by decide +kernel
theorem dX10_claim_15 : decode cX10_claim 15 = .ok (.aload_n 0, 1) := by decide +kernel
theorem dX10_claim_16 : decode cX10_claim 16 = .ok (.iload_n 1, 1) := by decide +kernel
theorem dX10_claim_17 : decode cX10_claim 17 = .ok (.putfield 229, 3) := by decide +kernel
theorem dX10_claim_20 : decode cX10_claim 20 = .ok (.iconst 0, 1) := by decide +kernel
theorem dX10_claim_21 : decode cX10_claim 21 = .ok (.istore_n 3, 1) := by decide +kernel
theorem dX10_claim_22 : decode cX10_claim 22 = .ok (.iconst 0, 1) := by decide +kernel
theorem dX10_claim_23 : decode cX10_claim 23 = .ok (.istore 4, 2) := by decide +kernel
theorem dX10_claim_25 : decode cX10_claim 25 = .ok (.iload 4, 2) := by decide +kernel
theorem dX10_claim_27 : decode cX10_claim 27 = .ok (.iload_n 2, 1) := by decide +kernel
theorem dX10_claim_28 : decode cX10_claim 28 = .ok (.if_icmp .ge 32, 3) := by decide +kernel
theorem dX10_claim_31 : decode cX10_claim 31 = .ok (.aload_n 0, 1) := by decide +kernel
theorem dX10_claim_32 : decode cX10_claim 32 = .ok (.invokevirtual 235, 3) := by decide +kernel
theorem dX10_claim_35 : decode cX10_claim 35 = .ok (.aload_n 0, 1) := by decide +kernel
theorem dX10_claim_36 : decode cX10_claim 36 = .ok (.invokevirtual 199, 3) := by decide +kernel
theorem dX10_claim_39 : decode cX10_claim 39 = .ok (.istore 5, 2) := by decide +kernel
theorem dX10_claim_41 : decode cX10_claim 41 = .ok (.iload 5, 2) := by decide +kernel
theorem dX10_claim_43 : decode cX10_claim 43 = .ok (.iload_n 3, 1) := by decide +kernel
theorem dX10_claim_44 : decode cX10_claim 44 = .ok (.if_icmp .le 8, 3) := by decide +kernel
theorem dX10_claim_47 : decode cX10_claim 47 = .ok (.iload 5, 2) := by decide +kernel
theorem dX10_claim_49 : decode cX10_claim 49 = .ok (.goto 4, 3) := by decide +kernel
theorem dX10_claim_52 : decode cX10_claim 52 = .ok (.iload_n 3, 1) := by decide +kernel
theorem dX10_claim_53 : decode cX10_claim 53 = .ok (.istore_n 3, 1) := by decide +kernel
theorem dX10_claim_54 : decode cX10_claim 54 = .ok (.iinc 4 1, 3) := by decide +kernel
theorem dX10_claim_57 : decode cX10_claim 57 = .ok (.goto (-32), 3) := by decide +kernel
theorem dX10_claim_60 : decode cX10_claim 60 = .ok (.iload_n 3, 1) := by decide +kernel
theorem dX10_claim_61 : decode cX10_claim 61 = .ok (.ireturn, 1) := by decide +kernel
theorem dX10_sure_0 : decode cX10_sure 0 = .ok (.iload_n 2, 1) := by decide +kernel
theorem dX10_sure_1 : decode cX10_sure 1 = .ok (.i2l, 1) := by decide +kernel
theorem dX10_sure_2 : decode cX10_sure 2 = .ok (.lconst 1, 1) := by decide +kernel
theorem dX10_sure_3 : decode cX10_sure 3 = .ok (.ldc2_w 233, 3) := by decide +kernel
theorem dX10_sure_6 : decode cX10_sure 6 = .ok (.invokestatic 78, 3) := by decide +kernel
theorem dX10_sure_9 : decode cX10_sure 9 = .ok (.ifCond .ne 6, 3) := by decide +kernel
theorem dX10_sure_12 : decode cX10_sure 12 = .ok (.bipush (-2), 2) := by decide +kernel
theorem dX10_sure_14 : decode cX10_sure 14 = .ok (.ireturn, 1) := by decide +kernel
theorem dX10_sure_15 : decode cX10_sure 15 = .ok (.aload_n 0, 1) := by decide +kernel
theorem dX10_sure_16 : decode cX10_sure 16 = .ok (.invokevirtual 173, 3) := by decide +kernel
theorem dX10_sure_19 : decode cX10_sure 19 = .ok (.istore_n 3, 1) := by decide +kernel
theorem dX10_sure_20 : decode cX10_sure 20 = .ok (.aload_n 0, 1) := by decide +kernel
theorem dX10_sure_21 : decode cX10_sure 21 = .ok (.iload_n 1, 1) := by decide +kernel
theorem dX10_sure_22 : decode cX10_sure 22 = .ok (.putfield 229, 3) := by decide +kernel
theorem dX10_sure_25 : decode cX10_sure 25 = .ok (.iconst 0, 1) := by decide +kernel
theorem dX10_sure_26 : decode cX10_sure 26 = .ok (.istore 4, 2) := by decide +kernel
theorem dX10_sure_28 : decode cX10_sure 28 = .ok (.iconst 0, 1) := by decide +kernel
theorem dX10_sure_29 : decode cX10_sure 29 = .ok (.istore 5, 2) := by decide +kernel
theorem dX10_sure_31 : decode cX10_sure 31 = .ok (.iload 5, 2) := by decide +kernel
theorem dX10_sure_33 : decode cX10_sure 33 = .ok (.iload_n 2, 1) := by decide +kernel
theorem dX10_sure_34 : decode cX10_sure 34 = .ok (.if_icmp .ge 31, 3) := by decide +kernel
theorem dX10_sure_37 : decode cX10_sure 37 = .ok (.aload_n 0, 1) := by decide +kernel
theorem dX10_sure_38 : decode cX10_sure 38 = .ok (.invokevirtual 235, 3) := by decide +kernel
theorem dX10_sure_41 : decode cX10_sure 41 = .ok (.iload 4, 2) := by decide +kernel
theorem dX10_sure_43 : decode cX10_sure 43 = .ok (.aload_n 0, 1) := by decide +kernel
theorem dX10_sure_44 : decode cX10_sure 44 = .ok (.invokevirtual 199, 3) := by decide +kernel
theorem dX10_sure_47 : decode cX10_sure 47 = .ok (.iload_n 3, 1) := by decide +kernel
theorem dX10_sure_48 : decode cX10_sure 48 = .ok (.if_icmp .ne 7, 3) := by decide +kernel
theorem dX10_sure_51 : decode cX10_sure 51 = .ok (.iconst 1, 1) := by decide +kernel
theorem dX10_sure_52 : decode cX10_sure 52 = .ok (.goto 4, 3) := by decide +kernel
theorem dX10_sure_55 : decode cX10_sure 55 = .ok (.iconst 0, 1) := by decide +kernel
theorem dX10_sure_56 : decode cX10_sure 56 = .ok (.iadd, 1) := by decide +kernel
theorem dX10_sure_57 : decode cX10_sure 57 = .ok (.istore 4, 2) := by decide +kernel
theorem dX10_sure_59 : decode cX10_sure 59 = .ok (.iinc 5 1, 3) := by decide +kernel
theorem dX10_sure_62 : decode cX10_sure 62 = .ok (.goto (-31), 3) := by decide +kernel
theorem dX10_sure_65 : decode cX10_sure 65 = .ok (.iload 4, 2) := by decide +kernel
theorem dX10_sure_67 : decode cX10_sure 67 = .ok (.ireturn, 1) := by decide +kernel
theorem dX10_classWorth_0 : decode cX10_classWorth 0 = .ok (.aload_n 0, 1) := by decide +kernel
theorem dX10_classWorth_1 : decode cX10_classWorth 1 = .ok (.iload_n 1, 1) := by decide +kernel
theorem dX10_classWorth_2 : decode cX10_classWorth 2 = .ok (.iload_n 2, 1) := by decide +kernel
theorem dX10_classWorth_3 : decode cX10_classWorth 3 = .ok (.invokevirtual 118, 3) := by decide +kernel
theorem dX10_classWorth_6 : decode cX10_classWorth 6 = .ok (.iload_n 2, 1) := by decide +kernel
theorem dX10_classWorth_7 : decode cX10_classWorth 7 = .ok (.invokestatic 164, 3) := by decide +kernel
theorem dX10_classWorth_10 : decode cX10_classWorth 10 = .ok (.isub, 1) := by decide +kernel
theorem dX10_classWorth_11 : decode cX10_classWorth 11 = .ok (.iconst 2, 1) := by decide +kernel
theorem dX10_classWorth_12 : decode cX10_classWorth 12 = .ok (.idiv, 1) := by decide +kernel
theorem dX10_classWorth_13 : decode cX10_classWorth 13 = .ok (.ireturn, 1) := by decide +kernel
theorem dX10_areAxes_0 : decode cX10_areAxes 0 = .ok (.iload_n 1, 1) := by decide +kernel
theorem dX10_areAxes_1 : decode cX10_areAxes 1 = .ok (.i2l, 1) := by decide +kernel
theorem dX10_areAxes_2 : decode cX10_areAxes 2 = .ok (.lconst 0, 1) := by decide +kernel
theorem dX10_areAxes_3 : decode cX10_areAxes 3 = .ok (.iconst 1, 1) := by decide +kernel
theorem dX10_areAxes_4 : decode cX10_areAxes 4 = .ok (.aload_n 0, 1) := by decide +kernel
theorem dX10_areAxes_5 : decode cX10_areAxes 5 = .ok (.getfield 13, 3) := by decide +kernel
theorem dX10_areAxes_8 : decode cX10_areAxes 8 = .ok (.ishl, 1) := by decide +kernel
theorem dX10_areAxes_9 : decode cX10_areAxes 9 = .ok (.iconst 1, 1) := by decide +kernel
theorem dX10_areAxes_10 : decode cX10_areAxes 10 = .ok (.isub, 1) := by decide +kernel
theorem dX10_areAxes_11 : decode cX10_areAxes 11 = .ok (.i2l, 1) := by decide +kernel
theorem dX10_areAxes_12 : decode cX10_areAxes 12 = .ok (.invokestatic 78, 3) := by decide +kernel
theorem dX10_areAxes_15 : decode cX10_areAxes 15 = .ok (.ireturn, 1) := by decide +kernel
theorem dX10_cover_0 : decode cX10_cover 0 = .ok (.iload_n 1, 1) := by decide +kernel
theorem dX10_cover_1 : decode cX10_cover 1 = .ok (.invokestatic 187, 3) := by decide +kernel
theorem dX10_cover_4 : decode cX10_cover 4 = .ok (.ifCond .eq 11, 3) := by decide +kernel
theorem dX10_cover_7 : decode cX10_cover 7 = .ok (.aload_n 0, 1) := by decide +kernel
theorem dX10_cover_8 : decode cX10_cover 8 = .ok (.iload_n 2, 1) := by decide +kernel
theorem dX10_cover_9 : decode cX10_cover 9 = .ok (.invokevirtual 238, 3) := by decide +kernel
theorem dX10_cover_12 : decode cX10_cover 12 = .ok (.ifCond .ne 6, 3) := by decide +kernel
theorem dX10_cover_15 : decode cX10_cover 15 = .ok (.bipush (-2), 2) := by decide +kernel
theorem dX10_cover_17 : decode cX10_cover 17 = .ok (.ireturn, 1) := by decide +kernel
theorem dX10_cover_18 : decode cX10_cover 18 = .ok (.aload_n 0, 1) := by decide +kernel
theorem dX10_cover_19 : decode cX10_cover 19 = .ok (.getfield 60, 3) := by decide +kernel
theorem dX10_cover_22 : decode cX10_cover 22 = .ok (.iload_n 1, 1) := by decide +kernel
theorem dX10_cover_23 : decode cX10_cover 23 = .ok (.iaload, 1) := by decide +kernel
theorem dX10_cover_24 : decode cX10_cover 24 = .ok (.ifCond .ge 6, 3) := by decide +kernel
theorem dX10_cover_27 : decode cX10_cover 27 = .ok (.bipush (-11), 2) := by decide +kernel
theorem dX10_cover_29 : decode cX10_cover 29 = .ok (.ireturn, 1) := by decide +kernel
theorem dX10_cover_30 : decode cX10_cover 30 = .ok (.iload_n 2, 1) := by decide +kernel
theorem dX10_cover_31 : decode cX10_cover 31 = .ok (.invokestatic 164, 3) := by decide +kernel
theorem dX10_cover_34 : decode cX10_cover 34 = .ok (.istore_n 3, 1) := by decide +kernel
theorem dX10_cover_35 : decode cX10_cover 35 = .ok (.iconst 0, 1) := by decide +kernel
theorem dX10_cover_36 : decode cX10_cover 36 = .ok (.istore 4, 2) := by decide +kernel
theorem dX10_cover_38 : decode cX10_cover 38 = .ok (.iconst 0, 1) := by decide +kernel
theorem dX10_cover_39 : decode cX10_cover 39 = .ok (.istore 5, 2) := by decide +kernel
theorem dX10_cover_41 : decode cX10_cover 41 = .ok (.iload 5, 2) := by decide +kernel
theorem dX10_cover_43 : decode cX10_cover 43 = .ok (.aload_n 0, 1) := by decide +kernel
theorem dX10_cover_44 : decode cX10_cover 44 = .ok (.getfield 75, 3) := by decide +kernel
theorem dX10_cover_47 : decode cX10_cover 47 = .ok (.if_icmp .ge 119, 3) := by decide +kernel
theorem dX10_cover_50 : decode cX10_cover 50 = .ok (.iconst 1, 1) := by decide +kernel
theorem dX10_cover_51 : decode cX10_cover 51 = .ok (.iload 5, 2) := by decide +kernel
theorem dX10_cover_53 : decode cX10_cover 53 = .ok (.ishl, 1) := by decide +kernel
theorem dX10_cover_54 : decode cX10_cover 54 = .ok (.istore 6, 2) := by decide +kernel
theorem dX10_cover_56 : decode cX10_cover 56 = .ok (.iload 5, 2) := by decide +kernel
theorem dX10_cover_58 : decode cX10_cover 58 = .ok (.iconst 1, 1) := by decide +kernel
theorem dX10_cover_59 : decode cX10_cover 59 = .ok (.iadd, 1) := by decide +kernel
theorem dX10_cover_60 : decode cX10_cover 60 = .ok (.istore 7, 2) := by decide +kernel
theorem dX10_cover_62 : decode cX10_cover 62 = .ok (.iload 7, 2) := by decide +kernel
theorem dX10_cover_64 : decode cX10_cover 64 = .ok (.aload_n 0, 1) := by decide +kernel
theorem dX10_cover_65 : decode cX10_cover 65 = .ok (.getfield 75, 3) := by decide +kernel
theorem dX10_cover_68 : decode cX10_cover 68 = .ok (.if_icmp .ge 61, 3) := by decide +kernel
theorem dX10_cover_71 : decode cX10_cover 71 = .ok (.iload 7, 2) := by decide +kernel
theorem dX10_cover_73 : decode cX10_cover 73 = .ok (.aload_n 0, 1) := by decide +kernel
theorem dX10_cover_74 : decode cX10_cover 74 = .ok (.getfield 63, 3) := by decide +kernel
theorem dX10_cover_77 : decode cX10_cover 77 = .ok (.iload_n 1, 1) := by decide +kernel
theorem dX10_cover_78 : decode cX10_cover 78 = .ok (.iaload, 1) := by decide +kernel
theorem dX10_cover_79 : decode cX10_cover 79 = .ok (.if_icmp .ge 50, 3) := by decide +kernel
theorem dX10_cover_82 : decode cX10_cover 82 = .ok (.iload 6, 2) := by decide +kernel
theorem dX10_cover_84 : decode cX10_cover 84 = .ok (.aload_n 0, 1) := by decide +kernel
theorem dX10_cover_85 : decode cX10_cover 85 = .ok (.getfield 66, 3) := by decide +kernel
theorem dX10_cover_88 : decode cX10_cover 88 = .ok (.bipush 30, 2) := by decide +kernel
theorem dX10_cover_90 : decode cX10_cover 90 = .ok (.iload_n 1, 1) := by decide +kernel
theorem dX10_cover_91 : decode cX10_cover 91 = .ok (.imul, 1) := by decide +kernel
theorem dX10_cover_92 : decode cX10_cover 92 = .ok (.iload 7, 2) := by decide +kernel
theorem dX10_cover_94 : decode cX10_cover 94 = .ok (.iadd, 1) := by decide +kernel
theorem dX10_cover_95 : decode cX10_cover 95 = .ok (.laload, 1) := by decide +kernel
theorem dX10_cover_96 : decode cX10_cover 96 = .ok (.aload_n 0, 1) := by decide +kernel
theorem dX10_cover_97 : decode cX10_cover 97 = .ok (.getfield 66, 3) := by decide +kernel
theorem dX10_cover_100 : decode cX10_cover 100 = .ok (.bipush 30, 2) := by decide +kernel
theorem dX10_cover_102 : decode cX10_cover 102 = .ok (.iload_n 1, 1) := by decide +kernel
theorem dX10_cover_103 : decode cX10_cover 103 = .ok (.imul, 1) := by decide +kernel
theorem dX10_cover_104 : decode cX10_cover 104 = .ok (.iload 5, 2) := by decide +kernel
theorem dX10_cover_106 : decode cX10_cover 106 = .ok (.iadd, 1) := by decide +kernel
theorem dX10_cover_107 : decode cX10_cover 107 = .ok (.laload, 1) := by decide +kernel
theorem dX10_cover_108 : decode cX10_cover 108 = .ok (.lcmp, 1) := by decide +kernel
theorem dX10_cover_109 : decode cX10_cover 109 = .ok (.ifCond .ne 10, 3) := by decide +kernel
theorem dX10_cover_112 : decode cX10_cover 112 = .ok (.iconst 1, 1) := by decide +kernel
theorem dX10_cover_113 : decode cX10_cover 113 = .ok (.iload 7, 2) := by decide +kernel
theorem dX10_cover_115 : decode cX10_cover 115 = .ok (.ishl, 1) := by decide +kernel
theorem dX10_cover_116 : decode cX10_cover 116 = .ok (.goto 4, 3) := by decide +kernel
theorem dX10_cover_119 : decode cX10_cover 119 = .ok (.iconst 0, 1) := by decide +kernel
theorem dX10_cover_120 : decode cX10_cover 120 = .ok (.ior, 1) := by decide +kernel
theorem dX10_cover_121 : decode cX10_cover 121 = .ok (.istore 6, 2) := by decide +kernel
theorem dX10_cover_123 : decode cX10_cover 123 = .ok (.iinc 7 1, 3) := by decide +kernel
theorem dX10_cover_126 : decode cX10_cover 126 = .ok (.goto (-64), 3) := by decide +kernel
theorem dX10_cover_129 : decode cX10_cover 129 = .ok (.iload_n 3, 1) := by decide +kernel
theorem dX10_cover_130 : decode cX10_cover 130 = .ok (.iload 4, 2) := by decide +kernel
theorem dX10_cover_132 : decode cX10_cover 132 = .ok (.iload 5, 2) := by decide +kernel
theorem dX10_cover_134 : decode cX10_cover 134 = .ok (.invokestatic 149, 3) := by decide +kernel
theorem dX10_cover_137 : decode cX10_cover 137 = .ok (.ifCond .eq 7, 3) := by decide +kernel
theorem dX10_cover_140 : decode cX10_cover 140 = .ok (.iconst 0, 1) := by decide +kernel
theorem dX10_cover_141 : decode cX10_cover 141 = .ok (.goto 10, 3) := by decide +kernel
theorem dX10_cover_144 : decode cX10_cover 144 = .ok (.aload_n 0, 1) := by decide +kernel
theorem dX10_cover_145 : decode cX10_cover 145 = .ok (.iload 6, 2) := by decide +kernel
theorem dX10_cover_147 : decode cX10_cover 147 = .ok (.iload_n 2, 1) := by decide +kernel
theorem dX10_cover_148 : decode cX10_cover 148 = .ok (.invokevirtual 241, 3) := by decide +kernel
theorem dX10_cover_151 : decode cX10_cover 151 = .ok (.iadd, 1) := by decide +kernel
theorem dX10_cover_152 : decode cX10_cover 152 = .ok (.istore_n 3, 1) := by decide +kernel
theorem dX10_cover_153 : decode cX10_cover 153 = .ok (.iload 4, 2) := by decide +kernel
theorem dX10_cover_155 : decode cX10_cover 155 = .ok (.iload 6, 2) := by decide +kernel
theorem dX10_cover_157 : decode cX10_cover 157 = .ok (.ior, 1) := by decide +kernel
theorem dX10_cover_158 : decode cX10_cover 158 = .ok (.istore 4, 2) := by decide +kernel
theorem dX10_cover_160 : decode cX10_cover 160 = .ok (.iinc 5 1, 3) := by decide +kernel
theorem dX10_cover_163 : decode cX10_cover 163 = .ok (.goto (-122), 3) := by decide +kernel
theorem dX10_cover_166 : decode cX10_cover 166 = .ok (.iload_n 3, 1) := by decide +kernel
theorem dX10_cover_167 : decode cX10_cover 167 = .ok (.ireturn, 1) := by decide +kernel
theorem dX10_cheap_0 : decode cX10_cheap 0 = .ok (.iload_n 1, 1) := by decide +kernel
theorem dX10_cheap_1 : decode cX10_cheap 1 = .ok (.i2l, 1) := by decide +kernel
theorem dX10_cheap_2 : decode cX10_cheap 2 = .ok (.lconst 0, 1) := by decide +kernel
theorem dX10_cheap_3 : decode cX10_cheap 3 = .ok (.lconst 1, 1) := by decide +kernel
theorem dX10_cheap_4 : decode cX10_cheap 4 = .ok (.invokestatic 78, 3) := by decide +kernel
theorem dX10_cheap_7 : decode cX10_cheap 7 = .ok (.ifCond .eq 13, 3) := by decide +kernel
theorem dX10_cheap_10 : decode cX10_cheap 10 = .ok (.iload_n 2, 1) := by decide +kernel
theorem dX10_cheap_11 : decode cX10_cheap 11 = .ok (.i2l, 1) := by decide +kernel
theorem dX10_cheap_12 : decode cX10_cheap 12 = .ok (.lconst 0, 1) := by decide +kernel
theorem dX10_cheap_13 : decode cX10_cheap 13 = .ok (.lconst 1, 1) := by decide +kernel
theorem dX10_cheap_14 : decode cX10_cheap 14 = .ok (.invokestatic 78, 3) := by decide +kernel
theorem dX10_cheap_17 : decode cX10_cheap 17 = .ok (.ifCond .ne 6, 3) := by decide +kernel
theorem dX10_cheap_20 : decode cX10_cheap 20 = .ok (.bipush (-2), 2) := by decide +kernel
theorem dX10_cheap_22 : decode cX10_cheap 22 = .ok (.ireturn, 1) := by decide +kernel
theorem dX10_cheap_23 : decode cX10_cheap 23 = .ok (.iconst (-1), 1) := by decide +kernel
theorem dX10_cheap_24 : decode cX10_cheap 24 = .ok (.istore_n 3, 1) := by decide +kernel
theorem dX10_cheap_25 : decode cX10_cheap 25 = .ok (.iconst 0, 1) := by decide +kernel
theorem dX10_cheap_26 : decode cX10_cheap 26 = .ok (.istore 4, 2) := by decide +kernel
theorem dX10_cheap_28 : decode cX10_cheap 28 = .ok (.iconst 0, 1) := by decide +kernel
theorem dX10_cheap_29 : decode cX10_cheap 29 = .ok (.istore 5, 2) := by decide +kernel
theorem dX10_cheap_31 : decode cX10_cheap 31 = .ok (.aload_n 0, 1) := by decide +kernel
theorem dX10_cheap_32 : decode cX10_cheap 32 = .ok (.iload 5, 2) := by decide +kernel
theorem dX10_cheap_34 : decode cX10_cheap 34 = .ok (.invokevirtual 238, 3) := by decide +kernel
theorem dX10_cheap_37 : decode cX10_cheap 37 = .ok (.ifCond .eq 96, 3) := by decide +kernel
theorem dX10_cheap_40 : decode cX10_cheap 40 = .ok (.iload 5, 2) := by decide +kernel
theorem dX10_cheap_42 : decode cX10_cheap 42 = .ok (.invokestatic 164, 3) := by decide +kernel
theorem dX10_cheap_45 : decode cX10_cheap 45 = .ok (.istore 6, 2) := by decide +kernel
theorem dX10_cheap_47 : decode cX10_cheap 47 = .ok (.iload_n 1, 1) := by decide +kernel
theorem dX10_cheap_48 : decode cX10_cheap 48 = .ok (.ifCond .ne 22, 3) := by decide +kernel
theorem dX10_cheap_51 : decode cX10_cheap 51 = .ok (.iload 6, 2) := by decide +kernel
theorem dX10_cheap_53 : decode cX10_cheap 53 = .ok (.aload_n 0, 1) := by decide +kernel
theorem dX10_cheap_54 : decode cX10_cheap 54 = .ok (.iconst 1, 1) := by decide +kernel
theorem dX10_cheap_55 : decode cX10_cheap 55 = .ok (.aload_n 0, 1) := by decide +kernel
theorem dX10_cheap_56 : decode cX10_cheap 56 = .ok (.getfield 75, 3) := by decide +kernel
theorem dX10_cheap_59 : decode cX10_cheap 59 = .ok (.ishl, 1) := by decide +kernel
theorem dX10_cheap_60 : decode cX10_cheap 60 = .ok (.iconst 1, 1) := by decide +kernel
theorem dX10_cheap_61 : decode cX10_cheap 61 = .ok (.isub, 1) := by decide +kernel
theorem dX10_cheap_62 : decode cX10_cheap 62 = .ok (.iload 5, 2) := by decide +kernel
theorem dX10_cheap_64 : decode cX10_cheap 64 = .ok (.invokevirtual 241, 3) := by decide +kernel
theorem dX10_cheap_67 : decode cX10_cheap 67 = .ok (.iadd, 1) := by decide +kernel
theorem dX10_cheap_68 : decode cX10_cheap 68 = .ok (.istore 6, 2) := by decide +kernel
theorem dX10_cheap_70 : decode cX10_cheap 70 = .ok (.iconst 0, 1) := by decide +kernel
theorem dX10_cheap_71 : decode cX10_cheap 71 = .ok (.istore 7, 2) := by decide +kernel
theorem dX10_cheap_73 : decode cX10_cheap 73 = .ok (.iload 7, 2) := by decide +kernel
theorem dX10_cheap_75 : decode cX10_cheap 75 = .ok (.aload_n 0, 1) := by decide +kernel
theorem dX10_cheap_76 : decode cX10_cheap 76 = .ok (.getfield 75, 3) := by decide +kernel
theorem dX10_cheap_79 : decode cX10_cheap 79 = .ok (.if_icmp .ge 29, 3) := by decide +kernel
theorem dX10_cheap_82 : decode cX10_cheap 82 = .ok (.iload_n 1, 1) := by decide +kernel
theorem dX10_cheap_83 : decode cX10_cheap 83 = .ok (.iconst 1, 1) := by decide +kernel
theorem dX10_cheap_84 : decode cX10_cheap 84 = .ok (.if_icmp .ne 24, 3) := by decide +kernel
theorem dX10_cheap_87 : decode cX10_cheap 87 = .ok (.iload 6, 2) := by decide +kernel
theorem dX10_cheap_89 : decode cX10_cheap 89 = .ok (.aload_n 0, 1) := by decide +kernel
theorem dX10_cheap_90 : decode cX10_cheap 90 = .ok (.iconst 1, 1) := by decide +kernel
theorem dX10_cheap_91 : decode cX10_cheap 91 = .ok (.iload 7, 2) := by decide +kernel
theorem dX10_cheap_93 : decode cX10_cheap 93 = .ok (.ishl, 1) := by decide +kernel
theorem dX10_cheap_94 : decode cX10_cheap 94 = .ok (.iload 5, 2) := by decide +kernel
theorem dX10_cheap_96 : decode cX10_cheap 96 = .ok (.invokevirtual 241, 3) := by decide +kernel
theorem dX10_cheap_99 : decode cX10_cheap 99 = .ok (.iadd, 1) := by decide +kernel
theorem dX10_cheap_100 : decode cX10_cheap 100 = .ok (.istore 6, 2) := by decide +kernel
theorem dX10_cheap_102 : decode cX10_cheap 102 = .ok (.iinc 7 1, 3) := by decide +kernel
theorem dX10_cheap_105 : decode cX10_cheap 105 = .ok (.goto (-32), 3) := by decide +kernel
theorem dX10_cheap_108 : decode cX10_cheap 108 = .ok (.iload_n 3, 1) := by decide +kernel
theorem dX10_cheap_109 : decode cX10_cheap 109 = .ok (.iconst (-1), 1) := by decide +kernel
theorem dX10_cheap_110 : decode cX10_cheap 110 = .ok (.if_icmp .eq 10, 3) := by decide +kernel
theorem dX10_cheap_113 : decode cX10_cheap 113 = .ok (.iload 6, 2) := by decide +kernel
theorem dX10_cheap_115 : decode cX10_cheap 115 = .ok (.iload 4, 2) := by decide +kernel
theorem dX10_cheap_117 : decode cX10_cheap 117 = .ok (.if_icmp .ge 10, 3) := by decide +kernel
theorem dX10_cheap_120 : decode cX10_cheap 120 = .ok (.iload 5, 2) := by decide +kernel
theorem dX10_cheap_122 : decode cX10_cheap 122 = .ok (.istore_n 3, 1) := by decide +kernel
theorem dX10_cheap_123 : decode cX10_cheap 123 = .ok (.iload 6, 2) := by decide +kernel
theorem dX10_cheap_125 : decode cX10_cheap 125 = .ok (.istore 4, 2) := by decide +kernel
theorem dX10_cheap_127 : decode cX10_cheap 127 = .ok (.iinc 5 1, 3) := by decide +kernel
theorem dX10_cheap_130 : decode cX10_cheap 130 = .ok (.goto (-99), 3) := by decide +kernel
theorem dX10_cheap_133 : decode cX10_cheap 133 = .ok (.iload_n 2, 1) := by decide +kernel
theorem dX10_cheap_134 : decode cX10_cheap 134 = .ok (.ifCond .ne 8, 3) := by decide +kernel
theorem dX10_cheap_137 : decode cX10_cheap 137 = .ok (.iload 4, 2) := by decide +kernel
theorem dX10_cheap_139 : decode cX10_cheap 139 = .ok (.goto 4, 3) := by decide +kernel
theorem dX10_cheap_142 : decode cX10_cheap 142 = .ok (.iload_n 3, 1) := by decide +kernel
theorem dX10_cheap_143 : decode cX10_cheap 143 = .ok (.ireturn, 1) := by decide +kernel
theorem dX10_rayBy_0 : decode cX10_rayBy 0 = .ok (.iconst 0, 1) := by decide +kernel
theorem dX10_rayBy_1 : decode cX10_rayBy 1 = .ok (.istore_n 3, 1) := by decide +kernel
theorem dX10_rayBy_2 : decode cX10_rayBy 2 = .ok (.lconst 0, 1) := by decide +kernel
theorem dX10_rayBy_3 : decode cX10_rayBy 3 = .ok (.lstore 4, 2) := by decide +kernel
theorem dX10_rayBy_5 : decode cX10_rayBy 5 = .ok (.iconst 0, 1) := by decide +kernel
theorem dX10_rayBy_6 : decode cX10_rayBy 6 = .ok (.istore 6, 2) := by decide +kernel
theorem dX10_rayBy_8 : decode cX10_rayBy 8 = .ok (.iload 6, 2) := by decide +kernel
theorem dX10_rayBy_10 : decode cX10_rayBy 10 = .ok (.aload_n 0, 1) := by decide +kernel
theorem dX10_rayBy_11 : decode cX10_rayBy 11 = .ok (.getfield 13, 3) := by decide +kernel
theorem dX10_rayBy_14 : decode cX10_rayBy 14 = .ok (.if_icmp .ge 57, 3) := by decide +kernel
theorem dX10_rayBy_17 : decode cX10_rayBy 17 = .ok (.aload_n 0, 1) := by decide +kernel
theorem dX10_rayBy_18 : decode cX10_rayBy 18 = .ok (.iload_n 1, 1) := by decide +kernel
theorem dX10_rayBy_19 : decode cX10_rayBy 19 = .ok (.iload_n 2, 1) := by decide +kernel
theorem dX10_rayBy_20 : decode cX10_rayBy 20 = .ok (.iload 6, 2) := by decide +kernel
theorem dX10_rayBy_22 : decode cX10_rayBy 22 = .ok (.invokevirtual 121, 3) := by decide +kernel
theorem dX10_rayBy_25 : decode cX10_rayBy 25 = .ok (.istore 7, 2) := by decide +kernel
theorem dX10_rayBy_27 : decode cX10_rayBy 27 = .ok (.iload_n 3, 1) := by decide +kernel
theorem dX10_rayBy_28 : decode cX10_rayBy 28 = .ok (.ifCond .ne 8, 3) := by decide +kernel
theorem dX10_rayBy_31 : decode cX10_rayBy 31 = .ok (.iload 7, 2) := by decide +kernel
theorem dX10_rayBy_33 : decode cX10_rayBy 33 = .ok (.goto 4, 3) := by decide +kernel
theorem dX10_rayBy_36 : decode cX10_rayBy 36 = .ok (.iload_n 3, 1) := by decide +kernel
theorem dX10_rayBy_37 : decode cX10_rayBy 37 = .ok (.istore_n 3, 1) := by decide +kernel
theorem dX10_rayBy_38 : decode cX10_rayBy 38 = .ok (.lload 4, 2) := by decide +kernel
theorem dX10_rayBy_40 : decode cX10_rayBy 40 = .ok (.aload_n 0, 1) := by decide +kernel
theorem dX10_rayBy_41 : decode cX10_rayBy 41 = .ok (.getfield 7, 3) := by decide +kernel
theorem dX10_rayBy_44 : decode cX10_rayBy 44 = .ok (.i2l, 1) := by decide +kernel
theorem dX10_rayBy_45 : decode cX10_rayBy 45 = .ok (.lmul, 1) := by decide +kernel
theorem dX10_rayBy_46 : decode cX10_rayBy 46 = .ok (.iload_n 3, 1) := by decide +kernel
theorem dX10_rayBy_47 : decode cX10_rayBy 47 = .ok (.ifCond .ne 7, 3) := by decide +kernel
theorem dX10_rayBy_50 : decode cX10_rayBy 50 = .ok (.iconst 0, 1) := by decide +kernel
theorem dX10_rayBy_51 : decode cX10_rayBy 51 = .ok (.goto 10, 3) := by decide +kernel
theorem dX10_rayBy_54 : decode cX10_rayBy 54 = .ok (.aload_n 0, 1) := by decide +kernel
theorem dX10_rayBy_55 : decode cX10_rayBy 55 = .ok (.iload 7, 2) := by decide +kernel
theorem dX10_rayBy_57 : decode cX10_rayBy 57 = .ok (.iload_n 3, 1) := by decide +kernel
theorem dX10_rayBy_58 : decode cX10_rayBy 58 = .ok (.invokevirtual 96, 3) := by decide +kernel
theorem dX10_rayBy_61 : decode cX10_rayBy 61 = .ok (.i2l, 1) := by decide +kernel
theorem dX10_rayBy_62 : decode cX10_rayBy 62 = .ok (.ladd, 1) := by decide +kernel
theorem dX10_rayBy_63 : decode cX10_rayBy 63 = .ok (.lstore 4, 2) := by decide +kernel
theorem dX10_rayBy_65 : decode cX10_rayBy 65 = .ok (.iinc 6 1, 3) := by decide +kernel
theorem dX10_rayBy_68 : decode cX10_rayBy 68 = .ok (.goto (-60), 3) := by decide +kernel
theorem dX10_rayBy_71 : decode cX10_rayBy 71 = .ok (.iload_n 3, 1) := by decide +kernel
theorem dX10_rayBy_72 : decode cX10_rayBy 72 = .ok (.ifCond .ne 9, 3) := by decide +kernel
theorem dX10_rayBy_75 : decode cX10_rayBy 75 = .ok (.ldc2_w 206, 3) := by decide +kernel
theorem dX10_rayBy_78 : decode cX10_rayBy 78 = .ok (.goto 5, 3) := by decide +kernel
theorem dX10_rayBy_81 : decode cX10_rayBy 81 = .ok (.lload 4, 2) := by decide +kernel
theorem dX10_rayBy_83 : decode cX10_rayBy 83 = .ok (.lreturn, 1) := by decide +kernel
theorem dX10_findsRays_0 : decode cX10_findsRays 0 = .ok (.aload_n 0, 1) := by decide +kernel
theorem dX10_findsRays_1 : decode cX10_findsRays 1 = .ok (.iconst 0, 1) := by decide +kernel
theorem dX10_findsRays_2 : decode cX10_findsRays 2 = .ok (.putfield 244, 3) := by decide +kernel
theorem dX10_findsRays_5 : decode cX10_findsRays 5 = .ok (.iconst 0, 1) := by decide +kernel
theorem dX10_findsRays_6 : decode cX10_findsRays 6 = .ok (.istore_n 1, 1) := by decide +kernel
theorem dX10_findsRays_7 : decode cX10_findsRays 7 = .ok (.iload_n 1, 1) := by decide +kernel
theorem dX10_findsRays_8 : decode cX10_findsRays 8 = .ok (.iconst 2, 1) := by decide +kernel
theorem dX10_findsRays_9 : decode cX10_findsRays 9 = .ok (.aload_n 0, 1) := by decide +kernel
theorem dX10_findsRays_10 : decode cX10_findsRays 10 = .ok (.getfield 75, 3) := by decide +kernel
theorem dX10_findsRays_13 : decode cX10_findsRays 13 = .ok (.imul, 1) := by decide +kernel
theorem dX10_findsRays_14 : decode cX10_findsRays 14 = .ok (.if_icmp .ge 133, 3) := by decide +kernel
theorem dX10_findsRays_17 : decode cX10_findsRays 17 = .ok (.aload_n 0, 1) := by decide +kernel
theorem dX10_findsRays_18 : decode cX10_findsRays 18 = .ok (.iload_n 1, 1) := by decide +kernel
theorem dX10_findsRays_19 : decode cX10_findsRays 19 = .ok (.iconst 2, 1) := by decide +kernel
theorem dX10_findsRays_20 : decode cX10_findsRays 20 = .ok (.idiv, 1) := by decide +kernel
theorem dX10_findsRays_21 : decode cX10_findsRays 21 = .ok (.iload_n 1, 1) := by decide +kernel
theorem dX10_findsRays_22 : decode cX10_findsRays 22 = .ok (.iconst 2, 1) := by decide +kernel
theorem dX10_findsRays_23 : decode cX10_findsRays 23 = .ok (.irem, 1) := by decide +kernel
theorem dX10_findsRays_24 : decode cX10_findsRays 24 = .ok (.invokevirtual 247, 3) := by decide +kernel
theorem dX10_findsRays_27 : decode cX10_findsRays 27 = .ok (.lstore_n 2, 1) := by decide +kernel
