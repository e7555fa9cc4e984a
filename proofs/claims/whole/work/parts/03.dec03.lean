theorem dX9_table_0 : decode cX9_table 0 = .ok (.iload_n 1, 1) := by decide +kernel
theorem dX9_table_1 : decode cX9_table 1 = .ok (.invokestatic 194, 3) := by decide +kernel
theorem dX9_table_4 : decode cX9_table 4 = .ok (.ifCond .eq 33, 3) := by decide +kernel
theorem dX9_table_7 : decode cX9_table 7 = .ok (.iload_n 2, 1) := by decide +kernel
theorem dX9_table_8 : decode cX9_table 8 = .ok (.ifCond .lt 29, 3) := by decide +kernel
theorem dX9_table_11 : decode cX9_table 11 = .ok (.iload_n 2, 1) := by decide +kernel
theorem dX9_table_12 : decode cX9_table 12 = .ok (.aload_n 0, 1) := by decide +kernel
theorem dX9_table_13 : decode cX9_table 13 = .ok (.getfield 12, 3) := by decide +kernel
theorem dX9_table_16 : decode cX9_table 16 = .ok (.getfield 90, 3) := by decide +kernel
theorem dX9_table_19 : decode cX9_table 19 = .ok (.if_icmp .ge 18, 3) := by decide +kernel
theorem dX9_table_22 : decode cX9_table 22 = .ok (.iload_n 3, 1) := by decide +kernel
theorem dX9_table_23 : decode cX9_table 23 = .ok (.ifCond .lt 14, 3) := by decide +kernel
theorem dX9_table_26 : decode cX9_table 26 = .ok (.iload_n 3, 1) := by decide +kernel
theorem dX9_table_27 : decode cX9_table 27 = .ok (.aload_n 0, 1) := by decide +kernel
theorem dX9_table_28 : decode cX9_table 28 = .ok (.getfield 12, 3) := by decide +kernel
theorem dX9_table_31 : decode cX9_table 31 = .ok (.getfield 90, 3) := by decide +kernel
theorem dX9_table_34 : decode cX9_table 34 = .ok (.if_icmp .lt 6, 3) := by decide +kernel
theorem dX9_table_37 : decode cX9_table 37 = .ok (.bipush (-2), 2) := by decide +kernel
theorem dX9_table_39 : decode cX9_table 39 = .ok (.ireturn, 1) := by decide +kernel
theorem dX9_table_40 : decode cX9_table 40 = .ok (.aload_n 0, 1) := by decide +kernel
theorem dX9_table_41 : decode cX9_table 41 = .ok (.getfield 60, 3) := by decide +kernel
theorem dX9_table_44 : decode cX9_table 44 = .ok (.iload_n 1, 1) := by decide +kernel
theorem dX9_table_45 : decode cX9_table 45 = .ok (.aaload, 1) := by decide +kernel
theorem dX9_table_46 : decode cX9_table 46 = .ok (.invokevirtual 197, 3) := by decide +kernel
theorem dX9_table_49 : decode cX9_table 49 = .ok (.ifCond .eq 6, 3) := by decide +kernel
theorem dX9_table_52 : decode cX9_table 52 = .ok (.bipush (-11), 2) := by decide +kernel
theorem dX9_table_54 : decode cX9_table 54 = .ok (.ireturn, 1) := by decide +kernel
theorem dX9_table_55 : decode cX9_table 55 = .ok (.aload_n 0, 1) := by decide +kernel
theorem dX9_table_56 : decode cX9_table 56 = .ok (.getfield 26, 3) := by decide +kernel
theorem dX9_table_59 : decode cX9_table 59 = .ok (.aload_n 0, 1) := by decide +kernel
theorem dX9_table_60 : decode cX9_table 60 = .ok (.getfield 12, 3) := by decide +kernel
theorem dX9_table_63 : decode cX9_table 63 = .ok (.invokevirtual 141, 3) := by decide +kernel
theorem dX9_table_66 : decode cX9_table 66 = .ok (.aload_n 0, 1) := by decide +kernel
theorem dX9_table_67 : decode cX9_table 67 = .ok (.aload_n 0, 1) := by decide +kernel
theorem dX9_table_68 : decode cX9_table 68 = .ok (.getfield 60, 3) := by decide +kernel
theorem dX9_table_71 : decode cX9_table 71 = .ok (.iload_n 1, 1) := by decide +kernel
theorem dX9_table_72 : decode cX9_table 72 = .ok (.aaload, 1) := by decide +kernel
theorem dX9_table_73 : decode cX9_table 73 = .ok (.invokevirtual 201, 3) := by decide +kernel
theorem dX9_table_76 : decode cX9_table 76 = .ok (.aload_n 0, 1) := by decide +kernel
theorem dX9_table_77 : decode cX9_table 77 = .ok (.getfield 40, 3) := by decide +kernel
theorem dX9_table_80 : decode cX9_table 80 = .ok (.aload_n 0, 1) := by decide +kernel
theorem dX9_table_81 : decode cX9_table 81 = .ok (.getfield 26, 3) := by decide +kernel
theorem dX9_table_84 : decode cX9_table 84 = .ok (.aload_n 0, 1) := by decide +kernel
theorem dX9_table_85 : decode cX9_table 85 = .ok (.getfield 74, 3) := by decide +kernel
theorem dX9_table_88 : decode cX9_table 88 = .ok (.iload_n 2, 1) := by decide +kernel
theorem dX9_table_89 : decode cX9_table 89 = .ok (.iload_n 3, 1) := by decide +kernel
theorem dX9_table_90 : decode cX9_table 90 = .ok (.invokevirtual 205, 3) := by decide +kernel
theorem dX9_table_93 : decode cX9_table 93 = .ok (.ireturn, 1) := by decide +kernel
theorem dX9_half_0 : decode cX9_half 0 = .ok (.iload_n 1, 1) := by decide +kernel
theorem dX9_half_1 : decode cX9_half 1 = .ok (.invokestatic 194, 3) := by decide +kernel
theorem dX9_half_4 : decode cX9_half 4 = .ok (.ifCond .ne 6, 3) := by decide +kernel
theorem dX9_half_7 : decode cX9_half 7 = .ok (.bipush (-2), 2) := by decide +kernel
theorem dX9_half_9 : decode cX9_half 9 = .ok (.ireturn, 1) := by decide +kernel
theorem dX9_half_10 : decode cX9_half 10 = .ok (.aload_n 0, 1) := by decide +kernel
theorem dX9_half_11 : decode cX9_half 11 = .ok (.getfield 60, 3) := by decide +kernel
theorem dX9_half_14 : decode cX9_half 14 = .ok (.iload_n 1, 1) := by decide +kernel
theorem dX9_half_15 : decode cX9_half 15 = .ok (.aaload, 1) := by decide +kernel
theorem dX9_half_16 : decode cX9_half 16 = .ok (.invokevirtual 197, 3) := by decide +kernel
theorem dX9_half_19 : decode cX9_half 19 = .ok (.ifCond .eq 6, 3) := by decide +kernel
theorem dX9_half_22 : decode cX9_half 22 = .ok (.bipush (-11), 2) := by decide +kernel
theorem dX9_half_24 : decode cX9_half 24 = .ok (.ireturn, 1) := by decide +kernel
theorem dX9_half_25 : decode cX9_half 25 = .ok (.aload_n 0, 1) := by decide +kernel
theorem dX9_half_26 : decode cX9_half 26 = .ok (.getfield 26, 3) := by decide +kernel
theorem dX9_half_29 : decode cX9_half 29 = .ok (.aload_n 0, 1) := by decide +kernel
theorem dX9_half_30 : decode cX9_half 30 = .ok (.getfield 12, 3) := by decide +kernel
theorem dX9_half_33 : decode cX9_half 33 = .ok (.invokevirtual 141, 3) := by decide +kernel
theorem dX9_half_36 : decode cX9_half 36 = .ok (.aload_n 0, 1) := by decide +kernel
theorem dX9_half_37 : decode cX9_half 37 = .ok (.aload_n 0, 1) := by decide +kernel
theorem dX9_half_38 : decode cX9_half 38 = .ok (.getfield 60, 3) := by decide +kernel
theorem dX9_half_41 : decode cX9_half 41 = .ok (.iload_n 1, 1) := by decide +kernel
theorem dX9_half_42 : decode cX9_half 42 = .ok (.aaload, 1) := by decide +kernel
theorem dX9_half_43 : decode cX9_half 43 = .ok (.invokevirtual 201, 3) := by decide +kernel
theorem dX9_half_46 : decode cX9_half 46 = .ok (.aload_n 0, 1) := by decide +kernel
theorem dX9_half_47 : decode cX9_half 47 = .ok (.getfield 40, 3) := by decide +kernel
theorem dX9_half_50 : decode cX9_half 50 = .ok (.aload_n 0, 1) := by decide +kernel
theorem dX9_half_51 : decode cX9_half 51 = .ok (.getfield 26, 3) := by decide +kernel
theorem dX9_half_54 : decode cX9_half 54 = .ok (.aload_n 0, 1) := by decide +kernel
theorem dX9_half_55 : decode cX9_half 55 = .ok (.getfield 74, 3) := by decide +kernel
theorem dX9_half_58 : decode cX9_half 58 = .ok (.invokevirtual 209, 3) := by decide +kernel
theorem dX9_half_61 : decode cX9_half 61 = .ok (.ireturn, 1) := by decide +kernel
theorem dX9_root_0 : decode cX9_root 0 = .ok (.iload_n 1, 1) := by decide +kernel
theorem dX9_root_1 : decode cX9_root 1 = .ok (.invokestatic 194, 3) := by decide +kernel
theorem dX9_root_4 : decode cX9_root 4 = .ok (.ifCond .ne 7, 3) := by decide +kernel
theorem dX9_root_7 : decode cX9_root 7 = .ok (.ldc2_w 213, 3) := by decide +kernel
theorem dX9_root_10 : decode cX9_root 10 = .ok (.lreturn, 1) := by decide +kernel
theorem dX9_root_11 : decode cX9_root 11 = .ok (.aload_n 0, 1) := by decide +kernel
theorem dX9_root_12 : decode cX9_root 12 = .ok (.getfield 60, 3) := by decide +kernel
theorem dX9_root_15 : decode cX9_root 15 = .ok (.iload_n 1, 1) := by decide +kernel
theorem dX9_root_16 : decode cX9_root 16 = .ok (.aaload, 1) := by decide +kernel
theorem dX9_root_17 : decode cX9_root 17 = .ok (.invokevirtual 197, 3) := by decide +kernel
theorem dX9_root_20 : decode cX9_root 20 = .ok (.ifCond .eq 7, 3) := by decide +kernel
theorem dX9_root_23 : decode cX9_root 23 = .ok (.ldc2_w 215, 3) := by decide +kernel
theorem dX9_root_26 : decode cX9_root 26 = .ok (.lreturn, 1) := by decide +kernel
theorem dX9_root_27 : decode cX9_root 27 = .ok (.aload_n 0, 1) := by decide +kernel
theorem dX9_root_28 : decode cX9_root 28 = .ok (.getfield 12, 3) := by decide +kernel
theorem dX9_root_31 : decode cX9_root 31 = .ok (.getfield 90, 3) := by decide +kernel
theorem dX9_root_34 : decode cX9_root 34 = .ok (.iconst 2, 1) := by decide +kernel
theorem dX9_root_35 : decode cX9_root 35 = .ok (.irem, 1) := by decide +kernel
theorem dX9_root_36 : decode cX9_root 36 = .ok (.ifCond .eq 7, 3) := by decide +kernel
theorem dX9_root_39 : decode cX9_root 39 = .ok (.ldc2_w 217, 3) := by decide +kernel
theorem dX9_root_42 : decode cX9_root 42 = .ok (.lreturn, 1) := by decide +kernel
theorem dX9_root_43 : decode cX9_root 43 = .ok (.aload_n 0, 1) := by decide +kernel
theorem dX9_root_44 : decode cX9_root 44 = .ok (.getfield 26, 3) := by decide +kernel
theorem dX9_root_47 : decode cX9_root 47 = .ok (.aload_n 0, 1) := by decide +kernel
theorem dX9_root_48 : decode cX9_root 48 = .ok (.getfield 12, 3) := by decide +kernel
theorem dX9_root_51 : decode cX9_root 51 = .ok (.invokevirtual 141, 3) := by decide +kernel
theorem dX9_root_54 : decode cX9_root 54 = .ok (.aload_n 0, 1) := by decide +kernel
theorem dX9_root_55 : decode cX9_root 55 = .ok (.getfield 47, 3) := by decide +kernel
theorem dX9_root_58 : decode cX9_root 58 = .ok (.aload_n 0, 1) := by decide +kernel
theorem dX9_root_59 : decode cX9_root 59 = .ok (.getfield 26, 3) := by decide +kernel
theorem dX9_root_62 : decode cX9_root 62 = .ok (.aload_n 0, 1) := by decide +kernel
theorem dX9_root_63 : decode cX9_root 63 = .ok (.getfield 60, 3) := by decide +kernel
theorem dX9_root_66 : decode cX9_root 66 = .ok (.iload_n 1, 1) := by decide +kernel
theorem dX9_root_67 : decode cX9_root 67 = .ok (.aaload, 1) := by decide +kernel
theorem dX9_root_68 : decode cX9_root 68 = .ok (.invokevirtual 219, 3) := by decide +kernel
theorem dX9_root_71 : decode cX9_root 71 = .ok (.lreturn, 1) := by decide +kernel
theorem dX9_claim_0 : decode cX9_claim 0 = .ok (.iload_n 2, 1) := by decide +kernel
theorem dX9_claim_1 : decode cX9_claim 1 = .ok (.iconst 1, 1) := by decide +kernel
theorem dX9_claim_2 : decode cX9_claim 2 = .ok (.if_icmp .lt 9, 3) := by decide +kernel
theorem dX9_claim_5 : decode cX9_claim 5 = .ok (.iload_n 2, 1) := by decide +kernel
theorem dX9_claim_6 : decode cX9_claim 6 = .ok (.bipush 20, 2) := by decide +kernel
theorem dX9_claim_8 : decode cX9_claim 8 = .ok (.if_icmp .le 6, 3) := by decide +kernel
theorem dX9_claim_11 : decode cX9_claim 11 = .ok (.bipush (-2), 2) := by decide +kernel
theorem dX9_claim_13 : decode cX9_claim 13 = .ok (.ireturn, 1) := by decide +kernel
theorem dX9_claim_14 : decode cX9_claim 14 = .ok (.aload_n 0, 1) := by decide +kernel
theorem dX9_claim_15 : decode cX9_claim 15 = .ok (.getfield 26, 3) := by decide +kernel
theorem dX9_claim_18 : decode cX9_claim 18 = .ok (.aload_n 0, 1) := by decide +kernel
theorem dX9_claim_19 : decode cX9_claim 19 = .ok (.getfield 12, 3) := by decide +kernel
theorem dX9_claim_22 : decode cX9_claim 22 = .ok (.invokevirtual 141, 3) := by decide +kernel
theorem dX9_claim_25 : decode cX9_claim 25 = .ok (.iload_n 1, 1) := by decide +kernel
theorem dX9_claim_26 : decode cX9_claim 26 = .ok (.istore_n 3, 1) := by decide +kernel
theorem dX9_claim_27 : decode cX9_claim 27 = .ok (.iconst 0, 1) := by decide +kernel
theorem dX9_claim_28 : decode cX9_claim 28 = .ok (.istore 4, 2) := by decide +kernel
theorem dX9_claim_30 : decode cX9_claim 30 = .ok (.iconst 0, 1) := by decide +kernel
theorem dX9_claim_31 : decode cX9_claim 31 = .ok (.istore 5, 2) := by decide +kernel
theorem dX9_claim_33 : decode cX9_claim 33 = .ok (.iload 5, 2) := by decide +kernel
theorem dX9_claim_35 : decode cX9_claim 35 = .ok (.iload_n 2, 1) := by decide +kernel
theorem dX9_claim_36 : decode cX9_claim 36 = .ok (.if_icmp .ge 37, 3) := by decide +kernel
theorem dX9_claim_39 : decode cX9_claim 39 = .ok (.aload_n 0, 1) := by decide +kernel
theorem dX9_claim_40 : decode cX9_claim 40 = .ok (.iload_n 3, 1) := by decide +kernel
theorem dX9_claim_41 : decode cX9_claim 41 = .ok (.invokevirtual 223, 3) := by decide +kernel
theorem dX9_claim_44 : decode cX9_claim 44 = .ok (.istore_n 3, 1) := by decide +kernel
theorem dX9_claim_45 : decode cX9_claim 45 = .ok (.iload 4, 2) := by decide +kernel
theorem dX9_claim_47 : decode cX9_claim 47 = .ok (.aload_n 0, 1) := by decide +kernel
theorem dX9_claim_48 : decode cX9_claim 48 = .ok (.getfield 40, 3) := by decide +kernel
theorem dX9_claim_51 : decode cX9_claim 51 = .ok (.aload_n 0, 1) := by decide +kernel
theorem dX9_claim_52 : decode cX9_claim 52 = .ok (.getfield 26, 3) := by decide +kernel
theorem dX9_claim_55 : decode cX9_claim 55 = .ok (.aload_n 0, 1) := by decide +kernel
theorem dX9_claim_56 : decode cX9_claim 56 = .ok (.getfield 74, 3) := by decide +kernel
theorem dX9_claim_59 : decode cX9_claim 59 = .ok (.invokevirtual 209, 3) := by decide +kernel
theorem dX9_claim_62 : decode cX9_claim 62 = .ok (.invokestatic 226, 3) := by decide +kernel
theorem dX9_claim_65 : decode cX9_claim 65 = .ok (.istore 4, 2) := by decide +kernel
theorem dX9_claim_67 : decode cX9_claim 67 = .ok (.iinc 5 1, 3) := by decide +kernel
theorem dX9_claim_70 : decode cX9_claim 70 = .ok (.goto (-37), 3) := by decide +kernel
theorem dX9_claim_73 : decode cX9_claim 73 = .ok (.iload 4, 2) := by decide +kernel
theorem dX9_claim_75 : decode cX9_claim 75 = .ok (.ireturn, 1) := by decide +kernel
theorem dX9_sure_0 : decode cX9_sure 0 = .ok (.iload_n 2, 1) := by decide +kernel
theorem dX9_sure_1 : decode cX9_sure 1 = .ok (.iconst 1, 1) := by decide +kernel
theorem dX9_sure_2 : decode cX9_sure 2 = .ok (.if_icmp .lt 9, 3) := by decide +kernel
theorem dX9_sure_5 : decode cX9_sure 5 = .ok (.iload_n 2, 1) := by decide +kernel
theorem dX9_sure_6 : decode cX9_sure 6 = .ok (.bipush 20, 2) := by decide +kernel
theorem dX9_sure_8 : decode cX9_sure 8 = .ok (.if_icmp .le 6, 3) := by decide +kernel
theorem dX9_sure_11 : decode cX9_sure 11 = .ok (.bipush (-2), 2) := by decide +kernel
theorem dX9_sure_13 : decode cX9_sure 13 = .ok (.ireturn, 1) := by decide +kernel
theorem dX9_sure_14 : decode cX9_sure 14 = .ok (.aload_n 0, 1) := by decide +kernel
theorem dX9_sure_15 : decode cX9_sure 15 = .ok (.invokevirtual 166, 3) := by decide +kernel
theorem dX9_sure_18 : decode cX9_sure 18 = .ok (.aload_n 0, 1) := by decide +kernel
theorem dX9_sure_19 : decode cX9_sure 19 = .ok (.getfield 33, 3) := by decide +kernel
theorem dX9_sure_22 : decode cX9_sure 22 = .ok (.invokevirtual 169, 3) := by decide +kernel
theorem dX9_sure_25 : decode cX9_sure 25 = .ok (.istore_n 3, 1) := by decide +kernel
theorem dX9_sure_26 : decode cX9_sure 26 = .ok (.iload_n 1, 1) := by decide +kernel
theorem dX9_sure_27 : decode cX9_sure 27 = .ok (.istore 4, 2) := by decide +kernel
theorem dX9_sure_29 : decode cX9_sure 29 = .ok (.iconst 0, 1) := by decide +kernel
theorem dX9_sure_30 : decode cX9_sure 30 = .ok (.istore 5, 2) := by decide +kernel
theorem dX9_sure_32 : decode cX9_sure 32 = .ok (.iconst 0, 1) := by decide +kernel
theorem dX9_sure_33 : decode cX9_sure 33 = .ok (.istore 6, 2) := by decide +kernel
theorem dX9_sure_35 : decode cX9_sure 35 = .ok (.iload 6, 2) := by decide +kernel
theorem dX9_sure_37 : decode cX9_sure 37 = .ok (.iload_n 2, 1) := by decide +kernel
theorem dX9_sure_38 : decode cX9_sure 38 = .ok (.if_icmp .ge 39, 3) := by decide +kernel
theorem dX9_sure_41 : decode cX9_sure 41 = .ok (.aload_n 0, 1) := by decide +kernel
theorem dX9_sure_42 : decode cX9_sure 42 = .ok (.iload 4, 2) := by decide +kernel
theorem dX9_sure_44 : decode cX9_sure 44 = .ok (.invokevirtual 223, 3) := by decide +kernel
theorem dX9_sure_47 : decode cX9_sure 47 = .ok (.istore 4, 2) := by decide +kernel
theorem dX9_sure_49 : decode cX9_sure 49 = .ok (.aload_n 0, 1) := by decide +kernel
theorem dX9_sure_50 : decode cX9_sure 50 = .ok (.getfield 40, 3) := by decide +kernel
theorem dX9_sure_53 : decode cX9_sure 53 = .ok (.aload_n 0, 1) := by decide +kernel
theorem dX9_sure_54 : decode cX9_sure 54 = .ok (.getfield 26, 3) := by decide +kernel
theorem dX9_sure_57 : decode cX9_sure 57 = .ok (.aload_n 0, 1) := by decide +kernel
theorem dX9_sure_58 : decode cX9_sure 58 = .ok (.getfield 74, 3) := by decide +kernel
theorem dX9_sure_61 : decode cX9_sure 61 = .ok (.invokevirtual 209, 3) := by decide +kernel
theorem dX9_sure_64 : decode cX9_sure 64 = .ok (.iload_n 3, 1) := by decide +kernel
theorem dX9_sure_65 : decode cX9_sure 65 = .ok (.if_icmp .ne 6, 3) := by decide +kernel
theorem dX9_sure_68 : decode cX9_sure 68 = .ok (.iinc 5 1, 3) := by decide +kernel
theorem dX9_sure_71 : decode cX9_sure 71 = .ok (.iinc 6 1, 3) := by decide +kernel
theorem dX9_sure_74 : decode cX9_sure 74 = .ok (.goto (-39), 3) := by decide +kernel
theorem dX9_sure_77 : decode cX9_sure 77 = .ok (.iload 5, 2) := by decide +kernel
theorem dX9_sure_79 : decode cX9_sure 79 = .ok (.ireturn, 1) := by decide +kernel
theorem dX9_cover_0 : decode cX9_cover 0 = .ok (.iload_n 1, 1) := by decide +kernel
theorem dX9_cover_1 : decode cX9_cover 1 = .ok (.invokestatic 194, 3) := by decide +kernel
theorem dX9_cover_4 : decode cX9_cover 4 = .ok (.ifCond .eq 20, 3) := by decide +kernel
theorem dX9_cover_7 : decode cX9_cover 7 = .ok (.iload_n 2, 1) := by decide +kernel
theorem dX9_cover_8 : decode cX9_cover 8 = .ok (.ifCond .lt 16, 3) := by decide +kernel
theorem dX9_cover_11 : decode cX9_cover 11 = .ok (.iload_n 2, 1) := by decide +kernel
theorem dX9_cover_12 : decode cX9_cover 12 = .ok (.iconst 1, 1) := by decide +kernel
theorem dX9_cover_13 : decode cX9_cover 13 = .ok (.aload_n 0, 1) := by decide +kernel
theorem dX9_cover_14 : decode cX9_cover 14 = .ok (.getfield 12, 3) := by decide +kernel
theorem dX9_cover_17 : decode cX9_cover 17 = .ok (.getfield 90, 3) := by decide +kernel
theorem dX9_cover_20 : decode cX9_cover 20 = .ok (.ishl, 1) := by decide +kernel
theorem dX9_cover_21 : decode cX9_cover 21 = .ok (.if_icmp .lt 6, 3) := by decide +kernel
theorem dX9_cover_24 : decode cX9_cover 24 = .ok (.bipush (-2), 2) := by decide +kernel
theorem dX9_cover_26 : decode cX9_cover 26 = .ok (.ireturn, 1) := by decide +kernel
theorem dX9_cover_27 : decode cX9_cover 27 = .ok (.aload_n 0, 1) := by decide +kernel
theorem dX9_cover_28 : decode cX9_cover 28 = .ok (.getfield 60, 3) := by decide +kernel
theorem dX9_cover_31 : decode cX9_cover 31 = .ok (.iload_n 1, 1) := by decide +kernel
theorem dX9_cover_32 : decode cX9_cover 32 = .ok (.aaload, 1) := by decide +kernel
theorem dX9_cover_33 : decode cX9_cover 33 = .ok (.invokevirtual 197, 3) := by decide +kernel
theorem dX9_cover_36 : decode cX9_cover 36 = .ok (.ifCond .eq 6, 3) := by decide +kernel
theorem dX9_cover_39 : decode cX9_cover 39 = .ok (.bipush (-11), 2) := by decide +kernel
theorem dX9_cover_41 : decode cX9_cover 41 = .ok (.ireturn, 1) := by decide +kernel
theorem dX9_cover_42 : decode cX9_cover 42 = .ok (.aload_n 0, 1) := by decide +kernel
theorem dX9_cover_43 : decode cX9_cover 43 = .ok (.getfield 26, 3) := by decide +kernel
theorem dX9_cover_46 : decode cX9_cover 46 = .ok (.aload_n 0, 1) := by decide +kernel
theorem dX9_cover_47 : decode cX9_cover 47 = .ok (.getfield 12, 3) := by decide +kernel
theorem dX9_cover_50 : decode cX9_cover 50 = .ok (.invokevirtual 141, 3) := by decide +kernel
theorem dX9_cover_53 : decode cX9_cover 53 = .ok (.aload_n 0, 1) := by decide +kernel
theorem dX9_cover_54 : decode cX9_cover 54 = .ok (.aload_n 0, 1) := by decide +kernel
theorem dX9_cover_55 : decode cX9_cover 55 = .ok (.getfield 60, 3) := by decide +kernel
theorem dX9_cover_58 : decode cX9_cover 58 = .ok (.iload_n 1, 1) := by decide +kernel
theorem dX9_cover_59 : decode cX9_cover 59 = .ok (.aaload, 1) := by decide +kernel
theorem dX9_cover_60 : decode cX9_cover 60 = .ok (.invokevirtual 231, 3) := by decide +kernel
theorem dX9_cover_63 : decode cX9_cover 63 = .ok (.aload_n 0, 1) := by decide +kernel
theorem dX9_cover_64 : decode cX9_cover 64 = .ok (.getfield 26, 3) := by decide +kernel
theorem dX9_cover_67 : decode cX9_cover 67 = .ok (.iload_n 2, 1) := by decide +kernel
theorem dX9_cover_68 : decode cX9_cover 68 = .ok (.aload_n 0, 1) := by decide +kernel
theorem dX9_cover_69 : decode cX9_cover 69 = .ok (.getfield 77, 3) := by decide +kernel
theorem dX9_cover_72 : decode cX9_cover 72 = .ok (.invokevirtual 234, 3) := by decide +kernel
theorem dX9_cover_75 : decode cX9_cover 75 = .ok (.ireturn, 1) := by decide +kernel
theorem dX9_cheap_0 : decode cX9_cheap 0 = .ok (.iload_n 1, 1) := by decide +kernel
theorem dX9_cheap_1 : decode cX9_cheap 1 = .ok (.invokestatic 117, 3) := by decide +kernel
theorem dX9_cheap_4 : decode cX9_cheap 4 = .ok (.ifCond .eq 10, 3) := by decide +kernel
theorem dX9_cheap_7 : decode cX9_cheap 7 = .ok (.iload_n 2, 1) := by decide +kernel
theorem dX9_cheap_8 : decode cX9_cheap 8 = .ok (.invokestatic 117, 3) := by decide +kernel
theorem dX9_cheap_11 : decode cX9_cheap 11 = .ok (.ifCond .ne 6, 3) := by decide +kernel
theorem dX9_cheap_14 : decode cX9_cheap 14 = .ok (.bipush (-2), 2) := by decide +kernel
theorem dX9_cheap_16 : decode cX9_cheap 16 = .ok (.ireturn, 1) := by decide +kernel
theorem dX9_cheap_17 : decode cX9_cheap 17 = .ok (.aload_n 0, 1) := by decide +kernel
theorem dX9_cheap_18 : decode cX9_cheap 18 = .ok (.getfield 26, 3) := by decide +kernel
theorem dX9_cheap_21 : decode cX9_cheap 21 = .ok (.aload_n 0, 1) := by decide +kernel
theorem dX9_cheap_22 : decode cX9_cheap 22 = .ok (.getfield 12, 3) := by decide +kernel
theorem dX9_cheap_25 : decode cX9_cheap 25 = .ok (.invokevirtual 141, 3) := by decide +kernel
theorem dX9_cheap_28 : decode cX9_cheap 28 = .ok (.iconst 0, 1) := by decide +kernel
theorem dX9_cheap_29 : decode cX9_cheap 29 = .ok (.istore_n 3, 1) := by decide +kernel
theorem dX9_cheap_30 : decode cX9_cheap 30 = .ok (.iload_n 3, 1) := by decide +kernel
theorem dX9_cheap_31 : decode cX9_cheap 31 = .ok (.aload_n 0, 1) := by decide +kernel
theorem dX9_cheap_32 : decode cX9_cheap 32 = .ok (.getfield 12, 3) := by decide +kernel
theorem dX9_cheap_35 : decode cX9_cheap 35 = .ok (.getfield 107, 3) := by decide +kernel
theorem dX9_cheap_38 : decode cX9_cheap 38 = .ok (.if_icmp .ge 24, 3) := by decide +kernel
theorem dX9_cheap_41 : decode cX9_cheap 41 = .ok (.aload_n 0, 1) := by decide +kernel
theorem dX9_cheap_42 : decode cX9_cheap 42 = .ok (.getfield 77, 3) := by decide +kernel
theorem dX9_cheap_45 : decode cX9_cheap 45 = .ok (.iload_n 3, 1) := by decide +kernel
theorem dX9_cheap_46 : decode cX9_cheap 46 = .ok (.iload_n 1, 1) := by decide +kernel
theorem dX9_cheap_47 : decode cX9_cheap 47 = .ok (.ifCond .ne 7, 3) := by decide +kernel
theorem dX9_cheap_50 : decode cX9_cheap 50 = .ok (.iconst 0, 1) := by decide +kernel
theorem dX9_cheap_51 : decode cX9_cheap 51 = .ok (.goto 4, 3) := by decide +kernel
theorem dX9_cheap_54 : decode cX9_cheap 54 = .ok (.iload_n 3, 1) := by decide +kernel
theorem dX9_cheap_55 : decode cX9_cheap 55 = .ok (.iastore, 1) := by decide +kernel
theorem dX9_cheap_56 : decode cX9_cheap 56 = .ok (.iinc 3 1, 3) := by decide +kernel
theorem dX9_cheap_59 : decode cX9_cheap 59 = .ok (.goto (-29), 3) := by decide +kernel
theorem dX9_cheap_62 : decode cX9_cheap 62 = .ok (.iconst 0, 1) := by decide +kernel
theorem dX9_cheap_63 : decode cX9_cheap 63 = .ok (.istore_n 3, 1) := by decide +kernel
theorem dX9_cheap_64 : decode cX9_cheap 64 = .ok (.aload_n 0, 1) := by decide +kernel
theorem dX9_cheap_65 : decode cX9_cheap 65 = .ok (.getfield 26, 3) := by decide +kernel
theorem dX9_cheap_68 : decode cX9_cheap 68 = .ok (.iconst 0, 1) := by decide +kernel
theorem dX9_cheap_69 : decode cX9_cheap 69 = .ok (.aload_n 0, 1) := by decide +kernel
theorem dX9_cheap_70 : decode cX9_cheap 70 = .ok (.getfield 77, 3) := by decide +kernel
theorem dX9_cheap_73 : decode cX9_cheap 73 = .ok (.invokevirtual 234, 3) := by decide +kernel
theorem dX9_cheap_76 : decode cX9_cheap 76 = .ok (.istore 4, 2) := by decide +kernel
theorem dX9_cheap_78 : decode cX9_cheap 78 = .ok (.iconst 1, 1) := by decide +kernel
theorem dX9_cheap_79 : decode cX9_cheap 79 = .ok (.istore 5, 2) := by decide +kernel
theorem dX9_cheap_81 : decode cX9_cheap 81 = .ok (.iload 5, 2) := by decide +kernel
theorem dX9_cheap_83 : decode cX9_cheap 83 = .ok (.iconst 1, 1) := by decide +kernel
theorem dX9_cheap_84 : decode cX9_cheap 84 = .ok (.aload_n 0, 1) := by decide +kernel
theorem dX9_cheap_85 : decode cX9_cheap 85 = .ok (.getfield 12, 3) := by decide +kernel
theorem dX9_cheap_88 : decode cX9_cheap 88 = .ok (.getfield 90, 3) := by decide +kernel
theorem dX9_cheap_91 : decode cX9_cheap 91 = .ok (.ishl, 1) := by decide +kernel
theorem dX9_cheap_92 : decode cX9_cheap 92 = .ok (.if_icmp .ge 48, 3) := by decide +kernel
theorem dX9_cheap_95 : decode cX9_cheap 95 = .ok (.iload 5, 2) := by decide +kernel
theorem dX9_cheap_97 : decode cX9_cheap 97 = .ok (.invokestatic 180, 3) := by decide +kernel
theorem dX9_cheap_100 : decode cX9_cheap 100 = .ok (.iload 4, 2) := by decide +kernel
theorem dX9_cheap_102 : decode cX9_cheap 102 = .ok (.if_icmp .ge 32, 3) := by decide +kernel
theorem dX9_cheap_105 : decode cX9_cheap 105 = .ok (.aload_n 0, 1) := by decide +kernel
theorem dX9_cheap_106 : decode cX9_cheap 106 = .ok (.getfield 26, 3) := by decide +kernel
theorem dX9_cheap_109 : decode cX9_cheap 109 = .ok (.iload 5, 2) := by decide +kernel
theorem dX9_cheap_111 : decode cX9_cheap 111 = .ok (.aload_n 0, 1) := by decide +kernel
theorem dX9_cheap_112 : decode cX9_cheap 112 = .ok (.getfield 77, 3) := by decide +kernel
theorem dX9_cheap_115 : decode cX9_cheap 115 = .ok (.invokevirtual 234, 3) := by decide +kernel
theorem dX9_cheap_118 : decode cX9_cheap 118 = .ok (.istore 6, 2) := by decide +kernel
theorem dX9_cheap_120 : decode cX9_cheap 120 = .ok (.iload 6, 2) := by decide +kernel
theorem dX9_cheap_122 : decode cX9_cheap 122 = .ok (.iload 4, 2) := by decide +kernel
theorem dX9_cheap_124 : decode cX9_cheap 124 = .ok (.if_icmp .ge 10, 3) := by decide +kernel
theorem dX9_cheap_127 : decode cX9_cheap 127 = .ok (.iload 6, 2) := by decide +kernel
theorem dX9_cheap_129 : decode cX9_cheap 129 = .ok (.istore 4, 2) := by decide +kernel
theorem dX9_cheap_131 : decode cX9_cheap 131 = .ok (.iload 5, 2) := by decide +kernel
theorem dX9_cheap_133 : decode cX9_cheap 133 = .ok (.istore_n 3, 1) := by decide +kernel
theorem dX9_cheap_134 : decode cX9_cheap 134 = .ok (.iinc 5 1, 3) := by decide +kernel
theorem dX9_cheap_137 : decode cX9_cheap 137 = .ok (.goto (-56), 3) := by decide +kernel
theorem dX9_cheap_140 : decode cX9_cheap 140 = .ok (.iload_n 2, 1) := by decide +kernel
theorem dX9_cheap_141 : decode cX9_cheap 141 = .ok (.ifCond .ne 8, 3) := by decide +kernel
theorem dX9_cheap_144 : decode cX9_cheap 144 = .ok (.iload 4, 2) := by decide +kernel
theorem dX9_cheap_146 : decode cX9_cheap 146 = .ok (.goto 4, 3) := by decide +kernel
theorem dX9_cheap_149 : decode cX9_cheap 149 = .ok (.iload_n 3, 1) := by decide +kernel
theorem dX9_cheap_150 : decode cX9_cheap 150 = .ok (.ireturn, 1) := by decide +kernel
theorem dX9_rays_0 : decode cX9_rays 0 = .ok (.aload_n 0, 1) := by decide +kernel
theorem dX9_rays_1 : decode cX9_rays 1 = .ok (.invokevirtual 238, 3) := by decide +kernel
theorem dX9_rays_4 : decode cX9_rays 4 = .ok (.aload_n 0, 1) := by decide +kernel
theorem dX9_rays_5 : decode cX9_rays 5 = .ok (.getfield 54, 3) := by decide +kernel
theorem dX9_rays_8 : decode cX9_rays 8 = .ok (.getfield 241, 3) := by decide +kernel
theorem dX9_rays_11 : decode cX9_rays 11 = .ok (.ireturn, 1) := by decide +kernel
theorem dX9_ray_0 : decode cX9_ray 0 = .ok (.aload_n 0, 1) := by decide +kernel
theorem dX9_ray_1 : decode cX9_ray 1 = .ok (.invokevirtual 238, 3) := by decide +kernel
theorem dX9_ray_4 : decode cX9_ray 4 = .ok (.aload_n 0, 1) := by decide +kernel
theorem dX9_ray_5 : decode cX9_ray 5 = .ok (.getfield 54, 3) := by decide +kernel
theorem dX9_ray_8 : decode cX9_ray 8 = .ok (.iload_n 1, 1) := by decide +kernel
theorem dX9_ray_9 : decode cX9_ray 9 = .ok (.invokevirtual 244, 3) := by decide +kernel
theorem dX9_ray_12 : decode cX9_ray 12 = .ok (.ifCond .eq 15, 3) := by decide +kernel
theorem dX9_ray_15 : decode cX9_ray 15 = .ok (.aload_n 0, 1) := by decide +kernel
theorem dX9_ray_16 : decode cX9_ray 16 = .ok (.getfield 54, 3) := by decide +kernel
theorem dX9_ray_19 : decode cX9_ray 19 = .ok (.getfield 245, 3) := by decide +kernel
theorem dX9_ray_22 : decode cX9_ray 22 = .ok (.iload_n 1, 1) := by decide +kernel
theorem dX9_ray_23 : decode cX9_ray 23 = .ok (.laload, 1) := by decide +kernel
theorem dX9_ray_24 : decode cX9_ray 24 = .ok (.goto 6, 3) := by decide +kernel
theorem dX9_ray_27 : decode cX9_ray 27 = .ok (.ldc2_w 158, 3) := by decide +kernel
theorem dX9_ray_30 : decode cX9_ray 30 = .ok (.lreturn, 1) := by decide +kernel
theorem dX9_rayOf_0 : decode cX9_rayOf 0 = .ok (.aload_n 0, 1) := by decide +kernel
theorem dX9_rayOf_1 : decode cX9_rayOf 1 = .ok (.getfield 12, 3) := by decide +kernel
theorem dX9_rayOf_4 : decode cX9_rayOf 4 = .ok (.iload_n 1, 1) := by decide +kernel
theorem dX9_rayOf_5 : decode cX9_rayOf 5 = .ok (.invokevirtual 114, 3) := by decide +kernel
theorem dX9_rayOf_8 : decode cX9_rayOf 8 = .ok (.ifCond .eq 10, 3) := by decide +kernel
theorem dX9_rayOf_11 : decode cX9_rayOf 11 = .ok (.iload_n 2, 1) := by decide +kernel
theorem dX9_rayOf_12 : decode cX9_rayOf 12 = .ok (.invokestatic 117, 3) := by decide +kernel
theorem dX9_rayOf_15 : decode cX9_rayOf 15 = .ok (.ifCond .ne 6, 3) := by decide +kernel
theorem dX9_rayOf_18 : decode cX9_rayOf 18 = .ok (.bipush (-2), 2) := by decide +kernel
theorem dX9_rayOf_20 : decode cX9_rayOf 20 = .ok (.ireturn, 1) := by decide +kernel
theorem dX9_rayOf_21 : decode cX9_rayOf 21 = .ok (.aload_n 0, 1) := by decide +kernel
theorem dX9_rayOf_22 : decode cX9_rayOf 22 = .ok (.invokevirtual 238, 3) := by decide +kernel
theorem dX9_rayOf_25 : decode cX9_rayOf 25 = .ok (.aload_n 0, 1) := by decide +kernel
theorem dX9_rayOf_26 : decode cX9_rayOf 26 = .ok (.getfield 54, 3) := by decide +kernel
theorem dX9_rayOf_29 : decode cX9_rayOf 29 = .ok (.aload_n 0, 1) := by decide +kernel
theorem dX9_rayOf_30 : decode cX9_rayOf 30 = .ok (.getfield 26, 3) := by decide +kernel
theorem dX9_rayOf_33 : decode cX9_rayOf 33 = .ok (.iload_n 1, 1) := by decide +kernel
theorem dX9_rayOf_34 : decode cX9_rayOf 34 = .ok (.bipush 12, 2) := by decide +kernel
theorem dX9_rayOf_36 : decode cX9_rayOf 36 = .ok (.imul, 1) := by decide +kernel
theorem dX9_rayOf_37 : decode cX9_rayOf 37 = .ok (.iload_n 2, 1) := by decide +kernel
theorem dX9_rayOf_38 : decode cX9_rayOf 38 = .ok (.bipush 6, 2) := by decide +kernel
theorem dX9_rayOf_40 : decode cX9_rayOf 40 = .ok (.imul, 1) := by decide +kernel
theorem dX9_rayOf_41 : decode cX9_rayOf 41 = .ok (.iadd, 1) := by decide +kernel
theorem dX9_rayOf_42 : decode cX9_rayOf 42 = .ok (.invokevirtual 248, 3) := by decide +kernel
theorem dX9_rayOf_45 : decode cX9_rayOf 45 = .ok (.lstore_n 3, 1) := by decide +kernel
theorem dX9_rayOf_46 : decode cX9_rayOf 46 = .ok (.lload_n 3, 1) := by decide +kernel
theorem dX9_rayOf_47 : decode cX9_rayOf 47 = .ok (.lconst 0, 1) := by decide +kernel
theorem dX9_rayOf_48 : decode cX9_rayOf 48 = .ok (.lcmp, 1) := by decide +kernel
theorem dX9_rayOf_49 : decode cX9_rayOf 49 = .ok (.ifCond .ne 7, 3) := by decide +kernel
theorem dX9_rayOf_52 : decode cX9_rayOf 52 = .ok (.iconst (-1), 1) := by decide +kernel
theorem dX9_rayOf_53 : decode cX9_rayOf 53 = .ok (.goto 11, 3) := by decide +kernel
theorem dX9_rayOf_56 : decode cX9_rayOf 56 = .ok (.aload_n 0, 1) := by decide +kernel
theorem dX9_rayOf_57 : decode cX9_rayOf 57 = .ok (.getfield 54, 3) := by decide +kernel
theorem dX9_rayOf_60 : decode cX9_rayOf 60 = .ok (.lload_n 3, 1) := by decide +kernel
theorem dX9_rayOf_61 : decode cX9_rayOf 61 = .ok (.invokevirtual 252, 3) := by decide +kernel
theorem dX9_rayOf_64 : decode cX9_rayOf 64 = .ok (.ireturn, 1) := by decide +kernel
theorem dX9_link_0 : decode cX9_link 0 = .ok (.iload_n 1, 1) := by decide +kernel
theorem dX9_link_1 : decode cX9_link 1 = .ok (.invokestatic 255, 3) := by decide +kernel
theorem dX9_link_4 : decode cX9_link 4 = .ok (.ifCond .eq 22, 3) := by decide +kernel
theorem dX9_link_7 : decode cX9_link 7 = .ok (.iload_n 2, 1) := by decide +kernel
theorem dX9_link_8 : decode cX9_link 8 = .ok (.invokestatic 255, 3) := by decide +kernel
theorem dX9_link_11 : decode cX9_link 11 = .ok (.ifCond .eq 15, 3) := by decide +kernel
theorem dX9_link_14 : decode cX9_link 14 = .ok (.iload_n 1, 1) := by decide +kernel
theorem dX9_link_15 : decode cX9_link 15 = .ok (.iload_n 2, 1) := by decide +kernel
theorem dX9_link_16 : decode cX9_link 16 = .ok (.if_icmp .eq 10, 3) := by decide +kernel
theorem dX9_link_19 : decode cX9_link 19 = .ok (.iload_n 3, 1) := by decide +kernel
theorem dX9_link_20 : decode cX9_link 20 = .ok (.invokestatic 117, 3) := by decide +kernel
theorem dX9_link_23 : decode cX9_link 23 = .ok (.ifCond .ne 6, 3) := by decide +kernel
theorem dX9_link_26 : decode cX9_link 26 = .ok (.bipush (-2), 2) := by decide +kernel
theorem dX9_link_28 : decode cX9_link 28 = .ok (.ireturn, 1) := by decide +kernel
theorem dX9_link_29 : decode cX9_link 29 = .ok (.aload_n 0, 1) := by decide +kernel
theorem dX9_link_30 : decode cX9_link 30 = .ok (.getfield 12, 3) := by decide +kernel
theorem dX9_link_33 : decode cX9_link 33 = .ok (.getfield 258, 3) := by decide +kernel
theorem dX9_link_36 : decode cX9_link 36 = .ok (.iload_n 1, 1) := by decide +kernel
theorem dX9_link_37 : decode cX9_link 37 = .ok (.iaload, 1) := by decide +kernel
theorem dX9_link_38 : decode cX9_link 38 = .ok (.iload_n 2, 1) := by decide +kernel
theorem dX9_link_39 : decode cX9_link 39 = .ok (.ishr, 1) := by decide +kernel
theorem dX9_link_40 : decode cX9_link 40 = .ok (.iconst 1, 1) := by decide +kernel
theorem dX9_link_41 : decode cX9_link 41 = .ok (.iand, 1) := by decide +kernel
theorem dX9_link_42 : decode cX9_link 42 = .ok (.istore 4, 2) := by decide +kernel
theorem dX9_link_44 : decode cX9_link 44 = .ok (.iload_n 3, 1) := by decide +kernel
theorem dX9_link_45 : decode cX9_link 45 = .ok (.iconst 1, 1) := by decide +kernel
theorem dX9_link_46 : decode cX9_link 46 = .ok (.if_icmp .ne 35, 3) := by decide +kernel
theorem dX9_link_49 : decode cX9_link 49 = .ok (.iload 4, 2) := by decide +kernel
theorem dX9_link_51 : decode cX9_link 51 = .ok (.ifCond .ne 30, 3) := by decide +kernel
theorem dX9_link_54 : decode cX9_link 54 = .ok (.aload_n 0, 1) := by decide +kernel
theorem dX9_link_55 : decode cX9_link 55 = .ok (.getfield 12, 3) := by decide +kernel
theorem dX9_link_58 : decode cX9_link 58 = .ok (.iload_n 1, 1) := by decide +kernel
theorem dX9_link_59 : decode cX9_link 59 = .ok (.invokevirtual 261, 3) := by decide +kernel
theorem dX9_link_62 : decode cX9_link 62 = .ok (.iconst 3, 1) := by decide +kernel
theorem dX9_link_63 : decode cX9_link 63 = .ok (.if_icmp .ge 15, 3) := by decide +kernel
theorem dX9_link_66 : decode cX9_link 66 = .ok (.aload_n 0, 1) := by decide +kernel
theorem dX9_link_67 : decode cX9_link 67 = .ok (.getfield 12, 3) := by decide +kernel
theorem dX9_link_70 : decode cX9_link 70 = .ok (.iload_n 2, 1) := by decide +kernel
theorem dX9_link_71 : decode cX9_link 71 = .ok (.invokevirtual 261, 3) := by decide +kernel
theorem dX9_link_74 : decode cX9_link 74 = .ok (.iconst 3, 1) := by decide +kernel
theorem dX9_link_75 : decode cX9_link 75 = .ok (.if_icmp .lt 6, 3) := by decide +kernel
theorem dX9_link_78 : decode cX9_link 78 = .ok (.bipush (-3), 2) := by decide +kernel
theorem dX9_link_80 : decode cX9_link 80 = .ok (.ireturn, 1) := by decide +kernel
theorem dX9_link_81 : decode cX9_link 81 = .ok (.iload_n 3, 1) := by decide +kernel
theorem dX9_link_82 : decode cX9_link 82 = .ok (.iload 4, 2) := by decide +kernel
theorem dX9_link_84 : decode cX9_link 84 = .ok (.if_icmp .eq 33, 3) := by decide +kernel
theorem dX9_link_87 : decode cX9_link 87 = .ok (.aload_n 0, 1) := by decide +kernel
theorem dX9_link_88 : decode cX9_link 88 = .ok (.getfield 12, 3) := by decide +kernel
theorem dX9_link_91 : decode cX9_link 91 = .ok (.getfield 258, 3) := by decide +kernel
theorem dX9_link_94 : decode cX9_link 94 = .ok (.iload_n 1, 1) := by decide +kernel
theorem dX9_link_95 : decode cX9_link 95 = .ok (.dup2, 1) := by decide +kernel
theorem dX9_link_96 : decode cX9_link 96 = .ok (.iaload, 1) := by decide +kernel
theorem dX9_link_97 : decode cX9_link 97 = .ok (.iconst 1, 1) := by decide +kernel
theorem dX9_link_98 : decode cX9_link 98 = .ok (.iload_n 2, 1) := by decide +kernel
theorem dX9_link_99 : decode cX9_link 99 = .ok (.ishl, 1) := by decide +kernel
theorem dX9_link_100 : decode cX9_link 100 = .ok (.ixor, 1) := by decide +kernel
theorem dX9_link_101 : decode cX9_link 101 = .ok (.iastore, 1) := by decide +kernel
theorem dX9_link_102 : decode cX9_link 102 = .ok (.aload_n 0, 1) := by decide +kernel
theorem dX9_link_103 : decode cX9_link 103 = .ok (.getfield 12, 3) := by decide +kernel
theorem dX9_link_106 : decode cX9_link 106 = .ok (.getfield 258, 3) := by decide +kernel
theorem dX9_link_109 : decode cX9_link 109 = .ok (.iload_n 2, 1) := by decide +kernel
theorem dX9_link_110 : decode cX9_link 110 = .ok (.dup2, 1) := by decide +kernel
theorem dX9_link_111 : decode cX9_link 111 = .ok (.iaload, 1) := by decide +kernel
theorem dX9_link_112 : decode cX9_link 112 = .ok (.iconst 1, 1) := by decide +kernel
theorem dX9_link_113 : decode cX9_link 113 = .ok (.iload_n 1, 1) := by decide +kernel
theorem dX9_link_114 : decode cX9_link 114 = .ok (.ishl, 1) := by decide +kernel
theorem dX9_link_115 : decode cX9_link 115 = .ok (.ixor, 1) := by decide +kernel
theorem dX9_link_116 : decode cX9_link 116 = .ok (.iastore, 1) := by decide +kernel
theorem dX9_link_117 : decode cX9_link 117 = .ok (.iload 4, 2) := by decide +kernel
theorem dX9_link_119 : decode cX9_link 119 = .ok (.ireturn, 1) := by decide +kernel
theorem dX9_breaks_0 : decode cX9_breaks 0 = .ok (.iload_n 1, 1) := by decide +kernel
theorem dX9_breaks_1 : decode cX9_breaks 1 = .ok (.ifCond .lt 10, 3) := by decide +kernel
theorem dX9_breaks_4 : decode cX9_breaks 4 = .ok (.iload_n 1, 1) := by decide +kernel
theorem dX9_breaks_5 : decode cX9_breaks 5 = .ok (.sipush 256, 3) := by decide +kernel
theorem dX9_breaks_8 : decode cX9_breaks 8 = .ok (.if_icmp .lt 6, 3) := by decide +kernel
theorem dX9_breaks_11 : decode cX9_breaks 11 = .ok (.bipush (-2), 2) := by decide +kernel
theorem dX9_breaks_13 : decode cX9_breaks 13 = .ok (.ireturn, 1) := by decide +kernel
theorem dX9_breaks_14 : decode cX9_breaks 14 = .ok (.aload_n 0, 1) := by decide +kernel
theorem dX9_breaks_15 : decode cX9_breaks 15 = .ok (.iload_n 1, 1) := by decide +kernel
theorem dX9_breaks_16 : decode cX9_breaks 16 = .ok (.invokevirtual 264, 3) := by decide +kernel
theorem dX9_breaks_19 : decode cX9_breaks 19 = .ok (.ifCond .eq 7, 3) := by decide +kernel
theorem dX9_breaks_22 : decode cX9_breaks 22 = .ok (.iconst 1, 1) := by decide +kernel
theorem dX9_breaks_23 : decode cX9_breaks 23 = .ok (.goto 4, 3) := by decide +kernel
theorem dX9_breaks_26 : decode cX9_breaks 26 = .ok (.iconst 0, 1) := by decide +kernel
theorem dX9_breaks_27 : decode cX9_breaks 27 = .ok (.ireturn, 1) := by decide +kernel
theorem dX9_feedback_0 : decode cX9_feedback 0 = .ok (.iload_n 1, 1) := by decide +kernel
theorem dX9_feedback_1 : decode cX9_feedback 1 = .ok (.ifCond .lt 8, 3) := by decide +kernel
theorem dX9_feedback_4 : decode cX9_feedback 4 = .ok (.iload_n 1, 1) := by decide +kernel
theorem dX9_feedback_5 : decode cX9_feedback 5 = .ok (.iconst 2, 1) := by decide +kernel
theorem dX9_feedback_6 : decode cX9_feedback 6 = .ok (.if_icmp .le 6, 3) := by decide +kernel
theorem dX9_feedback_9 : decode cX9_feedback 9 = .ok (.bipush (-2), 2) := by decide +kernel
theorem dX9_feedback_11 : decode cX9_feedback 11 = .ok (.ireturn, 1) := by decide +kernel
theorem dX9_feedback_12 : decode cX9_feedback 12 = .ok (.bipush 9, 2) := by decide +kernel
theorem dX9_feedback_14 : decode cX9_feedback 14 = .ok (.istore_n 2, 1) := by decide +kernel
theorem dX9_feedback_15 : decode cX9_feedback 15 = .ok (.iconst 0, 1) := by decide +kernel
theorem dX9_feedback_16 : decode cX9_feedback 16 = .ok (.istore_n 3, 1) := by decide +kernel
theorem dX9_feedback_17 : decode cX9_feedback 17 = .ok (.iconst 0, 1) := by decide +kernel
theorem dX9_feedback_18 : decode cX9_feedback 18 = .ok (.istore 4, 2) := by decide +kernel
theorem dX9_feedback_20 : decode cX9_feedback 20 = .ok (.iconst 0, 1) := by decide +kernel
theorem dX9_feedback_21 : decode cX9_feedback 21 = .ok (.istore 5, 2) := by decide +kernel
theorem dX9_feedback_23 : decode cX9_feedback 23 = .ok (.iload 5, 2) := by decide +kernel
theorem dX9_feedback_25 : decode cX9_feedback 25 = .ok (.sipush 256, 3) := by decide +kernel
theorem dX9_feedback_28 : decode cX9_feedback 28 = .ok (.if_icmp .ge 49, 3) := by decide +kernel
theorem dX9_feedback_31 : decode cX9_feedback 31 = .ok (.iload 5, 2) := by decide +kernel
theorem dX9_feedback_33 : decode cX9_feedback 33 = .ok (.invokestatic 180, 3) := by decide +kernel
theorem dX9_feedback_36 : decode cX9_feedback 36 = .ok (.istore 6, 2) := by decide +kernel
theorem dX9_feedback_38 : decode cX9_feedback 38 = .ok (.iload 6, 2) := by decide +kernel
theorem dX9_feedback_40 : decode cX9_feedback 40 = .ok (.iload_n 2, 1) := by decide +kernel
theorem dX9_feedback_41 : decode cX9_feedback 41 = .ok (.if_icmp .gt 30, 3) := by decide +kernel
theorem dX9_feedback_44 : decode cX9_feedback 44 = .ok (.aload_n 0, 1) := by decide +kernel
theorem dX9_feedback_45 : decode cX9_feedback 45 = .ok (.iload 5, 2) := by decide +kernel
theorem dX9_feedback_47 : decode cX9_feedback 47 = .ok (.invokevirtual 264, 3) := by decide +kernel
theorem dX9_feedback_50 : decode cX9_feedback 50 = .ok (.ifCond .eq 21, 3) := by decide +kernel
theorem dX9_feedback_53 : decode cX9_feedback 53 = .ok (.iload 6, 2) := by decide +kernel
theorem dX9_feedback_55 : decode cX9_feedback 55 = .ok (.iload_n 2, 1) := by decide +kernel
theorem dX9_feedback_56 : decode cX9_feedback 56 = .ok (.if_icmp .ge 12, 3) := by decide +kernel
theorem dX9_feedback_59 : decode cX9_feedback 59 = .ok (.iload 6, 2) := by decide +kernel
theorem dX9_feedback_61 : decode cX9_feedback 61 = .ok (.istore_n 2, 1) := by decide +kernel
theorem dX9_feedback_62 : decode cX9_feedback 62 = .ok (.iload 5, 2) := by decide +kernel
theorem dX9_feedback_64 : decode cX9_feedback 64 = .ok (.istore_n 3, 1) := by decide +kernel
theorem dX9_feedback_65 : decode cX9_feedback 65 = .ok (.iconst 0, 1) := by decide +kernel
theorem dX9_feedback_66 : decode cX9_feedback 66 = .ok (.istore 4, 2) := by decide +kernel
theorem dX9_feedback_68 : decode cX9_feedback 68 = .ok (.iinc 4 1, 3) := by decide +kernel
theorem dX9_feedback_71 : decode cX9_feedback 71 = .ok (.iinc 5 1, 3) := by decide +kernel
theorem dX9_feedback_74 : decode cX9_feedback 74 = .ok (.goto (-51), 3) := by decide +kernel
theorem dX9_feedback_77 : decode cX9_feedback 77 = .ok (.iload_n 1, 1) := by decide +kernel
theorem dX9_feedback_78 : decode cX9_feedback 78 = .ok (.ifCond .ne 7, 3) := by decide +kernel
theorem dX9_feedback_81 : decode cX9_feedback 81 = .ok (.iload_n 2, 1) := by decide +kernel
theorem dX9_feedback_82 : decode cX9_feedback 82 = .ok (.goto 14, 3) := by decide +kernel
theorem dX9_feedback_85 : decode cX9_feedback 85 = .ok (.iload_n 1, 1) := by decide +kernel
theorem dX9_feedback_86 : decode cX9_feedback 86 = .ok (.iconst 1, 1) := by decide +kernel
theorem dX9_feedback_87 : decode cX9_feedback 87 = .ok (.if_icmp .ne 7, 3) := by decide +kernel
theorem dX9_feedback_90 : decode cX9_feedback 90 = .ok (.iload_n 3, 1) := by decide +kernel
theorem dX9_feedback_91 : decode cX9_feedback 91 = .ok (.goto 5, 3) := by decide +kernel
theorem dX9_feedback_94 : decode cX9_feedback 94 = .ok (.iload 4, 2) := by decide +kernel
theorem dX9_feedback_96 : decode cX9_feedback 96 = .ok (.ireturn, 1) := by decide +kernel
theorem dX9_hold_0 : decode cX9_hold 0 = .ok (.iload_n 1, 1) := by decide +kernel
theorem dX9_hold_1 : decode cX9_hold 1 = .ok (.invokestatic 267, 3) := by decide +kernel
theorem dX9_hold_4 : decode cX9_hold 4 = .ok (.ifCond .ne 6, 3) := by decide +kernel
theorem dX9_hold_7 : decode cX9_hold 7 = .ok (.bipush (-2), 2) := by decide +kernel
theorem dX9_hold_9 : decode cX9_hold 9 = .ok (.ireturn, 1) := by decide +kernel
theorem dX9_hold_10 : decode cX9_hold 10 = .ok (.aload_n 0, 1) := by decide +kernel
theorem dX9_hold_11 : decode cX9_hold 11 = .ok (.getfield 66, 3) := by decide +kernel
theorem dX9_hold_14 : decode cX9_hold 14 = .ok (.iload_n 1, 1) := by decide +kernel
theorem dX9_hold_15 : decode cX9_hold 15 = .ok (.aaload, 1) := by decide +kernel
theorem dX9_hold_16 : decode cX9_hold 16 = .ok (.astore 4, 2) := by decide +kernel
theorem dX9_hold_18 : decode cX9_hold 18 = .ok (.aload 4, 2) := by decide +kernel
theorem dX9_hold_20 : decode cX9_hold 20 = .ok (.getfield 270, 3) := by decide +kernel
theorem dX9_hold_23 : decode cX9_hold 23 = .ok (.istore 5, 2) := by decide +kernel
theorem dX9_hold_25 : decode cX9_hold 25 = .ok (.iload_n 2, 1) := by decide +kernel
theorem dX9_hold_26 : decode cX9_hold 26 = .ok (.tableswitch 124 0 2 #[26, 35, 75], 26) := by decide +kernel
theorem dX9_hold_52 : decode cX9_hold 52 = .ok (.aload 4, 2) := by decide +kernel
theorem dX9_hold_54 : decode cX9_hold 54 = .ok (.iconst 0, 1) := by decide +kernel
theorem dX9_hold_55 : decode cX9_hold 55 = .ok (.putfield 270, 3) := by decide +kernel
theorem dX9_hold_58 : decode cX9_hold 58 = .ok (.iload 5, 2) := by decide +kernel
theorem dX9_hold_60 : decode cX9_hold 60 = .ok (.ireturn, 1) := by decide +kernel
theorem dX9_hold_61 : decode cX9_hold 61 = .ok (.aload_n 0, 1) := by decide +kernel
theorem dX9_hold_62 : decode cX9_hold 62 = .ok (.getfield 12, 3) := by decide +kernel
theorem dX9_hold_65 : decode cX9_hold 65 = .ok (.iload_n 3, 1) := by decide +kernel
theorem dX9_hold_66 : decode cX9_hold 66 = .ok (.invokevirtual 114, 3) := by decide +kernel
theorem dX9_hold_69 : decode cX9_hold 69 = .ok (.ifCond .ne 6, 3) := by decide +kernel
theorem dX9_hold_72 : decode cX9_hold 72 = .ok (.bipush (-2), 2) := by decide +kernel
theorem dX9_hold_74 : decode cX9_hold 74 = .ok (.ireturn, 1) := by decide +kernel
theorem dX9_hold_75 : decode cX9_hold 75 = .ok (.aload 4, 2) := by decide +kernel
theorem dX9_hold_77 : decode cX9_hold 77 = .ok (.aload_n 0, 1) := by decide +kernel
theorem dX9_hold_78 : decode cX9_hold 78 = .ok (.getfield 12, 3) := by decide +kernel
theorem dX9_hold_81 : decode cX9_hold 81 = .ok (.getfield 123, 3) := by decide +kernel
theorem dX9_hold_84 : decode cX9_hold 84 = .ok (.iload_n 3, 1) := by decide +kernel
theorem dX9_hold_85 : decode cX9_hold 85 = .ok (.iaload, 1) := by decide +kernel
theorem dX9_hold_86 : decode cX9_hold 86 = .ok (.aload_n 0, 1) := by decide +kernel
theorem dX9_hold_87 : decode cX9_hold 87 = .ok (.getfield 12, 3) := by decide +kernel
theorem dX9_hold_90 : decode cX9_hold 90 = .ok (.getfield 126, 3) := by decide +kernel
theorem dX9_hold_93 : decode cX9_hold 93 = .ok (.iload_n 3, 1) := by decide +kernel
theorem dX9_hold_94 : decode cX9_hold 94 = .ok (.iaload, 1) := by decide +kernel
theorem dX9_hold_95 : decode cX9_hold 95 = .ok (.invokevirtual 273, 3) := by decide +kernel
theorem dX9_hold_98 : decode cX9_hold 98 = .ok (.iload 5, 2) := by decide +kernel
theorem dX9_hold_100 : decode cX9_hold 100 = .ok (.ireturn, 1) := by decide +kernel
theorem dX9_hold_101 : decode cX9_hold 101 = .ok (.aload_n 0, 1) := by decide +kernel
theorem dX9_hold_102 : decode cX9_hold 102 = .ok (.invokevirtual 238, 3) := by decide +kernel
theorem dX9_hold_105 : decode cX9_hold 105 = .ok (.aload_n 0, 1) := by decide +kernel
theorem dX9_hold_106 : decode cX9_hold 106 = .ok (.getfield 54, 3) := by decide +kernel
theorem dX9_hold_109 : decode cX9_hold 109 = .ok (.iload_n 3, 1) := by decide +kernel
theorem dX9_hold_110 : decode cX9_hold 110 = .ok (.invokevirtual 244, 3) := by decide +kernel
theorem dX9_hold_113 : decode cX9_hold 113 = .ok (.ifCond .ne 6, 3) := by decide +kernel
theorem dX9_hold_116 : decode cX9_hold 116 = .ok (.bipush (-2), 2) := by decide +kernel
theorem dX9_hold_118 : decode cX9_hold 118 = .ok (.ireturn, 1) := by decide +kernel
theorem dX9_hold_119 : decode cX9_hold 119 = .ok (.aload 4, 2) := by decide +kernel
theorem dX9_hold_121 : decode cX9_hold 121 = .ok (.aload_n 0, 1) := by decide +kernel
theorem dX9_hold_122 : decode cX9_hold 122 = .ok (.getfield 54, 3) := by decide +kernel
theorem dX9_hold_125 : decode cX9_hold 125 = .ok (.getfield 245, 3) := by decide +kernel
theorem dX9_hold_128 : decode cX9_hold 128 = .ok (.iload_n 3, 1) := by decide +kernel
theorem dX9_hold_129 : decode cX9_hold 129 = .ok (.laload, 1) := by decide +kernel
theorem dX9_hold_130 : decode cX9_hold 130 = .ok (.aload_n 0, 1) := by decide +kernel
theorem dX9_hold_131 : decode cX9_hold 131 = .ok (.getfield 12, 3) := by decide +kernel
theorem dX9_hold_134 : decode cX9_hold 134 = .ok (.getfield 86, 3) := by decide +kernel
theorem dX9_hold_137 : decode cX9_hold 137 = .ok (.aload_n 0, 1) := by decide +kernel
theorem dX9_hold_138 : decode cX9_hold 138 = .ok (.getfield 12, 3) := by decide +kernel
theorem dX9_hold_141 : decode cX9_hold 141 = .ok (.getfield 90, 3) := by decide +kernel
theorem dX9_hold_144 : decode cX9_hold 144 = .ok (.invokevirtual 277, 3) := by decide +kernel
theorem dX9_hold_147 : decode cX9_hold 147 = .ok (.iload 5, 2) := by decide +kernel
theorem dX9_hold_149 : decode cX9_hold 149 = .ok (.ireturn, 1) := by decide +kernel
theorem dX9_hold_150 : decode cX9_hold 150 = .ok (.bipush (-2), 2) := by decide +kernel
theorem dX9_hold_152 : decode cX9_hold 152 = .ok (.ireturn, 1) := by decide +kernel
theorem dX9_asPair_0 : decode cX9_asPair 0 = .ok (.iload_n 1, 1) := by decide +kernel
theorem dX9_asPair_1 : decode cX9_asPair 1 = .ok (.invokestatic 267, 3) := by decide +kernel
theorem dX9_asPair_4 : decode cX9_asPair 4 = .ok (.ifCond .eq 10, 3) := by decide +kernel
theorem dX9_asPair_7 : decode cX9_asPair 7 = .ok (.iload_n 2, 1) := by decide +kernel
theorem dX9_asPair_8 : decode cX9_asPair 8 = .ok (.invokestatic 101, 3) := by decide +kernel
theorem dX9_asPair_11 : decode cX9_asPair 11 = .ok (.ifCond .ne 6, 3) := by decide +kernel
theorem dX9_asPair_14 : decode cX9_asPair 14 = .ok (.bipush (-2), 2) := by decide +kernel
theorem dX9_asPair_16 : decode cX9_asPair 16 = .ok (.ireturn, 1) := by decide +kernel
theorem dX9_asPair_17 : decode cX9_asPair 17 = .ok (.aload_n 0, 1) := by decide +kernel
theorem dX9_asPair_18 : decode cX9_asPair 18 = .ok (.getfield 66, 3) := by decide +kernel
theorem dX9_asPair_21 : decode cX9_asPair 21 = .ok (.iload_n 1, 1) := by decide +kernel
theorem dX9_asPair_22 : decode cX9_asPair 22 = .ok (.aaload, 1) := by decide +kernel
theorem dX9_asPair_23 : decode cX9_asPair 23 = .ok (.astore_n 3, 1) := by decide +kernel
theorem dX9_asPair_24 : decode cX9_asPair 24 = .ok (.aload_n 3, 1) := by decide +kernel
theorem dX9_asPair_25 : decode cX9_asPair 25 = .ok (.getfield 270, 3) := by decide +kernel
theorem dX9_asPair_28 : decode cX9_asPair 28 = .ok (.ifCond .ne 6, 3) := by decide +kernel
theorem dX9_asPair_31 : decode cX9_asPair 31 = .ok (.bipush (-11), 2) := by decide +kernel
theorem dX9_asPair_33 : decode cX9_asPair 33 = .ok (.ireturn, 1) := by decide +kernel
theorem dX9_asPair_34 : decode cX9_asPair 34 = .ok (.aload_n 3, 1) := by decide +kernel
theorem dX9_asPair_35 : decode cX9_asPair 35 = .ok (.getfield 270, 3) := by decide +kernel
theorem dX9_asPair_38 : decode cX9_asPair 38 = .ok (.iconst 1, 1) := by decide +kernel
theorem dX9_asPair_39 : decode cX9_asPair 39 = .ok (.if_icmp .ne 21, 3) := by decide +kernel
theorem dX9_asPair_42 : decode cX9_asPair 42 = .ok (.aload_n 3, 1) := by decide +kernel
theorem dX9_asPair_43 : decode cX9_asPair 43 = .ok (.getfield 281, 3) := by decide +kernel
theorem dX9_asPair_46 : decode cX9_asPair 46 = .ok (.iload_n 2, 1) := by decide +kernel
theorem dX9_asPair_47 : decode cX9_asPair 47 = .ok (.invokestatic 284, 3) := by decide +kernel
theorem dX9_asPair_50 : decode cX9_asPair 50 = .ok (.ifCond .eq 10, 3) := by decide +kernel
theorem dX9_asPair_53 : decode cX9_asPair 53 = .ok (.aload_n 3, 1) := by decide +kernel
theorem dX9_asPair_54 : decode cX9_asPair 54 = .ok (.getfield 288, 3) := by decide +kernel
theorem dX9_asPair_57 : decode cX9_asPair 57 = .ok (.goto 5, 3) := by decide +kernel
theorem dX9_asPair_60 : decode cX9_asPair 60 = .ok (.bipush (-13), 2) := by decide +kernel
theorem dX9_asPair_62 : decode cX9_asPair 62 = .ok (.ireturn, 1) := by decide +kernel
theorem dX9_asRay_0 : decode cX9_asRay 0 = .ok (.iload_n 1, 1) := by decide +kernel
theorem dX9_asRay_1 : decode cX9_asRay 1 = .ok (.invokestatic 267, 3) := by decide +kernel
theorem dX9_asRay_4 : decode cX9_asRay 4 = .ok (.ifCond .ne 6, 3) := by decide +kernel
theorem dX9_asRay_7 : decode cX9_asRay 7 = .ok (.bipush (-2), 2) := by decide +kernel
theorem dX9_asRay_9 : decode cX9_asRay 9 = .ok (.ireturn, 1) := by decide +kernel
theorem dX9_asRay_10 : decode cX9_asRay 10 = .ok (.aload_n 0, 1) := by decide +kernel
theorem dX9_asRay_11 : decode cX9_asRay 11 = .ok (.getfield 66, 3) := by decide +kernel
theorem dX9_asRay_14 : decode cX9_asRay 14 = .ok (.iload_n 1, 1) := by decide +kernel
theorem dX9_asRay_15 : decode cX9_asRay 15 = .ok (.aaload, 1) := by decide +kernel
theorem dX9_asRay_16 : decode cX9_asRay 16 = .ok (.astore_n 3, 1) := by decide +kernel
theorem dX9_asRay_17 : decode cX9_asRay 17 = .ok (.aload_n 3, 1) := by decide +kernel
theorem dX9_asRay_18 : decode cX9_asRay 18 = .ok (.getfield 270, 3) := by decide +kernel
theorem dX9_asRay_21 : decode cX9_asRay 21 = .ok (.ifCond .ne 6, 3) := by decide +kernel
theorem dX9_asRay_24 : decode cX9_asRay 24 = .ok (.bipush (-11), 2) := by decide +kernel
theorem dX9_asRay_26 : decode cX9_asRay 26 = .ok (.ireturn, 1) := by decide +kernel
theorem dX9_asRay_27 : decode cX9_asRay 27 = .ok (.aload_n 3, 1) := by decide +kernel
theorem dX9_asRay_28 : decode cX9_asRay 28 = .ok (.getfield 270, 3) := by decide +kernel
theorem dX9_asRay_31 : decode cX9_asRay 31 = .ok (.iconst 2, 1) := by decide +kernel
theorem dX9_asRay_32 : decode cX9_asRay 32 = .ok (.if_icmp .eq 6, 3) := by decide +kernel
theorem dX9_asRay_35 : decode cX9_asRay 35 = .ok (.bipush (-13), 2) := by decide +kernel
theorem dX9_asRay_37 : decode cX9_asRay 37 = .ok (.ireturn, 1) := by decide +kernel
theorem dX9_asRay_38 : decode cX9_asRay 38 = .ok (.iload_n 2, 1) := by decide +kernel
theorem dX9_asRay_39 : decode cX9_asRay 39 = .ok (.ifCond .lt 11, 3) := by decide +kernel
theorem dX9_asRay_42 : decode cX9_asRay 42 = .ok (.iload_n 2, 1) := by decide +kernel
theorem dX9_asRay_43 : decode cX9_asRay 43 = .ok (.aload_n 3, 1) := by decide +kernel
theorem dX9_asRay_44 : decode cX9_asRay 44 = .ok (.getfield 291, 3) := by decide +kernel
theorem dX9_asRay_47 : decode cX9_asRay 47 = .ok (.if_icmp .lt 8, 3) := by decide +kernel
theorem dX9_asRay_50 : decode cX9_asRay 50 = .ok (.bipush (-12), 2) := by decide +kernel
theorem dX9_asRay_52 : decode cX9_asRay 52 = .ok (.goto 9, 3) := by decide +kernel
theorem dX9_asRay_55 : decode cX9_asRay 55 = .ok (.aload_n 3, 1) := by decide +kernel
theorem dX9_asRay_56 : decode cX9_asRay 56 = .ok (.getfield 292, 3) := by decide +kernel
theorem dX9_asRay_59 : decode cX9_asRay 59 = .ok (.iload_n 2, 1) := by decide +kernel
theorem dX9_asRay_60 : decode cX9_asRay 60 = .ok (.iaload, 1) := by decide +kernel
theorem dX9_asRay_61 : decode cX9_asRay 61 = .ok (.ireturn, 1) := by decide +kernel
theorem dX9_compare_0 : decode cX9_compare 0 = .ok (.iload_n 1, 1) := by decide +kernel
theorem dX9_compare_1 : decode cX9_compare 1 = .ok (.invokestatic 267, 3) := by decide +kernel
theorem dX9_compare_4 : decode cX9_compare 4 = .ok (.ifCond .eq 10, 3) := by decide +kernel
theorem dX9_compare_7 : decode cX9_compare 7 = .ok (.iload_n 2, 1) := by decide +kernel
theorem dX9_compare_8 : decode cX9_compare 8 = .ok (.invokestatic 267, 3) := by decide +kernel
theorem dX9_compare_11 : decode cX9_compare 11 = .ok (.ifCond .ne 6, 3) := by decide +kernel
theorem dX9_compare_14 : decode cX9_compare 14 = .ok (.bipush (-2), 2) := by decide +kernel
theorem dX9_compare_16 : decode cX9_compare 16 = .ok (.ireturn, 1) := by decide +kernel
theorem dX9_compare_17 : decode cX9_compare 17 = .ok (.aload_n 0, 1) := by decide +kernel
theorem dX9_compare_18 : decode cX9_compare 18 = .ok (.getfield 66, 3) := by decide +kernel
theorem dX9_compare_21 : decode cX9_compare 21 = .ok (.iload_n 1, 1) := by decide +kernel
theorem dX9_compare_22 : decode cX9_compare 22 = .ok (.aaload, 1) := by decide +kernel
theorem dX9_compare_23 : decode cX9_compare 23 = .ok (.astore_n 3, 1) := by decide +kernel
theorem dX9_compare_24 : decode cX9_compare 24 = .ok (.aload_n 0, 1) := by decide +kernel
theorem dX9_compare_25 : decode cX9_compare 25 = .ok (.getfield 66, 3) := by decide +kernel
theorem dX9_compare_28 : decode cX9_compare 28 = .ok (.iload_n 2, 1) := by decide +kernel
theorem dX9_compare_29 : decode cX9_compare 29 = .ok (.aaload, 1) := by decide +kernel
theorem dX9_compare_30 : decode cX9_compare 30 = .ok (.astore 4, 2) := by decide +kernel
theorem dX9_compare_32 : decode cX9_compare 32 = .ok (.aload_n 3, 1) := by decide +kernel
theorem dX9_compare_33 : decode cX9_compare 33 = .ok (.getfield 270, 3) := by decide +kernel
theorem dX9_compare_36 : decode cX9_compare 36 = .ok (.ifCond .eq 11, 3) := by decide +kernel
theorem dX9_compare_39 : decode cX9_compare 39 = .ok (.aload 4, 2) := by decide +kernel
theorem dX9_compare_41 : decode cX9_compare 41 = .ok (.getfield 270, 3) := by decide +kernel
theorem dX9_compare_44 : decode cX9_compare 44 = .ok (.ifCond .ne 6, 3) := by decide +kernel
theorem dX9_compare_47 : decode cX9_compare 47 = .ok (.bipush (-11), 2) := by decide +kernel
theorem dX9_compare_49 : decode cX9_compare 49 = .ok (.ireturn, 1) := by decide +kernel
theorem dX9_compare_50 : decode cX9_compare 50 = .ok (.aload_n 3, 1) := by decide +kernel
theorem dX9_compare_51 : decode cX9_compare 51 = .ok (.getfield 270, 3) := by decide +kernel
theorem dX9_compare_54 : decode cX9_compare 54 = .ok (.iconst 2, 1) := by decide +kernel
theorem dX9_compare_55 : decode cX9_compare 55 = .ok (.if_icmp .ne 21, 3) := by decide +kernel
theorem dX9_compare_58 : decode cX9_compare 58 = .ok (.aload 4, 2) := by decide +kernel
theorem dX9_compare_60 : decode cX9_compare 60 = .ok (.getfield 270, 3) := by decide +kernel
theorem dX9_compare_63 : decode cX9_compare 63 = .ok (.iconst 2, 1) := by decide +kernel
theorem dX9_compare_64 : decode cX9_compare 64 = .ok (.if_icmp .ne 12, 3) := by decide +kernel
theorem dX9_compare_67 : decode cX9_compare 67 = .ok (.aload_n 3, 1) := by decide +kernel
theorem dX9_compare_68 : decode cX9_compare 68 = .ok (.aload 4, 2) := by decide +kernel
theorem dX9_compare_70 : decode cX9_compare 70 = .ok (.invokevirtual 295, 3) := by decide +kernel
theorem dX9_compare_73 : decode cX9_compare 73 = .ok (.goto 5, 3) := by decide +kernel
theorem dX9_compare_76 : decode cX9_compare 76 = .ok (.bipush (-13), 2) := by decide +kernel
theorem dX9_compare_78 : decode cX9_compare 78 = .ok (.ireturn, 1) := by decide +kernel
theorem dX9_sheet_0 : decode cX9_sheet 0 = .ok (.iload_n 1, 1) := by decide +kernel
theorem dX9_sheet_1 : decode cX9_sheet 1 = .ok (.invokestatic 194, 3) := by decide +kernel
theorem dX9_sheet_4 : decode cX9_sheet 4 = .ok (.ifCond .eq 13, 3) := by decide +kernel
theorem dX9_sheet_7 : decode cX9_sheet 7 = .ok (.iload_n 2, 1) := by decide +kernel
theorem dX9_sheet_8 : decode cX9_sheet 8 = .ok (.iconst (-1), 1) := by decide +kernel
theorem dX9_sheet_9 : decode cX9_sheet 9 = .ok (.if_icmp .lt 8, 3) := by decide +kernel
theorem dX9_sheet_12 : decode cX9_sheet 12 = .ok (.iload_n 2, 1) := by decide +kernel
theorem dX9_sheet_13 : decode cX9_sheet 13 = .ok (.iconst 1, 1) := by decide +kernel
theorem dX9_sheet_14 : decode cX9_sheet 14 = .ok (.if_icmp .le 6, 3) := by decide +kernel
theorem dX9_sheet_17 : decode cX9_sheet 17 = .ok (.bipush (-2), 2) := by decide +kernel
theorem dX9_sheet_19 : decode cX9_sheet 19 = .ok (.ireturn, 1) := by decide +kernel
theorem dX9_sheet_20 : decode cX9_sheet 20 = .ok (.iload_n 2, 1) := by decide +kernel
theorem dX9_sheet_21 : decode cX9_sheet 21 = .ok (.iconst (-1), 1) := by decide +kernel
theorem dX9_sheet_22 : decode cX9_sheet 22 = .ok (.if_icmp .eq 12, 3) := by decide +kernel
theorem dX9_sheet_25 : decode cX9_sheet 25 = .ok (.iload_n 3, 1) := by decide +kernel
theorem dX9_sheet_26 : decode cX9_sheet 26 = .ok (.bipush 30, 2) := by decide +kernel
theorem dX9_sheet_28 : decode cX9_sheet 28 = .ok (.if_icmp .le 6, 3) := by decide +kernel
theorem dX9_sheet_31 : decode cX9_sheet 31 = .ok (.bipush (-2), 2) := by decide +kernel
theorem dX9_sheet_33 : decode cX9_sheet 33 = .ok (.ireturn, 1) := by decide +kernel
theorem dX9_sheet_34 : decode cX9_sheet 34 = .ok (.iload_n 2, 1) := by decide +kernel
theorem dX9_sheet_35 : decode cX9_sheet 35 = .ok (.iconst (-1), 1) := by decide +kernel
theorem dX9_sheet_36 : decode cX9_sheet 36 = .ok (.if_icmp .eq 10, 3) := by decide +kernel
theorem dX9_sheet_39 : decode cX9_sheet 39 = .ok (.iload_n 3, 1) := by decide +kernel
theorem dX9_sheet_40 : decode cX9_sheet 40 = .ok (.ifCond .ge 6, 3) := by decide +kernel
theorem dX9_sheet_43 : decode cX9_sheet 43 = .ok (.bipush (-14), 2) := by decide +kernel
theorem dX9_sheet_45 : decode cX9_sheet 45 = .ok (.ireturn, 1) := by decide +kernel
theorem dX9_sheet_46 : decode cX9_sheet 46 = .ok (.aload_n 0, 1) := by decide +kernel
theorem dX9_sheet_47 : decode cX9_sheet 47 = .ok (.getfield 60, 3) := by decide +kernel
theorem dX9_sheet_50 : decode cX9_sheet 50 = .ok (.iload_n 1, 1) := by decide +kernel
theorem dX9_sheet_51 : decode cX9_sheet 51 = .ok (.aaload, 1) := by decide +kernel
theorem dX9_sheet_52 : decode cX9_sheet 52 = .ok (.iload_n 2, 1) := by decide +kernel
theorem dX9_sheet_53 : decode cX9_sheet 53 = .ok (.iload_n 2, 1) := by decide +kernel
theorem dX9_sheet_54 : decode cX9_sheet 54 = .ok (.iconst (-1), 1) := by decide +kernel
theorem dX9_sheet_55 : decode cX9_sheet 55 = .ok (.if_icmp .ne 7, 3) := by decide +kernel
theorem dX9_sheet_58 : decode cX9_sheet 58 = .ok (.iconst 0, 1) := by decide +kernel
theorem dX9_sheet_59 : decode cX9_sheet 59 = .ok (.goto 4, 3) := by decide +kernel
theorem dX9_sheet_62 : decode cX9_sheet 62 = .ok (.iload_n 3, 1) := by decide +kernel
theorem dX9_sheet_63 : decode cX9_sheet 63 = .ok (.invokevirtual 299, 3) := by decide +kernel
theorem dX9_sheet_66 : decode cX9_sheet 66 = .ok (.iconst 1, 1) := by decide +kernel
theorem dX9_sheet_67 : decode cX9_sheet 67 = .ok (.ireturn, 1) := by decide +kernel
theorem dX9_cell_0 : decode cX9_cell 0 = .ok (.iload_n 1, 1) := by decide +kernel
theorem dX9_cell_1 : decode cX9_cell 1 = .ok (.invokestatic 194, 3) := by decide +kernel
theorem dX9_cell_4 : decode cX9_cell 4 = .ok (.ifCond .ne 6, 3) := by decide +kernel
theorem dX9_cell_7 : decode cX9_cell 7 = .ok (.bipush (-2), 2) := by decide +kernel
theorem dX9_cell_9 : decode cX9_cell 9 = .ok (.ireturn, 1) := by decide +kernel
theorem dX9_cell_10 : decode cX9_cell 10 = .ok (.aload_n 0, 1) := by decide +kernel
theorem dX9_cell_11 : decode cX9_cell 11 = .ok (.getfield 60, 3) := by decide +kernel
theorem dX9_cell_14 : decode cX9_cell 14 = .ok (.iload_n 1, 1) := by decide +kernel
theorem dX9_cell_15 : decode cX9_cell 15 = .ok (.aaload, 1) := by decide +kernel
theorem dX9_cell_16 : decode cX9_cell 16 = .ok (.astore 5, 2) := by decide +kernel
theorem dX9_cell_18 : decode cX9_cell 18 = .ok (.aload 5, 2) := by decide +kernel
theorem dX9_cell_20 : decode cX9_cell 20 = .ok (.invokevirtual 197, 3) := by decide +kernel
theorem dX9_cell_23 : decode cX9_cell 23 = .ok (.ifCond .eq 6, 3) := by decide +kernel
theorem dX9_cell_26 : decode cX9_cell 26 = .ok (.bipush (-11), 2) := by decide +kernel
theorem dX9_cell_28 : decode cX9_cell 28 = .ok (.ireturn, 1) := by decide +kernel
theorem dX9_cell_29 : decode cX9_cell 29 = .ok (.aload 5, 2) := by decide +kernel
theorem dX9_cell_31 : decode cX9_cell 31 = .ok (.iload_n 2, 1) := by decide +kernel
theorem dX9_cell_32 : decode cX9_cell 32 = .ok (.invokevirtual 302, 3) := by decide +kernel
theorem dX9_cell_35 : decode cX9_cell 35 = .ok (.ifCond .ne 6, 3) := by decide +kernel
theorem dX9_cell_38 : decode cX9_cell 38 = .ok (.bipush (-12), 2) := by decide +kernel
theorem dX9_cell_40 : decode cX9_cell 40 = .ok (.ireturn, 1) := by decide +kernel
theorem dX9_cell_41 : decode cX9_cell 41 = .ok (.aload 5, 2) := by decide +kernel
theorem dX9_cell_43 : decode cX9_cell 43 = .ok (.getfield 303, 3) := by decide +kernel
theorem dX9_cell_46 : decode cX9_cell 46 = .ok (.ifCond .ne 13, 3) := by decide +kernel
theorem dX9_cell_49 : decode cX9_cell 49 = .ok (.lload_n 3, 1) := by decide +kernel
theorem dX9_cell_50 : decode cX9_cell 50 = .ok (.invokestatic 304, 3) := by decide +kernel
theorem dX9_cell_53 : decode cX9_cell 53 = .ok (.ifCond .ne 6, 3) := by decide +kernel
theorem dX9_cell_56 : decode cX9_cell 56 = .ok (.bipush (-5), 2) := by decide +kernel
theorem dX9_cell_58 : decode cX9_cell 58 = .ok (.ireturn, 1) := by decide +kernel
theorem dX9_cell_59 : decode cX9_cell 59 = .ok (.aload 5, 2) := by decide +kernel
theorem dX9_cell_61 : decode cX9_cell 61 = .ok (.getfield 307, 3) := by decide +kernel
theorem dX9_cell_64 : decode cX9_cell 64 = .ok (.iload_n 2, 1) := by decide +kernel
theorem dX9_cell_65 : decode cX9_cell 65 = .ok (.lload_n 3, 1) := by decide +kernel
theorem dX9_cell_66 : decode cX9_cell 66 = .ok (.lastore, 1) := by decide +kernel
theorem dX9_cell_67 : decode cX9_cell 67 = .ok (.iconst 1, 1) := by decide +kernel
theorem dX9_cell_68 : decode cX9_cell 68 = .ok (.ireturn, 1) := by decide +kernel
theorem dX9_read_0 : decode cX9_read 0 = .ok (.iload_n 1, 1) := by decide +kernel
theorem dX9_read_1 : decode cX9_read 1 = .ok (.invokestatic 194, 3) := by decide +kernel
theorem dX9_read_4 : decode cX9_read 4 = .ok (.ifCond .ne 7, 3) := by decide +kernel
theorem dX9_read_7 : decode cX9_read 7 = .ok (.ldc2_w 213, 3) := by decide +kernel
theorem dX9_read_10 : decode cX9_read 10 = .ok (.lreturn, 1) := by decide +kernel
theorem dX9_read_11 : decode cX9_read 11 = .ok (.aload_n 0, 1) := by decide +kernel
theorem dX9_read_12 : decode cX9_read 12 = .ok (.getfield 60, 3) := by decide +kernel
theorem dX9_read_15 : decode cX9_read 15 = .ok (.iload_n 1, 1) := by decide +kernel
theorem dX9_read_16 : decode cX9_read 16 = .ok (.aaload, 1) := by decide +kernel
theorem dX9_read_17 : decode cX9_read 17 = .ok (.astore_n 3, 1) := by decide +kernel
theorem dX9_read_18 : decode cX9_read 18 = .ok (.aload_n 3, 1) := by decide +kernel
theorem dX9_read_19 : decode cX9_read 19 = .ok (.invokevirtual 197, 3) := by decide +kernel
theorem dX9_read_22 : decode cX9_read 22 = .ok (.ifCond .eq 7, 3) := by decide +kernel
theorem dX9_read_25 : decode cX9_read 25 = .ok (.ldc2_w 215, 3) := by decide +kernel
theorem dX9_read_28 : decode cX9_read 28 = .ok (.lreturn, 1) := by decide +kernel
theorem dX9_read_29 : decode cX9_read 29 = .ok (.aload_n 3, 1) := by decide +kernel
theorem dX9_read_30 : decode cX9_read 30 = .ok (.iload_n 2, 1) := by decide +kernel
theorem dX9_read_31 : decode cX9_read 31 = .ok (.invokevirtual 302, 3) := by decide +kernel
theorem dX9_read_34 : decode cX9_read 34 = .ok (.ifCond .eq 12, 3) := by decide +kernel
theorem dX9_read_37 : decode cX9_read 37 = .ok (.aload_n 3, 1) := by decide +kernel
theorem dX9_read_38 : decode cX9_read 38 = .ok (.getfield 307, 3) := by decide +kernel
theorem dX9_read_41 : decode cX9_read 41 = .ok (.iload_n 2, 1) := by decide +kernel
theorem dX9_read_42 : decode cX9_read 42 = .ok (.laload, 1) := by decide +kernel
theorem dX9_read_43 : decode cX9_read 43 = .ok (.goto 6, 3) := by decide +kernel
theorem dX9_read_46 : decode cX9_read 46 = .ok (.ldc2_w 158, 3) := by decide +kernel
theorem dX9_read_49 : decode cX9_read 49 = .ok (.lreturn, 1) := by decide +kernel
theorem dX9_load_0 : decode cX9_load 0 = .ok (.iload_n 1, 1) := by decide +kernel
theorem dX9_load_1 : decode cX9_load 1 = .ok (.invokestatic 194, 3) := by decide +kernel
theorem dX9_load_4 : decode cX9_load 4 = .ok (.ifCond .eq 14, 3) := by decide +kernel
theorem dX9_load_7 : decode cX9_load 7 = .ok (.aload_n 0, 1) := by decide +kernel
theorem dX9_load_8 : decode cX9_load 8 = .ok (.getfield 12, 3) := by decide +kernel
theorem dX9_load_11 : decode cX9_load 11 = .ok (.iload_n 2, 1) := by decide +kernel
theorem dX9_load_12 : decode cX9_load 12 = .ok (.invokevirtual 114, 3) := by decide +kernel
theorem dX9_load_15 : decode cX9_load 15 = .ok (.ifCond .ne 6, 3) := by decide +kernel
theorem dX9_load_18 : decode cX9_load 18 = .ok (.bipush (-2), 2) := by decide +kernel
theorem dX9_load_20 : decode cX9_load 20 = .ok (.ireturn, 1) := by decide +kernel
theorem dX9_load_21 : decode cX9_load 21 = .ok (.aload_n 0, 1) := by decide +kernel
theorem dX9_load_22 : decode cX9_load 22 = .ok (.getfield 60, 3) := by decide +kernel
theorem dX9_load_25 : decode cX9_load 25 = .ok (.iload_n 1, 1) := by decide +kernel
theorem dX9_load_26 : decode cX9_load 26 = .ok (.aaload, 1) := by decide +kernel
theorem dX9_load_27 : decode cX9_load 27 = .ok (.astore 4, 2) := by decide +kernel
theorem dX9_load_29 : decode cX9_load 29 = .ok (.aload 4, 2) := by decide +kernel
theorem dX9_load_31 : decode cX9_load 31 = .ok (.invokevirtual 197, 3) := by decide +kernel
theorem dX9_load_34 : decode cX9_load 34 = .ok (.ifCond .eq 6, 3) := by decide +kernel
theorem dX9_load_37 : decode cX9_load 37 = .ok (.bipush (-11), 2) := by decide +kernel
theorem dX9_load_39 : decode cX9_load 39 = .ok (.ireturn, 1) := by decide +kernel
theorem dX9_load_40 : decode cX9_load 40 = .ok (.iload_n 3, 1) := by decide +kernel
theorem dX9_load_41 : decode cX9_load 41 = .ok (.ifCond .lt 15, 3) := by decide +kernel
theorem dX9_load_44 : decode cX9_load 44 = .ok (.iload_n 3, 1) := by decide +kernel
theorem dX9_load_45 : decode cX9_load 45 = .ok (.aload 4, 2) := by decide +kernel
theorem dX9_load_47 : decode cX9_load 47 = .ok (.getfield 310, 3) := by decide +kernel
theorem dX9_load_50 : decode cX9_load 50 = .ok (.bipush 12, 2) := by decide +kernel
theorem dX9_load_52 : decode cX9_load 52 = .ok (.isub, 1) := by decide +kernel
theorem dX9_load_53 : decode cX9_load 53 = .ok (.if_icmp .le 6, 3) := by decide +kernel
theorem dX9_load_56 : decode cX9_load 56 = .ok (.bipush (-12), 2) := by decide +kernel
theorem dX9_load_58 : decode cX9_load 58 = .ok (.ireturn, 1) := by decide +kernel
theorem dX9_load_59 : decode cX9_load 59 = .ok (.iconst 0, 1) := by decide +kernel
theorem dX9_load_60 : decode cX9_load 60 = .ok (.istore 5, 2) := by decide +kernel
theorem dX9_load_62 : decode cX9_load 62 = .ok (.iload 5, 2) := by decide +kernel
theorem dX9_load_64 : decode cX9_load 64 = .ok (.bipush 12, 2) := by decide +kernel
theorem dX9_load_66 : decode cX9_load 66 = .ok (.if_icmp .ge 39, 3) := by decide +kernel
theorem dX9_load_69 : decode cX9_load 69 = .ok (.aload_n 0, 1) := by decide +kernel
theorem dX9_load_70 : decode cX9_load 70 = .ok (.getfield 12, 3) := by decide +kernel
theorem dX9_load_73 : decode cX9_load 73 = .ok (.getfield 120, 3) := by decide +kernel
theorem dX9_load_76 : decode cX9_load 76 = .ok (.iload_n 2, 1) := by decide +kernel
theorem dX9_load_77 : decode cX9_load 77 = .ok (.bipush 12, 2) := by decide +kernel
theorem dX9_load_79 : decode cX9_load 79 = .ok (.imul, 1) := by decide +kernel
theorem dX9_load_80 : decode cX9_load 80 = .ok (.iload 5, 2) := by decide +kernel
theorem dX9_load_82 : decode cX9_load 82 = .ok (.iadd, 1) := by decide +kernel
theorem dX9_load_83 : decode cX9_load 83 = .ok (.aload 4, 2) := by decide +kernel
theorem dX9_load_85 : decode cX9_load 85 = .ok (.getfield 307, 3) := by decide +kernel
theorem dX9_load_88 : decode cX9_load 88 = .ok (.iload_n 3, 1) := by decide +kernel
theorem dX9_load_89 : decode cX9_load 89 = .ok (.iload 5, 2) := by decide +kernel
theorem dX9_load_91 : decode cX9_load 91 = .ok (.iadd, 1) := by decide +kernel
theorem dX9_load_92 : decode cX9_load 92 = .ok (.laload, 1) := by decide +kernel
theorem dX9_load_93 : decode cX9_load 93 = .ok (.ldc2_w 311, 3) := by decide +kernel
theorem dX9_load_96 : decode cX9_load 96 = .ok (.lrem, 1) := by decide +kernel
theorem dX9_load_97 : decode cX9_load 97 = .ok (.l2i, 1) := by decide +kernel
theorem dX9_load_98 : decode cX9_load 98 = .ok (.iastore, 1) := by decide +kernel
theorem dX9_load_99 : decode cX9_load 99 = .ok (.iinc 5 1, 3) := by decide +kernel
theorem dX9_load_102 : decode cX9_load 102 = .ok (.goto (-40), 3) := by decide +kernel
theorem dX9_load_105 : decode cX9_load 105 = .ok (.bipush 12, 2) := by decide +kernel
theorem dX9_load_107 : decode cX9_load 107 = .ok (.ireturn, 1) := by decide +kernel
theorem dX9_image_0 : decode cX9_image 0 = .ok (.aload_n 0, 1) := by decide +kernel
theorem dX9_image_1 : decode cX9_image 1 = .ok (.getfield 16, 3) := by decide +kernel
theorem dX9_image_4 : decode cX9_image 4 = .ok (.aload_n 0, 1) := by decide +kernel
theorem dX9_image_5 : decode cX9_image 5 = .ok (.getfield 12, 3) := by decide +kernel
theorem dX9_image_8 : decode cX9_image 8 = .ok (.invokevirtual 313, 3) := by decide +kernel
theorem dX9_image_11 : decode cX9_image 11 = .ok (.aload_n 0, 1) := by decide +kernel
theorem dX9_image_12 : decode cX9_image 12 = .ok (.iconst 1, 1) := by decide +kernel
theorem dX9_image_13 : decode cX9_image 13 = .ok (.putfield 19, 3) := by decide +kernel
theorem dX9_image_16 : decode cX9_image 16 = .ok (.aload_n 0, 1) := by decide +kernel
theorem dX9_image_17 : decode cX9_image 17 = .ok (.getfield 12, 3) := by decide +kernel
theorem dX9_image_20 : decode cX9_image 20 = .ok (.getfield 107, 3) := by decide +kernel
theorem dX9_image_23 : decode cX9_image 23 = .ok (.ireturn, 1) := by decide +kernel
theorem dX9_back_0 : decode cX9_back 0 = .ok (.aload_n 0, 1) := by decide +kernel
theorem dX9_back_1 : decode cX9_back 1 = .ok (.getfield 19, 3) := by decide +kernel
theorem dX9_back_4 : decode cX9_back 4 = .ok (.ifCond .ne 6, 3) := by decide +kernel
theorem dX9_back_7 : decode cX9_back 7 = .ok (.bipush (-3), 2) := by decide +kernel
theorem dX9_back_9 : decode cX9_back 9 = .ok (.ireturn, 1) := by decide +kernel
theorem dX9_back_10 : decode cX9_back 10 = .ok (.aload_n 0, 1) := by decide +kernel
theorem dX9_back_11 : decode cX9_back 11 = .ok (.getfield 12, 3) := by decide +kernel
theorem dX9_back_14 : decode cX9_back 14 = .ok (.aload_n 0, 1) := by decide +kernel
theorem dX9_back_15 : decode cX9_back 15 = .ok (.getfield 16, 3) := by decide +kernel
theorem dX9_back_18 : decode cX9_back 18 = .ok (.invokevirtual 313, 3) := by decide +kernel
theorem dX9_back_21 : decode cX9_back 21 = .ok (.aload_n 0, 1) := by decide +kernel
theorem dX9_back_22 : decode cX9_back 22 = .ok (.getfield 12, 3) := by decide +kernel
theorem dX9_back_25 : decode cX9_back 25 = .ok (.getfield 107, 3) := by decide +kernel
theorem dX9_back_28 : decode cX9_back 28 = .ok (.ireturn, 1) := by decide +kernel
theorem dX9_count_0 : decode cX9_count 0 = .ok (.iload_n 1, 1) := by decide +kernel
theorem dX9_count_1 : decode cX9_count 1 = .ok (.tableswitch 75 0 4 #[35, 43, 51, 59, 67], 35) := by decide +kernel
theorem dX9_count_36 : decode cX9_count 36 = .ok (.aload_n 0, 1) := by decide +kernel
theorem dX9_count_37 : decode cX9_count 37 = .ok (.getfield 12, 3) := by decide +kernel
theorem dX9_count_40 : decode cX9_count 40 = .ok (.getfield 107, 3) := by decide +kernel
theorem dX9_count_43 : decode cX9_count 43 = .ok (.ireturn, 1) := by decide +kernel
theorem dX9_count_44 : decode cX9_count 44 = .ok (.aload_n 0, 1) := by decide +kernel
theorem dX9_count_45 : decode cX9_count 45 = .ok (.getfield 12, 3) := by decide +kernel
theorem dX9_count_48 : decode cX9_count 48 = .ok (.getfield 86, 3) := by decide +kernel
theorem dX9_count_51 : decode cX9_count 51 = .ok (.ireturn, 1) := by decide +kernel
theorem dX9_count_52 : decode cX9_count 52 = .ok (.aload_n 0, 1) := by decide +kernel
theorem dX9_count_53 : decode cX9_count 53 = .ok (.getfield 12, 3) := by decide +kernel
theorem dX9_count_56 : decode cX9_count 56 = .ok (.getfield 90, 3) := by decide +kernel
theorem dX9_count_59 : decode cX9_count 59 = .ok (.ireturn, 1) := by decide +kernel
theorem dX9_count_60 : decode cX9_count 60 = .ok (.aload_n 0, 1) := by decide +kernel
theorem dX9_count_61 : decode cX9_count 61 = .ok (.getfield 12, 3) := by decide +kernel
theorem dX9_count_64 : decode cX9_count 64 = .ok (.invokevirtual 315, 3) := by decide +kernel
theorem dX9_count_67 : decode cX9_count 67 = .ok (.ireturn, 1) := by decide +kernel
theorem dX9_count_68 : decode cX9_count 68 = .ok (.aload_n 0, 1) := by decide +kernel
theorem dX9_count_69 : decode cX9_count 69 = .ok (.getfield 12, 3) := by decide +kernel
theorem dX9_count_72 : decode cX9_count 72 = .ok (.invokevirtual 318, 3) := by decide +kernel
theorem dX9_count_75 : decode cX9_count 75 = .ok (.ireturn, 1) := by decide +kernel
theorem dX9_count_76 : decode cX9_count 76 = .ok (.bipush (-2), 2) := by decide +kernel
theorem dX9_count_78 : decode cX9_count 78 = .ok (.ireturn, 1) := by decide +kernel
theorem dX9_fillStanding_0 : decode cX9_fillStanding 0 = .ok (.aload_n 0, 1) := by decide +kernel
theorem dX9_fillStanding_1 : decode cX9_fillStanding 1 = .ok (.getfield 26, 3) := by decide +kernel
theorem dX9_fillStanding_4 : decode cX9_fillStanding 4 = .ok (.aload_n 0, 1) := by decide +kernel
theorem dX9_fillStanding_5 : decode cX9_fillStanding 5 = .ok (.getfield 12, 3) := by decide +kernel
theorem dX9_fillStanding_8 : decode cX9_fillStanding 8 = .ok (.invokevirtual 141, 3) := by decide +kernel
theorem dX9_fillStanding_11 : decode cX9_fillStanding 11 = .ok (.aload_n 0, 1) := by decide +kernel
theorem dX9_fillStanding_12 : decode cX9_fillStanding 12 = .ok (.getfield 33, 3) := by decide +kernel
theorem dX9_fillStanding_15 : decode cX9_fillStanding 15 = .ok (.aload_n 0, 1) := by decide +kernel
theorem dX9_fillStanding_16 : decode cX9_fillStanding 16 = .ok (.getfield 26, 3) := by decide +kernel
theorem dX9_fillStanding_19 : decode cX9_fillStanding 19 = .ok (.invokevirtual 321, 3) := by decide +kernel
theorem dX9_fillStanding_22 : decode cX9_fillStanding 22 = .ok (.return_, 1) := by decide +kernel
theorem dX9_fillRays_0 : decode cX9_fillRays 0 = .ok (.aload_n 0, 1) := by decide +kernel
theorem dX9_fillRays_1 : decode cX9_fillRays 1 = .ok (.getfield 26, 3) := by decide +kernel
theorem dX9_fillRays_4 : decode cX9_fillRays 4 = .ok (.aload_n 0, 1) := by decide +kernel
theorem dX9_fillRays_5 : decode cX9_fillRays 5 = .ok (.getfield 12, 3) := by decide +kernel
theorem dX9_fillRays_8 : decode cX9_fillRays 8 = .ok (.invokevirtual 141, 3) := by decide +kernel
theorem dX9_fillRays_11 : decode cX9_fillRays 11 = .ok (.aload_n 0, 1) := by decide +kernel
theorem dX9_fillRays_12 : decode cX9_fillRays 12 = .ok (.getfield 54, 3) := by decide +kernel
theorem dX9_fillRays_15 : decode cX9_fillRays 15 = .ok (.aload_n 0, 1) := by decide +kernel
theorem dX9_fillRays_16 : decode cX9_fillRays 16 = .ok (.getfield 26, 3) := by decide +kernel
theorem dX9_fillRays_19 : decode cX9_fillRays 19 = .ok (.invokevirtual 324, 3) := by decide +kernel
theorem dX9_fillRays_22 : decode cX9_fillRays 22 = .ok (.return_, 1) := by decide +kernel
theorem dX9_fillOrder_0 : decode cX9_fillOrder 0 = .ok (.iconst 0, 1) := by decide +kernel
theorem dX9_fillOrder_1 : decode cX9_fillOrder 1 = .ok (.istore_n 1, 1) := by decide +kernel
theorem dX9_fillOrder_2 : decode cX9_fillOrder 2 = .ok (.iload_n 1, 1) := by decide +kernel
theorem dX9_fillOrder_3 : decode cX9_fillOrder 3 = .ok (.aload_n 0, 1) := by decide +kernel
theorem dX9_fillOrder_4 : decode cX9_fillOrder 4 = .ok (.getfield 12, 3) := by decide +kernel
theorem dX9_fillOrder_7 : decode cX9_fillOrder 7 = .ok (.getfield 107, 3) := by decide +kernel
theorem dX9_fillOrder_10 : decode cX9_fillOrder 10 = .ok (.if_icmp .ge 23, 3) := by decide +kernel
theorem dX9_fillOrder_13 : decode cX9_fillOrder 13 = .ok (.aload_n 0, 1) := by decide +kernel
theorem dX9_fillOrder_14 : decode cX9_fillOrder 14 = .ok (.getfield 70, 3) := by decide +kernel
theorem dX9_fillOrder_17 : decode cX9_fillOrder 17 = .ok (.aload_n 0, 1) := by decide +kernel
theorem dX9_fillOrder_18 : decode cX9_fillOrder 18 = .ok (.getfield 12, 3) := by decide +kernel
theorem dX9_fillOrder_21 : decode cX9_fillOrder 21 = .ok (.iload_n 1, 1) := by decide +kernel
theorem dX9_fillOrder_22 : decode cX9_fillOrder 22 = .ok (.invokevirtual 129, 3) := by decide +kernel
theorem dX9_fillOrder_25 : decode cX9_fillOrder 25 = .ok (.iload_n 1, 1) := by decide +kernel
theorem dX9_fillOrder_26 : decode cX9_fillOrder 26 = .ok (.iastore, 1) := by decide +kernel
theorem dX9_fillOrder_27 : decode cX9_fillOrder 27 = .ok (.iinc 1 1, 3) := by decide +kernel
theorem dX9_fillOrder_30 : decode cX9_fillOrder 30 = .ok (.goto (-28), 3) := by decide +kernel
theorem dX9_fillOrder_33 : decode cX9_fillOrder 33 = .ok (.return_, 1) := by decide +kernel
theorem dX9_fillTimes_0 : decode cX9_fillTimes 0 = .ok (.iconst 0, 1) := by decide +kernel
theorem dX9_fillTimes_1 : decode cX9_fillTimes 1 = .ok (.istore_n 2, 1) := by decide +kernel
theorem dX9_fillTimes_2 : decode cX9_fillTimes 2 = .ok (.iload_n 2, 1) := by decide +kernel
theorem dX9_fillTimes_3 : decode cX9_fillTimes 3 = .ok (.aload_n 0, 1) := by decide +kernel
theorem dX9_fillTimes_4 : decode cX9_fillTimes 4 = .ok (.getfield 12, 3) := by decide +kernel
theorem dX9_fillTimes_7 : decode cX9_fillTimes 7 = .ok (.getfield 107, 3) := by decide +kernel
theorem dX9_fillTimes_10 : decode cX9_fillTimes 10 = .ok (.if_icmp .ge 30, 3) := by decide +kernel
theorem dX9_fillTimes_13 : decode cX9_fillTimes 13 = .ok (.aload_n 0, 1) := by decide +kernel
theorem dX9_fillTimes_14 : decode cX9_fillTimes 14 = .ok (.getfield 74, 3) := by decide +kernel
theorem dX9_fillTimes_17 : decode cX9_fillTimes 17 = .ok (.iload_n 2, 1) := by decide +kernel
theorem dX9_fillTimes_18 : decode cX9_fillTimes 18 = .ok (.aload_n 1, 1) := by decide +kernel
theorem dX9_fillTimes_19 : decode cX9_fillTimes 19 = .ok (.iload_n 2, 1) := by decide +kernel
theorem dX9_fillTimes_20 : decode cX9_fillTimes 20 = .ok (.invokevirtual 325, 3) := by decide +kernel
theorem dX9_fillTimes_23 : decode cX9_fillTimes 23 = .ok (.aload_n 0, 1) := by decide +kernel
theorem dX9_fillTimes_24 : decode cX9_fillTimes 24 = .ok (.getfield 12, 3) := by decide +kernel
theorem dX9_fillTimes_27 : decode cX9_fillTimes 27 = .ok (.getfield 86, 3) := by decide +kernel
theorem dX9_fillTimes_30 : decode cX9_fillTimes 30 = .ok (.invokestatic 93, 3) := by decide +kernel
theorem dX9_fillTimes_33 : decode cX9_fillTimes 33 = .ok (.iastore, 1) := by decide +kernel
theorem dX9_fillTimes_34 : decode cX9_fillTimes 34 = .ok (.iinc 2 1, 3) := by decide +kernel
theorem dX9_fillTimes_37 : decode cX9_fillTimes 37 = .ok (.goto (-35), 3) := by decide +kernel
theorem dX9_fillTimes_40 : decode cX9_fillTimes 40 = .ok (.return_, 1) := by decide +kernel
theorem dX9_drawTimes_0 : decode cX9_drawTimes 0 = .ok (.iload_n 1, 1) := by decide +kernel
theorem dX9_drawTimes_1 : decode cX9_drawTimes 1 = .ok (.istore_n 2, 1) := by decide +kernel
theorem dX9_drawTimes_2 : decode cX9_drawTimes 2 = .ok (.iconst 0, 1) := by decide +kernel
theorem dX9_drawTimes_3 : decode cX9_drawTimes 3 = .ok (.istore_n 3, 1) := by decide +kernel
theorem dX9_drawTimes_4 : decode cX9_drawTimes 4 = .ok (.iload_n 3, 1) := by decide +kernel
theorem dX9_drawTimes_5 : decode cX9_drawTimes 5 = .ok (.aload_n 0, 1) := by decide +kernel
theorem dX9_drawTimes_6 : decode cX9_drawTimes 6 = .ok (.getfield 12, 3) := by decide +kernel
theorem dX9_drawTimes_9 : decode cX9_drawTimes 9 = .ok (.getfield 107, 3) := by decide +kernel
theorem dX9_drawTimes_12 : decode cX9_drawTimes 12 = .ok (.if_icmp .ge 37, 3) := by decide +kernel
theorem dX9_drawTimes_15 : decode cX9_drawTimes 15 = .ok (.iload_n 2, 1) := by decide +kernel
theorem dX9_drawTimes_16 : decode cX9_drawTimes 16 = .ok (.ldc_w 329, 3) := by decide +kernel
theorem dX9_drawTimes_19 : decode cX9_drawTimes 19 = .ok (.imul, 1) := by decide +kernel
theorem dX9_drawTimes_20 : decode cX9_drawTimes 20 = .ok (.sipush 12345, 3) := by decide +kernel
theorem dX9_drawTimes_23 : decode cX9_drawTimes 23 = .ok (.iadd, 1) := by decide +kernel
theorem dX9_drawTimes_24 : decode cX9_drawTimes 24 = .ok (.istore_n 2, 1) := by decide +kernel
theorem dX9_drawTimes_25 : decode cX9_drawTimes 25 = .ok (.aload_n 0, 1) := by decide +kernel
theorem dX9_drawTimes_26 : decode cX9_drawTimes 26 = .ok (.getfield 74, 3) := by decide +kernel
theorem dX9_drawTimes_29 : decode cX9_drawTimes 29 = .ok (.iload_n 3, 1) := by decide +kernel
theorem dX9_drawTimes_30 : decode cX9_drawTimes 30 = .ok (.iload_n 2, 1) := by decide +kernel
theorem dX9_drawTimes_31 : decode cX9_drawTimes 31 = .ok (.bipush 8, 2) := by decide +kernel
theorem dX9_drawTimes_33 : decode cX9_drawTimes 33 = .ok (.iushr, 1) := by decide +kernel
theorem dX9_drawTimes_34 : decode cX9_drawTimes 34 = .ok (.aload_n 0, 1) := by decide +kernel
theorem dX9_drawTimes_35 : decode cX9_drawTimes 35 = .ok (.getfield 12, 3) := by decide +kernel
theorem dX9_drawTimes_38 : decode cX9_drawTimes 38 = .ok (.getfield 86, 3) := by decide +kernel
theorem dX9_drawTimes_41 : decode cX9_drawTimes 41 = .ok (.irem, 1) := by decide +kernel
theorem dX9_drawTimes_42 : decode cX9_drawTimes 42 = .ok (.iastore, 1) := by decide +kernel
theorem dX9_drawTimes_43 : decode cX9_drawTimes 43 = .ok (.iinc 3 1, 3) := by decide +kernel
theorem dX9_drawTimes_46 : decode cX9_drawTimes 46 = .ok (.goto (-42), 3) := by decide +kernel
theorem dX9_drawTimes_49 : decode cX9_drawTimes 49 = .ok (.iload_n 2, 1) := by decide +kernel
theorem dX9_drawTimes_50 : decode cX9_drawTimes 50 = .ok (.ireturn, 1) := by decide +kernel
theorem dX9_fillClasses_0 : decode cX9_fillClasses 0 = .ok (.iconst 0, 1) := by decide +kernel
theorem dX9_fillClasses_1 : decode cX9_fillClasses 1 = .ok (.istore_n 2, 1) := by decide +kernel
theorem dX9_fillClasses_2 : decode cX9_fillClasses 2 = .ok (.iload_n 2, 1) := by decide +kernel
theorem dX9_fillClasses_3 : decode cX9_fillClasses 3 = .ok (.aload_n 0, 1) := by decide +kernel
theorem dX9_fillClasses_4 : decode cX9_fillClasses 4 = .ok (.getfield 12, 3) := by decide +kernel
theorem dX9_fillClasses_7 : decode cX9_fillClasses 7 = .ok (.getfield 107, 3) := by decide +kernel
theorem dX9_fillClasses_10 : decode cX9_fillClasses 10 = .ok (.if_icmp .ge 61, 3) := by decide +kernel
theorem dX9_fillClasses_13 : decode cX9_fillClasses 13 = .ok (.aload_n 0, 1) := by decide +kernel
theorem dX9_fillClasses_14 : decode cX9_fillClasses 14 = .ok (.getfield 77, 3) := by decide +kernel
theorem dX9_fillClasses_17 : decode cX9_fillClasses 17 = .ok (.iload_n 2, 1) := by decide +kernel
theorem dX9_fillClasses_18 : decode cX9_fillClasses 18 = .ok (.iload_n 2, 1) := by decide +kernel
theorem dX9_fillClasses_19 : decode cX9_fillClasses 19 = .ok (.iastore, 1) := by decide +kernel
theorem dX9_fillClasses_20 : decode cX9_fillClasses 20 = .ok (.iload_n 2, 1) := by decide +kernel
theorem dX9_fillClasses_21 : decode cX9_fillClasses 21 = .ok (.iconst 1, 1) := by decide +kernel
theorem dX9_fillClasses_22 : decode cX9_fillClasses 22 = .ok (.isub, 1) := by decide +kernel
theorem dX9_fillClasses_23 : decode cX9_fillClasses 23 = .ok (.istore_n 3, 1) := by decide +kernel
theorem dX9_fillClasses_24 : decode cX9_fillClasses 24 = .ok (.iload_n 3, 1) := by decide +kernel
theorem dX9_fillClasses_25 : decode cX9_fillClasses 25 = .ok (.ifCond .lt 40, 3) := by decide +kernel
theorem dX9_fillClasses_28 : decode cX9_fillClasses 28 = .ok (.aload_n 1, 1) := by decide +kernel
theorem dX9_fillClasses_29 : decode cX9_fillClasses 29 = .ok (.iload_n 2, 1) := by decide +kernel
theorem dX9_fillClasses_30 : decode cX9_fillClasses 30 = .ok (.invokevirtual 302, 3) := by decide +kernel
theorem dX9_fillClasses_33 : decode cX9_fillClasses 33 = .ok (.ifCond .eq 32, 3) := by decide +kernel
theorem dX9_fillClasses_36 : decode cX9_fillClasses 36 = .ok (.aload_n 1, 1) := by decide +kernel
theorem dX9_fillClasses_37 : decode cX9_fillClasses 37 = .ok (.getfield 307, 3) := by decide +kernel
theorem dX9_fillClasses_40 : decode cX9_fillClasses 40 = .ok (.iload_n 3, 1) := by decide +kernel
theorem dX9_fillClasses_41 : decode cX9_fillClasses 41 = .ok (.laload, 1) := by decide +kernel
theorem dX9_fillClasses_42 : decode cX9_fillClasses 42 = .ok (.aload_n 1, 1) := by decide +kernel
theorem dX9_fillClasses_43 : decode cX9_fillClasses 43 = .ok (.getfield 307, 3) := by decide +kernel
theorem dX9_fillClasses_46 : decode cX9_fillClasses 46 = .ok (.iload_n 2, 1) := by decide +kernel
theorem dX9_fillClasses_47 : decode cX9_fillClasses 47 = .ok (.laload, 1) := by decide +kernel
theorem dX9_fillClasses_48 : decode cX9_fillClasses 48 = .ok (.lcmp, 1) := by decide +kernel
theorem dX9_fillClasses_49 : decode cX9_fillClasses 49 = .ok (.ifCond .ne 10, 3) := by decide +kernel
theorem dX9_fillClasses_52 : decode cX9_fillClasses 52 = .ok (.aload_n 0, 1) := by decide +kernel
theorem dX9_fillClasses_53 : decode cX9_fillClasses 53 = .ok (.getfield 77, 3) := by decide +kernel
theorem dX9_fillClasses_56 : decode cX9_fillClasses 56 = .ok (.iload_n 2, 1) := by decide +kernel
theorem dX9_fillClasses_57 : decode cX9_fillClasses 57 = .ok (.iload_n 3, 1) := by decide +kernel
theorem dX9_fillClasses_58 : decode cX9_fillClasses 58 = .ok (.iastore, 1) := by decide +kernel
theorem dX9_fillClasses_59 : decode cX9_fillClasses 59 = .ok (.iinc 3 (-1), 3) := by decide +kernel
theorem dX9_fillClasses_62 : decode cX9_fillClasses 62 = .ok (.goto (-38), 3) := by decide +kernel
theorem dX9_fillClasses_65 : decode cX9_fillClasses 65 = .ok (.iinc 2 1, 3) := by decide +kernel
theorem dX9_fillClasses_68 : decode cX9_fillClasses 68 = .ok (.goto (-66), 3) := by decide +kernel
theorem dX9_fillClasses_71 : decode cX9_fillClasses 71 = .ok (.return_, 1) := by decide +kernel
theorem dX9_isBroken_0 : decode cX9_isBroken 0 = .ok (.aload_n 0, 1) := by decide +kernel
theorem dX9_isBroken_1 : decode cX9_isBroken 1 = .ok (.getfield 12, 3) := by decide +kernel
theorem dX9_isBroken_4 : decode cX9_isBroken 4 = .ok (.getfield 258, 3) := by decide +kernel
theorem dX9_isBroken_7 : decode cX9_isBroken 7 = .ok (.iload_n 1, 1) := by decide +kernel
theorem dX9_isBroken_8 : decode cX9_isBroken 8 = .ok (.iconst (-1), 1) := by decide +kernel
theorem dX9_isBroken_9 : decode cX9_isBroken 9 = .ok (.ixor, 1) := by decide +kernel
theorem dX9_isBroken_10 : decode cX9_isBroken 10 = .ok (.sipush 255, 3) := by decide +kernel
theorem dX9_isBroken_13 : decode cX9_isBroken 13 = .ok (.iand, 1) := by decide +kernel
theorem dX9_isBroken_14 : decode cX9_isBroken 14 = .ok (.invokestatic 330, 3) := by decide +kernel
theorem dX9_isBroken_17 : decode cX9_isBroken 17 = .ok (.ifCond .ne 7, 3) := by decide +kernel
theorem dX9_isBroken_20 : decode cX9_isBroken 20 = .ok (.iconst 1, 1) := by decide +kernel
theorem dX9_isBroken_21 : decode cX9_isBroken 21 = .ok (.goto 4, 3) := by decide +kernel
theorem dX9_isBroken_24 : decode cX9_isBroken 24 = .ok (.iconst 0, 1) := by decide +kernel
theorem dX9_isBroken_25 : decode cX9_isBroken 25 = .ok (.ireturn, 1) := by decide +kernel
theorem dX9_isPrime_0 : decode cX9_isPrime 0 = .ok (.iload_n 0, 1) := by decide +kernel
theorem dX9_isPrime_1 : decode cX9_isPrime 1 = .ok (.iconst 2, 1) := by decide +kernel
theorem dX9_isPrime_2 : decode cX9_isPrime 2 = .ok (.if_icmp .lt 9, 3) := by decide +kernel
theorem dX9_isPrime_5 : decode cX9_isPrime 5 = .ok (.iload_n 0, 1) := by decide +kernel
theorem dX9_isPrime_6 : decode cX9_isPrime 6 = .ok (.bipush 97, 2) := by decide +kernel
theorem dX9_isPrime_8 : decode cX9_isPrime 8 = .ok (.if_icmp .le 5, 3) := by decide +kernel
theorem dX9_isPrime_11 : decode cX9_isPrime 11 = .ok (.iconst 0, 1) := by decide +kernel
theorem dX9_isPrime_12 : decode cX9_isPrime 12 = .ok (.ireturn, 1) := by decide +kernel
theorem dX9_isPrime_13 : decode cX9_isPrime 13 = .ok (.iconst 2, 1) := by decide +kernel
theorem dX9_isPrime_14 : decode cX9_isPrime 14 = .ok (.istore_n 1, 1) := by decide +kernel
theorem dX9_isPrime_15 : decode cX9_isPrime 15 = .ok (.iload_n 1, 1) := by decide +kernel
theorem dX9_isPrime_16 : decode cX9_isPrime 16 = .ok (.iload_n 1, 1) := by decide +kernel
theorem dX9_isPrime_17 : decode cX9_isPrime 17 = .ok (.imul, 1) := by decide +kernel
theorem dX9_isPrime_18 : decode cX9_isPrime 18 = .ok (.iload_n 0, 1) := by decide +kernel
theorem dX9_isPrime_19 : decode cX9_isPrime 19 = .ok (.if_icmp .gt 17, 3) := by decide +kernel
theorem dX9_isPrime_22 : decode cX9_isPrime 22 = .ok (.iload_n 0, 1) := by decide +kernel
theorem dX9_isPrime_23 : decode cX9_isPrime 23 = .ok (.iload_n 1, 1) := by decide +kernel
theorem dX9_isPrime_24 : decode cX9_isPrime 24 = .ok (.irem, 1) := by decide +kernel
theorem dX9_isPrime_25 : decode cX9_isPrime 25 = .ok (.ifCond .ne 5, 3) := by decide +kernel
theorem dX9_isPrime_28 : decode cX9_isPrime 28 = .ok (.iconst 0, 1) := by decide +kernel
theorem dX9_isPrime_29 : decode cX9_isPrime 29 = .ok (.ireturn, 1) := by decide +kernel
theorem dX9_isPrime_30 : decode cX9_isPrime 30 = .ok (.iinc 1 1, 3) := by decide +kernel
theorem dX9_isPrime_33 : decode cX9_isPrime 33 = .ok (.goto (-18), 3) := by decide +kernel
theorem dX9_isPrime_36 : decode cX9_isPrime 36 = .ok (.iconst 1, 1) := by decide +kernel
theorem dX9_isPrime_37 : decode cX9_isPrime 37 = .ok (.ireturn, 1) := by decide +kernel
theorem dX9_isBit_0 : decode cX9_isBit 0 = .ok (.iload_n 0, 1) := by decide +kernel
theorem dX9_isBit_1 : decode cX9_isBit 1 = .ok (.ifCond .eq 8, 3) := by decide +kernel
theorem dX9_isBit_4 : decode cX9_isBit 4 = .ok (.iload_n 0, 1) := by decide +kernel
theorem dX9_isBit_5 : decode cX9_isBit 5 = .ok (.iconst 1, 1) := by decide +kernel
theorem dX9_isBit_6 : decode cX9_isBit 6 = .ok (.if_icmp .ne 7, 3) := by decide +kernel
theorem dX9_isBit_9 : decode cX9_isBit 9 = .ok (.iconst 1, 1) := by decide +kernel
theorem dX9_isBit_10 : decode cX9_isBit 10 = .ok (.goto 4, 3) := by decide +kernel
theorem dX9_isBit_13 : decode cX9_isBit 13 = .ok (.iconst 0, 1) := by decide +kernel
theorem dX9_isBit_14 : decode cX9_isBit 14 = .ok (.ireturn, 1) := by decide +kernel
theorem dX9_isKind_0 : decode cX9_isKind 0 = .ok (.iload_n 0, 1) := by decide +kernel
theorem dX9_isKind_1 : decode cX9_isKind 1 = .ok (.ifCond .lt 15, 3) := by decide +kernel
theorem dX9_isKind_4 : decode cX9_isKind 4 = .ok (.iload_n 0, 1) := by decide +kernel
theorem dX9_isKind_5 : decode cX9_isKind 5 = .ok (.getstatic 334, 3) := by decide +kernel
theorem dX9_isKind_8 : decode cX9_isKind 8 = .ok (.arraylength, 1) := by decide +kernel
theorem dX9_isKind_9 : decode cX9_isKind 9 = .ok (.if_icmp .ge 7, 3) := by decide +kernel
theorem dX9_isKind_12 : decode cX9_isKind 12 = .ok (.iconst 1, 1) := by decide +kernel
theorem dX9_isKind_13 : decode cX9_isKind 13 = .ok (.goto 4, 3) := by decide +kernel
theorem dX9_isKind_16 : decode cX9_isKind 16 = .ok (.iconst 0, 1) := by decide +kernel
theorem dX9_isKind_17 : decode cX9_isKind 17 = .ok (.ireturn, 1) := by decide +kernel
theorem dX9_isWeight_0 : decode cX9_isWeight 0 = .ok (.iload_n 0, 1) := by decide +kernel
theorem dX9_isWeight_1 : decode cX9_isWeight 1 = .ok (.ifCond .lt 14, 3) := by decide +kernel
theorem dX9_isWeight_4 : decode cX9_isWeight 4 = .ok (.iload_n 0, 1) := by decide +kernel
theorem dX9_isWeight_5 : decode cX9_isWeight 5 = .ok (.sipush 999, 3) := by decide +kernel
theorem dX9_isWeight_8 : decode cX9_isWeight 8 = .ok (.if_icmp .gt 7, 3) := by decide +kernel
theorem dX9_isWeight_11 : decode cX9_isWeight 11 = .ok (.iconst 1, 1) := by decide +kernel
theorem dX9_isWeight_12 : decode cX9_isWeight 12 = .ok (.goto 4, 3) := by decide +kernel
theorem dX9_isWeight_15 : decode cX9_isWeight 15 = .ok (.iconst 0, 1) := by decide +kernel
theorem dX9_isWeight_16 : decode cX9_isWeight 16 = .ok (.ireturn, 1) := by decide +kernel
theorem dX9_isSheet_0 : decode cX9_isSheet 0 = .ok (.iload_n 0, 1) := by decide +kernel
theorem dX9_isSheet_1 : decode cX9_isSheet 1 = .ok (.ifCond .lt 12, 3) := by decide +kernel
theorem dX9_isSheet_4 : decode cX9_isSheet 4 = .ok (.iload_n 0, 1) := by decide +kernel
theorem dX9_isSheet_5 : decode cX9_isSheet 5 = .ok (.iconst 4, 1) := by decide +kernel
theorem dX9_isSheet_6 : decode cX9_isSheet 6 = .ok (.if_icmp .ge 7, 3) := by decide +kernel
theorem dX9_isSheet_9 : decode cX9_isSheet 9 = .ok (.iconst 1, 1) := by decide +kernel
theorem dX9_isSheet_10 : decode cX9_isSheet 10 = .ok (.goto 4, 3) := by decide +kernel
theorem dX9_isSheet_13 : decode cX9_isSheet 13 = .ok (.iconst 0, 1) := by decide +kernel
theorem dX9_isSheet_14 : decode cX9_isSheet 14 = .ok (.ireturn, 1) := by decide +kernel
theorem dX9_isHand_0 : decode cX9_isHand 0 = .ok (.iload_n 0, 1) := by decide +kernel
theorem dX9_isHand_1 : decode cX9_isHand 1 = .ok (.ifCond .lt 12, 3) := by decide +kernel
theorem dX9_isHand_4 : decode cX9_isHand 4 = .ok (.iload_n 0, 1) := by decide +kernel
theorem dX9_isHand_5 : decode cX9_isHand 5 = .ok (.iconst 4, 1) := by decide +kernel
theorem dX9_isHand_6 : decode cX9_isHand 6 = .ok (.if_icmp .ge 7, 3) := by decide +kernel
theorem dX9_isHand_9 : decode cX9_isHand 9 = .ok (.iconst 1, 1) := by decide +kernel
theorem dX9_isHand_10 : decode cX9_isHand 10 = .ok (.goto 4, 3) := by decide +kernel
theorem dX9_isHand_13 : decode cX9_isHand 13 = .ok (.iconst 0, 1) := by decide +kernel
theorem dX9_isHand_14 : decode cX9_isHand 14 = .ok (.ireturn, 1) := by decide +kernel
theorem dX9_isPoint_0 : decode cX9_isPoint 0 = .ok (.iload_n 0, 1) := by decide +kernel
theorem dX9_isPoint_1 : decode cX9_isPoint 1 = .ok (.ifCond .lt 13, 3) := by decide +kernel
theorem dX9_isPoint_4 : decode cX9_isPoint 4 = .ok (.iload_n 0, 1) := by decide +kernel
theorem dX9_isPoint_5 : decode cX9_isPoint 5 = .ok (.bipush 8, 2) := by decide +kernel
theorem dX9_isPoint_7 : decode cX9_isPoint 7 = .ok (.if_icmp .ge 7, 3) := by decide +kernel
theorem dX9_isPoint_10 : decode cX9_isPoint 10 = .ok (.iconst 1, 1) := by decide +kernel
theorem dX9_isPoint_11 : decode cX9_isPoint 11 = .ok (.goto 4, 3) := by decide +kernel
theorem dX9_isPoint_14 : decode cX9_isPoint 14 = .ok (.iconst 0, 1) := by decide +kernel
theorem dX9_isPoint_15 : decode cX9_isPoint 15 = .ok (.ireturn, 1) := by decide +kernel
theorem dX9_isInt_0 : decode cX9_isInt 0 = .ok (.lload_n 0, 1) := by decide +kernel
theorem dX9_isInt_1 : decode cX9_isInt 1 = .ok (.lload_n 0, 1) := by decide +kernel
theorem dX9_isInt_2 : decode cX9_isInt 2 = .ok (.l2i, 1) := by decide +kernel
theorem dX9_isInt_3 : decode cX9_isInt 3 = .ok (.i2l, 1) := by decide +kernel
theorem dX9_isInt_4 : decode cX9_isInt 4 = .ok (.lcmp, 1) := by decide +kernel
theorem dX9_isInt_5 : decode cX9_isInt 5 = .ok (.ifCond .ne 7, 3) := by decide +kernel
theorem dX9_isInt_8 : decode cX9_isInt 8 = .ok (.iconst 1, 1) := by decide +kernel
theorem dX9_isInt_9 : decode cX9_isInt 9 = .ok (.goto 4, 3) := by decide +kernel
theorem dX9_isInt_12 : decode cX9_isInt 12 = .ok (.iconst 0, 1) := by decide +kernel
theorem dX9_isInt_13 : decode cX9_isInt 13 = .ok (.ireturn, 1) := by decide +kernel
theorem dX9_isName_0 : decode cX9_isName 0 = .ok (.iconst 0, 1) := by decide +kernel
theorem dX9_isName_1 : decode cX9_isName 1 = .ok (.istore_n 2, 1) := by decide +kernel
theorem dX9_isName_2 : decode cX9_isName 2 = .ok (.bipush 56, 2) := by decide +kernel
theorem dX9_isName_4 : decode cX9_isName 4 = .ok (.istore_n 3, 1) := by decide +kernel
theorem dX9_isName_5 : decode cX9_isName 5 = .ok (.iload_n 3, 1) := by decide +kernel
theorem dX9_isName_6 : decode cX9_isName 6 = .ok (.ifCond .lt 49, 3) := by decide +kernel
theorem dX9_isName_9 : decode cX9_isName 9 = .ok (.lload_n 0, 1) := by decide +kernel
theorem dX9_isName_10 : decode cX9_isName 10 = .ok (.iload_n 3, 1) := by decide +kernel
theorem dX9_isName_11 : decode cX9_isName 11 = .ok (.lushr, 1) := by decide +kernel
theorem dX9_isName_12 : decode cX9_isName 12 = .ok (.ldc2_w 337, 3) := by decide +kernel
theorem dX9_isName_15 : decode cX9_isName 15 = .ok (.land, 1) := by decide +kernel
theorem dX9_isName_16 : decode cX9_isName 16 = .ok (.l2i, 1) := by decide +kernel
theorem dX9_isName_17 : decode cX9_isName 17 = .ok (.istore 4, 2) := by decide +kernel
theorem dX9_isName_19 : decode cX9_isName 19 = .ok (.iload 4, 2) := by decide +kernel
theorem dX9_isName_21 : decode cX9_isName 21 = .ok (.ifCond .ne 8, 3) := by decide +kernel
theorem dX9_isName_24 : decode cX9_isName 24 = .ok (.iconst 1, 1) := by decide +kernel
theorem dX9_isName_25 : decode cX9_isName 25 = .ok (.istore_n 2, 1) := by decide +kernel
theorem dX9_isName_26 : decode cX9_isName 26 = .ok (.goto 23, 3) := by decide +kernel
theorem dX9_isName_29 : decode cX9_isName 29 = .ok (.iload_n 2, 1) := by decide +kernel
theorem dX9_isName_30 : decode cX9_isName 30 = .ok (.ifCond .ne 17, 3) := by decide +kernel
theorem dX9_isName_33 : decode cX9_isName 33 = .ok (.iload 4, 2) := by decide +kernel
theorem dX9_isName_35 : decode cX9_isName 35 = .ok (.bipush 97, 2) := by decide +kernel
theorem dX9_isName_37 : decode cX9_isName 37 = .ok (.if_icmp .lt 10, 3) := by decide +kernel
theorem dX9_isName_40 : decode cX9_isName 40 = .ok (.iload 4, 2) := by decide +kernel
theorem dX9_isName_42 : decode cX9_isName 42 = .ok (.bipush 122, 2) := by decide +kernel
theorem dX9_isName_44 : decode cX9_isName 44 = .ok (.if_icmp .le 5, 3) := by decide +kernel
theorem dX9_isName_47 : decode cX9_isName 47 = .ok (.iconst 0, 1) := by decide +kernel
theorem dX9_isName_48 : decode cX9_isName 48 = .ok (.ireturn, 1) := by decide +kernel
theorem dX9_isName_49 : decode cX9_isName 49 = .ok (.iinc 3 (-8), 3) := by decide +kernel
theorem dX9_isName_52 : decode cX9_isName 52 = .ok (.goto (-47), 3) := by decide +kernel
theorem dX9_isName_55 : decode cX9_isName 55 = .ok (.iload_n 2, 1) := by decide +kernel
theorem dX9_isName_56 : decode cX9_isName 56 = .ok (.ifCond .eq 13, 3) := by decide +kernel
theorem dX9_isName_59 : decode cX9_isName 59 = .ok (.lload_n 0, 1) := by decide +kernel
theorem dX9_isName_60 : decode cX9_isName 60 = .ok (.lconst 0, 1) := by decide +kernel
theorem dX9_isName_61 : decode cX9_isName 61 = .ok (.lcmp, 1) := by decide +kernel
theorem dX9_isName_62 : decode cX9_isName 62 = .ok (.ifCond .eq 7, 3) := by decide +kernel
theorem dX9_isName_65 : decode cX9_isName 65 = .ok (.iconst 1, 1) := by decide +kernel
theorem dX9_isName_66 : decode cX9_isName 66 = .ok (.goto 4, 3) := by decide +kernel
theorem dX9_isName_69 : decode cX9_isName 69 = .ok (.iconst 0, 1) := by decide +kernel
theorem dX9_isName_70 : decode cX9_isName 70 = .ok (.ireturn, 1) := by decide +kernel
theorem dX9_isUnder_0 : decode cX9_isUnder 0 = .ok (.iload_n 0, 1) := by decide +kernel
theorem dX9_isUnder_1 : decode cX9_isUnder 1 = .ok (.istore_n 2, 1) := by decide +kernel
theorem dX9_isUnder_2 : decode cX9_isUnder 2 = .ok (.iconst 0, 1) := by decide +kernel
theorem dX9_isUnder_3 : decode cX9_isUnder 3 = .ok (.istore_n 3, 1) := by decide +kernel
theorem dX9_isUnder_4 : decode cX9_isUnder 4 = .ok (.iload_n 3, 1) := by decide +kernel
theorem dX9_isUnder_5 : decode cX9_isUnder 5 = .ok (.getstatic 334, 3) := by decide +kernel
theorem dX9_isUnder_8 : decode cX9_isUnder 8 = .ok (.arraylength, 1) := by decide +kernel
theorem dX9_isUnder_9 : decode cX9_isUnder 9 = .ok (.if_icmp .ge 29, 3) := by decide +kernel
theorem dX9_isUnder_12 : decode cX9_isUnder 12 = .ok (.iload_n 2, 1) := by decide +kernel
theorem dX9_isUnder_13 : decode cX9_isUnder 13 = .ok (.invokestatic 101, 3) := by decide +kernel
theorem dX9_isUnder_16 : decode cX9_isUnder 16 = .ok (.ifCond .eq 22, 3) := by decide +kernel
theorem dX9_isUnder_19 : decode cX9_isUnder 19 = .ok (.iload_n 2, 1) := by decide +kernel
theorem dX9_isUnder_20 : decode cX9_isUnder 20 = .ok (.iload_n 1, 1) := by decide +kernel
theorem dX9_isUnder_21 : decode cX9_isUnder 21 = .ok (.if_icmp .ne 5, 3) := by decide +kernel
theorem dX9_isUnder_24 : decode cX9_isUnder 24 = .ok (.iconst 1, 1) := by decide +kernel
theorem dX9_isUnder_25 : decode cX9_isUnder 25 = .ok (.ireturn, 1) := by decide +kernel
theorem dX9_isUnder_26 : decode cX9_isUnder 26 = .ok (.getstatic 334, 3) := by decide +kernel
theorem dX9_isUnder_29 : decode cX9_isUnder 29 = .ok (.iload_n 2, 1) := by decide +kernel
theorem dX9_isUnder_30 : decode cX9_isUnder 30 = .ok (.iaload, 1) := by decide +kernel
theorem dX9_isUnder_31 : decode cX9_isUnder 31 = .ok (.istore_n 2, 1) := by decide +kernel
theorem dX9_isUnder_32 : decode cX9_isUnder 32 = .ok (.iinc 3 1, 3) := by decide +kernel
theorem dX9_isUnder_35 : decode cX9_isUnder 35 = .ok (.goto (-31), 3) := by decide +kernel
theorem dX9_isUnder_38 : decode cX9_isUnder 38 = .ok (.iconst 0, 1) := by decide +kernel
theorem dX9_isUnder_39 : decode cX9_isUnder 39 = .ok (.ireturn, 1) := by decide +kernel
theorem dX9_restOf_0 : decode cX9_restOf 0 = .ok (.lload_n 0, 1) := by decide +kernel
theorem dX9_restOf_1 : decode cX9_restOf 1 = .ok (.iload_n 2, 1) := by decide +kernel
theorem dX9_restOf_2 : decode cX9_restOf 2 = .ok (.i2l, 1) := by decide +kernel
theorem dX9_restOf_3 : decode cX9_restOf 3 = .ok (.lrem, 1) := by decide +kernel
theorem dX9_restOf_4 : decode cX9_restOf 4 = .ok (.l2i, 1) := by decide +kernel
theorem dX9_restOf_5 : decode cX9_restOf 5 = .ok (.istore_n 3, 1) := by decide +kernel
theorem dX9_restOf_6 : decode cX9_restOf 6 = .ok (.iload_n 3, 1) := by decide +kernel
theorem dX9_restOf_7 : decode cX9_restOf 7 = .ok (.ifCond .ge 9, 3) := by decide +kernel
theorem dX9_restOf_10 : decode cX9_restOf 10 = .ok (.iload_n 3, 1) := by decide +kernel
theorem dX9_restOf_11 : decode cX9_restOf 11 = .ok (.iload_n 2, 1) := by decide +kernel
theorem dX9_restOf_12 : decode cX9_restOf 12 = .ok (.iadd, 1) := by decide +kernel
theorem dX9_restOf_13 : decode cX9_restOf 13 = .ok (.goto 4, 3) := by decide +kernel
