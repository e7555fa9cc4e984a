theorem dX10_findsRays_28 : decode cX10_findsRays 28 = .ok (.iconst 0, 1) := by decide +kernel
theorem dX10_findsRays_29 : decode cX10_findsRays 29 = .ok (.istore 4, 2) := by decide +kernel
theorem dX10_findsRays_31 : decode cX10_findsRays 31 = .ok (.iload 4, 2) := by decide +kernel
theorem dX10_findsRays_33 : decode cX10_findsRays 33 = .ok (.aload_n 0, 1) := by decide +kernel
theorem dX10_findsRays_34 : decode cX10_findsRays 34 = .ok (.getfield 244, 3) := by decide +kernel
theorem dX10_findsRays_37 : decode cX10_findsRays 37 = .ok (.if_icmp .ge 21, 3) := by decide +kernel
theorem dX10_findsRays_40 : decode cX10_findsRays 40 = .ok (.aload_n 0, 1) := by decide +kernel
theorem dX10_findsRays_41 : decode cX10_findsRays 41 = .ok (.getfield 42, 3) := by decide +kernel
theorem dX10_findsRays_44 : decode cX10_findsRays 44 = .ok (.iload 4, 2) := by decide +kernel
theorem dX10_findsRays_46 : decode cX10_findsRays 46 = .ok (.laload, 1) := by decide +kernel
theorem dX10_findsRays_47 : decode cX10_findsRays 47 = .ok (.lload_n 2, 1) := by decide +kernel
theorem dX10_findsRays_48 : decode cX10_findsRays 48 = .ok (.lcmp, 1) := by decide +kernel
theorem dX10_findsRays_49 : decode cX10_findsRays 49 = .ok (.ifCond .ge 9, 3) := by decide +kernel
theorem dX10_findsRays_52 : decode cX10_findsRays 52 = .ok (.iinc 4 1, 3) := by decide +kernel
theorem dX10_findsRays_55 : decode cX10_findsRays 55 = .ok (.goto (-24), 3) := by decide +kernel
theorem dX10_findsRays_58 : decode cX10_findsRays 58 = .ok (.lload_n 2, 1) := by decide +kernel
theorem dX10_findsRays_59 : decode cX10_findsRays 59 = .ok (.lconst 0, 1) := by decide +kernel
theorem dX10_findsRays_60 : decode cX10_findsRays 60 = .ok (.lcmp, 1) := by decide +kernel
theorem dX10_findsRays_61 : decode cX10_findsRays 61 = .ok (.ifCond .lt 80, 3) := by decide +kernel
theorem dX10_findsRays_64 : decode cX10_findsRays 64 = .ok (.iload 4, 2) := by decide +kernel
theorem dX10_findsRays_66 : decode cX10_findsRays 66 = .ok (.aload_n 0, 1) := by decide +kernel
theorem dX10_findsRays_67 : decode cX10_findsRays 67 = .ok (.getfield 244, 3) := by decide +kernel
theorem dX10_findsRays_70 : decode cX10_findsRays 70 = .ok (.if_icmp .ge 18, 3) := by decide +kernel
theorem dX10_findsRays_73 : decode cX10_findsRays 73 = .ok (.aload_n 0, 1) := by decide +kernel
theorem dX10_findsRays_74 : decode cX10_findsRays 74 = .ok (.getfield 42, 3) := by decide +kernel
theorem dX10_findsRays_77 : decode cX10_findsRays 77 = .ok (.iload 4, 2) := by decide +kernel
theorem dX10_findsRays_79 : decode cX10_findsRays 79 = .ok (.laload, 1) := by decide +kernel
theorem dX10_findsRays_80 : decode cX10_findsRays 80 = .ok (.lload_n 2, 1) := by decide +kernel
theorem dX10_findsRays_81 : decode cX10_findsRays 81 = .ok (.lcmp, 1) := by decide +kernel
theorem dX10_findsRays_82 : decode cX10_findsRays 82 = .ok (.ifCond .ne 6, 3) := by decide +kernel
theorem dX10_findsRays_85 : decode cX10_findsRays 85 = .ok (.goto 56, 3) := by decide +kernel
theorem dX10_findsRays_88 : decode cX10_findsRays 88 = .ok (.aload_n 0, 1) := by decide +kernel
theorem dX10_findsRays_89 : decode cX10_findsRays 89 = .ok (.getfield 244, 3) := by decide +kernel
theorem dX10_findsRays_92 : decode cX10_findsRays 92 = .ok (.istore 5, 2) := by decide +kernel
theorem dX10_findsRays_94 : decode cX10_findsRays 94 = .ok (.iload 5, 2) := by decide +kernel
theorem dX10_findsRays_96 : decode cX10_findsRays 96 = .ok (.iload 4, 2) := by decide +kernel
theorem dX10_findsRays_98 : decode cX10_findsRays 98 = .ok (.if_icmp .le 25, 3) := by decide +kernel
theorem dX10_findsRays_101 : decode cX10_findsRays 101 = .ok (.aload_n 0, 1) := by decide +kernel
theorem dX10_findsRays_102 : decode cX10_findsRays 102 = .ok (.getfield 42, 3) := by decide +kernel
theorem dX10_findsRays_105 : decode cX10_findsRays 105 = .ok (.iload 5, 2) := by decide +kernel
theorem dX10_findsRays_107 : decode cX10_findsRays 107 = .ok (.aload_n 0, 1) := by decide +kernel
theorem dX10_findsRays_108 : decode cX10_findsRays 108 = .ok (.getfield 42, 3) := by decide +kernel
theorem dX10_findsRays_111 : decode cX10_findsRays 111 = .ok (.iload 5, 2) := by decide +kernel
theorem dX10_findsRays_113 : decode cX10_findsRays 113 = .ok (.iconst 1, 1) := by decide +kernel
theorem dX10_findsRays_114 : decode cX10_findsRays 114 = .ok (.isub, 1) := by decide +kernel
theorem dX10_findsRays_115 : decode cX10_findsRays 115 = .ok (.laload, 1) := by decide +kernel
theorem dX10_findsRays_116 : decode cX10_findsRays 116 = .ok (.lastore, 1) := by decide +kernel
theorem dX10_findsRays_117 : decode cX10_findsRays 117 = .ok (.iinc 5 (-1), 3) := by decide +kernel
theorem dX10_findsRays_120 : decode cX10_findsRays 120 = .ok (.goto (-26), 3) := by decide +kernel
theorem dX10_findsRays_123 : decode cX10_findsRays 123 = .ok (.aload_n 0, 1) := by decide +kernel
theorem dX10_findsRays_124 : decode cX10_findsRays 124 = .ok (.getfield 42, 3) := by decide +kernel
theorem dX10_findsRays_127 : decode cX10_findsRays 127 = .ok (.iload 4, 2) := by decide +kernel
theorem dX10_findsRays_129 : decode cX10_findsRays 129 = .ok (.lload_n 2, 1) := by decide +kernel
theorem dX10_findsRays_130 : decode cX10_findsRays 130 = .ok (.lastore, 1) := by decide +kernel
theorem dX10_findsRays_131 : decode cX10_findsRays 131 = .ok (.aload_n 0, 1) := by decide +kernel
theorem dX10_findsRays_132 : decode cX10_findsRays 132 = .ok (.dup, 1) := by decide +kernel
theorem dX10_findsRays_133 : decode cX10_findsRays 133 = .ok (.getfield 244, 3) := by decide +kernel
theorem dX10_findsRays_136 : decode cX10_findsRays 136 = .ok (.iconst 1, 1) := by decide +kernel
theorem dX10_findsRays_137 : decode cX10_findsRays 137 = .ok (.iadd, 1) := by decide +kernel
theorem dX10_findsRays_138 : decode cX10_findsRays 138 = .ok (.putfield 244, 3) := by decide +kernel
theorem dX10_findsRays_141 : decode cX10_findsRays 141 = .ok (.iinc 1 1, 3) := by decide +kernel
theorem dX10_findsRays_144 : decode cX10_findsRays 144 = .ok (.goto (-137), 3) := by decide +kernel
theorem dX10_findsRays_147 : decode cX10_findsRays 147 = .ok (.return_, 1) := by decide +kernel
theorem dX10_rays_0 : decode cX10_rays 0 = .ok (.aload_n 0, 1) := by decide +kernel
theorem dX10_rays_1 : decode cX10_rays 1 = .ok (.invokevirtual 251, 3) := by decide +kernel
theorem dX10_rays_4 : decode cX10_rays 4 = .ok (.aload_n 0, 1) := by decide +kernel
theorem dX10_rays_5 : decode cX10_rays 5 = .ok (.getfield 244, 3) := by decide +kernel
theorem dX10_rays_8 : decode cX10_rays 8 = .ok (.ireturn, 1) := by decide +kernel
theorem dX10_ray_0 : decode cX10_ray 0 = .ok (.aload_n 0, 1) := by decide +kernel
theorem dX10_ray_1 : decode cX10_ray 1 = .ok (.invokevirtual 251, 3) := by decide +kernel
theorem dX10_ray_4 : decode cX10_ray 4 = .ok (.iload_n 1, 1) := by decide +kernel
theorem dX10_ray_5 : decode cX10_ray 5 = .ok (.i2l, 1) := by decide +kernel
theorem dX10_ray_6 : decode cX10_ray 6 = .ok (.lconst 0, 1) := by decide +kernel
theorem dX10_ray_7 : decode cX10_ray 7 = .ok (.aload_n 0, 1) := by decide +kernel
theorem dX10_ray_8 : decode cX10_ray 8 = .ok (.getfield 244, 3) := by decide +kernel
theorem dX10_ray_11 : decode cX10_ray 11 = .ok (.iconst 1, 1) := by decide +kernel
theorem dX10_ray_12 : decode cX10_ray 12 = .ok (.isub, 1) := by decide +kernel
theorem dX10_ray_13 : decode cX10_ray 13 = .ok (.i2l, 1) := by decide +kernel
theorem dX10_ray_14 : decode cX10_ray 14 = .ok (.invokestatic 78, 3) := by decide +kernel
theorem dX10_ray_17 : decode cX10_ray 17 = .ok (.ifCond .eq 12, 3) := by decide +kernel
theorem dX10_ray_20 : decode cX10_ray 20 = .ok (.aload_n 0, 1) := by decide +kernel
theorem dX10_ray_21 : decode cX10_ray 21 = .ok (.getfield 42, 3) := by decide +kernel
theorem dX10_ray_24 : decode cX10_ray 24 = .ok (.iload_n 1, 1) := by decide +kernel
theorem dX10_ray_25 : decode cX10_ray 25 = .ok (.laload, 1) := by decide +kernel
theorem dX10_ray_26 : decode cX10_ray 26 = .ok (.goto 6, 3) := by decide +kernel
theorem dX10_ray_29 : decode cX10_ray 29 = .ok (.ldc2_w 136, 3) := by decide +kernel
theorem dX10_ray_32 : decode cX10_ray 32 = .ok (.lreturn, 1) := by decide +kernel
theorem dX10_rayOf_0 : decode cX10_rayOf 0 = .ok (.aload_n 0, 1) := by decide +kernel
theorem dX10_rayOf_1 : decode cX10_rayOf 1 = .ok (.iload_n 1, 1) := by decide +kernel
theorem dX10_rayOf_2 : decode cX10_rayOf 2 = .ok (.invokevirtual 104, 3) := by decide +kernel
theorem dX10_rayOf_5 : decode cX10_rayOf 5 = .ok (.ifCond .eq 13, 3) := by decide +kernel
theorem dX10_rayOf_8 : decode cX10_rayOf 8 = .ok (.iload_n 2, 1) := by decide +kernel
theorem dX10_rayOf_9 : decode cX10_rayOf 9 = .ok (.i2l, 1) := by decide +kernel
theorem dX10_rayOf_10 : decode cX10_rayOf 10 = .ok (.lconst 0, 1) := by decide +kernel
theorem dX10_rayOf_11 : decode cX10_rayOf 11 = .ok (.lconst 1, 1) := by decide +kernel
theorem dX10_rayOf_12 : decode cX10_rayOf 12 = .ok (.invokestatic 78, 3) := by decide +kernel
theorem dX10_rayOf_15 : decode cX10_rayOf 15 = .ok (.ifCond .ne 6, 3) := by decide +kernel
theorem dX10_rayOf_18 : decode cX10_rayOf 18 = .ok (.bipush (-2), 2) := by decide +kernel
theorem dX10_rayOf_20 : decode cX10_rayOf 20 = .ok (.ireturn, 1) := by decide +kernel
theorem dX10_rayOf_21 : decode cX10_rayOf 21 = .ok (.aload_n 0, 1) := by decide +kernel
theorem dX10_rayOf_22 : decode cX10_rayOf 22 = .ok (.invokevirtual 251, 3) := by decide +kernel
theorem dX10_rayOf_25 : decode cX10_rayOf 25 = .ok (.aload_n 0, 1) := by decide +kernel
theorem dX10_rayOf_26 : decode cX10_rayOf 26 = .ok (.iload_n 1, 1) := by decide +kernel
theorem dX10_rayOf_27 : decode cX10_rayOf 27 = .ok (.iload_n 2, 1) := by decide +kernel
theorem dX10_rayOf_28 : decode cX10_rayOf 28 = .ok (.invokevirtual 247, 3) := by decide +kernel
theorem dX10_rayOf_31 : decode cX10_rayOf 31 = .ok (.lstore_n 3, 1) := by decide +kernel
theorem dX10_rayOf_32 : decode cX10_rayOf 32 = .ok (.iconst 0, 1) := by decide +kernel
theorem dX10_rayOf_33 : decode cX10_rayOf 33 = .ok (.istore 5, 2) := by decide +kernel
theorem dX10_rayOf_35 : decode cX10_rayOf 35 = .ok (.iload 5, 2) := by decide +kernel
theorem dX10_rayOf_37 : decode cX10_rayOf 37 = .ok (.aload_n 0, 1) := by decide +kernel
theorem dX10_rayOf_38 : decode cX10_rayOf 38 = .ok (.getfield 244, 3) := by decide +kernel
theorem dX10_rayOf_41 : decode cX10_rayOf 41 = .ok (.if_icmp .ge 24, 3) := by decide +kernel
theorem dX10_rayOf_44 : decode cX10_rayOf 44 = .ok (.aload_n 0, 1) := by decide +kernel
theorem dX10_rayOf_45 : decode cX10_rayOf 45 = .ok (.getfield 42, 3) := by decide +kernel
theorem dX10_rayOf_48 : decode cX10_rayOf 48 = .ok (.iload 5, 2) := by decide +kernel
theorem dX10_rayOf_50 : decode cX10_rayOf 50 = .ok (.laload, 1) := by decide +kernel
theorem dX10_rayOf_51 : decode cX10_rayOf 51 = .ok (.lload_n 3, 1) := by decide +kernel
theorem dX10_rayOf_52 : decode cX10_rayOf 52 = .ok (.lcmp, 1) := by decide +kernel
theorem dX10_rayOf_53 : decode cX10_rayOf 53 = .ok (.ifCond .ne 6, 3) := by decide +kernel
theorem dX10_rayOf_56 : decode cX10_rayOf 56 = .ok (.iload 5, 2) := by decide +kernel
theorem dX10_rayOf_58 : decode cX10_rayOf 58 = .ok (.ireturn, 1) := by decide +kernel
theorem dX10_rayOf_59 : decode cX10_rayOf 59 = .ok (.iinc 5 1, 3) := by decide +kernel
theorem dX10_rayOf_62 : decode cX10_rayOf 62 = .ok (.goto (-27), 3) := by decide +kernel
theorem dX10_rayOf_65 : decode cX10_rayOf 65 = .ok (.iconst (-1), 1) := by decide +kernel
theorem dX10_rayOf_66 : decode cX10_rayOf 66 = .ok (.ireturn, 1) := by decide +kernel
theorem dX10_isPoint_0 : decode cX10_isPoint 0 = .ok (.iload_n 0, 1) := by decide +kernel
theorem dX10_isPoint_1 : decode cX10_isPoint 1 = .ok (.i2l, 1) := by decide +kernel
theorem dX10_isPoint_2 : decode cX10_isPoint 2 = .ok (.lconst 0, 1) := by decide +kernel
theorem dX10_isPoint_3 : decode cX10_isPoint 3 = .ok (.ldc2_w 254, 3) := by decide +kernel
theorem dX10_isPoint_6 : decode cX10_isPoint 6 = .ok (.invokestatic 78, 3) := by decide +kernel
theorem dX10_isPoint_9 : decode cX10_isPoint 9 = .ok (.ireturn, 1) := by decide +kernel
theorem dX10_link_0 : decode cX10_link 0 = .ok (.iload_n 1, 1) := by decide +kernel
theorem dX10_link_1 : decode cX10_link 1 = .ok (.invokestatic 256, 3) := by decide +kernel
theorem dX10_link_4 : decode cX10_link 4 = .ok (.ifCond .eq 25, 3) := by decide +kernel
theorem dX10_link_7 : decode cX10_link 7 = .ok (.iload_n 2, 1) := by decide +kernel
theorem dX10_link_8 : decode cX10_link 8 = .ok (.invokestatic 256, 3) := by decide +kernel
theorem dX10_link_11 : decode cX10_link 11 = .ok (.ifCond .eq 18, 3) := by decide +kernel
theorem dX10_link_14 : decode cX10_link 14 = .ok (.iload_n 1, 1) := by decide +kernel
theorem dX10_link_15 : decode cX10_link 15 = .ok (.iload_n 2, 1) := by decide +kernel
theorem dX10_link_16 : decode cX10_link 16 = .ok (.if_icmp .eq 13, 3) := by decide +kernel
theorem dX10_link_19 : decode cX10_link 19 = .ok (.iload_n 3, 1) := by decide +kernel
theorem dX10_link_20 : decode cX10_link 20 = .ok (.i2l, 1) := by decide +kernel
theorem dX10_link_21 : decode cX10_link 21 = .ok (.lconst 0, 1) := by decide +kernel
theorem dX10_link_22 : decode cX10_link 22 = .ok (.lconst 1, 1) := by decide +kernel
theorem dX10_link_23 : decode cX10_link 23 = .ok (.invokestatic 78, 3) := by decide +kernel
theorem dX10_link_26 : decode cX10_link 26 = .ok (.ifCond .ne 6, 3) := by decide +kernel
theorem dX10_link_29 : decode cX10_link 29 = .ok (.bipush (-2), 2) := by decide +kernel
theorem dX10_link_31 : decode cX10_link 31 = .ok (.ireturn, 1) := by decide +kernel
theorem dX10_link_32 : decode cX10_link 32 = .ok (.aload_n 0, 1) := by decide +kernel
theorem dX10_link_33 : decode cX10_link 33 = .ok (.getfield 30, 3) := by decide +kernel
theorem dX10_link_36 : decode cX10_link 36 = .ok (.iload_n 1, 1) := by decide +kernel
theorem dX10_link_37 : decode cX10_link 37 = .ok (.iaload, 1) := by decide +kernel
theorem dX10_link_38 : decode cX10_link 38 = .ok (.iload_n 2, 1) := by decide +kernel
theorem dX10_link_39 : decode cX10_link 39 = .ok (.ishr, 1) := by decide +kernel
theorem dX10_link_40 : decode cX10_link 40 = .ok (.iconst 1, 1) := by decide +kernel
theorem dX10_link_41 : decode cX10_link 41 = .ok (.iand, 1) := by decide +kernel
theorem dX10_link_42 : decode cX10_link 42 = .ok (.istore 4, 2) := by decide +kernel
theorem dX10_link_44 : decode cX10_link 44 = .ok (.iload_n 3, 1) := by decide +kernel
theorem dX10_link_45 : decode cX10_link 45 = .ok (.iconst 1, 1) := by decide +kernel
theorem dX10_link_46 : decode cX10_link 46 = .ok (.if_icmp .ne 37, 3) := by decide +kernel
theorem dX10_link_49 : decode cX10_link 49 = .ok (.iload 4, 2) := by decide +kernel
theorem dX10_link_51 : decode cX10_link 51 = .ok (.ifCond .ne 32, 3) := by decide +kernel
theorem dX10_link_54 : decode cX10_link 54 = .ok (.aload_n 0, 1) := by decide +kernel
theorem dX10_link_55 : decode cX10_link 55 = .ok (.getfield 30, 3) := by decide +kernel
theorem dX10_link_58 : decode cX10_link 58 = .ok (.iload_n 1, 1) := by decide +kernel
theorem dX10_link_59 : decode cX10_link 59 = .ok (.iaload, 1) := by decide +kernel
theorem dX10_link_60 : decode cX10_link 60 = .ok (.invokestatic 164, 3) := by decide +kernel
theorem dX10_link_63 : decode cX10_link 63 = .ok (.iconst 3, 1) := by decide +kernel
theorem dX10_link_64 : decode cX10_link 64 = .ok (.if_icmp .eq 16, 3) := by decide +kernel
theorem dX10_link_67 : decode cX10_link 67 = .ok (.aload_n 0, 1) := by decide +kernel
theorem dX10_link_68 : decode cX10_link 68 = .ok (.getfield 30, 3) := by decide +kernel
theorem dX10_link_71 : decode cX10_link 71 = .ok (.iload_n 2, 1) := by decide +kernel
theorem dX10_link_72 : decode cX10_link 72 = .ok (.iaload, 1) := by decide +kernel
theorem dX10_link_73 : decode cX10_link 73 = .ok (.invokestatic 164, 3) := by decide +kernel
theorem dX10_link_76 : decode cX10_link 76 = .ok (.iconst 3, 1) := by decide +kernel
theorem dX10_link_77 : decode cX10_link 77 = .ok (.if_icmp .ne 6, 3) := by decide +kernel
theorem dX10_link_80 : decode cX10_link 80 = .ok (.bipush (-3), 2) := by decide +kernel
theorem dX10_link_82 : decode cX10_link 82 = .ok (.ireturn, 1) := by decide +kernel
theorem dX10_link_83 : decode cX10_link 83 = .ok (.iload_n 3, 1) := by decide +kernel
theorem dX10_link_84 : decode cX10_link 84 = .ok (.iload 4, 2) := by decide +kernel
theorem dX10_link_86 : decode cX10_link 86 = .ok (.if_icmp .eq 27, 3) := by decide +kernel
theorem dX10_link_89 : decode cX10_link 89 = .ok (.aload_n 0, 1) := by decide +kernel
theorem dX10_link_90 : decode cX10_link 90 = .ok (.getfield 30, 3) := by decide +kernel
theorem dX10_link_93 : decode cX10_link 93 = .ok (.iload_n 1, 1) := by decide +kernel
theorem dX10_link_94 : decode cX10_link 94 = .ok (.dup2, 1) := by decide +kernel
theorem dX10_link_95 : decode cX10_link 95 = .ok (.iaload, 1) := by decide +kernel
theorem dX10_link_96 : decode cX10_link 96 = .ok (.iconst 1, 1) := by decide +kernel
theorem dX10_link_97 : decode cX10_link 97 = .ok (.iload_n 2, 1) := by decide +kernel
theorem dX10_link_98 : decode cX10_link 98 = .ok (.ishl, 1) := by decide +kernel
theorem dX10_link_99 : decode cX10_link 99 = .ok (.ixor, 1) := by decide +kernel
theorem dX10_link_100 : decode cX10_link 100 = .ok (.iastore, 1) := by decide +kernel
theorem dX10_link_101 : decode cX10_link 101 = .ok (.aload_n 0, 1) := by decide +kernel
theorem dX10_link_102 : decode cX10_link 102 = .ok (.getfield 30, 3) := by decide +kernel
theorem dX10_link_105 : decode cX10_link 105 = .ok (.iload_n 2, 1) := by decide +kernel
theorem dX10_link_106 : decode cX10_link 106 = .ok (.dup2, 1) := by decide +kernel
theorem dX10_link_107 : decode cX10_link 107 = .ok (.iaload, 1) := by decide +kernel
theorem dX10_link_108 : decode cX10_link 108 = .ok (.iconst 1, 1) := by decide +kernel
theorem dX10_link_109 : decode cX10_link 109 = .ok (.iload_n 1, 1) := by decide +kernel
theorem dX10_link_110 : decode cX10_link 110 = .ok (.ishl, 1) := by decide +kernel
theorem dX10_link_111 : decode cX10_link 111 = .ok (.ixor, 1) := by decide +kernel
theorem dX10_link_112 : decode cX10_link 112 = .ok (.iastore, 1) := by decide +kernel
theorem dX10_link_113 : decode cX10_link 113 = .ok (.iload 4, 2) := by decide +kernel
theorem dX10_link_115 : decode cX10_link 115 = .ok (.ireturn, 1) := by decide +kernel
theorem dX10_isBroken_0 : decode cX10_isBroken 0 = .ok (.sipush 255, 3) := by decide +kernel
theorem dX10_isBroken_3 : decode cX10_isBroken 3 = .ok (.iload_n 1, 1) := by decide +kernel
theorem dX10_isBroken_4 : decode cX10_isBroken 4 = .ok (.iconst (-1), 1) := by decide +kernel
theorem dX10_isBroken_5 : decode cX10_isBroken 5 = .ok (.ixor, 1) := by decide +kernel
theorem dX10_isBroken_6 : decode cX10_isBroken 6 = .ok (.iand, 1) := by decide +kernel
theorem dX10_isBroken_7 : decode cX10_isBroken 7 = .ok (.istore_n 2, 1) := by decide +kernel
theorem dX10_isBroken_8 : decode cX10_isBroken 8 = .ok (.iconst (-1), 1) := by decide +kernel
theorem dX10_isBroken_9 : decode cX10_isBroken 9 = .ok (.istore_n 3, 1) := by decide +kernel
theorem dX10_isBroken_10 : decode cX10_isBroken 10 = .ok (.iload_n 3, 1) := by decide +kernel
theorem dX10_isBroken_11 : decode cX10_isBroken 11 = .ok (.iload_n 2, 1) := by decide +kernel
theorem dX10_isBroken_12 : decode cX10_isBroken 12 = .ok (.if_icmp .eq 53, 3) := by decide +kernel
theorem dX10_isBroken_15 : decode cX10_isBroken 15 = .ok (.iload_n 2, 1) := by decide +kernel
theorem dX10_isBroken_16 : decode cX10_isBroken 16 = .ok (.istore_n 3, 1) := by decide +kernel
theorem dX10_isBroken_17 : decode cX10_isBroken 17 = .ok (.iconst 0, 1) := by decide +kernel
theorem dX10_isBroken_18 : decode cX10_isBroken 18 = .ok (.istore 4, 2) := by decide +kernel
theorem dX10_isBroken_20 : decode cX10_isBroken 20 = .ok (.iload 4, 2) := by decide +kernel
theorem dX10_isBroken_22 : decode cX10_isBroken 22 = .ok (.bipush 8, 2) := by decide +kernel
theorem dX10_isBroken_24 : decode cX10_isBroken 24 = .ok (.if_icmp .ge 38, 3) := by decide +kernel
theorem dX10_isBroken_27 : decode cX10_isBroken 27 = .ok (.iload_n 2, 1) := by decide +kernel
theorem dX10_isBroken_28 : decode cX10_isBroken 28 = .ok (.aload_n 0, 1) := by decide +kernel
theorem dX10_isBroken_29 : decode cX10_isBroken 29 = .ok (.getfield 30, 3) := by decide +kernel
theorem dX10_isBroken_32 : decode cX10_isBroken 32 = .ok (.iload 4, 2) := by decide +kernel
theorem dX10_isBroken_34 : decode cX10_isBroken 34 = .ok (.iaload, 1) := by decide +kernel
theorem dX10_isBroken_35 : decode cX10_isBroken 35 = .ok (.iload_n 2, 1) := by decide +kernel
theorem dX10_isBroken_36 : decode cX10_isBroken 36 = .ok (.iand, 1) := by decide +kernel
theorem dX10_isBroken_37 : decode cX10_isBroken 37 = .ok (.invokestatic 164, 3) := by decide +kernel
theorem dX10_isBroken_40 : decode cX10_isBroken 40 = .ok (.iconst 2, 1) := by decide +kernel
theorem dX10_isBroken_41 : decode cX10_isBroken 41 = .ok (.if_icmp .ge 12, 3) := by decide +kernel
theorem dX10_isBroken_44 : decode cX10_isBroken 44 = .ok (.iconst 1, 1) := by decide +kernel
theorem dX10_isBroken_45 : decode cX10_isBroken 45 = .ok (.iload 4, 2) := by decide +kernel
theorem dX10_isBroken_47 : decode cX10_isBroken 47 = .ok (.ishl, 1) := by decide +kernel
theorem dX10_isBroken_48 : decode cX10_isBroken 48 = .ok (.iconst (-1), 1) := by decide +kernel
theorem dX10_isBroken_49 : decode cX10_isBroken 49 = .ok (.ixor, 1) := by decide +kernel
theorem dX10_isBroken_50 : decode cX10_isBroken 50 = .ok (.goto 4, 3) := by decide +kernel
theorem dX10_isBroken_53 : decode cX10_isBroken 53 = .ok (.iconst (-1), 1) := by decide +kernel
theorem dX10_isBroken_54 : decode cX10_isBroken 54 = .ok (.iand, 1) := by decide +kernel
theorem dX10_isBroken_55 : decode cX10_isBroken 55 = .ok (.istore_n 2, 1) := by decide +kernel
theorem dX10_isBroken_56 : decode cX10_isBroken 56 = .ok (.iinc 4 1, 3) := by decide +kernel
theorem dX10_isBroken_59 : decode cX10_isBroken 59 = .ok (.goto (-39), 3) := by decide +kernel
theorem dX10_isBroken_62 : decode cX10_isBroken 62 = .ok (.goto (-52), 3) := by decide +kernel
theorem dX10_isBroken_65 : decode cX10_isBroken 65 = .ok (.iload_n 2, 1) := by decide +kernel
theorem dX10_isBroken_66 : decode cX10_isBroken 66 = .ok (.ifCond .ne 7, 3) := by decide +kernel
theorem dX10_isBroken_69 : decode cX10_isBroken 69 = .ok (.iconst 1, 1) := by decide +kernel
theorem dX10_isBroken_70 : decode cX10_isBroken 70 = .ok (.goto 4, 3) := by decide +kernel
theorem dX10_isBroken_73 : decode cX10_isBroken 73 = .ok (.iconst 0, 1) := by decide +kernel
theorem dX10_isBroken_74 : decode cX10_isBroken 74 = .ok (.ireturn, 1) := by decide +kernel
theorem dX10_breaks_0 : decode cX10_breaks 0 = .ok (.iload_n 1, 1) := by decide +kernel
theorem dX10_breaks_1 : decode cX10_breaks 1 = .ok (.i2l, 1) := by decide +kernel
theorem dX10_breaks_2 : decode cX10_breaks 2 = .ok (.lconst 0, 1) := by decide +kernel
theorem dX10_breaks_3 : decode cX10_breaks 3 = .ok (.ldc2_w 125, 3) := by decide +kernel
theorem dX10_breaks_6 : decode cX10_breaks 6 = .ok (.invokestatic 78, 3) := by decide +kernel
theorem dX10_breaks_9 : decode cX10_breaks 9 = .ok (.ifCond .ne 8, 3) := by decide +kernel
theorem dX10_breaks_12 : decode cX10_breaks 12 = .ok (.bipush (-2), 2) := by decide +kernel
theorem dX10_breaks_14 : decode cX10_breaks 14 = .ok (.goto 16, 3) := by decide +kernel
theorem dX10_breaks_17 : decode cX10_breaks 17 = .ok (.aload_n 0, 1) := by decide +kernel
theorem dX10_breaks_18 : decode cX10_breaks 18 = .ok (.iload_n 1, 1) := by decide +kernel
theorem dX10_breaks_19 : decode cX10_breaks 19 = .ok (.invokevirtual 259, 3) := by decide +kernel
theorem dX10_breaks_22 : decode cX10_breaks 22 = .ok (.ifCond .eq 7, 3) := by decide +kernel
theorem dX10_breaks_25 : decode cX10_breaks 25 = .ok (.iconst 1, 1) := by decide +kernel
theorem dX10_breaks_26 : decode cX10_breaks 26 = .ok (.goto 4, 3) := by decide +kernel
theorem dX10_breaks_29 : decode cX10_breaks 29 = .ok (.iconst 0, 1) := by decide +kernel
theorem dX10_breaks_30 : decode cX10_breaks 30 = .ok (.ireturn, 1) := by decide +kernel
theorem dX10_feedback_0 : decode cX10_feedback 0 = .ok (.iload_n 1, 1) := by decide +kernel
theorem dX10_feedback_1 : decode cX10_feedback 1 = .ok (.i2l, 1) := by decide +kernel
theorem dX10_feedback_2 : decode cX10_feedback 2 = .ok (.lconst 0, 1) := by decide +kernel
theorem dX10_feedback_3 : decode cX10_feedback 3 = .ok (.ldc2_w 86, 3) := by decide +kernel
theorem dX10_feedback_6 : decode cX10_feedback 6 = .ok (.invokestatic 78, 3) := by decide +kernel
theorem dX10_feedback_9 : decode cX10_feedback 9 = .ok (.ifCond .ne 6, 3) := by decide +kernel
theorem dX10_feedback_12 : decode cX10_feedback 12 = .ok (.bipush (-2), 2) := by decide +kernel
theorem dX10_feedback_14 : decode cX10_feedback 14 = .ok (.ireturn, 1) := by decide +kernel
theorem dX10_feedback_15 : decode cX10_feedback 15 = .ok (.bipush 99, 2) := by decide +kernel
theorem dX10_feedback_17 : decode cX10_feedback 17 = .ok (.istore_n 2, 1) := by decide +kernel
theorem dX10_feedback_18 : decode cX10_feedback 18 = .ok (.iconst 0, 1) := by decide +kernel
theorem dX10_feedback_19 : decode cX10_feedback 19 = .ok (.istore_n 3, 1) := by decide +kernel
theorem dX10_feedback_20 : decode cX10_feedback 20 = .ok (.iconst 0, 1) := by decide +kernel
theorem dX10_feedback_21 : decode cX10_feedback 21 = .ok (.istore 4, 2) := by decide +kernel
theorem dX10_feedback_23 : decode cX10_feedback 23 = .ok (.iconst 0, 1) := by decide +kernel
theorem dX10_feedback_24 : decode cX10_feedback 24 = .ok (.istore 5, 2) := by decide +kernel
theorem dX10_feedback_26 : decode cX10_feedback 26 = .ok (.iload 5, 2) := by decide +kernel
theorem dX10_feedback_28 : decode cX10_feedback 28 = .ok (.sipush 256, 3) := by decide +kernel
theorem dX10_feedback_31 : decode cX10_feedback 31 = .ok (.if_icmp .ge 68, 3) := by decide +kernel
theorem dX10_feedback_34 : decode cX10_feedback 34 = .ok (.aload_n 0, 1) := by decide +kernel
theorem dX10_feedback_35 : decode cX10_feedback 35 = .ok (.iload 5, 2) := by decide +kernel
theorem dX10_feedback_37 : decode cX10_feedback 37 = .ok (.invokevirtual 259, 3) := by decide +kernel
theorem dX10_feedback_40 : decode cX10_feedback 40 = .ok (.ifCond .eq 53, 3) := by decide +kernel
theorem dX10_feedback_43 : decode cX10_feedback 43 = .ok (.iload 5, 2) := by decide +kernel
theorem dX10_feedback_45 : decode cX10_feedback 45 = .ok (.invokestatic 164, 3) := by decide +kernel
theorem dX10_feedback_48 : decode cX10_feedback 48 = .ok (.iload_n 2, 1) := by decide +kernel
theorem dX10_feedback_49 : decode cX10_feedback 49 = .ok (.if_icmp .gt 44, 3) := by decide +kernel
theorem dX10_feedback_52 : decode cX10_feedback 52 = .ok (.iload 5, 2) := by decide +kernel
theorem dX10_feedback_54 : decode cX10_feedback 54 = .ok (.invokestatic 164, 3) := by decide +kernel
theorem dX10_feedback_57 : decode cX10_feedback 57 = .ok (.iload_n 2, 1) := by decide +kernel
theorem dX10_feedback_58 : decode cX10_feedback 58 = .ok (.if_icmp .ge 7, 3) := by decide +kernel
theorem dX10_feedback_61 : decode cX10_feedback 61 = .ok (.iconst 1, 1) := by decide +kernel
theorem dX10_feedback_62 : decode cX10_feedback 62 = .ok (.goto 7, 3) := by decide +kernel
theorem dX10_feedback_65 : decode cX10_feedback 65 = .ok (.iload 4, 2) := by decide +kernel
theorem dX10_feedback_67 : decode cX10_feedback 67 = .ok (.iconst 1, 1) := by decide +kernel
theorem dX10_feedback_68 : decode cX10_feedback 68 = .ok (.iadd, 1) := by decide +kernel
theorem dX10_feedback_69 : decode cX10_feedback 69 = .ok (.istore 4, 2) := by decide +kernel
theorem dX10_feedback_71 : decode cX10_feedback 71 = .ok (.iload 5, 2) := by decide +kernel
theorem dX10_feedback_73 : decode cX10_feedback 73 = .ok (.invokestatic 164, 3) := by decide +kernel
theorem dX10_feedback_76 : decode cX10_feedback 76 = .ok (.iload_n 2, 1) := by decide +kernel
theorem dX10_feedback_77 : decode cX10_feedback 77 = .ok (.if_icmp .ge 8, 3) := by decide +kernel
theorem dX10_feedback_80 : decode cX10_feedback 80 = .ok (.iload 5, 2) := by decide +kernel
theorem dX10_feedback_82 : decode cX10_feedback 82 = .ok (.goto 4, 3) := by decide +kernel
theorem dX10_feedback_85 : decode cX10_feedback 85 = .ok (.iload_n 3, 1) := by decide +kernel
theorem dX10_feedback_86 : decode cX10_feedback 86 = .ok (.istore_n 3, 1) := by decide +kernel
theorem dX10_feedback_87 : decode cX10_feedback 87 = .ok (.iload 5, 2) := by decide +kernel
theorem dX10_feedback_89 : decode cX10_feedback 89 = .ok (.invokestatic 164, 3) := by decide +kernel
theorem dX10_feedback_92 : decode cX10_feedback 92 = .ok (.istore_n 2, 1) := by decide +kernel
theorem dX10_feedback_93 : decode cX10_feedback 93 = .ok (.iinc 5 1, 3) := by decide +kernel
theorem dX10_feedback_96 : decode cX10_feedback 96 = .ok (.goto (-70), 3) := by decide +kernel
theorem dX10_feedback_99 : decode cX10_feedback 99 = .ok (.iload_n 1, 1) := by decide +kernel
theorem dX10_feedback_100 : decode cX10_feedback 100 = .ok (.ifCond .ne 7, 3) := by decide +kernel
theorem dX10_feedback_103 : decode cX10_feedback 103 = .ok (.iload_n 2, 1) := by decide +kernel
theorem dX10_feedback_104 : decode cX10_feedback 104 = .ok (.goto 14, 3) := by decide +kernel
theorem dX10_feedback_107 : decode cX10_feedback 107 = .ok (.iload_n 1, 1) := by decide +kernel
theorem dX10_feedback_108 : decode cX10_feedback 108 = .ok (.iconst 1, 1) := by decide +kernel
theorem dX10_feedback_109 : decode cX10_feedback 109 = .ok (.if_icmp .ne 7, 3) := by decide +kernel
theorem dX10_feedback_112 : decode cX10_feedback 112 = .ok (.iload_n 3, 1) := by decide +kernel
theorem dX10_feedback_113 : decode cX10_feedback 113 = .ok (.goto 5, 3) := by decide +kernel
theorem dX10_feedback_116 : decode cX10_feedback 116 = .ok (.iload 4, 2) := by decide +kernel
theorem dX10_feedback_118 : decode cX10_feedback 118 = .ok (.ireturn, 1) := by decide +kernel
theorem dX10_isHand_0 : decode cX10_isHand 0 = .ok (.iload_n 0, 1) := by decide +kernel
theorem dX10_isHand_1 : decode cX10_isHand 1 = .ok (.i2l, 1) := by decide +kernel
theorem dX10_isHand_2 : decode cX10_isHand 2 = .ok (.lconst 0, 1) := by decide +kernel
theorem dX10_isHand_3 : decode cX10_isHand 3 = .ok (.ldc2_w 176, 3) := by decide +kernel
theorem dX10_isHand_6 : decode cX10_isHand 6 = .ok (.invokestatic 78, 3) := by decide +kernel
theorem dX10_isHand_9 : decode cX10_isHand 9 = .ok (.ireturn, 1) := by decide +kernel
theorem dX10_hold_0 : decode cX10_hold 0 = .ok (.aload_n 0, 1) := by decide +kernel
theorem dX10_hold_1 : decode cX10_hold 1 = .ok (.invokevirtual 251, 3) := by decide +kernel
theorem dX10_hold_4 : decode cX10_hold 4 = .ok (.iload_n 1, 1) := by decide +kernel
theorem dX10_hold_5 : decode cX10_hold 5 = .ok (.invokestatic 262, 3) := by decide +kernel
theorem dX10_hold_8 : decode cX10_hold 8 = .ok (.ifCond .eq 49, 3) := by decide +kernel
theorem dX10_hold_11 : decode cX10_hold 11 = .ok (.iload_n 2, 1) := by decide +kernel
theorem dX10_hold_12 : decode cX10_hold 12 = .ok (.i2l, 1) := by decide +kernel
theorem dX10_hold_13 : decode cX10_hold 13 = .ok (.lconst 0, 1) := by decide +kernel
theorem dX10_hold_14 : decode cX10_hold 14 = .ok (.ldc2_w 86, 3) := by decide +kernel
theorem dX10_hold_17 : decode cX10_hold 17 = .ok (.invokestatic 78, 3) := by decide +kernel
theorem dX10_hold_20 : decode cX10_hold 20 = .ok (.ifCond .eq 37, 3) := by decide +kernel
theorem dX10_hold_23 : decode cX10_hold 23 = .ok (.iload_n 2, 1) := by decide +kernel
theorem dX10_hold_24 : decode cX10_hold 24 = .ok (.iconst 1, 1) := by decide +kernel
theorem dX10_hold_25 : decode cX10_hold 25 = .ok (.if_icmp .ne 11, 3) := by decide +kernel
theorem dX10_hold_28 : decode cX10_hold 28 = .ok (.aload_n 0, 1) := by decide +kernel
theorem dX10_hold_29 : decode cX10_hold 29 = .ok (.iload_n 3, 1) := by decide +kernel
theorem dX10_hold_30 : decode cX10_hold 30 = .ok (.invokevirtual 104, 3) := by decide +kernel
theorem dX10_hold_33 : decode cX10_hold 33 = .ok (.ifCond .eq 24, 3) := by decide +kernel
theorem dX10_hold_36 : decode cX10_hold 36 = .ok (.iload_n 2, 1) := by decide +kernel
theorem dX10_hold_37 : decode cX10_hold 37 = .ok (.iconst 2, 1) := by decide +kernel
theorem dX10_hold_38 : decode cX10_hold 38 = .ok (.if_icmp .ne 22, 3) := by decide +kernel
theorem dX10_hold_41 : decode cX10_hold 41 = .ok (.iload_n 3, 1) := by decide +kernel
theorem dX10_hold_42 : decode cX10_hold 42 = .ok (.i2l, 1) := by decide +kernel
theorem dX10_hold_43 : decode cX10_hold 43 = .ok (.lconst 0, 1) := by decide +kernel
theorem dX10_hold_44 : decode cX10_hold 44 = .ok (.aload_n 0, 1) := by decide +kernel
theorem dX10_hold_45 : decode cX10_hold 45 = .ok (.getfield 244, 3) := by decide +kernel
theorem dX10_hold_48 : decode cX10_hold 48 = .ok (.iconst 1, 1) := by decide +kernel
theorem dX10_hold_49 : decode cX10_hold 49 = .ok (.isub, 1) := by decide +kernel
theorem dX10_hold_50 : decode cX10_hold 50 = .ok (.i2l, 1) := by decide +kernel
theorem dX10_hold_51 : decode cX10_hold 51 = .ok (.invokestatic 78, 3) := by decide +kernel
theorem dX10_hold_54 : decode cX10_hold 54 = .ok (.ifCond .ne 6, 3) := by decide +kernel
theorem dX10_hold_57 : decode cX10_hold 57 = .ok (.bipush (-2), 2) := by decide +kernel
theorem dX10_hold_59 : decode cX10_hold 59 = .ok (.ireturn, 1) := by decide +kernel
theorem dX10_hold_60 : decode cX10_hold 60 = .ok (.aload_n 0, 1) := by decide +kernel
theorem dX10_hold_61 : decode cX10_hold 61 = .ok (.getfield 45, 3) := by decide +kernel
theorem dX10_hold_64 : decode cX10_hold 64 = .ok (.iload_n 1, 1) := by decide +kernel
theorem dX10_hold_65 : decode cX10_hold 65 = .ok (.iaload, 1) := by decide +kernel
theorem dX10_hold_66 : decode cX10_hold 66 = .ok (.istore 4, 2) := by decide +kernel
theorem dX10_hold_68 : decode cX10_hold 68 = .ok (.aload_n 0, 1) := by decide +kernel
theorem dX10_hold_69 : decode cX10_hold 69 = .ok (.getfield 45, 3) := by decide +kernel
theorem dX10_hold_72 : decode cX10_hold 72 = .ok (.iload_n 1, 1) := by decide +kernel
theorem dX10_hold_73 : decode cX10_hold 73 = .ok (.iload_n 2, 1) := by decide +kernel
theorem dX10_hold_74 : decode cX10_hold 74 = .ok (.iastore, 1) := by decide +kernel
theorem dX10_hold_75 : decode cX10_hold 75 = .ok (.iload_n 2, 1) := by decide +kernel
theorem dX10_hold_76 : decode cX10_hold 76 = .ok (.iconst 1, 1) := by decide +kernel
theorem dX10_hold_77 : decode cX10_hold 77 = .ok (.if_icmp .ne 27, 3) := by decide +kernel
theorem dX10_hold_80 : decode cX10_hold 80 = .ok (.aload_n 0, 1) := by decide +kernel
theorem dX10_hold_81 : decode cX10_hold 81 = .ok (.getfield 48, 3) := by decide +kernel
theorem dX10_hold_84 : decode cX10_hold 84 = .ok (.iload_n 1, 1) := by decide +kernel
theorem dX10_hold_85 : decode cX10_hold 85 = .ok (.aload_n 0, 1) := by decide +kernel
theorem dX10_hold_86 : decode cX10_hold 86 = .ok (.getfield 16, 3) := by decide +kernel
theorem dX10_hold_89 : decode cX10_hold 89 = .ok (.iload_n 3, 1) := by decide +kernel
theorem dX10_hold_90 : decode cX10_hold 90 = .ok (.iaload, 1) := by decide +kernel
theorem dX10_hold_91 : decode cX10_hold 91 = .ok (.iastore, 1) := by decide +kernel
theorem dX10_hold_92 : decode cX10_hold 92 = .ok (.aload_n 0, 1) := by decide +kernel
theorem dX10_hold_93 : decode cX10_hold 93 = .ok (.getfield 51, 3) := by decide +kernel
theorem dX10_hold_96 : decode cX10_hold 96 = .ok (.iload_n 1, 1) := by decide +kernel
theorem dX10_hold_97 : decode cX10_hold 97 = .ok (.aload_n 0, 1) := by decide +kernel
theorem dX10_hold_98 : decode cX10_hold 98 = .ok (.getfield 20, 3) := by decide +kernel
theorem dX10_hold_101 : decode cX10_hold 101 = .ok (.iload_n 3, 1) := by decide +kernel
theorem dX10_hold_102 : decode cX10_hold 102 = .ok (.iaload, 1) := by decide +kernel
theorem dX10_hold_103 : decode cX10_hold 103 = .ok (.iastore, 1) := by decide +kernel
theorem dX10_hold_104 : decode cX10_hold 104 = .ok (.iload_n 2, 1) := by decide +kernel
theorem dX10_hold_105 : decode cX10_hold 105 = .ok (.iconst 2, 1) := by decide +kernel
theorem dX10_hold_106 : decode cX10_hold 106 = .ok (.if_icmp .ne 71, 3) := by decide +kernel
theorem dX10_hold_109 : decode cX10_hold 109 = .ok (.aload_n 0, 1) := by decide +kernel
theorem dX10_hold_110 : decode cX10_hold 110 = .ok (.getfield 42, 3) := by decide +kernel
theorem dX10_hold_113 : decode cX10_hold 113 = .ok (.iload_n 3, 1) := by decide +kernel
theorem dX10_hold_114 : decode cX10_hold 114 = .ok (.laload, 1) := by decide +kernel
theorem dX10_hold_115 : decode cX10_hold 115 = .ok (.lstore 5, 2) := by decide +kernel
theorem dX10_hold_117 : decode cX10_hold 117 = .ok (.aload_n 0, 1) := by decide +kernel
theorem dX10_hold_118 : decode cX10_hold 118 = .ok (.getfield 54, 3) := by decide +kernel
theorem dX10_hold_121 : decode cX10_hold 121 = .ok (.iload_n 1, 1) := by decide +kernel
theorem dX10_hold_122 : decode cX10_hold 122 = .ok (.aload_n 0, 1) := by decide +kernel
theorem dX10_hold_123 : decode cX10_hold 123 = .ok (.getfield 13, 3) := by decide +kernel
theorem dX10_hold_126 : decode cX10_hold 126 = .ok (.iastore, 1) := by decide +kernel
theorem dX10_hold_127 : decode cX10_hold 127 = .ok (.aload_n 0, 1) := by decide +kernel
theorem dX10_hold_128 : decode cX10_hold 128 = .ok (.getfield 13, 3) := by decide +kernel
theorem dX10_hold_131 : decode cX10_hold 131 = .ok (.iconst 1, 1) := by decide +kernel
theorem dX10_hold_132 : decode cX10_hold 132 = .ok (.isub, 1) := by decide +kernel
theorem dX10_hold_133 : decode cX10_hold 133 = .ok (.istore 7, 2) := by decide +kernel
theorem dX10_hold_135 : decode cX10_hold 135 = .ok (.iload 7, 2) := by decide +kernel
theorem dX10_hold_137 : decode cX10_hold 137 = .ok (.ifCond .lt 40, 3) := by decide +kernel
theorem dX10_hold_140 : decode cX10_hold 140 = .ok (.aload_n 0, 1) := by decide +kernel
theorem dX10_hold_141 : decode cX10_hold 141 = .ok (.getfield 57, 3) := by decide +kernel
theorem dX10_hold_144 : decode cX10_hold 144 = .ok (.bipush 6, 2) := by decide +kernel
theorem dX10_hold_146 : decode cX10_hold 146 = .ok (.iload_n 1, 1) := by decide +kernel
theorem dX10_hold_147 : decode cX10_hold 147 = .ok (.imul, 1) := by decide +kernel
theorem dX10_hold_148 : decode cX10_hold 148 = .ok (.iload 7, 2) := by decide +kernel
theorem dX10_hold_150 : decode cX10_hold 150 = .ok (.iadd, 1) := by decide +kernel
theorem dX10_hold_151 : decode cX10_hold 151 = .ok (.lload 5, 2) := by decide +kernel
theorem dX10_hold_153 : decode cX10_hold 153 = .ok (.aload_n 0, 1) := by decide +kernel
theorem dX10_hold_154 : decode cX10_hold 154 = .ok (.getfield 7, 3) := by decide +kernel
theorem dX10_hold_157 : decode cX10_hold 157 = .ok (.i2l, 1) := by decide +kernel
theorem dX10_hold_158 : decode cX10_hold 158 = .ok (.lrem, 1) := by decide +kernel
theorem dX10_hold_159 : decode cX10_hold 159 = .ok (.l2i, 1) := by decide +kernel
theorem dX10_hold_160 : decode cX10_hold 160 = .ok (.iastore, 1) := by decide +kernel
theorem dX10_hold_161 : decode cX10_hold 161 = .ok (.lload 5, 2) := by decide +kernel
theorem dX10_hold_163 : decode cX10_hold 163 = .ok (.aload_n 0, 1) := by decide +kernel
theorem dX10_hold_164 : decode cX10_hold 164 = .ok (.getfield 7, 3) := by decide +kernel
theorem dX10_hold_167 : decode cX10_hold 167 = .ok (.i2l, 1) := by decide +kernel
theorem dX10_hold_168 : decode cX10_hold 168 = .ok (.ldiv, 1) := by decide +kernel
theorem dX10_hold_169 : decode cX10_hold 169 = .ok (.lstore 5, 2) := by decide +kernel
theorem dX10_hold_171 : decode cX10_hold 171 = .ok (.iinc 7 (-1), 3) := by decide +kernel
theorem dX10_hold_174 : decode cX10_hold 174 = .ok (.goto (-39), 3) := by decide +kernel
theorem dX10_hold_177 : decode cX10_hold 177 = .ok (.iload 4, 2) := by decide +kernel
theorem dX10_hold_179 : decode cX10_hold 179 = .ok (.ireturn, 1) := by decide +kernel
theorem dX10_lacks_0 : decode cX10_lacks 0 = .ok (.aload_n 0, 1) := by decide +kernel
theorem dX10_lacks_1 : decode cX10_lacks 1 = .ok (.getfield 45, 3) := by decide +kernel
theorem dX10_lacks_4 : decode cX10_lacks 4 = .ok (.iload_n 1, 1) := by decide +kernel
theorem dX10_lacks_5 : decode cX10_lacks 5 = .ok (.iaload, 1) := by decide +kernel
theorem dX10_lacks_6 : decode cX10_lacks 6 = .ok (.ifCond .ne 8, 3) := by decide +kernel
theorem dX10_lacks_9 : decode cX10_lacks 9 = .ok (.bipush (-11), 2) := by decide +kernel
theorem dX10_lacks_11 : decode cX10_lacks 11 = .ok (.goto 19, 3) := by decide +kernel
theorem dX10_lacks_14 : decode cX10_lacks 14 = .ok (.aload_n 0, 1) := by decide +kernel
theorem dX10_lacks_15 : decode cX10_lacks 15 = .ok (.getfield 45, 3) := by decide +kernel
theorem dX10_lacks_18 : decode cX10_lacks 18 = .ok (.iload_n 1, 1) := by decide +kernel
theorem dX10_lacks_19 : decode cX10_lacks 19 = .ok (.iaload, 1) := by decide +kernel
theorem dX10_lacks_20 : decode cX10_lacks 20 = .ok (.iload_n 2, 1) := by decide +kernel
theorem dX10_lacks_21 : decode cX10_lacks 21 = .ok (.if_icmp .eq 8, 3) := by decide +kernel
theorem dX10_lacks_24 : decode cX10_lacks 24 = .ok (.bipush (-13), 2) := by decide +kernel
theorem dX10_lacks_26 : decode cX10_lacks 26 = .ok (.goto 4, 3) := by decide +kernel
theorem dX10_lacks_29 : decode cX10_lacks 29 = .ok (.iconst 0, 1) := by decide +kernel
theorem dX10_lacks_30 : decode cX10_lacks 30 = .ok (.ireturn, 1) := by decide +kernel
theorem dX10_isUnder_0 : decode cX10_isUnder 0 = .ok (.iload_n 1, 1) := by decide +kernel
theorem dX10_isUnder_1 : decode cX10_isUnder 1 = .ok (.ifCond .eq 28, 3) := by decide +kernel
theorem dX10_isUnder_4 : decode cX10_isUnder 4 = .ok (.iload_n 0, 1) := by decide +kernel
theorem dX10_isUnder_5 : decode cX10_isUnder 5 = .ok (.iload_n 1, 1) := by decide +kernel
theorem dX10_isUnder_6 : decode cX10_isUnder 6 = .ok (.if_icmp .eq 23, 3) := by decide +kernel
theorem dX10_isUnder_9 : decode cX10_isUnder 9 = .ok (.iload_n 1, 1) := by decide +kernel
theorem dX10_isUnder_10 : decode cX10_isUnder 10 = .ok (.iconst 1, 1) := by decide +kernel
theorem dX10_isUnder_11 : decode cX10_isUnder 11 = .ok (.if_icmp .ne 8, 3) := by decide +kernel
theorem dX10_isUnder_14 : decode cX10_isUnder 14 = .ok (.iload_n 0, 1) := by decide +kernel
theorem dX10_isUnder_15 : decode cX10_isUnder 15 = .ok (.iconst 3, 1) := by decide +kernel
theorem dX10_isUnder_16 : decode cX10_isUnder 16 = .ok (.if_icmp .eq 13, 3) := by decide +kernel
theorem dX10_isUnder_19 : decode cX10_isUnder 19 = .ok (.iload_n 1, 1) := by decide +kernel
theorem dX10_isUnder_20 : decode cX10_isUnder 20 = .ok (.iconst 2, 1) := by decide +kernel
theorem dX10_isUnder_21 : decode cX10_isUnder 21 = .ok (.if_icmp .ne 12, 3) := by decide +kernel
theorem dX10_isUnder_24 : decode cX10_isUnder 24 = .ok (.iload_n 0, 1) := by decide +kernel
theorem dX10_isUnder_25 : decode cX10_isUnder 25 = .ok (.iconst 4, 1) := by decide +kernel
theorem dX10_isUnder_26 : decode cX10_isUnder 26 = .ok (.if_icmp .ne 7, 3) := by decide +kernel
theorem dX10_isUnder_29 : decode cX10_isUnder 29 = .ok (.iconst 1, 1) := by decide +kernel
theorem dX10_isUnder_30 : decode cX10_isUnder 30 = .ok (.goto 4, 3) := by decide +kernel
theorem dX10_isUnder_33 : decode cX10_isUnder 33 = .ok (.iconst 0, 1) := by decide +kernel
theorem dX10_isUnder_34 : decode cX10_isUnder 34 = .ok (.ireturn, 1) := by decide +kernel
theorem dX10_asPair_0 : decode cX10_asPair 0 = .ok (.iload_n 1, 1) := by decide +kernel
theorem dX10_asPair_1 : decode cX10_asPair 1 = .ok (.invokestatic 262, 3) := by decide +kernel
theorem dX10_asPair_4 : decode cX10_asPair 4 = .ok (.ifCond .eq 15, 3) := by decide +kernel
theorem dX10_asPair_7 : decode cX10_asPair 7 = .ok (.iload_n 2, 1) := by decide +kernel
theorem dX10_asPair_8 : decode cX10_asPair 8 = .ok (.i2l, 1) := by decide +kernel
theorem dX10_asPair_9 : decode cX10_asPair 9 = .ok (.lconst 0, 1) := by decide +kernel
theorem dX10_asPair_10 : decode cX10_asPair 10 = .ok (.ldc2_w 100, 3) := by decide +kernel
theorem dX10_asPair_13 : decode cX10_asPair 13 = .ok (.invokestatic 78, 3) := by decide +kernel
theorem dX10_asPair_16 : decode cX10_asPair 16 = .ok (.ifCond .ne 6, 3) := by decide +kernel
theorem dX10_asPair_19 : decode cX10_asPair 19 = .ok (.bipush (-2), 2) := by decide +kernel
theorem dX10_asPair_21 : decode cX10_asPair 21 = .ok (.ireturn, 1) := by decide +kernel
theorem dX10_asPair_22 : decode cX10_asPair 22 = .ok (.aload_n 0, 1) := by decide +kernel
theorem dX10_asPair_23 : decode cX10_asPair 23 = .ok (.iload_n 1, 1) := by decide +kernel
theorem dX10_asPair_24 : decode cX10_asPair 24 = .ok (.iconst 1, 1) := by decide +kernel
theorem dX10_asPair_25 : decode cX10_asPair 25 = .ok (.invokevirtual 265, 3) := by decide +kernel
theorem dX10_asPair_28 : decode cX10_asPair 28 = .ok (.istore_n 3, 1) := by decide +kernel
theorem dX10_asPair_29 : decode cX10_asPair 29 = .ok (.iload_n 3, 1) := by decide +kernel
theorem dX10_asPair_30 : decode cX10_asPair 30 = .ok (.ifCond .eq 7, 3) := by decide +kernel
theorem dX10_asPair_33 : decode cX10_asPair 33 = .ok (.iload_n 3, 1) := by decide +kernel
theorem dX10_asPair_34 : decode cX10_asPair 34 = .ok (.goto 27, 3) := by decide +kernel
theorem dX10_asPair_37 : decode cX10_asPair 37 = .ok (.aload_n 0, 1) := by decide +kernel
theorem dX10_asPair_38 : decode cX10_asPair 38 = .ok (.getfield 48, 3) := by decide +kernel
theorem dX10_asPair_41 : decode cX10_asPair 41 = .ok (.iload_n 1, 1) := by decide +kernel
theorem dX10_asPair_42 : decode cX10_asPair 42 = .ok (.iaload, 1) := by decide +kernel
theorem dX10_asPair_43 : decode cX10_asPair 43 = .ok (.iload_n 2, 1) := by decide +kernel
theorem dX10_asPair_44 : decode cX10_asPair 44 = .ok (.invokestatic 268, 3) := by decide +kernel
theorem dX10_asPair_47 : decode cX10_asPair 47 = .ok (.ifCond .eq 12, 3) := by decide +kernel
theorem dX10_asPair_50 : decode cX10_asPair 50 = .ok (.aload_n 0, 1) := by decide +kernel
theorem dX10_asPair_51 : decode cX10_asPair 51 = .ok (.getfield 51, 3) := by decide +kernel
theorem dX10_asPair_54 : decode cX10_asPair 54 = .ok (.iload_n 1, 1) := by decide +kernel
theorem dX10_asPair_55 : decode cX10_asPair 55 = .ok (.iaload, 1) := by decide +kernel
theorem dX10_asPair_56 : decode cX10_asPair 56 = .ok (.goto 5, 3) := by decide +kernel
theorem dX10_asPair_59 : decode cX10_asPair 59 = .ok (.bipush (-13), 2) := by decide +kernel
theorem dX10_asPair_61 : decode cX10_asPair 61 = .ok (.ireturn, 1) := by decide +kernel
theorem dX10_asRay_0 : decode cX10_asRay 0 = .ok (.iload_n 1, 1) := by decide +kernel
theorem dX10_asRay_1 : decode cX10_asRay 1 = .ok (.invokestatic 262, 3) := by decide +kernel
theorem dX10_asRay_4 : decode cX10_asRay 4 = .ok (.ifCond .ne 6, 3) := by decide +kernel
theorem dX10_asRay_7 : decode cX10_asRay 7 = .ok (.bipush (-2), 2) := by decide +kernel
theorem dX10_asRay_9 : decode cX10_asRay 9 = .ok (.ireturn, 1) := by decide +kernel
theorem dX10_asRay_10 : decode cX10_asRay 10 = .ok (.aload_n 0, 1) := by decide +kernel
theorem dX10_asRay_11 : decode cX10_asRay 11 = .ok (.iload_n 1, 1) := by decide +kernel
theorem dX10_asRay_12 : decode cX10_asRay 12 = .ok (.iconst 2, 1) := by decide +kernel
theorem dX10_asRay_13 : decode cX10_asRay 13 = .ok (.invokevirtual 265, 3) := by decide +kernel
theorem dX10_asRay_16 : decode cX10_asRay 16 = .ok (.istore_n 3, 1) := by decide +kernel
theorem dX10_asRay_17 : decode cX10_asRay 17 = .ok (.iload_n 3, 1) := by decide +kernel
theorem dX10_asRay_18 : decode cX10_asRay 18 = .ok (.ifCond .eq 7, 3) := by decide +kernel
theorem dX10_asRay_21 : decode cX10_asRay 21 = .ok (.iload_n 3, 1) := by decide +kernel
theorem dX10_asRay_22 : decode cX10_asRay 22 = .ok (.goto 37, 3) := by decide +kernel
theorem dX10_asRay_25 : decode cX10_asRay 25 = .ok (.iload_n 2, 1) := by decide +kernel
theorem dX10_asRay_26 : decode cX10_asRay 26 = .ok (.i2l, 1) := by decide +kernel
theorem dX10_asRay_27 : decode cX10_asRay 27 = .ok (.lconst 0, 1) := by decide +kernel
theorem dX10_asRay_28 : decode cX10_asRay 28 = .ok (.aload_n 0, 1) := by decide +kernel
theorem dX10_asRay_29 : decode cX10_asRay 29 = .ok (.getfield 54, 3) := by decide +kernel
theorem dX10_asRay_32 : decode cX10_asRay 32 = .ok (.iload_n 1, 1) := by decide +kernel
theorem dX10_asRay_33 : decode cX10_asRay 33 = .ok (.iaload, 1) := by decide +kernel
theorem dX10_asRay_34 : decode cX10_asRay 34 = .ok (.iconst 1, 1) := by decide +kernel
theorem dX10_asRay_35 : decode cX10_asRay 35 = .ok (.isub, 1) := by decide +kernel
theorem dX10_asRay_36 : decode cX10_asRay 36 = .ok (.i2l, 1) := by decide +kernel
theorem dX10_asRay_37 : decode cX10_asRay 37 = .ok (.invokestatic 78, 3) := by decide +kernel
theorem dX10_asRay_40 : decode cX10_asRay 40 = .ok (.ifCond .eq 17, 3) := by decide +kernel
theorem dX10_asRay_43 : decode cX10_asRay 43 = .ok (.aload_n 0, 1) := by decide +kernel
theorem dX10_asRay_44 : decode cX10_asRay 44 = .ok (.getfield 57, 3) := by decide +kernel
theorem dX10_asRay_47 : decode cX10_asRay 47 = .ok (.bipush 6, 2) := by decide +kernel
theorem dX10_asRay_49 : decode cX10_asRay 49 = .ok (.iload_n 1, 1) := by decide +kernel
theorem dX10_asRay_50 : decode cX10_asRay 50 = .ok (.imul, 1) := by decide +kernel
theorem dX10_asRay_51 : decode cX10_asRay 51 = .ok (.iload_n 2, 1) := by decide +kernel
theorem dX10_asRay_52 : decode cX10_asRay 52 = .ok (.iadd, 1) := by decide +kernel
theorem dX10_asRay_53 : decode cX10_asRay 53 = .ok (.iaload, 1) := by decide +kernel
theorem dX10_asRay_54 : decode cX10_asRay 54 = .ok (.goto 5, 3) := by decide +kernel
theorem dX10_asRay_57 : decode cX10_asRay 57 = .ok (.bipush (-12), 2) := by decide +kernel
theorem dX10_asRay_59 : decode cX10_asRay 59 = .ok (.ireturn, 1) := by decide +kernel
theorem dX10_compare_0 : decode cX10_compare 0 = .ok (.iload_n 1, 1) := by decide +kernel
theorem dX10_compare_1 : decode cX10_compare 1 = .ok (.invokestatic 262, 3) := by decide +kernel
theorem dX10_compare_4 : decode cX10_compare 4 = .ok (.ifCond .eq 10, 3) := by decide +kernel
theorem dX10_compare_7 : decode cX10_compare 7 = .ok (.iload_n 2, 1) := by decide +kernel
theorem dX10_compare_8 : decode cX10_compare 8 = .ok (.invokestatic 262, 3) := by decide +kernel
theorem dX10_compare_11 : decode cX10_compare 11 = .ok (.ifCond .ne 6, 3) := by decide +kernel
theorem dX10_compare_14 : decode cX10_compare 14 = .ok (.bipush (-2), 2) := by decide +kernel
theorem dX10_compare_16 : decode cX10_compare 16 = .ok (.ireturn, 1) := by decide +kernel
theorem dX10_compare_17 : decode cX10_compare 17 = .ok (.aload_n 0, 1) := by decide +kernel
theorem dX10_compare_18 : decode cX10_compare 18 = .ok (.getfield 45, 3) := by decide +kernel
theorem dX10_compare_21 : decode cX10_compare 21 = .ok (.iload_n 1, 1) := by decide +kernel
theorem dX10_compare_22 : decode cX10_compare 22 = .ok (.iaload, 1) := by decide +kernel
theorem dX10_compare_23 : decode cX10_compare 23 = .ok (.ifCond .eq 12, 3) := by decide +kernel
theorem dX10_compare_26 : decode cX10_compare 26 = .ok (.aload_n 0, 1) := by decide +kernel
theorem dX10_compare_27 : decode cX10_compare 27 = .ok (.getfield 45, 3) := by decide +kernel
theorem dX10_compare_30 : decode cX10_compare 30 = .ok (.iload_n 2, 1) := by decide +kernel
theorem dX10_compare_31 : decode cX10_compare 31 = .ok (.iaload, 1) := by decide +kernel
theorem dX10_compare_32 : decode cX10_compare 32 = .ok (.ifCond .ne 6, 3) := by decide +kernel
theorem dX10_compare_35 : decode cX10_compare 35 = .ok (.bipush (-11), 2) := by decide +kernel
theorem dX10_compare_37 : decode cX10_compare 37 = .ok (.ireturn, 1) := by decide +kernel
theorem dX10_compare_38 : decode cX10_compare 38 = .ok (.aload_n 0, 1) := by decide +kernel
theorem dX10_compare_39 : decode cX10_compare 39 = .ok (.getfield 45, 3) := by decide +kernel
theorem dX10_compare_42 : decode cX10_compare 42 = .ok (.iload_n 1, 1) := by decide +kernel
theorem dX10_compare_43 : decode cX10_compare 43 = .ok (.iaload, 1) := by decide +kernel
theorem dX10_compare_44 : decode cX10_compare 44 = .ok (.iconst 2, 1) := by decide +kernel
theorem dX10_compare_45 : decode cX10_compare 45 = .ok (.if_icmp .ne 13, 3) := by decide +kernel
theorem dX10_compare_48 : decode cX10_compare 48 = .ok (.aload_n 0, 1) := by decide +kernel
theorem dX10_compare_49 : decode cX10_compare 49 = .ok (.getfield 45, 3) := by decide +kernel
theorem dX10_compare_52 : decode cX10_compare 52 = .ok (.iload_n 2, 1) := by decide +kernel
theorem dX10_compare_53 : decode cX10_compare 53 = .ok (.iaload, 1) := by decide +kernel
theorem dX10_compare_54 : decode cX10_compare 54 = .ok (.iconst 2, 1) := by decide +kernel
theorem dX10_compare_55 : decode cX10_compare 55 = .ok (.if_icmp .eq 6, 3) := by decide +kernel
theorem dX10_compare_58 : decode cX10_compare 58 = .ok (.bipush (-13), 2) := by decide +kernel
theorem dX10_compare_60 : decode cX10_compare 60 = .ok (.ireturn, 1) := by decide +kernel
theorem dX10_compare_61 : decode cX10_compare 61 = .ok (.iconst 0, 1) := by decide +kernel
theorem dX10_compare_62 : decode cX10_compare 62 = .ok (.istore_n 3, 1) := by decide +kernel
theorem dX10_compare_63 : decode cX10_compare 63 = .ok (.iload_n 3, 1) := by decide +kernel
theorem dX10_compare_64 : decode cX10_compare 64 = .ok (.bipush 6, 2) := by decide +kernel
theorem dX10_compare_66 : decode cX10_compare 66 = .ok (.if_icmp .ge 83, 3) := by decide +kernel
theorem dX10_compare_69 : decode cX10_compare 69 = .ok (.iload_n 3, 1) := by decide +kernel
theorem dX10_compare_70 : decode cX10_compare 70 = .ok (.aload_n 0, 1) := by decide +kernel
theorem dX10_compare_71 : decode cX10_compare 71 = .ok (.getfield 54, 3) := by decide +kernel
theorem dX10_compare_74 : decode cX10_compare 74 = .ok (.iload_n 1, 1) := by decide +kernel
theorem dX10_compare_75 : decode cX10_compare 75 = .ok (.iaload, 1) := by decide +kernel
theorem dX10_compare_76 : decode cX10_compare 76 = .ok (.if_icmp .ge 17, 3) := by decide +kernel
theorem dX10_compare_79 : decode cX10_compare 79 = .ok (.aload_n 0, 1) := by decide +kernel
theorem dX10_compare_80 : decode cX10_compare 80 = .ok (.getfield 57, 3) := by decide +kernel
theorem dX10_compare_83 : decode cX10_compare 83 = .ok (.bipush 6, 2) := by decide +kernel
theorem dX10_compare_85 : decode cX10_compare 85 = .ok (.iload_n 1, 1) := by decide +kernel
theorem dX10_compare_86 : decode cX10_compare 86 = .ok (.imul, 1) := by decide +kernel
theorem dX10_compare_87 : decode cX10_compare 87 = .ok (.iload_n 3, 1) := by decide +kernel
theorem dX10_compare_88 : decode cX10_compare 88 = .ok (.iadd, 1) := by decide +kernel
theorem dX10_compare_89 : decode cX10_compare 89 = .ok (.iaload, 1) := by decide +kernel
theorem dX10_compare_90 : decode cX10_compare 90 = .ok (.goto 4, 3) := by decide +kernel
theorem dX10_compare_93 : decode cX10_compare 93 = .ok (.iconst (-1), 1) := by decide +kernel
theorem dX10_compare_94 : decode cX10_compare 94 = .ok (.istore 4, 2) := by decide +kernel
theorem dX10_compare_96 : decode cX10_compare 96 = .ok (.iload_n 3, 1) := by decide +kernel
theorem dX10_compare_97 : decode cX10_compare 97 = .ok (.aload_n 0, 1) := by decide +kernel
theorem dX10_compare_98 : decode cX10_compare 98 = .ok (.getfield 54, 3) := by decide +kernel
theorem dX10_compare_101 : decode cX10_compare 101 = .ok (.iload_n 2, 1) := by decide +kernel
theorem dX10_compare_102 : decode cX10_compare 102 = .ok (.iaload, 1) := by decide +kernel
theorem dX10_compare_103 : decode cX10_compare 103 = .ok (.if_icmp .ge 17, 3) := by decide +kernel
theorem dX10_compare_106 : decode cX10_compare 106 = .ok (.aload_n 0, 1) := by decide +kernel
theorem dX10_compare_107 : decode cX10_compare 107 = .ok (.getfield 57, 3) := by decide +kernel
theorem dX10_compare_110 : decode cX10_compare 110 = .ok (.bipush 6, 2) := by decide +kernel
theorem dX10_compare_112 : decode cX10_compare 112 = .ok (.iload_n 2, 1) := by decide +kernel
theorem dX10_compare_113 : decode cX10_compare 113 = .ok (.imul, 1) := by decide +kernel
theorem dX10_compare_114 : decode cX10_compare 114 = .ok (.iload_n 3, 1) := by decide +kernel
theorem dX10_compare_115 : decode cX10_compare 115 = .ok (.iadd, 1) := by decide +kernel
theorem dX10_compare_116 : decode cX10_compare 116 = .ok (.iaload, 1) := by decide +kernel
theorem dX10_compare_117 : decode cX10_compare 117 = .ok (.goto 4, 3) := by decide +kernel
theorem dX10_compare_120 : decode cX10_compare 120 = .ok (.iconst (-1), 1) := by decide +kernel
theorem dX10_compare_121 : decode cX10_compare 121 = .ok (.istore 5, 2) := by decide +kernel
theorem dX10_compare_123 : decode cX10_compare 123 = .ok (.iload 4, 2) := by decide +kernel
theorem dX10_compare_125 : decode cX10_compare 125 = .ok (.iload 5, 2) := by decide +kernel
theorem dX10_compare_127 : decode cX10_compare 127 = .ok (.if_icmp .eq 16, 3) := by decide +kernel
theorem dX10_compare_130 : decode cX10_compare 130 = .ok (.iload 4, 2) := by decide +kernel
theorem dX10_compare_132 : decode cX10_compare 132 = .ok (.iload 5, 2) := by decide +kernel
theorem dX10_compare_134 : decode cX10_compare 134 = .ok (.if_icmp .ge 7, 3) := by decide +kernel
theorem dX10_compare_137 : decode cX10_compare 137 = .ok (.iconst (-1), 1) := by decide +kernel
theorem dX10_compare_138 : decode cX10_compare 138 = .ok (.goto 4, 3) := by decide +kernel
theorem dX10_compare_141 : decode cX10_compare 141 = .ok (.iconst 1, 1) := by decide +kernel
theorem dX10_compare_142 : decode cX10_compare 142 = .ok (.ireturn, 1) := by decide +kernel
theorem dX10_compare_143 : decode cX10_compare 143 = .ok (.iinc 3 1, 3) := by decide +kernel
theorem dX10_compare_146 : decode cX10_compare 146 = .ok (.goto (-83), 3) := by decide +kernel
theorem dX10_compare_149 : decode cX10_compare 149 = .ok (.iconst 0, 1) := by decide +kernel
theorem dX10_compare_150 : decode cX10_compare 150 = .ok (.ireturn, 1) := by decide +kernel
theorem dX10_isSheet_0 : decode cX10_isSheet 0 = .ok (.iload_n 0, 1) := by decide +kernel
theorem dX10_isSheet_1 : decode cX10_isSheet 1 = .ok (.i2l, 1) := by decide +kernel
theorem dX10_isSheet_2 : decode cX10_isSheet 2 = .ok (.lconst 0, 1) := by decide +kernel
theorem dX10_isSheet_3 : decode cX10_isSheet 3 = .ok (.ldc2_w 176, 3) := by decide +kernel
theorem dX10_isSheet_6 : decode cX10_isSheet 6 = .ok (.invokestatic 78, 3) := by decide +kernel
theorem dX10_isSheet_9 : decode cX10_isSheet 9 = .ok (.ireturn, 1) := by decide +kernel
theorem dX10_sheet_0 : decode cX10_sheet 0 = .ok (.iload_n 1, 1) := by decide +kernel
theorem dX10_sheet_1 : decode cX10_sheet 1 = .ok (.invokestatic 187, 3) := by decide +kernel
theorem dX10_sheet_4 : decode cX10_sheet 4 = .ok (.ifCond .eq 25, 3) := by decide +kernel
theorem dX10_sheet_7 : decode cX10_sheet 7 = .ok (.iload_n 2, 1) := by decide +kernel
theorem dX10_sheet_8 : decode cX10_sheet 8 = .ok (.i2l, 1) := by decide +kernel
theorem dX10_sheet_9 : decode cX10_sheet 9 = .ok (.ldc2_w 206, 3) := by decide +kernel
theorem dX10_sheet_12 : decode cX10_sheet 12 = .ok (.lconst 1, 1) := by decide +kernel
theorem dX10_sheet_13 : decode cX10_sheet 13 = .ok (.invokestatic 78, 3) := by decide +kernel
theorem dX10_sheet_16 : decode cX10_sheet 16 = .ok (.ifCond .eq 13, 3) := by decide +kernel
theorem dX10_sheet_19 : decode cX10_sheet 19 = .ok (.iload_n 2, 1) := by decide +kernel
theorem dX10_sheet_20 : decode cX10_sheet 20 = .ok (.ifCond .lt 12, 3) := by decide +kernel
theorem dX10_sheet_23 : decode cX10_sheet 23 = .ok (.iload_n 3, 1) := by decide +kernel
theorem dX10_sheet_24 : decode cX10_sheet 24 = .ok (.bipush 30, 2) := by decide +kernel
theorem dX10_sheet_26 : decode cX10_sheet 26 = .ok (.if_icmp .le 6, 3) := by decide +kernel
theorem dX10_sheet_29 : decode cX10_sheet 29 = .ok (.bipush (-2), 2) := by decide +kernel
theorem dX10_sheet_31 : decode cX10_sheet 31 = .ok (.ireturn, 1) := by decide +kernel
theorem dX10_sheet_32 : decode cX10_sheet 32 = .ok (.iload_n 2, 1) := by decide +kernel
theorem dX10_sheet_33 : decode cX10_sheet 33 = .ok (.ifCond .lt 10, 3) := by decide +kernel
theorem dX10_sheet_36 : decode cX10_sheet 36 = .ok (.iload_n 3, 1) := by decide +kernel
theorem dX10_sheet_37 : decode cX10_sheet 37 = .ok (.ifCond .ge 6, 3) := by decide +kernel
theorem dX10_sheet_40 : decode cX10_sheet 40 = .ok (.bipush (-14), 2) := by decide +kernel
theorem dX10_sheet_42 : decode cX10_sheet 42 = .ok (.ireturn, 1) := by decide +kernel
theorem dX10_sheet_43 : decode cX10_sheet 43 = .ok (.aload_n 0, 1) := by decide +kernel
theorem dX10_sheet_44 : decode cX10_sheet 44 = .ok (.getfield 60, 3) := by decide +kernel
theorem dX10_sheet_47 : decode cX10_sheet 47 = .ok (.iload_n 1, 1) := by decide +kernel
theorem dX10_sheet_48 : decode cX10_sheet 48 = .ok (.iload_n 2, 1) := by decide +kernel
theorem dX10_sheet_49 : decode cX10_sheet 49 = .ok (.iastore, 1) := by decide +kernel
theorem dX10_sheet_50 : decode cX10_sheet 50 = .ok (.aload_n 0, 1) := by decide +kernel
theorem dX10_sheet_51 : decode cX10_sheet 51 = .ok (.getfield 63, 3) := by decide +kernel
theorem dX10_sheet_54 : decode cX10_sheet 54 = .ok (.iload_n 1, 1) := by decide +kernel
theorem dX10_sheet_55 : decode cX10_sheet 55 = .ok (.iload_n 2, 1) := by decide +kernel
theorem dX10_sheet_56 : decode cX10_sheet 56 = .ok (.ifCond .ge 7, 3) := by decide +kernel
theorem dX10_sheet_59 : decode cX10_sheet 59 = .ok (.iconst 0, 1) := by decide +kernel
theorem dX10_sheet_60 : decode cX10_sheet 60 = .ok (.goto 4, 3) := by decide +kernel
theorem dX10_sheet_63 : decode cX10_sheet 63 = .ok (.iload_n 3, 1) := by decide +kernel
theorem dX10_sheet_64 : decode cX10_sheet 64 = .ok (.iastore, 1) := by decide +kernel
theorem dX10_sheet_65 : decode cX10_sheet 65 = .ok (.iconst 0, 1) := by decide +kernel
theorem dX10_sheet_66 : decode cX10_sheet 66 = .ok (.istore 4, 2) := by decide +kernel
theorem dX10_sheet_68 : decode cX10_sheet 68 = .ok (.iload 4, 2) := by decide +kernel
theorem dX10_sheet_70 : decode cX10_sheet 70 = .ok (.bipush 30, 2) := by decide +kernel
theorem dX10_sheet_72 : decode cX10_sheet 72 = .ok (.if_icmp .ge 22, 3) := by decide +kernel
theorem dX10_sheet_75 : decode cX10_sheet 75 = .ok (.aload_n 0, 1) := by decide +kernel
theorem dX10_sheet_76 : decode cX10_sheet 76 = .ok (.getfield 66, 3) := by decide +kernel
theorem dX10_sheet_79 : decode cX10_sheet 79 = .ok (.bipush 30, 2) := by decide +kernel
theorem dX10_sheet_81 : decode cX10_sheet 81 = .ok (.iload_n 1, 1) := by decide +kernel
theorem dX10_sheet_82 : decode cX10_sheet 82 = .ok (.imul, 1) := by decide +kernel
theorem dX10_sheet_83 : decode cX10_sheet 83 = .ok (.iload 4, 2) := by decide +kernel
theorem dX10_sheet_85 : decode cX10_sheet 85 = .ok (.iadd, 1) := by decide +kernel
theorem dX10_sheet_86 : decode cX10_sheet 86 = .ok (.lconst 0, 1) := by decide +kernel
theorem dX10_sheet_87 : decode cX10_sheet 87 = .ok (.lastore, 1) := by decide +kernel
theorem dX10_sheet_88 : decode cX10_sheet 88 = .ok (.iinc 4 1, 3) := by decide +kernel
theorem dX10_sheet_91 : decode cX10_sheet 91 = .ok (.goto (-23), 3) := by decide +kernel
theorem dX10_sheet_94 : decode cX10_sheet 94 = .ok (.iconst 1, 1) := by decide +kernel
theorem dX10_sheet_95 : decode cX10_sheet 95 = .ok (.ireturn, 1) := by decide +kernel
theorem dX10_wrong_0 : decode cX10_wrong 0 = .ok (.iload_n 1, 1) := by decide +kernel
theorem dX10_wrong_1 : decode cX10_wrong 1 = .ok (.invokestatic 187, 3) := by decide +kernel
theorem dX10_wrong_4 : decode cX10_wrong 4 = .ok (.ifCond .ne 8, 3) := by decide +kernel
theorem dX10_wrong_7 : decode cX10_wrong 7 = .ok (.bipush (-2), 2) := by decide +kernel
theorem dX10_wrong_9 : decode cX10_wrong 9 = .ok (.goto 41, 3) := by decide +kernel
theorem dX10_wrong_12 : decode cX10_wrong 12 = .ok (.aload_n 0, 1) := by decide +kernel
theorem dX10_wrong_13 : decode cX10_wrong 13 = .ok (.getfield 60, 3) := by decide +kernel
theorem dX10_wrong_16 : decode cX10_wrong 16 = .ok (.iload_n 1, 1) := by decide +kernel
theorem dX10_wrong_17 : decode cX10_wrong 17 = .ok (.iaload, 1) := by decide +kernel
theorem dX10_wrong_18 : decode cX10_wrong 18 = .ok (.ifCond .ge 8, 3) := by decide +kernel
theorem dX10_wrong_21 : decode cX10_wrong 21 = .ok (.bipush (-11), 2) := by decide +kernel
theorem dX10_wrong_23 : decode cX10_wrong 23 = .ok (.goto 27, 3) := by decide +kernel
theorem dX10_wrong_26 : decode cX10_wrong 26 = .ok (.iload_n 2, 1) := by decide +kernel
theorem dX10_wrong_27 : decode cX10_wrong 27 = .ok (.i2l, 1) := by decide +kernel
theorem dX10_wrong_28 : decode cX10_wrong 28 = .ok (.lconst 0, 1) := by decide +kernel
theorem dX10_wrong_29 : decode cX10_wrong 29 = .ok (.aload_n 0, 1) := by decide +kernel
theorem dX10_wrong_30 : decode cX10_wrong 30 = .ok (.getfield 63, 3) := by decide +kernel
theorem dX10_wrong_33 : decode cX10_wrong 33 = .ok (.iload_n 1, 1) := by decide +kernel
theorem dX10_wrong_34 : decode cX10_wrong 34 = .ok (.iaload, 1) := by decide +kernel
theorem dX10_wrong_35 : decode cX10_wrong 35 = .ok (.iconst 1, 1) := by decide +kernel
theorem dX10_wrong_36 : decode cX10_wrong 36 = .ok (.isub, 1) := by decide +kernel
theorem dX10_wrong_37 : decode cX10_wrong 37 = .ok (.i2l, 1) := by decide +kernel
theorem dX10_wrong_38 : decode cX10_wrong 38 = .ok (.invokestatic 78, 3) := by decide +kernel
theorem dX10_wrong_41 : decode cX10_wrong 41 = .ok (.ifCond .eq 7, 3) := by decide +kernel
theorem dX10_wrong_44 : decode cX10_wrong 44 = .ok (.iconst 0, 1) := by decide +kernel
theorem dX10_wrong_45 : decode cX10_wrong 45 = .ok (.goto 5, 3) := by decide +kernel
theorem dX10_wrong_48 : decode cX10_wrong 48 = .ok (.bipush (-12), 2) := by decide +kernel
theorem dX10_wrong_50 : decode cX10_wrong 50 = .ok (.ireturn, 1) := by decide +kernel
theorem dX10_cell_0 : decode cX10_cell 0 = .ok (.aload_n 0, 1) := by decide +kernel
theorem dX10_cell_1 : decode cX10_cell 1 = .ok (.iload_n 1, 1) := by decide +kernel
theorem dX10_cell_2 : decode cX10_cell 2 = .ok (.iload_n 2, 1) := by decide +kernel
theorem dX10_cell_3 : decode cX10_cell 3 = .ok (.invokevirtual 271, 3) := by decide +kernel
theorem dX10_cell_6 : decode cX10_cell 6 = .ok (.istore 5, 2) := by decide +kernel
theorem dX10_cell_8 : decode cX10_cell 8 = .ok (.iload 5, 2) := by decide +kernel
theorem dX10_cell_10 : decode cX10_cell 10 = .ok (.ifCond .eq 6, 3) := by decide +kernel
theorem dX10_cell_13 : decode cX10_cell 13 = .ok (.iload 5, 2) := by decide +kernel
theorem dX10_cell_15 : decode cX10_cell 15 = .ok (.ireturn, 1) := by decide +kernel
theorem dX10_cell_16 : decode cX10_cell 16 = .ok (.aload_n 0, 1) := by decide +kernel
theorem dX10_cell_17 : decode cX10_cell 17 = .ok (.getfield 60, 3) := by decide +kernel
theorem dX10_cell_20 : decode cX10_cell 20 = .ok (.iload_n 1, 1) := by decide +kernel
theorem dX10_cell_21 : decode cX10_cell 21 = .ok (.iaload, 1) := by decide +kernel
theorem dX10_cell_22 : decode cX10_cell 22 = .ok (.ifCond .ne 14, 3) := by decide +kernel
theorem dX10_cell_25 : decode cX10_cell 25 = .ok (.lload_n 3, 1) := by decide +kernel
theorem dX10_cell_26 : decode cX10_cell 26 = .ok (.lload_n 3, 1) := by decide +kernel
theorem dX10_cell_27 : decode cX10_cell 27 = .ok (.l2i, 1) := by decide +kernel
theorem dX10_cell_28 : decode cX10_cell 28 = .ok (.i2l, 1) := by decide +kernel
theorem dX10_cell_29 : decode cX10_cell 29 = .ok (.lcmp, 1) := by decide +kernel
theorem dX10_cell_30 : decode cX10_cell 30 = .ok (.ifCond .eq 6, 3) := by decide +kernel
theorem dX10_cell_33 : decode cX10_cell 33 = .ok (.bipush (-5), 2) := by decide +kernel
theorem dX10_cell_35 : decode cX10_cell 35 = .ok (.ireturn, 1) := by decide +kernel
theorem dX10_cell_36 : decode cX10_cell 36 = .ok (.aload_n 0, 1) := by decide +kernel
theorem dX10_cell_37 : decode cX10_cell 37 = .ok (.getfield 66, 3) := by decide +kernel
theorem dX10_cell_40 : decode cX10_cell 40 = .ok (.bipush 30, 2) := by decide +kernel
theorem dX10_cell_42 : decode cX10_cell 42 = .ok (.iload_n 1, 1) := by decide +kernel
theorem dX10_cell_43 : decode cX10_cell 43 = .ok (.imul, 1) := by decide +kernel
theorem dX10_cell_44 : decode cX10_cell 44 = .ok (.iload_n 2, 1) := by decide +kernel
theorem dX10_cell_45 : decode cX10_cell 45 = .ok (.iadd, 1) := by decide +kernel
theorem dX10_cell_46 : decode cX10_cell 46 = .ok (.lload_n 3, 1) := by decide +kernel
theorem dX10_cell_47 : decode cX10_cell 47 = .ok (.lastore, 1) := by decide +kernel
theorem dX10_cell_48 : decode cX10_cell 48 = .ok (.iconst 1, 1) := by decide +kernel
theorem dX10_cell_49 : decode cX10_cell 49 = .ok (.ireturn, 1) := by decide +kernel
theorem dX10_read_0 : decode cX10_read 0 = .ok (.aload_n 0, 1) := by decide +kernel
theorem dX10_read_1 : decode cX10_read 1 = .ok (.iload_n 1, 1) := by decide +kernel
theorem dX10_read_2 : decode cX10_read 2 = .ok (.iload_n 2, 1) := by decide +kernel
theorem dX10_read_3 : decode cX10_read 3 = .ok (.invokevirtual 271, 3) := by decide +kernel
theorem dX10_read_6 : decode cX10_read 6 = .ok (.istore_n 3, 1) := by decide +kernel
theorem dX10_read_7 : decode cX10_read 7 = .ok (.iload_n 3, 1) := by decide +kernel
theorem dX10_read_8 : decode cX10_read 8 = .ok (.ifCond .eq 8, 3) := by decide +kernel
theorem dX10_read_11 : decode cX10_read 11 = .ok (.iload_n 3, 1) := by decide +kernel
theorem dX10_read_12 : decode cX10_read 12 = .ok (.i2l, 1) := by decide +kernel
theorem dX10_read_13 : decode cX10_read 13 = .ok (.goto 14, 3) := by decide +kernel
theorem dX10_read_16 : decode cX10_read 16 = .ok (.aload_n 0, 1) := by decide +kernel
theorem dX10_read_17 : decode cX10_read 17 = .ok (.getfield 66, 3) := by decide +kernel
theorem dX10_read_20 : decode cX10_read 20 = .ok (.bipush 30, 2) := by decide +kernel
theorem dX10_read_22 : decode cX10_read 22 = .ok (.iload_n 1, 1) := by decide +kernel
theorem dX10_read_23 : decode cX10_read 23 = .ok (.imul, 1) := by decide +kernel
theorem dX10_read_24 : decode cX10_read 24 = .ok (.iload_n 2, 1) := by decide +kernel
theorem dX10_read_25 : decode cX10_read 25 = .ok (.iadd, 1) := by decide +kernel
theorem dX10_read_26 : decode cX10_read 26 = .ok (.laload, 1) := by decide +kernel
theorem dX10_read_27 : decode cX10_read 27 = .ok (.lreturn, 1) := by decide +kernel
theorem dX10_load_0 : decode cX10_load 0 = .ok (.iload_n 1, 1) := by decide +kernel
theorem dX10_load_1 : decode cX10_load 1 = .ok (.invokestatic 187, 3) := by decide +kernel
theorem dX10_load_4 : decode cX10_load 4 = .ok (.ifCond .eq 11, 3) := by decide +kernel
theorem dX10_load_7 : decode cX10_load 7 = .ok (.aload_n 0, 1) := by decide +kernel
theorem dX10_load_8 : decode cX10_load 8 = .ok (.iload_n 2, 1) := by decide +kernel
theorem dX10_load_9 : decode cX10_load 9 = .ok (.invokevirtual 104, 3) := by decide +kernel
theorem dX10_load_12 : decode cX10_load 12 = .ok (.ifCond .ne 6, 3) := by decide +kernel
theorem dX10_load_15 : decode cX10_load 15 = .ok (.bipush (-2), 2) := by decide +kernel
theorem dX10_load_17 : decode cX10_load 17 = .ok (.ireturn, 1) := by decide +kernel
theorem dX10_load_18 : decode cX10_load 18 = .ok (.aload_n 0, 1) := by decide +kernel
theorem dX10_load_19 : decode cX10_load 19 = .ok (.getfield 60, 3) := by decide +kernel
theorem dX10_load_22 : decode cX10_load 22 = .ok (.iload_n 1, 1) := by decide +kernel
theorem dX10_load_23 : decode cX10_load 23 = .ok (.iaload, 1) := by decide +kernel
theorem dX10_load_24 : decode cX10_load 24 = .ok (.ifCond .ge 6, 3) := by decide +kernel
theorem dX10_load_27 : decode cX10_load 27 = .ok (.bipush (-11), 2) := by decide +kernel
theorem dX10_load_29 : decode cX10_load 29 = .ok (.ireturn, 1) := by decide +kernel
theorem dX10_load_30 : decode cX10_load 30 = .ok (.iload_n 3, 1) := by decide +kernel
theorem dX10_load_31 : decode cX10_load 31 = .ok (.i2l, 1) := by decide +kernel
theorem dX10_load_32 : decode cX10_load 32 = .ok (.lconst 0, 1) := by decide +kernel
theorem dX10_load_33 : decode cX10_load 33 = .ok (.aload_n 0, 1) := by decide +kernel
theorem dX10_load_34 : decode cX10_load 34 = .ok (.getfield 63, 3) := by decide +kernel
theorem dX10_load_37 : decode cX10_load 37 = .ok (.iload_n 1, 1) := by decide +kernel
theorem dX10_load_38 : decode cX10_load 38 = .ok (.iaload, 1) := by decide +kernel
theorem dX10_load_39 : decode cX10_load 39 = .ok (.bipush 12, 2) := by decide +kernel
theorem dX10_load_41 : decode cX10_load 41 = .ok (.isub, 1) := by decide +kernel
theorem dX10_load_42 : decode cX10_load 42 = .ok (.i2l, 1) := by decide +kernel
theorem dX10_load_43 : decode cX10_load 43 = .ok (.invokestatic 78, 3) := by decide +kernel
theorem dX10_load_46 : decode cX10_load 46 = .ok (.ifCond .ne 6, 3) := by decide +kernel
theorem dX10_load_49 : decode cX10_load 49 = .ok (.bipush (-12), 2) := by decide +kernel
theorem dX10_load_51 : decode cX10_load 51 = .ok (.ireturn, 1) := by decide +kernel
theorem dX10_load_52 : decode cX10_load 52 = .ok (.iconst 0, 1) := by decide +kernel
theorem dX10_load_53 : decode cX10_load 53 = .ok (.istore 4, 2) := by decide +kernel
theorem dX10_load_55 : decode cX10_load 55 = .ok (.iload 4, 2) := by decide +kernel
theorem dX10_load_57 : decode cX10_load 57 = .ok (.bipush 12, 2) := by decide +kernel
theorem dX10_load_59 : decode cX10_load 59 = .ok (.if_icmp .ge 40, 3) := by decide +kernel
theorem dX10_load_62 : decode cX10_load 62 = .ok (.aload_n 0, 1) := by decide +kernel
theorem dX10_load_63 : decode cX10_load 63 = .ok (.getfield 27, 3) := by decide +kernel
theorem dX10_load_66 : decode cX10_load 66 = .ok (.bipush 12, 2) := by decide +kernel
theorem dX10_load_68 : decode cX10_load 68 = .ok (.iload_n 2, 1) := by decide +kernel
theorem dX10_load_69 : decode cX10_load 69 = .ok (.imul, 1) := by decide +kernel
theorem dX10_load_70 : decode cX10_load 70 = .ok (.iload 4, 2) := by decide +kernel
theorem dX10_load_72 : decode cX10_load 72 = .ok (.iadd, 1) := by decide +kernel
theorem dX10_load_73 : decode cX10_load 73 = .ok (.aload_n 0, 1) := by decide +kernel
theorem dX10_load_74 : decode cX10_load 74 = .ok (.getfield 66, 3) := by decide +kernel
theorem dX10_load_77 : decode cX10_load 77 = .ok (.bipush 30, 2) := by decide +kernel
theorem dX10_load_79 : decode cX10_load 79 = .ok (.iload_n 1, 1) := by decide +kernel
theorem dX10_load_80 : decode cX10_load 80 = .ok (.imul, 1) := by decide +kernel
theorem dX10_load_81 : decode cX10_load 81 = .ok (.iload_n 3, 1) := by decide +kernel
theorem dX10_load_82 : decode cX10_load 82 = .ok (.iadd, 1) := by decide +kernel
theorem dX10_load_83 : decode cX10_load 83 = .ok (.iload 4, 2) := by decide +kernel
theorem dX10_load_85 : decode cX10_load 85 = .ok (.iadd, 1) := by decide +kernel
theorem dX10_load_86 : decode cX10_load 86 = .ok (.laload, 1) := by decide +kernel
theorem dX10_load_87 : decode cX10_load 87 = .ok (.ldc2_w 274, 3) := by decide +kernel
theorem dX10_load_90 : decode cX10_load 90 = .ok (.lrem, 1) := by decide +kernel
theorem dX10_load_91 : decode cX10_load 91 = .ok (.l2i, 1) := by decide +kernel
theorem dX10_load_92 : decode cX10_load 92 = .ok (.iastore, 1) := by decide +kernel
theorem dX10_load_93 : decode cX10_load 93 = .ok (.iinc 4 1, 3) := by decide +kernel
theorem dX10_load_96 : decode cX10_load 96 = .ok (.goto (-41), 3) := by decide +kernel
theorem dX10_load_99 : decode cX10_load 99 = .ok (.bipush 12, 2) := by decide +kernel
theorem dX10_load_101 : decode cX10_load 101 = .ok (.ireturn, 1) := by decide +kernel
theorem dX10_image_0 : decode cX10_image 0 = .ok (.aload_n 0, 1) := by decide +kernel
theorem dX10_image_1 : decode cX10_image 1 = .ok (.iconst 1, 1) := by decide +kernel
theorem dX10_image_2 : decode cX10_image 2 = .ok (.putfield 276, 3) := by decide +kernel
theorem dX10_image_5 : decode cX10_image 5 = .ok (.aload_n 0, 1) := by decide +kernel
theorem dX10_image_6 : decode cX10_image 6 = .ok (.getfield 69, 3) := by decide +kernel
theorem dX10_image_9 : decode cX10_image 9 = .ok (.iconst 0, 1) := by decide +kernel
theorem dX10_image_10 : decode cX10_image 10 = .ok (.aload_n 0, 1) := by decide +kernel
theorem dX10_image_11 : decode cX10_image 11 = .ok (.getfield 7, 3) := by decide +kernel
theorem dX10_image_14 : decode cX10_image 14 = .ok (.iastore, 1) := by decide +kernel
theorem dX10_image_15 : decode cX10_image 15 = .ok (.aload_n 0, 1) := by decide +kernel
theorem dX10_image_16 : decode cX10_image 16 = .ok (.getfield 69, 3) := by decide +kernel
theorem dX10_image_19 : decode cX10_image 19 = .ok (.iconst 1, 1) := by decide +kernel
theorem dX10_image_20 : decode cX10_image 20 = .ok (.aload_n 0, 1) := by decide +kernel
theorem dX10_image_21 : decode cX10_image 21 = .ok (.getfield 13, 3) := by decide +kernel
theorem dX10_image_24 : decode cX10_image 24 = .ok (.iastore, 1) := by decide +kernel
theorem dX10_image_25 : decode cX10_image 25 = .ok (.aload_n 0, 1) := by decide +kernel
theorem dX10_image_26 : decode cX10_image 26 = .ok (.getfield 69, 3) := by decide +kernel
theorem dX10_image_29 : decode cX10_image 29 = .ok (.iconst 2, 1) := by decide +kernel
theorem dX10_image_30 : decode cX10_image 30 = .ok (.aload_n 0, 1) := by decide +kernel
theorem dX10_image_31 : decode cX10_image 31 = .ok (.getfield 75, 3) := by decide +kernel
theorem dX10_image_34 : decode cX10_image 34 = .ok (.iastore, 1) := by decide +kernel
theorem dX10_image_35 : decode cX10_image 35 = .ok (.iconst 0, 1) := by decide +kernel
theorem dX10_image_36 : decode cX10_image 36 = .ok (.istore_n 1, 1) := by decide +kernel
theorem dX10_image_37 : decode cX10_image 37 = .ok (.iload_n 1, 1) := by decide +kernel
theorem dX10_image_38 : decode cX10_image 38 = .ok (.bipush 10, 2) := by decide +kernel
theorem dX10_image_40 : decode cX10_image 40 = .ok (.if_icmp .ge 50, 3) := by decide +kernel
theorem dX10_image_43 : decode cX10_image 43 = .ok (.aload_n 0, 1) := by decide +kernel
theorem dX10_image_44 : decode cX10_image 44 = .ok (.getfield 69, 3) := by decide +kernel
theorem dX10_image_47 : decode cX10_image 47 = .ok (.iconst 3, 1) := by decide +kernel
theorem dX10_image_48 : decode cX10_image 48 = .ok (.iload_n 1, 1) := by decide +kernel
theorem dX10_image_49 : decode cX10_image 49 = .ok (.iadd, 1) := by decide +kernel
theorem dX10_image_50 : decode cX10_image 50 = .ok (.aload_n 0, 1) := by decide +kernel
theorem dX10_image_51 : decode cX10_image 51 = .ok (.getfield 16, 3) := by decide +kernel
theorem dX10_image_54 : decode cX10_image 54 = .ok (.iload_n 1, 1) := by decide +kernel
theorem dX10_image_55 : decode cX10_image 55 = .ok (.iaload, 1) := by decide +kernel
theorem dX10_image_56 : decode cX10_image 56 = .ok (.iastore, 1) := by decide +kernel
theorem dX10_image_57 : decode cX10_image 57 = .ok (.aload_n 0, 1) := by decide +kernel
theorem dX10_image_58 : decode cX10_image 58 = .ok (.getfield 69, 3) := by decide +kernel
theorem dX10_image_61 : decode cX10_image 61 = .ok (.bipush 13, 2) := by decide +kernel
theorem dX10_image_63 : decode cX10_image 63 = .ok (.iload_n 1, 1) := by decide +kernel
theorem dX10_image_64 : decode cX10_image 64 = .ok (.iadd, 1) := by decide +kernel
theorem dX10_image_65 : decode cX10_image 65 = .ok (.aload_n 0, 1) := by decide +kernel
theorem dX10_image_66 : decode cX10_image 66 = .ok (.getfield 20, 3) := by decide +kernel
theorem dX10_image_69 : decode cX10_image 69 = .ok (.iload_n 1, 1) := by decide +kernel
theorem dX10_image_70 : decode cX10_image 70 = .ok (.iaload, 1) := by decide +kernel
theorem dX10_image_71 : decode cX10_image 71 = .ok (.iastore, 1) := by decide +kernel
theorem dX10_image_72 : decode cX10_image 72 = .ok (.aload_n 0, 1) := by decide +kernel
theorem dX10_image_73 : decode cX10_image 73 = .ok (.getfield 72, 3) := by decide +kernel
theorem dX10_image_76 : decode cX10_image 76 = .ok (.iload_n 1, 1) := by decide +kernel
theorem dX10_image_77 : decode cX10_image 77 = .ok (.aload_n 0, 1) := by decide +kernel
theorem dX10_image_78 : decode cX10_image 78 = .ok (.getfield 23, 3) := by decide +kernel
theorem dX10_image_81 : decode cX10_image 81 = .ok (.iload_n 1, 1) := by decide +kernel
theorem dX10_image_82 : decode cX10_image 82 = .ok (.laload, 1) := by decide +kernel
theorem dX10_image_83 : decode cX10_image 83 = .ok (.lastore, 1) := by decide +kernel
theorem dX10_image_84 : decode cX10_image 84 = .ok (.iinc 1 1, 3) := by decide +kernel
theorem dX10_image_87 : decode cX10_image 87 = .ok (.goto (-50), 3) := by decide +kernel
theorem dX10_image_90 : decode cX10_image 90 = .ok (.iconst 0, 1) := by decide +kernel
theorem dX10_image_91 : decode cX10_image 91 = .ok (.istore_n 1, 1) := by decide +kernel
theorem dX10_image_92 : decode cX10_image 92 = .ok (.iload_n 1, 1) := by decide +kernel
theorem dX10_image_93 : decode cX10_image 93 = .ok (.bipush 120, 2) := by decide +kernel
theorem dX10_image_95 : decode cX10_image 95 = .ok (.if_icmp .ge 24, 3) := by decide +kernel
theorem dX10_image_98 : decode cX10_image 98 = .ok (.aload_n 0, 1) := by decide +kernel
theorem dX10_image_99 : decode cX10_image 99 = .ok (.getfield 69, 3) := by decide +kernel
theorem dX10_image_102 : decode cX10_image 102 = .ok (.bipush 23, 2) := by decide +kernel
theorem dX10_image_104 : decode cX10_image 104 = .ok (.iload_n 1, 1) := by decide +kernel
theorem dX10_image_105 : decode cX10_image 105 = .ok (.iadd, 1) := by decide +kernel
theorem dX10_image_106 : decode cX10_image 106 = .ok (.aload_n 0, 1) := by decide +kernel
theorem dX10_image_107 : decode cX10_image 107 = .ok (.getfield 27, 3) := by decide +kernel
theorem dX10_image_110 : decode cX10_image 110 = .ok (.iload_n 1, 1) := by decide +kernel
theorem dX10_image_111 : decode cX10_image 111 = .ok (.iaload, 1) := by decide +kernel
theorem dX10_image_112 : decode cX10_image 112 = .ok (.iastore, 1) := by decide +kernel
theorem dX10_image_113 : decode cX10_image 113 = .ok (.iinc 1 1, 3) := by decide +kernel
theorem dX10_image_116 : decode cX10_image 116 = .ok (.goto (-24), 3) := by decide +kernel
theorem dX10_image_119 : decode cX10_image 119 = .ok (.iconst 0, 1) := by decide +kernel
theorem dX10_image_120 : decode cX10_image 120 = .ok (.istore_n 1, 1) := by decide +kernel
theorem dX10_image_121 : decode cX10_image 121 = .ok (.iload_n 1, 1) := by decide +kernel
theorem dX10_image_122 : decode cX10_image 122 = .ok (.bipush 8, 2) := by decide +kernel
theorem dX10_image_124 : decode cX10_image 124 = .ok (.if_icmp .ge 25, 3) := by decide +kernel
theorem dX10_image_127 : decode cX10_image 127 = .ok (.aload_n 0, 1) := by decide +kernel
theorem dX10_image_128 : decode cX10_image 128 = .ok (.getfield 69, 3) := by decide +kernel
theorem dX10_image_131 : decode cX10_image 131 = .ok (.sipush 143, 3) := by decide +kernel
theorem dX10_image_134 : decode cX10_image 134 = .ok (.iload_n 1, 1) := by decide +kernel
theorem dX10_image_135 : decode cX10_image 135 = .ok (.iadd, 1) := by decide +kernel
theorem dX10_image_136 : decode cX10_image 136 = .ok (.aload_n 0, 1) := by decide +kernel
theorem dX10_image_137 : decode cX10_image 137 = .ok (.getfield 30, 3) := by decide +kernel
theorem dX10_image_140 : decode cX10_image 140 = .ok (.iload_n 1, 1) := by decide +kernel
theorem dX10_image_141 : decode cX10_image 141 = .ok (.iaload, 1) := by decide +kernel
theorem dX10_image_142 : decode cX10_image 142 = .ok (.iastore, 1) := by decide +kernel
theorem dX10_image_143 : decode cX10_image 143 = .ok (.iinc 1 1, 3) := by decide +kernel
theorem dX10_image_146 : decode cX10_image 146 = .ok (.goto (-25), 3) := by decide +kernel
theorem dX10_image_149 : decode cX10_image 149 = .ok (.aload_n 0, 1) := by decide +kernel
theorem dX10_image_150 : decode cX10_image 150 = .ok (.getfield 75, 3) := by decide +kernel
theorem dX10_image_153 : decode cX10_image 153 = .ok (.ireturn, 1) := by decide +kernel
theorem dX10_back_0 : decode cX10_back 0 = .ok (.aload_n 0, 1) := by decide +kernel
theorem dX10_back_1 : decode cX10_back 1 = .ok (.getfield 276, 3) := by decide +kernel
theorem dX10_back_4 : decode cX10_back 4 = .ok (.ifCond .ne 6, 3) := by decide +kernel
theorem dX10_back_7 : decode cX10_back 7 = .ok (.bipush (-3), 2) := by decide +kernel
theorem dX10_back_9 : decode cX10_back 9 = .ok (.ireturn, 1) := by decide +kernel
theorem dX10_back_10 : decode cX10_back 10 = .ok (.aload_n 0, 1) := by decide +kernel
theorem dX10_back_11 : decode cX10_back 11 = .ok (.aload_n 0, 1) := by decide +kernel
theorem dX10_back_12 : decode cX10_back 12 = .ok (.getfield 69, 3) := by decide +kernel
theorem dX10_back_15 : decode cX10_back 15 = .ok (.iconst 0, 1) := by decide +kernel
theorem dX10_back_16 : decode cX10_back 16 = .ok (.iaload, 1) := by decide +kernel
theorem dX10_back_17 : decode cX10_back 17 = .ok (.putfield 7, 3) := by decide +kernel
theorem dX10_back_20 : decode cX10_back 20 = .ok (.aload_n 0, 1) := by decide +kernel
theorem dX10_back_21 : decode cX10_back 21 = .ok (.aload_n 0, 1) := by decide +kernel
theorem dX10_back_22 : decode cX10_back 22 = .ok (.getfield 69, 3) := by decide +kernel
theorem dX10_back_25 : decode cX10_back 25 = .ok (.iconst 1, 1) := by decide +kernel
theorem dX10_back_26 : decode cX10_back 26 = .ok (.iaload, 1) := by decide +kernel
theorem dX10_back_27 : decode cX10_back 27 = .ok (.putfield 13, 3) := by decide +kernel
theorem dX10_back_30 : decode cX10_back 30 = .ok (.aload_n 0, 1) := by decide +kernel
theorem dX10_back_31 : decode cX10_back 31 = .ok (.aload_n 0, 1) := by decide +kernel
theorem dX10_back_32 : decode cX10_back 32 = .ok (.getfield 69, 3) := by decide +kernel
theorem dX10_back_35 : decode cX10_back 35 = .ok (.iconst 2, 1) := by decide +kernel
theorem dX10_back_36 : decode cX10_back 36 = .ok (.iaload, 1) := by decide +kernel
theorem dX10_back_37 : decode cX10_back 37 = .ok (.putfield 75, 3) := by decide +kernel
theorem dX10_back_40 : decode cX10_back 40 = .ok (.iconst 0, 1) := by decide +kernel
theorem dX10_back_41 : decode cX10_back 41 = .ok (.istore_n 1, 1) := by decide +kernel
theorem dX10_back_42 : decode cX10_back 42 = .ok (.iload_n 1, 1) := by decide +kernel
theorem dX10_back_43 : decode cX10_back 43 = .ok (.bipush 10, 2) := by decide +kernel
theorem dX10_back_45 : decode cX10_back 45 = .ok (.if_icmp .ge 50, 3) := by decide +kernel
theorem dX10_back_48 : decode cX10_back 48 = .ok (.aload_n 0, 1) := by decide +kernel
theorem dX10_back_49 : decode cX10_back 49 = .ok (.getfield 16, 3) := by decide +kernel
theorem dX10_back_52 : decode cX10_back 52 = .ok (.iload_n 1, 1) := by decide +kernel
theorem dX10_back_53 : decode cX10_back 53 = .ok (.aload_n 0, 1) := by decide +kernel
theorem dX10_back_54 : decode cX10_back 54 = .ok (.getfield 69, 3) := by decide +kernel
theorem dX10_back_57 : decode cX10_back 57 = .ok (.iconst 3, 1) := by decide +kernel
theorem dX10_back_58 : decode cX10_back 58 = .ok (.iload_n 1, 1) := by decide +kernel
theorem dX10_back_59 : decode cX10_back 59 = .ok (.iadd, 1) := by decide +kernel
theorem dX10_back_60 : decode cX10_back 60 = .ok (.iaload, 1) := by decide +kernel
theorem dX10_back_61 : decode cX10_back 61 = .ok (.iastore, 1) := by decide +kernel
theorem dX10_back_62 : decode cX10_back 62 = .ok (.aload_n 0, 1) := by decide +kernel
theorem dX10_back_63 : decode cX10_back 63 = .ok (.getfield 20, 3) := by decide +kernel
theorem dX10_back_66 : decode cX10_back 66 = .ok (.iload_n 1, 1) := by decide +kernel
theorem dX10_back_67 : decode cX10_back 67 = .ok (.aload_n 0, 1) := by decide +kernel
theorem dX10_back_68 : decode cX10_back 68 = .ok (.getfield 69, 3) := by decide +kernel
theorem dX10_back_71 : decode cX10_back 71 = .ok (.bipush 13, 2) := by decide +kernel
theorem dX10_back_73 : decode cX10_back 73 = .ok (.iload_n 1, 1) := by decide +kernel
theorem dX10_back_74 : decode cX10_back 74 = .ok (.iadd, 1) := by decide +kernel
theorem dX10_back_75 : decode cX10_back 75 = .ok (.iaload, 1) := by decide +kernel
theorem dX10_back_76 : decode cX10_back 76 = .ok (.iastore, 1) := by decide +kernel
theorem dX10_back_77 : decode cX10_back 77 = .ok (.aload_n 0, 1) := by decide +kernel
theorem dX10_back_78 : decode cX10_back 78 = .ok (.getfield 23, 3) := by decide +kernel
theorem dX10_back_81 : decode cX10_back 81 = .ok (.iload_n 1, 1) := by decide +kernel
theorem dX10_back_82 : decode cX10_back 82 = .ok (.aload_n 0, 1) := by decide +kernel
theorem dX10_back_83 : decode cX10_back 83 = .ok (.getfield 72, 3) := by decide +kernel
theorem dX10_back_86 : decode cX10_back 86 = .ok (.iload_n 1, 1) := by decide +kernel
theorem dX10_back_87 : decode cX10_back 87 = .ok (.laload, 1) := by decide +kernel
theorem dX10_back_88 : decode cX10_back 88 = .ok (.lastore, 1) := by decide +kernel
theorem dX10_back_89 : decode cX10_back 89 = .ok (.iinc 1 1, 3) := by decide +kernel
theorem dX10_back_92 : decode cX10_back 92 = .ok (.goto (-50), 3) := by decide +kernel
theorem dX10_back_95 : decode cX10_back 95 = .ok (.iconst 0, 1) := by decide +kernel
theorem dX10_back_96 : decode cX10_back 96 = .ok (.istore_n 1, 1) := by decide +kernel
theorem dX10_back_97 : decode cX10_back 97 = .ok (.iload_n 1, 1) := by decide +kernel
theorem dX10_back_98 : decode cX10_back 98 = .ok (.bipush 120, 2) := by decide +kernel
theorem dX10_back_100 : decode cX10_back 100 = .ok (.if_icmp .ge 24, 3) := by decide +kernel
theorem dX10_back_103 : decode cX10_back 103 = .ok (.aload_n 0, 1) := by decide +kernel
theorem dX10_back_104 : decode cX10_back 104 = .ok (.getfield 27, 3) := by decide +kernel
theorem dX10_back_107 : decode cX10_back 107 = .ok (.iload_n 1, 1) := by decide +kernel
theorem dX10_back_108 : decode cX10_back 108 = .ok (.aload_n 0, 1) := by decide +kernel
theorem dX10_back_109 : decode cX10_back 109 = .ok (.getfield 69, 3) := by decide +kernel
theorem dX10_back_112 : decode cX10_back 112 = .ok (.bipush 23, 2) := by decide +kernel
theorem dX10_back_114 : decode cX10_back 114 = .ok (.iload_n 1, 1) := by decide +kernel
theorem dX10_back_115 : decode cX10_back 115 = .ok (.iadd, 1) := by decide +kernel
theorem dX10_back_116 : decode cX10_back 116 = .ok (.iaload, 1) := by decide +kernel
theorem dX10_back_117 : decode cX10_back 117 = .ok (.iastore, 1) := by decide +kernel
theorem dX10_back_118 : decode cX10_back 118 = .ok (.iinc 1 1, 3) := by decide +kernel
theorem dX10_back_121 : decode cX10_back 121 = .ok (.goto (-24), 3) := by decide +kernel
theorem dX10_back_124 : decode cX10_back 124 = .ok (.iconst 0, 1) := by decide +kernel
theorem dX10_back_125 : decode cX10_back 125 = .ok (.istore_n 1, 1) := by decide +kernel
theorem dX10_back_126 : decode cX10_back 126 = .ok (.iload_n 1, 1) := by decide +kernel
theorem dX10_back_127 : decode cX10_back 127 = .ok (.bipush 8, 2) := by decide +kernel
theorem dX10_back_129 : decode cX10_back 129 = .ok (.if_icmp .ge 25, 3) := by decide +kernel
theorem dX10_back_132 : decode cX10_back 132 = .ok (.aload_n 0, 1) := by decide +kernel
theorem dX10_back_133 : decode cX10_back 133 = .ok (.getfield 30, 3) := by decide +kernel
theorem dX10_back_136 : decode cX10_back 136 = .ok (.iload_n 1, 1) := by decide +kernel
theorem dX10_back_137 : decode cX10_back 137 = .ok (.aload_n 0, 1) := by decide +kernel
theorem dX10_back_138 : decode cX10_back 138 = .ok (.getfield 69, 3) := by decide +kernel
theorem dX10_back_141 : decode cX10_back 141 = .ok (.sipush 143, 3) := by decide +kernel
theorem dX10_back_144 : decode cX10_back 144 = .ok (.iload_n 1, 1) := by decide +kernel
theorem dX10_back_145 : decode cX10_back 145 = .ok (.iadd, 1) := by decide +kernel
theorem dX10_back_146 : decode cX10_back 146 = .ok (.iaload, 1) := by decide +kernel
theorem dX10_back_147 : decode cX10_back 147 = .ok (.iastore, 1) := by decide +kernel
theorem dX10_back_148 : decode cX10_back 148 = .ok (.iinc 1 1, 3) := by decide +kernel
theorem dX10_back_151 : decode cX10_back 151 = .ok (.goto (-25), 3) := by decide +kernel
theorem dX10_back_154 : decode cX10_back 154 = .ok (.aload_n 0, 1) := by decide +kernel
theorem dX10_back_155 : decode cX10_back 155 = .ok (.getfield 75, 3) := by decide +kernel
theorem dX10_back_158 : decode cX10_back 158 = .ok (.ireturn, 1) := by decide +kernel
theorem dX10_nameMany_0 : decode cX10_nameMany 0 = .ok (.iconst 0, 1) := by decide +kernel
theorem dX10_nameMany_1 : decode cX10_nameMany 1 = .ok (.istore_n 1, 1) := by decide +kernel
theorem dX10_nameMany_2 : decode cX10_nameMany 2 = .ok (.iconst 0, 1) := by decide +kernel
theorem dX10_nameMany_3 : decode cX10_nameMany 3 = .ok (.istore_n 2, 1) := by decide +kernel
theorem dX10_nameMany_4 : decode cX10_nameMany 4 = .ok (.iload_n 2, 1) := by decide +kernel
theorem dX10_nameMany_5 : decode cX10_nameMany 5 = .ok (.aload_n 0, 1) := by decide +kernel
theorem dX10_nameMany_6 : decode cX10_nameMany 6 = .ok (.getfield 75, 3) := by decide +kernel
theorem dX10_nameMany_9 : decode cX10_nameMany 9 = .ok (.if_icmp .ge 28, 3) := by decide +kernel
theorem dX10_nameMany_12 : decode cX10_nameMany 12 = .ok (.iload_n 1, 1) := by decide +kernel
theorem dX10_nameMany_13 : decode cX10_nameMany 13 = .ok (.aload_n 0, 1) := by decide +kernel
theorem dX10_nameMany_14 : decode cX10_nameMany 14 = .ok (.getfield 23, 3) := by decide +kernel
theorem dX10_nameMany_17 : decode cX10_nameMany 17 = .ok (.iload_n 2, 1) := by decide +kernel
theorem dX10_nameMany_18 : decode cX10_nameMany 18 = .ok (.laload, 1) := by decide +kernel
theorem dX10_nameMany_19 : decode cX10_nameMany 19 = .ok (.lconst 0, 1) := by decide +kernel
theorem dX10_nameMany_20 : decode cX10_nameMany 20 = .ok (.lcmp, 1) := by decide +kernel
theorem dX10_nameMany_21 : decode cX10_nameMany 21 = .ok (.ifCond .ne 7, 3) := by decide +kernel
theorem dX10_nameMany_24 : decode cX10_nameMany 24 = .ok (.iconst 0, 1) := by decide +kernel
theorem dX10_nameMany_25 : decode cX10_nameMany 25 = .ok (.goto 4, 3) := by decide +kernel
theorem dX10_nameMany_28 : decode cX10_nameMany 28 = .ok (.iconst 1, 1) := by decide +kernel
theorem dX10_nameMany_29 : decode cX10_nameMany 29 = .ok (.iadd, 1) := by decide +kernel
theorem dX10_nameMany_30 : decode cX10_nameMany 30 = .ok (.istore_n 1, 1) := by decide +kernel
theorem dX10_nameMany_31 : decode cX10_nameMany 31 = .ok (.iinc 2 1, 3) := by decide +kernel
theorem dX10_nameMany_34 : decode cX10_nameMany 34 = .ok (.goto (-30), 3) := by decide +kernel
theorem dX10_nameMany_37 : decode cX10_nameMany 37 = .ok (.iload_n 1, 1) := by decide +kernel
theorem dX10_nameMany_38 : decode cX10_nameMany 38 = .ok (.ireturn, 1) := by decide +kernel
theorem dX10_linkMany_0 : decode cX10_linkMany 0 = .ok (.iconst 0, 1) := by decide +kernel
theorem dX10_linkMany_1 : decode cX10_linkMany 1 = .ok (.istore_n 1, 1) := by decide +kernel
theorem dX10_linkMany_2 : decode cX10_linkMany 2 = .ok (.iconst 0, 1) := by decide +kernel
theorem dX10_linkMany_3 : decode cX10_linkMany 3 = .ok (.istore_n 2, 1) := by decide +kernel
theorem dX10_linkMany_4 : decode cX10_linkMany 4 = .ok (.iload_n 2, 1) := by decide +kernel
theorem dX10_linkMany_5 : decode cX10_linkMany 5 = .ok (.bipush 8, 2) := by decide +kernel
theorem dX10_linkMany_7 : decode cX10_linkMany 7 = .ok (.if_icmp .ge 21, 3) := by decide +kernel
theorem dX10_linkMany_10 : decode cX10_linkMany 10 = .ok (.iload_n 1, 1) := by decide +kernel
theorem dX10_linkMany_11 : decode cX10_linkMany 11 = .ok (.aload_n 0, 1) := by decide +kernel
theorem dX10_linkMany_12 : decode cX10_linkMany 12 = .ok (.getfield 30, 3) := by decide +kernel
theorem dX10_linkMany_15 : decode cX10_linkMany 15 = .ok (.iload_n 2, 1) := by decide +kernel
theorem dX10_linkMany_16 : decode cX10_linkMany 16 = .ok (.iaload, 1) := by decide +kernel
theorem dX10_linkMany_17 : decode cX10_linkMany 17 = .ok (.invokestatic 164, 3) := by decide +kernel
theorem dX10_linkMany_20 : decode cX10_linkMany 20 = .ok (.iadd, 1) := by decide +kernel
theorem dX10_linkMany_21 : decode cX10_linkMany 21 = .ok (.istore_n 1, 1) := by decide +kernel
theorem dX10_linkMany_22 : decode cX10_linkMany 22 = .ok (.iinc 2 1, 3) := by decide +kernel
theorem dX10_linkMany_25 : decode cX10_linkMany 25 = .ok (.goto (-21), 3) := by decide +kernel
theorem dX10_linkMany_28 : decode cX10_linkMany 28 = .ok (.iload_n 1, 1) := by decide +kernel
theorem dX10_linkMany_29 : decode cX10_linkMany 29 = .ok (.iconst 2, 1) := by decide +kernel
theorem dX10_linkMany_30 : decode cX10_linkMany 30 = .ok (.idiv, 1) := by decide +kernel
theorem dX10_linkMany_31 : decode cX10_linkMany 31 = .ok (.ireturn, 1) := by decide +kernel
theorem dX10_count_0 : decode cX10_count 0 = .ok (.iload_n 1, 1) := by decide +kernel
theorem dX10_count_1 : decode cX10_count 1 = .ok (.tableswitch 60 0 4 #[35, 40, 45, 50, 55], 35) := by decide +kernel
theorem dX10_count_36 : decode cX10_count 36 = .ok (.aload_n 0, 1) := by decide +kernel
theorem dX10_count_37 : decode cX10_count 37 = .ok (.getfield 75, 3) := by decide +kernel
theorem dX10_count_40 : decode cX10_count 40 = .ok (.ireturn, 1) := by decide +kernel
theorem dX10_count_41 : decode cX10_count 41 = .ok (.aload_n 0, 1) := by decide +kernel
theorem dX10_count_42 : decode cX10_count 42 = .ok (.getfield 7, 3) := by decide +kernel
theorem dX10_count_45 : decode cX10_count 45 = .ok (.ireturn, 1) := by decide +kernel
theorem dX10_count_46 : decode cX10_count 46 = .ok (.aload_n 0, 1) := by decide +kernel
theorem dX10_count_47 : decode cX10_count 47 = .ok (.getfield 13, 3) := by decide +kernel
theorem dX10_count_50 : decode cX10_count 50 = .ok (.ireturn, 1) := by decide +kernel
theorem dX10_count_51 : decode cX10_count 51 = .ok (.aload_n 0, 1) := by decide +kernel
theorem dX10_count_52 : decode cX10_count 52 = .ok (.invokevirtual 279, 3) := by decide +kernel
theorem dX10_count_55 : decode cX10_count 55 = .ok (.ireturn, 1) := by decide +kernel
theorem dX10_count_56 : decode cX10_count 56 = .ok (.aload_n 0, 1) := by decide +kernel
theorem dX10_count_57 : decode cX10_count 57 = .ok (.invokevirtual 282, 3) := by decide +kernel
theorem dX10_count_60 : decode cX10_count 60 = .ok (.ireturn, 1) := by decide +kernel
theorem dX10_count_61 : decode cX10_count 61 = .ok (.bipush (-2), 2) := by decide +kernel
theorem dX10_count_63 : decode cX10_count 63 = .ok (.ireturn, 1) := by decide +kernel
theorem dJ6_compare_7cf53_0 : decode cJ6_compare_7cf53 0 = .ok (.iload_n 0, 1) := by decide +kernel
theorem dJ6_compare_7cf53_1 : decode cJ6_compare_7cf53 1 = .ok (.iload_n 1, 1) := by decide +kernel
theorem dJ6_compare_7cf53_2 : decode cJ6_compare_7cf53 2 = .ok (.if_icmp .ge 7, 3) := by decide +kernel
theorem dJ6_compare_7cf53_5 : decode cJ6_compare_7cf53 5 = .ok (.iconst (-1), 1) := by decide +kernel
theorem dJ6_compare_7cf53_6 : decode cJ6_compare_7cf53 6 = .ok (.goto 13, 3) := by decide +kernel
theorem dJ6_compare_7cf53_9 : decode cJ6_compare_7cf53 9 = .ok (.iload_n 0, 1) := by decide +kernel
theorem dJ6_compare_7cf53_10 : decode cJ6_compare_7cf53 10 = .ok (.iload_n 1, 1) := by decide +kernel
theorem dJ6_compare_7cf53_11 : decode cJ6_compare_7cf53 11 = .ok (.if_icmp .ne 7, 3) := by decide +kernel
theorem dJ6_compare_7cf53_14 : decode cJ6_compare_7cf53 14 = .ok (.iconst 0, 1) := by decide +kernel
theorem dJ6_compare_7cf53_15 : decode cJ6_compare_7cf53 15 = .ok (.goto 4, 3) := by decide +kernel
theorem dJ6_compare_7cf53_18 : decode cJ6_compare_7cf53 18 = .ok (.iconst 1, 1) := by decide +kernel
theorem dJ6_compare_7cf53_19 : decode cJ6_compare_7cf53 19 = .ok (.ireturn, 1) := by decide +kernel
theorem dJ6_bitCount_0f7a4_0 : decode cJ6_bitCount_0f7a4 0 = .ok (.iload_n 0, 1) := by decide +kernel
theorem dJ6_bitCount_0f7a4_1 : decode cJ6_bitCount_0f7a4 1 = .ok (.iload_n 0, 1) := by decide +kernel
theorem dJ6_bitCount_0f7a4_2 : decode cJ6_bitCount_0f7a4 2 = .ok (.iconst 1, 1) := by decide +kernel
theorem dJ6_bitCount_0f7a4_3 : decode cJ6_bitCount_0f7a4 3 = .ok (.iushr, 1) := by decide +kernel
theorem dJ6_bitCount_0f7a4_4 : decode cJ6_bitCount_0f7a4 4 = .ok (.ldc_w 265, 3) := by decide +kernel
theorem dJ6_bitCount_0f7a4_7 : decode cJ6_bitCount_0f7a4 7 = .ok (.iand, 1) := by decide +kernel
theorem dJ6_bitCount_0f7a4_8 : decode cJ6_bitCount_0f7a4 8 = .ok (.isub, 1) := by decide +kernel
theorem dJ6_bitCount_0f7a4_9 : decode cJ6_bitCount_0f7a4 9 = .ok (.istore_n 0, 1) := by decide +kernel
theorem dJ6_bitCount_0f7a4_10 : decode cJ6_bitCount_0f7a4 10 = .ok (.iload_n 0, 1) := by decide +kernel
theorem dJ6_bitCount_0f7a4_11 : decode cJ6_bitCount_0f7a4 11 = .ok (.ldc_w 266, 3) := by decide +kernel
theorem dJ6_bitCount_0f7a4_14 : decode cJ6_bitCount_0f7a4 14 = .ok (.iand, 1) := by decide +kernel
theorem dJ6_bitCount_0f7a4_15 : decode cJ6_bitCount_0f7a4 15 = .ok (.iload_n 0, 1) := by decide +kernel
theorem dJ6_bitCount_0f7a4_16 : decode cJ6_bitCount_0f7a4 16 = .ok (.iconst 2, 1) := by decide +kernel
theorem dJ6_bitCount_0f7a4_17 : decode cJ6_bitCount_0f7a4 17 = .ok (.iushr, 1) := by decide +kernel
theorem dJ6_bitCount_0f7a4_18 : decode cJ6_bitCount_0f7a4 18 = .ok (.ldc_w 266, 3) := by decide +kernel
theorem dJ6_bitCount_0f7a4_21 : decode cJ6_bitCount_0f7a4 21 = .ok (.iand, 1) := by decide +kernel
theorem dJ6_bitCount_0f7a4_22 : decode cJ6_bitCount_0f7a4 22 = .ok (.iadd, 1) := by decide +kernel
theorem dJ6_bitCount_0f7a4_23 : decode cJ6_bitCount_0f7a4 23 = .ok (.istore_n 0, 1) := by decide +kernel
theorem dJ6_bitCount_0f7a4_24 : decode cJ6_bitCount_0f7a4 24 = .ok (.iload_n 0, 1) := by decide +kernel
theorem dJ6_bitCount_0f7a4_25 : decode cJ6_bitCount_0f7a4 25 = .ok (.iload_n 0, 1) := by decide +kernel
theorem dJ6_bitCount_0f7a4_26 : decode cJ6_bitCount_0f7a4 26 = .ok (.iconst 4, 1) := by decide +kernel
theorem dJ6_bitCount_0f7a4_27 : decode cJ6_bitCount_0f7a4 27 = .ok (.iushr, 1) := by decide +kernel
theorem dJ6_bitCount_0f7a4_28 : decode cJ6_bitCount_0f7a4 28 = .ok (.iadd, 1) := by decide +kernel
theorem dJ6_bitCount_0f7a4_29 : decode cJ6_bitCount_0f7a4 29 = .ok (.ldc_w 267, 3) := by decide +kernel
theorem dJ6_bitCount_0f7a4_32 : decode cJ6_bitCount_0f7a4 32 = .ok (.iand, 1) := by decide +kernel
theorem dJ6_bitCount_0f7a4_33 : decode cJ6_bitCount_0f7a4 33 = .ok (.istore_n 0, 1) := by decide +kernel
theorem dJ6_bitCount_0f7a4_34 : decode cJ6_bitCount_0f7a4 34 = .ok (.iload_n 0, 1) := by decide +kernel
theorem dJ6_bitCount_0f7a4_35 : decode cJ6_bitCount_0f7a4 35 = .ok (.iload_n 0, 1) := by decide +kernel
theorem dJ6_bitCount_0f7a4_36 : decode cJ6_bitCount_0f7a4 36 = .ok (.bipush 8, 2) := by decide +kernel
theorem dJ6_bitCount_0f7a4_38 : decode cJ6_bitCount_0f7a4 38 = .ok (.iushr, 1) := by decide +kernel
theorem dJ6_bitCount_0f7a4_39 : decode cJ6_bitCount_0f7a4 39 = .ok (.iadd, 1) := by decide +kernel
theorem dJ6_bitCount_0f7a4_40 : decode cJ6_bitCount_0f7a4 40 = .ok (.istore_n 0, 1) := by decide +kernel
theorem dJ6_bitCount_0f7a4_41 : decode cJ6_bitCount_0f7a4 41 = .ok (.iload_n 0, 1) := by decide +kernel
theorem dJ6_bitCount_0f7a4_42 : decode cJ6_bitCount_0f7a4 42 = .ok (.iload_n 0, 1) := by decide +kernel
theorem dJ6_bitCount_0f7a4_43 : decode cJ6_bitCount_0f7a4 43 = .ok (.bipush 16, 2) := by decide +kernel
theorem dJ6_bitCount_0f7a4_45 : decode cJ6_bitCount_0f7a4 45 = .ok (.iushr, 1) := by decide +kernel
theorem dJ6_bitCount_0f7a4_46 : decode cJ6_bitCount_0f7a4 46 = .ok (.iadd, 1) := by decide +kernel
theorem dJ6_bitCount_0f7a4_47 : decode cJ6_bitCount_0f7a4 47 = .ok (.istore_n 0, 1) := by decide +kernel
theorem dJ6_bitCount_0f7a4_48 : decode cJ6_bitCount_0f7a4 48 = .ok (.iload_n 0, 1) := by decide +kernel
theorem dJ6_bitCount_0f7a4_49 : decode cJ6_bitCount_0f7a4 49 = .ok (.bipush 63, 2) := by decide +kernel
theorem dJ6_bitCount_0f7a4_51 : decode cJ6_bitCount_0f7a4 51 = .ok (.iand, 1) := by decide +kernel
theorem dJ6_bitCount_0f7a4_52 : decode cJ6_bitCount_0f7a4 52 = .ok (.ireturn, 1) := by decide +kernel
theorem dJ9_max_7cf53_0 : decode cJ9_max_7cf53 0 = .ok (.iload_n 0, 1) := by decide +kernel
theorem dJ9_max_7cf53_1 : decode cJ9_max_7cf53 1 = .ok (.iload_n 1, 1) := by decide +kernel
theorem dJ9_max_7cf53_2 : decode cJ9_max_7cf53 2 = .ok (.if_icmp .lt 7, 3) := by decide +kernel
theorem dJ9_max_7cf53_5 : decode cJ9_max_7cf53 5 = .ok (.iload_n 0, 1) := by decide +kernel
theorem dJ9_max_7cf53_6 : decode cJ9_max_7cf53 6 = .ok (.goto 4, 3) := by decide +kernel
theorem dJ9_max_7cf53_9 : decode cJ9_max_7cf53 9 = .ok (.iload_n 1, 1) := by decide +kernel
theorem dJ9_max_7cf53_10 : decode cJ9_max_7cf53 10 = .ok (.ireturn, 1) := by decide +kernel
theorem dJ9_min_7cf53_0 : decode cJ9_min_7cf53 0 = .ok (.iload_n 0, 1) := by decide +kernel
theorem dJ9_min_7cf53_1 : decode cJ9_min_7cf53 1 = .ok (.iload_n 1, 1) := by decide +kernel
theorem dJ9_min_7cf53_2 : decode cJ9_min_7cf53 2 = .ok (.if_icmp .gt 7, 3) := by decide +kernel
theorem dJ9_min_7cf53_5 : decode cJ9_min_7cf53 5 = .ok (.iload_n 0, 1) := by decide +kernel
theorem dJ9_min_7cf53_6 : decode cJ9_min_7cf53 6 = .ok (.goto 4, 3) := by decide +kernel
theorem dJ9_min_7cf53_9 : decode cJ9_min_7cf53 9 = .ok (.iload_n 1, 1) := by decide +kernel
theorem dJ9_min_7cf53_10 : decode cJ9_min_7cf53 10 = .ok (.ireturn, 1) := by decide +kernel
theorem dL_law_0 : decode cL_law 0 = .ok (.new 7, 3) := by decide +kernel
theorem dL_law_3 : decode cL_law 3 = .ok (.dup, 1) := by decide +kernel
theorem dL_law_4 : decode cL_law 4 = .ok (.invokespecial 9, 3) := by decide +kernel
theorem dL_law_7 : decode cL_law 7 = .ok (.astore_n 1, 1) := by decide +kernel
theorem dL_law_8 : decode cL_law 8 = .ok (.new 10, 3) := by decide +kernel
theorem dL_law_11 : decode cL_law 11 = .ok (.dup, 1) := by decide +kernel
theorem dL_law_12 : decode cL_law 12 = .ok (.invokespecial 12, 3) := by decide +kernel
theorem dL_law_15 : decode cL_law 15 = .ok (.astore_n 2, 1) := by decide +kernel
theorem dL_law_16 : decode cL_law 16 = .ok (.iconst 0, 1) := by decide +kernel
theorem dL_law_17 : decode cL_law 17 = .ok (.istore_n 3, 1) := by decide +kernel
theorem dL_law_18 : decode cL_law 18 = .ok (.iload_n 3, 1) := by decide +kernel
theorem dL_law_19 : decode cL_law 19 = .ok (.aload_n 0, 1) := by decide +kernel
theorem dL_law_20 : decode cL_law 20 = .ok (.arraylength, 1) := by decide +kernel
theorem dL_law_21 : decode cL_law 21 = .ok (.iconst 5, 1) := by decide +kernel
theorem dL_law_22 : decode cL_law 22 = .ok (.isub, 1) := by decide +kernel
theorem dL_law_23 : decode cL_law 23 = .ok (.if_icmp .gt 1593, 3) := by decide +kernel
theorem dL_law_26 : decode cL_law 26 = .ok (.aload_n 0, 1) := by decide +kernel
theorem dL_law_27 : decode cL_law 27 = .ok (.iload_n 3, 1) := by decide +kernel
theorem dL_law_28 : decode cL_law 28 = .ok (.iaload, 1) := by decide +kernel
theorem dL_law_29 : decode cL_law 29 = .ok (.bipush 63, 2) := by decide +kernel
theorem dL_law_31 : decode cL_law 31 = .ok (.iand, 1) := by decide +kernel
theorem dL_law_32 : decode cL_law 32 = .ok (.tableswitch 1578 0 43 #[192, 225, 258, 291, 344, 387, 420, 463, 476, 539, 592, 615, 639, 662, 685, 698, 721, 744, 767, 790, 813, 856, 879, 903, 936, 969, 1002, 1035, 1048, 1072, 1105, 1148, 1171, 1194, 1237, 1270, 1303, 1336, 1379, 1452, 1486, 1529, 1542, 1555], 192) := by decide +kernel
theorem dL_law_224 : decode cL_law 224 = .ok (.aload_n 1, 1) := by decide +kernel
theorem dL_law_225 : decode cL_law 225 = .ok (.aload_n 0, 1) := by decide +kernel
theorem dL_law_226 : decode cL_law 226 = .ok (.iload_n 3, 1) := by decide +kernel
theorem dL_law_227 : decode cL_law 227 = .ok (.iconst 1, 1) := by decide +kernel
theorem dL_law_228 : decode cL_law 228 = .ok (.iadd, 1) := by decide +kernel
theorem dL_law_229 : decode cL_law 229 = .ok (.iaload, 1) := by decide +kernel
theorem dL_law_230 : decode cL_law 230 = .ok (.aload_n 0, 1) := by decide +kernel
theorem dL_law_231 : decode cL_law 231 = .ok (.iload_n 3, 1) := by decide +kernel
theorem dL_law_232 : decode cL_law 232 = .ok (.iconst 2, 1) := by decide +kernel
theorem dL_law_233 : decode cL_law 233 = .ok (.iadd, 1) := by decide +kernel
theorem dL_law_234 : decode cL_law 234 = .ok (.iaload, 1) := by decide +kernel
theorem dL_law_235 : decode cL_law 235 = .ok (.invokevirtual 13, 3) := by decide +kernel
theorem dL_law_238 : decode cL_law 238 = .ok (.aload_n 2, 1) := by decide +kernel
theorem dL_law_239 : decode cL_law 239 = .ok (.aload_n 0, 1) := by decide +kernel
theorem dL_law_240 : decode cL_law 240 = .ok (.iload_n 3, 1) := by decide +kernel
theorem dL_law_241 : decode cL_law 241 = .ok (.iconst 1, 1) := by decide +kernel
theorem dL_law_242 : decode cL_law 242 = .ok (.iadd, 1) := by decide +kernel
theorem dL_law_243 : decode cL_law 243 = .ok (.iaload, 1) := by decide +kernel
theorem dL_law_244 : decode cL_law 244 = .ok (.aload_n 0, 1) := by decide +kernel
theorem dL_law_245 : decode cL_law 245 = .ok (.iload_n 3, 1) := by decide +kernel
theorem dL_law_246 : decode cL_law 246 = .ok (.iconst 2, 1) := by decide +kernel
theorem dL_law_247 : decode cL_law 247 = .ok (.iadd, 1) := by decide +kernel
