theorem dX12_known_8 : decode cX12_known 8 = .ok (.getfield 7, 3) := by decide +kernel
theorem dX12_known_11 : decode cX12_known 11 = .ok (.bipush 8, 2) := by decide +kernel
theorem dX12_known_13 : decode cX12_known 13 = .ok (.iaload, 1) := by decide +kernel
theorem dX12_known_14 : decode cX12_known 14 = .ok (.if_icmp .ge 114, 3) := by decide +kernel
theorem dX12_known_17 : decode cX12_known 17 = .ok (.sipush 1753, 3) := by decide +kernel
theorem dX12_known_20 : decode cX12_known 20 = .ok (.iconst 5, 1) := by decide +kernel
theorem dX12_known_21 : decode cX12_known 21 = .ok (.iload 4, 2) := by decide +kernel
theorem dX12_known_23 : decode cX12_known 23 = .ok (.imul, 1) := by decide +kernel
theorem dX12_known_24 : decode cX12_known 24 = .ok (.iadd, 1) := by decide +kernel
theorem dX12_known_25 : decode cX12_known 25 = .ok (.istore 5, 2) := by decide +kernel
theorem dX12_known_27 : decode cX12_known 27 = .ok (.iload_n 3, 1) := by decide +kernel
theorem dX12_known_28 : decode cX12_known 28 = .ok (.aload_n 0, 1) := by decide +kernel
theorem dX12_known_29 : decode cX12_known 29 = .ok (.getfield 7, 3) := by decide +kernel
theorem dX12_known_32 : decode cX12_known 32 = .ok (.iload 5, 2) := by decide +kernel
theorem dX12_known_34 : decode cX12_known 34 = .ok (.iaload, 1) := by decide +kernel
theorem dX12_known_35 : decode cX12_known 35 = .ok (.iload_n 1, 1) := by decide +kernel
theorem dX12_known_36 : decode cX12_known 36 = .ok (.if_icmp .ne 43, 3) := by decide +kernel
theorem dX12_known_39 : decode cX12_known 39 = .ok (.aload_n 0, 1) := by decide +kernel
theorem dX12_known_40 : decode cX12_known 40 = .ok (.getfield 7, 3) := by decide +kernel
theorem dX12_known_43 : decode cX12_known 43 = .ok (.iload 5, 2) := by decide +kernel
theorem dX12_known_45 : decode cX12_known 45 = .ok (.iconst 2, 1) := by decide +kernel
theorem dX12_known_46 : decode cX12_known 46 = .ok (.iadd, 1) := by decide +kernel
theorem dX12_known_47 : decode cX12_known 47 = .ok (.iaload, 1) := by decide +kernel
theorem dX12_known_48 : decode cX12_known 48 = .ok (.iload_n 2, 1) := by decide +kernel
theorem dX12_known_49 : decode cX12_known 49 = .ok (.if_icmp .gt 30, 3) := by decide +kernel
theorem dX12_known_52 : decode cX12_known 52 = .ok (.aload_n 0, 1) := by decide +kernel
theorem dX12_known_53 : decode cX12_known 53 = .ok (.getfield 7, 3) := by decide +kernel
theorem dX12_known_56 : decode cX12_known 56 = .ok (.iload 5, 2) := by decide +kernel
theorem dX12_known_58 : decode cX12_known 58 = .ok (.iconst 4, 1) := by decide +kernel
theorem dX12_known_59 : decode cX12_known 59 = .ok (.iadd, 1) := by decide +kernel
theorem dX12_known_60 : decode cX12_known 60 = .ok (.iaload, 1) := by decide +kernel
theorem dX12_known_61 : decode cX12_known 61 = .ok (.iconst (-1), 1) := by decide +kernel
theorem dX12_known_62 : decode cX12_known 62 = .ok (.if_icmp .eq 17, 3) := by decide +kernel
theorem dX12_known_65 : decode cX12_known 65 = .ok (.iconst 1, 1) := by decide +kernel
theorem dX12_known_66 : decode cX12_known 66 = .ok (.aload_n 0, 1) := by decide +kernel
theorem dX12_known_67 : decode cX12_known 67 = .ok (.getfield 7, 3) := by decide +kernel
theorem dX12_known_70 : decode cX12_known 70 = .ok (.iload 5, 2) := by decide +kernel
theorem dX12_known_72 : decode cX12_known 72 = .ok (.iconst 4, 1) := by decide +kernel
theorem dX12_known_73 : decode cX12_known 73 = .ok (.iadd, 1) := by decide +kernel
theorem dX12_known_74 : decode cX12_known 74 = .ok (.iaload, 1) := by decide +kernel
theorem dX12_known_75 : decode cX12_known 75 = .ok (.ishl, 1) := by decide +kernel
theorem dX12_known_76 : decode cX12_known 76 = .ok (.goto 4, 3) := by decide +kernel
theorem dX12_known_79 : decode cX12_known 79 = .ok (.iconst 0, 1) := by decide +kernel
theorem dX12_known_80 : decode cX12_known 80 = .ok (.ior, 1) := by decide +kernel
theorem dX12_known_81 : decode cX12_known 81 = .ok (.istore_n 3, 1) := by decide +kernel
theorem dX12_known_82 : decode cX12_known 82 = .ok (.iload_n 3, 1) := by decide +kernel
theorem dX12_known_83 : decode cX12_known 83 = .ok (.aload_n 0, 1) := by decide +kernel
theorem dX12_known_84 : decode cX12_known 84 = .ok (.getfield 7, 3) := by decide +kernel
theorem dX12_known_87 : decode cX12_known 87 = .ok (.iload 5, 2) := by decide +kernel
theorem dX12_known_89 : decode cX12_known 89 = .ok (.iconst 1, 1) := by decide +kernel
theorem dX12_known_90 : decode cX12_known 90 = .ok (.iadd, 1) := by decide +kernel
theorem dX12_known_91 : decode cX12_known 91 = .ok (.iaload, 1) := by decide +kernel
theorem dX12_known_92 : decode cX12_known 92 = .ok (.iload_n 1, 1) := by decide +kernel
theorem dX12_known_93 : decode cX12_known 93 = .ok (.if_icmp .ne 26, 3) := by decide +kernel
theorem dX12_known_96 : decode cX12_known 96 = .ok (.aload_n 0, 1) := by decide +kernel
theorem dX12_known_97 : decode cX12_known 97 = .ok (.getfield 7, 3) := by decide +kernel
theorem dX12_known_100 : decode cX12_known 100 = .ok (.iload 5, 2) := by decide +kernel
theorem dX12_known_102 : decode cX12_known 102 = .ok (.iconst 3, 1) := by decide +kernel
theorem dX12_known_103 : decode cX12_known 103 = .ok (.iadd, 1) := by decide +kernel
theorem dX12_known_104 : decode cX12_known 104 = .ok (.iaload, 1) := by decide +kernel
theorem dX12_known_105 : decode cX12_known 105 = .ok (.iload_n 2, 1) := by decide +kernel
theorem dX12_known_106 : decode cX12_known 106 = .ok (.if_icmp .gt 13, 3) := by decide +kernel
theorem dX12_known_109 : decode cX12_known 109 = .ok (.aload_n 0, 1) := by decide +kernel
theorem dX12_known_110 : decode cX12_known 110 = .ok (.getfield 63, 3) := by decide +kernel
theorem dX12_known_113 : decode cX12_known 113 = .ok (.iload 4, 2) := by decide +kernel
theorem dX12_known_115 : decode cX12_known 115 = .ok (.iaload, 1) := by decide +kernel
theorem dX12_known_116 : decode cX12_known 116 = .ok (.goto 4, 3) := by decide +kernel
theorem dX12_known_119 : decode cX12_known 119 = .ok (.iconst 0, 1) := by decide +kernel
theorem dX12_known_120 : decode cX12_known 120 = .ok (.ior, 1) := by decide +kernel
theorem dX12_known_121 : decode cX12_known 121 = .ok (.istore_n 3, 1) := by decide +kernel
theorem dX12_known_122 : decode cX12_known 122 = .ok (.iinc 4 1, 3) := by decide +kernel
theorem dX12_known_125 : decode cX12_known 125 = .ok (.goto (-120), 3) := by decide +kernel
theorem dX12_known_128 : decode cX12_known 128 = .ok (.iload_n 3, 1) := by decide +kernel
theorem dX12_known_129 : decode cX12_known 129 = .ok (.ireturn, 1) := by decide +kernel
theorem dX12_findLoads_0 : decode cX12_findLoads 0 = .ok (.iconst 0, 1) := by decide +kernel
theorem dX12_findLoads_1 : decode cX12_findLoads 1 = .ok (.istore_n 1, 1) := by decide +kernel
theorem dX12_findLoads_2 : decode cX12_findLoads 2 = .ok (.iload_n 1, 1) := by decide +kernel
theorem dX12_findLoads_3 : decode cX12_findLoads 3 = .ok (.bipush 30, 2) := by decide +kernel
theorem dX12_findLoads_5 : decode cX12_findLoads 5 = .ok (.if_icmp .ge 16, 3) := by decide +kernel
theorem dX12_findLoads_8 : decode cX12_findLoads 8 = .ok (.aload_n 0, 1) := by decide +kernel
theorem dX12_findLoads_9 : decode cX12_findLoads 9 = .ok (.getfield 63, 3) := by decide +kernel
theorem dX12_findLoads_12 : decode cX12_findLoads 12 = .ok (.iload_n 1, 1) := by decide +kernel
theorem dX12_findLoads_13 : decode cX12_findLoads 13 = .ok (.iconst 0, 1) := by decide +kernel
theorem dX12_findLoads_14 : decode cX12_findLoads 14 = .ok (.iastore, 1) := by decide +kernel
theorem dX12_findLoads_15 : decode cX12_findLoads 15 = .ok (.iinc 1 1, 3) := by decide +kernel
theorem dX12_findLoads_18 : decode cX12_findLoads 18 = .ok (.goto (-16), 3) := by decide +kernel
theorem dX12_findLoads_21 : decode cX12_findLoads 21 = .ok (.iconst 1, 1) := by decide +kernel
theorem dX12_findLoads_22 : decode cX12_findLoads 22 = .ok (.istore_n 1, 1) := by decide +kernel
theorem dX12_findLoads_23 : decode cX12_findLoads 23 = .ok (.iload_n 1, 1) := by decide +kernel
theorem dX12_findLoads_24 : decode cX12_findLoads 24 = .ok (.ifCond .eq 85, 3) := by decide +kernel
theorem dX12_findLoads_27 : decode cX12_findLoads 27 = .ok (.iconst 0, 1) := by decide +kernel
theorem dX12_findLoads_28 : decode cX12_findLoads 28 = .ok (.istore_n 1, 1) := by decide +kernel
theorem dX12_findLoads_29 : decode cX12_findLoads 29 = .ok (.iconst 0, 1) := by decide +kernel
theorem dX12_findLoads_30 : decode cX12_findLoads 30 = .ok (.istore_n 2, 1) := by decide +kernel
theorem dX12_findLoads_31 : decode cX12_findLoads 31 = .ok (.iload_n 2, 1) := by decide +kernel
theorem dX12_findLoads_32 : decode cX12_findLoads 32 = .ok (.aload_n 0, 1) := by decide +kernel
theorem dX12_findLoads_33 : decode cX12_findLoads 33 = .ok (.getfield 7, 3) := by decide +kernel
theorem dX12_findLoads_36 : decode cX12_findLoads 36 = .ok (.bipush 8, 2) := by decide +kernel
theorem dX12_findLoads_38 : decode cX12_findLoads 38 = .ok (.iaload, 1) := by decide +kernel
theorem dX12_findLoads_39 : decode cX12_findLoads 39 = .ok (.if_icmp .ge 67, 3) := by decide +kernel
theorem dX12_findLoads_42 : decode cX12_findLoads 42 = .ok (.aload_n 0, 1) := by decide +kernel
theorem dX12_findLoads_43 : decode cX12_findLoads 43 = .ok (.aload_n 0, 1) := by decide +kernel
theorem dX12_findLoads_44 : decode cX12_findLoads 44 = .ok (.getfield 7, 3) := by decide +kernel
theorem dX12_findLoads_47 : decode cX12_findLoads 47 = .ok (.sipush 1753, 3) := by decide +kernel
theorem dX12_findLoads_50 : decode cX12_findLoads 50 = .ok (.iconst 5, 1) := by decide +kernel
theorem dX12_findLoads_51 : decode cX12_findLoads 51 = .ok (.iload_n 2, 1) := by decide +kernel
theorem dX12_findLoads_52 : decode cX12_findLoads 52 = .ok (.imul, 1) := by decide +kernel
theorem dX12_findLoads_53 : decode cX12_findLoads 53 = .ok (.iadd, 1) := by decide +kernel
theorem dX12_findLoads_54 : decode cX12_findLoads 54 = .ok (.iaload, 1) := by decide +kernel
theorem dX12_findLoads_55 : decode cX12_findLoads 55 = .ok (.aload_n 0, 1) := by decide +kernel
theorem dX12_findLoads_56 : decode cX12_findLoads 56 = .ok (.getfield 7, 3) := by decide +kernel
theorem dX12_findLoads_59 : decode cX12_findLoads 59 = .ok (.sipush 1753, 3) := by decide +kernel
theorem dX12_findLoads_62 : decode cX12_findLoads 62 = .ok (.iconst 5, 1) := by decide +kernel
theorem dX12_findLoads_63 : decode cX12_findLoads 63 = .ok (.iload_n 2, 1) := by decide +kernel
theorem dX12_findLoads_64 : decode cX12_findLoads 64 = .ok (.imul, 1) := by decide +kernel
theorem dX12_findLoads_65 : decode cX12_findLoads 65 = .ok (.iadd, 1) := by decide +kernel
theorem dX12_findLoads_66 : decode cX12_findLoads 66 = .ok (.iconst 2, 1) := by decide +kernel
theorem dX12_findLoads_67 : decode cX12_findLoads 67 = .ok (.iadd, 1) := by decide +kernel
theorem dX12_findLoads_68 : decode cX12_findLoads 68 = .ok (.iaload, 1) := by decide +kernel
theorem dX12_findLoads_69 : decode cX12_findLoads 69 = .ok (.invokevirtual 272, 3) := by decide +kernel
theorem dX12_findLoads_72 : decode cX12_findLoads 72 = .ok (.istore_n 3, 1) := by decide +kernel
theorem dX12_findLoads_73 : decode cX12_findLoads 73 = .ok (.iload_n 1, 1) := by decide +kernel
theorem dX12_findLoads_74 : decode cX12_findLoads 74 = .ok (.ifCond .ne 13, 3) := by decide +kernel
theorem dX12_findLoads_77 : decode cX12_findLoads 77 = .ok (.iload_n 3, 1) := by decide +kernel
theorem dX12_findLoads_78 : decode cX12_findLoads 78 = .ok (.aload_n 0, 1) := by decide +kernel
theorem dX12_findLoads_79 : decode cX12_findLoads 79 = .ok (.getfield 63, 3) := by decide +kernel
theorem dX12_findLoads_82 : decode cX12_findLoads 82 = .ok (.iload_n 2, 1) := by decide +kernel
theorem dX12_findLoads_83 : decode cX12_findLoads 83 = .ok (.iaload, 1) := by decide +kernel
theorem dX12_findLoads_84 : decode cX12_findLoads 84 = .ok (.if_icmp .eq 7, 3) := by decide +kernel
theorem dX12_findLoads_87 : decode cX12_findLoads 87 = .ok (.iconst 1, 1) := by decide +kernel
theorem dX12_findLoads_88 : decode cX12_findLoads 88 = .ok (.goto 4, 3) := by decide +kernel
theorem dX12_findLoads_91 : decode cX12_findLoads 91 = .ok (.iconst 0, 1) := by decide +kernel
theorem dX12_findLoads_92 : decode cX12_findLoads 92 = .ok (.istore_n 1, 1) := by decide +kernel
theorem dX12_findLoads_93 : decode cX12_findLoads 93 = .ok (.aload_n 0, 1) := by decide +kernel
theorem dX12_findLoads_94 : decode cX12_findLoads 94 = .ok (.getfield 63, 3) := by decide +kernel
theorem dX12_findLoads_97 : decode cX12_findLoads 97 = .ok (.iload_n 2, 1) := by decide +kernel
theorem dX12_findLoads_98 : decode cX12_findLoads 98 = .ok (.iload_n 3, 1) := by decide +kernel
theorem dX12_findLoads_99 : decode cX12_findLoads 99 = .ok (.iastore, 1) := by decide +kernel
theorem dX12_findLoads_100 : decode cX12_findLoads 100 = .ok (.iinc 2 1, 3) := by decide +kernel
theorem dX12_findLoads_103 : decode cX12_findLoads 103 = .ok (.goto (-72), 3) := by decide +kernel
theorem dX12_findLoads_106 : decode cX12_findLoads 106 = .ok (.goto (-83), 3) := by decide +kernel
theorem dX12_findLoads_109 : decode cX12_findLoads 109 = .ok (.return_, 1) := by decide +kernel
theorem dX12_knows_0 : decode cX12_knows 0 = .ok (.aload_n 0, 1) := by decide +kernel
theorem dX12_knows_1 : decode cX12_knows 1 = .ok (.iconst 0, 1) := by decide +kernel
theorem dX12_knows_2 : decode cX12_knows 2 = .ok (.iload_n 1, 1) := by decide +kernel
theorem dX12_knows_3 : decode cX12_knows 3 = .ok (.invokevirtual 173, 3) := by decide +kernel
theorem dX12_knows_6 : decode cX12_knows 6 = .ok (.ifCond .eq 27, 3) := by decide +kernel
theorem dX12_knows_9 : decode cX12_knows 9 = .ok (.iload_n 2, 1) := by decide +kernel
theorem dX12_knows_10 : decode cX12_knows 10 = .ok (.i2l, 1) := by decide +kernel
theorem dX12_knows_11 : decode cX12_knows 11 = .ok (.lconst 0, 1) := by decide +kernel
theorem dX12_knows_12 : decode cX12_knows 12 = .ok (.ldc2_w 270, 3) := by decide +kernel
theorem dX12_knows_15 : decode cX12_knows 15 = .ok (.invokestatic 79, 3) := by decide +kernel
theorem dX12_knows_18 : decode cX12_knows 18 = .ok (.ifCond .eq 15, 3) := by decide +kernel
theorem dX12_knows_21 : decode cX12_knows 21 = .ok (.iload_n 3, 1) := by decide +kernel
theorem dX12_knows_22 : decode cX12_knows 22 = .ok (.i2l, 1) := by decide +kernel
theorem dX12_knows_23 : decode cX12_knows 23 = .ok (.lconst 0, 1) := by decide +kernel
theorem dX12_knows_24 : decode cX12_knows 24 = .ok (.ldc2_w 266, 3) := by decide +kernel
theorem dX12_knows_27 : decode cX12_knows 27 = .ok (.invokestatic 79, 3) := by decide +kernel
theorem dX12_knows_30 : decode cX12_knows 30 = .ok (.ifCond .ne 6, 3) := by decide +kernel
theorem dX12_knows_33 : decode cX12_knows 33 = .ok (.bipush (-2), 2) := by decide +kernel
theorem dX12_knows_35 : decode cX12_knows 35 = .ok (.ireturn, 1) := by decide +kernel
theorem dX12_knows_36 : decode cX12_knows 36 = .ok (.aload_n 0, 1) := by decide +kernel
theorem dX12_knows_37 : decode cX12_knows 37 = .ok (.invokevirtual 275, 3) := by decide +kernel
theorem dX12_knows_40 : decode cX12_knows 40 = .ok (.aload_n 0, 1) := by decide +kernel
theorem dX12_knows_41 : decode cX12_knows 41 = .ok (.iload_n 1, 1) := by decide +kernel
theorem dX12_knows_42 : decode cX12_knows 42 = .ok (.iload_n 3, 1) := by decide +kernel
theorem dX12_knows_43 : decode cX12_knows 43 = .ok (.invokevirtual 272, 3) := by decide +kernel
theorem dX12_knows_46 : decode cX12_knows 46 = .ok (.iload_n 2, 1) := by decide +kernel
theorem dX12_knows_47 : decode cX12_knows 47 = .ok (.ishr, 1) := by decide +kernel
theorem dX12_knows_48 : decode cX12_knows 48 = .ok (.iconst 1, 1) := by decide +kernel
theorem dX12_knows_49 : decode cX12_knows 49 = .ok (.iand, 1) := by decide +kernel
theorem dX12_knows_50 : decode cX12_knows 50 = .ok (.ireturn, 1) := by decide +kernel
theorem dX12_carries_0 : decode cX12_carries 0 = .ok (.aload_n 0, 1) := by decide +kernel
theorem dX12_carries_1 : decode cX12_carries 1 = .ok (.bipush 8, 2) := by decide +kernel
theorem dX12_carries_3 : decode cX12_carries 3 = .ok (.iload_n 1, 1) := by decide +kernel
theorem dX12_carries_4 : decode cX12_carries 4 = .ok (.invokevirtual 173, 3) := by decide +kernel
theorem dX12_carries_7 : decode cX12_carries 7 = .ok (.ifCond .ne 6, 3) := by decide +kernel
theorem dX12_carries_10 : decode cX12_carries 10 = .ok (.bipush (-2), 2) := by decide +kernel
theorem dX12_carries_12 : decode cX12_carries 12 = .ok (.ireturn, 1) := by decide +kernel
theorem dX12_carries_13 : decode cX12_carries 13 = .ok (.aload_n 0, 1) := by decide +kernel
theorem dX12_carries_14 : decode cX12_carries 14 = .ok (.invokevirtual 275, 3) := by decide +kernel
theorem dX12_carries_17 : decode cX12_carries 17 = .ok (.aload_n 0, 1) := by decide +kernel
theorem dX12_carries_18 : decode cX12_carries 18 = .ok (.getfield 63, 3) := by decide +kernel
theorem dX12_carries_21 : decode cX12_carries 21 = .ok (.iload_n 1, 1) := by decide +kernel
theorem dX12_carries_22 : decode cX12_carries 22 = .ok (.iaload, 1) := by decide +kernel
theorem dX12_carries_23 : decode cX12_carries 23 = .ok (.ireturn, 1) := by decide +kernel
theorem dX12_mention_0 : decode cX12_mention 0 = .ok (.iload_n 1, 1) := by decide +kernel
theorem dX12_mention_1 : decode cX12_mention 1 = .ok (.i2l, 1) := by decide +kernel
theorem dX12_mention_2 : decode cX12_mention 2 = .ok (.ldc2_w 268, 3) := by decide +kernel
theorem dX12_mention_5 : decode cX12_mention 5 = .ok (.ldc2_w 89, 3) := by decide +kernel
theorem dX12_mention_8 : decode cX12_mention 8 = .ok (.invokestatic 79, 3) := by decide +kernel
theorem dX12_mention_11 : decode cX12_mention 11 = .ok (.ifCond .eq 24, 3) := by decide +kernel
theorem dX12_mention_14 : decode cX12_mention 14 = .ok (.iload_n 2, 1) := by decide +kernel
theorem dX12_mention_15 : decode cX12_mention 15 = .ok (.i2l, 1) := by decide +kernel
theorem dX12_mention_16 : decode cX12_mention 16 = .ok (.ldc2_w 268, 3) := by decide +kernel
theorem dX12_mention_19 : decode cX12_mention 19 = .ok (.ldc2_w 248, 3) := by decide +kernel
theorem dX12_mention_22 : decode cX12_mention 22 = .ok (.invokestatic 79, 3) := by decide +kernel
theorem dX12_mention_25 : decode cX12_mention 25 = .ok (.ifCond .eq 10, 3) := by decide +kernel
theorem dX12_mention_28 : decode cX12_mention 28 = .ok (.iload_n 3, 1) := by decide +kernel
theorem dX12_mention_29 : decode cX12_mention 29 = .ok (.invokestatic 153, 3) := by decide +kernel
theorem dX12_mention_32 : decode cX12_mention 32 = .ok (.ifCond .ne 6, 3) := by decide +kernel
theorem dX12_mention_35 : decode cX12_mention 35 = .ok (.bipush (-2), 2) := by decide +kernel
theorem dX12_mention_37 : decode cX12_mention 37 = .ok (.ireturn, 1) := by decide +kernel
theorem dX12_mention_38 : decode cX12_mention 38 = .ok (.aload_n 0, 1) := by decide +kernel
theorem dX12_mention_39 : decode cX12_mention 39 = .ok (.getfield 7, 3) := by decide +kernel
theorem dX12_mention_42 : decode cX12_mention 42 = .ok (.bipush 9, 2) := by decide +kernel
theorem dX12_mention_44 : decode cX12_mention 44 = .ok (.iaload, 1) := by decide +kernel
theorem dX12_mention_45 : decode cX12_mention 45 = .ok (.bipush 10, 2) := by decide +kernel
theorem dX12_mention_47 : decode cX12_mention 47 = .ok (.if_icmp .ne 6, 3) := by decide +kernel
theorem dX12_mention_50 : decode cX12_mention 50 = .ok (.bipush (-4), 2) := by decide +kernel
theorem dX12_mention_52 : decode cX12_mention 52 = .ok (.ireturn, 1) := by decide +kernel
theorem dX12_mention_53 : decode cX12_mention 53 = .ok (.sipush 1903, 3) := by decide +kernel
theorem dX12_mention_56 : decode cX12_mention 56 = .ok (.iconst 3, 1) := by decide +kernel
theorem dX12_mention_57 : decode cX12_mention 57 = .ok (.aload_n 0, 1) := by decide +kernel
theorem dX12_mention_58 : decode cX12_mention 58 = .ok (.getfield 7, 3) := by decide +kernel
theorem dX12_mention_61 : decode cX12_mention 61 = .ok (.bipush 9, 2) := by decide +kernel
theorem dX12_mention_63 : decode cX12_mention 63 = .ok (.iaload, 1) := by decide +kernel
theorem dX12_mention_64 : decode cX12_mention 64 = .ok (.imul, 1) := by decide +kernel
theorem dX12_mention_65 : decode cX12_mention 65 = .ok (.iadd, 1) := by decide +kernel
theorem dX12_mention_66 : decode cX12_mention 66 = .ok (.istore 4, 2) := by decide +kernel
theorem dX12_mention_68 : decode cX12_mention 68 = .ok (.aload_n 0, 1) := by decide +kernel
theorem dX12_mention_69 : decode cX12_mention 69 = .ok (.getfield 7, 3) := by decide +kernel
theorem dX12_mention_72 : decode cX12_mention 72 = .ok (.iload 4, 2) := by decide +kernel
theorem dX12_mention_74 : decode cX12_mention 74 = .ok (.iload_n 1, 1) := by decide +kernel
theorem dX12_mention_75 : decode cX12_mention 75 = .ok (.iastore, 1) := by decide +kernel
theorem dX12_mention_76 : decode cX12_mention 76 = .ok (.aload_n 0, 1) := by decide +kernel
theorem dX12_mention_77 : decode cX12_mention 77 = .ok (.getfield 7, 3) := by decide +kernel
theorem dX12_mention_80 : decode cX12_mention 80 = .ok (.iload 4, 2) := by decide +kernel
theorem dX12_mention_82 : decode cX12_mention 82 = .ok (.iconst 1, 1) := by decide +kernel
theorem dX12_mention_83 : decode cX12_mention 83 = .ok (.iadd, 1) := by decide +kernel
theorem dX12_mention_84 : decode cX12_mention 84 = .ok (.iload_n 2, 1) := by decide +kernel
theorem dX12_mention_85 : decode cX12_mention 85 = .ok (.iastore, 1) := by decide +kernel
theorem dX12_mention_86 : decode cX12_mention 86 = .ok (.aload_n 0, 1) := by decide +kernel
theorem dX12_mention_87 : decode cX12_mention 87 = .ok (.getfield 7, 3) := by decide +kernel
theorem dX12_mention_90 : decode cX12_mention 90 = .ok (.iload 4, 2) := by decide +kernel
theorem dX12_mention_92 : decode cX12_mention 92 = .ok (.iconst 2, 1) := by decide +kernel
theorem dX12_mention_93 : decode cX12_mention 93 = .ok (.iadd, 1) := by decide +kernel
theorem dX12_mention_94 : decode cX12_mention 94 = .ok (.iload_n 3, 1) := by decide +kernel
theorem dX12_mention_95 : decode cX12_mention 95 = .ok (.iastore, 1) := by decide +kernel
theorem dX12_mention_96 : decode cX12_mention 96 = .ok (.aload_n 0, 1) := by decide +kernel
theorem dX12_mention_97 : decode cX12_mention 97 = .ok (.bipush 9, 2) := by decide +kernel
theorem dX12_mention_99 : decode cX12_mention 99 = .ok (.invokevirtual 91, 3) := by decide +kernel
theorem dX12_mention_102 : decode cX12_mention 102 = .ok (.ireturn, 1) := by decide +kernel
theorem dX12_mayBeOne_0 : decode cX12_mayBeOne 0 = .ok (.sipush 1903, 3) := by decide +kernel
theorem dX12_mayBeOne_3 : decode cX12_mayBeOne 3 = .ok (.iconst 3, 1) := by decide +kernel
theorem dX12_mayBeOne_4 : decode cX12_mayBeOne 4 = .ok (.iload_n 1, 1) := by decide +kernel
theorem dX12_mayBeOne_5 : decode cX12_mayBeOne 5 = .ok (.imul, 1) := by decide +kernel
theorem dX12_mayBeOne_6 : decode cX12_mayBeOne 6 = .ok (.iadd, 1) := by decide +kernel
theorem dX12_mayBeOne_7 : decode cX12_mayBeOne 7 = .ok (.istore_n 3, 1) := by decide +kernel
theorem dX12_mayBeOne_8 : decode cX12_mayBeOne 8 = .ok (.sipush 1903, 3) := by decide +kernel
theorem dX12_mayBeOne_11 : decode cX12_mayBeOne 11 = .ok (.iconst 3, 1) := by decide +kernel
theorem dX12_mayBeOne_12 : decode cX12_mayBeOne 12 = .ok (.iload_n 2, 1) := by decide +kernel
theorem dX12_mayBeOne_13 : decode cX12_mayBeOne 13 = .ok (.imul, 1) := by decide +kernel
theorem dX12_mayBeOne_14 : decode cX12_mayBeOne 14 = .ok (.iadd, 1) := by decide +kernel
theorem dX12_mayBeOne_15 : decode cX12_mayBeOne 15 = .ok (.istore 4, 2) := by decide +kernel
theorem dX12_mayBeOne_17 : decode cX12_mayBeOne 17 = .ok (.aload_n 0, 1) := by decide +kernel
theorem dX12_mayBeOne_18 : decode cX12_mayBeOne 18 = .ok (.getfield 7, 3) := by decide +kernel
theorem dX12_mayBeOne_21 : decode cX12_mayBeOne 21 = .ok (.iload_n 3, 1) := by decide +kernel
theorem dX12_mayBeOne_22 : decode cX12_mayBeOne 22 = .ok (.iaload, 1) := by decide +kernel
theorem dX12_mayBeOne_23 : decode cX12_mayBeOne 23 = .ok (.iconst (-1), 1) := by decide +kernel
theorem dX12_mayBeOne_24 : decode cX12_mayBeOne 24 = .ok (.if_icmp .eq 30, 3) := by decide +kernel
theorem dX12_mayBeOne_27 : decode cX12_mayBeOne 27 = .ok (.aload_n 0, 1) := by decide +kernel
theorem dX12_mayBeOne_28 : decode cX12_mayBeOne 28 = .ok (.getfield 7, 3) := by decide +kernel
theorem dX12_mayBeOne_31 : decode cX12_mayBeOne 31 = .ok (.iload 4, 2) := by decide +kernel
theorem dX12_mayBeOne_33 : decode cX12_mayBeOne 33 = .ok (.iaload, 1) := by decide +kernel
theorem dX12_mayBeOne_34 : decode cX12_mayBeOne 34 = .ok (.iconst (-1), 1) := by decide +kernel
theorem dX12_mayBeOne_35 : decode cX12_mayBeOne 35 = .ok (.if_icmp .eq 19, 3) := by decide +kernel
theorem dX12_mayBeOne_38 : decode cX12_mayBeOne 38 = .ok (.aload_n 0, 1) := by decide +kernel
theorem dX12_mayBeOne_39 : decode cX12_mayBeOne 39 = .ok (.getfield 7, 3) := by decide +kernel
theorem dX12_mayBeOne_42 : decode cX12_mayBeOne 42 = .ok (.iload_n 3, 1) := by decide +kernel
theorem dX12_mayBeOne_43 : decode cX12_mayBeOne 43 = .ok (.iaload, 1) := by decide +kernel
theorem dX12_mayBeOne_44 : decode cX12_mayBeOne 44 = .ok (.aload_n 0, 1) := by decide +kernel
theorem dX12_mayBeOne_45 : decode cX12_mayBeOne 45 = .ok (.getfield 7, 3) := by decide +kernel
theorem dX12_mayBeOne_48 : decode cX12_mayBeOne 48 = .ok (.iload 4, 2) := by decide +kernel
theorem dX12_mayBeOne_50 : decode cX12_mayBeOne 50 = .ok (.iaload, 1) := by decide +kernel
theorem dX12_mayBeOne_51 : decode cX12_mayBeOne 51 = .ok (.if_icmp .ne 7, 3) := by decide +kernel
theorem dX12_mayBeOne_54 : decode cX12_mayBeOne 54 = .ok (.iconst 1, 1) := by decide +kernel
theorem dX12_mayBeOne_55 : decode cX12_mayBeOne 55 = .ok (.goto 4, 3) := by decide +kernel
theorem dX12_mayBeOne_58 : decode cX12_mayBeOne 58 = .ok (.iconst 0, 1) := by decide +kernel
theorem dX12_mayBeOne_59 : decode cX12_mayBeOne 59 = .ok (.istore 5, 2) := by decide +kernel
theorem dX12_mayBeOne_61 : decode cX12_mayBeOne 61 = .ok (.aload_n 0, 1) := by decide +kernel
theorem dX12_mayBeOne_62 : decode cX12_mayBeOne 62 = .ok (.getfield 7, 3) := by decide +kernel
theorem dX12_mayBeOne_65 : decode cX12_mayBeOne 65 = .ok (.iload_n 3, 1) := by decide +kernel
theorem dX12_mayBeOne_66 : decode cX12_mayBeOne 66 = .ok (.iconst 1, 1) := by decide +kernel
theorem dX12_mayBeOne_67 : decode cX12_mayBeOne 67 = .ok (.iadd, 1) := by decide +kernel
theorem dX12_mayBeOne_68 : decode cX12_mayBeOne 68 = .ok (.iaload, 1) := by decide +kernel
theorem dX12_mayBeOne_69 : decode cX12_mayBeOne 69 = .ok (.iconst (-1), 1) := by decide +kernel
theorem dX12_mayBeOne_70 : decode cX12_mayBeOne 70 = .ok (.if_icmp .eq 36, 3) := by decide +kernel
theorem dX12_mayBeOne_73 : decode cX12_mayBeOne 73 = .ok (.aload_n 0, 1) := by decide +kernel
theorem dX12_mayBeOne_74 : decode cX12_mayBeOne 74 = .ok (.getfield 7, 3) := by decide +kernel
theorem dX12_mayBeOne_77 : decode cX12_mayBeOne 77 = .ok (.iload 4, 2) := by decide +kernel
theorem dX12_mayBeOne_79 : decode cX12_mayBeOne 79 = .ok (.iconst 1, 1) := by decide +kernel
theorem dX12_mayBeOne_80 : decode cX12_mayBeOne 80 = .ok (.iadd, 1) := by decide +kernel
theorem dX12_mayBeOne_81 : decode cX12_mayBeOne 81 = .ok (.iaload, 1) := by decide +kernel
theorem dX12_mayBeOne_82 : decode cX12_mayBeOne 82 = .ok (.iconst (-1), 1) := by decide +kernel
theorem dX12_mayBeOne_83 : decode cX12_mayBeOne 83 = .ok (.if_icmp .eq 23, 3) := by decide +kernel
theorem dX12_mayBeOne_86 : decode cX12_mayBeOne 86 = .ok (.aload_n 0, 1) := by decide +kernel
theorem dX12_mayBeOne_87 : decode cX12_mayBeOne 87 = .ok (.getfield 7, 3) := by decide +kernel
theorem dX12_mayBeOne_90 : decode cX12_mayBeOne 90 = .ok (.iload_n 3, 1) := by decide +kernel
theorem dX12_mayBeOne_91 : decode cX12_mayBeOne 91 = .ok (.iconst 1, 1) := by decide +kernel
theorem dX12_mayBeOne_92 : decode cX12_mayBeOne 92 = .ok (.iadd, 1) := by decide +kernel
theorem dX12_mayBeOne_93 : decode cX12_mayBeOne 93 = .ok (.iaload, 1) := by decide +kernel
theorem dX12_mayBeOne_94 : decode cX12_mayBeOne 94 = .ok (.aload_n 0, 1) := by decide +kernel
theorem dX12_mayBeOne_95 : decode cX12_mayBeOne 95 = .ok (.getfield 7, 3) := by decide +kernel
theorem dX12_mayBeOne_98 : decode cX12_mayBeOne 98 = .ok (.iload 4, 2) := by decide +kernel
theorem dX12_mayBeOne_100 : decode cX12_mayBeOne 100 = .ok (.iconst 1, 1) := by decide +kernel
theorem dX12_mayBeOne_101 : decode cX12_mayBeOne 101 = .ok (.iadd, 1) := by decide +kernel
theorem dX12_mayBeOne_102 : decode cX12_mayBeOne 102 = .ok (.iaload, 1) := by decide +kernel
theorem dX12_mayBeOne_103 : decode cX12_mayBeOne 103 = .ok (.if_icmp .ne 7, 3) := by decide +kernel
theorem dX12_mayBeOne_106 : decode cX12_mayBeOne 106 = .ok (.iconst 1, 1) := by decide +kernel
theorem dX12_mayBeOne_107 : decode cX12_mayBeOne 107 = .ok (.goto 4, 3) := by decide +kernel
theorem dX12_mayBeOne_110 : decode cX12_mayBeOne 110 = .ok (.iconst 0, 1) := by decide +kernel
theorem dX12_mayBeOne_111 : decode cX12_mayBeOne 111 = .ok (.istore 6, 2) := by decide +kernel
theorem dX12_mayBeOne_113 : decode cX12_mayBeOne 113 = .ok (.iload 5, 2) := by decide +kernel
theorem dX12_mayBeOne_115 : decode cX12_mayBeOne 115 = .ok (.ifCond .eq 43, 3) := by decide +kernel
theorem dX12_mayBeOne_118 : decode cX12_mayBeOne 118 = .ok (.iload 6, 2) := by decide +kernel
theorem dX12_mayBeOne_120 : decode cX12_mayBeOne 120 = .ok (.ifCond .eq 38, 3) := by decide +kernel
theorem dX12_mayBeOne_123 : decode cX12_mayBeOne 123 = .ok (.aload_n 0, 1) := by decide +kernel
theorem dX12_mayBeOne_124 : decode cX12_mayBeOne 124 = .ok (.getfield 7, 3) := by decide +kernel
theorem dX12_mayBeOne_127 : decode cX12_mayBeOne 127 = .ok (.iload_n 3, 1) := by decide +kernel
theorem dX12_mayBeOne_128 : decode cX12_mayBeOne 128 = .ok (.iconst 2, 1) := by decide +kernel
theorem dX12_mayBeOne_129 : decode cX12_mayBeOne 129 = .ok (.iadd, 1) := by decide +kernel
theorem dX12_mayBeOne_130 : decode cX12_mayBeOne 130 = .ok (.iaload, 1) := by decide +kernel
theorem dX12_mayBeOne_131 : decode cX12_mayBeOne 131 = .ok (.aload_n 0, 1) := by decide +kernel
theorem dX12_mayBeOne_132 : decode cX12_mayBeOne 132 = .ok (.getfield 7, 3) := by decide +kernel
theorem dX12_mayBeOne_135 : decode cX12_mayBeOne 135 = .ok (.iload 4, 2) := by decide +kernel
theorem dX12_mayBeOne_137 : decode cX12_mayBeOne 137 = .ok (.iconst 2, 1) := by decide +kernel
theorem dX12_mayBeOne_138 : decode cX12_mayBeOne 138 = .ok (.iadd, 1) := by decide +kernel
theorem dX12_mayBeOne_139 : decode cX12_mayBeOne 139 = .ok (.iaload, 1) := by decide +kernel
theorem dX12_mayBeOne_140 : decode cX12_mayBeOne 140 = .ok (.isub, 1) := by decide +kernel
theorem dX12_mayBeOne_141 : decode cX12_mayBeOne 141 = .ok (.i2l, 1) := by decide +kernel
theorem dX12_mayBeOne_142 : decode cX12_mayBeOne 142 = .ok (.ldc2_w 278, 3) := by decide +kernel
theorem dX12_mayBeOne_145 : decode cX12_mayBeOne 145 = .ok (.ldc2_w 280, 3) := by decide +kernel
theorem dX12_mayBeOne_148 : decode cX12_mayBeOne 148 = .ok (.invokestatic 79, 3) := by decide +kernel
theorem dX12_mayBeOne_151 : decode cX12_mayBeOne 151 = .ok (.ifCond .eq 7, 3) := by decide +kernel
theorem dX12_mayBeOne_154 : decode cX12_mayBeOne 154 = .ok (.iconst 1, 1) := by decide +kernel
theorem dX12_mayBeOne_155 : decode cX12_mayBeOne 155 = .ok (.goto 4, 3) := by decide +kernel
theorem dX12_mayBeOne_158 : decode cX12_mayBeOne 158 = .ok (.iconst 0, 1) := by decide +kernel
theorem dX12_mayBeOne_159 : decode cX12_mayBeOne 159 = .ok (.ireturn, 1) := by decide +kernel
theorem dX12_mayFollow_0 : decode cX12_mayFollow 0 = .ok (.aload_n 0, 1) := by decide +kernel
theorem dX12_mayFollow_1 : decode cX12_mayFollow 1 = .ok (.getfield 66, 3) := by decide +kernel
theorem dX12_mayFollow_4 : decode cX12_mayFollow 4 = .ok (.iload_n 1, 1) := by decide +kernel
theorem dX12_mayFollow_5 : decode cX12_mayFollow 5 = .ok (.iaload, 1) := by decide +kernel
theorem dX12_mayFollow_6 : decode cX12_mayFollow 6 = .ok (.iload_n 1, 1) := by decide +kernel
theorem dX12_mayFollow_7 : decode cX12_mayFollow 7 = .ok (.if_icmp .ne 5, 3) := by decide +kernel
theorem dX12_mayFollow_10 : decode cX12_mayFollow 10 = .ok (.iconst 1, 1) := by decide +kernel
theorem dX12_mayFollow_11 : decode cX12_mayFollow 11 = .ok (.ireturn, 1) := by decide +kernel
theorem dX12_mayFollow_12 : decode cX12_mayFollow 12 = .ok (.aload_n 0, 1) := by decide +kernel
theorem dX12_mayFollow_13 : decode cX12_mayFollow 13 = .ok (.getfield 66, 3) := by decide +kernel
theorem dX12_mayFollow_16 : decode cX12_mayFollow 16 = .ok (.aload_n 0, 1) := by decide +kernel
theorem dX12_mayFollow_17 : decode cX12_mayFollow 17 = .ok (.getfield 66, 3) := by decide +kernel
theorem dX12_mayFollow_20 : decode cX12_mayFollow 20 = .ok (.iload_n 1, 1) := by decide +kernel
theorem dX12_mayFollow_21 : decode cX12_mayFollow 21 = .ok (.iaload, 1) := by decide +kernel
theorem dX12_mayFollow_22 : decode cX12_mayFollow 22 = .ok (.iaload, 1) := by decide +kernel
theorem dX12_mayFollow_23 : decode cX12_mayFollow 23 = .ok (.aload_n 0, 1) := by decide +kernel
theorem dX12_mayFollow_24 : decode cX12_mayFollow 24 = .ok (.getfield 66, 3) := by decide +kernel
theorem dX12_mayFollow_27 : decode cX12_mayFollow 27 = .ok (.iload_n 1, 1) := by decide +kernel
theorem dX12_mayFollow_28 : decode cX12_mayFollow 28 = .ok (.iaload, 1) := by decide +kernel
theorem dX12_mayFollow_29 : decode cX12_mayFollow 29 = .ok (.if_icmp .eq 5, 3) := by decide +kernel
theorem dX12_mayFollow_32 : decode cX12_mayFollow 32 = .ok (.iconst 0, 1) := by decide +kernel
theorem dX12_mayFollow_33 : decode cX12_mayFollow 33 = .ok (.ireturn, 1) := by decide +kernel
theorem dX12_mayFollow_34 : decode cX12_mayFollow 34 = .ok (.iconst 0, 1) := by decide +kernel
theorem dX12_mayFollow_35 : decode cX12_mayFollow 35 = .ok (.istore_n 2, 1) := by decide +kernel
theorem dX12_mayFollow_36 : decode cX12_mayFollow 36 = .ok (.iload_n 2, 1) := by decide +kernel
theorem dX12_mayFollow_37 : decode cX12_mayFollow 37 = .ok (.iload_n 1, 1) := by decide +kernel
theorem dX12_mayFollow_38 : decode cX12_mayFollow 38 = .ok (.if_icmp .ge 35, 3) := by decide +kernel
theorem dX12_mayFollow_41 : decode cX12_mayFollow 41 = .ok (.aload_n 0, 1) := by decide +kernel
theorem dX12_mayFollow_42 : decode cX12_mayFollow 42 = .ok (.getfield 66, 3) := by decide +kernel
theorem dX12_mayFollow_45 : decode cX12_mayFollow 45 = .ok (.iload_n 2, 1) := by decide +kernel
theorem dX12_mayFollow_46 : decode cX12_mayFollow 46 = .ok (.iaload, 1) := by decide +kernel
theorem dX12_mayFollow_47 : decode cX12_mayFollow 47 = .ok (.aload_n 0, 1) := by decide +kernel
theorem dX12_mayFollow_48 : decode cX12_mayFollow 48 = .ok (.getfield 66, 3) := by decide +kernel
theorem dX12_mayFollow_51 : decode cX12_mayFollow 51 = .ok (.iload_n 1, 1) := by decide +kernel
theorem dX12_mayFollow_52 : decode cX12_mayFollow 52 = .ok (.iaload, 1) := by decide +kernel
theorem dX12_mayFollow_53 : decode cX12_mayFollow 53 = .ok (.if_icmp .ne 14, 3) := by decide +kernel
theorem dX12_mayFollow_56 : decode cX12_mayFollow 56 = .ok (.aload_n 0, 1) := by decide +kernel
theorem dX12_mayFollow_57 : decode cX12_mayFollow 57 = .ok (.iload_n 1, 1) := by decide +kernel
theorem dX12_mayFollow_58 : decode cX12_mayFollow 58 = .ok (.iload_n 2, 1) := by decide +kernel
theorem dX12_mayFollow_59 : decode cX12_mayFollow 59 = .ok (.invokevirtual 282, 3) := by decide +kernel
theorem dX12_mayFollow_62 : decode cX12_mayFollow 62 = .ok (.ifCond .ne 5, 3) := by decide +kernel
theorem dX12_mayFollow_65 : decode cX12_mayFollow 65 = .ok (.iconst 0, 1) := by decide +kernel
theorem dX12_mayFollow_66 : decode cX12_mayFollow 66 = .ok (.ireturn, 1) := by decide +kernel
theorem dX12_mayFollow_67 : decode cX12_mayFollow 67 = .ok (.iinc 2 1, 3) := by decide +kernel
theorem dX12_mayFollow_70 : decode cX12_mayFollow 70 = .ok (.goto (-34), 3) := by decide +kernel
theorem dX12_mayFollow_73 : decode cX12_mayFollow 73 = .ok (.iconst 1, 1) := by decide +kernel
theorem dX12_mayFollow_74 : decode cX12_mayFollow 74 = .ok (.ireturn, 1) := by decide +kernel
theorem dX12_findMen_0 : decode cX12_findMen 0 = .ok (.aload_n 0, 1) := by decide +kernel
theorem dX12_findMen_1 : decode cX12_findMen 1 = .ok (.getfield 7, 3) := by decide +kernel
theorem dX12_findMen_4 : decode cX12_findMen 4 = .ok (.bipush 9, 2) := by decide +kernel
theorem dX12_findMen_6 : decode cX12_findMen 6 = .ok (.iaload, 1) := by decide +kernel
theorem dX12_findMen_7 : decode cX12_findMen 7 = .ok (.istore_n 1, 1) := by decide +kernel
theorem dX12_findMen_8 : decode cX12_findMen 8 = .ok (.iload_n 1, 1) := by decide +kernel
theorem dX12_findMen_9 : decode cX12_findMen 9 = .ok (.ifCond .ne 7, 3) := by decide +kernel
theorem dX12_findMen_12 : decode cX12_findMen 12 = .ok (.iconst 0, 1) := by decide +kernel
theorem dX12_findMen_13 : decode cX12_findMen 13 = .ok (.goto 4, 3) := by decide +kernel
theorem dX12_findMen_16 : decode cX12_findMen 16 = .ok (.iconst (-1), 1) := by decide +kernel
theorem dX12_findMen_17 : decode cX12_findMen 17 = .ok (.istore_n 2, 1) := by decide +kernel
theorem dX12_findMen_18 : decode cX12_findMen 18 = .ok (.iload_n 1, 1) := by decide +kernel
theorem dX12_findMen_19 : decode cX12_findMen 19 = .ok (.ifCond .ne 7, 3) := by decide +kernel
theorem dX12_findMen_22 : decode cX12_findMen 22 = .ok (.iconst (-1), 1) := by decide +kernel
theorem dX12_findMen_23 : decode cX12_findMen 23 = .ok (.goto 4, 3) := by decide +kernel
theorem dX12_findMen_26 : decode cX12_findMen 26 = .ok (.iconst 0, 1) := by decide +kernel
theorem dX12_findMen_27 : decode cX12_findMen 27 = .ok (.istore_n 3, 1) := by decide +kernel
theorem dX12_findMen_28 : decode cX12_findMen 28 = .ok (.aload_n 0, 1) := by decide +kernel
theorem dX12_findMen_29 : decode cX12_findMen 29 = .ok (.getfield 66, 3) := by decide +kernel
theorem dX12_findMen_32 : decode cX12_findMen 32 = .ok (.iconst 0, 1) := by decide +kernel
theorem dX12_findMen_33 : decode cX12_findMen 33 = .ok (.iconst (-1), 1) := by decide +kernel
theorem dX12_findMen_34 : decode cX12_findMen 34 = .ok (.iastore, 1) := by decide +kernel
theorem dX12_findMen_35 : decode cX12_findMen 35 = .ok (.iload_n 3, 1) := by decide +kernel
theorem dX12_findMen_36 : decode cX12_findMen 36 = .ok (.ifCond .lt 143, 3) := by decide +kernel
theorem dX12_findMen_39 : decode cX12_findMen 39 = .ok (.aload_n 0, 1) := by decide +kernel
theorem dX12_findMen_40 : decode cX12_findMen 40 = .ok (.getfield 66, 3) := by decide +kernel
theorem dX12_findMen_43 : decode cX12_findMen 43 = .ok (.iload_n 3, 1) := by decide +kernel
theorem dX12_findMen_44 : decode cX12_findMen 44 = .ok (.dup2, 1) := by decide +kernel
theorem dX12_findMen_45 : decode cX12_findMen 45 = .ok (.iaload, 1) := by decide +kernel
theorem dX12_findMen_46 : decode cX12_findMen 46 = .ok (.iconst 1, 1) := by decide +kernel
theorem dX12_findMen_47 : decode cX12_findMen 47 = .ok (.iadd, 1) := by decide +kernel
theorem dX12_findMen_48 : decode cX12_findMen 48 = .ok (.iastore, 1) := by decide +kernel
theorem dX12_findMen_49 : decode cX12_findMen 49 = .ok (.aload_n 0, 1) := by decide +kernel
theorem dX12_findMen_50 : decode cX12_findMen 50 = .ok (.getfield 66, 3) := by decide +kernel
theorem dX12_findMen_53 : decode cX12_findMen 53 = .ok (.iload_n 3, 1) := by decide +kernel
theorem dX12_findMen_54 : decode cX12_findMen 54 = .ok (.iaload, 1) := by decide +kernel
theorem dX12_findMen_55 : decode cX12_findMen 55 = .ok (.iload_n 3, 1) := by decide +kernel
theorem dX12_findMen_56 : decode cX12_findMen 56 = .ok (.if_icmp .le 9, 3) := by decide +kernel
theorem dX12_findMen_59 : decode cX12_findMen 59 = .ok (.iinc 3 (-1), 3) := by decide +kernel
theorem dX12_findMen_62 : decode cX12_findMen 62 = .ok (.goto (-27), 3) := by decide +kernel
theorem dX12_findMen_65 : decode cX12_findMen 65 = .ok (.aload_n 0, 1) := by decide +kernel
theorem dX12_findMen_66 : decode cX12_findMen 66 = .ok (.iload_n 3, 1) := by decide +kernel
theorem dX12_findMen_67 : decode cX12_findMen 67 = .ok (.invokevirtual 285, 3) := by decide +kernel
theorem dX12_findMen_70 : decode cX12_findMen 70 = .ok (.ifCond .eq (-35), 3) := by decide +kernel
theorem dX12_findMen_73 : decode cX12_findMen 73 = .ok (.iload_n 3, 1) := by decide +kernel
theorem dX12_findMen_74 : decode cX12_findMen 74 = .ok (.iconst 1, 1) := by decide +kernel
theorem dX12_findMen_75 : decode cX12_findMen 75 = .ok (.iadd, 1) := by decide +kernel
theorem dX12_findMen_76 : decode cX12_findMen 76 = .ok (.iload_n 1, 1) := by decide +kernel
theorem dX12_findMen_77 : decode cX12_findMen 77 = .ok (.if_icmp .ge 16, 3) := by decide +kernel
theorem dX12_findMen_80 : decode cX12_findMen 80 = .ok (.iinc 3 1, 3) := by decide +kernel
theorem dX12_findMen_83 : decode cX12_findMen 83 = .ok (.aload_n 0, 1) := by decide +kernel
theorem dX12_findMen_84 : decode cX12_findMen 84 = .ok (.getfield 66, 3) := by decide +kernel
theorem dX12_findMen_87 : decode cX12_findMen 87 = .ok (.iload_n 3, 1) := by decide +kernel
theorem dX12_findMen_88 : decode cX12_findMen 88 = .ok (.iconst (-1), 1) := by decide +kernel
theorem dX12_findMen_89 : decode cX12_findMen 89 = .ok (.iastore, 1) := by decide +kernel
theorem dX12_findMen_90 : decode cX12_findMen 90 = .ok (.goto (-55), 3) := by decide +kernel
theorem dX12_findMen_93 : decode cX12_findMen 93 = .ok (.iconst 0, 1) := by decide +kernel
theorem dX12_findMen_94 : decode cX12_findMen 94 = .ok (.istore 4, 2) := by decide +kernel
theorem dX12_findMen_96 : decode cX12_findMen 96 = .ok (.iconst 0, 1) := by decide +kernel
theorem dX12_findMen_97 : decode cX12_findMen 97 = .ok (.istore 5, 2) := by decide +kernel
theorem dX12_findMen_99 : decode cX12_findMen 99 = .ok (.iload 5, 2) := by decide +kernel
theorem dX12_findMen_101 : decode cX12_findMen 101 = .ok (.iload_n 1, 1) := by decide +kernel
theorem dX12_findMen_102 : decode cX12_findMen 102 = .ok (.if_icmp .ge 31, 3) := by decide +kernel
theorem dX12_findMen_105 : decode cX12_findMen 105 = .ok (.iload 4, 2) := by decide +kernel
theorem dX12_findMen_107 : decode cX12_findMen 107 = .ok (.aload_n 0, 1) := by decide +kernel
theorem dX12_findMen_108 : decode cX12_findMen 108 = .ok (.getfield 66, 3) := by decide +kernel
theorem dX12_findMen_111 : decode cX12_findMen 111 = .ok (.iload 5, 2) := by decide +kernel
theorem dX12_findMen_113 : decode cX12_findMen 113 = .ok (.iaload, 1) := by decide +kernel
theorem dX12_findMen_114 : decode cX12_findMen 114 = .ok (.iload 5, 2) := by decide +kernel
theorem dX12_findMen_116 : decode cX12_findMen 116 = .ok (.if_icmp .ne 7, 3) := by decide +kernel
theorem dX12_findMen_119 : decode cX12_findMen 119 = .ok (.iconst 1, 1) := by decide +kernel
theorem dX12_findMen_120 : decode cX12_findMen 120 = .ok (.goto 4, 3) := by decide +kernel
theorem dX12_findMen_123 : decode cX12_findMen 123 = .ok (.iconst 0, 1) := by decide +kernel
theorem dX12_findMen_124 : decode cX12_findMen 124 = .ok (.iadd, 1) := by decide +kernel
theorem dX12_findMen_125 : decode cX12_findMen 125 = .ok (.istore 4, 2) := by decide +kernel
theorem dX12_findMen_127 : decode cX12_findMen 127 = .ok (.iinc 5 1, 3) := by decide +kernel
theorem dX12_findMen_130 : decode cX12_findMen 130 = .ok (.goto (-31), 3) := by decide +kernel
theorem dX12_findMen_133 : decode cX12_findMen 133 = .ok (.iload_n 2, 1) := by decide +kernel
theorem dX12_findMen_134 : decode cX12_findMen 134 = .ok (.iconst (-1), 1) := by decide +kernel
theorem dX12_findMen_135 : decode cX12_findMen 135 = .ok (.if_icmp .eq 9, 3) := by decide +kernel
theorem dX12_findMen_138 : decode cX12_findMen 138 = .ok (.iload 4, 2) := by decide +kernel
theorem dX12_findMen_140 : decode cX12_findMen 140 = .ok (.iload_n 2, 1) := by decide +kernel
theorem dX12_findMen_141 : decode cX12_findMen 141 = .ok (.if_icmp .ge 35, 3) := by decide +kernel
theorem dX12_findMen_144 : decode cX12_findMen 144 = .ok (.iload 4, 2) := by decide +kernel
theorem dX12_findMen_146 : decode cX12_findMen 146 = .ok (.istore_n 2, 1) := by decide +kernel
theorem dX12_findMen_147 : decode cX12_findMen 147 = .ok (.iconst 0, 1) := by decide +kernel
theorem dX12_findMen_148 : decode cX12_findMen 148 = .ok (.istore 5, 2) := by decide +kernel
theorem dX12_findMen_150 : decode cX12_findMen 150 = .ok (.iload 5, 2) := by decide +kernel
theorem dX12_findMen_152 : decode cX12_findMen 152 = .ok (.iload_n 1, 1) := by decide +kernel
theorem dX12_findMen_153 : decode cX12_findMen 153 = .ok (.if_icmp .ge 23, 3) := by decide +kernel
theorem dX12_findMen_156 : decode cX12_findMen 156 = .ok (.aload_n 0, 1) := by decide +kernel
theorem dX12_findMen_157 : decode cX12_findMen 157 = .ok (.getfield 69, 3) := by decide +kernel
theorem dX12_findMen_160 : decode cX12_findMen 160 = .ok (.iload 5, 2) := by decide +kernel
theorem dX12_findMen_162 : decode cX12_findMen 162 = .ok (.aload_n 0, 1) := by decide +kernel
theorem dX12_findMen_163 : decode cX12_findMen 163 = .ok (.getfield 66, 3) := by decide +kernel
theorem dX12_findMen_166 : decode cX12_findMen 166 = .ok (.iload 5, 2) := by decide +kernel
theorem dX12_findMen_168 : decode cX12_findMen 168 = .ok (.iaload, 1) := by decide +kernel
theorem dX12_findMen_169 : decode cX12_findMen 169 = .ok (.iastore, 1) := by decide +kernel
theorem dX12_findMen_170 : decode cX12_findMen 170 = .ok (.iinc 5 1, 3) := by decide +kernel
theorem dX12_findMen_173 : decode cX12_findMen 173 = .ok (.goto (-23), 3) := by decide +kernel
theorem dX12_findMen_176 : decode cX12_findMen 176 = .ok (.goto (-141), 3) := by decide +kernel
theorem dX12_findMen_179 : decode cX12_findMen 179 = .ok (.iload_n 2, 1) := by decide +kernel
theorem dX12_findMen_180 : decode cX12_findMen 180 = .ok (.ireturn, 1) := by decide +kernel
theorem dX12_men_0 : decode cX12_men 0 = .ok (.iload_n 1, 1) := by decide +kernel
theorem dX12_men_1 : decode cX12_men 1 = .ok (.iconst (-1), 1) := by decide +kernel
theorem dX12_men_2 : decode cX12_men 2 = .ok (.if_icmp .eq 16, 3) := by decide +kernel
theorem dX12_men_5 : decode cX12_men 5 = .ok (.aload_n 0, 1) := by decide +kernel
theorem dX12_men_6 : decode cX12_men 6 = .ok (.bipush 9, 2) := by decide +kernel
theorem dX12_men_8 : decode cX12_men 8 = .ok (.iload_n 1, 1) := by decide +kernel
theorem dX12_men_9 : decode cX12_men 9 = .ok (.invokevirtual 173, 3) := by decide +kernel
theorem dX12_men_12 : decode cX12_men 12 = .ok (.ifCond .ne 6, 3) := by decide +kernel
theorem dX12_men_15 : decode cX12_men 15 = .ok (.bipush (-10), 2) := by decide +kernel
theorem dX12_men_17 : decode cX12_men 17 = .ok (.ireturn, 1) := by decide +kernel
theorem dX12_men_18 : decode cX12_men 18 = .ok (.aload_n 0, 1) := by decide +kernel
theorem dX12_men_19 : decode cX12_men 19 = .ok (.invokevirtual 288, 3) := by decide +kernel
theorem dX12_men_22 : decode cX12_men 22 = .ok (.istore_n 2, 1) := by decide +kernel
theorem dX12_men_23 : decode cX12_men 23 = .ok (.iload_n 1, 1) := by decide +kernel
theorem dX12_men_24 : decode cX12_men 24 = .ok (.iconst (-1), 1) := by decide +kernel
theorem dX12_men_25 : decode cX12_men 25 = .ok (.if_icmp .ne 7, 3) := by decide +kernel
theorem dX12_men_28 : decode cX12_men 28 = .ok (.iload_n 2, 1) := by decide +kernel
theorem dX12_men_29 : decode cX12_men 29 = .ok (.goto 9, 3) := by decide +kernel
theorem dX12_men_32 : decode cX12_men 32 = .ok (.aload_n 0, 1) := by decide +kernel
theorem dX12_men_33 : decode cX12_men 33 = .ok (.getfield 69, 3) := by decide +kernel
theorem dX12_men_36 : decode cX12_men 36 = .ok (.iload_n 1, 1) := by decide +kernel
theorem dX12_men_37 : decode cX12_men 37 = .ok (.iaload, 1) := by decide +kernel
theorem dX12_men_38 : decode cX12_men 38 = .ok (.ireturn, 1) := by decide +kernel
theorem dX12_load_0 : decode cX12_load 0 = .ok (.aload_n 0, 1) := by decide +kernel
theorem dX12_load_1 : decode cX12_load 1 = .ok (.iconst 0, 1) := by decide +kernel
theorem dX12_load_2 : decode cX12_load 2 = .ok (.iload_n 1, 1) := by decide +kernel
theorem dX12_load_3 : decode cX12_load 3 = .ok (.invokevirtual 173, 3) := by decide +kernel
theorem dX12_load_6 : decode cX12_load 6 = .ok (.ifCond .eq 22, 3) := by decide +kernel
theorem dX12_load_9 : decode cX12_load 9 = .ok (.iload_n 2, 1) := by decide +kernel
theorem dX12_load_10 : decode cX12_load 10 = .ok (.invokestatic 216, 3) := by decide +kernel
theorem dX12_load_13 : decode cX12_load 13 = .ok (.ifCond .eq 15, 3) := by decide +kernel
theorem dX12_load_16 : decode cX12_load 16 = .ok (.iload_n 3, 1) := by decide +kernel
theorem dX12_load_17 : decode cX12_load 17 = .ok (.i2l, 1) := by decide +kernel
theorem dX12_load_18 : decode cX12_load 18 = .ok (.lconst 0, 1) := by decide +kernel
theorem dX12_load_19 : decode cX12_load 19 = .ok (.ldc2_w 177, 3) := by decide +kernel
theorem dX12_load_22 : decode cX12_load 22 = .ok (.invokestatic 79, 3) := by decide +kernel
theorem dX12_load_25 : decode cX12_load 25 = .ok (.ifCond .ne 6, 3) := by decide +kernel
theorem dX12_load_28 : decode cX12_load 28 = .ok (.bipush (-2), 2) := by decide +kernel
theorem dX12_load_30 : decode cX12_load 30 = .ok (.ireturn, 1) := by decide +kernel
theorem dX12_load_31 : decode cX12_load 31 = .ok (.aload_n 0, 1) := by decide +kernel
theorem dX12_load_32 : decode cX12_load 32 = .ok (.getfield 7, 3) := by decide +kernel
theorem dX12_load_35 : decode cX12_load 35 = .ok (.bipush 10, 2) := by decide +kernel
theorem dX12_load_37 : decode cX12_load 37 = .ok (.iaload, 1) := by decide +kernel
theorem dX12_load_38 : decode cX12_load 38 = .ok (.bipush 6, 2) := by decide +kernel
theorem dX12_load_40 : decode cX12_load 40 = .ok (.if_icmp .ne 6, 3) := by decide +kernel
theorem dX12_load_43 : decode cX12_load 43 = .ok (.bipush (-4), 2) := by decide +kernel
theorem dX12_load_45 : decode cX12_load 45 = .ok (.ireturn, 1) := by decide +kernel
theorem dX12_load_46 : decode cX12_load 46 = .ok (.sipush 1933, 3) := by decide +kernel
theorem dX12_load_49 : decode cX12_load 49 = .ok (.iconst 3, 1) := by decide +kernel
theorem dX12_load_50 : decode cX12_load 50 = .ok (.aload_n 0, 1) := by decide +kernel
theorem dX12_load_51 : decode cX12_load 51 = .ok (.getfield 7, 3) := by decide +kernel
theorem dX12_load_54 : decode cX12_load 54 = .ok (.bipush 10, 2) := by decide +kernel
theorem dX12_load_56 : decode cX12_load 56 = .ok (.iaload, 1) := by decide +kernel
theorem dX12_load_57 : decode cX12_load 57 = .ok (.imul, 1) := by decide +kernel
theorem dX12_load_58 : decode cX12_load 58 = .ok (.iadd, 1) := by decide +kernel
theorem dX12_load_59 : decode cX12_load 59 = .ok (.istore 4, 2) := by decide +kernel
theorem dX12_load_61 : decode cX12_load 61 = .ok (.aload_n 0, 1) := by decide +kernel
theorem dX12_load_62 : decode cX12_load 62 = .ok (.getfield 7, 3) := by decide +kernel
theorem dX12_load_65 : decode cX12_load 65 = .ok (.iload 4, 2) := by decide +kernel
theorem dX12_load_67 : decode cX12_load 67 = .ok (.iload_n 1, 1) := by decide +kernel
theorem dX12_load_68 : decode cX12_load 68 = .ok (.iastore, 1) := by decide +kernel
theorem dX12_load_69 : decode cX12_load 69 = .ok (.aload_n 0, 1) := by decide +kernel
theorem dX12_load_70 : decode cX12_load 70 = .ok (.getfield 7, 3) := by decide +kernel
theorem dX12_load_73 : decode cX12_load 73 = .ok (.iload 4, 2) := by decide +kernel
theorem dX12_load_75 : decode cX12_load 75 = .ok (.iconst 1, 1) := by decide +kernel
theorem dX12_load_76 : decode cX12_load 76 = .ok (.iadd, 1) := by decide +kernel
theorem dX12_load_77 : decode cX12_load 77 = .ok (.iload_n 2, 1) := by decide +kernel
theorem dX12_load_78 : decode cX12_load 78 = .ok (.iastore, 1) := by decide +kernel
theorem dX12_load_79 : decode cX12_load 79 = .ok (.aload_n 0, 1) := by decide +kernel
theorem dX12_load_80 : decode cX12_load 80 = .ok (.getfield 7, 3) := by decide +kernel
theorem dX12_load_83 : decode cX12_load 83 = .ok (.iload 4, 2) := by decide +kernel
theorem dX12_load_85 : decode cX12_load 85 = .ok (.iconst 2, 1) := by decide +kernel
theorem dX12_load_86 : decode cX12_load 86 = .ok (.iadd, 1) := by decide +kernel
theorem dX12_load_87 : decode cX12_load 87 = .ok (.iload_n 3, 1) := by decide +kernel
theorem dX12_load_88 : decode cX12_load 88 = .ok (.iastore, 1) := by decide +kernel
theorem dX12_load_89 : decode cX12_load 89 = .ok (.aload_n 0, 1) := by decide +kernel
theorem dX12_load_90 : decode cX12_load 90 = .ok (.bipush 10, 2) := by decide +kernel
theorem dX12_load_92 : decode cX12_load 92 = .ok (.invokevirtual 91, 3) := by decide +kernel
theorem dX12_load_95 : decode cX12_load 95 = .ok (.ireturn, 1) := by decide +kernel
theorem dX12_unload_0 : decode cX12_unload 0 = .ok (.aload_n 0, 1) := by decide +kernel
theorem dX12_unload_1 : decode cX12_unload 1 = .ok (.bipush 10, 2) := by decide +kernel
theorem dX12_unload_3 : decode cX12_unload 3 = .ok (.iconst 0, 1) := by decide +kernel
theorem dX12_unload_4 : decode cX12_unload 4 = .ok (.invokevirtual 144, 3) := by decide +kernel
theorem dX12_unload_7 : decode cX12_unload 7 = .ok (.ireturn, 1) := by decide +kernel
theorem dX12_price_0 : decode cX12_price 0 = .ok (.iload_n 1, 1) := by decide +kernel
theorem dX12_price_1 : decode cX12_price 1 = .ok (.i2l, 1) := by decide +kernel
theorem dX12_price_2 : decode cX12_price 2 = .ok (.lconst 0, 1) := by decide +kernel
theorem dX12_price_3 : decode cX12_price 3 = .ok (.ldc2_w 168, 3) := by decide +kernel
theorem dX12_price_6 : decode cX12_price 6 = .ok (.invokestatic 79, 3) := by decide +kernel
theorem dX12_price_9 : decode cX12_price 9 = .ok (.ifCond .eq 27, 3) := by decide +kernel
theorem dX12_price_12 : decode cX12_price 12 = .ok (.iload_n 2, 1) := by decide +kernel
theorem dX12_price_13 : decode cX12_price 13 = .ok (.i2l, 1) := by decide +kernel
theorem dX12_price_14 : decode cX12_price 14 = .ok (.lconst 0, 1) := by decide +kernel
theorem dX12_price_15 : decode cX12_price 15 = .ok (.ldc2_w 192, 3) := by decide +kernel
theorem dX12_price_18 : decode cX12_price 18 = .ok (.invokestatic 79, 3) := by decide +kernel
theorem dX12_price_21 : decode cX12_price 21 = .ok (.ifCond .eq 15, 3) := by decide +kernel
theorem dX12_price_24 : decode cX12_price 24 = .ok (.aload_n 0, 1) := by decide +kernel
theorem dX12_price_25 : decode cX12_price 25 = .ok (.bipush 13, 2) := by decide +kernel
theorem dX12_price_27 : decode cX12_price 27 = .ok (.iload_n 1, 1) := by decide +kernel
theorem dX12_price_28 : decode cX12_price 28 = .ok (.iadd, 1) := by decide +kernel
theorem dX12_price_29 : decode cX12_price 29 = .ok (.iload_n 2, 1) := by decide +kernel
theorem dX12_price_30 : decode cX12_price 30 = .ok (.invokevirtual 144, 3) := by decide +kernel
theorem dX12_price_33 : decode cX12_price 33 = .ok (.goto 5, 3) := by decide +kernel
theorem dX12_price_36 : decode cX12_price 36 = .ok (.bipush (-2), 2) := by decide +kernel
theorem dX12_price_38 : decode cX12_price 38 = .ok (.ireturn, 1) := by decide +kernel
theorem dX12_findSilver_0 : decode cX12_findSilver 0 = .ok (.iconst 0, 1) := by decide +kernel
theorem dX12_findSilver_1 : decode cX12_findSilver 1 = .ok (.istore_n 2, 1) := by decide +kernel
theorem dX12_findSilver_2 : decode cX12_findSilver 2 = .ok (.iload_n 2, 1) := by decide +kernel
theorem dX12_findSilver_3 : decode cX12_findSilver 3 = .ok (.aload_n 0, 1) := by decide +kernel
theorem dX12_findSilver_4 : decode cX12_findSilver 4 = .ok (.getfield 7, 3) := by decide +kernel
theorem dX12_findSilver_7 : decode cX12_findSilver 7 = .ok (.bipush 10, 2) := by decide +kernel
theorem dX12_findSilver_9 : decode cX12_findSilver 9 = .ok (.iaload, 1) := by decide +kernel
theorem dX12_findSilver_10 : decode cX12_findSilver 10 = .ok (.if_icmp .ge 161, 3) := by decide +kernel
theorem dX12_findSilver_13 : decode cX12_findSilver 13 = .ok (.sipush 1933, 3) := by decide +kernel
theorem dX12_findSilver_16 : decode cX12_findSilver 16 = .ok (.iconst 3, 1) := by decide +kernel
theorem dX12_findSilver_17 : decode cX12_findSilver 17 = .ok (.iload_n 2, 1) := by decide +kernel
theorem dX12_findSilver_18 : decode cX12_findSilver 18 = .ok (.imul, 1) := by decide +kernel
theorem dX12_findSilver_19 : decode cX12_findSilver 19 = .ok (.iadd, 1) := by decide +kernel
theorem dX12_findSilver_20 : decode cX12_findSilver 20 = .ok (.istore_n 3, 1) := by decide +kernel
theorem dX12_findSilver_21 : decode cX12_findSilver 21 = .ok (.iconst 0, 1) := by decide +kernel
theorem dX12_findSilver_22 : decode cX12_findSilver 22 = .ok (.istore 4, 2) := by decide +kernel
theorem dX12_findSilver_24 : decode cX12_findSilver 24 = .ok (.iload 4, 2) := by decide +kernel
theorem dX12_findSilver_26 : decode cX12_findSilver 26 = .ok (.iconst 3, 1) := by decide +kernel
theorem dX12_findSilver_27 : decode cX12_findSilver 27 = .ok (.if_icmp .ge 138, 3) := by decide +kernel
theorem dX12_findSilver_30 : decode cX12_findSilver 30 = .ok (.iload 4, 2) := by decide +kernel
theorem dX12_findSilver_32 : decode cX12_findSilver 32 = .ok (.ifCond .ne 26, 3) := by decide +kernel
theorem dX12_findSilver_35 : decode cX12_findSilver 35 = .ok (.aload_n 0, 1) := by decide +kernel
theorem dX12_findSilver_36 : decode cX12_findSilver 36 = .ok (.aload_n 0, 1) := by decide +kernel
theorem dX12_findSilver_37 : decode cX12_findSilver 37 = .ok (.getfield 7, 3) := by decide +kernel
theorem dX12_findSilver_40 : decode cX12_findSilver 40 = .ok (.iload_n 3, 1) := by decide +kernel
theorem dX12_findSilver_41 : decode cX12_findSilver 41 = .ok (.iaload, 1) := by decide +kernel
theorem dX12_findSilver_42 : decode cX12_findSilver 42 = .ok (.aload_n 0, 1) := by decide +kernel
theorem dX12_findSilver_43 : decode cX12_findSilver 43 = .ok (.getfield 7, 3) := by decide +kernel
theorem dX12_findSilver_46 : decode cX12_findSilver 46 = .ok (.iload_n 3, 1) := by decide +kernel
theorem dX12_findSilver_47 : decode cX12_findSilver 47 = .ok (.iconst 1, 1) := by decide +kernel
theorem dX12_findSilver_48 : decode cX12_findSilver 48 = .ok (.iadd, 1) := by decide +kernel
theorem dX12_findSilver_49 : decode cX12_findSilver 49 = .ok (.iaload, 1) := by decide +kernel
theorem dX12_findSilver_50 : decode cX12_findSilver 50 = .ok (.iload_n 1, 1) := by decide +kernel
theorem dX12_findSilver_51 : decode cX12_findSilver 51 = .ok (.invokevirtual 219, 3) := by decide +kernel
theorem dX12_findSilver_54 : decode cX12_findSilver 54 = .ok (.i2l, 1) := by decide +kernel
theorem dX12_findSilver_55 : decode cX12_findSilver 55 = .ok (.goto 32, 3) := by decide +kernel
theorem dX12_findSilver_58 : decode cX12_findSilver 58 = .ok (.aload_n 0, 1) := by decide +kernel
theorem dX12_findSilver_59 : decode cX12_findSilver 59 = .ok (.getfield 7, 3) := by decide +kernel
theorem dX12_findSilver_62 : decode cX12_findSilver 62 = .ok (.iload_n 3, 1) := by decide +kernel
theorem dX12_findSilver_63 : decode cX12_findSilver 63 = .ok (.iconst 1, 1) := by decide +kernel
theorem dX12_findSilver_64 : decode cX12_findSilver 64 = .ok (.iadd, 1) := by decide +kernel
theorem dX12_findSilver_65 : decode cX12_findSilver 65 = .ok (.iaload, 1) := by decide +kernel
theorem dX12_findSilver_66 : decode cX12_findSilver 66 = .ok (.i2l, 1) := by decide +kernel
theorem dX12_findSilver_67 : decode cX12_findSilver 67 = .ok (.aload_n 0, 1) := by decide +kernel
theorem dX12_findSilver_68 : decode cX12_findSilver 68 = .ok (.getfield 7, 3) := by decide +kernel
theorem dX12_findSilver_71 : decode cX12_findSilver 71 = .ok (.bipush 11, 2) := by decide +kernel
theorem dX12_findSilver_73 : decode cX12_findSilver 73 = .ok (.iaload, 1) := by decide +kernel
theorem dX12_findSilver_74 : decode cX12_findSilver 74 = .ok (.iconst 1, 1) := by decide +kernel
theorem dX12_findSilver_75 : decode cX12_findSilver 75 = .ok (.isub, 1) := by decide +kernel
theorem dX12_findSilver_76 : decode cX12_findSilver 76 = .ok (.i2l, 1) := by decide +kernel
theorem dX12_findSilver_77 : decode cX12_findSilver 77 = .ok (.lmul, 1) := by decide +kernel
theorem dX12_findSilver_78 : decode cX12_findSilver 78 = .ok (.aload_n 0, 1) := by decide +kernel
theorem dX12_findSilver_79 : decode cX12_findSilver 79 = .ok (.getfield 7, 3) := by decide +kernel
theorem dX12_findSilver_82 : decode cX12_findSilver 82 = .ok (.bipush 11, 2) := by decide +kernel
theorem dX12_findSilver_84 : decode cX12_findSilver 84 = .ok (.iaload, 1) := by decide +kernel
theorem dX12_findSilver_85 : decode cX12_findSilver 85 = .ok (.i2l, 1) := by decide +kernel
theorem dX12_findSilver_86 : decode cX12_findSilver 86 = .ok (.ldiv, 1) := by decide +kernel
theorem dX12_findSilver_87 : decode cX12_findSilver 87 = .ok (.lstore 5, 2) := by decide +kernel
theorem dX12_findSilver_89 : decode cX12_findSilver 89 = .ok (.iconst 0, 1) := by decide +kernel
theorem dX12_findSilver_90 : decode cX12_findSilver 90 = .ok (.istore 7, 2) := by decide +kernel
theorem dX12_findSilver_92 : decode cX12_findSilver 92 = .ok (.iload 7, 2) := by decide +kernel
theorem dX12_findSilver_94 : decode cX12_findSilver 94 = .ok (.iconst 3, 1) := by decide +kernel
theorem dX12_findSilver_95 : decode cX12_findSilver 95 = .ok (.if_icmp .ge 64, 3) := by decide +kernel
theorem dX12_findSilver_98 : decode cX12_findSilver 98 = .ok (.aload_n 0, 1) := by decide +kernel
theorem dX12_findSilver_99 : decode cX12_findSilver 99 = .ok (.getfield 72, 3) := by decide +kernel
theorem dX12_findSilver_102 : decode cX12_findSilver 102 = .ok (.bipush 9, 2) := by decide +kernel
theorem dX12_findSilver_104 : decode cX12_findSilver 104 = .ok (.iload_n 2, 1) := by decide +kernel
theorem dX12_findSilver_105 : decode cX12_findSilver 105 = .ok (.imul, 1) := by decide +kernel
theorem dX12_findSilver_106 : decode cX12_findSilver 106 = .ok (.iconst 3, 1) := by decide +kernel
theorem dX12_findSilver_107 : decode cX12_findSilver 107 = .ok (.iload 4, 2) := by decide +kernel
theorem dX12_findSilver_109 : decode cX12_findSilver 109 = .ok (.imul, 1) := by decide +kernel
theorem dX12_findSilver_110 : decode cX12_findSilver 110 = .ok (.iadd, 1) := by decide +kernel
theorem dX12_findSilver_111 : decode cX12_findSilver 111 = .ok (.iload 7, 2) := by decide +kernel
theorem dX12_findSilver_113 : decode cX12_findSilver 113 = .ok (.iadd, 1) := by decide +kernel
theorem dX12_findSilver_114 : decode cX12_findSilver 114 = .ok (.iload 4, 2) := by decide +kernel
theorem dX12_findSilver_116 : decode cX12_findSilver 116 = .ok (.iconst 2, 1) := by decide +kernel
theorem dX12_findSilver_117 : decode cX12_findSilver 117 = .ok (.if_icmp .ne 7, 3) := by decide +kernel
theorem dX12_findSilver_120 : decode cX12_findSilver 120 = .ok (.lconst 0, 1) := by decide +kernel
theorem dX12_findSilver_121 : decode cX12_findSilver 121 = .ok (.goto 31, 3) := by decide +kernel
theorem dX12_findSilver_124 : decode cX12_findSilver 124 = .ok (.lload 5, 2) := by decide +kernel
theorem dX12_findSilver_126 : decode cX12_findSilver 126 = .ok (.aload_n 0, 1) := by decide +kernel
theorem dX12_findSilver_127 : decode cX12_findSilver 127 = .ok (.getfield 7, 3) := by decide +kernel
theorem dX12_findSilver_130 : decode cX12_findSilver 130 = .ok (.bipush 13, 2) := by decide +kernel
theorem dX12_findSilver_132 : decode cX12_findSilver 132 = .ok (.iload 7, 2) := by decide +kernel
theorem dX12_findSilver_134 : decode cX12_findSilver 134 = .ok (.iadd, 1) := by decide +kernel
theorem dX12_findSilver_135 : decode cX12_findSilver 135 = .ok (.iaload, 1) := by decide +kernel
theorem dX12_findSilver_136 : decode cX12_findSilver 136 = .ok (.i2l, 1) := by decide +kernel
theorem dX12_findSilver_137 : decode cX12_findSilver 137 = .ok (.lmul, 1) := by decide +kernel
theorem dX12_findSilver_138 : decode cX12_findSilver 138 = .ok (.ldc2_w 214, 3) := by decide +kernel
theorem dX12_findSilver_141 : decode cX12_findSilver 141 = .ok (.ldiv, 1) := by decide +kernel
theorem dX12_findSilver_142 : decode cX12_findSilver 142 = .ok (.aload_n 0, 1) := by decide +kernel
theorem dX12_findSilver_143 : decode cX12_findSilver 143 = .ok (.getfield 7, 3) := by decide +kernel
theorem dX12_findSilver_146 : decode cX12_findSilver 146 = .ok (.iload_n 3, 1) := by decide +kernel
theorem dX12_findSilver_147 : decode cX12_findSilver 147 = .ok (.iconst 2, 1) := by decide +kernel
theorem dX12_findSilver_148 : decode cX12_findSilver 148 = .ok (.iadd, 1) := by decide +kernel
theorem dX12_findSilver_149 : decode cX12_findSilver 149 = .ok (.iaload, 1) := by decide +kernel
theorem dX12_findSilver_150 : decode cX12_findSilver 150 = .ok (.i2l, 1) := by decide +kernel
theorem dX12_findSilver_151 : decode cX12_findSilver 151 = .ok (.lsub, 1) := by decide +kernel
theorem dX12_findSilver_152 : decode cX12_findSilver 152 = .ok (.lastore, 1) := by decide +kernel
theorem dX12_findSilver_153 : decode cX12_findSilver 153 = .ok (.iinc 7 1, 3) := by decide +kernel
theorem dX12_findSilver_156 : decode cX12_findSilver 156 = .ok (.goto (-64), 3) := by decide +kernel
theorem dX12_findSilver_159 : decode cX12_findSilver 159 = .ok (.iinc 4 1, 3) := by decide +kernel
theorem dX12_findSilver_162 : decode cX12_findSilver 162 = .ok (.goto (-138), 3) := by decide +kernel
theorem dX12_findSilver_165 : decode cX12_findSilver 165 = .ok (.iinc 2 1, 3) := by decide +kernel
theorem dX12_findSilver_168 : decode cX12_findSilver 168 = .ok (.goto (-166), 3) := by decide +kernel
theorem dX12_findSilver_171 : decode cX12_findSilver 171 = .ok (.return_, 1) := by decide +kernel
theorem dX12_plan_0 : decode cX12_plan 0 = .ok (.iload_n 1, 1) := by decide +kernel
theorem dX12_plan_1 : decode cX12_plan 1 = .ok (.invokestatic 153, 3) := by decide +kernel
theorem dX12_plan_4 : decode cX12_plan 4 = .ok (.ifCond .eq 18, 3) := by decide +kernel
theorem dX12_plan_7 : decode cX12_plan 7 = .ok (.iload_n 2, 1) := by decide +kernel
theorem dX12_plan_8 : decode cX12_plan 8 = .ok (.iconst (-1), 1) := by decide +kernel
theorem dX12_plan_9 : decode cX12_plan 9 = .ok (.if_icmp .eq 17, 3) := by decide +kernel
theorem dX12_plan_12 : decode cX12_plan 12 = .ok (.aload_n 0, 1) := by decide +kernel
theorem dX12_plan_13 : decode cX12_plan 13 = .ok (.bipush 10, 2) := by decide +kernel
theorem dX12_plan_15 : decode cX12_plan 15 = .ok (.iload_n 2, 1) := by decide +kernel
theorem dX12_plan_16 : decode cX12_plan 16 = .ok (.invokevirtual 173, 3) := by decide +kernel
theorem dX12_plan_19 : decode cX12_plan 19 = .ok (.ifCond .ne 7, 3) := by decide +kernel
theorem dX12_plan_22 : decode cX12_plan 22 = .ok (.ldc2_w 237, 3) := by decide +kernel
theorem dX12_plan_25 : decode cX12_plan 25 = .ok (.lreturn, 1) := by decide +kernel
theorem dX12_plan_26 : decode cX12_plan 26 = .ok (.aload_n 0, 1) := by decide +kernel
theorem dX12_plan_27 : decode cX12_plan 27 = .ok (.iload_n 1, 1) := by decide +kernel
theorem dX12_plan_28 : decode cX12_plan 28 = .ok (.invokevirtual 291, 3) := by decide +kernel
theorem dX12_plan_31 : decode cX12_plan 31 = .ok (.iconst 1, 1) := by decide +kernel
theorem dX12_plan_32 : decode cX12_plan 32 = .ok (.istore_n 3, 1) := by decide +kernel
theorem dX12_plan_33 : decode cX12_plan 33 = .ok (.iconst 0, 1) := by decide +kernel
theorem dX12_plan_34 : decode cX12_plan 34 = .ok (.istore 4, 2) := by decide +kernel
theorem dX12_plan_36 : decode cX12_plan 36 = .ok (.iload 4, 2) := by decide +kernel
theorem dX12_plan_38 : decode cX12_plan 38 = .ok (.aload_n 0, 1) := by decide +kernel
theorem dX12_plan_39 : decode cX12_plan 39 = .ok (.getfield 7, 3) := by decide +kernel
theorem dX12_plan_42 : decode cX12_plan 42 = .ok (.bipush 10, 2) := by decide +kernel
theorem dX12_plan_44 : decode cX12_plan 44 = .ok (.iaload, 1) := by decide +kernel
theorem dX12_plan_45 : decode cX12_plan 45 = .ok (.if_icmp .ge 13, 3) := by decide +kernel
theorem dX12_plan_48 : decode cX12_plan 48 = .ok (.iload_n 3, 1) := by decide +kernel
theorem dX12_plan_49 : decode cX12_plan 49 = .ok (.iconst 3, 1) := by decide +kernel
theorem dX12_plan_50 : decode cX12_plan 50 = .ok (.imul, 1) := by decide +kernel
theorem dX12_plan_51 : decode cX12_plan 51 = .ok (.istore_n 3, 1) := by decide +kernel
theorem dX12_plan_52 : decode cX12_plan 52 = .ok (.iinc 4 1, 3) := by decide +kernel
theorem dX12_plan_55 : decode cX12_plan 55 = .ok (.goto (-19), 3) := by decide +kernel
theorem dX12_plan_58 : decode cX12_plan 58 = .ok (.iconst 0, 1) := by decide +kernel
theorem dX12_plan_59 : decode cX12_plan 59 = .ok (.istore 4, 2) := by decide +kernel
theorem dX12_plan_61 : decode cX12_plan 61 = .ok (.lconst 0, 1) := by decide +kernel
theorem dX12_plan_62 : decode cX12_plan 62 = .ok (.lstore 5, 2) := by decide +kernel
theorem dX12_plan_64 : decode cX12_plan 64 = .ok (.iconst 0, 1) := by decide +kernel
theorem dX12_plan_65 : decode cX12_plan 65 = .ok (.istore 7, 2) := by decide +kernel
theorem dX12_plan_67 : decode cX12_plan 67 = .ok (.iload 7, 2) := by decide +kernel
theorem dX12_plan_69 : decode cX12_plan 69 = .ok (.iload_n 3, 1) := by decide +kernel
theorem dX12_plan_70 : decode cX12_plan 70 = .ok (.if_icmp .ge 130, 3) := by decide +kernel
theorem dX12_plan_73 : decode cX12_plan 73 = .ok (.lconst 0, 1) := by decide +kernel
theorem dX12_plan_74 : decode cX12_plan 74 = .ok (.lstore 8, 2) := by decide +kernel
theorem dX12_plan_76 : decode cX12_plan 76 = .ok (.iconst 0, 1) := by decide +kernel
theorem dX12_plan_77 : decode cX12_plan 77 = .ok (.istore 10, 2) := by decide +kernel
theorem dX12_plan_79 : decode cX12_plan 79 = .ok (.iload 10, 2) := by decide +kernel
theorem dX12_plan_81 : decode cX12_plan 81 = .ok (.iconst 3, 1) := by decide +kernel
theorem dX12_plan_82 : decode cX12_plan 82 = .ok (.if_icmp .ge 91, 3) := by decide +kernel
theorem dX12_plan_85 : decode cX12_plan 85 = .ok (.lconst 0, 1) := by decide +kernel
theorem dX12_plan_86 : decode cX12_plan 86 = .ok (.lstore 11, 2) := by decide +kernel
theorem dX12_plan_88 : decode cX12_plan 88 = .ok (.iload 7, 2) := by decide +kernel
theorem dX12_plan_90 : decode cX12_plan 90 = .ok (.istore 13, 2) := by decide +kernel
theorem dX12_plan_92 : decode cX12_plan 92 = .ok (.aload_n 0, 1) := by decide +kernel
theorem dX12_plan_93 : decode cX12_plan 93 = .ok (.getfield 7, 3) := by decide +kernel
theorem dX12_plan_96 : decode cX12_plan 96 = .ok (.bipush 10, 2) := by decide +kernel
theorem dX12_plan_98 : decode cX12_plan 98 = .ok (.iaload, 1) := by decide +kernel
theorem dX12_plan_99 : decode cX12_plan 99 = .ok (.iconst 1, 1) := by decide +kernel
theorem dX12_plan_100 : decode cX12_plan 100 = .ok (.isub, 1) := by decide +kernel
theorem dX12_plan_101 : decode cX12_plan 101 = .ok (.istore 14, 2) := by decide +kernel
theorem dX12_plan_103 : decode cX12_plan 103 = .ok (.iload 14, 2) := by decide +kernel
theorem dX12_plan_105 : decode cX12_plan 105 = .ok (.ifCond .lt 40, 3) := by decide +kernel
theorem dX12_plan_108 : decode cX12_plan 108 = .ok (.lload 11, 2) := by decide +kernel
theorem dX12_plan_110 : decode cX12_plan 110 = .ok (.aload_n 0, 1) := by decide +kernel
theorem dX12_plan_111 : decode cX12_plan 111 = .ok (.getfield 72, 3) := by decide +kernel
theorem dX12_plan_114 : decode cX12_plan 114 = .ok (.bipush 9, 2) := by decide +kernel
theorem dX12_plan_116 : decode cX12_plan 116 = .ok (.iload 14, 2) := by decide +kernel
theorem dX12_plan_118 : decode cX12_plan 118 = .ok (.imul, 1) := by decide +kernel
theorem dX12_plan_119 : decode cX12_plan 119 = .ok (.iconst 3, 1) := by decide +kernel
theorem dX12_plan_120 : decode cX12_plan 120 = .ok (.iload 13, 2) := by decide +kernel
theorem dX12_plan_122 : decode cX12_plan 122 = .ok (.iconst 3, 1) := by decide +kernel
theorem dX12_plan_123 : decode cX12_plan 123 = .ok (.irem, 1) := by decide +kernel
theorem dX12_plan_124 : decode cX12_plan 124 = .ok (.imul, 1) := by decide +kernel
theorem dX12_plan_125 : decode cX12_plan 125 = .ok (.iadd, 1) := by decide +kernel
theorem dX12_plan_126 : decode cX12_plan 126 = .ok (.iload 10, 2) := by decide +kernel
theorem dX12_plan_128 : decode cX12_plan 128 = .ok (.iadd, 1) := by decide +kernel
theorem dX12_plan_129 : decode cX12_plan 129 = .ok (.laload, 1) := by decide +kernel
theorem dX12_plan_130 : decode cX12_plan 130 = .ok (.ladd, 1) := by decide +kernel
theorem dX12_plan_131 : decode cX12_plan 131 = .ok (.lstore 11, 2) := by decide +kernel
theorem dX12_plan_133 : decode cX12_plan 133 = .ok (.iload 13, 2) := by decide +kernel
theorem dX12_plan_135 : decode cX12_plan 135 = .ok (.iconst 3, 1) := by decide +kernel
theorem dX12_plan_136 : decode cX12_plan 136 = .ok (.idiv, 1) := by decide +kernel
theorem dX12_plan_137 : decode cX12_plan 137 = .ok (.istore 13, 2) := by decide +kernel
theorem dX12_plan_139 : decode cX12_plan 139 = .ok (.iinc 14 (-1), 3) := by decide +kernel
theorem dX12_plan_142 : decode cX12_plan 142 = .ok (.goto (-39), 3) := by decide +kernel
theorem dX12_plan_145 : decode cX12_plan 145 = .ok (.iload 10, 2) := by decide +kernel
theorem dX12_plan_147 : decode cX12_plan 147 = .ok (.ifCond .eq 11, 3) := by decide +kernel
theorem dX12_plan_150 : decode cX12_plan 150 = .ok (.lload 11, 2) := by decide +kernel
theorem dX12_plan_152 : decode cX12_plan 152 = .ok (.lload 8, 2) := by decide +kernel
theorem dX12_plan_154 : decode cX12_plan 154 = .ok (.lcmp, 1) := by decide +kernel
theorem dX12_plan_155 : decode cX12_plan 155 = .ok (.ifCond .ge 8, 3) := by decide +kernel
theorem dX12_plan_158 : decode cX12_plan 158 = .ok (.lload 11, 2) := by decide +kernel
theorem dX12_plan_160 : decode cX12_plan 160 = .ok (.goto 5, 3) := by decide +kernel
theorem dX12_plan_163 : decode cX12_plan 163 = .ok (.lload 8, 2) := by decide +kernel
theorem dX12_plan_165 : decode cX12_plan 165 = .ok (.lstore 8, 2) := by decide +kernel
theorem dX12_plan_167 : decode cX12_plan 167 = .ok (.iinc 10 1, 3) := by decide +kernel
theorem dX12_plan_170 : decode cX12_plan 170 = .ok (.goto (-91), 3) := by decide +kernel
theorem dX12_plan_173 : decode cX12_plan 173 = .ok (.iload 7, 2) := by decide +kernel
theorem dX12_plan_175 : decode cX12_plan 175 = .ok (.ifCond .eq 11, 3) := by decide +kernel
theorem dX12_plan_178 : decode cX12_plan 178 = .ok (.lload 8, 2) := by decide +kernel
theorem dX12_plan_180 : decode cX12_plan 180 = .ok (.lload 5, 2) := by decide +kernel
theorem dX12_plan_182 : decode cX12_plan 182 = .ok (.lcmp, 1) := by decide +kernel
theorem dX12_plan_183 : decode cX12_plan 183 = .ok (.ifCond .le 11, 3) := by decide +kernel
theorem dX12_plan_186 : decode cX12_plan 186 = .ok (.iload 7, 2) := by decide +kernel
theorem dX12_plan_188 : decode cX12_plan 188 = .ok (.istore 4, 2) := by decide +kernel
theorem dX12_plan_190 : decode cX12_plan 190 = .ok (.lload 8, 2) := by decide +kernel
theorem dX12_plan_192 : decode cX12_plan 192 = .ok (.lstore 5, 2) := by decide +kernel
theorem dX12_plan_194 : decode cX12_plan 194 = .ok (.iinc 7 1, 3) := by decide +kernel
theorem dX12_plan_197 : decode cX12_plan 197 = .ok (.goto (-130), 3) := by decide +kernel
theorem dX12_plan_200 : decode cX12_plan 200 = .ok (.iload 4, 2) := by decide +kernel
theorem dX12_plan_202 : decode cX12_plan 202 = .ok (.istore 7, 2) := by decide +kernel
theorem dX12_plan_204 : decode cX12_plan 204 = .ok (.aload_n 0, 1) := by decide +kernel
theorem dX12_plan_205 : decode cX12_plan 205 = .ok (.getfield 7, 3) := by decide +kernel
theorem dX12_plan_208 : decode cX12_plan 208 = .ok (.bipush 10, 2) := by decide +kernel
theorem dX12_plan_210 : decode cX12_plan 210 = .ok (.iaload, 1) := by decide +kernel
theorem dX12_plan_211 : decode cX12_plan 211 = .ok (.iconst 1, 1) := by decide +kernel
theorem dX12_plan_212 : decode cX12_plan 212 = .ok (.isub, 1) := by decide +kernel
theorem dX12_plan_213 : decode cX12_plan 213 = .ok (.istore 8, 2) := by decide +kernel
theorem dX12_plan_215 : decode cX12_plan 215 = .ok (.iload 8, 2) := by decide +kernel
theorem dX12_plan_217 : decode cX12_plan 217 = .ok (.iload_n 2, 1) := by decide +kernel
theorem dX12_plan_218 : decode cX12_plan 218 = .ok (.if_icmp .le 20, 3) := by decide +kernel
theorem dX12_plan_221 : decode cX12_plan 221 = .ok (.iload_n 2, 1) := by decide +kernel
theorem dX12_plan_222 : decode cX12_plan 222 = .ok (.iconst (-1), 1) := by decide +kernel
theorem dX12_plan_223 : decode cX12_plan 223 = .ok (.if_icmp .eq 15, 3) := by decide +kernel
theorem dX12_plan_226 : decode cX12_plan 226 = .ok (.iload 7, 2) := by decide +kernel
theorem dX12_plan_228 : decode cX12_plan 228 = .ok (.iconst 3, 1) := by decide +kernel
theorem dX12_plan_229 : decode cX12_plan 229 = .ok (.idiv, 1) := by decide +kernel
theorem dX12_plan_230 : decode cX12_plan 230 = .ok (.istore 7, 2) := by decide +kernel
theorem dX12_plan_232 : decode cX12_plan 232 = .ok (.iinc 8 (-1), 3) := by decide +kernel
theorem dX12_plan_235 : decode cX12_plan 235 = .ok (.goto (-20), 3) := by decide +kernel
theorem dX12_plan_238 : decode cX12_plan 238 = .ok (.iload_n 2, 1) := by decide +kernel
theorem dX12_plan_239 : decode cX12_plan 239 = .ok (.iconst (-1), 1) := by decide +kernel
theorem dX12_plan_240 : decode cX12_plan 240 = .ok (.if_icmp .ne 8, 3) := by decide +kernel
theorem dX12_plan_243 : decode cX12_plan 243 = .ok (.lload 5, 2) := by decide +kernel
theorem dX12_plan_245 : decode cX12_plan 245 = .ok (.goto 8, 3) := by decide +kernel
theorem dX12_plan_248 : decode cX12_plan 248 = .ok (.iload 7, 2) := by decide +kernel
theorem dX12_plan_250 : decode cX12_plan 250 = .ok (.iconst 3, 1) := by decide +kernel
theorem dX12_plan_251 : decode cX12_plan 251 = .ok (.irem, 1) := by decide +kernel
theorem dX12_plan_252 : decode cX12_plan 252 = .ok (.i2l, 1) := by decide +kernel
theorem dX12_plan_253 : decode cX12_plan 253 = .ok (.lreturn, 1) := by decide +kernel
theorem dX12_part_0 : decode cX12_part 0 = .ok (.iload_n 1, 1) := by decide +kernel
theorem dX12_part_1 : decode cX12_part 1 = .ok (.ifCond .ne 10, 3) := by decide +kernel
theorem dX12_part_4 : decode cX12_part 4 = .ok (.aload_n 0, 1) := by decide +kernel
theorem dX12_part_5 : decode cX12_part 5 = .ok (.getfield 227, 3) := by decide +kernel
theorem dX12_part_8 : decode cX12_part 8 = .ok (.goto 18, 3) := by decide +kernel
theorem dX12_part_11 : decode cX12_part 11 = .ok (.iload_n 1, 1) := by decide +kernel
theorem dX12_part_12 : decode cX12_part 12 = .ok (.iconst 1, 1) := by decide +kernel
theorem dX12_part_13 : decode cX12_part 13 = .ok (.if_icmp .ne 10, 3) := by decide +kernel
theorem dX12_part_16 : decode cX12_part 16 = .ok (.aload_n 0, 1) := by decide +kernel
theorem dX12_part_17 : decode cX12_part 17 = .ok (.getfield 75, 3) := by decide +kernel
theorem dX12_part_20 : decode cX12_part 20 = .ok (.goto 6, 3) := by decide +kernel
theorem dX12_part_23 : decode cX12_part 23 = .ok (.ldc2_w 268, 3) := by decide +kernel
theorem dX12_part_26 : decode cX12_part 26 = .ok (.lreturn, 1) := by decide +kernel
theorem dX12_image_0 : decode cX12_image 0 = .ok (.iload_n 1, 1) := by decide +kernel
theorem dX12_image_1 : decode cX12_image 1 = .ok (.i2l, 1) := by decide +kernel
theorem dX12_image_2 : decode cX12_image 2 = .ok (.lconst 0, 1) := by decide +kernel
theorem dX12_image_3 : decode cX12_image 3 = .ok (.lconst 1, 1) := by decide +kernel
theorem dX12_image_4 : decode cX12_image 4 = .ok (.invokestatic 79, 3) := by decide +kernel
theorem dX12_image_7 : decode cX12_image 7 = .ok (.ifCond .ne 6, 3) := by decide +kernel
theorem dX12_image_10 : decode cX12_image 10 = .ok (.bipush (-2), 2) := by decide +kernel
theorem dX12_image_12 : decode cX12_image 12 = .ok (.ireturn, 1) := by decide +kernel
theorem dX12_image_13 : decode cX12_image 13 = .ok (.aload_n 0, 1) := by decide +kernel
theorem dX12_image_14 : decode cX12_image 14 = .ok (.getfield 16, 3) := by decide +kernel
theorem dX12_image_17 : decode cX12_image 17 = .ok (.iload_n 1, 1) := by decide +kernel
theorem dX12_image_18 : decode cX12_image 18 = .ok (.iconst 1, 1) := by decide +kernel
theorem dX12_image_19 : decode cX12_image 19 = .ok (.bastore, 1) := by decide +kernel
theorem dX12_image_20 : decode cX12_image 20 = .ok (.iconst 0, 1) := by decide +kernel
theorem dX12_image_21 : decode cX12_image 21 = .ok (.istore_n 2, 1) := by decide +kernel
theorem dX12_image_22 : decode cX12_image 22 = .ok (.iload_n 2, 1) := by decide +kernel
theorem dX12_image_23 : decode cX12_image 23 = .ok (.sipush 1951, 3) := by decide +kernel
theorem dX12_image_26 : decode cX12_image 26 = .ok (.if_icmp .ge 27, 3) := by decide +kernel
theorem dX12_image_29 : decode cX12_image 29 = .ok (.aload_n 0, 1) := by decide +kernel
theorem dX12_image_30 : decode cX12_image 30 = .ok (.getfield 13, 3) := by decide +kernel
theorem dX12_image_33 : decode cX12_image 33 = .ok (.sipush 1951, 3) := by decide +kernel
theorem dX12_image_36 : decode cX12_image 36 = .ok (.iload_n 1, 1) := by decide +kernel
theorem dX12_image_37 : decode cX12_image 37 = .ok (.imul, 1) := by decide +kernel
theorem dX12_image_38 : decode cX12_image 38 = .ok (.iload_n 2, 1) := by decide +kernel
theorem dX12_image_39 : decode cX12_image 39 = .ok (.iadd, 1) := by decide +kernel
theorem dX12_image_40 : decode cX12_image 40 = .ok (.aload_n 0, 1) := by decide +kernel
theorem dX12_image_41 : decode cX12_image 41 = .ok (.getfield 7, 3) := by decide +kernel
theorem dX12_image_44 : decode cX12_image 44 = .ok (.iload_n 2, 1) := by decide +kernel
theorem dX12_image_45 : decode cX12_image 45 = .ok (.iaload, 1) := by decide +kernel
theorem dX12_image_46 : decode cX12_image 46 = .ok (.iastore, 1) := by decide +kernel
theorem dX12_image_47 : decode cX12_image 47 = .ok (.iinc 2 1, 3) := by decide +kernel
theorem dX12_image_50 : decode cX12_image 50 = .ok (.goto (-28), 3) := by decide +kernel
theorem dX12_image_53 : decode cX12_image 53 = .ok (.iconst 1, 1) := by decide +kernel
theorem dX12_image_54 : decode cX12_image 54 = .ok (.ireturn, 1) := by decide +kernel
theorem dX12_from_0 : decode cX12_from 0 = .ok (.iload_n 1, 1) := by decide +kernel
theorem dX12_from_1 : decode cX12_from 1 = .ok (.i2l, 1) := by decide +kernel
theorem dX12_from_2 : decode cX12_from 2 = .ok (.lconst 0, 1) := by decide +kernel
theorem dX12_from_3 : decode cX12_from 3 = .ok (.lconst 1, 1) := by decide +kernel
theorem dX12_from_4 : decode cX12_from 4 = .ok (.invokestatic 79, 3) := by decide +kernel
theorem dX12_from_7 : decode cX12_from 7 = .ok (.ifCond .ne 6, 3) := by decide +kernel
theorem dX12_from_10 : decode cX12_from 10 = .ok (.bipush (-2), 2) := by decide +kernel
theorem dX12_from_12 : decode cX12_from 12 = .ok (.ireturn, 1) := by decide +kernel
theorem dX12_from_13 : decode cX12_from 13 = .ok (.aload_n 0, 1) := by decide +kernel
theorem dX12_from_14 : decode cX12_from 14 = .ok (.getfield 16, 3) := by decide +kernel
theorem dX12_from_17 : decode cX12_from 17 = .ok (.iload_n 1, 1) := by decide +kernel
theorem dX12_from_18 : decode cX12_from 18 = .ok (.baload, 1) := by decide +kernel
theorem dX12_from_19 : decode cX12_from 19 = .ok (.ifCond .ne 6, 3) := by decide +kernel
theorem dX12_from_22 : decode cX12_from 22 = .ok (.bipush (-3), 2) := by decide +kernel
theorem dX12_from_24 : decode cX12_from 24 = .ok (.ireturn, 1) := by decide +kernel
theorem dX12_from_25 : decode cX12_from 25 = .ok (.iconst 0, 1) := by decide +kernel
theorem dX12_from_26 : decode cX12_from 26 = .ok (.istore_n 2, 1) := by decide +kernel
theorem dX12_from_27 : decode cX12_from 27 = .ok (.iload_n 2, 1) := by decide +kernel
theorem dX12_from_28 : decode cX12_from 28 = .ok (.sipush 1951, 3) := by decide +kernel
theorem dX12_from_31 : decode cX12_from 31 = .ok (.if_icmp .ge 27, 3) := by decide +kernel
theorem dX12_from_34 : decode cX12_from 34 = .ok (.aload_n 0, 1) := by decide +kernel
theorem dX12_from_35 : decode cX12_from 35 = .ok (.getfield 7, 3) := by decide +kernel
theorem dX12_from_38 : decode cX12_from 38 = .ok (.iload_n 2, 1) := by decide +kernel
theorem dX12_from_39 : decode cX12_from 39 = .ok (.aload_n 0, 1) := by decide +kernel
theorem dX12_from_40 : decode cX12_from 40 = .ok (.getfield 13, 3) := by decide +kernel
theorem dX12_from_43 : decode cX12_from 43 = .ok (.sipush 1951, 3) := by decide +kernel
theorem dX12_from_46 : decode cX12_from 46 = .ok (.iload_n 1, 1) := by decide +kernel
theorem dX12_from_47 : decode cX12_from 47 = .ok (.imul, 1) := by decide +kernel
theorem dX12_from_48 : decode cX12_from 48 = .ok (.iload_n 2, 1) := by decide +kernel
theorem dX12_from_49 : decode cX12_from 49 = .ok (.iadd, 1) := by decide +kernel
theorem dX12_from_50 : decode cX12_from 50 = .ok (.iaload, 1) := by decide +kernel
theorem dX12_from_51 : decode cX12_from 51 = .ok (.iastore, 1) := by decide +kernel
theorem dX12_from_52 : decode cX12_from 52 = .ok (.iinc 2 1, 3) := by decide +kernel
theorem dX12_from_55 : decode cX12_from 55 = .ok (.goto (-28), 3) := by decide +kernel
theorem dX12_from_58 : decode cX12_from 58 = .ok (.iconst 1, 1) := by decide +kernel
theorem dX12_from_59 : decode cX12_from 59 = .ok (.ireturn, 1) := by decide +kernel
theorem dX12_count_0 : decode cX12_count 0 = .ok (.iload_n 1, 1) := by decide +kernel
theorem dX12_count_1 : decode cX12_count 1 = .ok (.i2l, 1) := by decide +kernel
theorem dX12_count_2 : decode cX12_count 2 = .ok (.lconst 0, 1) := by decide +kernel
theorem dX12_count_3 : decode cX12_count 3 = .ok (.ldc2_w 294, 3) := by decide +kernel
theorem dX12_count_6 : decode cX12_count 6 = .ok (.invokestatic 79, 3) := by decide +kernel
theorem dX12_count_9 : decode cX12_count 9 = .ok (.ifCond .eq 12, 3) := by decide +kernel
theorem dX12_count_12 : decode cX12_count 12 = .ok (.aload_n 0, 1) := by decide +kernel
theorem dX12_count_13 : decode cX12_count 13 = .ok (.getfield 7, 3) := by decide +kernel
theorem dX12_count_16 : decode cX12_count 16 = .ok (.iload_n 1, 1) := by decide +kernel
theorem dX12_count_17 : decode cX12_count 17 = .ok (.iaload, 1) := by decide +kernel
theorem dX12_count_18 : decode cX12_count 18 = .ok (.goto 5, 3) := by decide +kernel
theorem dX12_count_21 : decode cX12_count 21 = .ok (.bipush (-2), 2) := by decide +kernel
theorem dX12_count_23 : decode cX12_count 23 = .ok (.ireturn, 1) := by decide +kernel
theorem dX12_mixed_0 : decode cX12_mixed 0 = .ok (.lload_n 1, 1) := by decide +kernel
theorem dX12_mixed_1 : decode cX12_mixed 1 = .ok (.lstore 5, 2) := by decide +kernel
theorem dX12_mixed_3 : decode cX12_mixed 3 = .ok (.iconst 0, 1) := by decide +kernel
theorem dX12_mixed_4 : decode cX12_mixed 4 = .ok (.istore 7, 2) := by decide +kernel
theorem dX12_mixed_6 : decode cX12_mixed 6 = .ok (.iload 7, 2) := by decide +kernel
theorem dX12_mixed_8 : decode cX12_mixed 8 = .ok (.iload 4, 2) := by decide +kernel
theorem dX12_mixed_10 : decode cX12_mixed 10 = .ok (.if_icmp .ge 28, 3) := by decide +kernel
theorem dX12_mixed_13 : decode cX12_mixed 13 = .ok (.ldc2_w 296, 3) := by decide +kernel
theorem dX12_mixed_16 : decode cX12_mixed 16 = .ok (.lload 5, 2) := by decide +kernel
theorem dX12_mixed_18 : decode cX12_mixed 18 = .ok (.lmul, 1) := by decide +kernel
theorem dX12_mixed_19 : decode cX12_mixed 19 = .ok (.aload_n 0, 1) := by decide +kernel
theorem dX12_mixed_20 : decode cX12_mixed 20 = .ok (.getfield 7, 3) := by decide +kernel
theorem dX12_mixed_23 : decode cX12_mixed 23 = .ok (.iload_n 3, 1) := by decide +kernel
theorem dX12_mixed_24 : decode cX12_mixed 24 = .ok (.iload 7, 2) := by decide +kernel
theorem dX12_mixed_26 : decode cX12_mixed 26 = .ok (.iadd, 1) := by decide +kernel
theorem dX12_mixed_27 : decode cX12_mixed 27 = .ok (.iaload, 1) := by decide +kernel
theorem dX12_mixed_28 : decode cX12_mixed 28 = .ok (.i2l, 1) := by decide +kernel
theorem dX12_mixed_29 : decode cX12_mixed 29 = .ok (.ladd, 1) := by decide +kernel
theorem dX12_mixed_30 : decode cX12_mixed 30 = .ok (.lstore 5, 2) := by decide +kernel
theorem dX12_mixed_32 : decode cX12_mixed 32 = .ok (.iinc 7 1, 3) := by decide +kernel
theorem dX12_mixed_35 : decode cX12_mixed 35 = .ok (.goto (-29), 3) := by decide +kernel
theorem dX12_mixed_38 : decode cX12_mixed 38 = .ok (.lload 5, 2) := by decide +kernel
theorem dX12_mixed_40 : decode cX12_mixed 40 = .ok (.lreturn, 1) := by decide +kernel
theorem dX12_digest_0 : decode cX12_digest 0 = .ok (.aload_n 0, 1) := by decide +kernel
theorem dX12_digest_1 : decode cX12_digest 1 = .ok (.ldc2_w 298, 3) := by decide +kernel
theorem dX12_digest_4 : decode cX12_digest 4 = .ok (.iconst 0, 1) := by decide +kernel
theorem dX12_digest_5 : decode cX12_digest 5 = .ok (.bipush 11, 2) := by decide +kernel
theorem dX12_digest_7 : decode cX12_digest 7 = .ok (.invokevirtual 300, 3) := by decide +kernel
theorem dX12_digest_10 : decode cX12_digest 10 = .ok (.lstore_n 1, 1) := by decide +kernel
theorem dX12_digest_11 : decode cX12_digest 11 = .ok (.aload_n 0, 1) := by decide +kernel
theorem dX12_digest_12 : decode cX12_digest 12 = .ok (.lload_n 1, 1) := by decide +kernel
theorem dX12_digest_13 : decode cX12_digest 13 = .ok (.bipush 20, 2) := by decide +kernel
theorem dX12_digest_15 : decode cX12_digest 15 = .ok (.iconst 2, 1) := by decide +kernel
theorem dX12_digest_16 : decode cX12_digest 16 = .ok (.aload_n 0, 1) := by decide +kernel
theorem dX12_digest_17 : decode cX12_digest 17 = .ok (.getfield 7, 3) := by decide +kernel
theorem dX12_digest_20 : decode cX12_digest 20 = .ok (.iconst 0, 1) := by decide +kernel
theorem dX12_digest_21 : decode cX12_digest 21 = .ok (.iaload, 1) := by decide +kernel
theorem dX12_digest_22 : decode cX12_digest 22 = .ok (.imul, 1) := by decide +kernel
theorem dX12_digest_23 : decode cX12_digest 23 = .ok (.invokevirtual 300, 3) := by decide +kernel
theorem dX12_digest_26 : decode cX12_digest 26 = .ok (.lstore_n 1, 1) := by decide +kernel
theorem dX12_digest_27 : decode cX12_digest 27 = .ok (.iconst 0, 1) := by decide +kernel
theorem dX12_digest_28 : decode cX12_digest 28 = .ok (.istore_n 3, 1) := by decide +kernel
theorem dX12_digest_29 : decode cX12_digest 29 = .ok (.iload_n 3, 1) := by decide +kernel
theorem dX12_digest_30 : decode cX12_digest 30 = .ok (.aload_n 0, 1) := by decide +kernel
theorem dX12_digest_31 : decode cX12_digest 31 = .ok (.getfield 7, 3) := by decide +kernel
theorem dX12_digest_34 : decode cX12_digest 34 = .ok (.iconst 1, 1) := by decide +kernel
theorem dX12_digest_35 : decode cX12_digest 35 = .ok (.iaload, 1) := by decide +kernel
theorem dX12_digest_36 : decode cX12_digest 36 = .ok (.if_icmp .ge 40, 3) := by decide +kernel
theorem dX12_digest_39 : decode cX12_digest 39 = .ok (.aload_n 0, 1) := by decide +kernel
theorem dX12_digest_40 : decode cX12_digest 40 = .ok (.lload_n 1, 1) := by decide +kernel
theorem dX12_digest_41 : decode cX12_digest 41 = .ok (.sipush 244, 3) := by decide +kernel
theorem dX12_digest_44 : decode cX12_digest 44 = .ok (.bipush 53, 2) := by decide +kernel
theorem dX12_digest_46 : decode cX12_digest 46 = .ok (.iload_n 3, 1) := by decide +kernel
theorem dX12_digest_47 : decode cX12_digest 47 = .ok (.imul, 1) := by decide +kernel
theorem dX12_digest_48 : decode cX12_digest 48 = .ok (.iadd, 1) := by decide +kernel
theorem dX12_digest_49 : decode cX12_digest 49 = .ok (.iconst 3, 1) := by decide +kernel
theorem dX12_digest_50 : decode cX12_digest 50 = .ok (.aload_n 0, 1) := by decide +kernel
theorem dX12_digest_51 : decode cX12_digest 51 = .ok (.getfield 7, 3) := by decide +kernel
theorem dX12_digest_54 : decode cX12_digest 54 = .ok (.sipush 244, 3) := by decide +kernel
theorem dX12_digest_57 : decode cX12_digest 57 = .ok (.bipush 53, 2) := by decide +kernel
theorem dX12_digest_59 : decode cX12_digest 59 = .ok (.iload_n 3, 1) := by decide +kernel
theorem dX12_digest_60 : decode cX12_digest 60 = .ok (.imul, 1) := by decide +kernel
theorem dX12_digest_61 : decode cX12_digest 61 = .ok (.iadd, 1) := by decide +kernel
theorem dX12_digest_62 : decode cX12_digest 62 = .ok (.iconst 2, 1) := by decide +kernel
theorem dX12_digest_63 : decode cX12_digest 63 = .ok (.iadd, 1) := by decide +kernel
theorem dX12_digest_64 : decode cX12_digest 64 = .ok (.iaload, 1) := by decide +kernel
theorem dX12_digest_65 : decode cX12_digest 65 = .ok (.iadd, 1) := by decide +kernel
theorem dX12_digest_66 : decode cX12_digest 66 = .ok (.invokevirtual 300, 3) := by decide +kernel
theorem dX12_digest_69 : decode cX12_digest 69 = .ok (.lstore_n 1, 1) := by decide +kernel
theorem dX12_digest_70 : decode cX12_digest 70 = .ok (.iinc 3 1, 3) := by decide +kernel
theorem dX12_digest_73 : decode cX12_digest 73 = .ok (.goto (-44), 3) := by decide +kernel
theorem dX12_digest_76 : decode cX12_digest 76 = .ok (.aload_n 0, 1) := by decide +kernel
theorem dX12_digest_77 : decode cX12_digest 77 = .ok (.aload_n 0, 1) := by decide +kernel
theorem dX12_digest_78 : decode cX12_digest 78 = .ok (.lload_n 1, 1) := by decide +kernel
theorem dX12_digest_79 : decode cX12_digest 79 = .ok (.sipush 1092, 3) := by decide +kernel
theorem dX12_digest_82 : decode cX12_digest 82 = .ok (.bipush 7, 2) := by decide +kernel
theorem dX12_digest_84 : decode cX12_digest 84 = .ok (.aload_n 0, 1) := by decide +kernel
theorem dX12_digest_85 : decode cX12_digest 85 = .ok (.getfield 7, 3) := by decide +kernel
theorem dX12_digest_88 : decode cX12_digest 88 = .ok (.iconst 2, 1) := by decide +kernel
theorem dX12_digest_89 : decode cX12_digest 89 = .ok (.iaload, 1) := by decide +kernel
theorem dX12_digest_90 : decode cX12_digest 90 = .ok (.imul, 1) := by decide +kernel
theorem dX12_digest_91 : decode cX12_digest 91 = .ok (.invokevirtual 300, 3) := by decide +kernel
theorem dX12_digest_94 : decode cX12_digest 94 = .ok (.sipush 1372, 3) := by decide +kernel
theorem dX12_digest_97 : decode cX12_digest 97 = .ok (.iconst 3, 1) := by decide +kernel
theorem dX12_digest_98 : decode cX12_digest 98 = .ok (.aload_n 0, 1) := by decide +kernel
theorem dX12_digest_99 : decode cX12_digest 99 = .ok (.getfield 7, 3) := by decide +kernel
theorem dX12_digest_102 : decode cX12_digest 102 = .ok (.iconst 3, 1) := by decide +kernel
theorem dX12_digest_103 : decode cX12_digest 103 = .ok (.iaload, 1) := by decide +kernel
theorem dX12_digest_104 : decode cX12_digest 104 = .ok (.imul, 1) := by decide +kernel
theorem dX12_digest_105 : decode cX12_digest 105 = .ok (.invokevirtual 300, 3) := by decide +kernel
theorem dX12_digest_108 : decode cX12_digest 108 = .ok (.lstore_n 1, 1) := by decide +kernel
theorem dX12_digest_109 : decode cX12_digest 109 = .ok (.iconst 0, 1) := by decide +kernel
theorem dX12_digest_110 : decode cX12_digest 110 = .ok (.istore_n 3, 1) := by decide +kernel
theorem dX12_digest_111 : decode cX12_digest 111 = .ok (.iload_n 3, 1) := by decide +kernel
theorem dX12_digest_112 : decode cX12_digest 112 = .ok (.aload_n 0, 1) := by decide +kernel
theorem dX12_digest_113 : decode cX12_digest 113 = .ok (.getfield 7, 3) := by decide +kernel
theorem dX12_digest_116 : decode cX12_digest 116 = .ok (.iconst 4, 1) := by decide +kernel
theorem dX12_digest_117 : decode cX12_digest 117 = .ok (.iaload, 1) := by decide +kernel
theorem dX12_digest_118 : decode cX12_digest 118 = .ok (.if_icmp .ge 31, 3) := by decide +kernel
theorem dX12_digest_121 : decode cX12_digest 121 = .ok (.aload_n 0, 1) := by decide +kernel
theorem dX12_digest_122 : decode cX12_digest 122 = .ok (.lload_n 1, 1) := by decide +kernel
theorem dX12_digest_123 : decode cX12_digest 123 = .ok (.sipush 1552, 3) := by decide +kernel
theorem dX12_digest_126 : decode cX12_digest 126 = .ok (.bipush 13, 2) := by decide +kernel
theorem dX12_digest_128 : decode cX12_digest 128 = .ok (.iload_n 3, 1) := by decide +kernel
theorem dX12_digest_129 : decode cX12_digest 129 = .ok (.imul, 1) := by decide +kernel
theorem dX12_digest_130 : decode cX12_digest 130 = .ok (.iadd, 1) := by decide +kernel
theorem dX12_digest_131 : decode cX12_digest 131 = .ok (.iconst 3, 1) := by decide +kernel
theorem dX12_digest_132 : decode cX12_digest 132 = .ok (.aload_n 0, 1) := by decide +kernel
theorem dX12_digest_133 : decode cX12_digest 133 = .ok (.getfield 7, 3) := by decide +kernel
theorem dX12_digest_136 : decode cX12_digest 136 = .ok (.iconst 0, 1) := by decide +kernel
theorem dX12_digest_137 : decode cX12_digest 137 = .ok (.iaload, 1) := by decide +kernel
theorem dX12_digest_138 : decode cX12_digest 138 = .ok (.iadd, 1) := by decide +kernel
theorem dX12_digest_139 : decode cX12_digest 139 = .ok (.invokevirtual 300, 3) := by decide +kernel
theorem dX12_digest_142 : decode cX12_digest 142 = .ok (.lstore_n 1, 1) := by decide +kernel
theorem dX12_digest_143 : decode cX12_digest 143 = .ok (.iinc 3 1, 3) := by decide +kernel
theorem dX12_digest_146 : decode cX12_digest 146 = .ok (.goto (-35), 3) := by decide +kernel
theorem dX12_digest_149 : decode cX12_digest 149 = .ok (.aload_n 0, 1) := by decide +kernel
theorem dX12_digest_150 : decode cX12_digest 150 = .ok (.aload_n 0, 1) := by decide +kernel
theorem dX12_digest_151 : decode cX12_digest 151 = .ok (.aload_n 0, 1) := by decide +kernel
theorem dX12_digest_152 : decode cX12_digest 152 = .ok (.lload_n 1, 1) := by decide +kernel
theorem dX12_digest_153 : decode cX12_digest 153 = .ok (.sipush 1591, 3) := by decide +kernel
theorem dX12_digest_156 : decode cX12_digest 156 = .ok (.aload_n 0, 1) := by decide +kernel
theorem dX12_digest_157 : decode cX12_digest 157 = .ok (.getfield 7, 3) := by decide +kernel
theorem dX12_digest_160 : decode cX12_digest 160 = .ok (.iconst 5, 1) := by decide +kernel
theorem dX12_digest_161 : decode cX12_digest 161 = .ok (.iaload, 1) := by decide +kernel
theorem dX12_digest_162 : decode cX12_digest 162 = .ok (.invokevirtual 300, 3) := by decide +kernel
theorem dX12_digest_165 : decode cX12_digest 165 = .ok (.bipush 11, 2) := by decide +kernel
theorem dX12_digest_167 : decode cX12_digest 167 = .ok (.iconst 1, 1) := by decide +kernel
theorem dX12_digest_168 : decode cX12_digest 168 = .ok (.invokevirtual 300, 3) := by decide +kernel
theorem dX12_digest_171 : decode cX12_digest 171 = .ok (.sipush 1597, 3) := by decide +kernel
theorem dX12_digest_174 : decode cX12_digest 174 = .ok (.iconst 3, 1) := by decide +kernel
theorem dX12_digest_175 : decode cX12_digest 175 = .ok (.aload_n 0, 1) := by decide +kernel
theorem dX12_digest_176 : decode cX12_digest 176 = .ok (.getfield 7, 3) := by decide +kernel
theorem dX12_digest_179 : decode cX12_digest 179 = .ok (.bipush 6, 2) := by decide +kernel
theorem dX12_digest_181 : decode cX12_digest 181 = .ok (.iaload, 1) := by decide +kernel
theorem dX12_digest_182 : decode cX12_digest 182 = .ok (.imul, 1) := by decide +kernel
theorem dX12_digest_183 : decode cX12_digest 183 = .ok (.invokevirtual 300, 3) := by decide +kernel
theorem dX12_digest_186 : decode cX12_digest 186 = .ok (.lstore_n 1, 1) := by decide +kernel
theorem dX12_digest_187 : decode cX12_digest 187 = .ok (.aload_n 0, 1) := by decide +kernel
theorem dX12_digest_188 : decode cX12_digest 188 = .ok (.aload_n 0, 1) := by decide +kernel
theorem dX12_digest_189 : decode cX12_digest 189 = .ok (.lload_n 1, 1) := by decide +kernel
theorem dX12_digest_190 : decode cX12_digest 190 = .ok (.bipush 12, 2) := by decide +kernel
theorem dX12_digest_192 : decode cX12_digest 192 = .ok (.iconst 1, 1) := by decide +kernel
theorem dX12_digest_193 : decode cX12_digest 193 = .ok (.invokevirtual 300, 3) := by decide +kernel
theorem dX12_digest_196 : decode cX12_digest 196 = .ok (.sipush 1633, 3) := by decide +kernel
theorem dX12_digest_199 : decode cX12_digest 199 = .ok (.iconst 3, 1) := by decide +kernel
theorem dX12_digest_200 : decode cX12_digest 200 = .ok (.aload_n 0, 1) := by decide +kernel
theorem dX12_digest_201 : decode cX12_digest 201 = .ok (.getfield 7, 3) := by decide +kernel
theorem dX12_digest_204 : decode cX12_digest 204 = .ok (.bipush 7, 2) := by decide +kernel
theorem dX12_digest_206 : decode cX12_digest 206 = .ok (.iaload, 1) := by decide +kernel
theorem dX12_digest_207 : decode cX12_digest 207 = .ok (.imul, 1) := by decide +kernel
theorem dX12_digest_208 : decode cX12_digest 208 = .ok (.invokevirtual 300, 3) := by decide +kernel
theorem dX12_digest_211 : decode cX12_digest 211 = .ok (.lstore_n 1, 1) := by decide +kernel
theorem dX12_digest_212 : decode cX12_digest 212 = .ok (.aload_n 0, 1) := by decide +kernel
theorem dX12_digest_213 : decode cX12_digest 213 = .ok (.aload_n 0, 1) := by decide +kernel
theorem dX12_digest_214 : decode cX12_digest 214 = .ok (.lload_n 1, 1) := by decide +kernel
theorem dX12_digest_215 : decode cX12_digest 215 = .ok (.sipush 1753, 3) := by decide +kernel
theorem dX12_digest_218 : decode cX12_digest 218 = .ok (.iconst 5, 1) := by decide +kernel
theorem dX12_digest_219 : decode cX12_digest 219 = .ok (.aload_n 0, 1) := by decide +kernel
theorem dX12_digest_220 : decode cX12_digest 220 = .ok (.getfield 7, 3) := by decide +kernel
theorem dX12_digest_223 : decode cX12_digest 223 = .ok (.bipush 8, 2) := by decide +kernel
theorem dX12_digest_225 : decode cX12_digest 225 = .ok (.iaload, 1) := by decide +kernel
theorem dX12_digest_226 : decode cX12_digest 226 = .ok (.imul, 1) := by decide +kernel
theorem dX12_digest_227 : decode cX12_digest 227 = .ok (.invokevirtual 300, 3) := by decide +kernel
theorem dX12_digest_230 : decode cX12_digest 230 = .ok (.sipush 1903, 3) := by decide +kernel
theorem dX12_digest_233 : decode cX12_digest 233 = .ok (.iconst 3, 1) := by decide +kernel
theorem dX12_digest_234 : decode cX12_digest 234 = .ok (.aload_n 0, 1) := by decide +kernel
theorem dX12_digest_235 : decode cX12_digest 235 = .ok (.getfield 7, 3) := by decide +kernel
theorem dX12_digest_238 : decode cX12_digest 238 = .ok (.bipush 9, 2) := by decide +kernel
theorem dX12_digest_240 : decode cX12_digest 240 = .ok (.iaload, 1) := by decide +kernel
theorem dX12_digest_241 : decode cX12_digest 241 = .ok (.imul, 1) := by decide +kernel
theorem dX12_digest_242 : decode cX12_digest 242 = .ok (.invokevirtual 300, 3) := by decide +kernel
theorem dX12_digest_245 : decode cX12_digest 245 = .ok (.lstore_n 1, 1) := by decide +kernel
theorem dX12_digest_246 : decode cX12_digest 246 = .ok (.aload_n 0, 1) := by decide +kernel
theorem dX12_digest_247 : decode cX12_digest 247 = .ok (.aload_n 0, 1) := by decide +kernel
theorem dX12_digest_248 : decode cX12_digest 248 = .ok (.lload_n 1, 1) := by decide +kernel
theorem dX12_digest_249 : decode cX12_digest 249 = .ok (.sipush 1933, 3) := by decide +kernel
theorem dX12_digest_252 : decode cX12_digest 252 = .ok (.iconst 3, 1) := by decide +kernel
theorem dX12_digest_253 : decode cX12_digest 253 = .ok (.aload_n 0, 1) := by decide +kernel
theorem dX12_digest_254 : decode cX12_digest 254 = .ok (.getfield 7, 3) := by decide +kernel
theorem dX12_digest_257 : decode cX12_digest 257 = .ok (.bipush 10, 2) := by decide +kernel
theorem dX12_digest_259 : decode cX12_digest 259 = .ok (.iaload, 1) := by decide +kernel
theorem dX12_digest_260 : decode cX12_digest 260 = .ok (.imul, 1) := by decide +kernel
theorem dX12_digest_261 : decode cX12_digest 261 = .ok (.invokevirtual 300, 3) := by decide +kernel
theorem dX12_digest_264 : decode cX12_digest 264 = .ok (.bipush 13, 2) := by decide +kernel
theorem dX12_digest_266 : decode cX12_digest 266 = .ok (.iconst 3, 1) := by decide +kernel
theorem dX12_digest_267 : decode cX12_digest 267 = .ok (.invokevirtual 300, 3) := by decide +kernel
theorem dX12_digest_270 : decode cX12_digest 270 = .ok (.lstore_n 1, 1) := by decide +kernel
theorem dX12_digest_271 : decode cX12_digest 271 = .ok (.iconst 0, 1) := by decide +kernel
theorem dX12_digest_272 : decode cX12_digest 272 = .ok (.istore_n 3, 1) := by decide +kernel
theorem dX12_digest_273 : decode cX12_digest 273 = .ok (.iload_n 3, 1) := by decide +kernel
theorem dX12_digest_274 : decode cX12_digest 274 = .ok (.iconst 4, 1) := by decide +kernel
theorem dX12_digest_275 : decode cX12_digest 275 = .ok (.if_icmp .ge 36, 3) := by decide +kernel
theorem dX12_digest_278 : decode cX12_digest 278 = .ok (.aload_n 0, 1) := by decide +kernel
theorem dX12_digest_279 : decode cX12_digest 279 = .ok (.lload_n 1, 1) := by decide +kernel
theorem dX12_digest_280 : decode cX12_digest 280 = .ok (.bipush 40, 2) := by decide +kernel
theorem dX12_digest_282 : decode cX12_digest 282 = .ok (.bipush 51, 2) := by decide +kernel
theorem dX12_digest_284 : decode cX12_digest 284 = .ok (.iload_n 3, 1) := by decide +kernel
theorem dX12_digest_285 : decode cX12_digest 285 = .ok (.imul, 1) := by decide +kernel
theorem dX12_digest_286 : decode cX12_digest 286 = .ok (.iadd, 1) := by decide +kernel
theorem dX12_digest_287 : decode cX12_digest 287 = .ok (.iconst 1, 1) := by decide +kernel
theorem dX12_digest_288 : decode cX12_digest 288 = .ok (.aload_n 0, 1) := by decide +kernel
theorem dX12_digest_289 : decode cX12_digest 289 = .ok (.getfield 7, 3) := by decide +kernel
theorem dX12_digest_292 : decode cX12_digest 292 = .ok (.bipush 40, 2) := by decide +kernel
theorem dX12_digest_294 : decode cX12_digest 294 = .ok (.bipush 51, 2) := by decide +kernel
theorem dX12_digest_296 : decode cX12_digest 296 = .ok (.iload_n 3, 1) := by decide +kernel
theorem dX12_digest_297 : decode cX12_digest 297 = .ok (.imul, 1) := by decide +kernel
theorem dX12_digest_298 : decode cX12_digest 298 = .ok (.iadd, 1) := by decide +kernel
theorem dX12_digest_299 : decode cX12_digest 299 = .ok (.iaload, 1) := by decide +kernel
theorem dX12_digest_300 : decode cX12_digest 300 = .ok (.iadd, 1) := by decide +kernel
theorem dX12_digest_301 : decode cX12_digest 301 = .ok (.invokevirtual 300, 3) := by decide +kernel
theorem dX12_digest_304 : decode cX12_digest 304 = .ok (.lstore_n 1, 1) := by decide +kernel
theorem dX12_digest_305 : decode cX12_digest 305 = .ok (.iinc 3 1, 3) := by decide +kernel
theorem dX12_digest_308 : decode cX12_digest 308 = .ok (.goto (-35), 3) := by decide +kernel
theorem dX12_digest_311 : decode cX12_digest 311 = .ok (.iconst 0, 1) := by decide +kernel
theorem dX12_digest_312 : decode cX12_digest 312 = .ok (.istore_n 3, 1) := by decide +kernel
theorem dX12_digest_313 : decode cX12_digest 313 = .ok (.iload_n 3, 1) := by decide +kernel
theorem dX12_digest_314 : decode cX12_digest 314 = .ok (.aload_n 0, 1) := by decide +kernel
theorem dX12_digest_315 : decode cX12_digest 315 = .ok (.getfield 7, 3) := by decide +kernel
theorem dX12_digest_318 : decode cX12_digest 318 = .ok (.iconst 0, 1) := by decide +kernel
theorem dX12_digest_319 : decode cX12_digest 319 = .ok (.iaload, 1) := by decide +kernel
theorem dX12_digest_320 : decode cX12_digest 320 = .ok (.if_icmp .ge 23, 3) := by decide +kernel
theorem dX12_digest_323 : decode cX12_digest 323 = .ok (.ldc2_w 296, 3) := by decide +kernel
theorem dX12_digest_326 : decode cX12_digest 326 = .ok (.lload_n 1, 1) := by decide +kernel
theorem dX12_digest_327 : decode cX12_digest 327 = .ok (.lmul, 1) := by decide +kernel
theorem dX12_digest_328 : decode cX12_digest 328 = .ok (.aload_n 0, 1) := by decide +kernel
theorem dX12_digest_329 : decode cX12_digest 329 = .ok (.iload_n 3, 1) := by decide +kernel
theorem dX12_digest_330 : decode cX12_digest 330 = .ok (.bipush 99, 2) := by decide +kernel
theorem dX12_digest_332 : decode cX12_digest 332 = .ok (.invokevirtual 234, 3) := by decide +kernel
theorem dX12_digest_335 : decode cX12_digest 335 = .ok (.ladd, 1) := by decide +kernel
theorem dX12_digest_336 : decode cX12_digest 336 = .ok (.lstore_n 1, 1) := by decide +kernel
theorem dX12_digest_337 : decode cX12_digest 337 = .ok (.iinc 3 1, 3) := by decide +kernel
theorem dX12_digest_340 : decode cX12_digest 340 = .ok (.goto (-27), 3) := by decide +kernel
theorem dX12_digest_343 : decode cX12_digest 343 = .ok (.ldc2_w 296, 3) := by decide +kernel
theorem dX12_digest_346 : decode cX12_digest 346 = .ok (.ldc2_w 296, 3) := by decide +kernel
theorem dX12_digest_349 : decode cX12_digest 349 = .ok (.lload_n 1, 1) := by decide +kernel
theorem dX12_digest_350 : decode cX12_digest 350 = .ok (.lmul, 1) := by decide +kernel
theorem dX12_digest_351 : decode cX12_digest 351 = .ok (.aload_n 0, 1) := by decide +kernel
theorem dX12_digest_352 : decode cX12_digest 352 = .ok (.getfield 227, 3) := by decide +kernel
theorem dX12_digest_355 : decode cX12_digest 355 = .ok (.ladd, 1) := by decide +kernel
theorem dX12_digest_356 : decode cX12_digest 356 = .ok (.lmul, 1) := by decide +kernel
theorem dX12_digest_357 : decode cX12_digest 357 = .ok (.aload_n 0, 1) := by decide +kernel
theorem dX12_digest_358 : decode cX12_digest 358 = .ok (.getfield 75, 3) := by decide +kernel
theorem dX12_digest_361 : decode cX12_digest 361 = .ok (.ladd, 1) := by decide +kernel
theorem dX12_digest_362 : decode cX12_digest 362 = .ok (.lreturn, 1) := by decide +kernel
theorem dJ6_bitCount_0f7a4_0 : decode cJ6_bitCount_0f7a4 0 = .ok (.iload_n 0, 1) := by decide +kernel
theorem dJ6_bitCount_0f7a4_1 : decode cJ6_bitCount_0f7a4 1 = .ok (.iload_n 0, 1) := by decide +kernel
theorem dJ6_bitCount_0f7a4_2 : decode cJ6_bitCount_0f7a4 2 = .ok (.iconst 1, 1) := by decide +kernel
theorem dJ6_bitCount_0f7a4_3 : decode cJ6_bitCount_0f7a4 3 = .ok (.iushr, 1) := by decide +kernel
theorem dJ6_bitCount_0f7a4_4 : decode cJ6_bitCount_0f7a4 4 = .ok (.ldc_w 265, 3) := by decide +kernel
theorem dJ6_bitCount_0f7a4_7 : decode cJ6_bitCount_0f7a4 7 = .ok (.iand, 1) := by decide +kernel
theorem dJ6_bitCount_0f7a4_8 : decode cJ6_bitCount_0f7a4 8 = .ok (.isub, 1) := by decide +kernel
theorem dJ6_bitCount_0f7a4_9 : decode cJ6_bitCount_0f7a4 9 = .ok (.istore_n 0, 1) := by decide +kernel
theorem dJ6_bitCount_0f7a4_10 : decode cJ6_bitCount_0f7a4 10 = .ok (.iload_n 0, 1) := by decide +kernel
theorem dJ6_bitCount_0f7a4_11 : decode cJ6_bitCount_0f7a4 11 = .ok (.ldc_w 266, 3) := by decide +kernel
theorem dJ6_bitCount_0f7a4_14 : decode cJ6_bitCount_0f7a4 14 = .ok (.iand, 1) := by decide +kernel
theorem dJ6_bitCount_0f7a4_15 : decode cJ6_bitCount_0f7a4 15 = .ok (.iload_n 0, 1) := by decide +kernel
theorem dJ6_bitCount_0f7a4_16 : decode cJ6_bitCount_0f7a4 16 = .ok (.iconst 2, 1) := by decide +kernel
theorem dJ6_bitCount_0f7a4_17 : decode cJ6_bitCount_0f7a4 17 = .ok (.iushr, 1) := by decide +kernel
theorem dJ6_bitCount_0f7a4_18 : decode cJ6_bitCount_0f7a4 18 = .ok (.ldc_w 266, 3) := by decide +kernel
theorem dJ6_bitCount_0f7a4_21 : decode cJ6_bitCount_0f7a4 21 = .ok (.iand, 1) := by decide +kernel
theorem dJ6_bitCount_0f7a4_22 : decode cJ6_bitCount_0f7a4 22 = .ok (.iadd, 1) := by decide +kernel
theorem dJ6_bitCount_0f7a4_23 : decode cJ6_bitCount_0f7a4 23 = .ok (.istore_n 0, 1) := by decide +kernel
theorem dJ6_bitCount_0f7a4_24 : decode cJ6_bitCount_0f7a4 24 = .ok (.iload_n 0, 1) := by decide +kernel
theorem dJ6_bitCount_0f7a4_25 : decode cJ6_bitCount_0f7a4 25 = .ok (.iload_n 0, 1) := by decide +kernel
theorem dJ6_bitCount_0f7a4_26 : decode cJ6_bitCount_0f7a4 26 = .ok (.iconst 4, 1) := by decide +kernel
theorem dJ6_bitCount_0f7a4_27 : decode cJ6_bitCount_0f7a4 27 = .ok (.iushr, 1) := by decide +kernel
theorem dJ6_bitCount_0f7a4_28 : decode cJ6_bitCount_0f7a4 28 = .ok (.iadd, 1) := by decide +kernel
theorem dJ6_bitCount_0f7a4_29 : decode cJ6_bitCount_0f7a4 29 = .ok (.ldc_w 267, 3) := by decide +kernel
theorem dJ6_bitCount_0f7a4_32 : decode cJ6_bitCount_0f7a4 32 = .ok (.iand, 1) := by decide +kernel
theorem dJ6_bitCount_0f7a4_33 : decode cJ6_bitCount_0f7a4 33 = .ok (.istore_n 0, 1) := by decide +kernel
theorem dJ6_bitCount_0f7a4_34 : decode cJ6_bitCount_0f7a4 34 = .ok (.iload_n 0, 1) := by decide +kernel
theorem dJ6_bitCount_0f7a4_35 : decode cJ6_bitCount_0f7a4 35 = .ok (.iload_n 0, 1) := by decide +kernel
theorem dJ6_bitCount_0f7a4_36 : decode cJ6_bitCount_0f7a4 36 = .ok (.bipush 8, 2) := by decide +kernel
theorem dJ6_bitCount_0f7a4_38 : decode cJ6_bitCount_0f7a4 38 = .ok (.iushr, 1) := by decide +kernel
theorem dJ6_bitCount_0f7a4_39 : decode cJ6_bitCount_0f7a4 39 = .ok (.iadd, 1) := by decide +kernel
theorem dJ6_bitCount_0f7a4_40 : decode cJ6_bitCount_0f7a4 40 = .ok (.istore_n 0, 1) := by decide +kernel
theorem dJ6_bitCount_0f7a4_41 : decode cJ6_bitCount_0f7a4 41 = .ok (.iload_n 0, 1) := by decide +kernel
theorem dJ6_bitCount_0f7a4_42 : decode cJ6_bitCount_0f7a4 42 = .ok (.iload_n 0, 1) := by decide +kernel
theorem dJ6_bitCount_0f7a4_43 : decode cJ6_bitCount_0f7a4 43 = .ok (.bipush 16, 2) := by decide +kernel
theorem dJ6_bitCount_0f7a4_45 : decode cJ6_bitCount_0f7a4 45 = .ok (.iushr, 1) := by decide +kernel
theorem dJ6_bitCount_0f7a4_46 : decode cJ6_bitCount_0f7a4 46 = .ok (.iadd, 1) := by decide +kernel
theorem dJ6_bitCount_0f7a4_47 : decode cJ6_bitCount_0f7a4 47 = .ok (.istore_n 0, 1) := by decide +kernel
theorem dJ6_bitCount_0f7a4_48 : decode cJ6_bitCount_0f7a4 48 = .ok (.iload_n 0, 1) := by decide +kernel
theorem dJ6_bitCount_0f7a4_49 : decode cJ6_bitCount_0f7a4 49 = .ok (.bipush 63, 2) := by decide +kernel
theorem dJ6_bitCount_0f7a4_51 : decode cJ6_bitCount_0f7a4 51 = .ok (.iand, 1) := by decide +kernel
theorem dJ6_bitCount_0f7a4_52 : decode cJ6_bitCount_0f7a4 52 = .ok (.ireturn, 1) := by decide +kernel
theorem dJ9_abs_0f7a4_0 : decode cJ9_abs_0f7a4 0 = .ok (.iload_n 0, 1) := by decide +kernel
theorem dJ9_abs_0f7a4_1 : decode cJ9_abs_0f7a4 1 = .ok (.ifCond .ge 8, 3) := by decide +kernel
theorem dJ9_abs_0f7a4_4 : decode cJ9_abs_0f7a4 4 = .ok (.iload_n 0, 1) := by decide +kernel
theorem dJ9_abs_0f7a4_5 : decode cJ9_abs_0f7a4 5 = .ok (.ineg, 1) := by decide +kernel
theorem dJ9_abs_0f7a4_6 : decode cJ9_abs_0f7a4 6 = .ok (.goto 4, 3) := by decide +kernel
theorem dJ9_abs_0f7a4_9 : decode cJ9_abs_0f7a4 9 = .ok (.iload_n 0, 1) := by decide +kernel
theorem dJ9_abs_0f7a4_10 : decode cJ9_abs_0f7a4 10 = .ok (.ireturn, 1) := by decide +kernel
theorem dJ9_max_7cf53_0 : decode cJ9_max_7cf53 0 = .ok (.iload_n 0, 1) := by decide +kernel
theorem dJ9_max_7cf53_1 : decode cJ9_max_7cf53 1 = .ok (.iload_n 1, 1) := by decide +kernel
theorem dJ9_max_7cf53_2 : decode cJ9_max_7cf53 2 = .ok (.if_icmp .lt 7, 3) := by decide +kernel
theorem dJ9_max_7cf53_5 : decode cJ9_max_7cf53 5 = .ok (.iload_n 0, 1) := by decide +kernel
theorem dJ9_max_7cf53_6 : decode cJ9_max_7cf53 6 = .ok (.goto 4, 3) := by decide +kernel
theorem dJ9_max_7cf53_9 : decode cJ9_max_7cf53 9 = .ok (.iload_n 1, 1) := by decide +kernel
theorem dJ9_max_7cf53_10 : decode cJ9_max_7cf53 10 = .ok (.ireturn, 1) := by decide +kernel
theorem dJ9_max_f86c9_0 : decode cJ9_max_f86c9 0 = .ok (.lload_n 0, 1) := by decide +kernel
theorem dJ9_max_f86c9_1 : decode cJ9_max_f86c9 1 = .ok (.lload_n 2, 1) := by decide +kernel
theorem dJ9_max_f86c9_2 : decode cJ9_max_f86c9 2 = .ok (.lcmp, 1) := by decide +kernel
theorem dJ9_max_f86c9_3 : decode cJ9_max_f86c9 3 = .ok (.ifCond .lt 7, 3) := by decide +kernel
theorem dJ9_max_f86c9_6 : decode cJ9_max_f86c9 6 = .ok (.lload_n 0, 1) := by decide +kernel
theorem dJ9_max_f86c9_7 : decode cJ9_max_f86c9 7 = .ok (.goto 4, 3) := by decide +kernel
theorem dJ9_max_f86c9_10 : decode cJ9_max_f86c9 10 = .ok (.lload_n 2, 1) := by decide +kernel
theorem dJ9_max_f86c9_11 : decode cJ9_max_f86c9 11 = .ok (.lreturn, 1) := by decide +kernel
theorem dJ9_min_7cf53_0 : decode cJ9_min_7cf53 0 = .ok (.iload_n 0, 1) := by decide +kernel
theorem dJ9_min_7cf53_1 : decode cJ9_min_7cf53 1 = .ok (.iload_n 1, 1) := by decide +kernel
theorem dJ9_min_7cf53_2 : decode cJ9_min_7cf53 2 = .ok (.if_icmp .gt 7, 3) := by decide +kernel
theorem dJ9_min_7cf53_5 : decode cJ9_min_7cf53 5 = .ok (.iload_n 0, 1) := by decide +kernel
theorem dJ9_min_7cf53_6 : decode cJ9_min_7cf53 6 = .ok (.goto 4, 3) := by decide +kernel
theorem dJ9_min_7cf53_9 : decode cJ9_min_7cf53 9 = .ok (.iload_n 1, 1) := by decide +kernel
theorem dJ9_min_7cf53_10 : decode cJ9_min_7cf53 10 = .ok (.ireturn, 1) := by decide +kernel
theorem dJ9_min_f86c9_0 : decode cJ9_min_f86c9 0 = .ok (.lload_n 0, 1) := by decide +kernel
theorem dJ9_min_f86c9_1 : decode cJ9_min_f86c9 1 = .ok (.lload_n 2, 1) := by decide +kernel
theorem dJ9_min_f86c9_2 : decode cJ9_min_f86c9 2 = .ok (.lcmp, 1) := by decide +kernel
theorem dJ9_min_f86c9_3 : decode cJ9_min_f86c9 3 = .ok (.ifCond .gt 7, 3) := by decide +kernel
theorem dJ9_min_f86c9_6 : decode cJ9_min_f86c9 6 = .ok (.lload_n 0, 1) := by decide +kernel
theorem dJ9_min_f86c9_7 : decode cJ9_min_f86c9 7 = .ok (.goto 4, 3) := by decide +kernel
theorem dJ9_min_f86c9_10 : decode cJ9_min_f86c9 10 = .ok (.lload_n 2, 1) := by decide +kernel
theorem dJ9_min_f86c9_11 : decode cJ9_min_f86c9 11 = .ok (.lreturn, 1) := by decide +kernel
theorem dJ7_fill_d0a16_0 : decode cJ7_fill_d0a16 0 = .ok (.iconst 0, 1) := by decide +kernel
theorem dJ7_fill_d0a16_1 : decode cJ7_fill_d0a16 1 = .ok (.istore_n 3, 1) := by decide +kernel
theorem dJ7_fill_d0a16_2 : decode cJ7_fill_d0a16 2 = .ok (.aload_n 0, 1) := by decide +kernel
theorem dJ7_fill_d0a16_3 : decode cJ7_fill_d0a16 3 = .ok (.arraylength, 1) := by decide +kernel
theorem dJ7_fill_d0a16_4 : decode cJ7_fill_d0a16 4 = .ok (.istore 4, 2) := by decide +kernel
theorem dJ7_fill_d0a16_6 : decode cJ7_fill_d0a16 6 = .ok (.iload_n 3, 1) := by decide +kernel
theorem dJ7_fill_d0a16_7 : decode cJ7_fill_d0a16 7 = .ok (.iload 4, 2) := by decide +kernel
theorem dJ7_fill_d0a16_9 : decode cJ7_fill_d0a16 9 = .ok (.if_icmp .ge 13, 3) := by decide +kernel
theorem dJ7_fill_d0a16_12 : decode cJ7_fill_d0a16 12 = .ok (.aload_n 0, 1) := by decide +kernel
theorem dJ7_fill_d0a16_13 : decode cJ7_fill_d0a16 13 = .ok (.iload_n 3, 1) := by decide +kernel
theorem dJ7_fill_d0a16_14 : decode cJ7_fill_d0a16 14 = .ok (.lload_n 1, 1) := by decide +kernel
theorem dJ7_fill_d0a16_15 : decode cJ7_fill_d0a16 15 = .ok (.lastore, 1) := by decide +kernel
theorem dJ7_fill_d0a16_16 : decode cJ7_fill_d0a16 16 = .ok (.iinc 3 1, 3) := by decide +kernel
theorem dJ7_fill_d0a16_19 : decode cJ7_fill_d0a16 19 = .ok (.goto (-13), 3) := by decide +kernel
theorem dJ7_fill_d0a16_22 : decode cJ7_fill_d0a16 22 = .ok (.return_, 1) := by decide +kernel
theorem dJ7_fill_53178_0 : decode cJ7_fill_53178 0 = .ok (.iconst 0, 1) := by decide +kernel
theorem dJ7_fill_53178_1 : decode cJ7_fill_53178 1 = .ok (.istore_n 2, 1) := by decide +kernel
theorem dJ7_fill_53178_2 : decode cJ7_fill_53178 2 = .ok (.aload_n 0, 1) := by decide +kernel
theorem dJ7_fill_53178_3 : decode cJ7_fill_53178 3 = .ok (.arraylength, 1) := by decide +kernel
theorem dJ7_fill_53178_4 : decode cJ7_fill_53178 4 = .ok (.istore_n 3, 1) := by decide +kernel
theorem dJ7_fill_53178_5 : decode cJ7_fill_53178 5 = .ok (.iload_n 2, 1) := by decide +kernel
theorem dJ7_fill_53178_6 : decode cJ7_fill_53178 6 = .ok (.iload_n 3, 1) := by decide +kernel
theorem dJ7_fill_53178_7 : decode cJ7_fill_53178 7 = .ok (.if_icmp .ge 13, 3) := by decide +kernel
theorem dJ7_fill_53178_10 : decode cJ7_fill_53178 10 = .ok (.aload_n 0, 1) := by decide +kernel
theorem dJ7_fill_53178_11 : decode cJ7_fill_53178 11 = .ok (.iload_n 2, 1) := by decide +kernel
theorem dJ7_fill_53178_12 : decode cJ7_fill_53178 12 = .ok (.iload_n 1, 1) := by decide +kernel
theorem dJ7_fill_53178_13 : decode cJ7_fill_53178 13 = .ok (.iastore, 1) := by decide +kernel
theorem dJ7_fill_53178_14 : decode cJ7_fill_53178 14 = .ok (.iinc 2 1, 3) := by decide +kernel
theorem dJ7_fill_53178_17 : decode cJ7_fill_53178 17 = .ok (.goto (-12), 3) := by decide +kernel
theorem dJ7_fill_53178_20 : decode cJ7_fill_53178 20 = .ok (.return_, 1) := by decide +kernel
theorem dL_law_0 : decode cL_law 0 = .ok (.new 7, 3) := by decide +kernel
theorem dL_law_3 : decode cL_law 3 = .ok (.dup, 1) := by decide +kernel
theorem dL_law_4 : decode cL_law 4 = .ok (.invokespecial 9, 3) := by decide +kernel
theorem dL_law_7 : decode cL_law 7 = .ok (.astore_n 1, 1) := by decide +kernel
theorem dL_law_8 : decode cL_law 8 = .ok (.new 10, 3) := by decide +kernel
theorem dL_law_11 : decode cL_law 11 = .ok (.dup, 1) := by decide +kernel
theorem dL_law_12 : decode cL_law 12 = .ok (.invokespecial 12, 3) := by decide +kernel
theorem dL_law_15 : decode cL_law 15 = .ok (.astore_n 2, 1) := by decide +kernel
theorem dL_law_16 : decode cL_law 16 = .ok (.iconst 0, 1) := by decide +kernel
theorem dL_law_17 : decode cL_law 17 = .ok (.istore_n 3, 1) := by decide +kernel
theorem dL_law_18 : decode cL_law 18 = .ok (.iload_n 3, 1) := by decide +kernel
theorem dL_law_19 : decode cL_law 19 = .ok (.aload_n 0, 1) := by decide +kernel
theorem dL_law_20 : decode cL_law 20 = .ok (.arraylength, 1) := by decide +kernel
theorem dL_law_21 : decode cL_law 21 = .ok (.bipush 8, 2) := by decide +kernel
theorem dL_law_23 : decode cL_law 23 = .ok (.isub, 1) := by decide +kernel
theorem dL_law_24 : decode cL_law 24 = .ok (.if_icmp .gt 1795, 3) := by decide +kernel
theorem dL_law_27 : decode cL_law 27 = .ok (.aload_n 0, 1) := by decide +kernel
theorem dL_law_28 : decode cL_law 28 = .ok (.iload_n 3, 1) := by decide +kernel
theorem dL_law_29 : decode cL_law 29 = .ok (.iaload, 1) := by decide +kernel
theorem dL_law_30 : decode cL_law 30 = .ok (.bipush 63, 2) := by decide +kernel
theorem dL_law_32 : decode cL_law 32 = .ok (.iand, 1) := by decide +kernel
theorem dL_law_33 : decode cL_law 33 = .ok (.tableswitch 1780 0 44 #[195, 228, 261, 284, 307, 415, 458, 491, 554, 597, 630, 663, 697, 740, 783, 826, 869, 892, 935, 958, 981, 1024, 1067, 1100, 1134, 1157, 1190, 1213, 1256, 1279, 1322, 1355, 1418, 1461, 1484, 1527, 1550, 1593, 1606, 1639, 1673, 1697, 1720, 1743, 1766], 195) := by decide +kernel
theorem dL_law_228 : decode cL_law 228 = .ok (.aload_n 1, 1) := by decide +kernel
theorem dL_law_229 : decode cL_law 229 = .ok (.aload_n 0, 1) := by decide +kernel
theorem dL_law_230 : decode cL_law 230 = .ok (.iload_n 3, 1) := by decide +kernel
theorem dL_law_231 : decode cL_law 231 = .ok (.iconst 1, 1) := by decide +kernel
theorem dL_law_232 : decode cL_law 232 = .ok (.iadd, 1) := by decide +kernel
theorem dL_law_233 : decode cL_law 233 = .ok (.iaload, 1) := by decide +kernel
theorem dL_law_234 : decode cL_law 234 = .ok (.aload_n 0, 1) := by decide +kernel
theorem dL_law_235 : decode cL_law 235 = .ok (.iload_n 3, 1) := by decide +kernel
theorem dL_law_236 : decode cL_law 236 = .ok (.iconst 2, 1) := by decide +kernel
theorem dL_law_237 : decode cL_law 237 = .ok (.iadd, 1) := by decide +kernel
theorem dL_law_238 : decode cL_law 238 = .ok (.iaload, 1) := by decide +kernel
theorem dL_law_239 : decode cL_law 239 = .ok (.invokevirtual 13, 3) := by decide +kernel
theorem dL_law_242 : decode cL_law 242 = .ok (.aload_n 2, 1) := by decide +kernel
theorem dL_law_243 : decode cL_law 243 = .ok (.aload_n 0, 1) := by decide +kernel
theorem dL_law_244 : decode cL_law 244 = .ok (.iload_n 3, 1) := by decide +kernel
theorem dL_law_245 : decode cL_law 245 = .ok (.iconst 1, 1) := by decide +kernel
theorem dL_law_246 : decode cL_law 246 = .ok (.iadd, 1) := by decide +kernel
theorem dL_law_247 : decode cL_law 247 = .ok (.iaload, 1) := by decide +kernel
theorem dL_law_248 : decode cL_law 248 = .ok (.aload_n 0, 1) := by decide +kernel
theorem dL_law_249 : decode cL_law 249 = .ok (.iload_n 3, 1) := by decide +kernel
theorem dL_law_250 : decode cL_law 250 = .ok (.iconst 2, 1) := by decide +kernel
theorem dL_law_251 : decode cL_law 251 = .ok (.iadd, 1) := by decide +kernel
theorem dL_law_252 : decode cL_law 252 = .ok (.iaload, 1) := by decide +kernel
theorem dL_law_253 : decode cL_law 253 = .ok (.invokevirtual 17, 3) := by decide +kernel
theorem dL_law_256 : decode cL_law 256 = .ok (.if_icmp .eq 1557, 3) := by decide +kernel
theorem dL_law_259 : decode cL_law 259 = .ok (.iconst 0, 1) := by decide +kernel
theorem dL_law_260 : decode cL_law 260 = .ok (.ireturn, 1) := by decide +kernel
theorem dL_law_261 : decode cL_law 261 = .ok (.aload_n 1, 1) := by decide +kernel
theorem dL_law_262 : decode cL_law 262 = .ok (.aload_n 0, 1) := by decide +kernel
theorem dL_law_263 : decode cL_law 263 = .ok (.iload_n 3, 1) := by decide +kernel
theorem dL_law_264 : decode cL_law 264 = .ok (.iconst 1, 1) := by decide +kernel
theorem dL_law_265 : decode cL_law 265 = .ok (.iadd, 1) := by decide +kernel
theorem dL_law_266 : decode cL_law 266 = .ok (.iaload, 1) := by decide +kernel
theorem dL_law_267 : decode cL_law 267 = .ok (.aload_n 0, 1) := by decide +kernel
theorem dL_law_268 : decode cL_law 268 = .ok (.iload_n 3, 1) := by decide +kernel
theorem dL_law_269 : decode cL_law 269 = .ok (.iconst 2, 1) := by decide +kernel
theorem dL_law_270 : decode cL_law 270 = .ok (.iadd, 1) := by decide +kernel
theorem dL_law_271 : decode cL_law 271 = .ok (.iaload, 1) := by decide +kernel
theorem dL_law_272 : decode cL_law 272 = .ok (.invokevirtual 18, 3) := by decide +kernel
theorem dL_law_275 : decode cL_law 275 = .ok (.aload_n 2, 1) := by decide +kernel
theorem dL_law_276 : decode cL_law 276 = .ok (.aload_n 0, 1) := by decide +kernel
theorem dL_law_277 : decode cL_law 277 = .ok (.iload_n 3, 1) := by decide +kernel
theorem dL_law_278 : decode cL_law 278 = .ok (.iconst 1, 1) := by decide +kernel
theorem dL_law_279 : decode cL_law 279 = .ok (.iadd, 1) := by decide +kernel
theorem dL_law_280 : decode cL_law 280 = .ok (.iaload, 1) := by decide +kernel
theorem dL_law_281 : decode cL_law 281 = .ok (.aload_n 0, 1) := by decide +kernel
theorem dL_law_282 : decode cL_law 282 = .ok (.iload_n 3, 1) := by decide +kernel
theorem dL_law_283 : decode cL_law 283 = .ok (.iconst 2, 1) := by decide +kernel
theorem dL_law_284 : decode cL_law 284 = .ok (.iadd, 1) := by decide +kernel
theorem dL_law_285 : decode cL_law 285 = .ok (.iaload, 1) := by decide +kernel
theorem dL_law_286 : decode cL_law 286 = .ok (.invokevirtual 21, 3) := by decide +kernel
theorem dL_law_289 : decode cL_law 289 = .ok (.if_icmp .eq 1524, 3) := by decide +kernel
theorem dL_law_292 : decode cL_law 292 = .ok (.iconst 0, 1) := by decide +kernel
theorem dL_law_293 : decode cL_law 293 = .ok (.ireturn, 1) := by decide +kernel
theorem dL_law_294 : decode cL_law 294 = .ok (.aload_n 1, 1) := by decide +kernel
theorem dL_law_295 : decode cL_law 295 = .ok (.aload_n 0, 1) := by decide +kernel
theorem dL_law_296 : decode cL_law 296 = .ok (.iload_n 3, 1) := by decide +kernel
theorem dL_law_297 : decode cL_law 297 = .ok (.iconst 1, 1) := by decide +kernel
theorem dL_law_298 : decode cL_law 298 = .ok (.iadd, 1) := by decide +kernel
theorem dL_law_299 : decode cL_law 299 = .ok (.iaload, 1) := by decide +kernel
theorem dL_law_300 : decode cL_law 300 = .ok (.invokevirtual 22, 3) := by decide +kernel
theorem dL_law_303 : decode cL_law 303 = .ok (.aload_n 2, 1) := by decide +kernel
theorem dL_law_304 : decode cL_law 304 = .ok (.aload_n 0, 1) := by decide +kernel
theorem dL_law_305 : decode cL_law 305 = .ok (.iload_n 3, 1) := by decide +kernel
theorem dL_law_306 : decode cL_law 306 = .ok (.iconst 1, 1) := by decide +kernel
theorem dL_law_307 : decode cL_law 307 = .ok (.iadd, 1) := by decide +kernel
theorem dL_law_308 : decode cL_law 308 = .ok (.iaload, 1) := by decide +kernel
theorem dL_law_309 : decode cL_law 309 = .ok (.invokevirtual 26, 3) := by decide +kernel
theorem dL_law_312 : decode cL_law 312 = .ok (.if_icmp .eq 1501, 3) := by decide +kernel
theorem dL_law_315 : decode cL_law 315 = .ok (.iconst 0, 1) := by decide +kernel
theorem dL_law_316 : decode cL_law 316 = .ok (.ireturn, 1) := by decide +kernel
theorem dL_law_317 : decode cL_law 317 = .ok (.aload_n 1, 1) := by decide +kernel
theorem dL_law_318 : decode cL_law 318 = .ok (.aload_n 0, 1) := by decide +kernel
theorem dL_law_319 : decode cL_law 319 = .ok (.iload_n 3, 1) := by decide +kernel
theorem dL_law_320 : decode cL_law 320 = .ok (.iconst 1, 1) := by decide +kernel
theorem dL_law_321 : decode cL_law 321 = .ok (.iadd, 1) := by decide +kernel
theorem dL_law_322 : decode cL_law 322 = .ok (.iaload, 1) := by decide +kernel
theorem dL_law_323 : decode cL_law 323 = .ok (.invokevirtual 27, 3) := by decide +kernel
theorem dL_law_326 : decode cL_law 326 = .ok (.aload_n 2, 1) := by decide +kernel
theorem dL_law_327 : decode cL_law 327 = .ok (.aload_n 0, 1) := by decide +kernel
theorem dL_law_328 : decode cL_law 328 = .ok (.iload_n 3, 1) := by decide +kernel
theorem dL_law_329 : decode cL_law 329 = .ok (.iconst 1, 1) := by decide +kernel
theorem dL_law_330 : decode cL_law 330 = .ok (.iadd, 1) := by decide +kernel
theorem dL_law_331 : decode cL_law 331 = .ok (.iaload, 1) := by decide +kernel
theorem dL_law_332 : decode cL_law 332 = .ok (.invokevirtual 30, 3) := by decide +kernel
theorem dL_law_335 : decode cL_law 335 = .ok (.if_icmp .eq 1478, 3) := by decide +kernel
theorem dL_law_338 : decode cL_law 338 = .ok (.iconst 0, 1) := by decide +kernel
theorem dL_law_339 : decode cL_law 339 = .ok (.ireturn, 1) := by decide +kernel
theorem dL_law_340 : decode cL_law 340 = .ok (.aload_n 1, 1) := by decide +kernel
theorem dL_law_341 : decode cL_law 341 = .ok (.aload_n 0, 1) := by decide +kernel
theorem dL_law_342 : decode cL_law 342 = .ok (.iload_n 3, 1) := by decide +kernel
theorem dL_law_343 : decode cL_law 343 = .ok (.iconst 1, 1) := by decide +kernel
theorem dL_law_344 : decode cL_law 344 = .ok (.iadd, 1) := by decide +kernel
theorem dL_law_345 : decode cL_law 345 = .ok (.iaload, 1) := by decide +kernel
theorem dL_law_346 : decode cL_law 346 = .ok (.aload_n 0, 1) := by decide +kernel
theorem dL_law_347 : decode cL_law 347 = .ok (.iload_n 3, 1) := by decide +kernel
theorem dL_law_348 : decode cL_law 348 = .ok (.iconst 2, 1) := by decide +kernel
theorem dL_law_349 : decode cL_law 349 = .ok (.iadd, 1) := by decide +kernel
theorem dL_law_350 : decode cL_law 350 = .ok (.iaload, 1) := by decide +kernel
theorem dL_law_351 : decode cL_law 351 = .ok (.aload_n 0, 1) := by decide +kernel
theorem dL_law_352 : decode cL_law 352 = .ok (.iload_n 3, 1) := by decide +kernel
theorem dL_law_353 : decode cL_law 353 = .ok (.iconst 3, 1) := by decide +kernel
theorem dL_law_354 : decode cL_law 354 = .ok (.iadd, 1) := by decide +kernel
theorem dL_law_355 : decode cL_law 355 = .ok (.iaload, 1) := by decide +kernel
theorem dL_law_356 : decode cL_law 356 = .ok (.aload_n 0, 1) := by decide +kernel
theorem dL_law_357 : decode cL_law 357 = .ok (.iload_n 3, 1) := by decide +kernel
theorem dL_law_358 : decode cL_law 358 = .ok (.iconst 4, 1) := by decide +kernel
theorem dL_law_359 : decode cL_law 359 = .ok (.iadd, 1) := by decide +kernel
theorem dL_law_360 : decode cL_law 360 = .ok (.iaload, 1) := by decide +kernel
theorem dL_law_361 : decode cL_law 361 = .ok (.aload_n 0, 1) := by decide +kernel
theorem dL_law_362 : decode cL_law 362 = .ok (.iload_n 3, 1) := by decide +kernel
theorem dL_law_363 : decode cL_law 363 = .ok (.iconst 5, 1) := by decide +kernel
theorem dL_law_364 : decode cL_law 364 = .ok (.iadd, 1) := by decide +kernel
theorem dL_law_365 : decode cL_law 365 = .ok (.iaload, 1) := by decide +kernel
theorem dL_law_366 : decode cL_law 366 = .ok (.aload_n 0, 1) := by decide +kernel
theorem dL_law_367 : decode cL_law 367 = .ok (.iload_n 3, 1) := by decide +kernel
theorem dL_law_368 : decode cL_law 368 = .ok (.bipush 6, 2) := by decide +kernel
theorem dL_law_370 : decode cL_law 370 = .ok (.iadd, 1) := by decide +kernel
theorem dL_law_371 : decode cL_law 371 = .ok (.iaload, 1) := by decide +kernel
theorem dL_law_372 : decode cL_law 372 = .ok (.i2l, 1) := by decide +kernel
theorem dL_law_373 : decode cL_law 373 = .ok (.bipush 32, 2) := by decide +kernel
theorem dL_law_375 : decode cL_law 375 = .ok (.lshl, 1) := by decide +kernel
theorem dL_law_376 : decode cL_law 376 = .ok (.aload_n 0, 1) := by decide +kernel
theorem dL_law_377 : decode cL_law 377 = .ok (.iload_n 3, 1) := by decide +kernel
theorem dL_law_378 : decode cL_law 378 = .ok (.bipush 7, 2) := by decide +kernel
theorem dL_law_380 : decode cL_law 380 = .ok (.iadd, 1) := by decide +kernel
theorem dL_law_381 : decode cL_law 381 = .ok (.iaload, 1) := by decide +kernel
theorem dL_law_382 : decode cL_law 382 = .ok (.i2l, 1) := by decide +kernel
theorem dL_law_383 : decode cL_law 383 = .ok (.ldc2_w 31, 3) := by decide +kernel
theorem dL_law_386 : decode cL_law 386 = .ok (.land, 1) := by decide +kernel
theorem dL_law_387 : decode cL_law 387 = .ok (.lor, 1) := by decide +kernel
theorem dL_law_388 : decode cL_law 388 = .ok (.invokevirtual 33, 3) := by decide +kernel
theorem dL_law_391 : decode cL_law 391 = .ok (.aload_n 2, 1) := by decide +kernel
theorem dL_law_392 : decode cL_law 392 = .ok (.aload_n 0, 1) := by decide +kernel
theorem dL_law_393 : decode cL_law 393 = .ok (.iload_n 3, 1) := by decide +kernel
theorem dL_law_394 : decode cL_law 394 = .ok (.iconst 1, 1) := by decide +kernel
theorem dL_law_395 : decode cL_law 395 = .ok (.iadd, 1) := by decide +kernel
theorem dL_law_396 : decode cL_law 396 = .ok (.iaload, 1) := by decide +kernel
theorem dL_law_397 : decode cL_law 397 = .ok (.aload_n 0, 1) := by decide +kernel
theorem dL_law_398 : decode cL_law 398 = .ok (.iload_n 3, 1) := by decide +kernel
theorem dL_law_399 : decode cL_law 399 = .ok (.iconst 2, 1) := by decide +kernel
theorem dL_law_400 : decode cL_law 400 = .ok (.iadd, 1) := by decide +kernel
theorem dL_law_401 : decode cL_law 401 = .ok (.iaload, 1) := by decide +kernel
theorem dL_law_402 : decode cL_law 402 = .ok (.aload_n 0, 1) := by decide +kernel
theorem dL_law_403 : decode cL_law 403 = .ok (.iload_n 3, 1) := by decide +kernel
theorem dL_law_404 : decode cL_law 404 = .ok (.iconst 3, 1) := by decide +kernel
theorem dL_law_405 : decode cL_law 405 = .ok (.iadd, 1) := by decide +kernel
theorem dL_law_406 : decode cL_law 406 = .ok (.iaload, 1) := by decide +kernel
theorem dL_law_407 : decode cL_law 407 = .ok (.aload_n 0, 1) := by decide +kernel
theorem dL_law_408 : decode cL_law 408 = .ok (.iload_n 3, 1) := by decide +kernel
theorem dL_law_409 : decode cL_law 409 = .ok (.iconst 4, 1) := by decide +kernel
theorem dL_law_410 : decode cL_law 410 = .ok (.iadd, 1) := by decide +kernel
theorem dL_law_411 : decode cL_law 411 = .ok (.iaload, 1) := by decide +kernel
theorem dL_law_412 : decode cL_law 412 = .ok (.aload_n 0, 1) := by decide +kernel
theorem dL_law_413 : decode cL_law 413 = .ok (.iload_n 3, 1) := by decide +kernel
theorem dL_law_414 : decode cL_law 414 = .ok (.iconst 5, 1) := by decide +kernel
theorem dL_law_415 : decode cL_law 415 = .ok (.iadd, 1) := by decide +kernel
theorem dL_law_416 : decode cL_law 416 = .ok (.iaload, 1) := by decide +kernel
theorem dL_law_417 : decode cL_law 417 = .ok (.aload_n 0, 1) := by decide +kernel
theorem dL_law_418 : decode cL_law 418 = .ok (.iload_n 3, 1) := by decide +kernel
theorem dL_law_419 : decode cL_law 419 = .ok (.bipush 6, 2) := by decide +kernel
theorem dL_law_421 : decode cL_law 421 = .ok (.iadd, 1) := by decide +kernel
theorem dL_law_422 : decode cL_law 422 = .ok (.iaload, 1) := by decide +kernel
theorem dL_law_423 : decode cL_law 423 = .ok (.i2l, 1) := by decide +kernel
theorem dL_law_424 : decode cL_law 424 = .ok (.bipush 32, 2) := by decide +kernel
theorem dL_law_426 : decode cL_law 426 = .ok (.lshl, 1) := by decide +kernel
theorem dL_law_427 : decode cL_law 427 = .ok (.aload_n 0, 1) := by decide +kernel
theorem dL_law_428 : decode cL_law 428 = .ok (.iload_n 3, 1) := by decide +kernel
theorem dL_law_429 : decode cL_law 429 = .ok (.bipush 7, 2) := by decide +kernel
theorem dL_law_431 : decode cL_law 431 = .ok (.iadd, 1) := by decide +kernel
theorem dL_law_432 : decode cL_law 432 = .ok (.iaload, 1) := by decide +kernel
theorem dL_law_433 : decode cL_law 433 = .ok (.i2l, 1) := by decide +kernel
theorem dL_law_434 : decode cL_law 434 = .ok (.ldc2_w 31, 3) := by decide +kernel
theorem dL_law_437 : decode cL_law 437 = .ok (.land, 1) := by decide +kernel
theorem dL_law_438 : decode cL_law 438 = .ok (.lor, 1) := by decide +kernel
theorem dL_law_439 : decode cL_law 439 = .ok (.invokevirtual 37, 3) := by decide +kernel
theorem dL_law_442 : decode cL_law 442 = .ok (.lcmp, 1) := by decide +kernel
theorem dL_law_443 : decode cL_law 443 = .ok (.ifCond .eq 1370, 3) := by decide +kernel
theorem dL_law_446 : decode cL_law 446 = .ok (.iconst 0, 1) := by decide +kernel
theorem dL_law_447 : decode cL_law 447 = .ok (.ireturn, 1) := by decide +kernel
theorem dL_law_448 : decode cL_law 448 = .ok (.aload_n 1, 1) := by decide +kernel
theorem dL_law_449 : decode cL_law 449 = .ok (.aload_n 0, 1) := by decide +kernel
theorem dL_law_450 : decode cL_law 450 = .ok (.iload_n 3, 1) := by decide +kernel
theorem dL_law_451 : decode cL_law 451 = .ok (.iconst 1, 1) := by decide +kernel
theorem dL_law_452 : decode cL_law 452 = .ok (.iadd, 1) := by decide +kernel
theorem dL_law_453 : decode cL_law 453 = .ok (.iaload, 1) := by decide +kernel
theorem dL_law_454 : decode cL_law 454 = .ok (.aload_n 0, 1) := by decide +kernel
theorem dL_law_455 : decode cL_law 455 = .ok (.iload_n 3, 1) := by decide +kernel
theorem dL_law_456 : decode cL_law 456 = .ok (.iconst 2, 1) := by decide +kernel
theorem dL_law_457 : decode cL_law 457 = .ok (.iadd, 1) := by decide +kernel
theorem dL_law_458 : decode cL_law 458 = .ok (.iaload, 1) := by decide +kernel
theorem dL_law_459 : decode cL_law 459 = .ok (.aload_n 0, 1) := by decide +kernel
theorem dL_law_460 : decode cL_law 460 = .ok (.iload_n 3, 1) := by decide +kernel
theorem dL_law_461 : decode cL_law 461 = .ok (.iconst 3, 1) := by decide +kernel
theorem dL_law_462 : decode cL_law 462 = .ok (.iadd, 1) := by decide +kernel
theorem dL_law_463 : decode cL_law 463 = .ok (.iaload, 1) := by decide +kernel
theorem dL_law_464 : decode cL_law 464 = .ok (.invokevirtual 38, 3) := by decide +kernel
theorem dL_law_467 : decode cL_law 467 = .ok (.aload_n 2, 1) := by decide +kernel
theorem dL_law_468 : decode cL_law 468 = .ok (.aload_n 0, 1) := by decide +kernel
theorem dL_law_469 : decode cL_law 469 = .ok (.iload_n 3, 1) := by decide +kernel
theorem dL_law_470 : decode cL_law 470 = .ok (.iconst 1, 1) := by decide +kernel
theorem dL_law_471 : decode cL_law 471 = .ok (.iadd, 1) := by decide +kernel
theorem dL_law_472 : decode cL_law 472 = .ok (.iaload, 1) := by decide +kernel
theorem dL_law_473 : decode cL_law 473 = .ok (.aload_n 0, 1) := by decide +kernel
theorem dL_law_474 : decode cL_law 474 = .ok (.iload_n 3, 1) := by decide +kernel
theorem dL_law_475 : decode cL_law 475 = .ok (.iconst 2, 1) := by decide +kernel
theorem dL_law_476 : decode cL_law 476 = .ok (.iadd, 1) := by decide +kernel
theorem dL_law_477 : decode cL_law 477 = .ok (.iaload, 1) := by decide +kernel
theorem dL_law_478 : decode cL_law 478 = .ok (.aload_n 0, 1) := by decide +kernel
theorem dL_law_479 : decode cL_law 479 = .ok (.iload_n 3, 1) := by decide +kernel
theorem dL_law_480 : decode cL_law 480 = .ok (.iconst 3, 1) := by decide +kernel
theorem dL_law_481 : decode cL_law 481 = .ok (.iadd, 1) := by decide +kernel
theorem dL_law_482 : decode cL_law 482 = .ok (.iaload, 1) := by decide +kernel
theorem dL_law_483 : decode cL_law 483 = .ok (.invokevirtual 42, 3) := by decide +kernel
theorem dL_law_486 : decode cL_law 486 = .ok (.if_icmp .eq 1327, 3) := by decide +kernel
theorem dL_law_489 : decode cL_law 489 = .ok (.iconst 0, 1) := by decide +kernel
theorem dL_law_490 : decode cL_law 490 = .ok (.ireturn, 1) := by decide +kernel
theorem dL_law_491 : decode cL_law 491 = .ok (.aload_n 1, 1) := by decide +kernel
theorem dL_law_492 : decode cL_law 492 = .ok (.aload_n 0, 1) := by decide +kernel
theorem dL_law_493 : decode cL_law 493 = .ok (.iload_n 3, 1) := by decide +kernel
theorem dL_law_494 : decode cL_law 494 = .ok (.iconst 1, 1) := by decide +kernel
theorem dL_law_495 : decode cL_law 495 = .ok (.iadd, 1) := by decide +kernel
theorem dL_law_496 : decode cL_law 496 = .ok (.iaload, 1) := by decide +kernel
theorem dL_law_497 : decode cL_law 497 = .ok (.aload_n 0, 1) := by decide +kernel
theorem dL_law_498 : decode cL_law 498 = .ok (.iload_n 3, 1) := by decide +kernel
theorem dL_law_499 : decode cL_law 499 = .ok (.iconst 2, 1) := by decide +kernel
theorem dL_law_500 : decode cL_law 500 = .ok (.iadd, 1) := by decide +kernel
theorem dL_law_501 : decode cL_law 501 = .ok (.iaload, 1) := by decide +kernel
theorem dL_law_502 : decode cL_law 502 = .ok (.invokevirtual 43, 3) := by decide +kernel
theorem dL_law_505 : decode cL_law 505 = .ok (.aload_n 2, 1) := by decide +kernel
theorem dL_law_506 : decode cL_law 506 = .ok (.aload_n 0, 1) := by decide +kernel
theorem dL_law_507 : decode cL_law 507 = .ok (.iload_n 3, 1) := by decide +kernel
theorem dL_law_508 : decode cL_law 508 = .ok (.iconst 1, 1) := by decide +kernel
theorem dL_law_509 : decode cL_law 509 = .ok (.iadd, 1) := by decide +kernel
theorem dL_law_510 : decode cL_law 510 = .ok (.iaload, 1) := by decide +kernel
theorem dL_law_511 : decode cL_law 511 = .ok (.aload_n 0, 1) := by decide +kernel
theorem dL_law_512 : decode cL_law 512 = .ok (.iload_n 3, 1) := by decide +kernel
theorem dL_law_513 : decode cL_law 513 = .ok (.iconst 2, 1) := by decide +kernel
theorem dL_law_514 : decode cL_law 514 = .ok (.iadd, 1) := by decide +kernel
theorem dL_law_515 : decode cL_law 515 = .ok (.iaload, 1) := by decide +kernel
theorem dL_law_516 : decode cL_law 516 = .ok (.invokevirtual 46, 3) := by decide +kernel
theorem dL_law_519 : decode cL_law 519 = .ok (.if_icmp .eq 1294, 3) := by decide +kernel
theorem dL_law_522 : decode cL_law 522 = .ok (.iconst 0, 1) := by decide +kernel
theorem dL_law_523 : decode cL_law 523 = .ok (.ireturn, 1) := by decide +kernel
theorem dL_law_524 : decode cL_law 524 = .ok (.aload_n 1, 1) := by decide +kernel
theorem dL_law_525 : decode cL_law 525 = .ok (.aload_n 0, 1) := by decide +kernel
theorem dL_law_526 : decode cL_law 526 = .ok (.iload_n 3, 1) := by decide +kernel
theorem dL_law_527 : decode cL_law 527 = .ok (.iconst 1, 1) := by decide +kernel
theorem dL_law_528 : decode cL_law 528 = .ok (.iadd, 1) := by decide +kernel
theorem dL_law_529 : decode cL_law 529 = .ok (.iaload, 1) := by decide +kernel
theorem dL_law_530 : decode cL_law 530 = .ok (.aload_n 0, 1) := by decide +kernel
theorem dL_law_531 : decode cL_law 531 = .ok (.iload_n 3, 1) := by decide +kernel
theorem dL_law_532 : decode cL_law 532 = .ok (.iconst 2, 1) := by decide +kernel
theorem dL_law_533 : decode cL_law 533 = .ok (.iadd, 1) := by decide +kernel
theorem dL_law_534 : decode cL_law 534 = .ok (.iaload, 1) := by decide +kernel
theorem dL_law_535 : decode cL_law 535 = .ok (.aload_n 0, 1) := by decide +kernel
theorem dL_law_536 : decode cL_law 536 = .ok (.iload_n 3, 1) := by decide +kernel
theorem dL_law_537 : decode cL_law 537 = .ok (.iconst 3, 1) := by decide +kernel
theorem dL_law_538 : decode cL_law 538 = .ok (.iadd, 1) := by decide +kernel
theorem dL_law_539 : decode cL_law 539 = .ok (.iaload, 1) := by decide +kernel
theorem dL_law_540 : decode cL_law 540 = .ok (.aload_n 0, 1) := by decide +kernel
theorem dL_law_541 : decode cL_law 541 = .ok (.iload_n 3, 1) := by decide +kernel
theorem dL_law_542 : decode cL_law 542 = .ok (.iconst 4, 1) := by decide +kernel
theorem dL_law_543 : decode cL_law 543 = .ok (.iadd, 1) := by decide +kernel
theorem dL_law_544 : decode cL_law 544 = .ok (.iaload, 1) := by decide +kernel
theorem dL_law_545 : decode cL_law 545 = .ok (.aload_n 0, 1) := by decide +kernel
theorem dL_law_546 : decode cL_law 546 = .ok (.iload_n 3, 1) := by decide +kernel
theorem dL_law_547 : decode cL_law 547 = .ok (.iconst 5, 1) := by decide +kernel
theorem dL_law_548 : decode cL_law 548 = .ok (.iadd, 1) := by decide +kernel
theorem dL_law_549 : decode cL_law 549 = .ok (.iaload, 1) := by decide +kernel
theorem dL_law_550 : decode cL_law 550 = .ok (.invokevirtual 47, 3) := by decide +kernel
theorem dL_law_553 : decode cL_law 553 = .ok (.aload_n 2, 1) := by decide +kernel
theorem dL_law_554 : decode cL_law 554 = .ok (.aload_n 0, 1) := by decide +kernel
theorem dL_law_555 : decode cL_law 555 = .ok (.iload_n 3, 1) := by decide +kernel
theorem dL_law_556 : decode cL_law 556 = .ok (.iconst 1, 1) := by decide +kernel
theorem dL_law_557 : decode cL_law 557 = .ok (.iadd, 1) := by decide +kernel
theorem dL_law_558 : decode cL_law 558 = .ok (.iaload, 1) := by decide +kernel
theorem dL_law_559 : decode cL_law 559 = .ok (.aload_n 0, 1) := by decide +kernel
theorem dL_law_560 : decode cL_law 560 = .ok (.iload_n 3, 1) := by decide +kernel
theorem dL_law_561 : decode cL_law 561 = .ok (.iconst 2, 1) := by decide +kernel
theorem dL_law_562 : decode cL_law 562 = .ok (.iadd, 1) := by decide +kernel
theorem dL_law_563 : decode cL_law 563 = .ok (.iaload, 1) := by decide +kernel
theorem dL_law_564 : decode cL_law 564 = .ok (.aload_n 0, 1) := by decide +kernel
theorem dL_law_565 : decode cL_law 565 = .ok (.iload_n 3, 1) := by decide +kernel
theorem dL_law_566 : decode cL_law 566 = .ok (.iconst 3, 1) := by decide +kernel
theorem dL_law_567 : decode cL_law 567 = .ok (.iadd, 1) := by decide +kernel
theorem dL_law_568 : decode cL_law 568 = .ok (.iaload, 1) := by decide +kernel
theorem dL_law_569 : decode cL_law 569 = .ok (.aload_n 0, 1) := by decide +kernel
theorem dL_law_570 : decode cL_law 570 = .ok (.iload_n 3, 1) := by decide +kernel
theorem dL_law_571 : decode cL_law 571 = .ok (.iconst 4, 1) := by decide +kernel
theorem dL_law_572 : decode cL_law 572 = .ok (.iadd, 1) := by decide +kernel
theorem dL_law_573 : decode cL_law 573 = .ok (.iaload, 1) := by decide +kernel
theorem dL_law_574 : decode cL_law 574 = .ok (.aload_n 0, 1) := by decide +kernel
theorem dL_law_575 : decode cL_law 575 = .ok (.iload_n 3, 1) := by decide +kernel
theorem dL_law_576 : decode cL_law 576 = .ok (.iconst 5, 1) := by decide +kernel
theorem dL_law_577 : decode cL_law 577 = .ok (.iadd, 1) := by decide +kernel
theorem dL_law_578 : decode cL_law 578 = .ok (.iaload, 1) := by decide +kernel
theorem dL_law_579 : decode cL_law 579 = .ok (.invokevirtual 51, 3) := by decide +kernel
theorem dL_law_582 : decode cL_law 582 = .ok (.if_icmp .eq 1231, 3) := by decide +kernel
theorem dL_law_585 : decode cL_law 585 = .ok (.iconst 0, 1) := by decide +kernel
theorem dL_law_586 : decode cL_law 586 = .ok (.ireturn, 1) := by decide +kernel
theorem dL_law_587 : decode cL_law 587 = .ok (.aload_n 1, 1) := by decide +kernel
theorem dL_law_588 : decode cL_law 588 = .ok (.aload_n 0, 1) := by decide +kernel
theorem dL_law_589 : decode cL_law 589 = .ok (.iload_n 3, 1) := by decide +kernel
theorem dL_law_590 : decode cL_law 590 = .ok (.iconst 1, 1) := by decide +kernel
theorem dL_law_591 : decode cL_law 591 = .ok (.iadd, 1) := by decide +kernel
theorem dL_law_592 : decode cL_law 592 = .ok (.iaload, 1) := by decide +kernel
theorem dL_law_593 : decode cL_law 593 = .ok (.aload_n 0, 1) := by decide +kernel
theorem dL_law_594 : decode cL_law 594 = .ok (.iload_n 3, 1) := by decide +kernel
theorem dL_law_595 : decode cL_law 595 = .ok (.iconst 2, 1) := by decide +kernel
theorem dL_law_596 : decode cL_law 596 = .ok (.iadd, 1) := by decide +kernel
theorem dL_law_597 : decode cL_law 597 = .ok (.iaload, 1) := by decide +kernel
theorem dL_law_598 : decode cL_law 598 = .ok (.aload_n 0, 1) := by decide +kernel
theorem dL_law_599 : decode cL_law 599 = .ok (.iload_n 3, 1) := by decide +kernel
theorem dL_law_600 : decode cL_law 600 = .ok (.iconst 3, 1) := by decide +kernel
theorem dL_law_601 : decode cL_law 601 = .ok (.iadd, 1) := by decide +kernel
theorem dL_law_602 : decode cL_law 602 = .ok (.iaload, 1) := by decide +kernel
theorem dL_law_603 : decode cL_law 603 = .ok (.invokevirtual 52, 3) := by decide +kernel
theorem dL_law_606 : decode cL_law 606 = .ok (.aload_n 2, 1) := by decide +kernel
theorem dL_law_607 : decode cL_law 607 = .ok (.aload_n 0, 1) := by decide +kernel
theorem dL_law_608 : decode cL_law 608 = .ok (.iload_n 3, 1) := by decide +kernel
theorem dL_law_609 : decode cL_law 609 = .ok (.iconst 1, 1) := by decide +kernel
theorem dL_law_610 : decode cL_law 610 = .ok (.iadd, 1) := by decide +kernel
theorem dL_law_611 : decode cL_law 611 = .ok (.iaload, 1) := by decide +kernel
theorem dL_law_612 : decode cL_law 612 = .ok (.aload_n 0, 1) := by decide +kernel
theorem dL_law_613 : decode cL_law 613 = .ok (.iload_n 3, 1) := by decide +kernel
theorem dL_law_614 : decode cL_law 614 = .ok (.iconst 2, 1) := by decide +kernel
theorem dL_law_615 : decode cL_law 615 = .ok (.iadd, 1) := by decide +kernel
theorem dL_law_616 : decode cL_law 616 = .ok (.iaload, 1) := by decide +kernel
theorem dL_law_617 : decode cL_law 617 = .ok (.aload_n 0, 1) := by decide +kernel
theorem dL_law_618 : decode cL_law 618 = .ok (.iload_n 3, 1) := by decide +kernel
theorem dL_law_619 : decode cL_law 619 = .ok (.iconst 3, 1) := by decide +kernel
theorem dL_law_620 : decode cL_law 620 = .ok (.iadd, 1) := by decide +kernel
theorem dL_law_621 : decode cL_law 621 = .ok (.iaload, 1) := by decide +kernel
theorem dL_law_622 : decode cL_law 622 = .ok (.invokevirtual 55, 3) := by decide +kernel
theorem dL_law_625 : decode cL_law 625 = .ok (.if_icmp .eq 1188, 3) := by decide +kernel
theorem dL_law_628 : decode cL_law 628 = .ok (.iconst 0, 1) := by decide +kernel
theorem dL_law_629 : decode cL_law 629 = .ok (.ireturn, 1) := by decide +kernel
theorem dL_law_630 : decode cL_law 630 = .ok (.aload_n 1, 1) := by decide +kernel
theorem dL_law_631 : decode cL_law 631 = .ok (.aload_n 0, 1) := by decide +kernel
theorem dL_law_632 : decode cL_law 632 = .ok (.iload_n 3, 1) := by decide +kernel
theorem dL_law_633 : decode cL_law 633 = .ok (.iconst 1, 1) := by decide +kernel
theorem dL_law_634 : decode cL_law 634 = .ok (.iadd, 1) := by decide +kernel
theorem dL_law_635 : decode cL_law 635 = .ok (.iaload, 1) := by decide +kernel
theorem dL_law_636 : decode cL_law 636 = .ok (.aload_n 0, 1) := by decide +kernel
theorem dL_law_637 : decode cL_law 637 = .ok (.iload_n 3, 1) := by decide +kernel
theorem dL_law_638 : decode cL_law 638 = .ok (.iconst 2, 1) := by decide +kernel
theorem dL_law_639 : decode cL_law 639 = .ok (.iadd, 1) := by decide +kernel
theorem dL_law_640 : decode cL_law 640 = .ok (.iaload, 1) := by decide +kernel
theorem dL_law_641 : decode cL_law 641 = .ok (.invokevirtual 56, 3) := by decide +kernel
theorem dL_law_644 : decode cL_law 644 = .ok (.aload_n 2, 1) := by decide +kernel
theorem dL_law_645 : decode cL_law 645 = .ok (.aload_n 0, 1) := by decide +kernel
theorem dL_law_646 : decode cL_law 646 = .ok (.iload_n 3, 1) := by decide +kernel
theorem dL_law_647 : decode cL_law 647 = .ok (.iconst 1, 1) := by decide +kernel
theorem dL_law_648 : decode cL_law 648 = .ok (.iadd, 1) := by decide +kernel
theorem dL_law_649 : decode cL_law 649 = .ok (.iaload, 1) := by decide +kernel
theorem dL_law_650 : decode cL_law 650 = .ok (.aload_n 0, 1) := by decide +kernel
theorem dL_law_651 : decode cL_law 651 = .ok (.iload_n 3, 1) := by decide +kernel
theorem dL_law_652 : decode cL_law 652 = .ok (.iconst 2, 1) := by decide +kernel
theorem dL_law_653 : decode cL_law 653 = .ok (.iadd, 1) := by decide +kernel
theorem dL_law_654 : decode cL_law 654 = .ok (.iaload, 1) := by decide +kernel
theorem dL_law_655 : decode cL_law 655 = .ok (.invokevirtual 59, 3) := by decide +kernel
theorem dL_law_658 : decode cL_law 658 = .ok (.if_icmp .eq 1155, 3) := by decide +kernel
theorem dL_law_661 : decode cL_law 661 = .ok (.iconst 0, 1) := by decide +kernel
theorem dL_law_662 : decode cL_law 662 = .ok (.ireturn, 1) := by decide +kernel
theorem dL_law_663 : decode cL_law 663 = .ok (.aload_n 1, 1) := by decide +kernel
theorem dL_law_664 : decode cL_law 664 = .ok (.aload_n 0, 1) := by decide +kernel
theorem dL_law_665 : decode cL_law 665 = .ok (.iload_n 3, 1) := by decide +kernel
theorem dL_law_666 : decode cL_law 666 = .ok (.iconst 1, 1) := by decide +kernel
theorem dL_law_667 : decode cL_law 667 = .ok (.iadd, 1) := by decide +kernel
theorem dL_law_668 : decode cL_law 668 = .ok (.iaload, 1) := by decide +kernel
theorem dL_law_669 : decode cL_law 669 = .ok (.aload_n 0, 1) := by decide +kernel
theorem dL_law_670 : decode cL_law 670 = .ok (.iload_n 3, 1) := by decide +kernel
theorem dL_law_671 : decode cL_law 671 = .ok (.iconst 2, 1) := by decide +kernel
theorem dL_law_672 : decode cL_law 672 = .ok (.iadd, 1) := by decide +kernel
theorem dL_law_673 : decode cL_law 673 = .ok (.iaload, 1) := by decide +kernel
theorem dL_law_674 : decode cL_law 674 = .ok (.invokevirtual 60, 3) := by decide +kernel
theorem dL_law_677 : decode cL_law 677 = .ok (.aload_n 2, 1) := by decide +kernel
theorem dL_law_678 : decode cL_law 678 = .ok (.aload_n 0, 1) := by decide +kernel
theorem dL_law_679 : decode cL_law 679 = .ok (.iload_n 3, 1) := by decide +kernel
theorem dL_law_680 : decode cL_law 680 = .ok (.iconst 1, 1) := by decide +kernel
theorem dL_law_681 : decode cL_law 681 = .ok (.iadd, 1) := by decide +kernel
theorem dL_law_682 : decode cL_law 682 = .ok (.iaload, 1) := by decide +kernel
theorem dL_law_683 : decode cL_law 683 = .ok (.aload_n 0, 1) := by decide +kernel
theorem dL_law_684 : decode cL_law 684 = .ok (.iload_n 3, 1) := by decide +kernel
theorem dL_law_685 : decode cL_law 685 = .ok (.iconst 2, 1) := by decide +kernel
theorem dL_law_686 : decode cL_law 686 = .ok (.iadd, 1) := by decide +kernel
theorem dL_law_687 : decode cL_law 687 = .ok (.iaload, 1) := by decide +kernel
theorem dL_law_688 : decode cL_law 688 = .ok (.invokevirtual 63, 3) := by decide +kernel
theorem dL_law_691 : decode cL_law 691 = .ok (.if_icmp .eq 1122, 3) := by decide +kernel
theorem dL_law_694 : decode cL_law 694 = .ok (.iconst 0, 1) := by decide +kernel
theorem dL_law_695 : decode cL_law 695 = .ok (.ireturn, 1) := by decide +kernel
theorem dL_law_696 : decode cL_law 696 = .ok (.aload_n 1, 1) := by decide +kernel
theorem dL_law_697 : decode cL_law 697 = .ok (.aload_n 0, 1) := by decide +kernel
theorem dL_law_698 : decode cL_law 698 = .ok (.iload_n 3, 1) := by decide +kernel
theorem dL_law_699 : decode cL_law 699 = .ok (.iconst 1, 1) := by decide +kernel
theorem dL_law_700 : decode cL_law 700 = .ok (.iadd, 1) := by decide +kernel
theorem dL_law_701 : decode cL_law 701 = .ok (.iaload, 1) := by decide +kernel
theorem dL_law_702 : decode cL_law 702 = .ok (.aload_n 0, 1) := by decide +kernel
theorem dL_law_703 : decode cL_law 703 = .ok (.iload_n 3, 1) := by decide +kernel
theorem dL_law_704 : decode cL_law 704 = .ok (.iconst 2, 1) := by decide +kernel
theorem dL_law_705 : decode cL_law 705 = .ok (.iadd, 1) := by decide +kernel
theorem dL_law_706 : decode cL_law 706 = .ok (.iaload, 1) := by decide +kernel
theorem dL_law_707 : decode cL_law 707 = .ok (.invokevirtual 64, 3) := by decide +kernel
theorem dL_law_710 : decode cL_law 710 = .ok (.aload_n 2, 1) := by decide +kernel
theorem dL_law_711 : decode cL_law 711 = .ok (.aload_n 0, 1) := by decide +kernel
theorem dL_law_712 : decode cL_law 712 = .ok (.iload_n 3, 1) := by decide +kernel
theorem dL_law_713 : decode cL_law 713 = .ok (.iconst 1, 1) := by decide +kernel
theorem dL_law_714 : decode cL_law 714 = .ok (.iadd, 1) := by decide +kernel
theorem dL_law_715 : decode cL_law 715 = .ok (.iaload, 1) := by decide +kernel
theorem dL_law_716 : decode cL_law 716 = .ok (.aload_n 0, 1) := by decide +kernel
theorem dL_law_717 : decode cL_law 717 = .ok (.iload_n 3, 1) := by decide +kernel
theorem dL_law_718 : decode cL_law 718 = .ok (.iconst 2, 1) := by decide +kernel
theorem dL_law_719 : decode cL_law 719 = .ok (.iadd, 1) := by decide +kernel
theorem dL_law_720 : decode cL_law 720 = .ok (.iaload, 1) := by decide +kernel
theorem dL_law_721 : decode cL_law 721 = .ok (.invokevirtual 68, 3) := by decide +kernel
theorem dL_law_724 : decode cL_law 724 = .ok (.lcmp, 1) := by decide +kernel
theorem dL_law_725 : decode cL_law 725 = .ok (.ifCond .eq 1088, 3) := by decide +kernel
theorem dL_law_728 : decode cL_law 728 = .ok (.iconst 0, 1) := by decide +kernel
theorem dL_law_729 : decode cL_law 729 = .ok (.ireturn, 1) := by decide +kernel
theorem dL_law_730 : decode cL_law 730 = .ok (.aload_n 1, 1) := by decide +kernel
theorem dL_law_731 : decode cL_law 731 = .ok (.aload_n 0, 1) := by decide +kernel
theorem dL_law_732 : decode cL_law 732 = .ok (.iload_n 3, 1) := by decide +kernel
theorem dL_law_733 : decode cL_law 733 = .ok (.iconst 1, 1) := by decide +kernel
theorem dL_law_734 : decode cL_law 734 = .ok (.iadd, 1) := by decide +kernel
theorem dL_law_735 : decode cL_law 735 = .ok (.iaload, 1) := by decide +kernel
theorem dL_law_736 : decode cL_law 736 = .ok (.aload_n 0, 1) := by decide +kernel
theorem dL_law_737 : decode cL_law 737 = .ok (.iload_n 3, 1) := by decide +kernel
theorem dL_law_738 : decode cL_law 738 = .ok (.iconst 2, 1) := by decide +kernel
theorem dL_law_739 : decode cL_law 739 = .ok (.iadd, 1) := by decide +kernel
theorem dL_law_740 : decode cL_law 740 = .ok (.iaload, 1) := by decide +kernel
theorem dL_law_741 : decode cL_law 741 = .ok (.aload_n 0, 1) := by decide +kernel
theorem dL_law_742 : decode cL_law 742 = .ok (.iload_n 3, 1) := by decide +kernel
theorem dL_law_743 : decode cL_law 743 = .ok (.iconst 3, 1) := by decide +kernel
theorem dL_law_744 : decode cL_law 744 = .ok (.iadd, 1) := by decide +kernel
theorem dL_law_745 : decode cL_law 745 = .ok (.iaload, 1) := by decide +kernel
theorem dL_law_746 : decode cL_law 746 = .ok (.invokevirtual 69, 3) := by decide +kernel
theorem dL_law_749 : decode cL_law 749 = .ok (.aload_n 2, 1) := by decide +kernel
theorem dL_law_750 : decode cL_law 750 = .ok (.aload_n 0, 1) := by decide +kernel
theorem dL_law_751 : decode cL_law 751 = .ok (.iload_n 3, 1) := by decide +kernel
theorem dL_law_752 : decode cL_law 752 = .ok (.iconst 1, 1) := by decide +kernel
theorem dL_law_753 : decode cL_law 753 = .ok (.iadd, 1) := by decide +kernel
theorem dL_law_754 : decode cL_law 754 = .ok (.iaload, 1) := by decide +kernel
theorem dL_law_755 : decode cL_law 755 = .ok (.aload_n 0, 1) := by decide +kernel
theorem dL_law_756 : decode cL_law 756 = .ok (.iload_n 3, 1) := by decide +kernel
theorem dL_law_757 : decode cL_law 757 = .ok (.iconst 2, 1) := by decide +kernel
theorem dL_law_758 : decode cL_law 758 = .ok (.iadd, 1) := by decide +kernel
theorem dL_law_759 : decode cL_law 759 = .ok (.iaload, 1) := by decide +kernel
theorem dL_law_760 : decode cL_law 760 = .ok (.aload_n 0, 1) := by decide +kernel
theorem dL_law_761 : decode cL_law 761 = .ok (.iload_n 3, 1) := by decide +kernel
theorem dL_law_762 : decode cL_law 762 = .ok (.iconst 3, 1) := by decide +kernel
theorem dL_law_763 : decode cL_law 763 = .ok (.iadd, 1) := by decide +kernel
theorem dL_law_764 : decode cL_law 764 = .ok (.iaload, 1) := by decide +kernel
theorem dL_law_765 : decode cL_law 765 = .ok (.invokevirtual 72, 3) := by decide +kernel
theorem dL_law_768 : decode cL_law 768 = .ok (.if_icmp .eq 1045, 3) := by decide +kernel
theorem dL_law_771 : decode cL_law 771 = .ok (.iconst 0, 1) := by decide +kernel
theorem dL_law_772 : decode cL_law 772 = .ok (.ireturn, 1) := by decide +kernel
theorem dL_law_773 : decode cL_law 773 = .ok (.aload_n 1, 1) := by decide +kernel
theorem dL_law_774 : decode cL_law 774 = .ok (.aload_n 0, 1) := by decide +kernel
theorem dL_law_775 : decode cL_law 775 = .ok (.iload_n 3, 1) := by decide +kernel
theorem dL_law_776 : decode cL_law 776 = .ok (.iconst 1, 1) := by decide +kernel
theorem dL_law_777 : decode cL_law 777 = .ok (.iadd, 1) := by decide +kernel
theorem dL_law_778 : decode cL_law 778 = .ok (.iaload, 1) := by decide +kernel
theorem dL_law_779 : decode cL_law 779 = .ok (.aload_n 0, 1) := by decide +kernel
theorem dL_law_780 : decode cL_law 780 = .ok (.iload_n 3, 1) := by decide +kernel
theorem dL_law_781 : decode cL_law 781 = .ok (.iconst 2, 1) := by decide +kernel
theorem dL_law_782 : decode cL_law 782 = .ok (.iadd, 1) := by decide +kernel
theorem dL_law_783 : decode cL_law 783 = .ok (.iaload, 1) := by decide +kernel
theorem dL_law_784 : decode cL_law 784 = .ok (.aload_n 0, 1) := by decide +kernel
theorem dL_law_785 : decode cL_law 785 = .ok (.iload_n 3, 1) := by decide +kernel
theorem dL_law_786 : decode cL_law 786 = .ok (.iconst 3, 1) := by decide +kernel
theorem dL_law_787 : decode cL_law 787 = .ok (.iadd, 1) := by decide +kernel
theorem dL_law_788 : decode cL_law 788 = .ok (.iaload, 1) := by decide +kernel
theorem dL_law_789 : decode cL_law 789 = .ok (.invokevirtual 73, 3) := by decide +kernel
theorem dL_law_792 : decode cL_law 792 = .ok (.aload_n 2, 1) := by decide +kernel
theorem dL_law_793 : decode cL_law 793 = .ok (.aload_n 0, 1) := by decide +kernel
theorem dL_law_794 : decode cL_law 794 = .ok (.iload_n 3, 1) := by decide +kernel
theorem dL_law_795 : decode cL_law 795 = .ok (.iconst 1, 1) := by decide +kernel
theorem dL_law_796 : decode cL_law 796 = .ok (.iadd, 1) := by decide +kernel
theorem dL_law_797 : decode cL_law 797 = .ok (.iaload, 1) := by decide +kernel
theorem dL_law_798 : decode cL_law 798 = .ok (.aload_n 0, 1) := by decide +kernel
theorem dL_law_799 : decode cL_law 799 = .ok (.iload_n 3, 1) := by decide +kernel
theorem dL_law_800 : decode cL_law 800 = .ok (.iconst 2, 1) := by decide +kernel
theorem dL_law_801 : decode cL_law 801 = .ok (.iadd, 1) := by decide +kernel
theorem dL_law_802 : decode cL_law 802 = .ok (.iaload, 1) := by decide +kernel
theorem dL_law_803 : decode cL_law 803 = .ok (.aload_n 0, 1) := by decide +kernel
theorem dL_law_804 : decode cL_law 804 = .ok (.iload_n 3, 1) := by decide +kernel
theorem dL_law_805 : decode cL_law 805 = .ok (.iconst 3, 1) := by decide +kernel
theorem dL_law_806 : decode cL_law 806 = .ok (.iadd, 1) := by decide +kernel
theorem dL_law_807 : decode cL_law 807 = .ok (.iaload, 1) := by decide +kernel
theorem dL_law_808 : decode cL_law 808 = .ok (.invokevirtual 76, 3) := by decide +kernel
theorem dL_law_811 : decode cL_law 811 = .ok (.if_icmp .eq 1002, 3) := by decide +kernel
theorem dL_law_814 : decode cL_law 814 = .ok (.iconst 0, 1) := by decide +kernel
theorem dL_law_815 : decode cL_law 815 = .ok (.ireturn, 1) := by decide +kernel
theorem dL_law_816 : decode cL_law 816 = .ok (.aload_n 1, 1) := by decide +kernel
theorem dL_law_817 : decode cL_law 817 = .ok (.aload_n 0, 1) := by decide +kernel
theorem dL_law_818 : decode cL_law 818 = .ok (.iload_n 3, 1) := by decide +kernel
theorem dL_law_819 : decode cL_law 819 = .ok (.iconst 1, 1) := by decide +kernel
theorem dL_law_820 : decode cL_law 820 = .ok (.iadd, 1) := by decide +kernel
theorem dL_law_821 : decode cL_law 821 = .ok (.iaload, 1) := by decide +kernel
theorem dL_law_822 : decode cL_law 822 = .ok (.aload_n 0, 1) := by decide +kernel
theorem dL_law_823 : decode cL_law 823 = .ok (.iload_n 3, 1) := by decide +kernel
theorem dL_law_824 : decode cL_law 824 = .ok (.iconst 2, 1) := by decide +kernel
theorem dL_law_825 : decode cL_law 825 = .ok (.iadd, 1) := by decide +kernel
theorem dL_law_826 : decode cL_law 826 = .ok (.iaload, 1) := by decide +kernel
theorem dL_law_827 : decode cL_law 827 = .ok (.aload_n 0, 1) := by decide +kernel
theorem dL_law_828 : decode cL_law 828 = .ok (.iload_n 3, 1) := by decide +kernel
theorem dL_law_829 : decode cL_law 829 = .ok (.iconst 3, 1) := by decide +kernel
theorem dL_law_830 : decode cL_law 830 = .ok (.iadd, 1) := by decide +kernel
theorem dL_law_831 : decode cL_law 831 = .ok (.iaload, 1) := by decide +kernel
theorem dL_law_832 : decode cL_law 832 = .ok (.invokevirtual 77, 3) := by decide +kernel
theorem dL_law_835 : decode cL_law 835 = .ok (.aload_n 2, 1) := by decide +kernel
theorem dL_law_836 : decode cL_law 836 = .ok (.aload_n 0, 1) := by decide +kernel
theorem dL_law_837 : decode cL_law 837 = .ok (.iload_n 3, 1) := by decide +kernel
theorem dL_law_838 : decode cL_law 838 = .ok (.iconst 1, 1) := by decide +kernel
theorem dL_law_839 : decode cL_law 839 = .ok (.iadd, 1) := by decide +kernel
theorem dL_law_840 : decode cL_law 840 = .ok (.iaload, 1) := by decide +kernel
theorem dL_law_841 : decode cL_law 841 = .ok (.aload_n 0, 1) := by decide +kernel
theorem dL_law_842 : decode cL_law 842 = .ok (.iload_n 3, 1) := by decide +kernel
theorem dL_law_843 : decode cL_law 843 = .ok (.iconst 2, 1) := by decide +kernel
theorem dL_law_844 : decode cL_law 844 = .ok (.iadd, 1) := by decide +kernel
theorem dL_law_845 : decode cL_law 845 = .ok (.iaload, 1) := by decide +kernel
theorem dL_law_846 : decode cL_law 846 = .ok (.aload_n 0, 1) := by decide +kernel
theorem dL_law_847 : decode cL_law 847 = .ok (.iload_n 3, 1) := by decide +kernel
theorem dL_law_848 : decode cL_law 848 = .ok (.iconst 3, 1) := by decide +kernel
theorem dL_law_849 : decode cL_law 849 = .ok (.iadd, 1) := by decide +kernel
theorem dL_law_850 : decode cL_law 850 = .ok (.iaload, 1) := by decide +kernel
theorem dL_law_851 : decode cL_law 851 = .ok (.invokevirtual 80, 3) := by decide +kernel
theorem dL_law_854 : decode cL_law 854 = .ok (.if_icmp .eq 959, 3) := by decide +kernel
theorem dL_law_857 : decode cL_law 857 = .ok (.iconst 0, 1) := by decide +kernel
theorem dL_law_858 : decode cL_law 858 = .ok (.ireturn, 1) := by decide +kernel
theorem dL_law_859 : decode cL_law 859 = .ok (.aload_n 1, 1) := by decide +kernel
theorem dL_law_860 : decode cL_law 860 = .ok (.aload_n 0, 1) := by decide +kernel
theorem dL_law_861 : decode cL_law 861 = .ok (.iload_n 3, 1) := by decide +kernel
theorem dL_law_862 : decode cL_law 862 = .ok (.iconst 1, 1) := by decide +kernel
theorem dL_law_863 : decode cL_law 863 = .ok (.iadd, 1) := by decide +kernel
theorem dL_law_864 : decode cL_law 864 = .ok (.iaload, 1) := by decide +kernel
theorem dL_law_865 : decode cL_law 865 = .ok (.aload_n 0, 1) := by decide +kernel
theorem dL_law_866 : decode cL_law 866 = .ok (.iload_n 3, 1) := by decide +kernel
theorem dL_law_867 : decode cL_law 867 = .ok (.iconst 2, 1) := by decide +kernel
theorem dL_law_868 : decode cL_law 868 = .ok (.iadd, 1) := by decide +kernel
theorem dL_law_869 : decode cL_law 869 = .ok (.iaload, 1) := by decide +kernel
theorem dL_law_870 : decode cL_law 870 = .ok (.aload_n 0, 1) := by decide +kernel
theorem dL_law_871 : decode cL_law 871 = .ok (.iload_n 3, 1) := by decide +kernel
theorem dL_law_872 : decode cL_law 872 = .ok (.iconst 3, 1) := by decide +kernel
theorem dL_law_873 : decode cL_law 873 = .ok (.iadd, 1) := by decide +kernel
theorem dL_law_874 : decode cL_law 874 = .ok (.iaload, 1) := by decide +kernel
theorem dL_law_875 : decode cL_law 875 = .ok (.invokevirtual 81, 3) := by decide +kernel
theorem dL_law_878 : decode cL_law 878 = .ok (.aload_n 2, 1) := by decide +kernel
theorem dL_law_879 : decode cL_law 879 = .ok (.aload_n 0, 1) := by decide +kernel
theorem dL_law_880 : decode cL_law 880 = .ok (.iload_n 3, 1) := by decide +kernel
theorem dL_law_881 : decode cL_law 881 = .ok (.iconst 1, 1) := by decide +kernel
theorem dL_law_882 : decode cL_law 882 = .ok (.iadd, 1) := by decide +kernel
theorem dL_law_883 : decode cL_law 883 = .ok (.iaload, 1) := by decide +kernel
theorem dL_law_884 : decode cL_law 884 = .ok (.aload_n 0, 1) := by decide +kernel
theorem dL_law_885 : decode cL_law 885 = .ok (.iload_n 3, 1) := by decide +kernel
theorem dL_law_886 : decode cL_law 886 = .ok (.iconst 2, 1) := by decide +kernel
theorem dL_law_887 : decode cL_law 887 = .ok (.iadd, 1) := by decide +kernel
theorem dL_law_888 : decode cL_law 888 = .ok (.iaload, 1) := by decide +kernel
theorem dL_law_889 : decode cL_law 889 = .ok (.aload_n 0, 1) := by decide +kernel
theorem dL_law_890 : decode cL_law 890 = .ok (.iload_n 3, 1) := by decide +kernel
theorem dL_law_891 : decode cL_law 891 = .ok (.iconst 3, 1) := by decide +kernel
theorem dL_law_892 : decode cL_law 892 = .ok (.iadd, 1) := by decide +kernel
theorem dL_law_893 : decode cL_law 893 = .ok (.iaload, 1) := by decide +kernel
theorem dL_law_894 : decode cL_law 894 = .ok (.invokevirtual 84, 3) := by decide +kernel
theorem dL_law_897 : decode cL_law 897 = .ok (.if_icmp .eq 916, 3) := by decide +kernel
theorem dL_law_900 : decode cL_law 900 = .ok (.iconst 0, 1) := by decide +kernel
theorem dL_law_901 : decode cL_law 901 = .ok (.ireturn, 1) := by decide +kernel
theorem dL_law_902 : decode cL_law 902 = .ok (.aload_n 1, 1) := by decide +kernel
theorem dL_law_903 : decode cL_law 903 = .ok (.aload_n 0, 1) := by decide +kernel
theorem dL_law_904 : decode cL_law 904 = .ok (.iload_n 3, 1) := by decide +kernel
theorem dL_law_905 : decode cL_law 905 = .ok (.iconst 1, 1) := by decide +kernel
theorem dL_law_906 : decode cL_law 906 = .ok (.iadd, 1) := by decide +kernel
theorem dL_law_907 : decode cL_law 907 = .ok (.iaload, 1) := by decide +kernel
theorem dL_law_908 : decode cL_law 908 = .ok (.invokevirtual 85, 3) := by decide +kernel
theorem dL_law_911 : decode cL_law 911 = .ok (.aload_n 2, 1) := by decide +kernel
theorem dL_law_912 : decode cL_law 912 = .ok (.aload_n 0, 1) := by decide +kernel
theorem dL_law_913 : decode cL_law 913 = .ok (.iload_n 3, 1) := by decide +kernel
theorem dL_law_914 : decode cL_law 914 = .ok (.iconst 1, 1) := by decide +kernel
theorem dL_law_915 : decode cL_law 915 = .ok (.iadd, 1) := by decide +kernel
theorem dL_law_916 : decode cL_law 916 = .ok (.iaload, 1) := by decide +kernel
theorem dL_law_917 : decode cL_law 917 = .ok (.invokevirtual 88, 3) := by decide +kernel
theorem dL_law_920 : decode cL_law 920 = .ok (.if_icmp .eq 893, 3) := by decide +kernel
theorem dL_law_923 : decode cL_law 923 = .ok (.iconst 0, 1) := by decide +kernel
theorem dL_law_924 : decode cL_law 924 = .ok (.ireturn, 1) := by decide +kernel
theorem dL_law_925 : decode cL_law 925 = .ok (.aload_n 1, 1) := by decide +kernel
theorem dL_law_926 : decode cL_law 926 = .ok (.aload_n 0, 1) := by decide +kernel
theorem dL_law_927 : decode cL_law 927 = .ok (.iload_n 3, 1) := by decide +kernel
theorem dL_law_928 : decode cL_law 928 = .ok (.iconst 1, 1) := by decide +kernel
theorem dL_law_929 : decode cL_law 929 = .ok (.iadd, 1) := by decide +kernel
theorem dL_law_930 : decode cL_law 930 = .ok (.iaload, 1) := by decide +kernel
theorem dL_law_931 : decode cL_law 931 = .ok (.aload_n 0, 1) := by decide +kernel
theorem dL_law_932 : decode cL_law 932 = .ok (.iload_n 3, 1) := by decide +kernel
theorem dL_law_933 : decode cL_law 933 = .ok (.iconst 2, 1) := by decide +kernel
theorem dL_law_934 : decode cL_law 934 = .ok (.iadd, 1) := by decide +kernel
theorem dL_law_935 : decode cL_law 935 = .ok (.iaload, 1) := by decide +kernel
theorem dL_law_936 : decode cL_law 936 = .ok (.aload_n 0, 1) := by decide +kernel
theorem dL_law_937 : decode cL_law 937 = .ok (.iload_n 3, 1) := by decide +kernel
theorem dL_law_938 : decode cL_law 938 = .ok (.iconst 3, 1) := by decide +kernel
theorem dL_law_939 : decode cL_law 939 = .ok (.iadd, 1) := by decide +kernel
theorem dL_law_940 : decode cL_law 940 = .ok (.iaload, 1) := by decide +kernel
theorem dL_law_941 : decode cL_law 941 = .ok (.invokevirtual 89, 3) := by decide +kernel
theorem dL_law_944 : decode cL_law 944 = .ok (.aload_n 2, 1) := by decide +kernel
theorem dL_law_945 : decode cL_law 945 = .ok (.aload_n 0, 1) := by decide +kernel
theorem dL_law_946 : decode cL_law 946 = .ok (.iload_n 3, 1) := by decide +kernel
theorem dL_law_947 : decode cL_law 947 = .ok (.iconst 1, 1) := by decide +kernel
theorem dL_law_948 : decode cL_law 948 = .ok (.iadd, 1) := by decide +kernel
theorem dL_law_949 : decode cL_law 949 = .ok (.iaload, 1) := by decide +kernel
theorem dL_law_950 : decode cL_law 950 = .ok (.aload_n 0, 1) := by decide +kernel
theorem dL_law_951 : decode cL_law 951 = .ok (.iload_n 3, 1) := by decide +kernel
theorem dL_law_952 : decode cL_law 952 = .ok (.iconst 2, 1) := by decide +kernel
theorem dL_law_953 : decode cL_law 953 = .ok (.iadd, 1) := by decide +kernel
theorem dL_law_954 : decode cL_law 954 = .ok (.iaload, 1) := by decide +kernel
theorem dL_law_955 : decode cL_law 955 = .ok (.aload_n 0, 1) := by decide +kernel
theorem dL_law_956 : decode cL_law 956 = .ok (.iload_n 3, 1) := by decide +kernel
theorem dL_law_957 : decode cL_law 957 = .ok (.iconst 3, 1) := by decide +kernel
theorem dL_law_958 : decode cL_law 958 = .ok (.iadd, 1) := by decide +kernel
theorem dL_law_959 : decode cL_law 959 = .ok (.iaload, 1) := by decide +kernel
theorem dL_law_960 : decode cL_law 960 = .ok (.invokevirtual 92, 3) := by decide +kernel
theorem dL_law_963 : decode cL_law 963 = .ok (.if_icmp .eq 850, 3) := by decide +kernel
theorem dL_law_966 : decode cL_law 966 = .ok (.iconst 0, 1) := by decide +kernel
theorem dL_law_967 : decode cL_law 967 = .ok (.ireturn, 1) := by decide +kernel
theorem dL_law_968 : decode cL_law 968 = .ok (.aload_n 1, 1) := by decide +kernel
theorem dL_law_969 : decode cL_law 969 = .ok (.aload_n 0, 1) := by decide +kernel
theorem dL_law_970 : decode cL_law 970 = .ok (.iload_n 3, 1) := by decide +kernel
theorem dL_law_971 : decode cL_law 971 = .ok (.iconst 1, 1) := by decide +kernel
theorem dL_law_972 : decode cL_law 972 = .ok (.iadd, 1) := by decide +kernel
theorem dL_law_973 : decode cL_law 973 = .ok (.iaload, 1) := by decide +kernel
theorem dL_law_974 : decode cL_law 974 = .ok (.invokevirtual 93, 3) := by decide +kernel
theorem dL_law_977 : decode cL_law 977 = .ok (.aload_n 2, 1) := by decide +kernel
theorem dL_law_978 : decode cL_law 978 = .ok (.aload_n 0, 1) := by decide +kernel
theorem dL_law_979 : decode cL_law 979 = .ok (.iload_n 3, 1) := by decide +kernel
theorem dL_law_980 : decode cL_law 980 = .ok (.iconst 1, 1) := by decide +kernel
theorem dL_law_981 : decode cL_law 981 = .ok (.iadd, 1) := by decide +kernel
theorem dL_law_982 : decode cL_law 982 = .ok (.iaload, 1) := by decide +kernel
theorem dL_law_983 : decode cL_law 983 = .ok (.invokevirtual 96, 3) := by decide +kernel
theorem dL_law_986 : decode cL_law 986 = .ok (.if_icmp .eq 827, 3) := by decide +kernel
theorem dL_law_989 : decode cL_law 989 = .ok (.iconst 0, 1) := by decide +kernel
theorem dL_law_990 : decode cL_law 990 = .ok (.ireturn, 1) := by decide +kernel
theorem dL_law_991 : decode cL_law 991 = .ok (.aload_n 1, 1) := by decide +kernel
theorem dL_law_992 : decode cL_law 992 = .ok (.aload_n 0, 1) := by decide +kernel
theorem dL_law_993 : decode cL_law 993 = .ok (.iload_n 3, 1) := by decide +kernel
theorem dL_law_994 : decode cL_law 994 = .ok (.iconst 1, 1) := by decide +kernel
theorem dL_law_995 : decode cL_law 995 = .ok (.iadd, 1) := by decide +kernel
theorem dL_law_996 : decode cL_law 996 = .ok (.iaload, 1) := by decide +kernel
theorem dL_law_997 : decode cL_law 997 = .ok (.invokevirtual 97, 3) := by decide +kernel
theorem dL_law_1000 : decode cL_law 1000 = .ok (.aload_n 2, 1) := by decide +kernel
theorem dL_law_1001 : decode cL_law 1001 = .ok (.aload_n 0, 1) := by decide +kernel
theorem dL_law_1002 : decode cL_law 1002 = .ok (.iload_n 3, 1) := by decide +kernel
theorem dL_law_1003 : decode cL_law 1003 = .ok (.iconst 1, 1) := by decide +kernel
theorem dL_law_1004 : decode cL_law 1004 = .ok (.iadd, 1) := by decide +kernel
theorem dL_law_1005 : decode cL_law 1005 = .ok (.iaload, 1) := by decide +kernel
theorem dL_law_1006 : decode cL_law 1006 = .ok (.invokevirtual 100, 3) := by decide +kernel
theorem dL_law_1009 : decode cL_law 1009 = .ok (.if_icmp .eq 804, 3) := by decide +kernel
theorem dL_law_1012 : decode cL_law 1012 = .ok (.iconst 0, 1) := by decide +kernel
theorem dL_law_1013 : decode cL_law 1013 = .ok (.ireturn, 1) := by decide +kernel
theorem dL_law_1014 : decode cL_law 1014 = .ok (.aload_n 1, 1) := by decide +kernel
theorem dL_law_1015 : decode cL_law 1015 = .ok (.aload_n 0, 1) := by decide +kernel
theorem dL_law_1016 : decode cL_law 1016 = .ok (.iload_n 3, 1) := by decide +kernel
theorem dL_law_1017 : decode cL_law 1017 = .ok (.iconst 1, 1) := by decide +kernel
theorem dL_law_1018 : decode cL_law 1018 = .ok (.iadd, 1) := by decide +kernel
theorem dL_law_1019 : decode cL_law 1019 = .ok (.iaload, 1) := by decide +kernel
theorem dL_law_1020 : decode cL_law 1020 = .ok (.aload_n 0, 1) := by decide +kernel
theorem dL_law_1021 : decode cL_law 1021 = .ok (.iload_n 3, 1) := by decide +kernel
theorem dL_law_1022 : decode cL_law 1022 = .ok (.iconst 2, 1) := by decide +kernel
theorem dL_law_1023 : decode cL_law 1023 = .ok (.iadd, 1) := by decide +kernel
theorem dL_law_1024 : decode cL_law 1024 = .ok (.iaload, 1) := by decide +kernel
theorem dL_law_1025 : decode cL_law 1025 = .ok (.aload_n 0, 1) := by decide +kernel
theorem dL_law_1026 : decode cL_law 1026 = .ok (.iload_n 3, 1) := by decide +kernel
theorem dL_law_1027 : decode cL_law 1027 = .ok (.iconst 3, 1) := by decide +kernel
theorem dL_law_1028 : decode cL_law 1028 = .ok (.iadd, 1) := by decide +kernel
theorem dL_law_1029 : decode cL_law 1029 = .ok (.iaload, 1) := by decide +kernel
theorem dL_law_1030 : decode cL_law 1030 = .ok (.invokevirtual 101, 3) := by decide +kernel
theorem dL_law_1033 : decode cL_law 1033 = .ok (.aload_n 2, 1) := by decide +kernel
theorem dL_law_1034 : decode cL_law 1034 = .ok (.aload_n 0, 1) := by decide +kernel
theorem dL_law_1035 : decode cL_law 1035 = .ok (.iload_n 3, 1) := by decide +kernel
theorem dL_law_1036 : decode cL_law 1036 = .ok (.iconst 1, 1) := by decide +kernel
theorem dL_law_1037 : decode cL_law 1037 = .ok (.iadd, 1) := by decide +kernel
theorem dL_law_1038 : decode cL_law 1038 = .ok (.iaload, 1) := by decide +kernel
theorem dL_law_1039 : decode cL_law 1039 = .ok (.aload_n 0, 1) := by decide +kernel
theorem dL_law_1040 : decode cL_law 1040 = .ok (.iload_n 3, 1) := by decide +kernel
theorem dL_law_1041 : decode cL_law 1041 = .ok (.iconst 2, 1) := by decide +kernel
theorem dL_law_1042 : decode cL_law 1042 = .ok (.iadd, 1) := by decide +kernel
theorem dL_law_1043 : decode cL_law 1043 = .ok (.iaload, 1) := by decide +kernel
theorem dL_law_1044 : decode cL_law 1044 = .ok (.aload_n 0, 1) := by decide +kernel
theorem dL_law_1045 : decode cL_law 1045 = .ok (.iload_n 3, 1) := by decide +kernel
theorem dL_law_1046 : decode cL_law 1046 = .ok (.iconst 3, 1) := by decide +kernel
theorem dL_law_1047 : decode cL_law 1047 = .ok (.iadd, 1) := by decide +kernel
theorem dL_law_1048 : decode cL_law 1048 = .ok (.iaload, 1) := by decide +kernel
theorem dL_law_1049 : decode cL_law 1049 = .ok (.invokevirtual 104, 3) := by decide +kernel
theorem dL_law_1052 : decode cL_law 1052 = .ok (.if_icmp .eq 761, 3) := by decide +kernel
theorem dL_law_1055 : decode cL_law 1055 = .ok (.iconst 0, 1) := by decide +kernel
theorem dL_law_1056 : decode cL_law 1056 = .ok (.ireturn, 1) := by decide +kernel
theorem dL_law_1057 : decode cL_law 1057 = .ok (.aload_n 1, 1) := by decide +kernel
theorem dL_law_1058 : decode cL_law 1058 = .ok (.aload_n 0, 1) := by decide +kernel
theorem dL_law_1059 : decode cL_law 1059 = .ok (.iload_n 3, 1) := by decide +kernel
theorem dL_law_1060 : decode cL_law 1060 = .ok (.iconst 1, 1) := by decide +kernel
theorem dL_law_1061 : decode cL_law 1061 = .ok (.iadd, 1) := by decide +kernel
theorem dL_law_1062 : decode cL_law 1062 = .ok (.iaload, 1) := by decide +kernel
theorem dL_law_1063 : decode cL_law 1063 = .ok (.aload_n 0, 1) := by decide +kernel
theorem dL_law_1064 : decode cL_law 1064 = .ok (.iload_n 3, 1) := by decide +kernel
theorem dL_law_1065 : decode cL_law 1065 = .ok (.iconst 2, 1) := by decide +kernel
theorem dL_law_1066 : decode cL_law 1066 = .ok (.iadd, 1) := by decide +kernel
theorem dL_law_1067 : decode cL_law 1067 = .ok (.iaload, 1) := by decide +kernel
theorem dL_law_1068 : decode cL_law 1068 = .ok (.aload_n 0, 1) := by decide +kernel
theorem dL_law_1069 : decode cL_law 1069 = .ok (.iload_n 3, 1) := by decide +kernel
theorem dL_law_1070 : decode cL_law 1070 = .ok (.iconst 3, 1) := by decide +kernel
theorem dL_law_1071 : decode cL_law 1071 = .ok (.iadd, 1) := by decide +kernel
theorem dL_law_1072 : decode cL_law 1072 = .ok (.iaload, 1) := by decide +kernel
theorem dL_law_1073 : decode cL_law 1073 = .ok (.invokevirtual 105, 3) := by decide +kernel
theorem dL_law_1076 : decode cL_law 1076 = .ok (.aload_n 2, 1) := by decide +kernel
theorem dL_law_1077 : decode cL_law 1077 = .ok (.aload_n 0, 1) := by decide +kernel
theorem dL_law_1078 : decode cL_law 1078 = .ok (.iload_n 3, 1) := by decide +kernel
theorem dL_law_1079 : decode cL_law 1079 = .ok (.iconst 1, 1) := by decide +kernel
theorem dL_law_1080 : decode cL_law 1080 = .ok (.iadd, 1) := by decide +kernel
theorem dL_law_1081 : decode cL_law 1081 = .ok (.iaload, 1) := by decide +kernel
theorem dL_law_1082 : decode cL_law 1082 = .ok (.aload_n 0, 1) := by decide +kernel
theorem dL_law_1083 : decode cL_law 1083 = .ok (.iload_n 3, 1) := by decide +kernel
theorem dL_law_1084 : decode cL_law 1084 = .ok (.iconst 2, 1) := by decide +kernel
theorem dL_law_1085 : decode cL_law 1085 = .ok (.iadd, 1) := by decide +kernel
theorem dL_law_1086 : decode cL_law 1086 = .ok (.iaload, 1) := by decide +kernel
theorem dL_law_1087 : decode cL_law 1087 = .ok (.aload_n 0, 1) := by decide +kernel
theorem dL_law_1088 : decode cL_law 1088 = .ok (.iload_n 3, 1) := by decide +kernel
theorem dL_law_1089 : decode cL_law 1089 = .ok (.iconst 3, 1) := by decide +kernel
theorem dL_law_1090 : decode cL_law 1090 = .ok (.iadd, 1) := by decide +kernel
theorem dL_law_1091 : decode cL_law 1091 = .ok (.iaload, 1) := by decide +kernel
theorem dL_law_1092 : decode cL_law 1092 = .ok (.invokevirtual 108, 3) := by decide +kernel
theorem dL_law_1095 : decode cL_law 1095 = .ok (.if_icmp .eq 718, 3) := by decide +kernel
theorem dL_law_1098 : decode cL_law 1098 = .ok (.iconst 0, 1) := by decide +kernel
theorem dL_law_1099 : decode cL_law 1099 = .ok (.ireturn, 1) := by decide +kernel
theorem dL_law_1100 : decode cL_law 1100 = .ok (.aload_n 1, 1) := by decide +kernel
theorem dL_law_1101 : decode cL_law 1101 = .ok (.aload_n 0, 1) := by decide +kernel
theorem dL_law_1102 : decode cL_law 1102 = .ok (.iload_n 3, 1) := by decide +kernel
theorem dL_law_1103 : decode cL_law 1103 = .ok (.iconst 1, 1) := by decide +kernel
theorem dL_law_1104 : decode cL_law 1104 = .ok (.iadd, 1) := by decide +kernel
theorem dL_law_1105 : decode cL_law 1105 = .ok (.iaload, 1) := by decide +kernel
theorem dL_law_1106 : decode cL_law 1106 = .ok (.aload_n 0, 1) := by decide +kernel
theorem dL_law_1107 : decode cL_law 1107 = .ok (.iload_n 3, 1) := by decide +kernel
theorem dL_law_1108 : decode cL_law 1108 = .ok (.iconst 2, 1) := by decide +kernel
theorem dL_law_1109 : decode cL_law 1109 = .ok (.iadd, 1) := by decide +kernel
theorem dL_law_1110 : decode cL_law 1110 = .ok (.iaload, 1) := by decide +kernel
theorem dL_law_1111 : decode cL_law 1111 = .ok (.invokevirtual 109, 3) := by decide +kernel
theorem dL_law_1114 : decode cL_law 1114 = .ok (.aload_n 2, 1) := by decide +kernel
theorem dL_law_1115 : decode cL_law 1115 = .ok (.aload_n 0, 1) := by decide +kernel
theorem dL_law_1116 : decode cL_law 1116 = .ok (.iload_n 3, 1) := by decide +kernel
theorem dL_law_1117 : decode cL_law 1117 = .ok (.iconst 1, 1) := by decide +kernel
theorem dL_law_1118 : decode cL_law 1118 = .ok (.iadd, 1) := by decide +kernel
theorem dL_law_1119 : decode cL_law 1119 = .ok (.iaload, 1) := by decide +kernel
theorem dL_law_1120 : decode cL_law 1120 = .ok (.aload_n 0, 1) := by decide +kernel
theorem dL_law_1121 : decode cL_law 1121 = .ok (.iload_n 3, 1) := by decide +kernel
theorem dL_law_1122 : decode cL_law 1122 = .ok (.iconst 2, 1) := by decide +kernel
theorem dL_law_1123 : decode cL_law 1123 = .ok (.iadd, 1) := by decide +kernel
theorem dL_law_1124 : decode cL_law 1124 = .ok (.iaload, 1) := by decide +kernel
theorem dL_law_1125 : decode cL_law 1125 = .ok (.invokevirtual 112, 3) := by decide +kernel
theorem dL_law_1128 : decode cL_law 1128 = .ok (.if_icmp .eq 685, 3) := by decide +kernel
theorem dL_law_1131 : decode cL_law 1131 = .ok (.iconst 0, 1) := by decide +kernel
theorem dL_law_1132 : decode cL_law 1132 = .ok (.ireturn, 1) := by decide +kernel
theorem dL_law_1133 : decode cL_law 1133 = .ok (.aload_n 1, 1) := by decide +kernel
theorem dL_law_1134 : decode cL_law 1134 = .ok (.aload_n 0, 1) := by decide +kernel
theorem dL_law_1135 : decode cL_law 1135 = .ok (.iload_n 3, 1) := by decide +kernel
theorem dL_law_1136 : decode cL_law 1136 = .ok (.iconst 1, 1) := by decide +kernel
theorem dL_law_1137 : decode cL_law 1137 = .ok (.iadd, 1) := by decide +kernel
theorem dL_law_1138 : decode cL_law 1138 = .ok (.iaload, 1) := by decide +kernel
theorem dL_law_1139 : decode cL_law 1139 = .ok (.aload_n 0, 1) := by decide +kernel
theorem dL_law_1140 : decode cL_law 1140 = .ok (.iload_n 3, 1) := by decide +kernel
theorem dL_law_1141 : decode cL_law 1141 = .ok (.iconst 2, 1) := by decide +kernel
theorem dL_law_1142 : decode cL_law 1142 = .ok (.iadd, 1) := by decide +kernel
theorem dL_law_1143 : decode cL_law 1143 = .ok (.iaload, 1) := by decide +kernel
theorem dL_law_1144 : decode cL_law 1144 = .ok (.invokevirtual 113, 3) := by decide +kernel
theorem dL_law_1147 : decode cL_law 1147 = .ok (.aload_n 2, 1) := by decide +kernel
theorem dL_law_1148 : decode cL_law 1148 = .ok (.aload_n 0, 1) := by decide +kernel
theorem dL_law_1149 : decode cL_law 1149 = .ok (.iload_n 3, 1) := by decide +kernel
theorem dL_law_1150 : decode cL_law 1150 = .ok (.iconst 1, 1) := by decide +kernel
theorem dL_law_1151 : decode cL_law 1151 = .ok (.iadd, 1) := by decide +kernel
theorem dL_law_1152 : decode cL_law 1152 = .ok (.iaload, 1) := by decide +kernel
theorem dL_law_1153 : decode cL_law 1153 = .ok (.aload_n 0, 1) := by decide +kernel
theorem dL_law_1154 : decode cL_law 1154 = .ok (.iload_n 3, 1) := by decide +kernel
theorem dL_law_1155 : decode cL_law 1155 = .ok (.iconst 2, 1) := by decide +kernel
theorem dL_law_1156 : decode cL_law 1156 = .ok (.iadd, 1) := by decide +kernel
theorem dL_law_1157 : decode cL_law 1157 = .ok (.iaload, 1) := by decide +kernel
theorem dL_law_1158 : decode cL_law 1158 = .ok (.invokevirtual 116, 3) := by decide +kernel
theorem dL_law_1161 : decode cL_law 1161 = .ok (.lcmp, 1) := by decide +kernel
theorem dL_law_1162 : decode cL_law 1162 = .ok (.ifCond .eq 651, 3) := by decide +kernel
theorem dL_law_1165 : decode cL_law 1165 = .ok (.iconst 0, 1) := by decide +kernel
theorem dL_law_1166 : decode cL_law 1166 = .ok (.ireturn, 1) := by decide +kernel
theorem dL_law_1167 : decode cL_law 1167 = .ok (.aload_n 1, 1) := by decide +kernel
theorem dL_law_1168 : decode cL_law 1168 = .ok (.aload_n 0, 1) := by decide +kernel
theorem dL_law_1169 : decode cL_law 1169 = .ok (.iload_n 3, 1) := by decide +kernel
theorem dL_law_1170 : decode cL_law 1170 = .ok (.iconst 1, 1) := by decide +kernel
theorem dL_law_1171 : decode cL_law 1171 = .ok (.iadd, 1) := by decide +kernel
theorem dL_law_1172 : decode cL_law 1172 = .ok (.iaload, 1) := by decide +kernel
theorem dL_law_1173 : decode cL_law 1173 = .ok (.invokevirtual 117, 3) := by decide +kernel
theorem dL_law_1176 : decode cL_law 1176 = .ok (.aload_n 2, 1) := by decide +kernel
theorem dL_law_1177 : decode cL_law 1177 = .ok (.aload_n 0, 1) := by decide +kernel
theorem dL_law_1178 : decode cL_law 1178 = .ok (.iload_n 3, 1) := by decide +kernel
theorem dL_law_1179 : decode cL_law 1179 = .ok (.iconst 1, 1) := by decide +kernel
theorem dL_law_1180 : decode cL_law 1180 = .ok (.iadd, 1) := by decide +kernel
theorem dL_law_1181 : decode cL_law 1181 = .ok (.iaload, 1) := by decide +kernel
theorem dL_law_1182 : decode cL_law 1182 = .ok (.invokevirtual 120, 3) := by decide +kernel
theorem dL_law_1185 : decode cL_law 1185 = .ok (.if_icmp .eq 628, 3) := by decide +kernel
theorem dL_law_1188 : decode cL_law 1188 = .ok (.iconst 0, 1) := by decide +kernel
theorem dL_law_1189 : decode cL_law 1189 = .ok (.ireturn, 1) := by decide +kernel
theorem dL_law_1190 : decode cL_law 1190 = .ok (.aload_n 1, 1) := by decide +kernel
theorem dL_law_1191 : decode cL_law 1191 = .ok (.aload_n 0, 1) := by decide +kernel
theorem dL_law_1192 : decode cL_law 1192 = .ok (.iload_n 3, 1) := by decide +kernel
theorem dL_law_1193 : decode cL_law 1193 = .ok (.iconst 1, 1) := by decide +kernel
theorem dL_law_1194 : decode cL_law 1194 = .ok (.iadd, 1) := by decide +kernel
theorem dL_law_1195 : decode cL_law 1195 = .ok (.iaload, 1) := by decide +kernel
theorem dL_law_1196 : decode cL_law 1196 = .ok (.aload_n 0, 1) := by decide +kernel
theorem dL_law_1197 : decode cL_law 1197 = .ok (.iload_n 3, 1) := by decide +kernel
theorem dL_law_1198 : decode cL_law 1198 = .ok (.iconst 2, 1) := by decide +kernel
theorem dL_law_1199 : decode cL_law 1199 = .ok (.iadd, 1) := by decide +kernel
theorem dL_law_1200 : decode cL_law 1200 = .ok (.iaload, 1) := by decide +kernel
theorem dL_law_1201 : decode cL_law 1201 = .ok (.invokevirtual 121, 3) := by decide +kernel
theorem dL_law_1204 : decode cL_law 1204 = .ok (.aload_n 2, 1) := by decide +kernel
theorem dL_law_1205 : decode cL_law 1205 = .ok (.aload_n 0, 1) := by decide +kernel
theorem dL_law_1206 : decode cL_law 1206 = .ok (.iload_n 3, 1) := by decide +kernel
theorem dL_law_1207 : decode cL_law 1207 = .ok (.iconst 1, 1) := by decide +kernel
theorem dL_law_1208 : decode cL_law 1208 = .ok (.iadd, 1) := by decide +kernel
theorem dL_law_1209 : decode cL_law 1209 = .ok (.iaload, 1) := by decide +kernel
theorem dL_law_1210 : decode cL_law 1210 = .ok (.aload_n 0, 1) := by decide +kernel
theorem dL_law_1211 : decode cL_law 1211 = .ok (.iload_n 3, 1) := by decide +kernel
theorem dL_law_1212 : decode cL_law 1212 = .ok (.iconst 2, 1) := by decide +kernel
theorem dL_law_1213 : decode cL_law 1213 = .ok (.iadd, 1) := by decide +kernel
theorem dL_law_1214 : decode cL_law 1214 = .ok (.iaload, 1) := by decide +kernel
theorem dL_law_1215 : decode cL_law 1215 = .ok (.invokevirtual 124, 3) := by decide +kernel
theorem dL_law_1218 : decode cL_law 1218 = .ok (.if_icmp .eq 595, 3) := by decide +kernel
theorem dL_law_1221 : decode cL_law 1221 = .ok (.iconst 0, 1) := by decide +kernel
theorem dL_law_1222 : decode cL_law 1222 = .ok (.ireturn, 1) := by decide +kernel
theorem dL_law_1223 : decode cL_law 1223 = .ok (.aload_n 1, 1) := by decide +kernel
theorem dL_law_1224 : decode cL_law 1224 = .ok (.aload_n 0, 1) := by decide +kernel
theorem dL_law_1225 : decode cL_law 1225 = .ok (.iload_n 3, 1) := by decide +kernel
theorem dL_law_1226 : decode cL_law 1226 = .ok (.iconst 1, 1) := by decide +kernel
theorem dL_law_1227 : decode cL_law 1227 = .ok (.iadd, 1) := by decide +kernel
theorem dL_law_1228 : decode cL_law 1228 = .ok (.iaload, 1) := by decide +kernel
theorem dL_law_1229 : decode cL_law 1229 = .ok (.invokevirtual 125, 3) := by decide +kernel
theorem dL_law_1232 : decode cL_law 1232 = .ok (.aload_n 2, 1) := by decide +kernel
theorem dL_law_1233 : decode cL_law 1233 = .ok (.aload_n 0, 1) := by decide +kernel
theorem dL_law_1234 : decode cL_law 1234 = .ok (.iload_n 3, 1) := by decide +kernel
theorem dL_law_1235 : decode cL_law 1235 = .ok (.iconst 1, 1) := by decide +kernel
theorem dL_law_1236 : decode cL_law 1236 = .ok (.iadd, 1) := by decide +kernel
theorem dL_law_1237 : decode cL_law 1237 = .ok (.iaload, 1) := by decide +kernel
theorem dL_law_1238 : decode cL_law 1238 = .ok (.invokevirtual 128, 3) := by decide +kernel
theorem dL_law_1241 : decode cL_law 1241 = .ok (.if_icmp .eq 572, 3) := by decide +kernel
theorem dL_law_1244 : decode cL_law 1244 = .ok (.iconst 0, 1) := by decide +kernel
theorem dL_law_1245 : decode cL_law 1245 = .ok (.ireturn, 1) := by decide +kernel
theorem dL_law_1246 : decode cL_law 1246 = .ok (.aload_n 1, 1) := by decide +kernel
theorem dL_law_1247 : decode cL_law 1247 = .ok (.aload_n 0, 1) := by decide +kernel
theorem dL_law_1248 : decode cL_law 1248 = .ok (.iload_n 3, 1) := by decide +kernel
theorem dL_law_1249 : decode cL_law 1249 = .ok (.iconst 1, 1) := by decide +kernel
theorem dL_law_1250 : decode cL_law 1250 = .ok (.iadd, 1) := by decide +kernel
theorem dL_law_1251 : decode cL_law 1251 = .ok (.iaload, 1) := by decide +kernel
theorem dL_law_1252 : decode cL_law 1252 = .ok (.aload_n 0, 1) := by decide +kernel
theorem dL_law_1253 : decode cL_law 1253 = .ok (.iload_n 3, 1) := by decide +kernel
theorem dL_law_1254 : decode cL_law 1254 = .ok (.iconst 2, 1) := by decide +kernel
theorem dL_law_1255 : decode cL_law 1255 = .ok (.iadd, 1) := by decide +kernel
theorem dL_law_1256 : decode cL_law 1256 = .ok (.iaload, 1) := by decide +kernel
theorem dL_law_1257 : decode cL_law 1257 = .ok (.aload_n 0, 1) := by decide +kernel
theorem dL_law_1258 : decode cL_law 1258 = .ok (.iload_n 3, 1) := by decide +kernel
theorem dL_law_1259 : decode cL_law 1259 = .ok (.iconst 3, 1) := by decide +kernel
theorem dL_law_1260 : decode cL_law 1260 = .ok (.iadd, 1) := by decide +kernel
theorem dL_law_1261 : decode cL_law 1261 = .ok (.iaload, 1) := by decide +kernel
theorem dL_law_1262 : decode cL_law 1262 = .ok (.invokevirtual 129, 3) := by decide +kernel
theorem dL_law_1265 : decode cL_law 1265 = .ok (.aload_n 2, 1) := by decide +kernel
theorem dL_law_1266 : decode cL_law 1266 = .ok (.aload_n 0, 1) := by decide +kernel
theorem dL_law_1267 : decode cL_law 1267 = .ok (.iload_n 3, 1) := by decide +kernel
theorem dL_law_1268 : decode cL_law 1268 = .ok (.iconst 1, 1) := by decide +kernel
theorem dL_law_1269 : decode cL_law 1269 = .ok (.iadd, 1) := by decide +kernel
theorem dL_law_1270 : decode cL_law 1270 = .ok (.iaload, 1) := by decide +kernel
theorem dL_law_1271 : decode cL_law 1271 = .ok (.aload_n 0, 1) := by decide +kernel
theorem dL_law_1272 : decode cL_law 1272 = .ok (.iload_n 3, 1) := by decide +kernel
theorem dL_law_1273 : decode cL_law 1273 = .ok (.iconst 2, 1) := by decide +kernel
theorem dL_law_1274 : decode cL_law 1274 = .ok (.iadd, 1) := by decide +kernel
theorem dL_law_1275 : decode cL_law 1275 = .ok (.iaload, 1) := by decide +kernel
theorem dL_law_1276 : decode cL_law 1276 = .ok (.aload_n 0, 1) := by decide +kernel
theorem dL_law_1277 : decode cL_law 1277 = .ok (.iload_n 3, 1) := by decide +kernel
theorem dL_law_1278 : decode cL_law 1278 = .ok (.iconst 3, 1) := by decide +kernel
theorem dL_law_1279 : decode cL_law 1279 = .ok (.iadd, 1) := by decide +kernel
theorem dL_law_1280 : decode cL_law 1280 = .ok (.iaload, 1) := by decide +kernel
theorem dL_law_1281 : decode cL_law 1281 = .ok (.invokevirtual 132, 3) := by decide +kernel
theorem dL_law_1284 : decode cL_law 1284 = .ok (.if_icmp .eq 529, 3) := by decide +kernel
theorem dL_law_1287 : decode cL_law 1287 = .ok (.iconst 0, 1) := by decide +kernel
theorem dL_law_1288 : decode cL_law 1288 = .ok (.ireturn, 1) := by decide +kernel
theorem dL_law_1289 : decode cL_law 1289 = .ok (.aload_n 1, 1) := by decide +kernel
theorem dL_law_1290 : decode cL_law 1290 = .ok (.aload_n 0, 1) := by decide +kernel
theorem dL_law_1291 : decode cL_law 1291 = .ok (.iload_n 3, 1) := by decide +kernel
theorem dL_law_1292 : decode cL_law 1292 = .ok (.iconst 1, 1) := by decide +kernel
theorem dL_law_1293 : decode cL_law 1293 = .ok (.iadd, 1) := by decide +kernel
theorem dL_law_1294 : decode cL_law 1294 = .ok (.iaload, 1) := by decide +kernel
theorem dL_law_1295 : decode cL_law 1295 = .ok (.invokevirtual 133, 3) := by decide +kernel
theorem dL_law_1298 : decode cL_law 1298 = .ok (.aload_n 2, 1) := by decide +kernel
theorem dL_law_1299 : decode cL_law 1299 = .ok (.aload_n 0, 1) := by decide +kernel
theorem dL_law_1300 : decode cL_law 1300 = .ok (.iload_n 3, 1) := by decide +kernel
theorem dL_law_1301 : decode cL_law 1301 = .ok (.iconst 1, 1) := by decide +kernel
theorem dL_law_1302 : decode cL_law 1302 = .ok (.iadd, 1) := by decide +kernel
theorem dL_law_1303 : decode cL_law 1303 = .ok (.iaload, 1) := by decide +kernel
theorem dL_law_1304 : decode cL_law 1304 = .ok (.invokevirtual 136, 3) := by decide +kernel
theorem dL_law_1307 : decode cL_law 1307 = .ok (.if_icmp .eq 506, 3) := by decide +kernel
theorem dL_law_1310 : decode cL_law 1310 = .ok (.iconst 0, 1) := by decide +kernel
theorem dL_law_1311 : decode cL_law 1311 = .ok (.ireturn, 1) := by decide +kernel
theorem dL_law_1312 : decode cL_law 1312 = .ok (.aload_n 1, 1) := by decide +kernel
theorem dL_law_1313 : decode cL_law 1313 = .ok (.aload_n 0, 1) := by decide +kernel
theorem dL_law_1314 : decode cL_law 1314 = .ok (.iload_n 3, 1) := by decide +kernel
theorem dL_law_1315 : decode cL_law 1315 = .ok (.iconst 1, 1) := by decide +kernel
theorem dL_law_1316 : decode cL_law 1316 = .ok (.iadd, 1) := by decide +kernel
theorem dL_law_1317 : decode cL_law 1317 = .ok (.iaload, 1) := by decide +kernel
theorem dL_law_1318 : decode cL_law 1318 = .ok (.aload_n 0, 1) := by decide +kernel
theorem dL_law_1319 : decode cL_law 1319 = .ok (.iload_n 3, 1) := by decide +kernel
theorem dL_law_1320 : decode cL_law 1320 = .ok (.iconst 2, 1) := by decide +kernel
theorem dL_law_1321 : decode cL_law 1321 = .ok (.iadd, 1) := by decide +kernel
theorem dL_law_1322 : decode cL_law 1322 = .ok (.iaload, 1) := by decide +kernel
theorem dL_law_1323 : decode cL_law 1323 = .ok (.aload_n 0, 1) := by decide +kernel
theorem dL_law_1324 : decode cL_law 1324 = .ok (.iload_n 3, 1) := by decide +kernel
theorem dL_law_1325 : decode cL_law 1325 = .ok (.iconst 3, 1) := by decide +kernel
theorem dL_law_1326 : decode cL_law 1326 = .ok (.iadd, 1) := by decide +kernel
theorem dL_law_1327 : decode cL_law 1327 = .ok (.iaload, 1) := by decide +kernel
theorem dL_law_1328 : decode cL_law 1328 = .ok (.invokevirtual 137, 3) := by decide +kernel
theorem dL_law_1331 : decode cL_law 1331 = .ok (.aload_n 2, 1) := by decide +kernel
theorem dL_law_1332 : decode cL_law 1332 = .ok (.aload_n 0, 1) := by decide +kernel
theorem dL_law_1333 : decode cL_law 1333 = .ok (.iload_n 3, 1) := by decide +kernel
theorem dL_law_1334 : decode cL_law 1334 = .ok (.iconst 1, 1) := by decide +kernel
theorem dL_law_1335 : decode cL_law 1335 = .ok (.iadd, 1) := by decide +kernel
theorem dL_law_1336 : decode cL_law 1336 = .ok (.iaload, 1) := by decide +kernel
theorem dL_law_1337 : decode cL_law 1337 = .ok (.aload_n 0, 1) := by decide +kernel
theorem dL_law_1338 : decode cL_law 1338 = .ok (.iload_n 3, 1) := by decide +kernel
theorem dL_law_1339 : decode cL_law 1339 = .ok (.iconst 2, 1) := by decide +kernel
theorem dL_law_1340 : decode cL_law 1340 = .ok (.iadd, 1) := by decide +kernel
theorem dL_law_1341 : decode cL_law 1341 = .ok (.iaload, 1) := by decide +kernel
theorem dL_law_1342 : decode cL_law 1342 = .ok (.aload_n 0, 1) := by decide +kernel
theorem dL_law_1343 : decode cL_law 1343 = .ok (.iload_n 3, 1) := by decide +kernel
theorem dL_law_1344 : decode cL_law 1344 = .ok (.iconst 3, 1) := by decide +kernel
theorem dL_law_1345 : decode cL_law 1345 = .ok (.iadd, 1) := by decide +kernel
theorem dL_law_1346 : decode cL_law 1346 = .ok (.iaload, 1) := by decide +kernel
theorem dL_law_1347 : decode cL_law 1347 = .ok (.invokevirtual 140, 3) := by decide +kernel
theorem dL_law_1350 : decode cL_law 1350 = .ok (.if_icmp .eq 463, 3) := by decide +kernel
theorem dL_law_1353 : decode cL_law 1353 = .ok (.iconst 0, 1) := by decide +kernel
theorem dL_law_1354 : decode cL_law 1354 = .ok (.ireturn, 1) := by decide +kernel
theorem dL_law_1355 : decode cL_law 1355 = .ok (.aload_n 1, 1) := by decide +kernel
theorem dL_law_1356 : decode cL_law 1356 = .ok (.aload_n 0, 1) := by decide +kernel
theorem dL_law_1357 : decode cL_law 1357 = .ok (.iload_n 3, 1) := by decide +kernel
theorem dL_law_1358 : decode cL_law 1358 = .ok (.iconst 1, 1) := by decide +kernel
theorem dL_law_1359 : decode cL_law 1359 = .ok (.iadd, 1) := by decide +kernel
theorem dL_law_1360 : decode cL_law 1360 = .ok (.iaload, 1) := by decide +kernel
theorem dL_law_1361 : decode cL_law 1361 = .ok (.aload_n 0, 1) := by decide +kernel
theorem dL_law_1362 : decode cL_law 1362 = .ok (.iload_n 3, 1) := by decide +kernel
theorem dL_law_1363 : decode cL_law 1363 = .ok (.iconst 2, 1) := by decide +kernel
theorem dL_law_1364 : decode cL_law 1364 = .ok (.iadd, 1) := by decide +kernel
theorem dL_law_1365 : decode cL_law 1365 = .ok (.iaload, 1) := by decide +kernel
theorem dL_law_1366 : decode cL_law 1366 = .ok (.invokevirtual 141, 3) := by decide +kernel
theorem dL_law_1369 : decode cL_law 1369 = .ok (.aload_n 2, 1) := by decide +kernel
theorem dL_law_1370 : decode cL_law 1370 = .ok (.aload_n 0, 1) := by decide +kernel
theorem dL_law_1371 : decode cL_law 1371 = .ok (.iload_n 3, 1) := by decide +kernel
theorem dL_law_1372 : decode cL_law 1372 = .ok (.iconst 1, 1) := by decide +kernel
theorem dL_law_1373 : decode cL_law 1373 = .ok (.iadd, 1) := by decide +kernel
theorem dL_law_1374 : decode cL_law 1374 = .ok (.iaload, 1) := by decide +kernel
theorem dL_law_1375 : decode cL_law 1375 = .ok (.aload_n 0, 1) := by decide +kernel
theorem dL_law_1376 : decode cL_law 1376 = .ok (.iload_n 3, 1) := by decide +kernel
theorem dL_law_1377 : decode cL_law 1377 = .ok (.iconst 2, 1) := by decide +kernel
theorem dL_law_1378 : decode cL_law 1378 = .ok (.iadd, 1) := by decide +kernel
theorem dL_law_1379 : decode cL_law 1379 = .ok (.iaload, 1) := by decide +kernel
theorem dL_law_1380 : decode cL_law 1380 = .ok (.invokevirtual 144, 3) := by decide +kernel
theorem dL_law_1383 : decode cL_law 1383 = .ok (.if_icmp .eq 430, 3) := by decide +kernel
theorem dL_law_1386 : decode cL_law 1386 = .ok (.iconst 0, 1) := by decide +kernel
theorem dL_law_1387 : decode cL_law 1387 = .ok (.ireturn, 1) := by decide +kernel
theorem dL_law_1388 : decode cL_law 1388 = .ok (.aload_n 1, 1) := by decide +kernel
theorem dL_law_1389 : decode cL_law 1389 = .ok (.aload_n 0, 1) := by decide +kernel
theorem dL_law_1390 : decode cL_law 1390 = .ok (.iload_n 3, 1) := by decide +kernel
theorem dL_law_1391 : decode cL_law 1391 = .ok (.iconst 1, 1) := by decide +kernel
theorem dL_law_1392 : decode cL_law 1392 = .ok (.iadd, 1) := by decide +kernel
theorem dL_law_1393 : decode cL_law 1393 = .ok (.iaload, 1) := by decide +kernel
theorem dL_law_1394 : decode cL_law 1394 = .ok (.aload_n 0, 1) := by decide +kernel
theorem dL_law_1395 : decode cL_law 1395 = .ok (.iload_n 3, 1) := by decide +kernel
theorem dL_law_1396 : decode cL_law 1396 = .ok (.iconst 2, 1) := by decide +kernel
theorem dL_law_1397 : decode cL_law 1397 = .ok (.iadd, 1) := by decide +kernel
theorem dL_law_1398 : decode cL_law 1398 = .ok (.iaload, 1) := by decide +kernel
theorem dL_law_1399 : decode cL_law 1399 = .ok (.aload_n 0, 1) := by decide +kernel
theorem dL_law_1400 : decode cL_law 1400 = .ok (.iload_n 3, 1) := by decide +kernel
theorem dL_law_1401 : decode cL_law 1401 = .ok (.iconst 3, 1) := by decide +kernel
theorem dL_law_1402 : decode cL_law 1402 = .ok (.iadd, 1) := by decide +kernel
theorem dL_law_1403 : decode cL_law 1403 = .ok (.iaload, 1) := by decide +kernel
theorem dL_law_1404 : decode cL_law 1404 = .ok (.aload_n 0, 1) := by decide +kernel
theorem dL_law_1405 : decode cL_law 1405 = .ok (.iload_n 3, 1) := by decide +kernel
theorem dL_law_1406 : decode cL_law 1406 = .ok (.iconst 4, 1) := by decide +kernel
theorem dL_law_1407 : decode cL_law 1407 = .ok (.iadd, 1) := by decide +kernel
theorem dL_law_1408 : decode cL_law 1408 = .ok (.iaload, 1) := by decide +kernel
theorem dL_law_1409 : decode cL_law 1409 = .ok (.aload_n 0, 1) := by decide +kernel
theorem dL_law_1410 : decode cL_law 1410 = .ok (.iload_n 3, 1) := by decide +kernel
theorem dL_law_1411 : decode cL_law 1411 = .ok (.iconst 5, 1) := by decide +kernel
theorem dL_law_1412 : decode cL_law 1412 = .ok (.iadd, 1) := by decide +kernel
theorem dL_law_1413 : decode cL_law 1413 = .ok (.iaload, 1) := by decide +kernel
theorem dL_law_1414 : decode cL_law 1414 = .ok (.invokevirtual 145, 3) := by decide +kernel
theorem dL_law_1417 : decode cL_law 1417 = .ok (.aload_n 2, 1) := by decide +kernel
theorem dL_law_1418 : decode cL_law 1418 = .ok (.aload_n 0, 1) := by decide +kernel
theorem dL_law_1419 : decode cL_law 1419 = .ok (.iload_n 3, 1) := by decide +kernel
theorem dL_law_1420 : decode cL_law 1420 = .ok (.iconst 1, 1) := by decide +kernel
theorem dL_law_1421 : decode cL_law 1421 = .ok (.iadd, 1) := by decide +kernel
theorem dL_law_1422 : decode cL_law 1422 = .ok (.iaload, 1) := by decide +kernel
theorem dL_law_1423 : decode cL_law 1423 = .ok (.aload_n 0, 1) := by decide +kernel
theorem dL_law_1424 : decode cL_law 1424 = .ok (.iload_n 3, 1) := by decide +kernel
theorem dL_law_1425 : decode cL_law 1425 = .ok (.iconst 2, 1) := by decide +kernel
theorem dL_law_1426 : decode cL_law 1426 = .ok (.iadd, 1) := by decide +kernel
theorem dL_law_1427 : decode cL_law 1427 = .ok (.iaload, 1) := by decide +kernel
theorem dL_law_1428 : decode cL_law 1428 = .ok (.aload_n 0, 1) := by decide +kernel
theorem dL_law_1429 : decode cL_law 1429 = .ok (.iload_n 3, 1) := by decide +kernel
theorem dL_law_1430 : decode cL_law 1430 = .ok (.iconst 3, 1) := by decide +kernel
theorem dL_law_1431 : decode cL_law 1431 = .ok (.iadd, 1) := by decide +kernel
theorem dL_law_1432 : decode cL_law 1432 = .ok (.iaload, 1) := by decide +kernel
theorem dL_law_1433 : decode cL_law 1433 = .ok (.aload_n 0, 1) := by decide +kernel
theorem dL_law_1434 : decode cL_law 1434 = .ok (.iload_n 3, 1) := by decide +kernel
theorem dL_law_1435 : decode cL_law 1435 = .ok (.iconst 4, 1) := by decide +kernel
theorem dL_law_1436 : decode cL_law 1436 = .ok (.iadd, 1) := by decide +kernel
theorem dL_law_1437 : decode cL_law 1437 = .ok (.iaload, 1) := by decide +kernel
theorem dL_law_1438 : decode cL_law 1438 = .ok (.aload_n 0, 1) := by decide +kernel
theorem dL_law_1439 : decode cL_law 1439 = .ok (.iload_n 3, 1) := by decide +kernel
theorem dL_law_1440 : decode cL_law 1440 = .ok (.iconst 5, 1) := by decide +kernel
theorem dL_law_1441 : decode cL_law 1441 = .ok (.iadd, 1) := by decide +kernel
theorem dL_law_1442 : decode cL_law 1442 = .ok (.iaload, 1) := by decide +kernel
theorem dL_law_1443 : decode cL_law 1443 = .ok (.invokevirtual 148, 3) := by decide +kernel
theorem dL_law_1446 : decode cL_law 1446 = .ok (.if_icmp .eq 367, 3) := by decide +kernel
theorem dL_law_1449 : decode cL_law 1449 = .ok (.iconst 0, 1) := by decide +kernel
theorem dL_law_1450 : decode cL_law 1450 = .ok (.ireturn, 1) := by decide +kernel
theorem dL_law_1451 : decode cL_law 1451 = .ok (.aload_n 1, 1) := by decide +kernel
theorem dL_law_1452 : decode cL_law 1452 = .ok (.aload_n 0, 1) := by decide +kernel
theorem dL_law_1453 : decode cL_law 1453 = .ok (.iload_n 3, 1) := by decide +kernel
theorem dL_law_1454 : decode cL_law 1454 = .ok (.iconst 1, 1) := by decide +kernel
theorem dL_law_1455 : decode cL_law 1455 = .ok (.iadd, 1) := by decide +kernel
theorem dL_law_1456 : decode cL_law 1456 = .ok (.iaload, 1) := by decide +kernel
theorem dL_law_1457 : decode cL_law 1457 = .ok (.aload_n 0, 1) := by decide +kernel
theorem dL_law_1458 : decode cL_law 1458 = .ok (.iload_n 3, 1) := by decide +kernel
theorem dL_law_1459 : decode cL_law 1459 = .ok (.iconst 2, 1) := by decide +kernel
theorem dL_law_1460 : decode cL_law 1460 = .ok (.iadd, 1) := by decide +kernel
theorem dL_law_1461 : decode cL_law 1461 = .ok (.iaload, 1) := by decide +kernel
theorem dL_law_1462 : decode cL_law 1462 = .ok (.aload_n 0, 1) := by decide +kernel
theorem dL_law_1463 : decode cL_law 1463 = .ok (.iload_n 3, 1) := by decide +kernel
theorem dL_law_1464 : decode cL_law 1464 = .ok (.iconst 3, 1) := by decide +kernel
theorem dL_law_1465 : decode cL_law 1465 = .ok (.iadd, 1) := by decide +kernel
theorem dL_law_1466 : decode cL_law 1466 = .ok (.iaload, 1) := by decide +kernel
theorem dL_law_1467 : decode cL_law 1467 = .ok (.invokevirtual 149, 3) := by decide +kernel
theorem dL_law_1470 : decode cL_law 1470 = .ok (.aload_n 2, 1) := by decide +kernel
theorem dL_law_1471 : decode cL_law 1471 = .ok (.aload_n 0, 1) := by decide +kernel
theorem dL_law_1472 : decode cL_law 1472 = .ok (.iload_n 3, 1) := by decide +kernel
theorem dL_law_1473 : decode cL_law 1473 = .ok (.iconst 1, 1) := by decide +kernel
theorem dL_law_1474 : decode cL_law 1474 = .ok (.iadd, 1) := by decide +kernel
theorem dL_law_1475 : decode cL_law 1475 = .ok (.iaload, 1) := by decide +kernel
theorem dL_law_1476 : decode cL_law 1476 = .ok (.aload_n 0, 1) := by decide +kernel
theorem dL_law_1477 : decode cL_law 1477 = .ok (.iload_n 3, 1) := by decide +kernel
theorem dL_law_1478 : decode cL_law 1478 = .ok (.iconst 2, 1) := by decide +kernel
theorem dL_law_1479 : decode cL_law 1479 = .ok (.iadd, 1) := by decide +kernel
theorem dL_law_1480 : decode cL_law 1480 = .ok (.iaload, 1) := by decide +kernel
theorem dL_law_1481 : decode cL_law 1481 = .ok (.aload_n 0, 1) := by decide +kernel
theorem dL_law_1482 : decode cL_law 1482 = .ok (.iload_n 3, 1) := by decide +kernel
theorem dL_law_1483 : decode cL_law 1483 = .ok (.iconst 3, 1) := by decide +kernel
theorem dL_law_1484 : decode cL_law 1484 = .ok (.iadd, 1) := by decide +kernel
theorem dL_law_1485 : decode cL_law 1485 = .ok (.iaload, 1) := by decide +kernel
theorem dL_law_1486 : decode cL_law 1486 = .ok (.invokevirtual 152, 3) := by decide +kernel
theorem dL_law_1489 : decode cL_law 1489 = .ok (.if_icmp .eq 324, 3) := by decide +kernel
theorem dL_law_1492 : decode cL_law 1492 = .ok (.iconst 0, 1) := by decide +kernel
theorem dL_law_1493 : decode cL_law 1493 = .ok (.ireturn, 1) := by decide +kernel
theorem dL_law_1494 : decode cL_law 1494 = .ok (.aload_n 1, 1) := by decide +kernel
theorem dL_law_1495 : decode cL_law 1495 = .ok (.aload_n 0, 1) := by decide +kernel
theorem dL_law_1496 : decode cL_law 1496 = .ok (.iload_n 3, 1) := by decide +kernel
theorem dL_law_1497 : decode cL_law 1497 = .ok (.iconst 1, 1) := by decide +kernel
theorem dL_law_1498 : decode cL_law 1498 = .ok (.iadd, 1) := by decide +kernel
theorem dL_law_1499 : decode cL_law 1499 = .ok (.iaload, 1) := by decide +kernel
theorem dL_law_1500 : decode cL_law 1500 = .ok (.invokevirtual 153, 3) := by decide +kernel
theorem dL_law_1503 : decode cL_law 1503 = .ok (.aload_n 2, 1) := by decide +kernel
theorem dL_law_1504 : decode cL_law 1504 = .ok (.aload_n 0, 1) := by decide +kernel
theorem dL_law_1505 : decode cL_law 1505 = .ok (.iload_n 3, 1) := by decide +kernel
theorem dL_law_1506 : decode cL_law 1506 = .ok (.iconst 1, 1) := by decide +kernel
theorem dL_law_1507 : decode cL_law 1507 = .ok (.iadd, 1) := by decide +kernel
theorem dL_law_1508 : decode cL_law 1508 = .ok (.iaload, 1) := by decide +kernel
theorem dL_law_1509 : decode cL_law 1509 = .ok (.invokevirtual 156, 3) := by decide +kernel
theorem dL_law_1512 : decode cL_law 1512 = .ok (.if_icmp .eq 301, 3) := by decide +kernel
theorem dL_law_1515 : decode cL_law 1515 = .ok (.iconst 0, 1) := by decide +kernel
theorem dL_law_1516 : decode cL_law 1516 = .ok (.ireturn, 1) := by decide +kernel
theorem dL_law_1517 : decode cL_law 1517 = .ok (.aload_n 1, 1) := by decide +kernel
theorem dL_law_1518 : decode cL_law 1518 = .ok (.aload_n 0, 1) := by decide +kernel
theorem dL_law_1519 : decode cL_law 1519 = .ok (.iload_n 3, 1) := by decide +kernel
theorem dL_law_1520 : decode cL_law 1520 = .ok (.iconst 1, 1) := by decide +kernel
theorem dL_law_1521 : decode cL_law 1521 = .ok (.iadd, 1) := by decide +kernel
theorem dL_law_1522 : decode cL_law 1522 = .ok (.iaload, 1) := by decide +kernel
theorem dL_law_1523 : decode cL_law 1523 = .ok (.aload_n 0, 1) := by decide +kernel
theorem dL_law_1524 : decode cL_law 1524 = .ok (.iload_n 3, 1) := by decide +kernel
theorem dL_law_1525 : decode cL_law 1525 = .ok (.iconst 2, 1) := by decide +kernel
theorem dL_law_1526 : decode cL_law 1526 = .ok (.iadd, 1) := by decide +kernel
theorem dL_law_1527 : decode cL_law 1527 = .ok (.iaload, 1) := by decide +kernel
theorem dL_law_1528 : decode cL_law 1528 = .ok (.aload_n 0, 1) := by decide +kernel
theorem dL_law_1529 : decode cL_law 1529 = .ok (.iload_n 3, 1) := by decide +kernel
theorem dL_law_1530 : decode cL_law 1530 = .ok (.iconst 3, 1) := by decide +kernel
theorem dL_law_1531 : decode cL_law 1531 = .ok (.iadd, 1) := by decide +kernel
theorem dL_law_1532 : decode cL_law 1532 = .ok (.iaload, 1) := by decide +kernel
theorem dL_law_1533 : decode cL_law 1533 = .ok (.invokevirtual 157, 3) := by decide +kernel
theorem dL_law_1536 : decode cL_law 1536 = .ok (.aload_n 2, 1) := by decide +kernel
theorem dL_law_1537 : decode cL_law 1537 = .ok (.aload_n 0, 1) := by decide +kernel
theorem dL_law_1538 : decode cL_law 1538 = .ok (.iload_n 3, 1) := by decide +kernel
theorem dL_law_1539 : decode cL_law 1539 = .ok (.iconst 1, 1) := by decide +kernel
theorem dL_law_1540 : decode cL_law 1540 = .ok (.iadd, 1) := by decide +kernel
theorem dL_law_1541 : decode cL_law 1541 = .ok (.iaload, 1) := by decide +kernel
theorem dL_law_1542 : decode cL_law 1542 = .ok (.aload_n 0, 1) := by decide +kernel
theorem dL_law_1543 : decode cL_law 1543 = .ok (.iload_n 3, 1) := by decide +kernel
theorem dL_law_1544 : decode cL_law 1544 = .ok (.iconst 2, 1) := by decide +kernel
theorem dL_law_1545 : decode cL_law 1545 = .ok (.iadd, 1) := by decide +kernel
theorem dL_law_1546 : decode cL_law 1546 = .ok (.iaload, 1) := by decide +kernel
theorem dL_law_1547 : decode cL_law 1547 = .ok (.aload_n 0, 1) := by decide +kernel
theorem dL_law_1548 : decode cL_law 1548 = .ok (.iload_n 3, 1) := by decide +kernel
theorem dL_law_1549 : decode cL_law 1549 = .ok (.iconst 3, 1) := by decide +kernel
theorem dL_law_1550 : decode cL_law 1550 = .ok (.iadd, 1) := by decide +kernel
theorem dL_law_1551 : decode cL_law 1551 = .ok (.iaload, 1) := by decide +kernel
theorem dL_law_1552 : decode cL_law 1552 = .ok (.invokevirtual 160, 3) := by decide +kernel
theorem dL_law_1555 : decode cL_law 1555 = .ok (.if_icmp .eq 258, 3) := by decide +kernel
theorem dL_law_1558 : decode cL_law 1558 = .ok (.iconst 0, 1) := by decide +kernel
theorem dL_law_1559 : decode cL_law 1559 = .ok (.ireturn, 1) := by decide +kernel
theorem dL_law_1560 : decode cL_law 1560 = .ok (.aload_n 1, 1) := by decide +kernel
theorem dL_law_1561 : decode cL_law 1561 = .ok (.aload_n 0, 1) := by decide +kernel
theorem dL_law_1562 : decode cL_law 1562 = .ok (.iload_n 3, 1) := by decide +kernel
theorem dL_law_1563 : decode cL_law 1563 = .ok (.iconst 1, 1) := by decide +kernel
theorem dL_law_1564 : decode cL_law 1564 = .ok (.iadd, 1) := by decide +kernel
theorem dL_law_1565 : decode cL_law 1565 = .ok (.iaload, 1) := by decide +kernel
theorem dL_law_1566 : decode cL_law 1566 = .ok (.invokevirtual 161, 3) := by decide +kernel
theorem dL_law_1569 : decode cL_law 1569 = .ok (.aload_n 2, 1) := by decide +kernel
theorem dL_law_1570 : decode cL_law 1570 = .ok (.aload_n 0, 1) := by decide +kernel
theorem dL_law_1571 : decode cL_law 1571 = .ok (.iload_n 3, 1) := by decide +kernel
theorem dL_law_1572 : decode cL_law 1572 = .ok (.iconst 1, 1) := by decide +kernel
theorem dL_law_1573 : decode cL_law 1573 = .ok (.iadd, 1) := by decide +kernel
theorem dL_law_1574 : decode cL_law 1574 = .ok (.iaload, 1) := by decide +kernel
theorem dL_law_1575 : decode cL_law 1575 = .ok (.invokevirtual 164, 3) := by decide +kernel
theorem dL_law_1578 : decode cL_law 1578 = .ok (.if_icmp .eq 235, 3) := by decide +kernel
theorem dL_law_1581 : decode cL_law 1581 = .ok (.iconst 0, 1) := by decide +kernel
theorem dL_law_1582 : decode cL_law 1582 = .ok (.ireturn, 1) := by decide +kernel
theorem dL_law_1583 : decode cL_law 1583 = .ok (.aload_n 1, 1) := by decide +kernel
theorem dL_law_1584 : decode cL_law 1584 = .ok (.aload_n 0, 1) := by decide +kernel
theorem dL_law_1585 : decode cL_law 1585 = .ok (.iload_n 3, 1) := by decide +kernel
theorem dL_law_1586 : decode cL_law 1586 = .ok (.iconst 1, 1) := by decide +kernel
theorem dL_law_1587 : decode cL_law 1587 = .ok (.iadd, 1) := by decide +kernel
theorem dL_law_1588 : decode cL_law 1588 = .ok (.iaload, 1) := by decide +kernel
theorem dL_law_1589 : decode cL_law 1589 = .ok (.aload_n 0, 1) := by decide +kernel
theorem dL_law_1590 : decode cL_law 1590 = .ok (.iload_n 3, 1) := by decide +kernel
theorem dL_law_1591 : decode cL_law 1591 = .ok (.iconst 2, 1) := by decide +kernel
theorem dL_law_1592 : decode cL_law 1592 = .ok (.iadd, 1) := by decide +kernel
theorem dL_law_1593 : decode cL_law 1593 = .ok (.iaload, 1) := by decide +kernel
theorem dL_law_1594 : decode cL_law 1594 = .ok (.aload_n 0, 1) := by decide +kernel
theorem dL_law_1595 : decode cL_law 1595 = .ok (.iload_n 3, 1) := by decide +kernel
theorem dL_law_1596 : decode cL_law 1596 = .ok (.iconst 3, 1) := by decide +kernel
theorem dL_law_1597 : decode cL_law 1597 = .ok (.iadd, 1) := by decide +kernel
theorem dL_law_1598 : decode cL_law 1598 = .ok (.iaload, 1) := by decide +kernel
theorem dL_law_1599 : decode cL_law 1599 = .ok (.invokevirtual 165, 3) := by decide +kernel
theorem dL_law_1602 : decode cL_law 1602 = .ok (.aload_n 2, 1) := by decide +kernel
theorem dL_law_1603 : decode cL_law 1603 = .ok (.aload_n 0, 1) := by decide +kernel
theorem dL_law_1604 : decode cL_law 1604 = .ok (.iload_n 3, 1) := by decide +kernel
theorem dL_law_1605 : decode cL_law 1605 = .ok (.iconst 1, 1) := by decide +kernel
theorem dL_law_1606 : decode cL_law 1606 = .ok (.iadd, 1) := by decide +kernel
theorem dL_law_1607 : decode cL_law 1607 = .ok (.iaload, 1) := by decide +kernel
theorem dL_law_1608 : decode cL_law 1608 = .ok (.aload_n 0, 1) := by decide +kernel
theorem dL_law_1609 : decode cL_law 1609 = .ok (.iload_n 3, 1) := by decide +kernel
theorem dL_law_1610 : decode cL_law 1610 = .ok (.iconst 2, 1) := by decide +kernel
theorem dL_law_1611 : decode cL_law 1611 = .ok (.iadd, 1) := by decide +kernel
theorem dL_law_1612 : decode cL_law 1612 = .ok (.iaload, 1) := by decide +kernel
theorem dL_law_1613 : decode cL_law 1613 = .ok (.aload_n 0, 1) := by decide +kernel
theorem dL_law_1614 : decode cL_law 1614 = .ok (.iload_n 3, 1) := by decide +kernel
theorem dL_law_1615 : decode cL_law 1615 = .ok (.iconst 3, 1) := by decide +kernel
theorem dL_law_1616 : decode cL_law 1616 = .ok (.iadd, 1) := by decide +kernel
theorem dL_law_1617 : decode cL_law 1617 = .ok (.iaload, 1) := by decide +kernel
theorem dL_law_1618 : decode cL_law 1618 = .ok (.invokevirtual 168, 3) := by decide +kernel
theorem dL_law_1621 : decode cL_law 1621 = .ok (.if_icmp .eq 192, 3) := by decide +kernel
theorem dL_law_1624 : decode cL_law 1624 = .ok (.iconst 0, 1) := by decide +kernel
theorem dL_law_1625 : decode cL_law 1625 = .ok (.ireturn, 1) := by decide +kernel
theorem dL_law_1626 : decode cL_law 1626 = .ok (.aload_n 1, 1) := by decide +kernel
theorem dL_law_1627 : decode cL_law 1627 = .ok (.invokevirtual 169, 3) := by decide +kernel
theorem dL_law_1630 : decode cL_law 1630 = .ok (.aload_n 2, 1) := by decide +kernel
theorem dL_law_1631 : decode cL_law 1631 = .ok (.invokevirtual 173, 3) := by decide +kernel
theorem dL_law_1634 : decode cL_law 1634 = .ok (.if_icmp .eq 179, 3) := by decide +kernel
theorem dL_law_1637 : decode cL_law 1637 = .ok (.iconst 0, 1) := by decide +kernel
theorem dL_law_1638 : decode cL_law 1638 = .ok (.ireturn, 1) := by decide +kernel
theorem dL_law_1639 : decode cL_law 1639 = .ok (.aload_n 1, 1) := by decide +kernel
theorem dL_law_1640 : decode cL_law 1640 = .ok (.aload_n 0, 1) := by decide +kernel
theorem dL_law_1641 : decode cL_law 1641 = .ok (.iload_n 3, 1) := by decide +kernel
theorem dL_law_1642 : decode cL_law 1642 = .ok (.iconst 1, 1) := by decide +kernel
theorem dL_law_1643 : decode cL_law 1643 = .ok (.iadd, 1) := by decide +kernel
theorem dL_law_1644 : decode cL_law 1644 = .ok (.iaload, 1) := by decide +kernel
theorem dL_law_1645 : decode cL_law 1645 = .ok (.aload_n 0, 1) := by decide +kernel
theorem dL_law_1646 : decode cL_law 1646 = .ok (.iload_n 3, 1) := by decide +kernel
theorem dL_law_1647 : decode cL_law 1647 = .ok (.iconst 2, 1) := by decide +kernel
theorem dL_law_1648 : decode cL_law 1648 = .ok (.iadd, 1) := by decide +kernel
theorem dL_law_1649 : decode cL_law 1649 = .ok (.iaload, 1) := by decide +kernel
theorem dL_law_1650 : decode cL_law 1650 = .ok (.invokevirtual 174, 3) := by decide +kernel
theorem dL_law_1653 : decode cL_law 1653 = .ok (.aload_n 2, 1) := by decide +kernel
theorem dL_law_1654 : decode cL_law 1654 = .ok (.aload_n 0, 1) := by decide +kernel
theorem dL_law_1655 : decode cL_law 1655 = .ok (.iload_n 3, 1) := by decide +kernel
theorem dL_law_1656 : decode cL_law 1656 = .ok (.iconst 1, 1) := by decide +kernel
theorem dL_law_1657 : decode cL_law 1657 = .ok (.iadd, 1) := by decide +kernel
theorem dL_law_1658 : decode cL_law 1658 = .ok (.iaload, 1) := by decide +kernel
theorem dL_law_1659 : decode cL_law 1659 = .ok (.aload_n 0, 1) := by decide +kernel
theorem dL_law_1660 : decode cL_law 1660 = .ok (.iload_n 3, 1) := by decide +kernel
theorem dL_law_1661 : decode cL_law 1661 = .ok (.iconst 2, 1) := by decide +kernel
theorem dL_law_1662 : decode cL_law 1662 = .ok (.iadd, 1) := by decide +kernel
theorem dL_law_1663 : decode cL_law 1663 = .ok (.iaload, 1) := by decide +kernel
theorem dL_law_1664 : decode cL_law 1664 = .ok (.invokevirtual 177, 3) := by decide +kernel
theorem dL_law_1667 : decode cL_law 1667 = .ok (.if_icmp .eq 146, 3) := by decide +kernel
theorem dL_law_1670 : decode cL_law 1670 = .ok (.iconst 0, 1) := by decide +kernel
theorem dL_law_1671 : decode cL_law 1671 = .ok (.ireturn, 1) := by decide +kernel
theorem dL_law_1672 : decode cL_law 1672 = .ok (.aload_n 1, 1) := by decide +kernel
theorem dL_law_1673 : decode cL_law 1673 = .ok (.aload_n 0, 1) := by decide +kernel
theorem dL_law_1674 : decode cL_law 1674 = .ok (.iload_n 3, 1) := by decide +kernel
theorem dL_law_1675 : decode cL_law 1675 = .ok (.iconst 1, 1) := by decide +kernel
theorem dL_law_1676 : decode cL_law 1676 = .ok (.iadd, 1) := by decide +kernel
theorem dL_law_1677 : decode cL_law 1677 = .ok (.iaload, 1) := by decide +kernel
theorem dL_law_1678 : decode cL_law 1678 = .ok (.aload_n 0, 1) := by decide +kernel
theorem dL_law_1679 : decode cL_law 1679 = .ok (.iload_n 3, 1) := by decide +kernel
theorem dL_law_1680 : decode cL_law 1680 = .ok (.iconst 2, 1) := by decide +kernel
theorem dL_law_1681 : decode cL_law 1681 = .ok (.iadd, 1) := by decide +kernel
theorem dL_law_1682 : decode cL_law 1682 = .ok (.iaload, 1) := by decide +kernel
theorem dL_law_1683 : decode cL_law 1683 = .ok (.invokevirtual 178, 3) := by decide +kernel
theorem dL_law_1686 : decode cL_law 1686 = .ok (.aload_n 2, 1) := by decide +kernel
theorem dL_law_1687 : decode cL_law 1687 = .ok (.aload_n 0, 1) := by decide +kernel
theorem dL_law_1688 : decode cL_law 1688 = .ok (.iload_n 3, 1) := by decide +kernel
theorem dL_law_1689 : decode cL_law 1689 = .ok (.iconst 1, 1) := by decide +kernel
theorem dL_law_1690 : decode cL_law 1690 = .ok (.iadd, 1) := by decide +kernel
theorem dL_law_1691 : decode cL_law 1691 = .ok (.iaload, 1) := by decide +kernel
theorem dL_law_1692 : decode cL_law 1692 = .ok (.aload_n 0, 1) := by decide +kernel
theorem dL_law_1693 : decode cL_law 1693 = .ok (.iload_n 3, 1) := by decide +kernel
theorem dL_law_1694 : decode cL_law 1694 = .ok (.iconst 2, 1) := by decide +kernel
theorem dL_law_1695 : decode cL_law 1695 = .ok (.iadd, 1) := by decide +kernel
theorem dL_law_1696 : decode cL_law 1696 = .ok (.iaload, 1) := by decide +kernel
theorem dL_law_1697 : decode cL_law 1697 = .ok (.invokevirtual 181, 3) := by decide +kernel
theorem dL_law_1700 : decode cL_law 1700 = .ok (.lcmp, 1) := by decide +kernel
theorem dL_law_1701 : decode cL_law 1701 = .ok (.ifCond .eq 112, 3) := by decide +kernel
theorem dL_law_1704 : decode cL_law 1704 = .ok (.iconst 0, 1) := by decide +kernel
theorem dL_law_1705 : decode cL_law 1705 = .ok (.ireturn, 1) := by decide +kernel
theorem dL_law_1706 : decode cL_law 1706 = .ok (.aload_n 1, 1) := by decide +kernel
theorem dL_law_1707 : decode cL_law 1707 = .ok (.aload_n 0, 1) := by decide +kernel
theorem dL_law_1708 : decode cL_law 1708 = .ok (.iload_n 3, 1) := by decide +kernel
theorem dL_law_1709 : decode cL_law 1709 = .ok (.iconst 1, 1) := by decide +kernel
theorem dL_law_1710 : decode cL_law 1710 = .ok (.iadd, 1) := by decide +kernel
theorem dL_law_1711 : decode cL_law 1711 = .ok (.iaload, 1) := by decide +kernel
theorem dL_law_1712 : decode cL_law 1712 = .ok (.invokevirtual 182, 3) := by decide +kernel
theorem dL_law_1715 : decode cL_law 1715 = .ok (.aload_n 2, 1) := by decide +kernel
theorem dL_law_1716 : decode cL_law 1716 = .ok (.aload_n 0, 1) := by decide +kernel
theorem dL_law_1717 : decode cL_law 1717 = .ok (.iload_n 3, 1) := by decide +kernel
theorem dL_law_1718 : decode cL_law 1718 = .ok (.iconst 1, 1) := by decide +kernel
theorem dL_law_1719 : decode cL_law 1719 = .ok (.iadd, 1) := by decide +kernel
theorem dL_law_1720 : decode cL_law 1720 = .ok (.iaload, 1) := by decide +kernel
theorem dL_law_1721 : decode cL_law 1721 = .ok (.invokevirtual 186, 3) := by decide +kernel
theorem dL_law_1724 : decode cL_law 1724 = .ok (.lcmp, 1) := by decide +kernel
theorem dL_law_1725 : decode cL_law 1725 = .ok (.ifCond .eq 88, 3) := by decide +kernel
theorem dL_law_1728 : decode cL_law 1728 = .ok (.iconst 0, 1) := by decide +kernel
theorem dL_law_1729 : decode cL_law 1729 = .ok (.ireturn, 1) := by decide +kernel
theorem dL_law_1730 : decode cL_law 1730 = .ok (.aload_n 1, 1) := by decide +kernel
theorem dL_law_1731 : decode cL_law 1731 = .ok (.aload_n 0, 1) := by decide +kernel
theorem dL_law_1732 : decode cL_law 1732 = .ok (.iload_n 3, 1) := by decide +kernel
theorem dL_law_1733 : decode cL_law 1733 = .ok (.iconst 1, 1) := by decide +kernel
theorem dL_law_1734 : decode cL_law 1734 = .ok (.iadd, 1) := by decide +kernel
theorem dL_law_1735 : decode cL_law 1735 = .ok (.iaload, 1) := by decide +kernel
theorem dL_law_1736 : decode cL_law 1736 = .ok (.invokevirtual 187, 3) := by decide +kernel
theorem dL_law_1739 : decode cL_law 1739 = .ok (.aload_n 2, 1) := by decide +kernel
theorem dL_law_1740 : decode cL_law 1740 = .ok (.aload_n 0, 1) := by decide +kernel
theorem dL_law_1741 : decode cL_law 1741 = .ok (.iload_n 3, 1) := by decide +kernel
theorem dL_law_1742 : decode cL_law 1742 = .ok (.iconst 1, 1) := by decide +kernel
theorem dL_law_1743 : decode cL_law 1743 = .ok (.iadd, 1) := by decide +kernel
theorem dL_law_1744 : decode cL_law 1744 = .ok (.iaload, 1) := by decide +kernel
theorem dL_law_1745 : decode cL_law 1745 = .ok (.invokevirtual 190, 3) := by decide +kernel
theorem dL_law_1748 : decode cL_law 1748 = .ok (.if_icmp .eq 65, 3) := by decide +kernel
theorem dL_law_1751 : decode cL_law 1751 = .ok (.iconst 0, 1) := by decide +kernel
theorem dL_law_1752 : decode cL_law 1752 = .ok (.ireturn, 1) := by decide +kernel
theorem dL_law_1753 : decode cL_law 1753 = .ok (.aload_n 1, 1) := by decide +kernel
theorem dL_law_1754 : decode cL_law 1754 = .ok (.aload_n 0, 1) := by decide +kernel
theorem dL_law_1755 : decode cL_law 1755 = .ok (.iload_n 3, 1) := by decide +kernel
theorem dL_law_1756 : decode cL_law 1756 = .ok (.iconst 1, 1) := by decide +kernel
theorem dL_law_1757 : decode cL_law 1757 = .ok (.iadd, 1) := by decide +kernel
theorem dL_law_1758 : decode cL_law 1758 = .ok (.iaload, 1) := by decide +kernel
theorem dL_law_1759 : decode cL_law 1759 = .ok (.invokevirtual 191, 3) := by decide +kernel
theorem dL_law_1762 : decode cL_law 1762 = .ok (.aload_n 2, 1) := by decide +kernel
theorem dL_law_1763 : decode cL_law 1763 = .ok (.aload_n 0, 1) := by decide +kernel
theorem dL_law_1764 : decode cL_law 1764 = .ok (.iload_n 3, 1) := by decide +kernel
theorem dL_law_1765 : decode cL_law 1765 = .ok (.iconst 1, 1) := by decide +kernel
theorem dL_law_1766 : decode cL_law 1766 = .ok (.iadd, 1) := by decide +kernel
theorem dL_law_1767 : decode cL_law 1767 = .ok (.iaload, 1) := by decide +kernel
theorem dL_law_1768 : decode cL_law 1768 = .ok (.invokevirtual 194, 3) := by decide +kernel
theorem dL_law_1771 : decode cL_law 1771 = .ok (.if_icmp .eq 42, 3) := by decide +kernel
theorem dL_law_1774 : decode cL_law 1774 = .ok (.iconst 0, 1) := by decide +kernel
theorem dL_law_1775 : decode cL_law 1775 = .ok (.ireturn, 1) := by decide +kernel
theorem dL_law_1776 : decode cL_law 1776 = .ok (.aload_n 1, 1) := by decide +kernel
theorem dL_law_1777 : decode cL_law 1777 = .ok (.aload_n 0, 1) := by decide +kernel
theorem dL_law_1778 : decode cL_law 1778 = .ok (.iload_n 3, 1) := by decide +kernel
theorem dL_law_1779 : decode cL_law 1779 = .ok (.iconst 1, 1) := by decide +kernel
theorem dL_law_1780 : decode cL_law 1780 = .ok (.iadd, 1) := by decide +kernel
theorem dL_law_1781 : decode cL_law 1781 = .ok (.iaload, 1) := by decide +kernel
theorem dL_law_1782 : decode cL_law 1782 = .ok (.invokevirtual 195, 3) := by decide +kernel
theorem dL_law_1785 : decode cL_law 1785 = .ok (.aload_n 2, 1) := by decide +kernel
theorem dL_law_1786 : decode cL_law 1786 = .ok (.aload_n 0, 1) := by decide +kernel
theorem dL_law_1787 : decode cL_law 1787 = .ok (.iload_n 3, 1) := by decide +kernel
theorem dL_law_1788 : decode cL_law 1788 = .ok (.iconst 1, 1) := by decide +kernel
theorem dL_law_1789 : decode cL_law 1789 = .ok (.iadd, 1) := by decide +kernel
theorem dL_law_1790 : decode cL_law 1790 = .ok (.iaload, 1) := by decide +kernel
theorem dL_law_1791 : decode cL_law 1791 = .ok (.invokevirtual 198, 3) := by decide +kernel
theorem dL_law_1794 : decode cL_law 1794 = .ok (.if_icmp .eq 19, 3) := by decide +kernel
theorem dL_law_1797 : decode cL_law 1797 = .ok (.iconst 0, 1) := by decide +kernel
theorem dL_law_1798 : decode cL_law 1798 = .ok (.ireturn, 1) := by decide +kernel
theorem dL_law_1799 : decode cL_law 1799 = .ok (.aload_n 1, 1) := by decide +kernel
theorem dL_law_1800 : decode cL_law 1800 = .ok (.invokevirtual 199, 3) := by decide +kernel
theorem dL_law_1803 : decode cL_law 1803 = .ok (.aload_n 2, 1) := by decide +kernel
theorem dL_law_1804 : decode cL_law 1804 = .ok (.invokevirtual 203, 3) := by decide +kernel
theorem dL_law_1807 : decode cL_law 1807 = .ok (.lcmp, 1) := by decide +kernel
theorem dL_law_1808 : decode cL_law 1808 = .ok (.ifCond .eq 5, 3) := by decide +kernel
theorem dL_law_1811 : decode cL_law 1811 = .ok (.iconst 0, 1) := by decide +kernel
theorem dL_law_1812 : decode cL_law 1812 = .ok (.ireturn, 1) := by decide +kernel
theorem dL_law_1813 : decode cL_law 1813 = .ok (.iinc 3 8, 3) := by decide +kernel
theorem dL_law_1816 : decode cL_law 1816 = .ok (.goto (-1798), 3) := by decide +kernel
theorem dL_law_1819 : decode cL_law 1819 = .ok (.iconst 1, 1) := by decide +kernel
theorem dL_law_1820 : decode cL_law 1820 = .ok (.ireturn, 1) := by decide +kernel
