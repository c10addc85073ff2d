theorem dX12_known_8 : decode cX12_known 8 = .ok (.getfield 7, 3) := by decide +kernel
theorem dX12_known_11 : decode cX12_known 11 = .ok (.bipush 8, 2) := by decide +kernel
theorem dX12_known_13 : decode cX12_known 13 = .ok (.iaload, 1) := by decide +kernel
theorem dX12_known_14 : decode cX12_known 14 = .ok (.if_icmp .ge 114, 3) := by decide +kernel
theorem dX12_known_17 : decode cX12_known 17 = .ok (.sipush 1753, 3) := by decide +kernel
theorem dX12_known_20 : decode cX12_known 20 = .ok (.iconst 5, 1) := by decide +kernel
theorem dX12_known_21 : decode cX12_known 21 = .ok (.iload 4, 2) := by decide +kernel
theorem dX12_known_23 : decode cX12_known 23 = .ok (.imul, 1) := by decide +kernel
theorem dX12_known_24 : decode cX12_known 24 = .ok (.iadd, 1) := by decide +kernel
theorem dX12_known_25 : decode cX12_known 25 = .ok (.istore 5, 2) := by decide +kernel
theorem dX12_known_27 : decode cX12_known 27 = .ok (.iload_n 3, 1) := by decide +kernel
theorem dX12_known_28 : decode cX12_known 28 = .ok (.aload_n 0, 1) := by decide +kernel
theorem dX12_known_29 : decode cX12_known 29 = .ok (.getfield 7, 3) := by decide +kernel
theorem dX12_known_32 : decode cX12_known 32 = .ok (.iload 5, 2) := by decide +kernel
theorem dX12_known_34 : decode cX12_known 34 = .ok (.iaload, 1) := by decide +kernel
theorem dX12_known_35 : decode cX12_known 35 = .ok (.iload_n 1, 1) := by decide +kernel
theorem dX12_known_36 : decode cX12_known 36 = .ok (.if_icmp .ne 43, 3) := by decide +kernel
theorem dX12_known_39 : decode cX12_known 39 = .ok (.aload_n 0, 1) := by decide +kernel
theorem dX12_known_40 : decode cX12_known 40 = .ok (.getfield 7, 3) := by decide +kernel
theorem dX12_known_43 : decode cX12_known 43 = .ok (.iload 5, 2) := by decide +kernel
theorem dX12_known_45 : decode cX12_known 45 = .ok (.iconst 2, 1) := by decide +kernel
theorem dX12_known_46 : decode cX12_known 46 = .ok (.iadd, 1) := by decide +kernel
theorem dX12_known_47 : decode cX12_known 47 = .ok (.iaload, 1) := by decide +kernel
theorem dX12_known_48 : decode cX12_known 48 = .ok (.iload_n 2, 1) := by decide +kernel
theorem dX12_known_49 : decode cX12_known 49 = .ok (.if_icmp .gt 30, 3) := by decide +kernel
theorem dX12_known_52 : decode cX12_known 52 = .ok (.aload_n 0, 1) := by decide +kernel
theorem dX12_known_53 : decode cX12_known 53 = .ok (.getfield 7, 3) := by decide +kernel
theorem dX12_known_56 : decode cX12_known 56 = .ok (.iload 5, 2) := by decide +kernel
theorem dX12_known_58 : decode cX12_known 58 = .ok (.iconst 4, 1) := by decide +kernel
theorem dX12_known_59 : decode cX12_known 59 = .ok (.iadd, 1) := by decide +kernel
theorem dX12_known_60 : decode cX12_known 60 = .ok (.iaload, 1) := by decide +kernel
theorem dX12_known_61 : decode cX12_known 61 = .ok (.iconst (-1), 1) := by decide +kernel
theorem dX12_known_62 : decode cX12_known 62 = .ok (.if_icmp .eq 17, 3) := by decide +kernel
theorem dX12_known_65 : decode cX12_known 65 = .ok (.iconst 1, 1) := by decide +kernel
theorem dX12_known_66 : decode cX12_known 66 = .ok (.aload_n 0, 1) := by decide +kernel
theorem dX12_known_67 : decode cX12_known 67 = .ok (.getfield 7, 3) := by decide +kernel
theorem dX12_known_70 : decode cX12_known 70 = .ok (.iload 5, 2) := by decide +kernel
theorem dX12_known_72 : decode cX12_known 72 = .ok (.iconst 4, 1) := by decide +kernel
theorem dX12_known_73 : decode cX12_known 73 = .ok (.iadd, 1) := by decide +kernel
theorem dX12_known_74 : decode cX12_known 74 = .ok (.iaload, 1) := by decide +kernel
theorem dX12_known_75 : decode cX12_known 75 = .ok (.ishl, 1) := by decide +kernel
theorem dX12_known_76 : decode cX12_known 76 = .ok (.goto 4, 3) := by decide +kernel
theorem dX12_known_79 : decode cX12_known 79 = .ok (.iconst 0, 1) := by decide +kernel
theorem dX12_known_80 : decode cX12_known 80 = .ok (.ior, 1) := by decide +kernel
theorem dX12_known_81 : decode cX12_known 81 = .ok (.istore_n 3, 1) := by decide +kernel
theorem dX12_known_82 : decode cX12_known 82 = .ok (.iload_n 3, 1) := by decide +kernel
theorem dX12_known_83 : decode cX12_known 83 = .ok (.aload_n 0, 1) := by decide +kernel
theorem dX12_known_84 : decode cX12_known 84 = .ok (.getfield 7, 3) := by decide +kernel
theorem dX12_known_87 : decode cX12_known 87 = .ok (.iload 5, 2) := by decide +kernel
theorem dX12_known_89 : decode cX12_known 89 = .ok (.iconst 1, 1) := by decide +kernel
theorem dX12_known_90 : decode cX12_known 90 = .ok (.iadd, 1) := by decide +kernel
theorem dX12_known_91 : decode cX12_known 91 = .ok (.iaload, 1) := by decide +kernel
theorem dX12_known_92 : decode cX12_known 92 = .ok (.iload_n 1, 1) := by decide +kernel
theorem dX12_known_93 : decode cX12_known 93 = .ok (.if_icmp .ne 26, 3) := by decide +kernel
theorem dX12_known_96 : decode cX12_known 96 = .ok (.aload_n 0, 1) := by decide +kernel
theorem dX12_known_97 : decode cX12_known 97 = .ok (.getfield 7, 3) := by decide +kernel
theorem dX12_known_100 : decode cX12_known 100 = .ok (.iload 5, 2) := by decide +kernel
theorem dX12_known_102 : decode cX12_known 102 = .ok (.iconst 3, 1) := by decide +kernel
theorem dX12_known_103 : decode cX12_known 103 = .ok (.iadd, 1) := by decide +kernel
theorem dX12_known_104 : decode cX12_known 104 = .ok (.iaload, 1) := by decide +kernel
theorem dX12_known_105 : decode cX12_known 105 = .ok (.iload_n 2, 1) := by decide +kernel
theorem dX12_known_106 : decode cX12_known 106 = .ok (.if_icmp .gt 13, 3) := by decide +kernel
theorem dX12_known_109 : decode cX12_known 109 = .ok (.aload_n 0, 1) := by decide +kernel
theorem dX12_known_110 : decode cX12_known 110 = .ok (.getfield 63, 3) := by decide +kernel
theorem dX12_known_113 : decode cX12_known 113 = .ok (.iload 4, 2) := by decide +kernel
theorem dX12_known_115 : decode cX12_known 115 = .ok (.iaload, 1) := by decide +kernel
theorem dX12_known_116 : decode cX12_known 116 = .ok (.goto 4, 3) := by decide +kernel
theorem dX12_known_119 : decode cX12_known 119 = .ok (.iconst 0, 1) := by decide +kernel
theorem dX12_known_120 : decode cX12_known 120 = .ok (.ior, 1) := by decide +kernel
theorem dX12_known_121 : decode cX12_known 121 = .ok (.istore_n 3, 1) := by decide +kernel
theorem dX12_known_122 : decode cX12_known 122 = .ok (.iinc 4 1, 3) := by decide +kernel
theorem dX12_known_125 : decode cX12_known 125 = .ok (.goto (-120), 3) := by decide +kernel
theorem dX12_known_128 : decode cX12_known 128 = .ok (.iload_n 3, 1) := by decide +kernel
theorem dX12_known_129 : decode cX12_known 129 = .ok (.ireturn, 1) := by decide +kernel
theorem dX12_findLoads_0 : decode cX12_findLoads 0 = .ok (.iconst 0, 1) := by decide +kernel
theorem dX12_findLoads_1 : decode cX12_findLoads 1 = .ok (.istore_n 1, 1) := by decide +kernel
theorem dX12_findLoads_2 : decode cX12_findLoads 2 = .ok (.iload_n 1, 1) := by decide +kernel
theorem dX12_findLoads_3 : decode cX12_findLoads 3 = .ok (.bipush 30, 2) := by decide +kernel
theorem dX12_findLoads_5 : decode cX12_findLoads 5 = .ok (.if_icmp .ge 16, 3) := by decide +kernel
theorem dX12_findLoads_8 : decode cX12_findLoads 8 = .ok (.aload_n 0, 1) := by decide +kernel
theorem dX12_findLoads_9 : decode cX12_findLoads 9 = .ok (.getfield 63, 3) := by decide +kernel
theorem dX12_findLoads_12 : decode cX12_findLoads 12 = .ok (.iload_n 1, 1) := by decide +kernel
theorem dX12_findLoads_13 : decode cX12_findLoads 13 = .ok (.iconst 0, 1) := by decide +kernel
theorem dX12_findLoads_14 : decode cX12_findLoads 14 = .ok (.iastore, 1) := by decide +kernel
theorem dX12_findLoads_15 : decode cX12_findLoads 15 = .ok (.iinc 1 1, 3) := by decide +kernel
theorem dX12_findLoads_18 : decode cX12_findLoads 18 = .ok (.goto (-16), 3) := by decide +kernel
theorem dX12_findLoads_21 : decode cX12_findLoads 21 = .ok (.iconst 1, 1) := by decide +kernel
theorem dX12_findLoads_22 : decode cX12_findLoads 22 = .ok (.istore_n 1, 1) := by decide +kernel
theorem dX12_findLoads_23 : decode cX12_findLoads 23 = .ok (.iload_n 1, 1) := by decide +kernel
theorem dX12_findLoads_24 : decode cX12_findLoads 24 = .ok (.ifCond .eq 85, 3) := by decide +kernel
theorem dX12_findLoads_27 : decode cX12_findLoads 27 = .ok (.iconst 0, 1) := by decide +kernel
theorem dX12_findLoads_28 : decode cX12_findLoads 28 = .ok (.istore_n 1, 1) := by decide +kernel
theorem dX12_findLoads_29 : decode cX12_findLoads 29 = .ok (.iconst 0, 1) := by decide +kernel
theorem dX12_findLoads_30 : decode cX12_findLoads 30 = .ok (.istore_n 2, 1) := by decide +kernel
theorem dX12_findLoads_31 : decode cX12_findLoads 31 = .ok (.iload_n 2, 1) := by decide +kernel
theorem dX12_findLoads_32 : decode cX12_findLoads 32 = .ok (.aload_n 0, 1) := by decide +kernel
theorem dX12_findLoads_33 : decode cX12_findLoads 33 = .ok (.getfield 7, 3) := by decide +kernel
theorem dX12_findLoads_36 : decode cX12_findLoads 36 = .ok (.bipush 8, 2) := by decide +kernel
theorem dX12_findLoads_38 : decode cX12_findLoads 38 = .ok (.iaload, 1) := by decide +kernel
theorem dX12_findLoads_39 : decode cX12_findLoads 39 = .ok (.if_icmp .ge 67, 3) := by decide +kernel
theorem dX12_findLoads_42 : decode cX12_findLoads 42 = .ok (.aload_n 0, 1) := by decide +kernel
theorem dX12_findLoads_43 : decode cX12_findLoads 43 = .ok (.aload_n 0, 1) := by decide +kernel
theorem dX12_findLoads_44 : decode cX12_findLoads 44 = .ok (.getfield 7, 3) := by decide +kernel
theorem dX12_findLoads_47 : decode cX12_findLoads 47 = .ok (.sipush 1753, 3) := by decide +kernel
theorem dX12_findLoads_50 : decode cX12_findLoads 50 = .ok (.iconst 5, 1) := by decide +kernel
theorem dX12_findLoads_51 : decode cX12_findLoads 51 = .ok (.iload_n 2, 1) := by decide +kernel
theorem dX12_findLoads_52 : decode cX12_findLoads 52 = .ok (.imul, 1) := by decide +kernel
theorem dX12_findLoads_53 : decode cX12_findLoads 53 = .ok (.iadd, 1) := by decide +kernel
theorem dX12_findLoads_54 : decode cX12_findLoads 54 = .ok (.iaload, 1) := by decide +kernel
theorem dX12_findLoads_55 : decode cX12_findLoads 55 = .ok (.aload_n 0, 1) := by decide +kernel
theorem dX12_findLoads_56 : decode cX12_findLoads 56 = .ok (.getfield 7, 3) := by decide +kernel
theorem dX12_findLoads_59 : decode cX12_findLoads 59 = .ok (.sipush 1753, 3) := by decide +kernel
theorem dX12_findLoads_62 : decode cX12_findLoads 62 = .ok (.iconst 5, 1) := by decide +kernel
theorem dX12_findLoads_63 : decode cX12_findLoads 63 = .ok (.iload_n 2, 1) := by decide +kernel
theorem dX12_findLoads_64 : decode cX12_findLoads 64 = .ok (.imul, 1) := by decide +kernel
theorem dX12_findLoads_65 : decode cX12_findLoads 65 = .ok (.iadd, 1) := by decide +kernel
theorem dX12_findLoads_66 : decode cX12_findLoads 66 = .ok (.iconst 2, 1) := by decide +kernel
theorem dX12_findLoads_67 : decode cX12_findLoads 67 = .ok (.iadd, 1) := by decide +kernel
theorem dX12_findLoads_68 : decode cX12_findLoads 68 = .ok (.iaload, 1) := by decide +kernel
theorem dX12_findLoads_69 : decode cX12_findLoads 69 = .ok (.invokevirtual 272, 3) := by decide +kernel
theorem dX12_findLoads_72 : decode cX12_findLoads 72 = .ok (.istore_n 3, 1) := by decide +kernel
theorem dX12_findLoads_73 : decode cX12_findLoads 73 = .ok (.iload_n 1, 1) := by decide +kernel
theorem dX12_findLoads_74 : decode cX12_findLoads 74 = .ok (.ifCond .ne 13, 3) := by decide +kernel
theorem dX12_findLoads_77 : decode cX12_findLoads 77 = .ok (.iload_n 3, 1) := by decide +kernel
theorem dX12_findLoads_78 : decode cX12_findLoads 78 = .ok (.aload_n 0, 1) := by decide +kernel
theorem dX12_findLoads_79 : decode cX12_findLoads 79 = .ok (.getfield 63, 3) := by decide +kernel
theorem dX12_findLoads_82 : decode cX12_findLoads 82 = .ok (.iload_n 2, 1) := by decide +kernel
theorem dX12_findLoads_83 : decode cX12_findLoads 83 = .ok (.iaload, 1) := by decide +kernel
theorem dX12_findLoads_84 : decode cX12_findLoads 84 = .ok (.if_icmp .eq 7, 3) := by decide +kernel
theorem dX12_findLoads_87 : decode cX12_findLoads 87 = .ok (.iconst 1, 1) := by decide +kernel
theorem dX12_findLoads_88 : decode cX12_findLoads 88 = .ok (.goto 4, 3) := by decide +kernel
theorem dX12_findLoads_91 : decode cX12_findLoads 91 = .ok (.iconst 0, 1) := by decide +kernel
theorem dX12_findLoads_92 : decode cX12_findLoads 92 = .ok (.istore_n 1, 1) := by decide +kernel
theorem dX12_findLoads_93 : decode cX12_findLoads 93 = .ok (.aload_n 0, 1) := by decide +kernel
theorem dX12_findLoads_94 : decode cX12_findLoads 94 = .ok (.getfield 63, 3) := by decide +kernel
theorem dX12_findLoads_97 : decode cX12_findLoads 97 = .ok (.iload_n 2, 1) := by decide +kernel
theorem dX12_findLoads_98 : decode cX12_findLoads 98 = .ok (.iload_n 3, 1) := by decide +kernel
theorem dX12_findLoads_99 : decode cX12_findLoads 99 = .ok (.iastore, 1) := by decide +kernel
theorem dX12_findLoads_100 : decode cX12_findLoads 100 = .ok (.iinc 2 1, 3) := by decide +kernel
theorem dX12_findLoads_103 : decode cX12_findLoads 103 = .ok (.goto (-72), 3) := by decide +kernel
theorem dX12_findLoads_106 : decode cX12_findLoads 106 = .ok (.goto (-83), 3) := by decide +kernel
theorem dX12_findLoads_109 : decode cX12_findLoads 109 = .ok (.return_, 1) := by decide +kernel
theorem dX12_knows_0 : decode cX12_knows 0 = .ok (.aload_n 0, 1) := by decide +kernel
theorem dX12_knows_1 : decode cX12_knows 1 = .ok (.iconst 0, 1) := by decide +kernel
theorem dX12_knows_2 : decode cX12_knows 2 = .ok (.iload_n 1, 1) := by decide +kernel
theorem dX12_knows_3 : decode cX12_knows 3 = .ok (.invokevirtual 173, 3) := by decide +kernel
theorem dX12_knows_6 : decode cX12_knows 6 = .ok (.ifCond .eq 27, 3) := by decide +kernel
theorem dX12_knows_9 : decode cX12_knows 9 = .ok (.iload_n 2, 1) := by decide +kernel
theorem dX12_knows_10 : decode cX12_knows 10 = .ok (.i2l, 1) := by decide +kernel
theorem dX12_knows_11 : decode cX12_knows 11 = .ok (.lconst 0, 1) := by decide +kernel
theorem dX12_knows_12 : decode cX12_knows 12 = .ok (.ldc2_w 270, 3) := by decide +kernel
theorem dX12_knows_15 : decode cX12_knows 15 = .ok (.invokestatic 79, 3) := by decide +kernel
theorem dX12_knows_18 : decode cX12_knows 18 = .ok (.ifCond .eq 15, 3) := by decide +kernel
theorem dX12_knows_21 : decode cX12_knows 21 = .ok (.iload_n 3, 1) := by decide +kernel
theorem dX12_knows_22 : decode cX12_knows 22 = .ok (.i2l, 1) := by decide +kernel
theorem dX12_knows_23 : decode cX12_knows 23 = .ok (.lconst 0, 1) := by decide +kernel
theorem dX12_knows_24 : decode cX12_knows 24 = .ok (.ldc2_w 266, 3) := by decide +kernel
theorem dX12_knows_27 : decode cX12_knows 27 = .ok (.invokestatic 79, 3) := by decide +kernel
theorem dX12_knows_30 : decode cX12_knows 30 = .ok (.ifCond .ne 6, 3) := by decide +kernel
theorem dX12_knows_33 : decode cX12_knows 33 = .ok (.bipush (-2), 2) := by decide +kernel
theorem dX12_knows_35 : decode cX12_knows 35 = .ok (.ireturn, 1) := by decide +kernel
theorem dX12_knows_36 : decode cX12_knows 36 = .ok (.aload_n 0, 1) := by decide +kernel
theorem dX12_knows_37 : decode cX12_knows 37 = .ok (.invokevirtual 275, 3) := by decide +kernel
theorem dX12_knows_40 : decode cX12_knows 40 = .ok (.aload_n 0, 1) := by decide +kernel
theorem dX12_knows_41 : decode cX12_knows 41 = .ok (.iload_n 1, 1) := by decide +kernel
theorem dX12_knows_42 : decode cX12_knows 42 = .ok (.iload_n 3, 1) := by decide +kernel
theorem dX12_knows_43 : decode cX12_knows 43 = .ok (.invokevirtual 272, 3) := by decide +kernel
theorem dX12_knows_46 : decode cX12_knows 46 = .ok (.iload_n 2, 1) := by decide +kernel
theorem dX12_knows_47 : decode cX12_knows 47 = .ok (.ishr, 1) := by decide +kernel
theorem dX12_knows_48 : decode cX12_knows 48 = .ok (.iconst 1, 1) := by decide +kernel
theorem dX12_knows_49 : decode cX12_knows 49 = .ok (.iand, 1) := by decide +kernel
theorem dX12_knows_50 : decode cX12_knows 50 = .ok (.ireturn, 1) := by decide +kernel
theorem dX12_carries_0 : decode cX12_carries 0 = .ok (.aload_n 0, 1) := by decide +kernel
theorem dX12_carries_1 : decode cX12_carries 1 = .ok (.bipush 8, 2) := by decide +kernel
theorem dX12_carries_3 : decode cX12_carries 3 = .ok (.iload_n 1, 1) := by decide +kernel
theorem dX12_carries_4 : decode cX12_carries 4 = .ok (.invokevirtual 173, 3) := by decide +kernel
theorem dX12_carries_7 : decode cX12_carries 7 = .ok (.ifCond .ne 6, 3) := by decide +kernel
theorem dX12_carries_10 : decode cX12_carries 10 = .ok (.bipush (-2), 2) := by decide +kernel
theorem dX12_carries_12 : decode cX12_carries 12 = .ok (.ireturn, 1) := by decide +kernel
theorem dX12_carries_13 : decode cX12_carries 13 = .ok (.aload_n 0, 1) := by decide +kernel
theorem dX12_carries_14 : decode cX12_carries 14 = .ok (.invokevirtual 275, 3) := by decide +kernel
theorem dX12_carries_17 : decode cX12_carries 17 = .ok (.aload_n 0, 1) := by decide +kernel
theorem dX12_carries_18 : decode cX12_carries 18 = .ok (.getfield 63, 3) := by decide +kernel
theorem dX12_carries_21 : decode cX12_carries 21 = .ok (.iload_n 1, 1) := by decide +kernel
theorem dX12_carries_22 : decode cX12_carries 22 = .ok (.iaload, 1) := by decide +kernel
theorem dX12_carries_23 : decode cX12_carries 23 = .ok (.ireturn, 1) := by decide +kernel
theorem dX12_mention_0 : decode cX12_mention 0 = .ok (.iload_n 1, 1) := by decide +kernel
theorem dX12_mention_1 : decode cX12_mention 1 = .ok (.i2l, 1) := by decide +kernel
theorem dX12_mention_2 : decode cX12_mention 2 = .ok (.ldc2_w 268, 3) := by decide +kernel
theorem dX12_mention_5 : decode cX12_mention 5 = .ok (.ldc2_w 89, 3) := by decide +kernel
theorem dX12_mention_8 : decode cX12_mention 8 = .ok (.invokestatic 79, 3) := by decide +kernel
theorem dX12_mention_11 : decode cX12_mention 11 = .ok (.ifCond .eq 24, 3) := by decide +kernel
theorem dX12_mention_14 : decode cX12_mention 14 = .ok (.iload_n 2, 1) := by decide +kernel
theorem dX12_mention_15 : decode cX12_mention 15 = .ok (.i2l, 1) := by decide +kernel
theorem dX12_mention_16 : decode cX12_mention 16 = .ok (.ldc2_w 268, 3) := by decide +kernel
theorem dX12_mention_19 : decode cX12_mention 19 = .ok (.ldc2_w 248, 3) := by decide +kernel
theorem dX12_mention_22 : decode cX12_mention 22 = .ok (.invokestatic 79, 3) := by decide +kernel
theorem dX12_mention_25 : decode cX12_mention 25 = .ok (.ifCond .eq 10, 3) := by decide +kernel
theorem dX12_mention_28 : decode cX12_mention 28 = .ok (.iload_n 3, 1) := by decide +kernel
theorem dX12_mention_29 : decode cX12_mention 29 = .ok (.invokestatic 153, 3) := by decide +kernel
theorem dX12_mention_32 : decode cX12_mention 32 = .ok (.ifCond .ne 6, 3) := by decide +kernel
theorem dX12_mention_35 : decode cX12_mention 35 = .ok (.bipush (-2), 2) := by decide +kernel
theorem dX12_mention_37 : decode cX12_mention 37 = .ok (.ireturn, 1) := by decide +kernel
theorem dX12_mention_38 : decode cX12_mention 38 = .ok (.aload_n 0, 1) := by decide +kernel
theorem dX12_mention_39 : decode cX12_mention 39 = .ok (.getfield 7, 3) := by decide +kernel
theorem dX12_mention_42 : decode cX12_mention 42 = .ok (.bipush 9, 2) := by decide +kernel
theorem dX12_mention_44 : decode cX12_mention 44 = .ok (.iaload, 1) := by decide +kernel
theorem dX12_mention_45 : decode cX12_mention 45 = .ok (.bipush 10, 2) := by decide +kernel
theorem dX12_mention_47 : decode cX12_mention 47 = .ok (.if_icmp .ne 6, 3) := by decide +kernel
theorem dX12_mention_50 : decode cX12_mention 50 = .ok (.bipush (-4), 2) := by decide +kernel
theorem dX12_mention_52 : decode cX12_mention 52 = .ok (.ireturn, 1) := by decide +kernel
theorem dX12_mention_53 : decode cX12_mention 53 = .ok (.sipush 1903, 3) := by decide +kernel
theorem dX12_mention_56 : decode cX12_mention 56 = .ok (.iconst 3, 1) := by decide +kernel
theorem dX12_mention_57 : decode cX12_mention 57 = .ok (.aload_n 0, 1) := by decide +kernel
theorem dX12_mention_58 : decode cX12_mention 58 = .ok (.getfield 7, 3) := by decide +kernel
theorem dX12_mention_61 : decode cX12_mention 61 = .ok (.bipush 9, 2) := by decide +kernel
theorem dX12_mention_63 : decode cX12_mention 63 = .ok (.iaload, 1) := by decide +kernel
theorem dX12_mention_64 : decode cX12_mention 64 = .ok (.imul, 1) := by decide +kernel
theorem dX12_mention_65 : decode cX12_mention 65 = .ok (.iadd, 1) := by decide +kernel
theorem dX12_mention_66 : decode cX12_mention 66 = .ok (.istore 4, 2) := by decide +kernel
theorem dX12_mention_68 : decode cX12_mention 68 = .ok (.aload_n 0, 1) := by decide +kernel
theorem dX12_mention_69 : decode cX12_mention 69 = .ok (.getfield 7, 3) := by decide +kernel
theorem dX12_mention_72 : decode cX12_mention 72 = .ok (.iload 4, 2) := by decide +kernel
theorem dX12_mention_74 : decode cX12_mention 74 = .ok (.iload_n 1, 1) := by decide +kernel
theorem dX12_mention_75 : decode cX12_mention 75 = .ok (.iastore, 1) := by decide +kernel
theorem dX12_mention_76 : decode cX12_mention 76 = .ok (.aload_n 0, 1) := by decide +kernel
theorem dX12_mention_77 : decode cX12_mention 77 = .ok (.getfield 7, 3) := by decide +kernel
theorem dX12_mention_80 : decode cX12_mention 80 = .ok (.iload 4, 2) := by decide +kernel
theorem dX12_mention_82 : decode cX12_mention 82 = .ok (.iconst 1, 1) := by decide +kernel
theorem dX12_mention_83 : decode cX12_mention 83 = .ok (.iadd, 1) := by decide +kernel
theorem dX12_mention_84 : decode cX12_mention 84 = .ok (.iload_n 2, 1) := by decide +kernel
theorem dX12_mention_85 : decode cX12_mention 85 = .ok (.iastore, 1) := by decide +kernel
theorem dX12_mention_86 : decode cX12_mention 86 = .ok (.aload_n 0, 1) := by decide +kernel
theorem dX12_mention_87 : decode cX12_mention 87 = .ok (.getfield 7, 3) := by decide +kernel
theorem dX12_mention_90 : decode cX12_mention 90 = .ok (.iload 4, 2) := by decide +kernel
theorem dX12_mention_92 : decode cX12_mention 92 = .ok (.iconst 2, 1) := by decide +kernel
theorem dX12_mention_93 : decode cX12_mention 93 = .ok (.iadd, 1) := by decide +kernel
theorem dX12_mention_94 : decode cX12_mention 94 = .ok (.iload_n 3, 1) := by decide +kernel
theorem dX12_mention_95 : decode cX12_mention 95 = .ok (.iastore, 1) := by decide +kernel
theorem dX12_mention_96 : decode cX12_mention 96 = .ok (.aload_n 0, 1) := by decide +kernel
theorem dX12_mention_97 : decode cX12_mention 97 = .ok (.bipush 9, 2) := by decide +kernel
theorem dX12_mention_99 : decode cX12_mention 99 = .ok (.invokevirtual 91, 3) := by decide +kernel
theorem dX12_mention_102 : decode cX12_mention 102 = .ok (.ireturn, 1) := by decide +kernel
theorem dX12_mayBeOne_0 : decode cX12_mayBeOne 0 = .ok (.sipush 1903, 3) := by decide +kernel
theorem dX12_mayBeOne_3 : decode cX12_mayBeOne 3 = .ok (.iconst 3, 1) := by decide +kernel
theorem dX12_mayBeOne_4 : decode cX12_mayBeOne 4 = .ok (.iload_n 1, 1) := by decide +kernel
theorem dX12_mayBeOne_5 : decode cX12_mayBeOne 5 = .ok (.imul, 1) := by decide +kernel
theorem dX12_mayBeOne_6 : decode cX12_mayBeOne 6 = .ok (.iadd, 1) := by decide +kernel
theorem dX12_mayBeOne_7 : decode cX12_mayBeOne 7 = .ok (.istore_n 3, 1) := by decide +kernel
theorem dX12_mayBeOne_8 : decode cX12_mayBeOne 8 = .ok (.sipush 1903, 3) := by decide +kernel
theorem dX12_mayBeOne_11 : decode cX12_mayBeOne 11 = .ok (.iconst 3, 1) := by decide +kernel
theorem dX12_mayBeOne_12 : decode cX12_mayBeOne 12 = .ok (.iload_n 2, 1) := by decide +kernel
theorem dX12_mayBeOne_13 : decode cX12_mayBeOne 13 = .ok (.imul, 1) := by decide +kernel
theorem dX12_mayBeOne_14 : decode cX12_mayBeOne 14 = .ok (.iadd, 1) := by decide +kernel
theorem dX12_mayBeOne_15 : decode cX12_mayBeOne 15 = .ok (.istore 4, 2) := by decide +kernel
theorem dX12_mayBeOne_17 : decode cX12_mayBeOne 17 = .ok (.aload_n 0, 1) := by decide +kernel
theorem dX12_mayBeOne_18 : decode cX12_mayBeOne 18 = .ok (.getfield 7, 3) := by decide +kernel
theorem dX12_mayBeOne_21 : decode cX12_mayBeOne 21 = .ok (.iload_n 3, 1) := by decide +kernel
theorem dX12_mayBeOne_22 : decode cX12_mayBeOne 22 = .ok (.iaload, 1) := by decide +kernel
theorem dX12_mayBeOne_23 : decode cX12_mayBeOne 23 = .ok (.iconst (-1), 1) := by decide +kernel
theorem dX12_mayBeOne_24 : decode cX12_mayBeOne 24 = .ok (.if_icmp .eq 30, 3) := by decide +kernel
theorem dX12_mayBeOne_27 : decode cX12_mayBeOne 27 = .ok (.aload_n 0, 1) := by decide +kernel
theorem dX12_mayBeOne_28 : decode cX12_mayBeOne 28 = .ok (.getfield 7, 3) := by decide +kernel
theorem dX12_mayBeOne_31 : decode cX12_mayBeOne 31 = .ok (.iload 4, 2) := by decide +kernel
theorem dX12_mayBeOne_33 : decode cX12_mayBeOne 33 = .ok (.iaload, 1) := by decide +kernel
theorem dX12_mayBeOne_34 : decode cX12_mayBeOne 34 = .ok (.iconst (-1), 1) := by decide +kernel
theorem dX12_mayBeOne_35 : decode cX12_mayBeOne 35 = .ok (.if_icmp .eq 19, 3) := by decide +kernel
theorem dX12_mayBeOne_38 : decode cX12_mayBeOne 38 = .ok (.aload_n 0, 1) := by decide +kernel
theorem dX12_mayBeOne_39 : decode cX12_mayBeOne 39 = .ok (.getfield 7, 3) := by decide +kernel
theorem dX12_mayBeOne_42 : decode cX12_mayBeOne 42 = .ok (.iload_n 3, 1) := by decide +kernel
theorem dX12_mayBeOne_43 : decode cX12_mayBeOne 43 = .ok (.iaload, 1) := by decide +kernel
theorem dX12_mayBeOne_44 : decode cX12_mayBeOne 44 = .ok (.aload_n 0, 1) := by decide +kernel
theorem dX12_mayBeOne_45 : decode cX12_mayBeOne 45 = .ok (.getfield 7, 3) := by decide +kernel
theorem dX12_mayBeOne_48 : decode cX12_mayBeOne 48 = .ok (.iload 4, 2) := by decide +kernel
theorem dX12_mayBeOne_50 : decode cX12_mayBeOne 50 = .ok (.iaload, 1) := by decide +kernel
theorem dX12_mayBeOne_51 : decode cX12_mayBeOne 51 = .ok (.if_icmp .ne 7, 3) := by decide +kernel
theorem dX12_mayBeOne_54 : decode cX12_mayBeOne 54 = .ok (.iconst 1, 1) := by decide +kernel
theorem dX12_mayBeOne_55 : decode cX12_mayBeOne 55 = .ok (.goto 4, 3) := by decide +kernel
theorem dX12_mayBeOne_58 : decode cX12_mayBeOne 58 = .ok (.iconst 0, 1) := by decide +kernel
theorem dX12_mayBeOne_59 : decode cX12_mayBeOne 59 = .ok (.istore 5, 2) := by decide +kernel
theorem dX12_mayBeOne_61 : decode cX12_mayBeOne 61 = .ok (.aload_n 0, 1) := by decide +kernel
theorem dX12_mayBeOne_62 : decode cX12_mayBeOne 62 = .ok (.getfield 7, 3) := by decide +kernel
theorem dX12_mayBeOne_65 : decode cX12_mayBeOne 65 = .ok (.iload_n 3, 1) := by decide +kernel
theorem dX12_mayBeOne_66 : decode cX12_mayBeOne 66 = .ok (.iconst 1, 1) := by decide +kernel
theorem dX12_mayBeOne_67 : decode cX12_mayBeOne 67 = .ok (.iadd, 1) := by decide +kernel
theorem dX12_mayBeOne_68 : decode cX12_mayBeOne 68 = .ok (.iaload, 1) := by decide +kernel
theorem dX12_mayBeOne_69 : decode cX12_mayBeOne 69 = .ok (.iconst (-1), 1) := by decide +kernel
theorem dX12_mayBeOne_70 : decode cX12_mayBeOne 70 = .ok (.if_icmp .eq 36, 3) := by decide +kernel
theorem dX12_mayBeOne_73 : decode cX12_mayBeOne 73 = .ok (.aload_n 0, 1) := by decide +kernel
theorem dX12_mayBeOne_74 : decode cX12_mayBeOne 74 = .ok (.getfield 7, 3) := by decide +kernel
theorem dX12_mayBeOne_77 : decode cX12_mayBeOne 77 = .ok (.iload 4, 2) := by decide +kernel
theorem dX12_mayBeOne_79 : decode cX12_mayBeOne 79 = .ok (.iconst 1, 1) := by decide +kernel
theorem dX12_mayBeOne_80 : decode cX12_mayBeOne 80 = .ok (.iadd, 1) := by decide +kernel
theorem dX12_mayBeOne_81 : decode cX12_mayBeOne 81 = .ok (.iaload, 1) := by decide +kernel
theorem dX12_mayBeOne_82 : decode cX12_mayBeOne 82 = .ok (.iconst (-1), 1) := by decide +kernel
theorem dX12_mayBeOne_83 : decode cX12_mayBeOne 83 = .ok (.if_icmp .eq 23, 3) := by decide +kernel
theorem dX12_mayBeOne_86 : decode cX12_mayBeOne 86 = .ok (.aload_n 0, 1) := by decide +kernel
theorem dX12_mayBeOne_87 : decode cX12_mayBeOne 87 = .ok (.getfield 7, 3) := by decide +kernel
theorem dX12_mayBeOne_90 : decode cX12_mayBeOne 90 = .ok (.iload_n 3, 1) := by decide +kernel
theorem dX12_mayBeOne_91 : decode cX12_mayBeOne 91 = .ok (.iconst 1, 1) := by decide +kernel
theorem dX12_mayBeOne_92 : decode cX12_mayBeOne 92 = .ok (.iadd, 1) := by decide +kernel
theorem dX12_mayBeOne_93 : decode cX12_mayBeOne 93 = .ok (.iaload, 1) := by decide +kernel
theorem dX12_mayBeOne_94 : decode cX12_mayBeOne 94 = .ok (.aload_n 0, 1) := by decide +kernel
theorem dX12_mayBeOne_95 : decode cX12_mayBeOne 95 = .ok (.getfield 7, 3) := by decide +kernel
theorem dX12_mayBeOne_98 : decode cX12_mayBeOne 98 = .ok (.iload 4, 2) := by decide +kernel
theorem dX12_mayBeOne_100 : decode cX12_mayBeOne 100 = .ok (.iconst 1, 1) := by decide +kernel
theorem dX12_mayBeOne_101 : decode cX12_mayBeOne 101 = .ok (.iadd, 1) := by decide +kernel
theorem dX12_mayBeOne_102 : decode cX12_mayBeOne 102 = .ok (.iaload, 1) := by decide +kernel
theorem dX12_mayBeOne_103 : decode cX12_mayBeOne 103 = .ok (.if_icmp .ne 7, 3) := by decide +kernel
theorem dX12_mayBeOne_106 : decode cX12_mayBeOne 106 = .ok (.iconst 1, 1) := by decide +kernel
theorem dX12_mayBeOne_107 : decode cX12_mayBeOne 107 = .ok (.goto 4, 3) := by decide +kernel
theorem dX12_mayBeOne_110 : decode cX12_mayBeOne 110 = .ok (.iconst 0, 1) := by decide +kernel
theorem dX12_mayBeOne_111 : decode cX12_mayBeOne 111 = .ok (.istore 6, 2) := by decide +kernel
theorem dX12_mayBeOne_113 : decode cX12_mayBeOne 113 = .ok (.iload 5, 2) := by decide +kernel
theorem dX12_mayBeOne_115 : decode cX12_mayBeOne 115 = .ok (.ifCond .eq 43, 3) := by decide +kernel
theorem dX12_mayBeOne_118 : decode cX12_mayBeOne 118 = .ok (.iload 6, 2) := by decide +kernel
theorem dX12_mayBeOne_120 : decode cX12_mayBeOne 120 = .ok (.ifCond .eq 38, 3) := by decide +kernel
theorem dX12_mayBeOne_123 : decode cX12_mayBeOne 123 = .ok (.aload_n 0, 1) := by decide +kernel
theorem dX12_mayBeOne_124 : decode cX12_mayBeOne 124 = .ok (.getfield 7, 3) := by decide +kernel
theorem dX12_mayBeOne_127 : decode cX12_mayBeOne 127 = .ok (.iload_n 3, 1) := by decide +kernel
theorem dX12_mayBeOne_128 : decode cX12_mayBeOne 128 = .ok (.iconst 2, 1) := by decide +kernel
theorem dX12_mayBeOne_129 : decode cX12_mayBeOne 129 = .ok (.iadd, 1) := by decide +kernel
theorem dX12_mayBeOne_130 : decode cX12_mayBeOne 130 = .ok (.iaload, 1) := by decide +kernel
theorem dX12_mayBeOne_131 : decode cX12_mayBeOne 131 = .ok (.aload_n 0, 1) := by decide +kernel
theorem dX12_mayBeOne_132 : decode cX12_mayBeOne 132 = .ok (.getfield 7, 3) := by decide +kernel
theorem dX12_mayBeOne_135 : decode cX12_mayBeOne 135 = .ok (.iload 4, 2) := by decide +kernel
theorem dX12_mayBeOne_137 : decode cX12_mayBeOne 137 = .ok (.iconst 2, 1) := by decide +kernel
theorem dX12_mayBeOne_138 : decode cX12_mayBeOne 138 = .ok (.iadd, 1) := by decide +kernel
theorem dX12_mayBeOne_139 : decode cX12_mayBeOne 139 = .ok (.iaload, 1) := by decide +kernel
theorem dX12_mayBeOne_140 : decode cX12_mayBeOne 140 = .ok (.isub, 1) := by decide +kernel
theorem dX12_mayBeOne_141 : decode cX12_mayBeOne 141 = .ok (.i2l, 1) := by decide +kernel
theorem dX12_mayBeOne_142 : decode cX12_mayBeOne 142 = .ok (.ldc2_w 278, 3) := by decide +kernel
theorem dX12_mayBeOne_145 : decode cX12_mayBeOne 145 = .ok (.ldc2_w 280, 3) := by decide +kernel
theorem dX12_mayBeOne_148 : decode cX12_mayBeOne 148 = .ok (.invokestatic 79, 3) := by decide +kernel
theorem dX12_mayBeOne_151 : decode cX12_mayBeOne 151 = .ok (.ifCond .eq 7, 3) := by decide +kernel
theorem dX12_mayBeOne_154 : decode cX12_mayBeOne 154 = .ok (.iconst 1, 1) := by decide +kernel
theorem dX12_mayBeOne_155 : decode cX12_mayBeOne 155 = .ok (.goto 4, 3) := by decide +kernel
theorem dX12_mayBeOne_158 : decode cX12_mayBeOne 158 = .ok (.iconst 0, 1) := by decide +kernel
theorem dX12_mayBeOne_159 : decode cX12_mayBeOne 159 = .ok (.ireturn, 1) := by decide +kernel
theorem dX12_mayFollow_0 : decode cX12_mayFollow 0 = .ok (.aload_n 0, 1) := by decide +kernel
theorem dX12_mayFollow_1 : decode cX12_mayFollow 1 = .ok (.getfield 66, 3) := by decide +kernel
theorem dX12_mayFollow_4 : decode cX12_mayFollow 4 = .ok (.iload_n 1, 1) := by decide +kernel
theorem dX12_mayFollow_5 : decode cX12_mayFollow 5 = .ok (.iaload, 1) := by decide +kernel
theorem dX12_mayFollow_6 : decode cX12_mayFollow 6 = .ok (.iload_n 1, 1) := by decide +kernel
theorem dX12_mayFollow_7 : decode cX12_mayFollow 7 = .ok (.if_icmp .ne 5, 3) := by decide +kernel
theorem dX12_mayFollow_10 : decode cX12_mayFollow 10 = .ok (.iconst 1, 1) := by decide +kernel
theorem dX12_mayFollow_11 : decode cX12_mayFollow 11 = .ok (.ireturn, 1) := by decide +kernel
theorem dX12_mayFollow_12 : decode cX12_mayFollow 12 = .ok (.aload_n 0, 1) := by decide +kernel
theorem dX12_mayFollow_13 : decode cX12_mayFollow 13 = .ok (.getfield 66, 3) := by decide +kernel
theorem dX12_mayFollow_16 : decode cX12_mayFollow 16 = .ok (.aload_n 0, 1) := by decide +kernel
theorem dX12_mayFollow_17 : decode cX12_mayFollow 17 = .ok (.getfield 66, 3) := by decide +kernel
theorem dX12_mayFollow_20 : decode cX12_mayFollow 20 = .ok (.iload_n 1, 1) := by decide +kernel
theorem dX12_mayFollow_21 : decode cX12_mayFollow 21 = .ok (.iaload, 1) := by decide +kernel
theorem dX12_mayFollow_22 : decode cX12_mayFollow 22 = .ok (.iaload, 1) := by decide +kernel
theorem dX12_mayFollow_23 : decode cX12_mayFollow 23 = .ok (.aload_n 0, 1) := by decide +kernel
theorem dX12_mayFollow_24 : decode cX12_mayFollow 24 = .ok (.getfield 66, 3) := by decide +kernel
theorem dX12_mayFollow_27 : decode cX12_mayFollow 27 = .ok (.iload_n 1, 1) := by decide +kernel
theorem dX12_mayFollow_28 : decode cX12_mayFollow 28 = .ok (.iaload, 1) := by decide +kernel
theorem dX12_mayFollow_29 : decode cX12_mayFollow 29 = .ok (.if_icmp .eq 5, 3) := by decide +kernel
theorem dX12_mayFollow_32 : decode cX12_mayFollow 32 = .ok (.iconst 0, 1) := by decide +kernel
theorem dX12_mayFollow_33 : decode cX12_mayFollow 33 = .ok (.ireturn, 1) := by decide +kernel
theorem dX12_mayFollow_34 : decode cX12_mayFollow 34 = .ok (.iconst 0, 1) := by decide +kernel
theorem dX12_mayFollow_35 : decode cX12_mayFollow 35 = .ok (.istore_n 2, 1) := by decide +kernel
theorem dX12_mayFollow_36 : decode cX12_mayFollow 36 = .ok (.iload_n 2, 1) := by decide +kernel
theorem dX12_mayFollow_37 : decode cX12_mayFollow 37 = .ok (.iload_n 1, 1) := by decide +kernel
theorem dX12_mayFollow_38 : decode cX12_mayFollow 38 = .ok (.if_icmp .ge 35, 3) := by decide +kernel
theorem dX12_mayFollow_41 : decode cX12_mayFollow 41 = .ok (.aload_n 0, 1) := by decide +kernel
theorem dX12_mayFollow_42 : decode cX12_mayFollow 42 = .ok (.getfield 66, 3) := by decide +kernel
theorem dX12_mayFollow_45 : decode cX12_mayFollow 45 = .ok (.iload_n 2, 1) := by decide +kernel
theorem dX12_mayFollow_46 : decode cX12_mayFollow 46 = .ok (.iaload, 1) := by decide +kernel
theorem dX12_mayFollow_47 : decode cX12_mayFollow 47 = .ok (.aload_n 0, 1) := by decide +kernel
theorem dX12_mayFollow_48 : decode cX12_mayFollow 48 = .ok (.getfield 66, 3) := by decide +kernel
theorem dX12_mayFollow_51 : decode cX12_mayFollow 51 = .ok (.iload_n 1, 1) := by decide +kernel
theorem dX12_mayFollow_52 : decode cX12_mayFollow 52 = .ok (.iaload, 1) := by decide +kernel
theorem dX12_mayFollow_53 : decode cX12_mayFollow 53 = .ok (.if_icmp .ne 14, 3) := by decide +kernel
theorem dX12_mayFollow_56 : decode cX12_mayFollow 56 = .ok (.aload_n 0, 1) := by decide +kernel
theorem dX12_mayFollow_57 : decode cX12_mayFollow 57 = .ok (.iload_n 1, 1) := by decide +kernel
theorem dX12_mayFollow_58 : decode cX12_mayFollow 58 = .ok (.iload_n 2, 1) := by decide +kernel
theorem dX12_mayFollow_59 : decode cX12_mayFollow 59 = .ok (.invokevirtual 282, 3) := by decide +kernel
theorem dX12_mayFollow_62 : decode cX12_mayFollow 62 = .ok (.ifCond .ne 5, 3) := by decide +kernel
theorem dX12_mayFollow_65 : decode cX12_mayFollow 65 = .ok (.iconst 0, 1) := by decide +kernel
theorem dX12_mayFollow_66 : decode cX12_mayFollow 66 = .ok (.ireturn, 1) := by decide +kernel
theorem dX12_mayFollow_67 : decode cX12_mayFollow 67 = .ok (.iinc 2 1, 3) := by decide +kernel
theorem dX12_mayFollow_70 : decode cX12_mayFollow 70 = .ok (.goto (-34), 3) := by decide +kernel
theorem dX12_mayFollow_73 : decode cX12_mayFollow 73 = .ok (.iconst 1, 1) := by decide +kernel
theorem dX12_mayFollow_74 : decode cX12_mayFollow 74 = .ok (.ireturn, 1) := by decide +kernel
theorem dX12_findMen_0 : decode cX12_findMen 0 = .ok (.aload_n 0, 1) := by decide +kernel
theorem dX12_findMen_1 : decode cX12_findMen 1 = .ok (.getfield 7, 3) := by decide +kernel
theorem dX12_findMen_4 : decode cX12_findMen 4 = .ok (.bipush 9, 2) := by decide +kernel
theorem dX12_findMen_6 : decode cX12_findMen 6 = .ok (.iaload, 1) := by decide +kernel
theorem dX12_findMen_7 : decode cX12_findMen 7 = .ok (.istore_n 1, 1) := by decide +kernel
theorem dX12_findMen_8 : decode cX12_findMen 8 = .ok (.iload_n 1, 1) := by decide +kernel
theorem dX12_findMen_9 : decode cX12_findMen 9 = .ok (.ifCond .ne 7, 3) := by decide +kernel
theorem dX12_findMen_12 : decode cX12_findMen 12 = .ok (.iconst 0, 1) := by decide +kernel
theorem dX12_findMen_13 : decode cX12_findMen 13 = .ok (.goto 4, 3) := by decide +kernel
theorem dX12_findMen_16 : decode cX12_findMen 16 = .ok (.iconst (-1), 1) := by decide +kernel
theorem dX12_findMen_17 : decode cX12_findMen 17 = .ok (.istore_n 2, 1) := by decide +kernel
theorem dX12_findMen_18 : decode cX12_findMen 18 = .ok (.iload_n 1, 1) := by decide +kernel
theorem dX12_findMen_19 : decode cX12_findMen 19 = .ok (.ifCond .ne 7, 3) := by decide +kernel
theorem dX12_findMen_22 : decode cX12_findMen 22 = .ok (.iconst (-1), 1) := by decide +kernel
theorem dX12_findMen_23 : decode cX12_findMen 23 = .ok (.goto 4, 3) := by decide +kernel
theorem dX12_findMen_26 : decode cX12_findMen 26 = .ok (.iconst 0, 1) := by decide +kernel
theorem dX12_findMen_27 : decode cX12_findMen 27 = .ok (.istore_n 3, 1) := by decide +kernel
theorem dX12_findMen_28 : decode cX12_findMen 28 = .ok (.aload_n 0, 1) := by decide +kernel
theorem dX12_findMen_29 : decode cX12_findMen 29 = .ok (.getfield 66, 3) := by decide +kernel
theorem dX12_findMen_32 : decode cX12_findMen 32 = .ok (.iconst 0, 1) := by decide +kernel
theorem dX12_findMen_33 : decode cX12_findMen 33 = .ok (.iconst (-1), 1) := by decide +kernel
theorem dX12_findMen_34 : decode cX12_findMen 34 = .ok (.iastore, 1) := by decide +kernel
theorem dX12_findMen_35 : decode cX12_findMen 35 = .ok (.iload_n 3, 1) := by decide +kernel
theorem dX12_findMen_36 : decode cX12_findMen 36 = .ok (.ifCond .lt 143, 3) := by decide +kernel
theorem dX12_findMen_39 : decode cX12_findMen 39 = .ok (.aload_n 0, 1) := by decide +kernel
theorem dX12_findMen_40 : decode cX12_findMen 40 = .ok (.getfield 66, 3) := by decide +kernel
theorem dX12_findMen_43 : decode cX12_findMen 43 = .ok (.iload_n 3, 1) := by decide +kernel
theorem dX12_findMen_44 : decode cX12_findMen 44 = .ok (.dup2, 1) := by decide +kernel
theorem dX12_findMen_45 : decode cX12_findMen 45 = .ok (.iaload, 1) := by decide +kernel
theorem dX12_findMen_46 : decode cX12_findMen 46 = .ok (.iconst 1, 1) := by decide +kernel
theorem dX12_findMen_47 : decode cX12_findMen 47 = .ok (.iadd, 1) := by decide +kernel
theorem dX12_findMen_48 : decode cX12_findMen 48 = .ok (.iastore, 1) := by decide +kernel
theorem dX12_findMen_49 : decode cX12_findMen 49 = .ok (.aload_n 0, 1) := by decide +kernel
theorem dX12_findMen_50 : decode cX12_findMen 50 = .ok (.getfield 66, 3) := by decide +kernel
theorem dX12_findMen_53 : decode cX12_findMen 53 = .ok (.iload_n 3, 1) := by decide +kernel
theorem dX12_findMen_54 : decode cX12_findMen 54 = .ok (.iaload, 1) := by decide +kernel
theorem dX12_findMen_55 : decode cX12_findMen 55 = .ok (.iload_n 3, 1) := by decide +kernel
theorem dX12_findMen_56 : decode cX12_findMen 56 = .ok (.if_icmp .le 9, 3) := by decide +kernel
theorem dX12_findMen_59 : decode cX12_findMen 59 = .ok (.iinc 3 (-1), 3) := by decide +kernel
theorem dX12_findMen_62 : decode cX12_findMen 62 = .ok (.goto (-27), 3) := by decide +kernel
theorem dX12_findMen_65 : decode cX12_findMen 65 = .ok (.aload_n 0, 1) := by decide +kernel
theorem dX12_findMen_66 : decode cX12_findMen 66 = .ok (.iload_n 3, 1) := by decide +kernel
theorem dX12_findMen_67 : decode cX12_findMen 67 = .ok (.invokevirtual 285, 3) := by decide +kernel
theorem dX12_findMen_70 : decode cX12_findMen 70 = .ok (.ifCond .eq (-35), 3) := by decide +kernel
theorem dX12_findMen_73 : decode cX12_findMen 73 = .ok (.iload_n 3, 1) := by decide +kernel
theorem dX12_findMen_74 : decode cX12_findMen 74 = .ok (.iconst 1, 1) := by decide +kernel
theorem dX12_findMen_75 : decode cX12_findMen 75 = .ok (.iadd, 1) := by decide +kernel
theorem dX12_findMen_76 : decode cX12_findMen 76 = .ok (.iload_n 1, 1) := by decide +kernel
theorem dX12_findMen_77 : decode cX12_findMen 77 = .ok (.if_icmp .ge 16, 3) := by decide +kernel
theorem dX12_findMen_80 : decode cX12_findMen 80 = .ok (.iinc 3 1, 3) := by decide +kernel
theorem dX12_findMen_83 : decode cX12_findMen 83 = .ok (.aload_n 0, 1) := by decide +kernel
theorem dX12_findMen_84 : decode cX12_findMen 84 = .ok (.getfield 66, 3) := by decide +kernel
theorem dX12_findMen_87 : decode cX12_findMen 87 = .ok (.iload_n 3, 1) := by decide +kernel
theorem dX12_findMen_88 : decode cX12_findMen 88 = .ok (.iconst (-1), 1) := by decide +kernel
theorem dX12_findMen_89 : decode cX12_findMen 89 = .ok (.iastore, 1) := by decide +kernel
theorem dX12_findMen_90 : decode cX12_findMen 90 = .ok (.goto (-55), 3) := by decide +kernel
theorem dX12_findMen_93 : decode cX12_findMen 93 = .ok (.iconst 0, 1) := by decide +kernel
theorem dX12_findMen_94 : decode cX12_findMen 94 = .ok (.istore 4, 2) := by decide +kernel
theorem dX12_findMen_96 : decode cX12_findMen 96 = .ok (.iconst 0, 1) := by decide +kernel
theorem dX12_findMen_97 : decode cX12_findMen 97 = .ok (.istore 5, 2) := by decide +kernel
theorem dX12_findMen_99 : decode cX12_findMen 99 = .ok (.iload 5, 2) := by decide +kernel
theorem dX12_findMen_101 : decode cX12_findMen 101 = .ok (.iload_n 1, 1) := by decide +kernel
theorem dX12_findMen_102 : decode cX12_findMen 102 = .ok (.if_icmp .ge 31, 3) := by decide +kernel
theorem dX12_findMen_105 : decode cX12_findMen 105 = .ok (.iload 4, 2) := by decide +kernel
theorem dX12_findMen_107 : decode cX12_findMen 107 = .ok (.aload_n 0, 1) := by decide +kernel
theorem dX12_findMen_108 : decode cX12_findMen 108 = .ok (.getfield 66, 3) := by decide +kernel
theorem dX12_findMen_111 : decode cX12_findMen 111 = .ok (.iload 5, 2) := by decide +kernel
theorem dX12_findMen_113 : decode cX12_findMen 113 = .ok (.iaload, 1) := by decide +kernel
theorem dX12_findMen_114 : decode cX12_findMen 114 = .ok (.iload 5, 2) := by decide +kernel
theorem dX12_findMen_116 : decode cX12_findMen 116 = .ok (.if_icmp .ne 7, 3) := by decide +kernel
theorem dX12_findMen_119 : decode cX12_findMen 119 = .ok (.iconst 1, 1) := by decide +kernel
theorem dX12_findMen_120 : decode cX12_findMen 120 = .ok (.goto 4, 3) := by decide +kernel
theorem dX12_findMen_123 : decode cX12_findMen 123 = .ok (.iconst 0, 1) := by decide +kernel
theorem dX12_findMen_124 : decode cX12_findMen 124 = .ok (.iadd, 1) := by decide +kernel
theorem dX12_findMen_125 : decode cX12_findMen 125 = .ok (.istore 4, 2) := by decide +kernel
theorem dX12_findMen_127 : decode cX12_findMen 127 = .ok (.iinc 5 1, 3) := by decide +kernel
theorem dX12_findMen_130 : decode cX12_findMen 130 = .ok (.goto (-31), 3) := by decide +kernel
theorem dX12_findMen_133 : decode cX12_findMen 133 = .ok (.iload_n 2, 1) := by decide +kernel
theorem dX12_findMen_134 : decode cX12_findMen 134 = .ok (.iconst (-1), 1) := by decide +kernel
theorem dX12_findMen_135 : decode cX12_findMen 135 = .ok (.if_icmp .eq 9, 3) := by decide +kernel
theorem dX12_findMen_138 : decode cX12_findMen 138 = .ok (.iload 4, 2) := by decide +kernel
theorem dX12_findMen_140 : decode cX12_findMen 140 = .ok (.iload_n 2, 1) := by decide +kernel
theorem dX12_findMen_141 : decode cX12_findMen 141 = .ok (.if_icmp .ge 35, 3) := by decide +kernel
theorem dX12_findMen_144 : decode cX12_findMen 144 = .ok (.iload 4, 2) := by decide +kernel
theorem dX12_findMen_146 : decode cX12_findMen 146 = .ok (.istore_n 2, 1) := by decide +kernel
theorem dX12_findMen_147 : decode cX12_findMen 147 = .ok (.iconst 0, 1) := by decide +kernel
theorem dX12_findMen_148 : decode cX12_findMen 148 = .ok (.istore 5, 2) := by decide +kernel
theorem dX12_findMen_150 : decode cX12_findMen 150 = .ok (.iload 5, 2) := by decide +kernel
theorem dX12_findMen_152 : decode cX12_findMen 152 = .ok (.iload_n 1, 1) := by decide +kernel
theorem dX12_findMen_153 : decode cX12_findMen 153 = .ok (.if_icmp .ge 23, 3) := by decide +kernel
theorem dX12_findMen_156 : decode cX12_findMen 156 = .ok (.aload_n 0, 1) := by decide +kernel
theorem dX12_findMen_157 : decode cX12_findMen 157 = .ok (.getfield 69, 3) := by decide +kernel
theorem dX12_findMen_160 : decode cX12_findMen 160 = .ok (.iload 5, 2) := by decide +kernel
theorem dX12_findMen_162 : decode cX12_findMen 162 = .ok (.aload_n 0, 1) := by decide +kernel
theorem dX12_findMen_163 : decode cX12_findMen 163 = .ok (.getfield 66, 3) := by decide +kernel
theorem dX12_findMen_166 : decode cX12_findMen 166 = .ok (.iload 5, 2) := by decide +kernel
theorem dX12_findMen_168 : decode cX12_findMen 168 = .ok (.iaload, 1) := by decide +kernel
theorem dX12_findMen_169 : decode cX12_findMen 169 = .ok (.iastore, 1) := by decide +kernel
theorem dX12_findMen_170 : decode cX12_findMen 170 = .ok (.iinc 5 1, 3) := by decide +kernel
theorem dX12_findMen_173 : decode cX12_findMen 173 = .ok (.goto (-23), 3) := by decide +kernel
theorem dX12_findMen_176 : decode cX12_findMen 176 = .ok (.goto (-141), 3) := by decide +kernel
theorem dX12_findMen_179 : decode cX12_findMen 179 = .ok (.iload_n 2, 1) := by decide +kernel
theorem dX12_findMen_180 : decode cX12_findMen 180 = .ok (.ireturn, 1) := by decide +kernel
theorem dX12_men_0 : decode cX12_men 0 = .ok (.iload_n 1, 1) := by decide +kernel
theorem dX12_men_1 : decode cX12_men 1 = .ok (.iconst (-1), 1) := by decide +kernel
theorem dX12_men_2 : decode cX12_men 2 = .ok (.if_icmp .eq 16, 3) := by decide +kernel
theorem dX12_men_5 : decode cX12_men 5 = .ok (.aload_n 0, 1) := by decide +kernel
theorem dX12_men_6 : decode cX12_men 6 = .ok (.bipush 9, 2) := by decide +kernel
theorem dX12_men_8 : decode cX12_men 8 = .ok (.iload_n 1, 1) := by decide +kernel
theorem dX12_men_9 : decode cX12_men 9 = .ok (.invokevirtual 173, 3) := by decide +kernel
theorem dX12_men_12 : decode cX12_men 12 = .ok (.ifCond .ne 6, 3) := by decide +kernel
theorem dX12_men_15 : decode cX12_men 15 = .ok (.bipush (-10), 2) := by decide +kernel
theorem dX12_men_17 : decode cX12_men 17 = .ok (.ireturn, 1) := by decide +kernel
theorem dX12_men_18 : decode cX12_men 18 = .ok (.aload_n 0, 1) := by decide +kernel
theorem dX12_men_19 : decode cX12_men 19 = .ok (.invokevirtual 288, 3) := by decide +kernel
theorem dX12_men_22 : decode cX12_men 22 = .ok (.istore_n 2, 1) := by decide +kernel
theorem dX12_men_23 : decode cX12_men 23 = .ok (.iload_n 1, 1) := by decide +kernel
theorem dX12_men_24 : decode cX12_men 24 = .ok (.iconst (-1), 1) := by decide +kernel
theorem dX12_men_25 : decode cX12_men 25 = .ok (.if_icmp .ne 7, 3) := by decide +kernel
theorem dX12_men_28 : decode cX12_men 28 = .ok (.iload_n 2, 1) := by decide +kernel
theorem dX12_men_29 : decode cX12_men 29 = .ok (.goto 9, 3) := by decide +kernel
theorem dX12_men_32 : decode cX12_men 32 = .ok (.aload_n 0, 1) := by decide +kernel
theorem dX12_men_33 : decode cX12_men 33 = .ok (.getfield 69, 3) := by decide +kernel
theorem dX12_men_36 : decode cX12_men 36 = .ok (.iload_n 1, 1) := by decide +kernel
theorem dX12_men_37 : decode cX12_men 37 = .ok (.iaload, 1) := by decide +kernel
theorem dX12_men_38 : decode cX12_men 38 = .ok (.ireturn, 1) := by decide +kernel
theorem dX12_load_0 : decode cX12_load 0 = .ok (.aload_n 0, 1) := by decide +kernel
theorem dX12_load_1 : decode cX12_load 1 = .ok (.iconst 0, 1) := by decide +kernel
theorem dX12_load_2 : decode cX12_load 2 = .ok (.iload_n 1, 1) := by decide +kernel
theorem dX12_load_3 : decode cX12_load 3 = .ok (.invokevirtual 173, 3) := by decide +kernel
theorem dX12_load_6 : decode cX12_load 6 = .ok (.ifCond .eq 22, 3) := by decide +kernel
theorem dX12_load_9 : decode cX12_load 9 = .ok (.iload_n 2, 1) := by decide +kernel
theorem dX12_load_10 : decode cX12_load 10 = .ok (.invokestatic 216, 3) := by decide +kernel
theorem dX12_load_13 : decode cX12_load 13 = .ok (.ifCond .eq 15, 3) := by decide +kernel
theorem dX12_load_16 : decode cX12_load 16 = .ok (.iload_n 3, 1) := by decide +kernel
theorem dX12_load_17 : decode cX12_load 17 = .ok (.i2l, 1) := by decide +kernel
theorem dX12_load_18 : decode cX12_load 18 = .ok (.lconst 0, 1) := by decide +kernel
theorem dX12_load_19 : decode cX12_load 19 = .ok (.ldc2_w 177, 3) := by decide +kernel
theorem dX12_load_22 : decode cX12_load 22 = .ok (.invokestatic 79, 3) := by decide +kernel
theorem dX12_load_25 : decode cX12_load 25 = .ok (.ifCond .ne 6, 3) := by decide +kernel
theorem dX12_load_28 : decode cX12_load 28 = .ok (.bipush (-2), 2) := by decide +kernel
theorem dX12_load_30 : decode cX12_load 30 = .ok (.ireturn, 1) := by decide +kernel
theorem dX12_load_31 : decode cX12_load 31 = .ok (.aload_n 0, 1) := by decide +kernel
theorem dX12_load_32 : decode cX12_load 32 = .ok (.getfield 7, 3) := by decide +kernel
theorem dX12_load_35 : decode cX12_load 35 = .ok (.bipush 10, 2) := by decide +kernel
theorem dX12_load_37 : decode cX12_load 37 = .ok (.iaload, 1) := by decide +kernel
theorem dX12_load_38 : decode cX12_load 38 = .ok (.bipush 6, 2) := by decide +kernel
theorem dX12_load_40 : decode cX12_load 40 = .ok (.if_icmp .ne 6, 3) := by decide +kernel
theorem dX12_load_43 : decode cX12_load 43 = .ok (.bipush (-4), 2) := by decide +kernel
theorem dX12_load_45 : decode cX12_load 45 = .ok (.ireturn, 1) := by decide +kernel
theorem dX12_load_46 : decode cX12_load 46 = .ok (.sipush 1933, 3) := by decide +kernel
theorem dX12_load_49 : decode cX12_load 49 = .ok (.iconst 3, 1) := by decide +kernel
theorem dX12_load_50 : decode cX12_load 50 = .ok (.aload_n 0, 1) := by decide +kernel
theorem dX12_load_51 : decode cX12_load 51 = .ok (.getfield 7, 3) := by decide +kernel
theorem dX12_load_54 : decode cX12_load 54 = .ok (.bipush 10, 2) := by decide +kernel
theorem dX12_load_56 : decode cX12_load 56 = .ok (.iaload, 1) := by decide +kernel
theorem dX12_load_57 : decode cX12_load 57 = .ok (.imul, 1) := by decide +kernel
theorem dX12_load_58 : decode cX12_load 58 = .ok (.iadd, 1) := by decide +kernel
theorem dX12_load_59 : decode cX12_load 59 = .ok (.istore 4, 2) := by decide +kernel
theorem dX12_load_61 : decode cX12_load 61 = .ok (.aload_n 0, 1) := by decide +kernel
theorem dX12_load_62 : decode cX12_load 62 = .ok (.getfield 7, 3) := by decide +kernel
theorem dX12_load_65 : decode cX12_load 65 = .ok (.iload 4, 2) := by decide +kernel
theorem dX12_load_67 : decode cX12_load 67 = .ok (.iload_n 1, 1) := by decide +kernel
theorem dX12_load_68 : decode cX12_load 68 = .ok (.iastore, 1) := by decide +kernel
theorem dX12_load_69 : decode cX12_load 69 = .ok (.aload_n 0, 1) := by decide +kernel
theorem dX12_load_70 : decode cX12_load 70 = .ok (.getfield 7, 3) := by decide +kernel
theorem dX12_load_73 : decode cX12_load 73 = .ok (.iload 4, 2) := by decide +kernel
theorem dX12_load_75 : decode cX12_load 75 = .ok (.iconst 1, 1) := by decide +kernel
theorem dX12_load_76 : decode cX12_load 76 = .ok (.iadd, 1) := by decide +kernel
theorem dX12_load_77 : decode cX12_load 77 = .ok (.iload_n 2, 1) := by decide +kernel
theorem dX12_load_78 : decode cX12_load 78 = .ok (.iastore, 1) := by decide +kernel
theorem dX12_load_79 : decode cX12_load 79 = .ok (.aload_n 0, 1) := by decide +kernel
theorem dX12_load_80 : decode cX12_load 80 = .ok (.getfield 7, 3) := by decide +kernel
theorem dX12_load_83 : decode cX12_load 83 = .ok (.iload 4, 2) := by decide +kernel
theorem dX12_load_85 : decode cX12_load 85 = .ok (.iconst 2, 1) := by decide +kernel
theorem dX12_load_86 : decode cX12_load 86 = .ok (.iadd, 1) := by decide +kernel
theorem dX12_load_87 : decode cX12_load 87 = .ok (.iload_n 3, 1) := by decide +kernel
theorem dX12_load_88 : decode cX12_load 88 = .ok (.iastore, 1) := by decide +kernel
theorem dX12_load_89 : decode cX12_load 89 = .ok (.aload_n 0, 1) := by decide +kernel
theorem dX12_load_90 : decode cX12_load 90 = .ok (.bipush 10, 2) := by decide +kernel
theorem dX12_load_92 : decode cX12_load 92 = .ok (.invokevirtual 91, 3) := by decide +kernel
theorem dX12_load_95 : decode cX12_load 95 = .ok (.ireturn, 1) := by decide +kernel
theorem dX12_unload_0 : decode cX12_unload 0 = .ok (.aload_n 0, 1) := by decide +kernel
theorem dX12_unload_1 : decode cX12_unload 1 = .ok (.bipush 10, 2) := by decide +kernel
theorem dX12_unload_3 : decode cX12_unload 3 = .ok (.iconst 0, 1) := by decide +kernel
theorem dX12_unload_4 : decode cX12_unload 4 = .ok (.invokevirtual 144, 3) := by decide +kernel
theorem dX12_unload_7 : decode cX12_unload 7 = .ok (.ireturn, 1) := by decide +kernel
theorem dX12_price_0 : decode cX12_price 0 = .ok (.iload_n 1, 1) := by decide +kernel
theorem dX12_price_1 : decode cX12_price 1 = .ok (.i2l, 1) := by decide +kernel
theorem dX12_price_2 : decode cX12_price 2 = .ok (.lconst 0, 1) := by decide +kernel
theorem dX12_price_3 : decode cX12_price 3 = .ok (.ldc2_w 168, 3) := by decide +kernel
theorem dX12_price_6 : decode cX12_price 6 = .ok (.invokestatic 79, 3) := by decide +kernel
theorem dX12_price_9 : decode cX12_price 9 = .ok (.ifCond .eq 27, 3) := by decide +kernel
theorem dX12_price_12 : decode cX12_price 12 = .ok (.iload_n 2, 1) := by decide +kernel
theorem dX12_price_13 : decode cX12_price 13 = .ok (.i2l, 1) := by decide +kernel
theorem dX12_price_14 : decode cX12_price 14 = .ok (.lconst 0, 1) := by decide +kernel
theorem dX12_price_15 : decode cX12_price 15 = .ok (.ldc2_w 192, 3) := by decide +kernel
theorem dX12_price_18 : decode cX12_price 18 = .ok (.invokestatic 79, 3) := by decide +kernel
theorem dX12_price_21 : decode cX12_price 21 = .ok (.ifCond .eq 15, 3) := by decide +kernel
theorem dX12_price_24 : decode cX12_price 24 = .ok (.aload_n 0, 1) := by decide +kernel
theorem dX12_price_25 : decode cX12_price 25 = .ok (.bipush 13, 2) := by decide +kernel
theorem dX12_price_27 : decode cX12_price 27 = .ok (.iload_n 1, 1) := by decide +kernel
theorem dX12_price_28 : decode cX12_price 28 = .ok (.iadd, 1) := by decide +kernel
theorem dX12_price_29 : decode cX12_price 29 = .ok (.iload_n 2, 1) := by decide +kernel
theorem dX12_price_30 : decode cX12_price 30 = .ok (.invokevirtual 144, 3) := by decide +kernel
theorem dX12_price_33 : decode cX12_price 33 = .ok (.goto 5, 3) := by decide +kernel
theorem dX12_price_36 : decode cX12_price 36 = .ok (.bipush (-2), 2) := by decide +kernel
theorem dX12_price_38 : decode cX12_price 38 = .ok (.ireturn, 1) := by decide +kernel
theorem dX12_findSilver_0 : decode cX12_findSilver 0 = .ok (.iconst 0, 1) := by decide +kernel
theorem dX12_findSilver_1 : decode cX12_findSilver 1 = .ok (.istore_n 2, 1) := by decide +kernel
theorem dX12_findSilver_2 : decode cX12_findSilver 2 = .ok (.iload_n 2, 1) := by decide +kernel
theorem dX12_findSilver_3 : decode cX12_findSilver 3 = .ok (.aload_n 0, 1) := by decide +kernel
theorem dX12_findSilver_4 : decode cX12_findSilver 4 = .ok (.getfield 7, 3) := by decide +kernel
theorem dX12_findSilver_7 : decode cX12_findSilver 7 = .ok (.bipush 10, 2) := by decide +kernel
theorem dX12_findSilver_9 : decode cX12_findSilver 9 = .ok (.iaload, 1) := by decide +kernel
theorem dX12_findSilver_10 : decode cX12_findSilver 10 = .ok (.if_icmp .ge 161, 3) := by decide +kernel
theorem dX12_findSilver_13 : decode cX12_findSilver 13 = .ok (.sipush 1933, 3) := by decide +kernel
theorem dX12_findSilver_16 : decode cX12_findSilver 16 = .ok (.iconst 3, 1) := by decide +kernel
theorem dX12_findSilver_17 : decode cX12_findSilver 17 = .ok (.iload_n 2, 1) := by decide +kernel
theorem dX12_findSilver_18 : decode cX12_findSilver 18 = .ok (.imul, 1) := by decide +kernel
theorem dX12_findSilver_19 : decode cX12_findSilver 19 = .ok (.iadd, 1) := by decide +kernel
theorem dX12_findSilver_20 : decode cX12_findSilver 20 = .ok (.istore_n 3, 1) := by decide +kernel
theorem dX12_findSilver_21 : decode cX12_findSilver 21 = .ok (.iconst 0, 1) := by decide +kernel
theorem dX12_findSilver_22 : decode cX12_findSilver 22 = .ok (.istore 4, 2) := by decide +kernel
theorem dX12_findSilver_24 : decode cX12_findSilver 24 = .ok (.iload 4, 2) := by decide +kernel
theorem dX12_findSilver_26 : decode cX12_findSilver 26 = .ok (.iconst 3, 1) := by decide +kernel
theorem dX12_findSilver_27 : decode cX12_findSilver 27 = .ok (.if_icmp .ge 138, 3) := by decide +kernel
theorem dX12_findSilver_30 : decode cX12_findSilver 30 = .ok (.iload 4, 2) := by decide +kernel
theorem dX12_findSilver_32 : decode cX12_findSilver 32 = .ok (.ifCond .ne 26, 3) := by decide +kernel
theorem dX12_findSilver_35 : decode cX12_findSilver 35 = .ok (.aload_n 0, 1) := by decide +kernel
theorem dX12_findSilver_36 : decode cX12_findSilver 36 = .ok (.aload_n 0, 1) := by decide +kernel
theorem dX12_findSilver_37 : decode cX12_findSilver 37 = .ok (.getfield 7, 3) := by decide +kernel
theorem dX12_findSilver_40 : decode cX12_findSilver 40 = .ok (.iload_n 3, 1) := by decide +kernel
theorem dX12_findSilver_41 : decode cX12_findSilver 41 = .ok (.iaload, 1) := by decide +kernel
theorem dX12_findSilver_42 : decode cX12_findSilver 42 = .ok (.aload_n 0, 1) := by decide +kernel
theorem dX12_findSilver_43 : decode cX12_findSilver 43 = .ok (.getfield 7, 3) := by decide +kernel
theorem dX12_findSilver_46 : decode cX12_findSilver 46 = .ok (.iload_n 3, 1) := by decide +kernel
theorem dX12_findSilver_47 : decode cX12_findSilver 47 = .ok (.iconst 1, 1) := by decide +kernel
theorem dX12_findSilver_48 : decode cX12_findSilver 48 = .ok (.iadd, 1) := by decide +kernel
theorem dX12_findSilver_49 : decode cX12_findSilver 49 = .ok (.iaload, 1) := by decide +kernel
theorem dX12_findSilver_50 : decode cX12_findSilver 50 = .ok (.iload_n 1, 1) := by decide +kernel
theorem dX12_findSilver_51 : decode cX12_findSilver 51 = .ok (.invokevirtual 219, 3) := by decide +kernel
theorem dX12_findSilver_54 : decode cX12_findSilver 54 = .ok (.i2l, 1) := by decide +kernel
theorem dX12_findSilver_55 : decode cX12_findSilver 55 = .ok (.goto 32, 3) := by decide +kernel
theorem dX12_findSilver_58 : decode cX12_findSilver 58 = .ok (.aload_n 0, 1) := by decide +kernel
theorem dX12_findSilver_59 : decode cX12_findSilver 59 = .ok (.getfield 7, 3) := by decide +kernel
theorem dX12_findSilver_62 : decode cX12_findSilver 62 = .ok (.iload_n 3, 1) := by decide +kernel
theorem dX12_findSilver_63 : decode cX12_findSilver 63 = .ok (.iconst 1, 1) := by decide +kernel
theorem dX12_findSilver_64 : decode cX12_findSilver 64 = .ok (.iadd, 1) := by decide +kernel
theorem dX12_findSilver_65 : decode cX12_findSilver 65 = .ok (.iaload, 1) := by decide +kernel
theorem dX12_findSilver_66 : decode cX12_findSilver 66 = .ok (.i2l, 1) := by decide +kernel
theorem dX12_findSilver_67 : decode cX12_findSilver 67 = .ok (.aload_n 0, 1) := by decide +kernel
theorem dX12_findSilver_68 : decode cX12_findSilver 68 = .ok (.getfield 7, 3) := by decide +kernel
theorem dX12_findSilver_71 : decode cX12_findSilver 71 = .ok (.bipush 11, 2) := by decide +kernel
theorem dX12_findSilver_73 : decode cX12_findSilver 73 = .ok (.iaload, 1) := by decide +kernel
theorem dX12_findSilver_74 : decode cX12_findSilver 74 = .ok (.iconst 1, 1) := by decide +kernel
theorem dX12_findSilver_75 : decode cX12_findSilver 75 = .ok (.isub, 1) := by decide +kernel
theorem dX12_findSilver_76 : decode cX12_findSilver 76 = .ok (.i2l, 1) := by decide +kernel
theorem dX12_findSilver_77 : decode cX12_findSilver 77 = .ok (.lmul, 1) := by decide +kernel
theorem dX12_findSilver_78 : decode cX12_findSilver 78 = .ok (.aload_n 0, 1) := by decide +kernel
theorem dX12_findSilver_79 : decode cX12_findSilver 79 = .ok (.getfield 7, 3) := by decide +kernel
theorem dX12_findSilver_82 : decode cX12_findSilver 82 = .ok (.bipush 11, 2) := by decide +kernel
theorem dX12_findSilver_84 : decode cX12_findSilver 84 = .ok (.iaload, 1) := by decide +kernel
theorem dX12_findSilver_85 : decode cX12_findSilver 85 = .ok (.i2l, 1) := by decide +kernel
theorem dX12_findSilver_86 : decode cX12_findSilver 86 = .ok (.ldiv, 1) := by decide +kernel
theorem dX12_findSilver_87 : decode cX12_findSilver 87 = .ok (.lstore 5, 2) := by decide +kernel
theorem dX12_findSilver_89 : decode cX12_findSilver 89 = .ok (.iconst 0, 1) := by decide +kernel
theorem dX12_findSilver_90 : decode cX12_findSilver 90 = .ok (.istore 7, 2) := by decide +kernel
theorem dX12_findSilver_92 : decode cX12_findSilver 92 = .ok (.iload 7, 2) := by decide +kernel
theorem dX12_findSilver_94 : decode cX12_findSilver 94 = .ok (.iconst 3, 1) := by decide +kernel
theorem dX12_findSilver_95 : decode cX12_findSilver 95 = .ok (.if_icmp .ge 64, 3) := by decide +kernel
theorem dX12_findSilver_98 : decode cX12_findSilver 98 = .ok (.aload_n 0, 1) := by decide +kernel
theorem dX12_findSilver_99 : decode cX12_findSilver 99 = .ok (.getfield 72, 3) := by decide +kernel
theorem dX12_findSilver_102 : decode cX12_findSilver 102 = .ok (.bipush 9, 2) := by decide +kernel
theorem dX12_findSilver_104 : decode cX12_findSilver 104 = .ok (.iload_n 2, 1) := by decide +kernel
theorem dX12_findSilver_105 : decode cX12_findSilver 105 = .ok (.imul, 1) := by decide +kernel
theorem dX12_findSilver_106 : decode cX12_findSilver 106 = .ok (.iconst 3, 1) := by decide +kernel
theorem dX12_findSilver_107 : decode cX12_findSilver 107 = .ok (.iload 4, 2) := by decide +kernel
theorem dX12_findSilver_109 : decode cX12_findSilver 109 = .ok (.imul, 1) := by decide +kernel
theorem dX12_findSilver_110 : decode cX12_findSilver 110 = .ok (.iadd, 1) := by decide +kernel
theorem dX12_findSilver_111 : decode cX12_findSilver 111 = .ok (.iload 7, 2) := by decide +kernel
theorem dX12_findSilver_113 : decode cX12_findSilver 113 = .ok (.iadd, 1) := by decide +kernel
theorem dX12_findSilver_114 : decode cX12_findSilver 114 = .ok (.iload 4, 2) := by decide +kernel
theorem dX12_findSilver_116 : decode cX12_findSilver 116 = .ok (.iconst 2, 1) := by decide +kernel
theorem dX12_findSilver_117 : decode cX12_findSilver 117 = .ok (.if_icmp .ne 7, 3) := by decide +kernel
theorem dX12_findSilver_120 : decode cX12_findSilver 120 = .ok (.lconst 0, 1) := by decide +kernel
theorem dX12_findSilver_121 : decode cX12_findSilver 121 = .ok (.goto 31, 3) := by decide +kernel
theorem dX12_findSilver_124 : decode cX12_findSilver 124 = .ok (.lload 5, 2) := by decide +kernel
theorem dX12_findSilver_126 : decode cX12_findSilver 126 = .ok (.aload_n 0, 1) := by decide +kernel
theorem dX12_findSilver_127 : decode cX12_findSilver 127 = .ok (.getfield 7, 3) := by decide +kernel
theorem dX12_findSilver_130 : decode cX12_findSilver 130 = .ok (.bipush 13, 2) := by decide +kernel
theorem dX12_findSilver_132 : decode cX12_findSilver 132 = .ok (.iload 7, 2) := by decide +kernel
theorem dX12_findSilver_134 : decode cX12_findSilver 134 = .ok (.iadd, 1) := by decide +kernel
theorem dX12_findSilver_135 : decode cX12_findSilver 135 = .ok (.iaload, 1) := by decide +kernel
theorem dX12_findSilver_136 : decode cX12_findSilver 136 = .ok (.i2l, 1) := by decide +kernel
theorem dX12_findSilver_137 : decode cX12_findSilver 137 = .ok (.lmul, 1) := by decide +kernel
theorem dX12_findSilver_138 : decode cX12_findSilver 138 = .ok (.ldc2_w 214, 3) := by decide +kernel
theorem dX12_findSilver_141 : decode cX12_findSilver 141 = .ok (.ldiv, 1) := by decide +kernel
theorem dX12_findSilver_142 : decode cX12_findSilver 142 = .ok (.aload_n 0, 1) := by decide +kernel
theorem dX12_findSilver_143 : decode cX12_findSilver 143 = .ok (.getfield 7, 3) := by decide +kernel
theorem dX12_findSilver_146 : decode cX12_findSilver 146 = .ok (.iload_n 3, 1) := by decide +kernel
theorem dX12_findSilver_147 : decode cX12_findSilver 147 = .ok (.iconst 2, 1) := by decide +kernel
theorem dX12_findSilver_148 : decode cX12_findSilver 148 = .ok (.iadd, 1) := by decide +kernel
theorem dX12_findSilver_149 : decode cX12_findSilver 149 = .ok (.iaload, 1) := by decide +kernel
theorem dX12_findSilver_150 : decode cX12_findSilver 150 = .ok (.i2l, 1) := by decide +kernel
theorem dX12_findSilver_151 : decode cX12_findSilver 151 = .ok (.lsub, 1) := by decide +kernel
theorem dX12_findSilver_152 : decode cX12_findSilver 152 = .ok (.lastore, 1) := by decide +kernel
theorem dX12_findSilver_153 : decode cX12_findSilver 153 = .ok (.iinc 7 1, 3) := by decide +kernel
theorem dX12_findSilver_156 : decode cX12_findSilver 156 = .ok (.goto (-64), 3) := by decide +kernel
theorem dX12_findSilver_159 : decode cX12_findSilver 159 = .ok (.iinc 4 1, 3) := by decide +kernel
theorem dX12_findSilver_162 : decode cX12_findSilver 162 = .ok (.goto (-138), 3) := by decide +kernel
theorem dX12_findSilver_165 : decode cX12_findSilver 165 = .ok (.iinc 2 1, 3) := by decide +kernel
theorem dX12_findSilver_168 : decode cX12_findSilver 168 = .ok (.goto (-166), 3) := by decide +kernel
theorem dX12_findSilver_171 : decode cX12_findSilver 171 = .ok (.return_, 1) := by decide +kernel
theorem dX12_plan_0 : decode cX12_plan 0 = .ok (.iload_n 1, 1) := by decide +kernel
theorem dX12_plan_1 : decode cX12_plan 1 = .ok (.invokestatic 153, 3) := by decide +kernel
theorem dX12_plan_4 : decode cX12_plan 4 = .ok (.ifCond .eq 18, 3) := by decide +kernel
theorem dX12_plan_7 : decode cX12_plan 7 = .ok (.iload_n 2, 1) := by decide +kernel
theorem dX12_plan_8 : decode cX12_plan 8 = .ok (.iconst (-1), 1) := by decide +kernel
theorem dX12_plan_9 : decode cX12_plan 9 = .ok (.if_icmp .eq 17, 3) := by decide +kernel
theorem dX12_plan_12 : decode cX12_plan 12 = .ok (.aload_n 0, 1) := by decide +kernel
theorem dX12_plan_13 : decode cX12_plan 13 = .ok (.bipush 10, 2) := by decide +kernel
theorem dX12_plan_15 : decode cX12_plan 15 = .ok (.iload_n 2, 1) := by decide +kernel
theorem dX12_plan_16 : decode cX12_plan 16 = .ok (.invokevirtual 173, 3) := by decide +kernel
theorem dX12_plan_19 : decode cX12_plan 19 = .ok (.ifCond .ne 7, 3) := by decide +kernel
theorem dX12_plan_22 : decode cX12_plan 22 = .ok (.ldc2_w 237, 3) := by decide +kernel
theorem dX12_plan_25 : decode cX12_plan 25 = .ok (.lreturn, 1) := by decide +kernel
theorem dX12_plan_26 : decode cX12_plan 26 = .ok (.aload_n 0, 1) := by decide +kernel
theorem dX12_plan_27 : decode cX12_plan 27 = .ok (.iload_n 1, 1) := by decide +kernel
theorem dX12_plan_28 : decode cX12_plan 28 = .ok (.invokevirtual 291, 3) := by decide +kernel
theorem dX12_plan_31 : decode cX12_plan 31 = .ok (.iconst 1, 1) := by decide +kernel
theorem dX12_plan_32 : decode cX12_plan 32 = .ok (.istore_n 3, 1) := by decide +kernel
theorem dX12_plan_33 : decode cX12_plan 33 = .ok (.iconst 0, 1) := by decide +kernel
theorem dX12_plan_34 : decode cX12_plan 34 = .ok (.istore 4, 2) := by decide +kernel
theorem dX12_plan_36 : decode cX12_plan 36 = .ok (.iload 4, 2) := by decide +kernel
theorem dX12_plan_38 : decode cX12_plan 38 = .ok (.aload_n 0, 1) := by decide +kernel
theorem dX12_plan_39 : decode cX12_plan 39 = .ok (.getfield 7, 3) := by decide +kernel
theorem dX12_plan_42 : decode cX12_plan 42 = .ok (.bipush 10, 2) := by decide +kernel
theorem dX12_plan_44 : decode cX12_plan 44 = .ok (.iaload, 1) := by decide +kernel
theorem dX12_plan_45 : decode cX12_plan 45 = .ok (.if_icmp .ge 13, 3) := by decide +kernel
theorem dX12_plan_48 : decode cX12_plan 48 = .ok (.iload_n 3, 1) := by decide +kernel
theorem dX12_plan_49 : decode cX12_plan 49 = .ok (.iconst 3, 1) := by decide +kernel
theorem dX12_plan_50 : decode cX12_plan 50 = .ok (.imul, 1) := by decide +kernel
theorem dX12_plan_51 : decode cX12_plan 51 = .ok (.istore_n 3, 1) := by decide +kernel
theorem dX12_plan_52 : decode cX12_plan 52 = .ok (.iinc 4 1, 3) := by decide +kernel
theorem dX12_plan_55 : decode cX12_plan 55 = .ok (.goto (-19), 3) := by decide +kernel
theorem dX12_plan_58 : decode cX12_plan 58 = .ok (.iconst 0, 1) := by decide +kernel
theorem dX12_plan_59 : decode cX12_plan 59 = .ok (.istore 4, 2) := by decide +kernel
theorem dX12_plan_61 : decode cX12_plan 61 = .ok (.lconst 0, 1) := by decide +kernel
theorem dX12_plan_62 : decode cX12_plan 62 = .ok (.lstore 5, 2) := by decide +kernel
theorem dX12_plan_64 : decode cX12_plan 64 = .ok (.iconst 0, 1) := by decide +kernel
theorem dX12_plan_65 : decode cX12_plan 65 = .ok (.istore 7, 2) := by decide +kernel
theorem dX12_plan_67 : decode cX12_plan 67 = .ok (.iload 7, 2) := by decide +kernel
theorem dX12_plan_69 : decode cX12_plan 69 = .ok (.iload_n 3, 1) := by decide +kernel
theorem dX12_plan_70 : decode cX12_plan 70 = .ok (.if_icmp .ge 130, 3) := by decide +kernel
theorem dX12_plan_73 : decode cX12_plan 73 = .ok (.lconst 0, 1) := by decide +kernel
theorem dX12_plan_74 : decode cX12_plan 74 = .ok (.lstore 8, 2) := by decide +kernel
theorem dX12_plan_76 : decode cX12_plan 76 = .ok (.iconst 0, 1) := by decide +kernel
theorem dX12_plan_77 : decode cX12_plan 77 = .ok (.istore 10, 2) := by decide +kernel
theorem dX12_plan_79 : decode cX12_plan 79 = .ok (.iload 10, 2) := by decide +kernel
theorem dX12_plan_81 : decode cX12_plan 81 = .ok (.iconst 3, 1) := by decide +kernel
theorem dX12_plan_82 : decode cX12_plan 82 = .ok (.if_icmp .ge 91, 3) := by decide +kernel
theorem dX12_plan_85 : decode cX12_plan 85 = .ok (.lconst 0, 1) := by decide +kernel
theorem dX12_plan_86 : decode cX12_plan 86 = .ok (.lstore 11, 2) := by decide +kernel
theorem dX12_plan_88 : decode cX12_plan 88 = .ok (.iload 7, 2) := by decide +kernel
theorem dX12_plan_90 : decode cX12_plan 90 = .ok (.istore 13, 2) := by decide +kernel
theorem dX12_plan_92 : decode cX12_plan 92 = .ok (.aload_n 0, 1) := by decide +kernel
theorem dX12_plan_93 : decode cX12_plan 93 = .ok (.getfield 7, 3) := by decide +kernel
theorem dX12_plan_96 : decode cX12_plan 96 = .ok (.bipush 10, 2) := by decide +kernel
theorem dX12_plan_98 : decode cX12_plan 98 = .ok (.iaload, 1) := by decide +kernel
theorem dX12_plan_99 : decode cX12_plan 99 = .ok (.iconst 1, 1) := by decide +kernel
theorem dX12_plan_100 : decode cX12_plan 100 = .ok (.isub, 1) := by decide +kernel
theorem dX12_plan_101 : decode cX12_plan 101 = .ok (.istore 14, 2) := by decide +kernel
theorem dX12_plan_103 : decode cX12_plan 103 = .ok (.iload 14, 2) := by decide +kernel
theorem dX12_plan_105 : decode cX12_plan 105 = .ok (.ifCond .lt 40, 3) := by decide +kernel
theorem dX12_plan_108 : decode cX12_plan 108 = .ok (.lload 11, 2) := by decide +kernel
theorem dX12_plan_110 : decode cX12_plan 110 = .ok (.aload_n 0, 1) := by decide +kernel
theorem dX12_plan_111 : decode cX12_plan 111 = .ok (.getfield 72, 3) := by decide +kernel
theorem dX12_plan_114 : decode cX12_plan 114 = .ok (.bipush 9, 2) := by decide +kernel
theorem dX12_plan_116 : decode cX12_plan 116 = .ok (.iload 14, 2) := by decide +kernel
theorem dX12_plan_118 : decode cX12_plan 118 = .ok (.imul, 1) := by decide +kernel
theorem dX12_plan_119 : decode cX12_plan 119 = .ok (.iconst 3, 1) := by decide +kernel
theorem dX12_plan_120 : decode cX12_plan 120 = .ok (.iload 13, 2) := by decide +kernel
theorem dX12_plan_122 : decode cX12_plan 122 = .ok (.iconst 3, 1) := by decide +kernel
theorem dX12_plan_123 : decode cX12_plan 123 = .ok (.irem, 1) := by decide +kernel
theorem dX12_plan_124 : decode cX12_plan 124 = .ok (.imul, 1) := by decide +kernel
theorem dX12_plan_125 : decode cX12_plan 125 = .ok (.iadd, 1) := by decide +kernel
theorem dX12_plan_126 : decode cX12_plan 126 = .ok (.iload 10, 2) := by decide +kernel
theorem dX12_plan_128 : decode cX12_plan 128 = .ok (.iadd, 1) := by decide +kernel
theorem dX12_plan_129 : decode cX12_plan 129 = .ok (.laload, 1) := by decide +kernel
theorem dX12_plan_130 : decode cX12_plan 130 = .ok (.ladd, 1) := by decide +kernel
theorem dX12_plan_131 : decode cX12_plan 131 = .ok (.lstore 11, 2) := by decide +kernel
theorem dX12_plan_133 : decode cX12_plan 133 = .ok (.iload 13, 2) := by decide +kernel
theorem dX12_plan_135 : decode cX12_plan 135 = .ok (.iconst 3, 1) := by decide +kernel
theorem dX12_plan_136 : decode cX12_plan 136 = .ok (.idiv, 1) := by decide +kernel
theorem dX12_plan_137 : decode cX12_plan 137 = .ok (.istore 13, 2) := by decide +kernel
theorem dX12_plan_139 : decode cX12_plan 139 = .ok (.iinc 14 (-1), 3) := by decide +kernel
theorem dX12_plan_142 : decode cX12_plan 142 = .ok (.goto (-39), 3) := by decide +kernel
theorem dX12_plan_145 : decode cX12_plan 145 = .ok (.iload 10, 2) := by decide +kernel
theorem dX12_plan_147 : decode cX12_plan 147 = .ok (.ifCond .eq 11, 3) := by decide +kernel
theorem dX12_plan_150 : decode cX12_plan 150 = .ok (.lload 11, 2) := by decide +kernel
theorem dX12_plan_152 : decode cX12_plan 152 = .ok (.lload 8, 2) := by decide +kernel
theorem dX12_plan_154 : decode cX12_plan 154 = .ok (.lcmp, 1) := by decide +kernel
theorem dX12_plan_155 : decode cX12_plan 155 = .ok (.ifCond .ge 8, 3) := by decide +kernel
theorem dX12_plan_158 : decode cX12_plan 158 = .ok (.lload 11, 2) := by decide +kernel
theorem dX12_plan_160 : decode cX12_plan 160 = .ok (.goto 5, 3) := by decide +kernel
theorem dX12_plan_163 : decode cX12_plan 163 = .ok (.lload 8, 2) := by decide +kernel
theorem dX12_plan_165 : decode cX12_plan 165 = .ok (.lstore 8, 2) := by decide +kernel
theorem dX12_plan_167 : decode cX12_plan 167 = .ok (.iinc 10 1, 3) := by decide +kernel
theorem dX12_plan_170 : decode cX12_plan 170 = .ok (.goto (-91), 3) := by decide +kernel
theorem dX12_plan_173 : decode cX12_plan 173 = .ok (.iload 7, 2) := by decide +kernel
theorem dX12_plan_175 : decode cX12_plan 175 = .ok (.ifCond .eq 11, 3) := by decide +kernel
theorem dX12_plan_178 : decode cX12_plan 178 = .ok (.lload 8, 2) := by decide +kernel
theorem dX12_plan_180 : decode cX12_plan 180 = .ok (.lload 5, 2) := by decide +kernel
theorem dX12_plan_182 : decode cX12_plan 182 = .ok (.lcmp, 1) := by decide +kernel
theorem dX12_plan_183 : decode cX12_plan 183 = .ok (.ifCond .le 11, 3) := by decide +kernel
theorem dX12_plan_186 : decode cX12_plan 186 = .ok (.iload 7, 2) := by decide +kernel
theorem dX12_plan_188 : decode cX12_plan 188 = .ok (.istore 4, 2) := by decide +kernel
theorem dX12_plan_190 : decode cX12_plan 190 = .ok (.lload 8, 2) := by decide +kernel
theorem dX12_plan_192 : decode cX12_plan 192 = .ok (.lstore 5, 2) := by decide +kernel
theorem dX12_plan_194 : decode cX12_plan 194 = .ok (.iinc 7 1, 3) := by decide +kernel
theorem dX12_plan_197 : decode cX12_plan 197 = .ok (.goto (-130), 3) := by decide +kernel
theorem dX12_plan_200 : decode cX12_plan 200 = .ok (.iload 4, 2) := by decide +kernel
theorem dX12_plan_202 : decode cX12_plan 202 = .ok (.istore 7, 2) := by decide +kernel
theorem dX12_plan_204 : decode cX12_plan 204 = .ok (.aload_n 0, 1) := by decide +kernel
theorem dX12_plan_205 : decode cX12_plan 205 = .ok (.getfield 7, 3) := by decide +kernel
theorem dX12_plan_208 : decode cX12_plan 208 = .ok (.bipush 10, 2) := by decide +kernel
theorem dX12_plan_210 : decode cX12_plan 210 = .ok (.iaload, 1) := by decide +kernel
theorem dX12_plan_211 : decode cX12_plan 211 = .ok (.iconst 1, 1) := by decide +kernel
theorem dX12_plan_212 : decode cX12_plan 212 = .ok (.isub, 1) := by decide +kernel
theorem dX12_plan_213 : decode cX12_plan 213 = .ok (.istore 8, 2) := by decide +kernel
theorem dX12_plan_215 : decode cX12_plan 215 = .ok (.iload 8, 2) := by decide +kernel
theorem dX12_plan_217 : decode cX12_plan 217 = .ok (.iload_n 2, 1) := by decide +kernel
theorem dX12_plan_218 : decode cX12_plan 218 = .ok (.if_icmp .le 20, 3) := by decide +kernel
theorem dX12_plan_221 : decode cX12_plan 221 = .ok (.iload_n 2, 1) := by decide +kernel
theorem dX12_plan_222 : decode cX12_plan 222 = .ok (.iconst (-1), 1) := by decide +kernel
theorem dX12_plan_223 : decode cX12_plan 223 = .ok (.if_icmp .eq 15, 3) := by decide +kernel
theorem dX12_plan_226 : decode cX12_plan 226 = .ok (.iload 7, 2) := by decide +kernel
theorem dX12_plan_228 : decode cX12_plan 228 = .ok (.iconst 3, 1) := by decide +kernel
theorem dX12_plan_229 : decode cX12_plan 229 = .ok (.idiv, 1) := by decide +kernel
theorem dX12_plan_230 : decode cX12_plan 230 = .ok (.istore 7, 2) := by decide +kernel
theorem dX12_plan_232 : decode cX12_plan 232 = .ok (.iinc 8 (-1), 3) := by decide +kernel
theorem dX12_plan_235 : decode cX12_plan 235 = .ok (.goto (-20), 3) := by decide +kernel
theorem dX12_plan_238 : decode cX12_plan 238 = .ok (.iload_n 2, 1) := by decide +kernel
theorem dX12_plan_239 : decode cX12_plan 239 = .ok (.iconst (-1), 1) := by decide +kernel
theorem dX12_plan_240 : decode cX12_plan 240 = .ok (.if_icmp .ne 8, 3) := by decide +kernel
theorem dX12_plan_243 : decode cX12_plan 243 = .ok (.lload 5, 2) := by decide +kernel
theorem dX12_plan_245 : decode cX12_plan 245 = .ok (.goto 8, 3) := by decide +kernel
theorem dX12_plan_248 : decode cX12_plan 248 = .ok (.iload 7, 2) := by decide +kernel
theorem dX12_plan_250 : decode cX12_plan 250 = .ok (.iconst 3, 1) := by decide +kernel
theorem dX12_plan_251 : decode cX12_plan 251 = .ok (.irem, 1) := by decide +kernel
theorem dX12_plan_252 : decode cX12_plan 252 = .ok (.i2l, 1) := by decide +kernel
theorem dX12_plan_253 : decode cX12_plan 253 = .ok (.lreturn, 1) := by decide +kernel
theorem dX12_part_0 : decode cX12_part 0 = .ok (.iload_n 1, 1) := by decide +kernel
theorem dX12_part_1 : decode cX12_part 1 = .ok (.ifCond .ne 10, 3) := by decide +kernel
theorem dX12_part_4 : decode cX12_part 4 = .ok (.aload_n 0, 1) := by decide +kernel
theorem dX12_part_5 : decode cX12_part 5 = .ok (.getfield 227, 3) := by decide +kernel
theorem dX12_part_8 : decode cX12_part 8 = .ok (.goto 18, 3) := by decide +kernel
theorem dX12_part_11 : decode cX12_part 11 = .ok (.iload_n 1, 1) := by decide +kernel
theorem dX12_part_12 : decode cX12_part 12 = .ok (.iconst 1, 1) := by decide +kernel
theorem dX12_part_13 : decode cX12_part 13 = .ok (.if_icmp .ne 10, 3) := by decide +kernel
theorem dX12_part_16 : decode cX12_part 16 = .ok (.aload_n 0, 1) := by decide +kernel
theorem dX12_part_17 : decode cX12_part 17 = .ok (.getfield 75, 3) := by decide +kernel
theorem dX12_part_20 : decode cX12_part 20 = .ok (.goto 6, 3) := by decide +kernel
theorem dX12_part_23 : decode cX12_part 23 = .ok (.ldc2_w 268, 3) := by decide +kernel
theorem dX12_part_26 : decode cX12_part 26 = .ok (.lreturn, 1) := by decide +kernel
theorem dX12_image_0 : decode cX12_image 0 = .ok (.iload_n 1, 1) := by decide +kernel
theorem dX12_image_1 : decode cX12_image 1 = .ok (.i2l, 1) := by decide +kernel
theorem dX12_image_2 : decode cX12_image 2 = .ok (.lconst 0, 1) := by decide +kernel
theorem dX12_image_3 : decode cX12_image 3 = .ok (.lconst 1, 1) := by decide +kernel
theorem dX12_image_4 : decode cX12_image 4 = .ok (.invokestatic 79, 3) := by decide +kernel
theorem dX12_image_7 : decode cX12_image 7 = .ok (.ifCond .ne 6, 3) := by decide +kernel
theorem dX12_image_10 : decode cX12_image 10 = .ok (.bipush (-2), 2) := by decide +kernel
theorem dX12_image_12 : decode cX12_image 12 = .ok (.ireturn, 1) := by decide +kernel
theorem dX12_image_13 : decode cX12_image 13 = .ok (.aload_n 0, 1) := by decide +kernel
theorem dX12_image_14 : decode cX12_image 14 = .ok (.getfield 16, 3) := by decide +kernel
theorem dX12_image_17 : decode cX12_image 17 = .ok (.iload_n 1, 1) := by decide +kernel
theorem dX12_image_18 : decode cX12_image 18 = .ok (.iconst 1, 1) := by decide +kernel
theorem dX12_image_19 : decode cX12_image 19 = .ok (.bastore, 1) := by decide +kernel
theorem dX12_image_20 : decode cX12_image 20 = .ok (.iconst 0, 1) := by decide +kernel
theorem dX12_image_21 : decode cX12_image 21 = .ok (.istore_n 2, 1) := by decide +kernel
theorem dX12_image_22 : decode cX12_image 22 = .ok (.iload_n 2, 1) := by decide +kernel
theorem dX12_image_23 : decode cX12_image 23 = .ok (.sipush 1951, 3) := by decide +kernel
theorem dX12_image_26 : decode cX12_image 26 = .ok (.if_icmp .ge 27, 3) := by decide +kernel
theorem dX12_image_29 : decode cX12_image 29 = .ok (.aload_n 0, 1) := by decide +kernel
theorem dX12_image_30 : decode cX12_image 30 = .ok (.getfield 13, 3) := by decide +kernel
theorem dX12_image_33 : decode cX12_image 33 = .ok (.sipush 1951, 3) := by decide +kernel
theorem dX12_image_36 : decode cX12_image 36 = .ok (.iload_n 1, 1) := by decide +kernel
theorem dX12_image_37 : decode cX12_image 37 = .ok (.imul, 1) := by decide +kernel
theorem dX12_image_38 : decode cX12_image 38 = .ok (.iload_n 2, 1) := by decide +kernel
theorem dX12_image_39 : decode cX12_image 39 = .ok (.iadd, 1) := by decide +kernel
theorem dX12_image_40 : decode cX12_image 40 = .ok (.aload_n 0, 1) := by decide +kernel
theorem dX12_image_41 : decode cX12_image 41 = .ok (.getfield 7, 3) := by decide +kernel
theorem dX12_image_44 : decode cX12_image 44 = .ok (.iload_n 2, 1) := by decide +kernel
theorem dX12_image_45 : decode cX12_image 45 = .ok (.iaload, 1) := by decide +kernel
theorem dX12_image_46 : decode cX12_image 46 = .ok (.iastore, 1) := by decide +kernel
theorem dX12_image_47 : decode cX12_image 47 = .ok (.iinc 2 1, 3) := by decide +kernel
theorem dX12_image_50 : decode cX12_image 50 = .ok (.goto (-28), 3) := by decide +kernel
theorem dX12_image_53 : decode cX12_image 53 = .ok (.iconst 1, 1) := by decide +kernel
theorem dX12_image_54 : decode cX12_image 54 = .ok (.ireturn, 1) := by decide +kernel
theorem dX12_from_0 : decode cX12_from 0 = .ok (.iload_n 1, 1) := by decide +kernel
theorem dX12_from_1 : decode cX12_from 1 = .ok (.i2l, 1) := by decide +kernel
theorem dX12_from_2 : decode cX12_from 2 = .ok (.lconst 0, 1) := by decide +kernel
theorem dX12_from_3 : decode cX12_from 3 = .ok (.lconst 1, 1) := by decide +kernel
theorem dX12_from_4 : decode cX12_from 4 = .ok (.invokestatic 79, 3) := by decide +kernel
theorem dX12_from_7 : decode cX12_from 7 = .ok (.ifCond .ne 6, 3) := by decide +kernel
theorem dX12_from_10 : decode cX12_from 10 = .ok (.bipush (-2), 2) := by decide +kernel
theorem dX12_from_12 : decode cX12_from 12 = .ok (.ireturn, 1) := by decide +kernel
theorem dX12_from_13 : decode cX12_from 13 = .ok (.aload_n 0, 1) := by decide +kernel
theorem dX12_from_14 : decode cX12_from 14 = .ok (.getfield 16, 3) := by decide +kernel
theorem dX12_from_17 : decode cX12_from 17 = .ok (.iload_n 1, 1) := by decide +kernel
theorem dX12_from_18 : decode cX12_from 18 = .ok (.baload, 1) := by decide +kernel
theorem dX12_from_19 : decode cX12_from 19 = .ok (.ifCond .ne 6, 3) := by decide +kernel
theorem dX12_from_22 : decode cX12_from 22 = .ok (.bipush (-3), 2) := by decide +kernel
theorem dX12_from_24 : decode cX12_from 24 = .ok (.ireturn, 1) := by decide +kernel
theorem dX12_from_25 : decode cX12_from 25 = .ok (.iconst 0, 1) := by decide +kernel
theorem dX12_from_26 : decode cX12_from 26 = .ok (.istore_n 2, 1) := by decide +kernel
theorem dX12_from_27 : decode cX12_from 27 = .ok (.iload_n 2, 1) := by decide +kernel
theorem dX12_from_28 : decode cX12_from 28 = .ok (.sipush 1951, 3) := by decide +kernel
theorem dX12_from_31 : decode cX12_from 31 = .ok (.if_icmp .ge 27, 3) := by decide +kernel
theorem dX12_from_34 : decode cX12_from 34 = .ok (.aload_n 0, 1) := by decide +kernel
theorem dX12_from_35 : decode cX12_from 35 = .ok (.getfield 7, 3) := by decide +kernel
theorem dX12_from_38 : decode cX12_from 38 = .ok (.iload_n 2, 1) := by decide +kernel
theorem dX12_from_39 : decode cX12_from 39 = .ok (.aload_n 0, 1) := by decide +kernel
theorem dX12_from_40 : decode cX12_from 40 = .ok (.getfield 13, 3) := by decide +kernel
theorem dX12_from_43 : decode cX12_from 43 = .ok (.sipush 1951, 3) := by decide +kernel
theorem dX12_from_46 : decode cX12_from 46 = .ok (.iload_n 1, 1) := by decide +kernel
theorem dX12_from_47 : decode cX12_from 47 = .ok (.imul, 1) := by decide +kernel
theorem dX12_from_48 : decode cX12_from 48 = .ok (.iload_n 2, 1) := by decide +kernel
theorem dX12_from_49 : decode cX12_from 49 = .ok (.iadd, 1) := by decide +kernel
theorem dX12_from_50 : decode cX12_from 50 = .ok (.iaload, 1) := by decide +kernel
theorem dX12_from_51 : decode cX12_from 51 = .ok (.iastore, 1) := by decide +kernel
theorem dX12_from_52 : decode cX12_from 52 = .ok (.iinc 2 1, 3) := by decide +kernel
theorem dX12_from_55 : decode cX12_from 55 = .ok (.goto (-28), 3) := by decide +kernel
theorem dX12_from_58 : decode cX12_from 58 = .ok (.iconst 1, 1) := by decide +kernel
theorem dX12_from_59 : decode cX12_from 59 = .ok (.ireturn, 1) := by decide +kernel
theorem dX12_count_0 : decode cX12_count 0 = .ok (.iload_n 1, 1) := by decide +kernel
theorem dX12_count_1 : decode cX12_count 1 = .ok (.i2l, 1) := by decide +kernel
theorem dX12_count_2 : decode cX12_count 2 = .ok (.lconst 0, 1) := by decide +kernel
theorem dX12_count_3 : decode cX12_count 3 = .ok (.ldc2_w 294, 3) := by decide +kernel
theorem dX12_count_6 : decode cX12_count 6 = .ok (.invokestatic 79, 3) := by decide +kernel
theorem dX12_count_9 : decode cX12_count 9 = .ok (.ifCond .eq 12, 3) := by decide +kernel
theorem dX12_count_12 : decode cX12_count 12 = .ok (.aload_n 0, 1) := by decide +kernel
theorem dX12_count_13 : decode cX12_count 13 = .ok (.getfield 7, 3) := by decide +kernel
theorem dX12_count_16 : decode cX12_count 16 = .ok (.iload_n 1, 1) := by decide +kernel
theorem dX12_count_17 : decode cX12_count 17 = .ok (.iaload, 1) := by decide +kernel
theorem dX12_count_18 : decode cX12_count 18 = .ok (.goto 5, 3) := by decide +kernel
theorem dX12_count_21 : decode cX12_count 21 = .ok (.bipush (-2), 2) := by decide +kernel
theorem dX12_count_23 : decode cX12_count 23 = .ok (.ireturn, 1) := by decide +kernel
theorem dX12_mixed_0 : decode cX12_mixed 0 = .ok (.lload_n 1, 1) := by decide +kernel
theorem dX12_mixed_1 : decode cX12_mixed 1 = .ok (.lstore 5, 2) := by decide +kernel
theorem dX12_mixed_3 : decode cX12_mixed 3 = .ok (.iconst 0, 1) := by decide +kernel
theorem dX12_mixed_4 : decode cX12_mixed 4 = .ok (.istore 7, 2) := by decide +kernel
theorem dX12_mixed_6 : decode cX12_mixed 6 = .ok (.iload 7, 2) := by decide +kernel
theorem dX12_mixed_8 : decode cX12_mixed 8 = .ok (.iload 4, 2) := by decide +kernel
theorem dX12_mixed_10 : decode cX12_mixed 10 = .ok (.if_icmp .ge 28, 3) := by decide +kernel
theorem dX12_mixed_13 : decode cX12_mixed 13 = .ok (.ldc2_w 296, 3) := by decide +kernel
theorem dX12_mixed_16 : decode cX12_mixed 16 = .ok (.lload 5, 2) := by decide +kernel
theorem dX12_mixed_18 : decode cX12_mixed 18 = .ok (.lmul, 1) := by decide +kernel
theorem dX12_mixed_19 : decode cX12_mixed 19 = .ok (.aload_n 0, 1) := by decide +kernel
theorem dX12_mixed_20 : decode cX12_mixed 20 = .ok (.getfield 7, 3) := by decide +kernel
theorem dX12_mixed_23 : decode cX12_mixed 23 = .ok (.iload_n 3, 1) := by decide +kernel
theorem dX12_mixed_24 : decode cX12_mixed 24 = .ok (.iload 7, 2) := by decide +kernel
theorem dX12_mixed_26 : decode cX12_mixed 26 = .ok (.iadd, 1) := by decide +kernel
theorem dX12_mixed_27 : decode cX12_mixed 27 = .ok (.iaload, 1) := by decide +kernel
theorem dX12_mixed_28 : decode cX12_mixed 28 = .ok (.i2l, 1) := by decide +kernel
theorem dX12_mixed_29 : decode cX12_mixed 29 = .ok (.ladd, 1) := by decide +kernel
theorem dX12_mixed_30 : decode cX12_mixed 30 = .ok (.lstore 5, 2) := by decide +kernel
theorem dX12_mixed_32 : decode cX12_mixed 32 = .ok (.iinc 7 1, 3) := by decide +kernel
theorem dX12_mixed_35 : decode cX12_mixed 35 = .ok (.goto (-29), 3) := by decide +kernel
theorem dX12_mixed_38 : decode cX12_mixed 38 = .ok (.lload 5, 2) := by decide +kernel
theorem dX12_mixed_40 : decode cX12_mixed 40 = .ok (.lreturn, 1) := by decide +kernel
theorem dX12_digest_0 : decode cX12_digest 0 = .ok (.aload_n 0, 1) := by decide +kernel
theorem dX12_digest_1 : decode cX12_digest 1 = .ok (.ldc2_w 298, 3) := by decide +kernel
theorem dX12_digest_4 : decode cX12_digest 4 = .ok (.iconst 0, 1) := by decide +kernel
theorem dX12_digest_5 : decode cX12_digest 5 = .ok (.bipush 11, 2) := by decide +kernel
theorem dX12_digest_7 : decode cX12_digest 7 = .ok (.invokevirtual 300, 3) := by decide +kernel
theorem dX12_digest_10 : decode cX12_digest 10 = .ok (.lstore_n 1, 1) := by decide +kernel
theorem dX12_digest_11 : decode cX12_digest 11 = .ok (.aload_n 0, 1) := by decide +kernel
theorem dX12_digest_12 : decode cX12_digest 12 = .ok (.lload_n 1, 1) := by decide +kernel
theorem dX12_digest_13 : decode cX12_digest 13 = .ok (.bipush 20, 2) := by decide +kernel
theorem dX12_digest_15 : decode cX12_digest 15 = .ok (.iconst 2, 1) := by decide +kernel
theorem dX12_digest_16 : decode cX12_digest 16 = .ok (.aload_n 0, 1) := by decide +kernel
theorem dX12_digest_17 : decode cX12_digest 17 = .ok (.getfield 7, 3) := by decide +kernel
theorem dX12_digest_20 : decode cX12_digest 20 = .ok (.iconst 0, 1) := by decide +kernel
theorem dX12_digest_21 : decode cX12_digest 21 = .ok (.iaload, 1) := by decide +kernel
theorem dX12_digest_22 : decode cX12_digest 22 = .ok (.imul, 1) := by decide +kernel
theorem dX12_digest_23 : decode cX12_digest 23 = .ok (.invokevirtual 300, 3) := by decide +kernel
theorem dX12_digest_26 : decode cX12_digest 26 = .ok (.lstore_n 1, 1) := by decide +kernel
theorem dX12_digest_27 : decode cX12_digest 27 = .ok (.iconst 0, 1) := by decide +kernel
theorem dX12_digest_28 : decode cX12_digest 28 = .ok (.istore_n 3, 1) := by decide +kernel
theorem dX12_digest_29 : decode cX12_digest 29 = .ok (.iload_n 3, 1) := by decide +kernel
theorem dX12_digest_30 : decode cX12_digest 30 = .ok (.aload_n 0, 1) := by decide +kernel
theorem dX12_digest_31 : decode cX12_digest 31 = .ok (.getfield 7, 3) := by decide +kernel
theorem dX12_digest_34 : decode cX12_digest 34 = .ok (.iconst 1, 1) := by decide +kernel
theorem dX12_digest_35 : decode cX12_digest 35 = .ok (.iaload, 1) := by decide +kernel
theorem dX12_digest_36 : decode cX12_digest 36 = .ok (.if_icmp .ge 40, 3) := by decide +kernel
theorem dX12_digest_39 : decode cX12_digest 39 = .ok (.aload_n 0, 1) := by decide +kernel
theorem dX12_digest_40 : decode cX12_digest 40 = .ok (.lload_n 1, 1) := by decide +kernel
theorem dX12_digest_41 : decode cX12_digest 41 = .ok (.sipush 244, 3) := by decide +kernel
theorem dX12_digest_44 : decode cX12_digest 44 = .ok (.bipush 53, 2) := by decide +kernel
theorem dX12_digest_46 : decode cX12_digest 46 = .ok (.iload_n 3, 1) := by decide +kernel
theorem dX12_digest_47 : decode cX12_digest 47 = .ok (.imul, 1) := by decide +kernel
theorem dX12_digest_48 : decode cX12_digest 48 = .ok (.iadd, 1) := by decide +kernel
theorem dX12_digest_49 : decode cX12_digest 49 = .ok (.iconst 3, 1) := by decide +kernel
theorem dX12_digest_50 : decode cX12_digest 50 = .ok (.aload_n 0, 1) := by decide +kernel
theorem dX12_digest_51 : decode cX12_digest 51 = .ok (.getfield 7, 3) := by decide +kernel
theorem dX12_digest_54 : decode cX12_digest 54 = .ok (.sipush 244, 3) := by decide +kernel
theorem dX12_digest_57 : decode cX12_digest 57 = .ok (.bipush 53, 2) := by decide +kernel
theorem dX12_digest_59 : decode cX12_digest 59 = .ok (.iload_n 3, 1) := by decide +kernel
theorem dX12_digest_60 : decode cX12_digest 60 = .ok (.imul, 1) := by decide +kernel
theorem dX12_digest_61 : decode cX12_digest 61 = .ok (.iadd, 1) := by decide +kernel
theorem dX12_digest_62 : decode cX12_digest 62 = .ok (.iconst 2, 1) := by decide +kernel
theorem dX12_digest_63 : decode cX12_digest 63 = .ok (.iadd, 1) := by decide +kernel
theorem dX12_digest_64 : decode cX12_digest 64 = .ok (.iaload, 1) := by decide +kernel
theorem dX12_digest_65 : decode cX12_digest 65 = .ok (.iadd, 1) := by decide +kernel
theorem dX12_digest_66 : decode cX12_digest 66 = .ok (.invokevirtual 300, 3) := by decide +kernel
theorem dX12_digest_69 : decode cX12_digest 69 = .ok (.lstore_n 1, 1) := by decide +kernel
theorem dX12_digest_70 : decode cX12_digest 70 = .ok (.iinc 3 1, 3) := by decide +kernel
theorem dX12_digest_73 : decode cX12_digest 73 = .ok (.goto (-44), 3) := by decide +kernel
theorem dX12_digest_76 : decode cX12_digest 76 = .ok (.aload_n 0, 1) := by decide +kernel
theorem dX12_digest_77 : decode cX12_digest 77 = .ok (.aload_n 0, 1) := by decide +kernel
theorem dX12_digest_78 : decode cX12_digest 78 = .ok (.lload_n 1, 1) := by decide +kernel
theorem dX12_digest_79 : decode cX12_digest 79 = .ok (.sipush 1092, 3) := by decide +kernel
theorem dX12_digest_82 : decode cX12_digest 82 = .ok (.bipush 7, 2) := by decide +kernel
theorem dX12_digest_84 : decode cX12_digest 84 = .ok (.aload_n 0, 1) := by decide +kernel
theorem dX12_digest_85 : decode cX12_digest 85 = .ok (.getfield 7, 3) := by decide +kernel
theorem dX12_digest_88 : decode cX12_digest 88 = .ok (.iconst 2, 1) := by decide +kernel
theorem dX12_digest_89 : decode cX12_digest 89 = .ok (.iaload, 1) := by decide +kernel
theorem dX12_digest_90 : decode cX12_digest 90 = .ok (.imul, 1) := by decide +kernel
theorem dX12_digest_91 : decode cX12_digest 91 = .ok (.invokevirtual 300, 3) := by decide +kernel
theorem dX12_digest_94 : decode cX12_digest 94 = .ok (.sipush 1372, 3) := by decide +kernel
theorem dX12_digest_97 : decode cX12_digest 97 = .ok (.iconst 3, 1) := by decide +kernel
theorem dX12_digest_98 : decode cX12_digest 98 = .ok (.aload_n 0, 1) := by decide +kernel
theorem dX12_digest_99 : decode cX12_digest 99 = .ok (.getfield 7, 3) := by decide +kernel
theorem dX12_digest_102 : decode cX12_digest 102 = .ok (.iconst 3, 1) := by decide +kernel
theorem dX12_digest_103 : decode cX12_digest 103 = .ok (.iaload, 1) := by decide +kernel
theorem dX12_digest_104 : decode cX12_digest 104 = .ok (.imul, 1) := by decide +kernel
theorem dX12_digest_105 : decode cX12_digest 105 = .ok (.invokevirtual 300, 3) := by decide +kernel
theorem dX12_digest_108 : decode cX12_digest 108 = .ok (.lstore_n 1, 1) := by decide +kernel
theorem dX12_digest_109 : decode cX12_digest 109 = .ok (.iconst 0, 1) := by decide +kernel
theorem dX12_digest_110 : decode cX12_digest 110 = .ok (.istore_n 3, 1) := by decide +kernel
theorem dX12_digest_111 : decode cX12_digest 111 = .ok (.iload_n 3, 1) := by decide +kernel
theorem dX12_digest_112 : decode cX12_digest 112 = .ok (.aload_n 0, 1) := by decide +kernel
theorem dX12_digest_113 : decode cX12_digest 113 = .ok (.getfield 7, 3) := by decide +kernel
theorem dX12_digest_116 : decode cX12_digest 116 = .ok (.iconst 4, 1) := by decide +kernel
theorem dX12_digest_117 : decode cX12_digest 117 = .ok (.iaload, 1) := by decide +kernel
theorem dX12_digest_118 : decode cX12_digest 118 = .ok (.if_icmp .ge 31, 3) := by decide +kernel
theorem dX12_digest_121 : decode cX12_digest 121 = .ok (.aload_n 0, 1) := by decide +kernel
theorem dX12_digest_122 : decode cX12_digest 122 = .ok (.lload_n 1, 1) := by decide +kernel
theorem dX12_digest_123 : decode cX12_digest 123 = .ok (.sipush 1552, 3) := by decide +kernel
theorem dX12_digest_126 : decode cX12_digest 126 = .ok (.bipush 13, 2) := by decide +kernel
theorem dX12_digest_128 : decode cX12_digest 128 = .ok (.iload_n 3, 1) := by decide +kernel
theorem dX12_digest_129 : decode cX12_digest 129 = .ok (.imul, 1) := by decide +kernel
theorem dX12_digest_130 : decode cX12_digest 130 = .ok (.iadd, 1) := by decide +kernel
theorem dX12_digest_131 : decode cX12_digest 131 = .ok (.iconst 3, 1) := by decide +kernel
theorem dX12_digest_132 : decode cX12_digest 132 = .ok (.aload_n 0, 1) := by decide +kernel
theorem dX12_digest_133 : decode cX12_digest 133 = .ok (.getfield 7, 3) := by decide +kernel
theorem dX12_digest_136 : decode cX12_digest 136 = .ok (.iconst 0, 1) := by decide +kernel
theorem dX12_digest_137 : decode cX12_digest 137 = .ok (.iaload, 1) := by decide +kernel
theorem dX12_digest_138 : decode cX12_digest 138 = .ok (.iadd, 1) := by decide +kernel
theorem dX12_digest_139 : decode cX12_digest 139 = .ok (.invokevirtual 300, 3) := by decide +kernel
theorem dX12_digest_142 : decode cX12_digest 142 = .ok (.lstore_n 1, 1) := by decide +kernel
theorem dX12_digest_143 : decode cX12_digest 143 = .ok (.iinc 3 1, 3) := by decide +kernel
theorem dX12_digest_146 : decode cX12_digest 146 = .ok (.goto (-35), 3) := by decide +kernel
theorem dX12_digest_149 : decode cX12_digest 149 = .ok (.aload_n 0, 1) := by decide +kernel
theorem dX12_digest_150 : decode cX12_digest 150 = .ok (.aload_n 0, 1) := by decide +kernel
theorem dX12_digest_151 : decode cX12_digest 151 = .ok (.aload_n 0, 1) := by decide +kernel
theorem dX12_digest_152 : decode cX12_digest 152 = .ok (.lload_n 1, 1) := by decide +kernel
theorem dX12_digest_153 : decode cX12_digest 153 = .ok (.sipush 1591, 3) := by decide +kernel
theorem dX12_digest_156 : decode cX12_digest 156 = .ok (.aload_n 0, 1) := by decide +kernel
theorem dX12_digest_157 : decode cX12_digest 157 = .ok (.getfield 7, 3) := by decide +kernel
theorem dX12_digest_160 : decode cX12_digest 160 = .ok (.iconst 5, 1) := by decide +kernel
theorem dX12_digest_161 : decode cX12_digest 161 = .ok (.iaload, 1) := by decide +kernel
theorem dX12_digest_162 : decode cX12_digest 162 = .ok (.invokevirtual 300, 3) := by decide +kernel
theorem dX12_digest_165 : decode cX12_digest 165 = .ok (.bipush 11, 2) := by decide +kernel
theorem dX12_digest_167 : decode cX12_digest 167 = .ok (.iconst 1, 1) := by decide +kernel
theorem dX12_digest_168 : decode cX12_digest 168 = .ok (.invokevirtual 300, 3) := by decide +kernel
theorem dX12_digest_171 : decode cX12_digest 171 = .ok (.sipush 1597, 3) := by decide +kernel
theorem dX12_digest_174 : decode cX12_digest 174 = .ok (.iconst 3, 1) := by decide +kernel
theorem dX12_digest_175 : decode cX12_digest 175 = .ok (.aload_n 0, 1) := by decide +kernel
theorem dX12_digest_176 : decode cX12_digest 176 = .ok (.getfield 7, 3) := by decide +kernel
theorem dX12_digest_179 : decode cX12_digest 179 = .ok (.bipush 6, 2) := by decide +kernel
theorem dX12_digest_181 : decode cX12_digest 181 = .ok (.iaload, 1) := by decide +kernel
theorem dX12_digest_182 : decode cX12_digest 182 = .ok (.imul, 1) := by decide +kernel
theorem dX12_digest_183 : decode cX12_digest 183 = .ok (.invokevirtual 300, 3) := by decide +kernel
theorem dX12_digest_186 : decode cX12_digest 186 = .ok (.lstore_n 1, 1) := by decide +kernel
theorem dX12_digest_187 : decode cX12_digest 187 = .ok (.aload_n 0, 1) := by decide +kernel
theorem dX12_digest_188 : decode cX12_digest 188 = .ok (.aload_n 0, 1) := by decide +kernel
theorem dX12_digest_189 : decode cX12_digest 189 = .ok (.lload_n 1, 1) := by decide +kernel
theorem dX12_digest_190 : decode cX12_digest 190 = .ok (.bipush 12, 2) := by decide +kernel
theorem dX12_digest_192 : decode cX12_digest 192 = .ok (.iconst 1, 1) := by decide +kernel
theorem dX12_digest_193 : decode cX12_digest 193 = .ok (.invokevirtual 300, 3) := by decide +kernel
theorem dX12_digest_196 : decode cX12_digest 196 = .ok (.sipush 1633, 3) := by decide +kernel
theorem dX12_digest_199 : decode cX12_digest 199 = .ok (.iconst 3, 1) := by decide +kernel
theorem dX12_digest_200 : decode cX12_digest 200 = .ok (.aload_n 0, 1) := by decide +kernel
theorem dX12_digest_201 : decode cX12_digest 201 = .ok (.getfield 7, 3) := by decide +kernel
theorem dX12_digest_204 : decode cX12_digest 204 = .ok (.bipush 7, 2) := by decide +kernel
theorem dX12_digest_206 : decode cX12_digest 206 = .ok (.iaload, 1) := by decide +kernel
theorem dX12_digest_207 : decode cX12_digest 207 = .ok (.imul, 1) := by decide +kernel
theorem dX12_digest_208 : decode cX12_digest 208 = .ok (.invokevirtual 300, 3) := by decide +kernel
theorem dX12_digest_211 : decode cX12_digest 211 = .ok (.lstore_n 1, 1) := by decide +kernel
theorem dX12_digest_212 : decode cX12_digest 212 = .ok (.aload_n 0, 1) := by decide +kernel
theorem dX12_digest_213 : decode cX12_digest 213 = .ok (.aload_n 0, 1) := by decide +kernel
theorem dX12_digest_214 : decode cX12_digest 214 = .ok (.lload_n 1, 1) := by decide +kernel
theorem dX12_digest_215 : decode cX12_digest 215 = .ok (.sipush 1753, 3) := by decide +kernel
theorem dX12_digest_218 : decode cX12_digest 218 = .ok (.iconst 5, 1) := by decide +kernel
theorem dX12_digest_219 : decode cX12_digest 219 = .ok (.aload_n 0, 1) := by decide +kernel
theorem dX12_digest_220 : decode cX12_digest 220 = .ok (.getfield 7, 3) := by decide +kernel
theorem dX12_digest_223 : decode cX12_digest 223 = .ok (.bipush 8, 2) := by decide +kernel
theorem dX12_digest_225 : decode cX12_digest 225 = .ok (.iaload, 1) := by decide +kernel
theorem dX12_digest_226 : decode cX12_digest 226 = .ok (.imul, 1) := by decide +kernel
theorem dX12_digest_227 : decode cX12_digest 227 = .ok (.invokevirtual 300, 3) := by decide +kernel
theorem dX12_digest_230 : decode cX12_digest 230 = .ok (.sipush 1903, 3) := by decide +kernel
theorem dX12_digest_233 : decode cX12_digest 233 = .ok (.iconst 3, 1) := by decide +kernel
theorem dX12_digest_234 : decode cX12_digest 234 = .ok (.aload_n 0, 1) := by decide +kernel
theorem dX12_digest_235 : decode cX12_digest 235 = .ok (.getfield 7, 3) := by decide +kernel
theorem dX12_digest_238 : decode cX12_digest 238 = .ok (.bipush 9, 2) := by decide +kernel
theorem dX12_digest_240 : decode cX12_digest 240 = .ok (.iaload, 1) := by decide +kernel
theorem dX12_digest_241 : decode cX12_digest 241 = .ok (.imul, 1) := by decide +kernel
theorem dX12_digest_242 : decode cX12_digest 242 = .ok (.invokevirtual 300, 3) := by decide +kernel
theorem dX12_digest_245 : decode cX12_digest 245 = .ok (.lstore_n 1, 1) := by decide +kernel
theorem dX12_digest_246 : decode cX12_digest 246 = .ok (.aload_n 0, 1) := by decide +kernel
theorem dX12_digest_247 : decode cX12_digest 247 = .ok (.aload_n 0, 1) := by decide +kernel
theorem dX12_digest_248 : decode cX12_digest 248 = .ok (.lload_n 1, 1) := by decide +kernel
theorem dX12_digest_249 : decode cX12_digest 249 = .ok (.sipush 1933, 3) := by decide +kernel
theorem dX12_digest_252 : decode cX12_digest 252 = .ok (.iconst 3, 1) := by decide +kernel
theorem dX12_digest_253 : decode cX12_digest 253 = .ok (.aload_n 0, 1) := by decide +kernel
theorem dX12_digest_254 : decode cX12_digest 254 = .ok (.getfield 7, 3) := by decide +kernel
theorem dX12_digest_257 : decode cX12_digest 257 = .ok (.bipush 10, 2) := by decide +kernel
theorem dX12_digest_259 : decode cX12_digest 259 = .ok (.iaload, 1) := by decide +kernel
theorem dX12_digest_260 : decode cX12_digest 260 = .ok (.imul, 1) := by decide +kernel
theorem dX12_digest_261 : decode cX12_digest 261 = .ok (.invokevirtual 300, 3) := by decide +kernel
theorem dX12_digest_264 : decode cX12_digest 264 = .ok (.bipush 13, 2) := by decide +kernel
theorem dX12_digest_266 : decode cX12_digest 266 = .ok (.iconst 3, 1) := by decide +kernel
theorem dX12_digest_267 : decode cX12_digest 267 = .ok (.invokevirtual 300, 3) := by decide +kernel
theorem dX12_digest_270 : decode cX12_digest 270 = .ok (.lstore_n 1, 1) := by decide +kernel
theorem dX12_digest_271 : decode cX12_digest 271 = .ok (.iconst 0, 1) := by decide +kernel
theorem dX12_digest_272 : decode cX12_digest 272 = .ok (.istore_n 3, 1) := by decide +kernel
theorem dX12_digest_273 : decode cX12_digest 273 = .ok (.iload_n 3, 1) := by decide +kernel
theorem dX12_digest_274 : decode cX12_digest 274 = .ok (.iconst 4, 1) := by decide +kernel
theorem dX12_digest_275 : decode cX12_digest 275 = .ok (.if_icmp .ge 36, 3) := by decide +kernel
theorem dX12_digest_278 : decode cX12_digest 278 = .ok (.aload_n 0, 1) := by decide +kernel
theorem dX12_digest_279 : decode cX12_digest 279 = .ok (.lload_n 1, 1) := by decide +kernel
theorem dX12_digest_280 : decode cX12_digest 280 = .ok (.bipush 40, 2) := by decide +kernel
theorem dX12_digest_282 : decode cX12_digest 282 = .ok (.bipush 51, 2) := by decide +kernel
theorem dX12_digest_284 : decode cX12_digest 284 = .ok (.iload_n 3, 1) := by decide +kernel
theorem dX12_digest_285 : decode cX12_digest 285 = .ok (.imul, 1) := by decide +kernel
theorem dX12_digest_286 : decode cX12_digest 286 = .ok (.iadd, 1) := by decide +kernel
theorem dX12_digest_287 : decode cX12_digest 287 = .ok (.iconst 1, 1) := by decide +kernel
theorem dX12_digest_288 : decode cX12_digest 288 = .ok (.aload_n 0, 1) := by decide +kernel
theorem dX12_digest_289 : decode cX12_digest 289 = .ok (.getfield 7, 3) := by decide +kernel
theorem dX12_digest_292 : decode cX12_digest 292 = .ok (.bipush 40, 2) := by decide +kernel
theorem dX12_digest_294 : decode cX12_digest 294 = .ok (.bipush 51, 2) := by decide +kernel
theorem dX12_digest_296 : decode cX12_digest 296 = .ok (.iload_n 3, 1) := by decide +kernel
theorem dX12_digest_297 : decode cX12_digest 297 = .ok (.imul, 1) := by decide +kernel
theorem dX12_digest_298 : decode cX12_digest 298 = .ok (.iadd, 1) := by decide +kernel
theorem dX12_digest_299 : decode cX12_digest 299 = .ok (.iaload, 1) := by decide +kernel
theorem dX12_digest_300 : decode cX12_digest 300 = .ok (.iadd, 1) := by decide +kernel
theorem dX12_digest_301 : decode cX12_digest 301 = .ok (.invokevirtual 300, 3) := by decide +kernel
theorem dX12_digest_304 : decode cX12_digest 304 = .ok (.lstore_n 1, 1) := by decide +kernel
theorem dX12_digest_305 : decode cX12_digest 305 = .ok (.iinc 3 1, 3) := by decide +kernel
theorem dX12_digest_308 : decode cX12_digest 308 = .ok (.goto (-35), 3) := by decide +kernel
theorem dX12_digest_311 : decode cX12_digest 311 = .ok (.iconst 0, 1) := by decide +kernel
theorem dX12_digest_312 : decode cX12_digest 312 = .ok (.istore_n 3, 1) := by decide +kernel
theorem dX12_digest_313 : decode cX12_digest 313 = .ok (.iload_n 3, 1) := by decide +kernel
theorem dX12_digest_314 : decode cX12_digest 314 = .ok (.aload_n 0, 1) := by decide +kernel
theorem dX12_digest_315 : decode cX12_digest 315 = .ok (.getfield 7, 3) := by decide +kernel
theorem dX12_digest_318 : decode cX12_digest 318 = .ok (.iconst 0, 1) := by decide +kernel
theorem dX12_digest_319 : decode cX12_digest 319 = .ok (.iaload, 1) := by decide +kernel
theorem dX12_digest_320 : decode cX12_digest 320 = .ok (.if_icmp .ge 23, 3) := by decide +kernel
theorem dX12_digest_323 : decode cX12_digest 323 = .ok (.ldc2_w 296, 3) := by decide +kernel
theorem dX12_digest_326 : decode cX12_digest 326 = .ok (.lload_n 1, 1) := by decide +kernel
theorem dX12_digest_327 : decode cX12_digest 327 = .ok (.lmul, 1) := by decide +kernel
theorem dX12_digest_328 : decode cX12_digest 328 = .ok (.aload_n 0, 1) := by decide +kernel
theorem dX12_digest_329 : decode cX12_digest 329 = .ok (.iload_n 3, 1) := by decide +kernel
theorem dX12_digest_330 : decode cX12_digest 330 = .ok (.bipush 99, 2) := by decide +kernel
theorem dX12_digest_332 : decode cX12_digest 332 = .ok (.invokevirtual 234, 3) := by decide +kernel
theorem dX12_digest_335 : decode cX12_digest 335 = .ok (.ladd, 1) := by decide +kernel
theorem dX12_digest_336 : decode cX12_digest 336 = .ok (.lstore_n 1, 1) := by decide +kernel
theorem dX12_digest_337 : decode cX12_digest 337 = .ok (.iinc 3 1, 3) := by decide +kernel
theorem dX12_digest_340 : decode cX12_digest 340 = .ok (.goto (-27), 3) := by decide +kernel
theorem dX12_digest_343 : decode cX12_digest 343 = .ok (.ldc2_w 296, 3) := by decide +kernel
theorem dX12_digest_346 : decode cX12_digest 346 = .ok (.ldc2_w 296, 3) := by decide +kernel
theorem dX12_digest_349 : decode cX12_digest 349 = .ok (.lload_n 1, 1) := by decide +kernel
theorem dX12_digest_350 : decode cX12_digest 350 = .ok (.lmul, 1) := by decide +kernel
theorem dX12_digest_351 : decode cX12_digest 351 = .ok (.aload_n 0, 1) := by decide +kernel
theorem dX12_digest_352 : decode cX12_digest 352 = .ok (.getfield 227, 3) := by decide +kernel
theorem dX12_digest_355 : decode cX12_digest 355 = .ok (.ladd, 1) := by decide +kernel
theorem dX12_digest_356 : decode cX12_digest 356 = .ok (.lmul, 1) := by decide +kernel
theorem dX12_digest_357 : decode cX12_digest 357 = .ok (.aload_n 0, 1) := by decide +kernel
theorem dX12_digest_358 : decode cX12_digest 358 = .ok (.getfield 75, 3) := by decide +kernel
theorem dX12_digest_361 : decode cX12_digest 361 = .ok (.ladd, 1) := by decide +kernel
theorem dX12_digest_362 : decode cX12_digest 362 = .ok (.lreturn, 1) := by decide +kernel
theorem dJ6_bitCount_0f7a4_0 : decode cJ6_bitCount_0f7a4 0 = .ok (.iload_n 0, 1) := by decide +kernel
theorem dJ6_bitCount_0f7a4_1 : decode cJ6_bitCount_0f7a4 1 = .ok (.iload_n 0, 1) := by decide +kernel
theorem dJ6_bitCount_0f7a4_2 : decode cJ6_bitCount_0f7a4 2 = .ok (.iconst 1, 1) := by decide +kernel
theorem dJ6_bitCount_0f7a4_3 : decode cJ6_bitCount_0f7a4 3 = .ok (.iushr, 1) := by decide +kernel
theorem dJ6_bitCount_0f7a4_4 : decode cJ6_bitCount_0f7a4 4 = .ok (.ldc_w 265, 3) := by decide +kernel
theorem dJ6_bitCount_0f7a4_7 : decode cJ6_bitCount_0f7a4 7 = .ok (.iand, 1) := by decide +kernel
theorem dJ6_bitCount_0f7a4_8 : decode cJ6_bitCount_0f7a4 8 = .ok (.isub, 1) := by decide +kernel
theorem dJ6_bitCount_0f7a4_9 : decode cJ6_bitCount_0f7a4 9 = .ok (.istore_n 0, 1) := by decide +kernel
theorem dJ6_bitCount_0f7a4_10 : decode cJ6_bitCount_0f7a4 10 = .ok (.iload_n 0, 1) := by decide +kernel
theorem dJ6_bitCount_0f7a4_11 : decode cJ6_bitCount_0f7a4 11 = .ok (.ldc_w 266, 3) := by decide +kernel
theorem dJ6_bitCount_0f7a4_14 : decode cJ6_bitCount_0f7a4 14 = .ok (.iand, 1) := by decide +kernel
theorem dJ6_bitCount_0f7a4_15 : decode cJ6_bitCount_0f7a4 15 = .ok (.iload_n 0, 1) := by decide +kernel
theorem dJ6_bitCount_0f7a4_16 : decode cJ6_bitCount_0f7a4 16 = .ok (.iconst 2, 1) := by decide +kernel
theorem dJ6_bitCount_0f7a4_17 : decode cJ6_bitCount_0f7a4 17 = .ok (.iushr, 1) := by decide +kernel
theorem dJ6_bitCount_0f7a4_18 : decode cJ6_bitCount_0f7a4 18 = .ok (.ldc_w 266, 3) := by decide +kernel
theorem dJ6_bitCount_0f7a4_21 : decode cJ6_bitCount_0f7a4 21 = .ok (.iand, 1) := by decide +kernel
theorem dJ6_bitCount_0f7a4_22 : decode cJ6_bitCount_0f7a4 22 = .ok (.iadd, 1) := by decide +kernel
theorem dJ6_bitCount_0f7a4_23 : decode cJ6_bitCount_0f7a4 23 = .ok (.istore_n 0, 1) := by decide +kernel
theorem dJ6_bitCount_0f7a4_24 : decode cJ6_bitCount_0f7a4 24 = .ok (.iload_n 0, 1) := by decide +kernel
theorem dJ6_bitCount_0f7a4_25 : decode cJ6_bitCount_0f7a4 25 = .ok (.iload_n 0, 1) := by decide +kernel
theorem dJ6_bitCount_0f7a4_26 : decode cJ6_bitCount_0f7a4 26 = .ok (.iconst 4, 1) := by decide +kernel
theorem dJ6_bitCount_0f7a4_27 : decode cJ6_bitCount_0f7a4 27 = .ok (.iushr, 1) := by decide +kernel
theorem dJ6_bitCount_0f7a4_28 : decode cJ6_bitCount_0f7a4 28 = .ok (.iadd, 1) := by decide +kernel
theorem dJ6_bitCount_0f7a4_29 : decode cJ6_bitCount_0f7a4 29 = .ok (.ldc_w 267, 3) := by decide +kernel
theorem dJ6_bitCount_0f7a4_32 : decode cJ6_bitCount_0f7a4 32 = .ok (.iand, 1) := by decide +kernel
theorem dJ6_bitCount_0f7a4_33 : decode cJ6_bitCount_0f7a4 33 = .ok (.istore_n 0, 1) := by decide +kernel
theorem dJ6_bitCount_0f7a4_34 : decode cJ6_bitCount_0f7a4 34 = .ok (.iload_n 0, 1) := by decide +kernel
theorem dJ6_bitCount_0f7a4_35 : decode cJ6_bitCount_0f7a4 35 = .ok (.iload_n 0, 1) := by decide +kernel
theorem dJ6_bitCount_0f7a4_36 : decode cJ6_bitCount_0f7a4 36 = .ok (.bipush 8, 2) := by decide +kernel
theorem dJ6_bitCount_0f7a4_38 : decode cJ6_bitCount_0f7a4 38 = .ok (.iushr, 1) := by decide +kernel
theorem dJ6_bitCount_0f7a4_39 : decode cJ6_bitCount_0f7a4 39 = .ok (.iadd, 1) := by decide +kernel
theorem dJ6_bitCount_0f7a4_40 : decode cJ6_bitCount_0f7a4 40 = .ok (.istore_n 0, 1) := by decide +kernel
theorem dJ6_bitCount_0f7a4_41 : decode cJ6_bitCount_0f7a4 41 = .ok (.iload_n 0, 1) := by decide +kernel
theorem dJ6_bitCount_0f7a4_42 : decode cJ6_bitCount_0f7a4 42 = .ok (.iload_n 0, 1) := by decide +kernel
theorem dJ6_bitCount_0f7a4_43 : decode cJ6_bitCount_0f7a4 43 = .ok (.bipush 16, 2) := by decide +kernel
theorem dJ6_bitCount_0f7a4_45 : decode cJ6_bitCount_0f7a4 45 = .ok (.iushr, 1) := by decide +kernel
theorem dJ6_bitCount_0f7a4_46 : decode cJ6_bitCount_0f7a4 46 = .ok (.iadd, 1) := by decide +kernel
theorem dJ6_bitCount_0f7a4_47 : decode cJ6_bitCount_0f7a4 47 = .ok (.istore_n 0, 1) := by decide +kernel
theorem dJ6_bitCount_0f7a4_48 : decode cJ6_bitCount_0f7a4 48 = .ok (.iload_n 0, 1) := by decide +kernel
theorem dJ6_bitCount_0f7a4_49 : decode cJ6_bitCount_0f7a4 49 = .ok (.bipush 63, 2) := by decide +kernel
theorem dJ6_bitCount_0f7a4_51 : decode cJ6_bitCount_0f7a4 51 = .ok (.iand, 1) := by decide +kernel
theorem dJ6_bitCount_0f7a4_52 : decode cJ6_bitCount_0f7a4 52 = .ok (.ireturn, 1) := by decide +kernel
theorem dJ9_abs_0f7a4_0 : decode cJ9_abs_0f7a4 0 = .ok (.iload_n 0, 1) := by decide +kernel
theorem dJ9_abs_0f7a4_1 : decode cJ9_abs_0f7a4 1 = .ok (.ifCond .ge 8, 3) := by decide +kernel
theorem dJ9_abs_0f7a4_4 : decode cJ9_abs_0f7a4 4 = .ok (.iload_n 0, 1) := by decide +kernel
theorem dJ9_abs_0f7a4_5 : decode cJ9_abs_0f7a4 5 = .ok (.ineg, 1) := by decide +kernel
theorem dJ9_abs_0f7a4_6 : decode cJ9_abs_0f7a4 6 = .ok (.goto 4, 3) := by decide +kernel
theorem dJ9_abs_0f7a4_9 : decode cJ9_abs_0f7a4 9 = .ok (.iload_n 0, 1) := by decide +kernel
theorem dJ9_abs_0f7a4_10 : decode cJ9_abs_0f7a4 10 = .ok (.ireturn, 1) := by decide +kernel
theorem dJ9_max_7cf53_0 : decode cJ9_max_7cf53 0 = .ok (.iload_n 0, 1) := by decide +kernel
theorem dJ9_max_7cf53_1 : decode cJ9_max_7cf53 1 = .ok (.iload_n 1, 1) := by decide +kernel
theorem dJ9_max_7cf53_2 : decode cJ9_max_7cf53 2 = .ok (.if_icmp .lt 7, 3) := by decide +kernel
theorem dJ9_max_7cf53_5 : decode cJ9_max_7cf53 5 = .ok (.iload_n 0, 1) := by decide +kernel
theorem dJ9_max_7cf53_6 : decode cJ9_max_7cf53 6 = .ok (.goto 4, 3) := by decide +kernel
theorem dJ9_max_7cf53_9 : decode cJ9_max_7cf53 9 = .ok (.iload_n 1, 1) := by decide +kernel
theorem dJ9_max_7cf53_10 : decode cJ9_max_7cf53 10 = .ok (.ireturn, 1) := by decide +kernel
theorem dJ9_max_f86c9_0 : decode cJ9_max_f86c9 0 = .ok (.lload_n 0, 1) := by decide +kernel
theorem dJ9_max_f86c9_1 : decode cJ9_max_f86c9 1 = .ok (.lload_n 2, 1) := by decide +kernel
theorem dJ9_max_f86c9_2 : decode cJ9_max_f86c9 2 = .ok (.lcmp, 1) := by decide +kernel
theorem dJ9_max_f86c9_3 : decode cJ9_max_f86c9 3 = .ok (.ifCond .lt 7, 3) := by decide +kernel
theorem dJ9_max_f86c9_6 : decode cJ9_max_f86c9 6 = .ok (.lload_n 0, 1) := by decide +kernel
theorem dJ9_max_f86c9_7 : decode cJ9_max_f86c9 7 = .ok (.goto 4, 3) := by decide +kernel
theorem dJ9_max_f86c9_10 : decode cJ9_max_f86c9 10 = .ok (.lload_n 2, 1) := by decide +kernel
theorem dJ9_max_f86c9_11 : decode cJ9_max_f86c9 11 = .ok (.lreturn, 1) := by decide +kernel
theorem dJ9_min_7cf53_0 : decode cJ9_min_7cf53 0 = .ok (.iload_n 0, 1) := by decide +kernel
theorem dJ9_min_7cf53_1 : decode cJ9_min_7cf53 1 = .ok (.iload_n 1, 1) := by decide +kernel
theorem dJ9_min_7cf53_2 : decode cJ9_min_7cf53 2 = .ok (.if_icmp .gt 7, 3) := by decide +kernel
theorem dJ9_min_7cf53_5 : decode cJ9_min_7cf53 5 = .ok (.iload_n 0, 1) := by decide +kernel
theorem dJ9_min_7cf53_6 : decode cJ9_min_7cf53 6 = .ok (.goto 4, 3) := by decide +kernel
theorem dJ9_min_7cf53_9 : decode cJ9_min_7cf53 9 = .ok (.iload_n 1, 1) := by decide +kernel
theorem dJ9_min_7cf53_10 : decode cJ9_min_7cf53 10 = .ok (.ireturn, 1) := by decide +kernel
theorem dJ9_min_f86c9_0 : decode cJ9_min_f86c9 0 = .ok (.lload_n 0, 1) := by decide +kernel
theorem dJ9_min_f86c9_1 : decode cJ9_min_f86c9 1 = .ok (.lload_n 2, 1) := by decide +kernel
theorem dJ9_min_f86c9_2 : decode cJ9_min_f86c9 2 = .ok (.lcmp, 1) := by decide +kernel
theorem dJ9_min_f86c9_3 : decode cJ9_min_f86c9 3 = .ok (.ifCond .gt 7, 3) := by decide +kernel
theorem dJ9_min_f86c9_6 : decode cJ9_min_f86c9 6 = .ok (.lload_n 0, 1) := by decide +kernel
theorem dJ9_min_f86c9_7 : decode cJ9_min_f86c9 7 = .ok (.goto 4, 3) := by decide +kernel
theorem dJ9_min_f86c9_10 : decode cJ9_min_f86c9 10 = .ok (.lload_n 2, 1) := by decide +kernel
theorem dJ9_min_f86c9_11 : decode cJ9_min_f86c9 11 = .ok (.lreturn, 1) := by decide +kernel
theorem dJ7_fill_d0a16_0 : decode cJ7_fill_d0a16 0 = .ok (.iconst 0, 1) := by decide +kernel
theorem dJ7_fill_d0a16_1 : decode cJ7_fill_d0a16 1 = .ok (.istore_n 3, 1) := by decide +kernel
theorem dJ7_fill_d0a16_2 : decode cJ7_fill_d0a16 2 = .ok (.aload_n 0, 1) := by decide +kernel
theorem dJ7_fill_d0a16_3 : decode cJ7_fill_d0a16 3 = .ok (.arraylength, 1) := by decide +kernel
theorem dJ7_fill_d0a16_4 : decode cJ7_fill_d0a16 4 = .ok (.istore 4, 2) := by decide +kernel
theorem dJ7_fill_d0a16_6 : decode cJ7_fill_d0a16 6 = .ok (.iload_n 3, 1) := by decide +kernel
theorem dJ7_fill_d0a16_7 : decode cJ7_fill_d0a16 7 = .ok (.iload 4, 2) := by decide +kernel
theorem dJ7_fill_d0a16_9 : decode cJ7_fill_d0a16 9 = .ok (.if_icmp .ge 13, 3) := by decide +kernel
theorem dJ7_fill_d0a16_12 : decode cJ7_fill_d0a16 12 = .ok (.aload_n 0, 1) := by decide +kernel
theorem dJ7_fill_d0a16_13 : decode cJ7_fill_d0a16 13 = .ok (.iload_n 3, 1) := by decide +kernel
theorem dJ7_fill_d0a16_14 : decode cJ7_fill_d0a16 14 = .ok (.lload_n 1, 1) := by decide +kernel
theorem dJ7_fill_d0a16_15 : decode cJ7_fill_d0a16 15 = .ok (.lastore, 1) := by decide +kernel
theorem dJ7_fill_d0a16_16 : decode cJ7_fill_d0a16 16 = .ok (.iinc 3 1, 3) := by decide +kernel
theorem dJ7_fill_d0a16_19 : decode cJ7_fill_d0a16 19 = .ok (.goto (-13), 3) := by decide +kernel
theorem dJ7_fill_d0a16_22 : decode cJ7_fill_d0a16 22 = .ok (.return_, 1) := by decide +kernel
theorem dJ7_fill_53178_0 : decode cJ7_fill_53178 0 = .ok (.iconst 0, 1) := by decide +kernel
theorem dJ7_fill_53178_1 : decode cJ7_fill_53178 1 = .ok (.istore_n 2, 1) := by decide +kernel
theorem dJ7_fill_53178_2 : decode cJ7_fill_53178 2 = .ok (.aload_n 0, 1) := by decide +kernel
theorem dJ7_fill_53178_3 : decode cJ7_fill_53178 3 = .ok (.arraylength, 1) := by decide +kernel
theorem dJ7_fill_53178_4 : decode cJ7_fill_53178 4 = .ok (.istore_n 3, 1) := by decide +kernel
theorem dJ7_fill_53178_5 : decode cJ7_fill_53178 5 = .ok (.iload_n 2, 1) := by decide +kernel
theorem dJ7_fill_53178_6 : decode cJ7_fill_53178 6 = .ok (.iload_n 3, 1) := by decide +kernel
theorem dJ7_fill_53178_7 : decode cJ7_fill_53178 7 = .ok (.if_icmp .ge 13, 3) := by decide +kernel
theorem dJ7_fill_53178_10 : decode cJ7_fill_53178 10 = .ok (.aload_n 0, 1) := by decide +kernel
theorem dJ7_fill_53178_11 : decode cJ7_fill_53178 11 = .ok (.iload_n 2, 1) := by decide +kernel
theorem dJ7_fill_53178_12 : decode cJ7_fill_53178 12 = .ok (.iload_n 1, 1) := by decide +kernel
theorem dJ7_fill_53178_13 : decode cJ7_fill_53178 13 = .ok (.iastore, 1) := by decide +kernel
theorem dJ7_fill_53178_14 : decode cJ7_fill_53178 14 = .ok (.iinc 2 1, 3) := by decide +kernel
theorem dJ7_fill_53178_17 : decode cJ7_fill_53178 17 = .ok (.goto (-12), 3) := by decide +kernel
theorem dJ7_fill_53178_20 : decode cJ7_fill_53178 20 = .ok (.return_, 1) := by decide +kernel
