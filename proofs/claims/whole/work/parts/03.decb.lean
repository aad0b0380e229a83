theorem dX6_fillDegree_56 : decode cX6_fillDegree 56 = .ok (.iload_n 2, 1) := by decide +kernel
theorem dX6_fillDegree_57 : decode cX6_fillDegree 57 = .ok (.iaload, 1) := by decide +kernel
theorem dX6_fillDegree_58 : decode cX6_fillDegree 58 = .ok (.iload 4, 2) := by decide +kernel
theorem dX6_fillDegree_60 : decode cX6_fillDegree 60 = .ok (.iload 8, 2) := by decide +kernel
theorem dX6_fillDegree_62 : decode cX6_fillDegree 62 = .ok (.invokevirtual 40, 3) := by decide +kernel
theorem dX6_fillDegree_65 : decode cX6_fillDegree 65 = .ok (.istore 9, 2) := by decide +kernel
theorem dX6_fillDegree_67 : decode cX6_fillDegree 67 = .ok (.iload 9, 2) := by decide +kernel
theorem dX6_fillDegree_69 : decode cX6_fillDegree 69 = .ok (.iconst (-1), 1) := by decide +kernel
theorem dX6_fillDegree_70 : decode cX6_fillDegree 70 = .ok (.if_icmp .ne 7, 3) := by decide +kernel
theorem dX6_fillDegree_73 : decode cX6_fillDegree 73 = .ok (.iconst (-1), 1) := by decide +kernel
theorem dX6_fillDegree_74 : decode cX6_fillDegree 74 = .ok (.goto 11, 3) := by decide +kernel
theorem dX6_fillDegree_77 : decode cX6_fillDegree 77 = .ok (.bipush 12, 2) := by decide +kernel
theorem dX6_fillDegree_79 : decode cX6_fillDegree 79 = .ok (.iload 8, 2) := by decide +kernel
theorem dX6_fillDegree_81 : decode cX6_fillDegree 81 = .ok (.imul, 1) := by decide +kernel
theorem dX6_fillDegree_82 : decode cX6_fillDegree 82 = .ok (.iload 4, 2) := by decide +kernel
theorem dX6_fillDegree_84 : decode cX6_fillDegree 84 = .ok (.iadd, 1) := by decide +kernel
theorem dX6_fillDegree_85 : decode cX6_fillDegree 85 = .ok (.istore 10, 2) := by decide +kernel
theorem dX6_fillDegree_87 : decode cX6_fillDegree 87 = .ok (.aload_n 0, 1) := by decide +kernel
theorem dX6_fillDegree_88 : decode cX6_fillDegree 88 = .ok (.getfield 9, 3) := by decide +kernel
theorem dX6_fillDegree_91 : decode cX6_fillDegree 91 = .ok (.iload 6, 2) := by decide +kernel
theorem dX6_fillDegree_93 : decode cX6_fillDegree 93 = .ok (.iload 8, 2) := by decide +kernel
theorem dX6_fillDegree_95 : decode cX6_fillDegree 95 = .ok (.iadd, 1) := by decide +kernel
theorem dX6_fillDegree_96 : decode cX6_fillDegree 96 = .ok (.iload 10, 2) := by decide +kernel
theorem dX6_fillDegree_98 : decode cX6_fillDegree 98 = .ok (.iastore, 1) := by decide +kernel
theorem dX6_fillDegree_99 : decode cX6_fillDegree 99 = .ok (.aload_n 0, 1) := by decide +kernel
theorem dX6_fillDegree_100 : decode cX6_fillDegree 100 = .ok (.getfield 15, 3) := by decide +kernel
theorem dX6_fillDegree_103 : decode cX6_fillDegree 103 = .ok (.iload 6, 2) := by decide +kernel
theorem dX6_fillDegree_105 : decode cX6_fillDegree 105 = .ok (.iload 8, 2) := by decide +kernel
theorem dX6_fillDegree_107 : decode cX6_fillDegree 107 = .ok (.iadd, 1) := by decide +kernel
theorem dX6_fillDegree_108 : decode cX6_fillDegree 108 = .ok (.iload 9, 2) := by decide +kernel
theorem dX6_fillDegree_110 : decode cX6_fillDegree 110 = .ok (.iastore, 1) := by decide +kernel
theorem dX6_fillDegree_111 : decode cX6_fillDegree 111 = .ok (.iload 10, 2) := by decide +kernel
theorem dX6_fillDegree_113 : decode cX6_fillDegree 113 = .ok (.iconst (-1), 1) := by decide +kernel
theorem dX6_fillDegree_114 : decode cX6_fillDegree 114 = .ok (.if_icmp .eq 44, 3) := by decide +kernel
theorem dX6_fillDegree_117 : decode cX6_fillDegree 117 = .ok (.aload_n 0, 1) := by decide +kernel
theorem dX6_fillDegree_118 : decode cX6_fillDegree 118 = .ok (.getfield 9, 3) := by decide +kernel
theorem dX6_fillDegree_121 : decode cX6_fillDegree 121 = .ok (.iload 7, 2) := by decide +kernel
theorem dX6_fillDegree_123 : decode cX6_fillDegree 123 = .ok (.iaload, 1) := by decide +kernel
theorem dX6_fillDegree_124 : decode cX6_fillDegree 124 = .ok (.iconst (-1), 1) := by decide +kernel
theorem dX6_fillDegree_125 : decode cX6_fillDegree 125 = .ok (.if_icmp .eq 15, 3) := by decide +kernel
theorem dX6_fillDegree_128 : decode cX6_fillDegree 128 = .ok (.iload 9, 2) := by decide +kernel
theorem dX6_fillDegree_130 : decode cX6_fillDegree 130 = .ok (.aload_n 0, 1) := by decide +kernel
theorem dX6_fillDegree_131 : decode cX6_fillDegree 131 = .ok (.getfield 15, 3) := by decide +kernel
theorem dX6_fillDegree_134 : decode cX6_fillDegree 134 = .ok (.iload 7, 2) := by decide +kernel
theorem dX6_fillDegree_136 : decode cX6_fillDegree 136 = .ok (.iaload, 1) := by decide +kernel
theorem dX6_fillDegree_137 : decode cX6_fillDegree 137 = .ok (.if_icmp .ge 21, 3) := by decide +kernel
theorem dX6_fillDegree_140 : decode cX6_fillDegree 140 = .ok (.aload_n 0, 1) := by decide +kernel
theorem dX6_fillDegree_141 : decode cX6_fillDegree 141 = .ok (.getfield 9, 3) := by decide +kernel
theorem dX6_fillDegree_144 : decode cX6_fillDegree 144 = .ok (.iload 7, 2) := by decide +kernel
theorem dX6_fillDegree_146 : decode cX6_fillDegree 146 = .ok (.iload 10, 2) := by decide +kernel
theorem dX6_fillDegree_148 : decode cX6_fillDegree 148 = .ok (.iastore, 1) := by decide +kernel
theorem dX6_fillDegree_149 : decode cX6_fillDegree 149 = .ok (.aload_n 0, 1) := by decide +kernel
theorem dX6_fillDegree_150 : decode cX6_fillDegree 150 = .ok (.getfield 15, 3) := by decide +kernel
theorem dX6_fillDegree_153 : decode cX6_fillDegree 153 = .ok (.iload 7, 2) := by decide +kernel
theorem dX6_fillDegree_155 : decode cX6_fillDegree 155 = .ok (.iload 9, 2) := by decide +kernel
theorem dX6_fillDegree_157 : decode cX6_fillDegree 157 = .ok (.iastore, 1) := by decide +kernel
theorem dX6_fillDegree_158 : decode cX6_fillDegree 158 = .ok (.iinc 8 1, 3) := by decide +kernel
theorem dX6_fillDegree_161 : decode cX6_fillDegree 161 = .ok (.goto (-124), 3) := by decide +kernel
theorem dX6_fillDegree_164 : decode cX6_fillDegree 164 = .ok (.return_, 1) := by decide +kernel
theorem dX7_init_0 : decode cX7_init 0 = .ok (.aload_n 0, 1) := by decide +kernel
theorem dX7_init_1 : decode cX7_init 1 = .ok (.invokespecial 3, 3) := by decide +kernel
theorem dX7_init_4 : decode cX7_init 4 = .ok (.aload_n 0, 1) := by decide +kernel
theorem dX7_init_5 : decode cX7_init 5 = .ok (.iconst 4, 1) := by decide +kernel
theorem dX7_init_6 : decode cX7_init 6 = .ok (.newarray .int, 2) := by decide +kernel
theorem dX7_init_8 : decode cX7_init 8 = .ok (.dup, 1) := by decide +kernel
theorem dX7_init_9 : decode cX7_init 9 = .ok (.iconst 0, 1) := by decide +kernel
theorem dX7_init_10 : decode cX7_init 10 = .ok (.iconst 4, 1) := by decide +kernel
theorem dX7_init_11 : decode cX7_init 11 = .ok (.iastore, 1) := by decide +kernel
theorem dX7_init_12 : decode cX7_init 12 = .ok (.dup, 1) := by decide +kernel
theorem dX7_init_13 : decode cX7_init 13 = .ok (.iconst 1, 1) := by decide +kernel
theorem dX7_init_14 : decode cX7_init 14 = .ok (.iconst 3, 1) := by decide +kernel
theorem dX7_init_15 : decode cX7_init 15 = .ok (.iastore, 1) := by decide +kernel
theorem dX7_init_16 : decode cX7_init 16 = .ok (.dup, 1) := by decide +kernel
theorem dX7_init_17 : decode cX7_init 17 = .ok (.iconst 2, 1) := by decide +kernel
theorem dX7_init_18 : decode cX7_init 18 = .ok (.iconst 1, 1) := by decide +kernel
theorem dX7_init_19 : decode cX7_init 19 = .ok (.iastore, 1) := by decide +kernel
theorem dX7_init_20 : decode cX7_init 20 = .ok (.dup, 1) := by decide +kernel
theorem dX7_init_21 : decode cX7_init 21 = .ok (.iconst 3, 1) := by decide +kernel
theorem dX7_init_22 : decode cX7_init 22 = .ok (.iconst 5, 1) := by decide +kernel
theorem dX7_init_23 : decode cX7_init 23 = .ok (.iastore, 1) := by decide +kernel
theorem dX7_init_24 : decode cX7_init 24 = .ok (.putfield 9, 3) := by decide +kernel
theorem dX7_init_27 : decode cX7_init 27 = .ok (.return_, 1) := by decide +kernel
theorem dX7_change_0 : decode cX7_change 0 = .ok (.iload_n 1, 1) := by decide +kernel
theorem dX7_change_1 : decode cX7_change 1 = .ok (.ifCond .lt 19, 3) := by decide +kernel
theorem dX7_change_4 : decode cX7_change 4 = .ok (.iload_n 1, 1) := by decide +kernel
theorem dX7_change_5 : decode cX7_change 5 = .ok (.iconst 4, 1) := by decide +kernel
theorem dX7_change_6 : decode cX7_change 6 = .ok (.if_icmp .ge 14, 3) := by decide +kernel
theorem dX7_change_9 : decode cX7_change 9 = .ok (.iload_n 2, 1) := by decide +kernel
theorem dX7_change_10 : decode cX7_change 10 = .ok (.ifCond .lt 10, 3) := by decide +kernel
theorem dX7_change_13 : decode cX7_change 13 = .ok (.iload_n 2, 1) := by decide +kernel
theorem dX7_change_14 : decode cX7_change 14 = .ok (.sipush 1000, 3) := by decide +kernel
theorem dX7_change_17 : decode cX7_change 17 = .ok (.if_icmp .le 5, 3) := by decide +kernel
theorem dX7_change_20 : decode cX7_change 20 = .ok (.iconst 0, 1) := by decide +kernel
theorem dX7_change_21 : decode cX7_change 21 = .ok (.ireturn, 1) := by decide +kernel
theorem dX7_change_22 : decode cX7_change 22 = .ok (.aload_n 0, 1) := by decide +kernel
theorem dX7_change_23 : decode cX7_change 23 = .ok (.getfield 9, 3) := by decide +kernel
theorem dX7_change_26 : decode cX7_change 26 = .ok (.iload_n 1, 1) := by decide +kernel
theorem dX7_change_27 : decode cX7_change 27 = .ok (.iload_n 2, 1) := by decide +kernel
theorem dX7_change_28 : decode cX7_change 28 = .ok (.iastore, 1) := by decide +kernel
theorem dX7_change_29 : decode cX7_change 29 = .ok (.iconst 1, 1) := by decide +kernel
theorem dX7_change_30 : decode cX7_change 30 = .ok (.ireturn, 1) := by decide +kernel
theorem dX7_ofFit_0 : decode cX7_ofFit 0 = .ok (.iload_n 3, 1) := by decide +kernel
theorem dX7_ofFit_1 : decode cX7_ofFit 1 = .ok (.iload 4, 2) := by decide +kernel
theorem dX7_ofFit_3 : decode cX7_ofFit 3 = .ok (.invokestatic 15, 3) := by decide +kernel
theorem dX7_ofFit_6 : decode cX7_ofFit 6 = .ok (.istore 5, 2) := by decide +kernel
theorem dX7_ofFit_8 : decode cX7_ofFit 8 = .ok (.iload 5, 2) := by decide +kernel
theorem dX7_ofFit_10 : decode cX7_ofFit 10 = .ok (.iload_n 1, 1) := by decide +kernel
theorem dX7_ofFit_11 : decode cX7_ofFit 11 = .ok (.iand, 1) := by decide +kernel
theorem dX7_ofFit_12 : decode cX7_ofFit 12 = .ok (.invokestatic 19, 3) := by decide +kernel
theorem dX7_ofFit_15 : decode cX7_ofFit 15 = .ok (.istore 6, 2) := by decide +kernel
theorem dX7_ofFit_17 : decode cX7_ofFit 17 = .ok (.iload 6, 2) := by decide +kernel
theorem dX7_ofFit_19 : decode cX7_ofFit 19 = .ok (.iconst 2, 1) := by decide +kernel
theorem dX7_ofFit_20 : decode cX7_ofFit 20 = .ok (.if_icmp .ge 5, 3) := by decide +kernel
theorem dX7_ofFit_23 : decode cX7_ofFit 23 = .ok (.iconst (-1), 1) := by decide +kernel
theorem dX7_ofFit_24 : decode cX7_ofFit 24 = .ok (.ireturn, 1) := by decide +kernel
theorem dX7_ofFit_25 : decode cX7_ofFit 25 = .ok (.iload_n 1, 1) := by decide +kernel
theorem dX7_ofFit_26 : decode cX7_ofFit 26 = .ok (.invokestatic 19, 3) := by decide +kernel
theorem dX7_ofFit_29 : decode cX7_ofFit 29 = .ok (.iload 6, 2) := by decide +kernel
theorem dX7_ofFit_31 : decode cX7_ofFit 31 = .ok (.isub, 1) := by decide +kernel
theorem dX7_ofFit_32 : decode cX7_ofFit 32 = .ok (.istore 7, 2) := by decide +kernel
theorem dX7_ofFit_34 : decode cX7_ofFit 34 = .ok (.iload 5, 2) := by decide +kernel
theorem dX7_ofFit_36 : decode cX7_ofFit 36 = .ok (.invokestatic 19, 3) := by decide +kernel
theorem dX7_ofFit_39 : decode cX7_ofFit 39 = .ok (.iload 6, 2) := by decide +kernel
theorem dX7_ofFit_41 : decode cX7_ofFit 41 = .ok (.isub, 1) := by decide +kernel
theorem dX7_ofFit_42 : decode cX7_ofFit 42 = .ok (.istore 8, 2) := by decide +kernel
theorem dX7_ofFit_44 : decode cX7_ofFit 44 = .ok (.iload 7, 2) := by decide +kernel
theorem dX7_ofFit_46 : decode cX7_ofFit 46 = .ok (.aload_n 0, 1) := by decide +kernel
theorem dX7_ofFit_47 : decode cX7_ofFit 47 = .ok (.getfield 9, 3) := by decide +kernel
theorem dX7_ofFit_50 : decode cX7_ofFit 50 = .ok (.iconst 0, 1) := by decide +kernel
theorem dX7_ofFit_51 : decode cX7_ofFit 51 = .ok (.iaload, 1) := by decide +kernel
theorem dX7_ofFit_52 : decode cX7_ofFit 52 = .ok (.imul, 1) := by decide +kernel
theorem dX7_ofFit_53 : decode cX7_ofFit 53 = .ok (.iload 8, 2) := by decide +kernel
theorem dX7_ofFit_55 : decode cX7_ofFit 55 = .ok (.aload_n 0, 1) := by decide +kernel
theorem dX7_ofFit_56 : decode cX7_ofFit 56 = .ok (.getfield 9, 3) := by decide +kernel
theorem dX7_ofFit_59 : decode cX7_ofFit 59 = .ok (.iconst 1, 1) := by decide +kernel
theorem dX7_ofFit_60 : decode cX7_ofFit 60 = .ok (.iaload, 1) := by decide +kernel
theorem dX7_ofFit_61 : decode cX7_ofFit 61 = .ok (.imul, 1) := by decide +kernel
theorem dX7_ofFit_62 : decode cX7_ofFit 62 = .ok (.iadd, 1) := by decide +kernel
theorem dX7_ofFit_63 : decode cX7_ofFit 63 = .ok (.aload_n 0, 1) := by decide +kernel
theorem dX7_ofFit_64 : decode cX7_ofFit 64 = .ok (.iload_n 2, 1) := by decide +kernel
theorem dX7_ofFit_65 : decode cX7_ofFit 65 = .ok (.iload_n 3, 1) := by decide +kernel
theorem dX7_ofFit_66 : decode cX7_ofFit 66 = .ok (.iload 5, 2) := by decide +kernel
theorem dX7_ofFit_68 : decode cX7_ofFit 68 = .ok (.invokevirtual 25, 3) := by decide +kernel
theorem dX7_ofFit_71 : decode cX7_ofFit 71 = .ok (.iadd, 1) := by decide +kernel
theorem dX7_ofFit_72 : decode cX7_ofFit 72 = .ok (.ireturn, 1) := by decide +kernel
theorem dX7_ofBass_0 : decode cX7_ofBass 0 = .ok (.iload_n 1, 1) := by decide +kernel
theorem dX7_ofBass_1 : decode cX7_ofBass 1 = .ok (.iconst (-1), 1) := by decide +kernel
theorem dX7_ofBass_2 : decode cX7_ofBass 2 = .ok (.if_icmp .eq 8, 3) := by decide +kernel
theorem dX7_ofBass_5 : decode cX7_ofBass 5 = .ok (.iload_n 1, 1) := by decide +kernel
theorem dX7_ofBass_6 : decode cX7_ofBass 6 = .ok (.iload_n 2, 1) := by decide +kernel
theorem dX7_ofBass_7 : decode cX7_ofBass 7 = .ok (.if_icmp .ne 5, 3) := by decide +kernel
theorem dX7_ofBass_10 : decode cX7_ofBass 10 = .ok (.iconst 0, 1) := by decide +kernel
theorem dX7_ofBass_11 : decode cX7_ofBass 11 = .ok (.ireturn, 1) := by decide +kernel
theorem dX7_ofBass_12 : decode cX7_ofBass 12 = .ok (.iload_n 3, 1) := by decide +kernel
theorem dX7_ofBass_13 : decode cX7_ofBass 13 = .ok (.iload_n 1, 1) := by decide +kernel
theorem dX7_ofBass_14 : decode cX7_ofBass 14 = .ok (.iushr, 1) := by decide +kernel
theorem dX7_ofBass_15 : decode cX7_ofBass 15 = .ok (.iconst 1, 1) := by decide +kernel
theorem dX7_ofBass_16 : decode cX7_ofBass 16 = .ok (.iand, 1) := by decide +kernel
theorem dX7_ofBass_17 : decode cX7_ofBass 17 = .ok (.ifCond .eq 12, 3) := by decide +kernel
theorem dX7_ofBass_20 : decode cX7_ofBass 20 = .ok (.aload_n 0, 1) := by decide +kernel
theorem dX7_ofBass_21 : decode cX7_ofBass 21 = .ok (.getfield 9, 3) := by decide +kernel
theorem dX7_ofBass_24 : decode cX7_ofBass 24 = .ok (.iconst 2, 1) := by decide +kernel
theorem dX7_ofBass_25 : decode cX7_ofBass 25 = .ok (.iaload, 1) := by decide +kernel
theorem dX7_ofBass_26 : decode cX7_ofBass 26 = .ok (.goto 9, 3) := by decide +kernel
theorem dX7_ofBass_29 : decode cX7_ofBass 29 = .ok (.aload_n 0, 1) := by decide +kernel
theorem dX7_ofBass_30 : decode cX7_ofBass 30 = .ok (.getfield 9, 3) := by decide +kernel
theorem dX7_ofBass_33 : decode cX7_ofBass 33 = .ok (.iconst 3, 1) := by decide +kernel
theorem dX7_ofBass_34 : decode cX7_ofBass 34 = .ok (.iaload, 1) := by decide +kernel
theorem dX7_ofBass_35 : decode cX7_ofBass 35 = .ok (.ireturn, 1) := by decide +kernel
theorem dX7_cheapest_0 : decode cX7_cheapest 0 = .ok (.iconst (-1), 1) := by decide +kernel
theorem dX7_cheapest_1 : decode cX7_cheapest 1 = .ok (.istore_n 3, 1) := by decide +kernel
theorem dX7_cheapest_2 : decode cX7_cheapest 2 = .ok (.ldc 29, 2) := by decide +kernel
theorem dX7_cheapest_4 : decode cX7_cheapest 4 = .ok (.istore 4, 2) := by decide +kernel
theorem dX7_cheapest_6 : decode cX7_cheapest 6 = .ok (.iconst 0, 1) := by decide +kernel
theorem dX7_cheapest_7 : decode cX7_cheapest 7 = .ok (.istore 5, 2) := by decide +kernel
theorem dX7_cheapest_9 : decode cX7_cheapest 9 = .ok (.iload 5, 2) := by decide +kernel
theorem dX7_cheapest_11 : decode cX7_cheapest 11 = .ok (.bipush 9, 2) := by decide +kernel
theorem dX7_cheapest_13 : decode cX7_cheapest 13 = .ok (.if_icmp .ge 63, 3) := by decide +kernel
theorem dX7_cheapest_16 : decode cX7_cheapest 16 = .ok (.iconst 0, 1) := by decide +kernel
theorem dX7_cheapest_17 : decode cX7_cheapest 17 = .ok (.istore 6, 2) := by decide +kernel
theorem dX7_cheapest_19 : decode cX7_cheapest 19 = .ok (.iload 6, 2) := by decide +kernel
theorem dX7_cheapest_21 : decode cX7_cheapest 21 = .ok (.bipush 12, 2) := by decide +kernel
theorem dX7_cheapest_23 : decode cX7_cheapest 23 = .ok (.if_icmp .ge 47, 3) := by decide +kernel
theorem dX7_cheapest_26 : decode cX7_cheapest 26 = .ok (.aload_n 0, 1) := by decide +kernel
theorem dX7_cheapest_27 : decode cX7_cheapest 27 = .ok (.iload_n 1, 1) := by decide +kernel
theorem dX7_cheapest_28 : decode cX7_cheapest 28 = .ok (.iload_n 2, 1) := by decide +kernel
theorem dX7_cheapest_29 : decode cX7_cheapest 29 = .ok (.iload 6, 2) := by decide +kernel
theorem dX7_cheapest_31 : decode cX7_cheapest 31 = .ok (.iload 5, 2) := by decide +kernel
theorem dX7_cheapest_33 : decode cX7_cheapest 33 = .ok (.invokevirtual 30, 3) := by decide +kernel
theorem dX7_cheapest_36 : decode cX7_cheapest 36 = .ok (.istore 7, 2) := by decide +kernel
theorem dX7_cheapest_38 : decode cX7_cheapest 38 = .ok (.iload 7, 2) := by decide +kernel
theorem dX7_cheapest_40 : decode cX7_cheapest 40 = .ok (.iconst (-1), 1) := by decide +kernel
theorem dX7_cheapest_41 : decode cX7_cheapest 41 = .ok (.if_icmp .eq 23, 3) := by decide +kernel
theorem dX7_cheapest_44 : decode cX7_cheapest 44 = .ok (.iload 7, 2) := by decide +kernel
theorem dX7_cheapest_46 : decode cX7_cheapest 46 = .ok (.iload 4, 2) := by decide +kernel
theorem dX7_cheapest_48 : decode cX7_cheapest 48 = .ok (.if_icmp .ge 16, 3) := by decide +kernel
theorem dX7_cheapest_51 : decode cX7_cheapest 51 = .ok (.iload 7, 2) := by decide +kernel
theorem dX7_cheapest_53 : decode cX7_cheapest 53 = .ok (.istore 4, 2) := by decide +kernel
theorem dX7_cheapest_55 : decode cX7_cheapest 55 = .ok (.bipush 12, 2) := by decide +kernel
theorem dX7_cheapest_57 : decode cX7_cheapest 57 = .ok (.iload 5, 2) := by decide +kernel
theorem dX7_cheapest_59 : decode cX7_cheapest 59 = .ok (.imul, 1) := by decide +kernel
theorem dX7_cheapest_60 : decode cX7_cheapest 60 = .ok (.iload 6, 2) := by decide +kernel
theorem dX7_cheapest_62 : decode cX7_cheapest 62 = .ok (.iadd, 1) := by decide +kernel
theorem dX7_cheapest_63 : decode cX7_cheapest 63 = .ok (.istore_n 3, 1) := by decide +kernel
theorem dX7_cheapest_64 : decode cX7_cheapest 64 = .ok (.iinc 6 1, 3) := by decide +kernel
theorem dX7_cheapest_67 : decode cX7_cheapest 67 = .ok (.goto (-48), 3) := by decide +kernel
theorem dX7_cheapest_70 : decode cX7_cheapest 70 = .ok (.iinc 5 1, 3) := by decide +kernel
theorem dX7_cheapest_73 : decode cX7_cheapest 73 = .ok (.goto (-64), 3) := by decide +kernel
theorem dX7_cheapest_76 : decode cX7_cheapest 76 = .ok (.iload_n 3, 1) := by decide +kernel
theorem dX7_cheapest_77 : decode cX7_cheapest 77 = .ok (.ireturn, 1) := by decide +kernel
theorem dX8_init_0 : decode cX8_init 0 = .ok (.aload_n 0, 1) := by decide +kernel
theorem dX8_init_1 : decode cX8_init 1 = .ok (.invokespecial 3, 3) := by decide +kernel
theorem dX8_init_4 : decode cX8_init 4 = .ok (.aload_n 0, 1) := by decide +kernel
theorem dX8_init_5 : decode cX8_init 5 = .ok (.iconst (-1), 1) := by decide +kernel
theorem dX8_init_6 : decode cX8_init 6 = .ok (.putfield 9, 3) := by decide +kernel
theorem dX8_init_9 : decode cX8_init 9 = .ok (.aload_n 0, 1) := by decide +kernel
theorem dX8_init_10 : decode cX8_init 10 = .ok (.iconst 0, 1) := by decide +kernel
theorem dX8_init_11 : decode cX8_init 11 = .ok (.putfield 15, 3) := by decide +kernel
theorem dX8_init_14 : decode cX8_init 14 = .ok (.aload_n 0, 1) := by decide +kernel
theorem dX8_init_15 : decode cX8_init 15 = .ok (.sipush 1246, 3) := by decide +kernel
theorem dX8_init_18 : decode cX8_init 18 = .ok (.newarray .int, 2) := by decide +kernel
theorem dX8_init_20 : decode cX8_init 20 = .ok (.putfield 18, 3) := by decide +kernel
theorem dX8_init_23 : decode cX8_init 23 = .ok (.aload_n 0, 1) := by decide +kernel
theorem dX8_init_24 : decode cX8_init 24 = .ok (.sipush 1246, 3) := by decide +kernel
theorem dX8_init_27 : decode cX8_init 27 = .ok (.newarray .int, 2) := by decide +kernel
theorem dX8_init_29 : decode cX8_init 29 = .ok (.putfield 22, 3) := by decide +kernel
theorem dX8_init_32 : decode cX8_init 32 = .ok (.aload_n 0, 1) := by decide +kernel
theorem dX8_init_33 : decode cX8_init 33 = .ok (.sipush 1246, 3) := by decide +kernel
theorem dX8_init_36 : decode cX8_init 36 = .ok (.newarray .int, 2) := by decide +kernel
theorem dX8_init_38 : decode cX8_init 38 = .ok (.putfield 25, 3) := by decide +kernel
theorem dX8_init_41 : decode cX8_init 41 = .ok (.aload_n 0, 1) := by decide +kernel
theorem dX8_init_42 : decode cX8_init 42 = .ok (.sipush 1246, 3) := by decide +kernel
theorem dX8_init_45 : decode cX8_init 45 = .ok (.newarray .int, 2) := by decide +kernel
theorem dX8_init_47 : decode cX8_init 47 = .ok (.putfield 28, 3) := by decide +kernel
theorem dX8_init_50 : decode cX8_init 50 = .ok (.aload_n 0, 1) := by decide +kernel
theorem dX8_init_51 : decode cX8_init 51 = .ok (.bipush 24, 2) := by decide +kernel
theorem dX8_init_53 : decode cX8_init 53 = .ok (.newarray .int, 2) := by decide +kernel
theorem dX8_init_55 : decode cX8_init 55 = .ok (.putfield 31, 3) := by decide +kernel
theorem dX8_init_58 : decode cX8_init 58 = .ok (.aload_n 0, 1) := by decide +kernel
theorem dX8_init_59 : decode cX8_init 59 = .ok (.bipush 24, 2) := by decide +kernel
theorem dX8_init_61 : decode cX8_init 61 = .ok (.newarray .int, 2) := by decide +kernel
theorem dX8_init_63 : decode cX8_init 63 = .ok (.putfield 34, 3) := by decide +kernel
theorem dX8_init_66 : decode cX8_init 66 = .ok (.aload_n 0, 1) := by decide +kernel
theorem dX8_init_67 : decode cX8_init 67 = .ok (.bipush 24, 2) := by decide +kernel
theorem dX8_init_69 : decode cX8_init 69 = .ok (.newarray .int, 2) := by decide +kernel
theorem dX8_init_71 : decode cX8_init 71 = .ok (.putfield 37, 3) := by decide +kernel
theorem dX8_init_74 : decode cX8_init 74 = .ok (.aload_n 0, 1) := by decide +kernel
theorem dX8_init_75 : decode cX8_init 75 = .ok (.bipush 24, 2) := by decide +kernel
theorem dX8_init_77 : decode cX8_init 77 = .ok (.newarray .int, 2) := by decide +kernel
theorem dX8_init_79 : decode cX8_init 79 = .ok (.putfield 40, 3) := by decide +kernel
theorem dX8_init_82 : decode cX8_init 82 = .ok (.aload_n 0, 1) := by decide +kernel
theorem dX8_init_83 : decode cX8_init 83 = .ok (.bipush 24, 2) := by decide +kernel
theorem dX8_init_85 : decode cX8_init 85 = .ok (.newarray .int, 2) := by decide +kernel
theorem dX8_init_87 : decode cX8_init 87 = .ok (.putfield 43, 3) := by decide +kernel
theorem dX8_init_90 : decode cX8_init 90 = .ok (.aload_n 0, 1) := by decide +kernel
theorem dX8_init_91 : decode cX8_init 91 = .ok (.bipush 24, 2) := by decide +kernel
theorem dX8_init_93 : decode cX8_init 93 = .ok (.newarray .int, 2) := by decide +kernel
theorem dX8_init_95 : decode cX8_init 95 = .ok (.putfield 46, 3) := by decide +kernel
theorem dX8_init_98 : decode cX8_init 98 = .ok (.aload_n 0, 1) := by decide +kernel
theorem dX8_init_99 : decode cX8_init 99 = .ok (.iconst 0, 1) := by decide +kernel
theorem dX8_init_100 : decode cX8_init 100 = .ok (.putfield 49, 3) := by decide +kernel
theorem dX8_init_103 : decode cX8_init 103 = .ok (.return_, 1) := by decide +kernel
theorem dX8_walk_0 : decode cX8_walk 0 = .ok (.aload_n 0, 1) := by decide +kernel
theorem dX8_walk_1 : decode cX8_walk 1 = .ok (.iload_n 2, 1) := by decide +kernel
theorem dX8_walk_2 : decode cX8_walk 2 = .ok (.putfield 9, 3) := by decide +kernel
theorem dX8_walk_5 : decode cX8_walk 5 = .ok (.aload_n 0, 1) := by decide +kernel
theorem dX8_walk_6 : decode cX8_walk 6 = .ok (.iconst 0, 1) := by decide +kernel
theorem dX8_walk_7 : decode cX8_walk 7 = .ok (.putfield 15, 3) := by decide +kernel
theorem dX8_walk_10 : decode cX8_walk 10 = .ok (.aload_n 0, 1) := by decide +kernel
theorem dX8_walk_11 : decode cX8_walk 11 = .ok (.iconst 0, 1) := by decide +kernel
theorem dX8_walk_12 : decode cX8_walk 12 = .ok (.putfield 49, 3) := by decide +kernel
theorem dX8_walk_15 : decode cX8_walk 15 = .ok (.aload_n 0, 1) := by decide +kernel
theorem dX8_walk_16 : decode cX8_walk 16 = .ok (.aload_n 1, 1) := by decide +kernel
theorem dX8_walk_17 : decode cX8_walk 17 = .ok (.getfield 52, 3) := by decide +kernel
theorem dX8_walk_20 : decode cX8_walk 20 = .ok (.getfield 58, 3) := by decide +kernel
theorem dX8_walk_23 : decode cX8_walk 23 = .ok (.iconst 0, 1) := by decide +kernel
theorem dX8_walk_24 : decode cX8_walk 24 = .ok (.iaload, 1) := by decide +kernel
theorem dX8_walk_25 : decode cX8_walk 25 = .ok (.iconst 0, 1) := by decide +kernel
theorem dX8_walk_26 : decode cX8_walk 26 = .ok (.aload_n 1, 1) := by decide +kernel
theorem dX8_walk_27 : decode cX8_walk 27 = .ok (.getfield 63, 3) := by decide +kernel
theorem dX8_walk_30 : decode cX8_walk 30 = .ok (.iconst 1, 1) := by decide +kernel
theorem dX8_walk_31 : decode cX8_walk 31 = .ok (.isub, 1) := by decide +kernel
theorem dX8_walk_32 : decode cX8_walk 32 = .ok (.iload_n 2, 1) := by decide +kernel
theorem dX8_walk_33 : decode cX8_walk 33 = .ok (.invokevirtual 66, 3) := by decide +kernel
theorem dX8_walk_36 : decode cX8_walk 36 = .ok (.iconst 0, 1) := by decide +kernel
theorem dX8_walk_37 : decode cX8_walk 37 = .ok (.istore_n 3, 1) := by decide +kernel
theorem dX8_walk_38 : decode cX8_walk 38 = .ok (.iload_n 3, 1) := by decide +kernel
theorem dX8_walk_39 : decode cX8_walk 39 = .ok (.sipush 1246, 3) := by decide +kernel
theorem dX8_walk_42 : decode cX8_walk 42 = .ok (.if_icmp .ge 43, 3) := by decide +kernel
theorem dX8_walk_45 : decode cX8_walk 45 = .ok (.aload_n 0, 1) := by decide +kernel
theorem dX8_walk_46 : decode cX8_walk 46 = .ok (.getfield 49, 3) := by decide +kernel
theorem dX8_walk_49 : decode cX8_walk 49 = .ok (.ifCond .le 36, 3) := by decide +kernel
theorem dX8_walk_52 : decode cX8_walk 52 = .ok (.aload_n 0, 1) := by decide +kernel
theorem dX8_walk_53 : decode cX8_walk 53 = .ok (.dup, 1) := by decide +kernel
theorem dX8_walk_54 : decode cX8_walk 54 = .ok (.getfield 49, 3) := by decide +kernel
theorem dX8_walk_57 : decode cX8_walk 57 = .ok (.iconst 1, 1) := by decide +kernel
theorem dX8_walk_58 : decode cX8_walk 58 = .ok (.isub, 1) := by decide +kernel
theorem dX8_walk_59 : decode cX8_walk 59 = .ok (.putfield 49, 3) := by decide +kernel
theorem dX8_walk_62 : decode cX8_walk 62 = .ok (.aload_n 0, 1) := by decide +kernel
theorem dX8_walk_63 : decode cX8_walk 63 = .ok (.iload_n 3, 1) := by decide +kernel
theorem dX8_walk_64 : decode cX8_walk 64 = .ok (.iconst 1, 1) := by decide +kernel
theorem dX8_walk_65 : decode cX8_walk 65 = .ok (.iadd, 1) := by decide +kernel
theorem dX8_walk_66 : decode cX8_walk 66 = .ok (.putfield 15, 3) := by decide +kernel
theorem dX8_walk_69 : decode cX8_walk 69 = .ok (.aload_n 0, 1) := by decide +kernel
theorem dX8_walk_70 : decode cX8_walk 70 = .ok (.aload_n 1, 1) := by decide +kernel
theorem dX8_walk_71 : decode cX8_walk 71 = .ok (.iload_n 3, 1) := by decide +kernel
theorem dX8_walk_72 : decode cX8_walk 72 = .ok (.aload_n 0, 1) := by decide +kernel
theorem dX8_walk_73 : decode cX8_walk 73 = .ok (.getfield 49, 3) := by decide +kernel
theorem dX8_walk_76 : decode cX8_walk 76 = .ok (.invokevirtual 70, 3) := by decide +kernel
theorem dX8_walk_79 : decode cX8_walk 79 = .ok (.iinc 3 1, 3) := by decide +kernel
theorem dX8_walk_82 : decode cX8_walk 82 = .ok (.goto (-44), 3) := by decide +kernel
theorem dX8_walk_85 : decode cX8_walk 85 = .ok (.return_, 1) := by decide +kernel
theorem dX8_visit_0 : decode cX8_visit 0 = .ok (.aload_n 0, 1) := by decide +kernel
theorem dX8_visit_1 : decode cX8_visit 1 = .ok (.getfield 37, 3) := by decide +kernel
theorem dX8_visit_4 : decode cX8_visit 4 = .ok (.iload_n 3, 1) := by decide +kernel
theorem dX8_visit_5 : decode cX8_visit 5 = .ok (.iaload, 1) := by decide +kernel
theorem dX8_visit_6 : decode cX8_visit 6 = .ok (.istore 4, 2) := by decide +kernel
theorem dX8_visit_8 : decode cX8_visit 8 = .ok (.aload_n 0, 1) := by decide +kernel
theorem dX8_visit_9 : decode cX8_visit 9 = .ok (.getfield 40, 3) := by decide +kernel
theorem dX8_visit_12 : decode cX8_visit 12 = .ok (.iload_n 3, 1) := by decide +kernel
theorem dX8_visit_13 : decode cX8_visit 13 = .ok (.iaload, 1) := by decide +kernel
theorem dX8_visit_14 : decode cX8_visit 14 = .ok (.istore 5, 2) := by decide +kernel
theorem dX8_visit_16 : decode cX8_visit 16 = .ok (.aload_n 0, 1) := by decide +kernel
theorem dX8_visit_17 : decode cX8_visit 17 = .ok (.getfield 43, 3) := by decide +kernel
theorem dX8_visit_20 : decode cX8_visit 20 = .ok (.iload_n 3, 1) := by decide +kernel
theorem dX8_visit_21 : decode cX8_visit 21 = .ok (.iaload, 1) := by decide +kernel
theorem dX8_visit_22 : decode cX8_visit 22 = .ok (.istore 6, 2) := by decide +kernel
theorem dX8_visit_24 : decode cX8_visit 24 = .ok (.aload_n 0, 1) := by decide +kernel
theorem dX8_visit_25 : decode cX8_visit 25 = .ok (.getfield 22, 3) := by decide +kernel
theorem dX8_visit_28 : decode cX8_visit 28 = .ok (.iload_n 2, 1) := by decide +kernel
theorem dX8_visit_29 : decode cX8_visit 29 = .ok (.iload 5, 2) := by decide +kernel
theorem dX8_visit_31 : decode cX8_visit 31 = .ok (.iastore, 1) := by decide +kernel
theorem dX8_visit_32 : decode cX8_visit 32 = .ok (.aload_n 0, 1) := by decide +kernel
theorem dX8_visit_33 : decode cX8_visit 33 = .ok (.getfield 25, 3) := by decide +kernel
theorem dX8_visit_36 : decode cX8_visit 36 = .ok (.iload_n 2, 1) := by decide +kernel
theorem dX8_visit_37 : decode cX8_visit 37 = .ok (.iload 6, 2) := by decide +kernel
theorem dX8_visit_39 : decode cX8_visit 39 = .ok (.iastore, 1) := by decide +kernel
theorem dX8_visit_40 : decode cX8_visit 40 = .ok (.aload_n 0, 1) := by decide +kernel
theorem dX8_visit_41 : decode cX8_visit 41 = .ok (.getfield 18, 3) := by decide +kernel
theorem dX8_visit_44 : decode cX8_visit 44 = .ok (.iload_n 2, 1) := by decide +kernel
theorem dX8_visit_45 : decode cX8_visit 45 = .ok (.iconst (-1), 1) := by decide +kernel
theorem dX8_visit_46 : decode cX8_visit 46 = .ok (.iastore, 1) := by decide +kernel
theorem dX8_visit_47 : decode cX8_visit 47 = .ok (.aload_n 0, 1) := by decide +kernel
theorem dX8_visit_48 : decode cX8_visit 48 = .ok (.getfield 28, 3) := by decide +kernel
theorem dX8_visit_51 : decode cX8_visit 51 = .ok (.iload_n 2, 1) := by decide +kernel
theorem dX8_visit_52 : decode cX8_visit 52 = .ok (.iconst (-1), 1) := by decide +kernel
theorem dX8_visit_53 : decode cX8_visit 53 = .ok (.iastore, 1) := by decide +kernel
theorem dX8_visit_54 : decode cX8_visit 54 = .ok (.iload 4, 2) := by decide +kernel
theorem dX8_visit_56 : decode cX8_visit 56 = .ok (.bipush 26, 2) := by decide +kernel
theorem dX8_visit_58 : decode cX8_visit 58 = .ok (.if_icmp .lt 50, 3) := by decide +kernel
theorem dX8_visit_61 : decode cX8_visit 61 = .ok (.aload_n 0, 1) := by decide +kernel
theorem dX8_visit_62 : decode cX8_visit 62 = .ok (.getfield 28, 3) := by decide +kernel
theorem dX8_visit_65 : decode cX8_visit 65 = .ok (.iload_n 2, 1) := by decide +kernel
theorem dX8_visit_66 : decode cX8_visit 66 = .ok (.aload_n 1, 1) := by decide +kernel
theorem dX8_visit_67 : decode cX8_visit 67 = .ok (.iload 4, 2) := by decide +kernel
theorem dX8_visit_69 : decode cX8_visit 69 = .ok (.iload 5, 2) := by decide +kernel
theorem dX8_visit_71 : decode cX8_visit 71 = .ok (.invokevirtual 74, 3) := by decide +kernel
theorem dX8_visit_74 : decode cX8_visit 74 = .ok (.iastore, 1) := by decide +kernel
theorem dX8_visit_75 : decode cX8_visit 75 = .ok (.aload_n 0, 1) := by decide +kernel
theorem dX8_visit_76 : decode cX8_visit 76 = .ok (.getfield 31, 3) := by decide +kernel
theorem dX8_visit_79 : decode cX8_visit 79 = .ok (.iload 5, 2) := by decide +kernel
theorem dX8_visit_81 : decode cX8_visit 81 = .ok (.aload_n 0, 1) := by decide +kernel
theorem dX8_visit_82 : decode cX8_visit 82 = .ok (.getfield 28, 3) := by decide +kernel
theorem dX8_visit_85 : decode cX8_visit 85 = .ok (.iload_n 2, 1) := by decide +kernel
theorem dX8_visit_86 : decode cX8_visit 86 = .ok (.iaload, 1) := by decide +kernel
theorem dX8_visit_87 : decode cX8_visit 87 = .ok (.iastore, 1) := by decide +kernel
theorem dX8_visit_88 : decode cX8_visit 88 = .ok (.aload_n 0, 1) := by decide +kernel
theorem dX8_visit_89 : decode cX8_visit 89 = .ok (.getfield 34, 3) := by decide +kernel
theorem dX8_visit_92 : decode cX8_visit 92 = .ok (.iload 5, 2) := by decide +kernel
theorem dX8_visit_94 : decode cX8_visit 94 = .ok (.iload 4, 2) := by decide +kernel
theorem dX8_visit_96 : decode cX8_visit 96 = .ok (.bipush 26, 2) := by decide +kernel
theorem dX8_visit_98 : decode cX8_visit 98 = .ok (.isub, 1) := by decide +kernel
theorem dX8_visit_99 : decode cX8_visit 99 = .ok (.bipush 10, 2) := by decide +kernel
theorem dX8_visit_101 : decode cX8_visit 101 = .ok (.idiv, 1) := by decide +kernel
theorem dX8_visit_102 : decode cX8_visit 102 = .ok (.iconst 1, 1) := by decide +kernel
theorem dX8_visit_103 : decode cX8_visit 103 = .ok (.iadd, 1) := by decide +kernel
theorem dX8_visit_104 : decode cX8_visit 104 = .ok (.iastore, 1) := by decide +kernel
theorem dX8_visit_105 : decode cX8_visit 105 = .ok (.goto 65, 3) := by decide +kernel
theorem dX8_visit_108 : decode cX8_visit 108 = .ok (.aload_n 0, 1) := by decide +kernel
theorem dX8_visit_109 : decode cX8_visit 109 = .ok (.getfield 46, 3) := by decide +kernel
theorem dX8_visit_112 : decode cX8_visit 112 = .ok (.iload_n 3, 1) := by decide +kernel
theorem dX8_visit_113 : decode cX8_visit 113 = .ok (.iaload, 1) := by decide +kernel
theorem dX8_visit_114 : decode cX8_visit 114 = .ok (.aload_n 1, 1) := by decide +kernel
theorem dX8_visit_115 : decode cX8_visit 115 = .ok (.iload 4, 2) := by decide +kernel
theorem dX8_visit_117 : decode cX8_visit 117 = .ok (.iload 5, 2) := by decide +kernel
theorem dX8_visit_119 : decode cX8_visit 119 = .ok (.iload 6, 2) := by decide +kernel
theorem dX8_visit_121 : decode cX8_visit 121 = .ok (.invokevirtual 78, 3) := by decide +kernel
theorem dX8_visit_124 : decode cX8_visit 124 = .ok (.if_icmp .ge 46, 3) := by decide +kernel
theorem dX8_visit_127 : decode cX8_visit 127 = .ok (.aload_n 1, 1) := by decide +kernel
theorem dX8_visit_128 : decode cX8_visit 128 = .ok (.iload 4, 2) := by decide +kernel
theorem dX8_visit_130 : decode cX8_visit 130 = .ok (.iload 5, 2) := by decide +kernel
theorem dX8_visit_132 : decode cX8_visit 132 = .ok (.iload 6, 2) := by decide +kernel
theorem dX8_visit_134 : decode cX8_visit 134 = .ok (.aload_n 0, 1) := by decide +kernel
theorem dX8_visit_135 : decode cX8_visit 135 = .ok (.getfield 46, 3) := by decide +kernel
theorem dX8_visit_138 : decode cX8_visit 138 = .ok (.iload_n 3, 1) := by decide +kernel
theorem dX8_visit_139 : decode cX8_visit 139 = .ok (.iaload, 1) := by decide +kernel
theorem dX8_visit_140 : decode cX8_visit 140 = .ok (.invokevirtual 82, 3) := by decide +kernel
theorem dX8_visit_143 : decode cX8_visit 143 = .ok (.lstore 7, 2) := by decide +kernel
theorem dX8_visit_145 : decode cX8_visit 145 = .ok (.aload_n 0, 1) := by decide +kernel
theorem dX8_visit_146 : decode cX8_visit 146 = .ok (.getfield 18, 3) := by decide +kernel
theorem dX8_visit_149 : decode cX8_visit 149 = .ok (.iload_n 2, 1) := by decide +kernel
theorem dX8_visit_150 : decode cX8_visit 150 = .ok (.lload 7, 2) := by decide +kernel
theorem dX8_visit_152 : decode cX8_visit 152 = .ok (.invokestatic 86, 3) := by decide +kernel
theorem dX8_visit_155 : decode cX8_visit 155 = .ok (.iastore, 1) := by decide +kernel
theorem dX8_visit_156 : decode cX8_visit 156 = .ok (.aload_n 0, 1) := by decide +kernel
theorem dX8_visit_157 : decode cX8_visit 157 = .ok (.aload_n 1, 1) := by decide +kernel
theorem dX8_visit_158 : decode cX8_visit 158 = .ok (.getfield 52, 3) := by decide +kernel
theorem dX8_visit_161 : decode cX8_visit 161 = .ok (.lload 7, 2) := by decide +kernel
theorem dX8_visit_163 : decode cX8_visit 163 = .ok (.iload 5, 2) := by decide +kernel
theorem dX8_visit_165 : decode cX8_visit 165 = .ok (.iload 6, 2) := by decide +kernel
theorem dX8_visit_167 : decode cX8_visit 167 = .ok (.invokevirtual 90, 3) := by decide +kernel
theorem dX8_visit_170 : decode cX8_visit 170 = .ok (.return_, 1) := by decide +kernel
theorem dX8_pushParts_0 : decode cX8_pushParts 0 = .ok (.lload_n 2, 1) := by decide +kernel
theorem dX8_pushParts_1 : decode cX8_pushParts 1 = .ok (.invokestatic 86, 3) := by decide +kernel
theorem dX8_pushParts_4 : decode cX8_pushParts 4 = .ok (.istore 6, 2) := by decide +kernel
theorem dX8_pushParts_6 : decode cX8_pushParts 6 = .ok (.iload 6, 2) := by decide +kernel
theorem dX8_pushParts_8 : decode cX8_pushParts 8 = .ok (.aload_n 1, 1) := by decide +kernel
theorem dX8_pushParts_9 : decode cX8_pushParts 9 = .ok (.getfield 94, 3) := by decide +kernel
theorem dX8_pushParts_12 : decode cX8_pushParts 12 = .ok (.if_icmp .lt 4, 3) := by decide +kernel
theorem dX8_pushParts_15 : decode cX8_pushParts 15 = .ok (.return_, 1) := by decide +kernel
theorem dX8_pushParts_16 : decode cX8_pushParts 16 = .ok (.iload 4, 2) := by decide +kernel
theorem dX8_pushParts_18 : decode cX8_pushParts 18 = .ok (.lload_n 2, 1) := by decide +kernel
theorem dX8_pushParts_19 : decode cX8_pushParts 19 = .ok (.invokestatic 96, 3) := by decide +kernel
theorem dX8_pushParts_22 : decode cX8_pushParts 22 = .ok (.iadd, 1) := by decide +kernel
theorem dX8_pushParts_23 : decode cX8_pushParts 23 = .ok (.istore 7, 2) := by decide +kernel
theorem dX8_pushParts_25 : decode cX8_pushParts 25 = .ok (.aload_n 1, 1) := by decide +kernel
theorem dX8_pushParts_26 : decode cX8_pushParts 26 = .ok (.getfield 99, 3) := by decide +kernel
theorem dX8_pushParts_29 : decode cX8_pushParts 29 = .ok (.iload 6, 2) := by decide +kernel
theorem dX8_pushParts_31 : decode cX8_pushParts 31 = .ok (.iaload, 1) := by decide +kernel
theorem dX8_pushParts_32 : decode cX8_pushParts 32 = .ok (.iconst (-1), 1) := by decide +kernel
theorem dX8_pushParts_33 : decode cX8_pushParts 33 = .ok (.if_icmp .ne 25, 3) := by decide +kernel
theorem dX8_pushParts_36 : decode cX8_pushParts 36 = .ok (.aload_n 0, 1) := by decide +kernel
theorem dX8_pushParts_37 : decode cX8_pushParts 37 = .ok (.aload_n 1, 1) := by decide +kernel
theorem dX8_pushParts_38 : decode cX8_pushParts 38 = .ok (.getfield 102, 3) := by decide +kernel
theorem dX8_pushParts_41 : decode cX8_pushParts 41 = .ok (.iload 6, 2) := by decide +kernel
theorem dX8_pushParts_43 : decode cX8_pushParts 43 = .ok (.iaload, 1) := by decide +kernel
theorem dX8_pushParts_44 : decode cX8_pushParts 44 = .ok (.iload 4, 2) := by decide +kernel
theorem dX8_pushParts_46 : decode cX8_pushParts 46 = .ok (.iload 5, 2) := by decide +kernel
theorem dX8_pushParts_48 : decode cX8_pushParts 48 = .ok (.lload_n 2, 1) := by decide +kernel
theorem dX8_pushParts_49 : decode cX8_pushParts 49 = .ok (.invokestatic 105, 3) := by decide +kernel
theorem dX8_pushParts_52 : decode cX8_pushParts 52 = .ok (.invokevirtual 66, 3) := by decide +kernel
theorem dX8_pushParts_55 : decode cX8_pushParts 55 = .ok (.goto 57, 3) := by decide +kernel
theorem dX8_pushParts_58 : decode cX8_pushParts 58 = .ok (.iload 7, 2) := by decide +kernel
theorem dX8_pushParts_60 : decode cX8_pushParts 60 = .ok (.iload 4, 2) := by decide +kernel
theorem dX8_pushParts_62 : decode cX8_pushParts 62 = .ok (.if_icmp .le 50, 3) := by decide +kernel
theorem dX8_pushParts_65 : decode cX8_pushParts 65 = .ok (.iload 7, 2) := by decide +kernel
theorem dX8_pushParts_67 : decode cX8_pushParts 67 = .ok (.iload 5, 2) := by decide +kernel
theorem dX8_pushParts_69 : decode cX8_pushParts 69 = .ok (.if_icmp .gt 43, 3) := by decide +kernel
theorem dX8_pushParts_72 : decode cX8_pushParts 72 = .ok (.aload_n 0, 1) := by decide +kernel
theorem dX8_pushParts_73 : decode cX8_pushParts 73 = .ok (.aload_n 1, 1) := by decide +kernel
theorem dX8_pushParts_74 : decode cX8_pushParts 74 = .ok (.getfield 99, 3) := by decide +kernel
theorem dX8_pushParts_77 : decode cX8_pushParts 77 = .ok (.iload 6, 2) := by decide +kernel
theorem dX8_pushParts_79 : decode cX8_pushParts 79 = .ok (.iaload, 1) := by decide +kernel
theorem dX8_pushParts_80 : decode cX8_pushParts 80 = .ok (.iload 7, 2) := by decide +kernel
theorem dX8_pushParts_82 : decode cX8_pushParts 82 = .ok (.iload 5, 2) := by decide +kernel
theorem dX8_pushParts_84 : decode cX8_pushParts 84 = .ok (.lload_n 2, 1) := by decide +kernel
theorem dX8_pushParts_85 : decode cX8_pushParts 85 = .ok (.invokestatic 108, 3) := by decide +kernel
theorem dX8_pushParts_88 : decode cX8_pushParts 88 = .ok (.invokevirtual 66, 3) := by decide +kernel
theorem dX8_pushParts_91 : decode cX8_pushParts 91 = .ok (.aload_n 0, 1) := by decide +kernel
theorem dX8_pushParts_92 : decode cX8_pushParts 92 = .ok (.aload_n 1, 1) := by decide +kernel
theorem dX8_pushParts_93 : decode cX8_pushParts 93 = .ok (.getfield 102, 3) := by decide +kernel
theorem dX8_pushParts_96 : decode cX8_pushParts 96 = .ok (.iload 6, 2) := by decide +kernel
theorem dX8_pushParts_98 : decode cX8_pushParts 98 = .ok (.iaload, 1) := by decide +kernel
theorem dX8_pushParts_99 : decode cX8_pushParts 99 = .ok (.iload 4, 2) := by decide +kernel
theorem dX8_pushParts_101 : decode cX8_pushParts 101 = .ok (.iload 7, 2) := by decide +kernel
theorem dX8_pushParts_103 : decode cX8_pushParts 103 = .ok (.iconst 1, 1) := by decide +kernel
theorem dX8_pushParts_104 : decode cX8_pushParts 104 = .ok (.isub, 1) := by decide +kernel
theorem dX8_pushParts_105 : decode cX8_pushParts 105 = .ok (.lload_n 2, 1) := by decide +kernel
theorem dX8_pushParts_106 : decode cX8_pushParts 106 = .ok (.invokestatic 105, 3) := by decide +kernel
theorem dX8_pushParts_109 : decode cX8_pushParts 109 = .ok (.invokevirtual 66, 3) := by decide +kernel
theorem dX8_pushParts_112 : decode cX8_pushParts 112 = .ok (.return_, 1) := by decide +kernel
theorem dX8_push_0 : decode cX8_push 0 = .ok (.aload_n 0, 1) := by decide +kernel
theorem dX8_push_1 : decode cX8_push 1 = .ok (.getfield 49, 3) := by decide +kernel
theorem dX8_push_4 : decode cX8_push 4 = .ok (.bipush 24, 2) := by decide +kernel
theorem dX8_push_6 : decode cX8_push 6 = .ok (.if_icmp .ge 54, 3) := by decide +kernel
theorem dX8_push_9 : decode cX8_push 9 = .ok (.aload_n 0, 1) := by decide +kernel
theorem dX8_push_10 : decode cX8_push 10 = .ok (.getfield 37, 3) := by decide +kernel
theorem dX8_push_13 : decode cX8_push 13 = .ok (.aload_n 0, 1) := by decide +kernel
theorem dX8_push_14 : decode cX8_push 14 = .ok (.getfield 49, 3) := by decide +kernel
theorem dX8_push_17 : decode cX8_push 17 = .ok (.iload_n 1, 1) := by decide +kernel
theorem dX8_push_18 : decode cX8_push 18 = .ok (.iastore, 1) := by decide +kernel
theorem dX8_push_19 : decode cX8_push 19 = .ok (.aload_n 0, 1) := by decide +kernel
theorem dX8_push_20 : decode cX8_push 20 = .ok (.getfield 40, 3) := by decide +kernel
theorem dX8_push_23 : decode cX8_push 23 = .ok (.aload_n 0, 1) := by decide +kernel
theorem dX8_push_24 : decode cX8_push 24 = .ok (.getfield 49, 3) := by decide +kernel
theorem dX8_push_27 : decode cX8_push 27 = .ok (.iload_n 2, 1) := by decide +kernel
theorem dX8_push_28 : decode cX8_push 28 = .ok (.iastore, 1) := by decide +kernel
theorem dX8_push_29 : decode cX8_push 29 = .ok (.aload_n 0, 1) := by decide +kernel
theorem dX8_push_30 : decode cX8_push 30 = .ok (.getfield 43, 3) := by decide +kernel
theorem dX8_push_33 : decode cX8_push 33 = .ok (.aload_n 0, 1) := by decide +kernel
theorem dX8_push_34 : decode cX8_push 34 = .ok (.getfield 49, 3) := by decide +kernel
theorem dX8_push_37 : decode cX8_push 37 = .ok (.iload_n 3, 1) := by decide +kernel
theorem dX8_push_38 : decode cX8_push 38 = .ok (.iastore, 1) := by decide +kernel
theorem dX8_push_39 : decode cX8_push 39 = .ok (.aload_n 0, 1) := by decide +kernel
theorem dX8_push_40 : decode cX8_push 40 = .ok (.getfield 46, 3) := by decide +kernel
theorem dX8_push_43 : decode cX8_push 43 = .ok (.aload_n 0, 1) := by decide +kernel
theorem dX8_push_44 : decode cX8_push 44 = .ok (.getfield 49, 3) := by decide +kernel
theorem dX8_push_47 : decode cX8_push 47 = .ok (.iload 4, 2) := by decide +kernel
theorem dX8_push_49 : decode cX8_push 49 = .ok (.iastore, 1) := by decide +kernel
theorem dX8_push_50 : decode cX8_push 50 = .ok (.aload_n 0, 1) := by decide +kernel
theorem dX8_push_51 : decode cX8_push 51 = .ok (.dup, 1) := by decide +kernel
theorem dX8_push_52 : decode cX8_push 52 = .ok (.getfield 49, 3) := by decide +kernel
theorem dX8_push_55 : decode cX8_push 55 = .ok (.iconst 1, 1) := by decide +kernel
theorem dX8_push_56 : decode cX8_push 56 = .ok (.iadd, 1) := by decide +kernel
theorem dX8_push_57 : decode cX8_push 57 = .ok (.putfield 49, 3) := by decide +kernel
theorem dX8_push_60 : decode cX8_push 60 = .ok (.return_, 1) := by decide +kernel
theorem dX8_degreeAt_0 : decode cX8_degreeAt 0 = .ok (.iload_n 1, 1) := by decide +kernel
theorem dX8_degreeAt_1 : decode cX8_degreeAt 1 = .ok (.ifCond .lt 18, 3) := by decide +kernel
theorem dX8_degreeAt_4 : decode cX8_degreeAt 4 = .ok (.iload_n 1, 1) := by decide +kernel
theorem dX8_degreeAt_5 : decode cX8_degreeAt 5 = .ok (.bipush 24, 2) := by decide +kernel
theorem dX8_degreeAt_7 : decode cX8_degreeAt 7 = .ok (.if_icmp .ge 12, 3) := by decide +kernel
theorem dX8_degreeAt_10 : decode cX8_degreeAt 10 = .ok (.aload_n 0, 1) := by decide +kernel
theorem dX8_degreeAt_11 : decode cX8_degreeAt 11 = .ok (.getfield 34, 3) := by decide +kernel
theorem dX8_degreeAt_14 : decode cX8_degreeAt 14 = .ok (.iload_n 1, 1) := by decide +kernel
theorem dX8_degreeAt_15 : decode cX8_degreeAt 15 = .ok (.iaload, 1) := by decide +kernel
theorem dX8_degreeAt_16 : decode cX8_degreeAt 16 = .ok (.goto 4, 3) := by decide +kernel
theorem dX8_degreeAt_19 : decode cX8_degreeAt 19 = .ok (.iconst (-1), 1) := by decide +kernel
theorem dX8_degreeAt_20 : decode cX8_degreeAt 20 = .ok (.ireturn, 1) := by decide +kernel
theorem dX9_init_0 : decode cX9_init 0 = .ok (.aload_n 0, 1) := by decide +kernel
theorem dX9_init_1 : decode cX9_init 1 = .ok (.invokespecial 3, 3) := by decide +kernel
theorem dX9_init_4 : decode cX9_init 4 = .ok (.aload_n 0, 1) := by decide +kernel
theorem dX9_init_5 : decode cX9_init 5 = .ok (.new 9, 3) := by decide +kernel
theorem dX9_init_8 : decode cX9_init 8 = .ok (.dup, 1) := by decide +kernel
theorem dX9_init_9 : decode cX9_init 9 = .ok (.invokespecial 11, 3) := by decide +kernel
theorem dX9_init_12 : decode cX9_init 12 = .ok (.putfield 12, 3) := by decide +kernel
theorem dX9_init_15 : decode cX9_init 15 = .ok (.aload_n 0, 1) := by decide +kernel
theorem dX9_init_16 : decode cX9_init 16 = .ok (.new 16, 3) := by decide +kernel
theorem dX9_init_19 : decode cX9_init 19 = .ok (.dup, 1) := by decide +kernel
theorem dX9_init_20 : decode cX9_init 20 = .ok (.invokespecial 18, 3) := by decide +kernel
theorem dX9_init_23 : decode cX9_init 23 = .ok (.putfield 19, 3) := by decide +kernel
theorem dX9_init_26 : decode cX9_init 26 = .ok (.aload_n 0, 1) := by decide +kernel
theorem dX9_init_27 : decode cX9_init 27 = .ok (.new 23, 3) := by decide +kernel
theorem dX9_init_30 : decode cX9_init 30 = .ok (.dup, 1) := by decide +kernel
theorem dX9_init_31 : decode cX9_init 31 = .ok (.invokespecial 25, 3) := by decide +kernel
theorem dX9_init_34 : decode cX9_init 34 = .ok (.putfield 26, 3) := by decide +kernel
theorem dX9_init_37 : decode cX9_init 37 = .ok (.aload_n 0, 1) := by decide +kernel
theorem dX9_init_38 : decode cX9_init 38 = .ok (.new 30, 3) := by decide +kernel
theorem dX9_init_41 : decode cX9_init 41 = .ok (.dup, 1) := by decide +kernel
theorem dX9_init_42 : decode cX9_init 42 = .ok (.invokespecial 32, 3) := by decide +kernel
theorem dX9_init_45 : decode cX9_init 45 = .ok (.putfield 33, 3) := by decide +kernel
theorem dX9_init_48 : decode cX9_init 48 = .ok (.aload_n 0, 1) := by decide +kernel
theorem dX9_init_49 : decode cX9_init 49 = .ok (.new 37, 3) := by decide +kernel
theorem dX9_init_52 : decode cX9_init 52 = .ok (.dup, 1) := by decide +kernel
theorem dX9_init_53 : decode cX9_init 53 = .ok (.invokespecial 39, 3) := by decide +kernel
theorem dX9_init_56 : decode cX9_init 56 = .ok (.putfield 40, 3) := by decide +kernel
theorem dX9_init_59 : decode cX9_init 59 = .ok (.aload_n 0, 1) := by decide +kernel
theorem dX9_init_60 : decode cX9_init 60 = .ok (.new 44, 3) := by decide +kernel
theorem dX9_init_63 : decode cX9_init 63 = .ok (.dup, 1) := by decide +kernel
theorem dX9_init_64 : decode cX9_init 64 = .ok (.invokespecial 46, 3) := by decide +kernel
theorem dX9_init_67 : decode cX9_init 67 = .ok (.putfield 47, 3) := by decide +kernel
theorem dX9_init_70 : decode cX9_init 70 = .ok (.aload_n 0, 1) := by decide +kernel
theorem dX9_init_71 : decode cX9_init 71 = .ok (.new 51, 3) := by decide +kernel
theorem dX9_init_74 : decode cX9_init 74 = .ok (.dup, 1) := by decide +kernel
theorem dX9_init_75 : decode cX9_init 75 = .ok (.invokespecial 53, 3) := by decide +kernel
theorem dX9_init_78 : decode cX9_init 78 = .ok (.putfield 54, 3) := by decide +kernel
theorem dX9_init_81 : decode cX9_init 81 = .ok (.aload_n 0, 1) := by decide +kernel
theorem dX9_init_82 : decode cX9_init 82 = .ok (.new 58, 3) := by decide +kernel
theorem dX9_init_85 : decode cX9_init 85 = .ok (.dup, 1) := by decide +kernel
theorem dX9_init_86 : decode cX9_init 86 = .ok (.invokespecial 60, 3) := by decide +kernel
theorem dX9_init_89 : decode cX9_init 89 = .ok (.putfield 61, 3) := by decide +kernel
theorem dX9_init_92 : decode cX9_init 92 = .ok (.return_, 1) := by decide +kernel
theorem dX9_key_0 : decode cX9_key 0 = .ok (.aload_n 0, 1) := by decide +kernel
theorem dX9_key_1 : decode cX9_key 1 = .ok (.getfield 12, 3) := by decide +kernel
theorem dX9_key_4 : decode cX9_key 4 = .ok (.iload_n 1, 1) := by decide +kernel
theorem dX9_key_5 : decode cX9_key 5 = .ok (.iload_n 2, 1) := by decide +kernel
theorem dX9_key_6 : decode cX9_key 6 = .ok (.invokevirtual 65, 3) := by decide +kernel
theorem dX9_key_9 : decode cX9_key 9 = .ok (.ireturn, 1) := by decide +kernel
theorem dX9_cost_0 : decode cX9_cost 0 = .ok (.aload_n 0, 1) := by decide +kernel
theorem dX9_cost_1 : decode cX9_cost 1 = .ok (.getfield 19, 3) := by decide +kernel
theorem dX9_cost_4 : decode cX9_cost 4 = .ok (.iload_n 1, 1) := by decide +kernel
theorem dX9_cost_5 : decode cX9_cost 5 = .ok (.iload_n 2, 1) := by decide +kernel
theorem dX9_cost_6 : decode cX9_cost 6 = .ok (.invokevirtual 69, 3) := by decide +kernel
theorem dX9_cost_9 : decode cX9_cost 9 = .ok (.ireturn, 1) := by decide +kernel
theorem dX9_draft_0 : decode cX9_draft 0 = .ok (.aload_n 0, 1) := by decide +kernel
theorem dX9_draft_1 : decode cX9_draft 1 = .ok (.getfield 33, 3) := by decide +kernel
theorem dX9_draft_4 : decode cX9_draft 4 = .ok (.iload_n 1, 1) := by decide +kernel
theorem dX9_draft_5 : decode cX9_draft 5 = .ok (.lload_n 2, 1) := by decide +kernel
theorem dX9_draft_6 : decode cX9_draft 6 = .ok (.invokevirtual 72, 3) := by decide +kernel
theorem dX9_draft_9 : decode cX9_draft 9 = .ok (.ireturn, 1) := by decide +kernel
theorem dX9_grammar_0 : decode cX9_grammar 0 = .ok (.aload_n 0, 1) := by decide +kernel
theorem dX9_grammar_1 : decode cX9_grammar 1 = .ok (.getfield 47, 3) := by decide +kernel
theorem dX9_grammar_4 : decode cX9_grammar 4 = .ok (.aload_n 0, 1) := by decide +kernel
theorem dX9_grammar_5 : decode cX9_grammar 5 = .ok (.getfield 33, 3) := by decide +kernel
theorem dX9_grammar_8 : decode cX9_grammar 8 = .ok (.invokevirtual 76, 3) := by decide +kernel
theorem dX9_grammar_11 : decode cX9_grammar 11 = .ok (.istore_n 1, 1) := by decide +kernel
theorem dX9_grammar_12 : decode cX9_grammar 12 = .ok (.aload_n 0, 1) := by decide +kernel
theorem dX9_grammar_13 : decode cX9_grammar 13 = .ok (.getfield 33, 3) := by decide +kernel
theorem dX9_grammar_16 : decode cX9_grammar 16 = .ok (.iconst 0, 1) := by decide +kernel
theorem dX9_grammar_17 : decode cX9_grammar 17 = .ok (.putfield 80, 3) := by decide +kernel
theorem dX9_grammar_20 : decode cX9_grammar 20 = .ok (.iload_n 1, 1) := by decide +kernel
theorem dX9_grammar_21 : decode cX9_grammar 21 = .ok (.iconst (-1), 1) := by decide +kernel
theorem dX9_grammar_22 : decode cX9_grammar 22 = .ok (.if_icmp .eq 8, 3) := by decide +kernel
theorem dX9_grammar_25 : decode cX9_grammar 25 = .ok (.bipush (-2), 2) := by decide +kernel
theorem dX9_grammar_27 : decode cX9_grammar 27 = .ok (.iload_n 1, 1) := by decide +kernel
theorem dX9_grammar_28 : decode cX9_grammar 28 = .ok (.isub, 1) := by decide +kernel
theorem dX9_grammar_29 : decode cX9_grammar 29 = .ok (.ireturn, 1) := by decide +kernel
theorem dX9_grammar_30 : decode cX9_grammar 30 = .ok (.aload_n 0, 1) := by decide +kernel
theorem dX9_grammar_31 : decode cX9_grammar 31 = .ok (.getfield 40, 3) := by decide +kernel
theorem dX9_grammar_34 : decode cX9_grammar 34 = .ok (.aload_n 0, 1) := by decide +kernel
theorem dX9_grammar_35 : decode cX9_grammar 35 = .ok (.getfield 47, 3) := by decide +kernel
theorem dX9_grammar_38 : decode cX9_grammar 38 = .ok (.getfield 84, 3) := by decide +kernel
theorem dX9_grammar_41 : decode cX9_grammar 41 = .ok (.invokevirtual 87, 3) := by decide +kernel
theorem dX9_grammar_44 : decode cX9_grammar 44 = .ok (.aload_n 0, 1) := by decide +kernel
theorem dX9_grammar_45 : decode cX9_grammar 45 = .ok (.getfield 40, 3) := by decide +kernel
theorem dX9_grammar_48 : decode cX9_grammar 48 = .ok (.getfield 91, 3) := by decide +kernel
theorem dX9_grammar_51 : decode cX9_grammar 51 = .ok (.ireturn, 1) := by decide +kernel
theorem dX9_slot_0 : decode cX9_slot 0 = .ok (.aload_n 0, 1) := by decide +kernel
theorem dX9_slot_1 : decode cX9_slot 1 = .ok (.getfield 26, 3) := by decide +kernel
theorem dX9_slot_4 : decode cX9_slot 4 = .ok (.iload_n 1, 1) := by decide +kernel
theorem dX9_slot_5 : decode cX9_slot 5 = .ok (.iload_n 2, 1) := by decide +kernel
theorem dX9_slot_6 : decode cX9_slot 6 = .ok (.iload_n 3, 1) := by decide +kernel
theorem dX9_slot_7 : decode cX9_slot 7 = .ok (.invokevirtual 94, 3) := by decide +kernel
theorem dX9_slot_10 : decode cX9_slot 10 = .ok (.ireturn, 1) := by decide +kernel
theorem dX9_clear_0 : decode cX9_clear 0 = .ok (.aload_n 0, 1) := by decide +kernel
theorem dX9_clear_1 : decode cX9_clear 1 = .ok (.getfield 26, 3) := by decide +kernel
theorem dX9_clear_4 : decode cX9_clear 4 = .ok (.getfield 98, 3) := by decide +kernel
theorem dX9_clear_7 : decode cX9_clear 7 = .ok (.istore_n 1, 1) := by decide +kernel
theorem dX9_clear_8 : decode cX9_clear 8 = .ok (.aload_n 0, 1) := by decide +kernel
theorem dX9_clear_9 : decode cX9_clear 9 = .ok (.getfield 26, 3) := by decide +kernel
theorem dX9_clear_12 : decode cX9_clear 12 = .ok (.iconst 0, 1) := by decide +kernel
theorem dX9_clear_13 : decode cX9_clear 13 = .ok (.putfield 98, 3) := by decide +kernel
theorem dX9_clear_16 : decode cX9_clear 16 = .ok (.iload_n 1, 1) := by decide +kernel
theorem dX9_clear_17 : decode cX9_clear 17 = .ok (.ireturn, 1) := by decide +kernel
theorem dX9_fit_0 : decode cX9_fit 0 = .ok (.aload_n 0, 1) := by decide +kernel
theorem dX9_fit_1 : decode cX9_fit 1 = .ok (.getfield 26, 3) := by decide +kernel
theorem dX9_fit_4 : decode cX9_fit 4 = .ok (.iload_n 1, 1) := by decide +kernel
theorem dX9_fit_5 : decode cX9_fit 5 = .ok (.invokevirtual 101, 3) := by decide +kernel
theorem dX9_fit_8 : decode cX9_fit 8 = .ok (.ifCond .eq 33, 3) := by decide +kernel
theorem dX9_fit_11 : decode cX9_fit 11 = .ok (.aload_n 0, 1) := by decide +kernel
theorem dX9_fit_12 : decode cX9_fit 12 = .ok (.getfield 19, 3) := by decide +kernel
theorem dX9_fit_15 : decode cX9_fit 15 = .ok (.aload_n 0, 1) := by decide +kernel
theorem dX9_fit_16 : decode cX9_fit 16 = .ok (.getfield 26, 3) := by decide +kernel
theorem dX9_fit_19 : decode cX9_fit 19 = .ok (.getfield 105, 3) := by decide +kernel
theorem dX9_fit_22 : decode cX9_fit 22 = .ok (.iload_n 1, 1) := by decide +kernel
theorem dX9_fit_23 : decode cX9_fit 23 = .ok (.iaload, 1) := by decide +kernel
theorem dX9_fit_24 : decode cX9_fit 24 = .ok (.aload_n 0, 1) := by decide +kernel
theorem dX9_fit_25 : decode cX9_fit 25 = .ok (.getfield 26, 3) := by decide +kernel
theorem dX9_fit_28 : decode cX9_fit 28 = .ok (.getfield 109, 3) := by decide +kernel
theorem dX9_fit_31 : decode cX9_fit 31 = .ok (.iload_n 1, 1) := by decide +kernel
theorem dX9_fit_32 : decode cX9_fit 32 = .ok (.iaload, 1) := by decide +kernel
theorem dX9_fit_33 : decode cX9_fit 33 = .ok (.iload_n 2, 1) := by decide +kernel
theorem dX9_fit_34 : decode cX9_fit 34 = .ok (.iload_n 3, 1) := by decide +kernel
theorem dX9_fit_35 : decode cX9_fit 35 = .ok (.invokevirtual 112, 3) := by decide +kernel
theorem dX9_fit_38 : decode cX9_fit 38 = .ok (.goto 4, 3) := by decide +kernel
theorem dX9_fit_41 : decode cX9_fit 41 = .ok (.iconst (-1), 1) := by decide +kernel
theorem dX9_fit_42 : decode cX9_fit 42 = .ok (.ireturn, 1) := by decide +kernel
theorem dX9_best_0 : decode cX9_best 0 = .ok (.aload_n 0, 1) := by decide +kernel
theorem dX9_best_1 : decode cX9_best 1 = .ok (.getfield 26, 3) := by decide +kernel
theorem dX9_best_4 : decode cX9_best 4 = .ok (.iload_n 1, 1) := by decide +kernel
theorem dX9_best_5 : decode cX9_best 5 = .ok (.invokevirtual 101, 3) := by decide +kernel
theorem dX9_best_8 : decode cX9_best 8 = .ok (.ifCond .eq 31, 3) := by decide +kernel
theorem dX9_best_11 : decode cX9_best 11 = .ok (.aload_n 0, 1) := by decide +kernel
theorem dX9_best_12 : decode cX9_best 12 = .ok (.getfield 19, 3) := by decide +kernel
theorem dX9_best_15 : decode cX9_best 15 = .ok (.aload_n 0, 1) := by decide +kernel
theorem dX9_best_16 : decode cX9_best 16 = .ok (.getfield 26, 3) := by decide +kernel
theorem dX9_best_19 : decode cX9_best 19 = .ok (.getfield 105, 3) := by decide +kernel
theorem dX9_best_22 : decode cX9_best 22 = .ok (.iload_n 1, 1) := by decide +kernel
theorem dX9_best_23 : decode cX9_best 23 = .ok (.iaload, 1) := by decide +kernel
theorem dX9_best_24 : decode cX9_best 24 = .ok (.aload_n 0, 1) := by decide +kernel
theorem dX9_best_25 : decode cX9_best 25 = .ok (.getfield 26, 3) := by decide +kernel
theorem dX9_best_28 : decode cX9_best 28 = .ok (.getfield 109, 3) := by decide +kernel
theorem dX9_best_31 : decode cX9_best 31 = .ok (.iload_n 1, 1) := by decide +kernel
theorem dX9_best_32 : decode cX9_best 32 = .ok (.iaload, 1) := by decide +kernel
theorem dX9_best_33 : decode cX9_best 33 = .ok (.invokevirtual 116, 3) := by decide +kernel
theorem dX9_best_36 : decode cX9_best 36 = .ok (.goto 4, 3) := by decide +kernel
theorem dX9_best_39 : decode cX9_best 39 = .ok (.iconst (-1), 1) := by decide +kernel
theorem dX9_best_40 : decode cX9_best 40 = .ok (.ireturn, 1) := by decide +kernel
theorem dX9_parse_0 : decode cX9_parse 0 = .ok (.aload_n 0, 1) := by decide +kernel
theorem dX9_parse_1 : decode cX9_parse 1 = .ok (.getfield 40, 3) := by decide +kernel
theorem dX9_parse_4 : decode cX9_parse 4 = .ok (.getfield 91, 3) := by decide +kernel
theorem dX9_parse_7 : decode cX9_parse 7 = .ok (.ifCond .eq 13, 3) := by decide +kernel
theorem dX9_parse_10 : decode cX9_parse 10 = .ok (.aload_n 0, 1) := by decide +kernel
theorem dX9_parse_11 : decode cX9_parse 11 = .ok (.getfield 26, 3) := by decide +kernel
theorem dX9_parse_14 : decode cX9_parse 14 = .ok (.getfield 98, 3) := by decide +kernel
theorem dX9_parse_17 : decode cX9_parse 17 = .ok (.ifCond .ne 5, 3) := by decide +kernel
theorem dX9_parse_20 : decode cX9_parse 20 = .ok (.iconst (-1), 1) := by decide +kernel
theorem dX9_parse_21 : decode cX9_parse 21 = .ok (.ireturn, 1) := by decide +kernel
theorem dX9_parse_22 : decode cX9_parse 22 = .ok (.aload_n 0, 1) := by decide +kernel
theorem dX9_parse_23 : decode cX9_parse 23 = .ok (.getfield 54, 3) := by decide +kernel
theorem dX9_parse_26 : decode cX9_parse 26 = .ok (.aload_n 0, 1) := by decide +kernel
theorem dX9_parse_27 : decode cX9_parse 27 = .ok (.getfield 40, 3) := by decide +kernel
theorem dX9_parse_30 : decode cX9_parse 30 = .ok (.aload_n 0, 1) := by decide +kernel
theorem dX9_parse_31 : decode cX9_parse 31 = .ok (.getfield 26, 3) := by decide +kernel
theorem dX9_parse_34 : decode cX9_parse 34 = .ok (.aload_n 0, 1) := by decide +kernel
theorem dX9_parse_35 : decode cX9_parse 35 = .ok (.getfield 12, 3) := by decide +kernel
theorem dX9_parse_38 : decode cX9_parse 38 = .ok (.aload_n 0, 1) := by decide +kernel
theorem dX9_parse_39 : decode cX9_parse 39 = .ok (.getfield 19, 3) := by decide +kernel
theorem dX9_parse_42 : decode cX9_parse 42 = .ok (.invokevirtual 120, 3) := by decide +kernel
theorem dX9_parse_45 : decode cX9_parse 45 = .ok (.aload_n 0, 1) := by decide +kernel
theorem dX9_parse_46 : decode cX9_parse 46 = .ok (.getfield 61, 3) := by decide +kernel
theorem dX9_parse_49 : decode cX9_parse 49 = .ok (.iconst (-1), 1) := by decide +kernel
theorem dX9_parse_50 : decode cX9_parse 50 = .ok (.putfield 124, 3) := by decide +kernel
theorem dX9_parse_53 : decode cX9_parse 53 = .ok (.aload_n 0, 1) := by decide +kernel
theorem dX9_parse_54 : decode cX9_parse 54 = .ok (.getfield 54, 3) := by decide +kernel
theorem dX9_parse_57 : decode cX9_parse 57 = .ok (.invokevirtual 127, 3) := by decide +kernel
theorem dX9_parse_60 : decode cX9_parse 60 = .ok (.ireturn, 1) := by decide +kernel
theorem dX9_readings_0 : decode cX9_readings 0 = .ok (.aload_n 0, 1) := by decide +kernel
theorem dX9_readings_1 : decode cX9_readings 1 = .ok (.getfield 54, 3) := by decide +kernel
theorem dX9_readings_4 : decode cX9_readings 4 = .ok (.invokevirtual 131, 3) := by decide +kernel
theorem dX9_readings_7 : decode cX9_readings 7 = .ok (.lreturn, 1) := by decide +kernel
theorem dX9_price_0 : decode cX9_price 0 = .ok (.aload_n 0, 1) := by decide +kernel
theorem dX9_price_1 : decode cX9_price 1 = .ok (.iload_n 1, 1) := by decide +kernel
theorem dX9_price_2 : decode cX9_price 2 = .ok (.invokevirtual 135, 3) := by decide +kernel
theorem dX9_price_5 : decode cX9_price 5 = .ok (.ifCond .eq 14, 3) := by decide +kernel
theorem dX9_price_8 : decode cX9_price 8 = .ok (.aload_n 0, 1) := by decide +kernel
theorem dX9_price_9 : decode cX9_price 9 = .ok (.getfield 54, 3) := by decide +kernel
theorem dX9_price_12 : decode cX9_price 12 = .ok (.iload_n 1, 1) := by decide +kernel
theorem dX9_price_13 : decode cX9_price 13 = .ok (.invokevirtual 138, 3) := by decide +kernel
theorem dX9_price_16 : decode cX9_price 16 = .ok (.goto 4, 3) := by decide +kernel
theorem dX9_price_19 : decode cX9_price 19 = .ok (.iconst (-1), 1) := by decide +kernel
theorem dX9_price_20 : decode cX9_price 20 = .ok (.ireturn, 1) := by decide +kernel
theorem dX9_node_0 : decode cX9_node 0 = .ok (.aload_n 0, 1) := by decide +kernel
theorem dX9_node_1 : decode cX9_node 1 = .ok (.iload_n 1, 1) := by decide +kernel
theorem dX9_node_2 : decode cX9_node 2 = .ok (.invokevirtual 135, 3) := by decide +kernel
theorem dX9_node_5 : decode cX9_node 5 = .ok (.ifCond .ne 5, 3) := by decide +kernel
theorem dX9_node_8 : decode cX9_node 8 = .ok (.iconst (-1), 1) := by decide +kernel
theorem dX9_node_9 : decode cX9_node 9 = .ok (.ireturn, 1) := by decide +kernel
theorem dX9_node_10 : decode cX9_node 10 = .ok (.aload_n 0, 1) := by decide +kernel
theorem dX9_node_11 : decode cX9_node 11 = .ok (.iload_n 1, 1) := by decide +kernel
theorem dX9_node_12 : decode cX9_node 12 = .ok (.invokevirtual 142, 3) := by decide +kernel
theorem dX9_node_15 : decode cX9_node 15 = .ok (.pop, 1) := by decide +kernel
theorem dX9_node_16 : decode cX9_node 16 = .ok (.iload_n 2, 1) := by decide +kernel
theorem dX9_node_17 : decode cX9_node 17 = .ok (.ifCond .lt 14, 3) := by decide +kernel
theorem dX9_node_20 : decode cX9_node 20 = .ok (.iload_n 2, 1) := by decide +kernel
theorem dX9_node_21 : decode cX9_node 21 = .ok (.aload_n 0, 1) := by decide +kernel
theorem dX9_node_22 : decode cX9_node 22 = .ok (.getfield 61, 3) := by decide +kernel
theorem dX9_node_25 : decode cX9_node 25 = .ok (.getfield 146, 3) := by decide +kernel
theorem dX9_node_28 : decode cX9_node 28 = .ok (.if_icmp .lt 5, 3) := by decide +kernel
theorem dX9_node_31 : decode cX9_node 31 = .ok (.iconst (-1), 1) := by decide +kernel
theorem dX9_node_32 : decode cX9_node 32 = .ok (.ireturn, 1) := by decide +kernel
theorem dX9_node_33 : decode cX9_node 33 = .ok (.iload_n 3, 1) := by decide +kernel
theorem dX9_node_34 : decode cX9_node 34 = .ok (.tableswitch 70 0 3 #[30, 40, 50, 60], 30) := by decide +kernel
theorem dX9_node_64 : decode cX9_node 64 = .ok (.aload_n 0, 1) := by decide +kernel
theorem dX9_node_65 : decode cX9_node 65 = .ok (.getfield 61, 3) := by decide +kernel
theorem dX9_node_68 : decode cX9_node 68 = .ok (.getfield 147, 3) := by decide +kernel
theorem dX9_node_71 : decode cX9_node 71 = .ok (.iload_n 2, 1) := by decide +kernel
theorem dX9_node_72 : decode cX9_node 72 = .ok (.iaload, 1) := by decide +kernel
theorem dX9_node_73 : decode cX9_node 73 = .ok (.ireturn, 1) := by decide +kernel
theorem dX9_node_74 : decode cX9_node 74 = .ok (.aload_n 0, 1) := by decide +kernel
theorem dX9_node_75 : decode cX9_node 75 = .ok (.getfield 61, 3) := by decide +kernel
theorem dX9_node_78 : decode cX9_node 78 = .ok (.getfield 149, 3) := by decide +kernel
theorem dX9_node_81 : decode cX9_node 81 = .ok (.iload_n 2, 1) := by decide +kernel
theorem dX9_node_82 : decode cX9_node 82 = .ok (.iaload, 1) := by decide +kernel
theorem dX9_node_83 : decode cX9_node 83 = .ok (.ireturn, 1) := by decide +kernel
theorem dX9_node_84 : decode cX9_node 84 = .ok (.aload_n 0, 1) := by decide +kernel
theorem dX9_node_85 : decode cX9_node 85 = .ok (.getfield 61, 3) := by decide +kernel
theorem dX9_node_88 : decode cX9_node 88 = .ok (.getfield 152, 3) := by decide +kernel
theorem dX9_node_91 : decode cX9_node 91 = .ok (.iload_n 2, 1) := by decide +kernel
theorem dX9_node_92 : decode cX9_node 92 = .ok (.iaload, 1) := by decide +kernel
theorem dX9_node_93 : decode cX9_node 93 = .ok (.ireturn, 1) := by decide +kernel
theorem dX9_node_94 : decode cX9_node 94 = .ok (.aload_n 0, 1) := by decide +kernel
theorem dX9_node_95 : decode cX9_node 95 = .ok (.getfield 61, 3) := by decide +kernel
theorem dX9_node_98 : decode cX9_node 98 = .ok (.getfield 155, 3) := by decide +kernel
theorem dX9_node_101 : decode cX9_node 101 = .ok (.iload_n 2, 1) := by decide +kernel
theorem dX9_node_102 : decode cX9_node 102 = .ok (.iaload, 1) := by decide +kernel
theorem dX9_node_103 : decode cX9_node 103 = .ok (.ireturn, 1) := by decide +kernel
theorem dX9_node_104 : decode cX9_node 104 = .ok (.iconst (-1), 1) := by decide +kernel
theorem dX9_node_105 : decode cX9_node 105 = .ok (.ireturn, 1) := by decide +kernel
theorem dX9_nodes_0 : decode cX9_nodes 0 = .ok (.aload_n 0, 1) := by decide +kernel
theorem dX9_nodes_1 : decode cX9_nodes 1 = .ok (.iload_n 1, 1) := by decide +kernel
theorem dX9_nodes_2 : decode cX9_nodes 2 = .ok (.invokevirtual 135, 3) := by decide +kernel
theorem dX9_nodes_5 : decode cX9_nodes 5 = .ok (.ifCond .eq 14, 3) := by decide +kernel
theorem dX9_nodes_8 : decode cX9_nodes 8 = .ok (.aload_n 0, 1) := by decide +kernel
theorem dX9_nodes_9 : decode cX9_nodes 9 = .ok (.iload_n 1, 1) := by decide +kernel
theorem dX9_nodes_10 : decode cX9_nodes 10 = .ok (.invokevirtual 142, 3) := by decide +kernel
theorem dX9_nodes_13 : decode cX9_nodes 13 = .ok (.getfield 146, 3) := by decide +kernel
theorem dX9_nodes_16 : decode cX9_nodes 16 = .ok (.goto 4, 3) := by decide +kernel
theorem dX9_nodes_19 : decode cX9_nodes 19 = .ok (.iconst (-1), 1) := by decide +kernel
theorem dX9_nodes_20 : decode cX9_nodes 20 = .ok (.ireturn, 1) := by decide +kernel
theorem dX9_chord_0 : decode cX9_chord 0 = .ok (.aload_n 0, 1) := by decide +kernel
theorem dX9_chord_1 : decode cX9_chord 1 = .ok (.iload_n 1, 1) := by decide +kernel
theorem dX9_chord_2 : decode cX9_chord 2 = .ok (.invokevirtual 135, 3) := by decide +kernel
theorem dX9_chord_5 : decode cX9_chord 5 = .ok (.ifCond .eq 27, 3) := by decide +kernel
theorem dX9_chord_8 : decode cX9_chord 8 = .ok (.aload_n 0, 1) := by decide +kernel
theorem dX9_chord_9 : decode cX9_chord 9 = .ok (.getfield 54, 3) := by decide +kernel
theorem dX9_chord_12 : decode cX9_chord 12 = .ok (.iload_n 2, 1) := by decide +kernel
theorem dX9_chord_13 : decode cX9_chord 13 = .ok (.invokevirtual 158, 3) := by decide +kernel
theorem dX9_chord_16 : decode cX9_chord 16 = .ok (.ifCond .eq 16, 3) := by decide +kernel
theorem dX9_chord_19 : decode cX9_chord 19 = .ok (.aload_n 0, 1) := by decide +kernel
theorem dX9_chord_20 : decode cX9_chord 20 = .ok (.iload_n 1, 1) := by decide +kernel
theorem dX9_chord_21 : decode cX9_chord 21 = .ok (.invokevirtual 142, 3) := by decide +kernel
theorem dX9_chord_24 : decode cX9_chord 24 = .ok (.getfield 161, 3) := by decide +kernel
theorem dX9_chord_27 : decode cX9_chord 27 = .ok (.iload_n 2, 1) := by decide +kernel
theorem dX9_chord_28 : decode cX9_chord 28 = .ok (.iaload, 1) := by decide +kernel
theorem dX9_chord_29 : decode cX9_chord 29 = .ok (.goto 4, 3) := by decide +kernel
theorem dX9_chord_32 : decode cX9_chord 32 = .ok (.iconst (-1), 1) := by decide +kernel
theorem dX9_chord_33 : decode cX9_chord 33 = .ok (.ireturn, 1) := by decide +kernel
theorem dX9_cadence_0 : decode cX9_cadence 0 = .ok (.aload_n 0, 1) := by decide +kernel
theorem dX9_cadence_1 : decode cX9_cadence 1 = .ok (.iload_n 1, 1) := by decide +kernel
theorem dX9_cadence_2 : decode cX9_cadence 2 = .ok (.invokevirtual 135, 3) := by decide +kernel
theorem dX9_cadence_5 : decode cX9_cadence 5 = .ok (.ifCond .ne 5, 3) := by decide +kernel
theorem dX9_cadence_8 : decode cX9_cadence 8 = .ok (.iconst (-1), 1) := by decide +kernel
theorem dX9_cadence_9 : decode cX9_cadence 9 = .ok (.ireturn, 1) := by decide +kernel
theorem dX9_cadence_10 : decode cX9_cadence 10 = .ok (.aload_n 0, 1) := by decide +kernel
theorem dX9_cadence_11 : decode cX9_cadence 11 = .ok (.iload_n 1, 1) := by decide +kernel
theorem dX9_cadence_12 : decode cX9_cadence 12 = .ok (.invokevirtual 142, 3) := by decide +kernel
theorem dX9_cadence_15 : decode cX9_cadence 15 = .ok (.pop, 1) := by decide +kernel
theorem dX9_cadence_16 : decode cX9_cadence 16 = .ok (.aload_n 0, 1) := by decide +kernel
theorem dX9_cadence_17 : decode cX9_cadence 17 = .ok (.getfield 61, 3) := by decide +kernel
theorem dX9_cadence_20 : decode cX9_cadence 20 = .ok (.aload_n 0, 1) := by decide +kernel
theorem dX9_cadence_21 : decode cX9_cadence 21 = .ok (.getfield 54, 3) := by decide +kernel
theorem dX9_cadence_24 : decode cX9_cadence 24 = .ok (.getfield 164, 3) := by decide +kernel
theorem dX9_cadence_27 : decode cX9_cadence 27 = .ok (.iconst 2, 1) := by decide +kernel
theorem dX9_cadence_28 : decode cX9_cadence 28 = .ok (.isub, 1) := by decide +kernel
theorem dX9_cadence_29 : decode cX9_cadence 29 = .ok (.invokevirtual 166, 3) := by decide +kernel
theorem dX9_cadence_32 : decode cX9_cadence 32 = .ok (.aload_n 0, 1) := by decide +kernel
theorem dX9_cadence_33 : decode cX9_cadence 33 = .ok (.getfield 61, 3) := by decide +kernel
theorem dX9_cadence_36 : decode cX9_cadence 36 = .ok (.aload_n 0, 1) := by decide +kernel
theorem dX9_cadence_37 : decode cX9_cadence 37 = .ok (.getfield 54, 3) := by decide +kernel
theorem dX9_cadence_40 : decode cX9_cadence 40 = .ok (.getfield 164, 3) := by decide +kernel
theorem dX9_cadence_43 : decode cX9_cadence 43 = .ok (.iconst 1, 1) := by decide +kernel
theorem dX9_cadence_44 : decode cX9_cadence 44 = .ok (.isub, 1) := by decide +kernel
theorem dX9_cadence_45 : decode cX9_cadence 45 = .ok (.invokevirtual 166, 3) := by decide +kernel
theorem dX9_cadence_48 : decode cX9_cadence 48 = .ok (.invokestatic 169, 3) := by decide +kernel
theorem dX9_cadence_51 : decode cX9_cadence 51 = .ok (.ireturn, 1) := by decide +kernel
theorem dX9_melody_0 : decode cX9_melody 0 = .ok (.aload_n 0, 1) := by decide +kernel
theorem dX9_melody_1 : decode cX9_melody 1 = .ok (.iload_n 1, 1) := by decide +kernel
theorem dX9_melody_2 : decode cX9_melody 2 = .ok (.invokevirtual 135, 3) := by decide +kernel
theorem dX9_melody_5 : decode cX9_melody 5 = .ok (.ifCond .ne 5, 3) := by decide +kernel
theorem dX9_melody_8 : decode cX9_melody 8 = .ok (.iconst (-1), 1) := by decide +kernel
theorem dX9_melody_9 : decode cX9_melody 9 = .ok (.ireturn, 1) := by decide +kernel
theorem dX9_melody_10 : decode cX9_melody 10 = .ok (.aload_n 0, 1) := by decide +kernel
theorem dX9_melody_11 : decode cX9_melody 11 = .ok (.getfield 54, 3) := by decide +kernel
theorem dX9_melody_14 : decode cX9_melody 14 = .ok (.iload_n 2, 1) := by decide +kernel
theorem dX9_melody_15 : decode cX9_melody 15 = .ok (.invokevirtual 172, 3) := by decide +kernel
theorem dX9_melody_18 : decode cX9_melody 18 = .ok (.istore_n 3, 1) := by decide +kernel
theorem dX9_melody_19 : decode cX9_melody 19 = .ok (.aload_n 0, 1) := by decide +kernel
theorem dX9_melody_20 : decode cX9_melody 20 = .ok (.iload_n 1, 1) := by decide +kernel
theorem dX9_melody_21 : decode cX9_melody 21 = .ok (.iload_n 2, 1) := by decide +kernel
theorem dX9_melody_22 : decode cX9_melody 22 = .ok (.invokevirtual 175, 3) := by decide +kernel
theorem dX9_melody_25 : decode cX9_melody 25 = .ok (.istore 4, 2) := by decide +kernel
theorem dX9_melody_27 : decode cX9_melody 27 = .ok (.iload_n 3, 1) := by decide +kernel
theorem dX9_melody_28 : decode cX9_melody 28 = .ok (.iconst (-1), 1) := by decide +kernel
theorem dX9_melody_29 : decode cX9_melody 29 = .ok (.if_icmp .eq 9, 3) := by decide +kernel
theorem dX9_melody_32 : decode cX9_melody 32 = .ok (.iload 4, 2) := by decide +kernel
theorem dX9_melody_34 : decode cX9_melody 34 = .ok (.iconst (-1), 1) := by decide +kernel
theorem dX9_melody_35 : decode cX9_melody 35 = .ok (.if_icmp .ne 5, 3) := by decide +kernel
theorem dX9_melody_38 : decode cX9_melody 38 = .ok (.iconst (-1), 1) := by decide +kernel
theorem dX9_melody_39 : decode cX9_melody 39 = .ok (.ireturn, 1) := by decide +kernel
theorem dX9_melody_40 : decode cX9_melody 40 = .ok (.iload 4, 2) := by decide +kernel
theorem dX9_melody_42 : decode cX9_melody 42 = .ok (.bipush 12, 2) := by decide +kernel
theorem dX9_melody_44 : decode cX9_melody 44 = .ok (.irem, 1) := by decide +kernel
theorem dX9_melody_45 : decode cX9_melody 45 = .ok (.iload 4, 2) := by decide +kernel
theorem dX9_melody_47 : decode cX9_melody 47 = .ok (.bipush 12, 2) := by decide +kernel
theorem dX9_melody_49 : decode cX9_melody 49 = .ok (.idiv, 1) := by decide +kernel
theorem dX9_melody_50 : decode cX9_melody 50 = .ok (.invokestatic 178, 3) := by decide +kernel
theorem dX9_melody_53 : decode cX9_melody 53 = .ok (.iload_n 3, 1) := by decide +kernel
theorem dX9_melody_54 : decode cX9_melody 54 = .ok (.bipush 12, 2) := by decide +kernel
theorem dX9_melody_56 : decode cX9_melody 56 = .ok (.irem, 1) := by decide +kernel
theorem dX9_melody_57 : decode cX9_melody 57 = .ok (.iushr, 1) := by decide +kernel
theorem dX9_melody_58 : decode cX9_melody 58 = .ok (.iconst 1, 1) := by decide +kernel
theorem dX9_melody_59 : decode cX9_melody 59 = .ok (.iand, 1) := by decide +kernel
theorem dX9_melody_60 : decode cX9_melody 60 = .ok (.ifCond .eq 5, 3) := by decide +kernel
theorem dX9_melody_63 : decode cX9_melody 63 = .ok (.iconst 0, 1) := by decide +kernel
theorem dX9_melody_64 : decode cX9_melody 64 = .ok (.ireturn, 1) := by decide +kernel
theorem dX9_melody_65 : decode cX9_melody 65 = .ok (.aload_n 0, 1) := by decide +kernel
theorem dX9_melody_66 : decode cX9_melody 66 = .ok (.getfield 54, 3) := by decide +kernel
theorem dX9_melody_69 : decode cX9_melody 69 = .ok (.iload_n 2, 1) := by decide +kernel
theorem dX9_melody_70 : decode cX9_melody 70 = .ok (.iconst 1, 1) := by decide +kernel
theorem dX9_melody_71 : decode cX9_melody 71 = .ok (.isub, 1) := by decide +kernel
theorem dX9_melody_72 : decode cX9_melody 72 = .ok (.invokevirtual 172, 3) := by decide +kernel
theorem dX9_melody_75 : decode cX9_melody 75 = .ok (.iload_n 3, 1) := by decide +kernel
theorem dX9_melody_76 : decode cX9_melody 76 = .ok (.aload_n 0, 1) := by decide +kernel
theorem dX9_melody_77 : decode cX9_melody 77 = .ok (.getfield 54, 3) := by decide +kernel
theorem dX9_melody_80 : decode cX9_melody 80 = .ok (.iload_n 2, 1) := by decide +kernel
theorem dX9_melody_81 : decode cX9_melody 81 = .ok (.iconst 1, 1) := by decide +kernel
theorem dX9_melody_82 : decode cX9_melody 82 = .ok (.iadd, 1) := by decide +kernel
theorem dX9_melody_83 : decode cX9_melody 83 = .ok (.invokevirtual 172, 3) := by decide +kernel
theorem dX9_melody_86 : decode cX9_melody 86 = .ok (.invokestatic 181, 3) := by decide +kernel
theorem dX9_melody_89 : decode cX9_melody 89 = .ok (.ireturn, 1) := by decide +kernel
theorem dX9_cell_0 : decode cX9_cell 0 = .ok (.iload_n 1, 1) := by decide +kernel
theorem dX9_cell_1 : decode cX9_cell 1 = .ok (.ifCond .lt 29, 3) := by decide +kernel
theorem dX9_cell_4 : decode cX9_cell 4 = .ok (.iload_n 1, 1) := by decide +kernel
theorem dX9_cell_5 : decode cX9_cell 5 = .ok (.iload_n 2, 1) := by decide +kernel
theorem dX9_cell_6 : decode cX9_cell 6 = .ok (.if_icmp .gt 24, 3) := by decide +kernel
theorem dX9_cell_9 : decode cX9_cell 9 = .ok (.iload_n 2, 1) := by decide +kernel
theorem dX9_cell_10 : decode cX9_cell 10 = .ok (.aload_n 0, 1) := by decide +kernel
theorem dX9_cell_11 : decode cX9_cell 11 = .ok (.getfield 54, 3) := by decide +kernel
theorem dX9_cell_14 : decode cX9_cell 14 = .ok (.getfield 164, 3) := by decide +kernel
theorem dX9_cell_17 : decode cX9_cell 17 = .ok (.if_icmp .ge 13, 3) := by decide +kernel
theorem dX9_cell_20 : decode cX9_cell 20 = .ok (.iload_n 3, 1) := by decide +kernel
theorem dX9_cell_21 : decode cX9_cell 21 = .ok (.ifCond .lt 9, 3) := by decide +kernel
theorem dX9_cell_24 : decode cX9_cell 24 = .ok (.iload_n 3, 1) := by decide +kernel
theorem dX9_cell_25 : decode cX9_cell 25 = .ok (.bipush 26, 2) := by decide +kernel
theorem dX9_cell_27 : decode cX9_cell 27 = .ok (.if_icmp .lt 13, 3) := by decide +kernel
theorem dX9_cell_30 : decode cX9_cell 30 = .ok (.new 184, 3) := by decide +kernel
theorem dX9_cell_33 : decode cX9_cell 33 = .ok (.dup, 1) := by decide +kernel
theorem dX9_cell_34 : decode cX9_cell 34 = .ok (.ldc 186, 2) := by decide +kernel
theorem dX9_cell_36 : decode cX9_cell 36 = .ok (.invokespecial 188, 3) := by decide +kernel
theorem dX9_cell_39 : decode cX9_cell 39 = .ok (.athrow, 1) := by decide +kernel
theorem dX9_cell_40 : decode cX9_cell 40 = .ok (.aload_n 0, 1) := by decide +kernel
theorem dX9_cell_41 : decode cX9_cell 41 = .ok (.getfield 54, 3) := by decide +kernel
theorem dX9_cell_44 : decode cX9_cell 44 = .ok (.iload_n 3, 1) := by decide +kernel
theorem dX9_cell_45 : decode cX9_cell 45 = .ok (.iload_n 1, 1) := by decide +kernel
theorem dX9_cell_46 : decode cX9_cell 46 = .ok (.iload_n 2, 1) := by decide +kernel
theorem dX9_cell_47 : decode cX9_cell 47 = .ok (.invokevirtual 191, 3) := by decide +kernel
theorem dX9_cell_50 : decode cX9_cell 50 = .ok (.lreturn, 1) := by decide +kernel
theorem dX9_told_0 : decode cX9_told 0 = .ok (.iload_n 1, 1) := by decide +kernel
theorem dX9_told_1 : decode cX9_told 1 = .ok (.tableswitch 75 0 4 #[35, 43, 51, 59, 67], 35) := by decide +kernel
theorem dX9_told_36 : decode cX9_told 36 = .ok (.aload_n 0, 1) := by decide +kernel
theorem dX9_told_37 : decode cX9_told 37 = .ok (.getfield 26, 3) := by decide +kernel
theorem dX9_told_40 : decode cX9_told 40 = .ok (.getfield 98, 3) := by decide +kernel
theorem dX9_told_43 : decode cX9_told 43 = .ok (.ireturn, 1) := by decide +kernel
theorem dX9_told_44 : decode cX9_told 44 = .ok (.aload_n 0, 1) := by decide +kernel
theorem dX9_told_45 : decode cX9_told 45 = .ok (.getfield 40, 3) := by decide +kernel
theorem dX9_told_48 : decode cX9_told 48 = .ok (.getfield 91, 3) := by decide +kernel
theorem dX9_told_51 : decode cX9_told 51 = .ok (.ireturn, 1) := by decide +kernel
theorem dX9_told_52 : decode cX9_told 52 = .ok (.aload_n 0, 1) := by decide +kernel
theorem dX9_told_53 : decode cX9_told 53 = .ok (.getfield 33, 3) := by decide +kernel
theorem dX9_told_56 : decode cX9_told 56 = .ok (.getfield 80, 3) := by decide +kernel
theorem dX9_told_59 : decode cX9_told 59 = .ok (.ireturn, 1) := by decide +kernel
theorem dX9_told_60 : decode cX9_told 60 = .ok (.aload_n 0, 1) := by decide +kernel
theorem dX9_told_61 : decode cX9_told 61 = .ok (.getfield 54, 3) := by decide +kernel
theorem dX9_told_64 : decode cX9_told 64 = .ok (.invokevirtual 127, 3) := by decide +kernel
theorem dX9_told_67 : decode cX9_told 67 = .ok (.ireturn, 1) := by decide +kernel
theorem dX9_told_68 : decode cX9_told 68 = .ok (.aload_n 0, 1) := by decide +kernel
theorem dX9_told_69 : decode cX9_told 69 = .ok (.getfield 54, 3) := by decide +kernel
theorem dX9_told_72 : decode cX9_told 72 = .ok (.getfield 164, 3) := by decide +kernel
theorem dX9_told_75 : decode cX9_told 75 = .ok (.ireturn, 1) := by decide +kernel
theorem dX9_told_76 : decode cX9_told 76 = .ok (.iconst (-1), 1) := by decide +kernel
theorem dX9_told_77 : decode cX9_told 77 = .ok (.ireturn, 1) := by decide +kernel
theorem dX9_isListed_0 : decode cX9_isListed 0 = .ok (.iload_n 1, 1) := by decide +kernel
theorem dX9_isListed_1 : decode cX9_isListed 1 = .ok (.ifCond .lt 18, 3) := by decide +kernel
theorem dX9_isListed_4 : decode cX9_isListed 4 = .ok (.iload_n 1, 1) := by decide +kernel
theorem dX9_isListed_5 : decode cX9_isListed 5 = .ok (.aload_n 0, 1) := by decide +kernel
theorem dX9_isListed_6 : decode cX9_isListed 6 = .ok (.getfield 54, 3) := by decide +kernel
theorem dX9_isListed_9 : decode cX9_isListed 9 = .ok (.invokevirtual 127, 3) := by decide +kernel
theorem dX9_isListed_12 : decode cX9_isListed 12 = .ok (.if_icmp .ge 7, 3) := by decide +kernel
theorem dX9_isListed_15 : decode cX9_isListed 15 = .ok (.iconst 1, 1) := by decide +kernel
theorem dX9_isListed_16 : decode cX9_isListed 16 = .ok (.goto 4, 3) := by decide +kernel
theorem dX9_isListed_19 : decode cX9_isListed 19 = .ok (.iconst 0, 1) := by decide +kernel
theorem dX9_isListed_20 : decode cX9_isListed 20 = .ok (.ireturn, 1) := by decide +kernel
theorem dX9_treeOf_0 : decode cX9_treeOf 0 = .ok (.aload_n 0, 1) := by decide +kernel
theorem dX9_treeOf_1 : decode cX9_treeOf 1 = .ok (.getfield 61, 3) := by decide +kernel
theorem dX9_treeOf_4 : decode cX9_treeOf 4 = .ok (.getfield 124, 3) := by decide +kernel
theorem dX9_treeOf_7 : decode cX9_treeOf 7 = .ok (.iload_n 1, 1) := by decide +kernel
theorem dX9_treeOf_8 : decode cX9_treeOf 8 = .ok (.if_icmp .eq 15, 3) := by decide +kernel
theorem dX9_treeOf_11 : decode cX9_treeOf 11 = .ok (.aload_n 0, 1) := by decide +kernel
theorem dX9_treeOf_12 : decode cX9_treeOf 12 = .ok (.getfield 61, 3) := by decide +kernel
theorem dX9_treeOf_15 : decode cX9_treeOf 15 = .ok (.aload_n 0, 1) := by decide +kernel
theorem dX9_treeOf_16 : decode cX9_treeOf 16 = .ok (.getfield 54, 3) := by decide +kernel
theorem dX9_treeOf_19 : decode cX9_treeOf 19 = .ok (.iload_n 1, 1) := by decide +kernel
theorem dX9_treeOf_20 : decode cX9_treeOf 20 = .ok (.invokevirtual 195, 3) := by decide +kernel
theorem dX9_treeOf_23 : decode cX9_treeOf 23 = .ok (.aload_n 0, 1) := by decide +kernel
theorem dX9_treeOf_24 : decode cX9_treeOf 24 = .ok (.getfield 61, 3) := by decide +kernel
theorem dX9_treeOf_27 : decode cX9_treeOf 27 = .ok (.areturn, 1) := by decide +kernel
theorem dX9_chordSet_0 : decode cX9_chordSet 0 = .ok (.iload_n 0, 1) := by decide +kernel
theorem dX9_chordSet_1 : decode cX9_chordSet 1 = .ok (.ifCond .lt 19, 3) := by decide +kernel
theorem dX9_chordSet_4 : decode cX9_chordSet 4 = .ok (.iload_n 0, 1) := by decide +kernel
theorem dX9_chordSet_5 : decode cX9_chordSet 5 = .ok (.bipush 12, 2) := by decide +kernel
theorem dX9_chordSet_7 : decode cX9_chordSet 7 = .ok (.if_icmp .ge 13, 3) := by decide +kernel
theorem dX9_chordSet_10 : decode cX9_chordSet 10 = .ok (.iload_n 1, 1) := by decide +kernel
theorem dX9_chordSet_11 : decode cX9_chordSet 11 = .ok (.ifCond .lt 9, 3) := by decide +kernel
theorem dX9_chordSet_14 : decode cX9_chordSet 14 = .ok (.iload_n 1, 1) := by decide +kernel
theorem dX9_chordSet_15 : decode cX9_chordSet 15 = .ok (.bipush 9, 2) := by decide +kernel
theorem dX9_chordSet_17 : decode cX9_chordSet 17 = .ok (.if_icmp .lt 5, 3) := by decide +kernel
theorem dX9_chordSet_20 : decode cX9_chordSet 20 = .ok (.iconst 0, 1) := by decide +kernel
theorem dX9_chordSet_21 : decode cX9_chordSet 21 = .ok (.ireturn, 1) := by decide +kernel
theorem dX9_chordSet_22 : decode cX9_chordSet 22 = .ok (.getstatic 199, 3) := by decide +kernel
theorem dX9_chordSet_25 : decode cX9_chordSet 25 = .ok (.iload_n 1, 1) := by decide +kernel
theorem dX9_chordSet_26 : decode cX9_chordSet 26 = .ok (.iaload, 1) := by decide +kernel
theorem dX9_chordSet_27 : decode cX9_chordSet 27 = .ok (.iload_n 0, 1) := by decide +kernel
theorem dX9_chordSet_28 : decode cX9_chordSet 28 = .ok (.ishl, 1) := by decide +kernel
theorem dX9_chordSet_29 : decode cX9_chordSet 29 = .ok (.istore_n 2, 1) := by decide +kernel
theorem dX9_chordSet_30 : decode cX9_chordSet 30 = .ok (.iload_n 2, 1) := by decide +kernel
theorem dX9_chordSet_31 : decode cX9_chordSet 31 = .ok (.iload_n 2, 1) := by decide +kernel
theorem dX9_chordSet_32 : decode cX9_chordSet 32 = .ok (.bipush 12, 2) := by decide +kernel
theorem dX9_chordSet_34 : decode cX9_chordSet 34 = .ok (.iushr, 1) := by decide +kernel
theorem dX9_chordSet_35 : decode cX9_chordSet 35 = .ok (.ior, 1) := by decide +kernel
theorem dX9_chordSet_36 : decode cX9_chordSet 36 = .ok (.sipush 4095, 3) := by decide +kernel
theorem dX9_chordSet_39 : decode cX9_chordSet 39 = .ok (.iand, 1) := by decide +kernel
theorem dX9_chordSet_40 : decode cX9_chordSet 40 = .ok (.ireturn, 1) := by decide +kernel
theorem dX9_ending_0 : decode cX9_ending 0 = .ok (.iload_n 1, 1) := by decide +kernel
theorem dX9_ending_1 : decode cX9_ending 1 = .ok (.iconst 1, 1) := by decide +kernel
theorem dX9_ending_2 : decode cX9_ending 2 = .ok (.if_icmp .ne 10, 3) := by decide +kernel
theorem dX9_ending_5 : decode cX9_ending 5 = .ok (.iload_n 0, 1) := by decide +kernel
theorem dX9_ending_6 : decode cX9_ending 6 = .ok (.iconst 5, 1) := by decide +kernel
theorem dX9_ending_7 : decode cX9_ending 7 = .ok (.if_icmp .ne 5, 3) := by decide +kernel
theorem dX9_ending_10 : decode cX9_ending 10 = .ok (.iconst 1, 1) := by decide +kernel
theorem dX9_ending_11 : decode cX9_ending 11 = .ok (.ireturn, 1) := by decide +kernel
theorem dX9_ending_12 : decode cX9_ending 12 = .ok (.iload_n 1, 1) := by decide +kernel
theorem dX9_ending_13 : decode cX9_ending 13 = .ok (.iconst 1, 1) := by decide +kernel
theorem dX9_ending_14 : decode cX9_ending 14 = .ok (.if_icmp .ne 10, 3) := by decide +kernel
theorem dX9_ending_17 : decode cX9_ending 17 = .ok (.iload_n 0, 1) := by decide +kernel
theorem dX9_ending_18 : decode cX9_ending 18 = .ok (.iconst 4, 1) := by decide +kernel
theorem dX9_ending_19 : decode cX9_ending 19 = .ok (.if_icmp .ne 5, 3) := by decide +kernel
theorem dX9_ending_22 : decode cX9_ending 22 = .ok (.iconst 2, 1) := by decide +kernel
theorem dX9_ending_23 : decode cX9_ending 23 = .ok (.ireturn, 1) := by decide +kernel
theorem dX9_ending_24 : decode cX9_ending 24 = .ok (.iload_n 1, 1) := by decide +kernel
theorem dX9_ending_25 : decode cX9_ending 25 = .ok (.iconst 5, 1) := by decide +kernel
theorem dX9_ending_26 : decode cX9_ending 26 = .ok (.if_icmp .ne 5, 3) := by decide +kernel
theorem dX9_ending_29 : decode cX9_ending 29 = .ok (.iconst 3, 1) := by decide +kernel
theorem dX9_ending_30 : decode cX9_ending 30 = .ok (.ireturn, 1) := by decide +kernel
theorem dX9_ending_31 : decode cX9_ending 31 = .ok (.iload_n 1, 1) := by decide +kernel
theorem dX9_ending_32 : decode cX9_ending 32 = .ok (.bipush 6, 2) := by decide +kernel
theorem dX9_ending_34 : decode cX9_ending 34 = .ok (.if_icmp .ne 12, 3) := by decide +kernel
theorem dX9_ending_37 : decode cX9_ending 37 = .ok (.iload_n 0, 1) := by decide +kernel
theorem dX9_ending_38 : decode cX9_ending 38 = .ok (.iconst 5, 1) := by decide +kernel
theorem dX9_ending_39 : decode cX9_ending 39 = .ok (.if_icmp .ne 7, 3) := by decide +kernel
theorem dX9_ending_42 : decode cX9_ending 42 = .ok (.iconst 4, 1) := by decide +kernel
theorem dX9_ending_43 : decode cX9_ending 43 = .ok (.goto 4, 3) := by decide +kernel
theorem dX9_ending_46 : decode cX9_ending 46 = .ok (.iconst 0, 1) := by decide +kernel
theorem dX9_ending_47 : decode cX9_ending 47 = .ok (.ireturn, 1) := by decide +kernel
theorem dX9_strangerNote_0 : decode cX9_strangerNote 0 = .ok (.iload_n 2, 1) := by decide +kernel
theorem dX9_strangerNote_1 : decode cX9_strangerNote 1 = .ok (.iconst (-1), 1) := by decide +kernel
theorem dX9_strangerNote_2 : decode cX9_strangerNote 2 = .ok (.if_icmp .ne 6, 3) := by decide +kernel
theorem dX9_strangerNote_5 : decode cX9_strangerNote 5 = .ok (.bipush 7, 2) := by decide +kernel
theorem dX9_strangerNote_7 : decode cX9_strangerNote 7 = .ok (.ireturn, 1) := by decide +kernel
theorem dX9_strangerNote_8 : decode cX9_strangerNote 8 = .ok (.iload_n 2, 1) := by decide +kernel
theorem dX9_strangerNote_9 : decode cX9_strangerNote 9 = .ok (.iload_n 1, 1) := by decide +kernel
theorem dX9_strangerNote_10 : decode cX9_strangerNote 10 = .ok (.isub, 1) := by decide +kernel
theorem dX9_strangerNote_11 : decode cX9_strangerNote 11 = .ok (.istore_n 3, 1) := by decide +kernel
theorem dX9_strangerNote_12 : decode cX9_strangerNote 12 = .ok (.iload_n 0, 1) := by decide +kernel
theorem dX9_strangerNote_13 : decode cX9_strangerNote 13 = .ok (.iconst (-1), 1) := by decide +kernel
theorem dX9_strangerNote_14 : decode cX9_strangerNote 14 = .ok (.if_icmp .ne 14, 3) := by decide +kernel
theorem dX9_strangerNote_17 : decode cX9_strangerNote 17 = .ok (.iload_n 3, 1) := by decide +kernel
theorem dX9_strangerNote_18 : decode cX9_strangerNote 18 = .ok (.ifCond .ne 7, 3) := by decide +kernel
theorem dX9_strangerNote_21 : decode cX9_strangerNote 21 = .ok (.iconst 4, 1) := by decide +kernel
theorem dX9_strangerNote_22 : decode cX9_strangerNote 22 = .ok (.goto 5, 3) := by decide +kernel
theorem dX9_strangerNote_25 : decode cX9_strangerNote 25 = .ok (.bipush 7, 2) := by decide +kernel
theorem dX9_strangerNote_27 : decode cX9_strangerNote 27 = .ok (.ireturn, 1) := by decide +kernel
theorem dX9_strangerNote_28 : decode cX9_strangerNote 28 = .ok (.iload_n 1, 1) := by decide +kernel
theorem dX9_strangerNote_29 : decode cX9_strangerNote 29 = .ok (.iload_n 0, 1) := by decide +kernel
theorem dX9_strangerNote_30 : decode cX9_strangerNote 30 = .ok (.isub, 1) := by decide +kernel
theorem dX9_strangerNote_31 : decode cX9_strangerNote 31 = .ok (.istore 4, 2) := by decide +kernel
theorem dX9_strangerNote_33 : decode cX9_strangerNote 33 = .ok (.iload 4, 2) := by decide +kernel
theorem dX9_strangerNote_35 : decode cX9_strangerNote 35 = .ok (.ifCond .le 7, 3) := by decide +kernel
theorem dX9_strangerNote_38 : decode cX9_strangerNote 38 = .ok (.iload_n 3, 1) := by decide +kernel
theorem dX9_strangerNote_39 : decode cX9_strangerNote 39 = .ok (.ifCond .lt 12, 3) := by decide +kernel
theorem dX9_strangerNote_42 : decode cX9_strangerNote 42 = .ok (.iload 4, 2) := by decide +kernel
theorem dX9_strangerNote_44 : decode cX9_strangerNote 44 = .ok (.ifCond .ge 11, 3) := by decide +kernel
theorem dX9_strangerNote_47 : decode cX9_strangerNote 47 = .ok (.iload_n 3, 1) := by decide +kernel
theorem dX9_strangerNote_48 : decode cX9_strangerNote 48 = .ok (.ifCond .le 7, 3) := by decide +kernel
theorem dX9_strangerNote_51 : decode cX9_strangerNote 51 = .ok (.iconst 1, 1) := by decide +kernel
theorem dX9_strangerNote_52 : decode cX9_strangerNote 52 = .ok (.goto 4, 3) := by decide +kernel
theorem dX9_strangerNote_55 : decode cX9_strangerNote 55 = .ok (.iconst 0, 1) := by decide +kernel
theorem dX9_strangerNote_56 : decode cX9_strangerNote 56 = .ok (.istore 5, 2) := by decide +kernel
theorem dX9_strangerNote_58 : decode cX9_strangerNote 58 = .ok (.iload 4, 2) := by decide +kernel
theorem dX9_strangerNote_60 : decode cX9_strangerNote 60 = .ok (.invokestatic 202, 3) := by decide +kernel
theorem dX9_strangerNote_63 : decode cX9_strangerNote 63 = .ok (.ifCond .eq 17, 3) := by decide +kernel
theorem dX9_strangerNote_66 : decode cX9_strangerNote 66 = .ok (.iload_n 3, 1) := by decide +kernel
theorem dX9_strangerNote_67 : decode cX9_strangerNote 67 = .ok (.invokestatic 202, 3) := by decide +kernel
theorem dX9_strangerNote_70 : decode cX9_strangerNote 70 = .ok (.ifCond .eq 10, 3) := by decide +kernel
theorem dX9_strangerNote_73 : decode cX9_strangerNote 73 = .ok (.iload 5, 2) := by decide +kernel
theorem dX9_strangerNote_75 : decode cX9_strangerNote 75 = .ok (.ifCond .ne 5, 3) := by decide +kernel
theorem dX9_strangerNote_78 : decode cX9_strangerNote 78 = .ok (.iconst 1, 1) := by decide +kernel
theorem dX9_strangerNote_79 : decode cX9_strangerNote 79 = .ok (.ireturn, 1) := by decide +kernel
theorem dX9_strangerNote_80 : decode cX9_strangerNote 80 = .ok (.iload 4, 2) := by decide +kernel
theorem dX9_strangerNote_82 : decode cX9_strangerNote 82 = .ok (.invokestatic 202, 3) := by decide +kernel
theorem dX9_strangerNote_85 : decode cX9_strangerNote 85 = .ok (.ifCond .eq 10, 3) := by decide +kernel
theorem dX9_strangerNote_88 : decode cX9_strangerNote 88 = .ok (.iload_n 2, 1) := by decide +kernel
theorem dX9_strangerNote_89 : decode cX9_strangerNote 89 = .ok (.iload_n 0, 1) := by decide +kernel
theorem dX9_strangerNote_90 : decode cX9_strangerNote 90 = .ok (.if_icmp .ne 5, 3) := by decide +kernel
theorem dX9_strangerNote_93 : decode cX9_strangerNote 93 = .ok (.iconst 2, 1) := by decide +kernel
theorem dX9_strangerNote_94 : decode cX9_strangerNote 94 = .ok (.ireturn, 1) := by decide +kernel
theorem dX9_strangerNote_95 : decode cX9_strangerNote 95 = .ok (.iload 4, 2) := by decide +kernel
theorem dX9_strangerNote_97 : decode cX9_strangerNote 97 = .ok (.ifCond .ne 16, 3) := by decide +kernel
theorem dX9_strangerNote_100 : decode cX9_strangerNote 100 = .ok (.iload_n 3, 1) := by decide +kernel
theorem dX9_strangerNote_101 : decode cX9_strangerNote 101 = .ok (.invokestatic 202, 3) := by decide +kernel
theorem dX9_strangerNote_104 : decode cX9_strangerNote 104 = .ok (.ifCond .eq 9, 3) := by decide +kernel
theorem dX9_strangerNote_107 : decode cX9_strangerNote 107 = .ok (.iload_n 3, 1) := by decide +kernel
theorem dX9_strangerNote_108 : decode cX9_strangerNote 108 = .ok (.ifCond .ge 5, 3) := by decide +kernel
theorem dX9_strangerNote_111 : decode cX9_strangerNote 111 = .ok (.iconst 3, 1) := by decide +kernel
theorem dX9_strangerNote_112 : decode cX9_strangerNote 112 = .ok (.ireturn, 1) := by decide +kernel
theorem dX9_strangerNote_113 : decode cX9_strangerNote 113 = .ok (.iload_n 3, 1) := by decide +kernel
theorem dX9_strangerNote_114 : decode cX9_strangerNote 114 = .ok (.ifCond .ne 5, 3) := by decide +kernel
theorem dX9_strangerNote_117 : decode cX9_strangerNote 117 = .ok (.iconst 4, 1) := by decide +kernel
theorem dX9_strangerNote_118 : decode cX9_strangerNote 118 = .ok (.ireturn, 1) := by decide +kernel
theorem dX9_strangerNote_119 : decode cX9_strangerNote 119 = .ok (.iload 4, 2) := by decide +kernel
theorem dX9_strangerNote_121 : decode cX9_strangerNote 121 = .ok (.invokestatic 205, 3) := by decide +kernel
theorem dX9_strangerNote_124 : decode cX9_strangerNote 124 = .ok (.ifCond .eq 17, 3) := by decide +kernel
theorem dX9_strangerNote_127 : decode cX9_strangerNote 127 = .ok (.iload_n 3, 1) := by decide +kernel
theorem dX9_strangerNote_128 : decode cX9_strangerNote 128 = .ok (.invokestatic 202, 3) := by decide +kernel
theorem dX9_strangerNote_131 : decode cX9_strangerNote 131 = .ok (.ifCond .eq 10, 3) := by decide +kernel
theorem dX9_strangerNote_134 : decode cX9_strangerNote 134 = .ok (.iload 5, 2) := by decide +kernel
theorem dX9_strangerNote_136 : decode cX9_strangerNote 136 = .ok (.ifCond .eq 5, 3) := by decide +kernel
theorem dX9_strangerNote_139 : decode cX9_strangerNote 139 = .ok (.iconst 5, 1) := by decide +kernel
theorem dX9_strangerNote_140 : decode cX9_strangerNote 140 = .ok (.ireturn, 1) := by decide +kernel
theorem dX9_strangerNote_141 : decode cX9_strangerNote 141 = .ok (.iload 4, 2) := by decide +kernel
theorem dX9_strangerNote_143 : decode cX9_strangerNote 143 = .ok (.invokestatic 202, 3) := by decide +kernel
theorem dX9_strangerNote_146 : decode cX9_strangerNote 146 = .ok (.ifCond .eq 20, 3) := by decide +kernel
theorem dX9_strangerNote_149 : decode cX9_strangerNote 149 = .ok (.iload_n 3, 1) := by decide +kernel
theorem dX9_strangerNote_150 : decode cX9_strangerNote 150 = .ok (.invokestatic 205, 3) := by decide +kernel
theorem dX9_strangerNote_153 : decode cX9_strangerNote 153 = .ok (.ifCond .eq 13, 3) := by decide +kernel
theorem dX9_strangerNote_156 : decode cX9_strangerNote 156 = .ok (.iload 5, 2) := by decide +kernel
theorem dX9_strangerNote_158 : decode cX9_strangerNote 158 = .ok (.ifCond .eq 8, 3) := by decide +kernel
theorem dX9_strangerNote_161 : decode cX9_strangerNote 161 = .ok (.bipush 6, 2) := by decide +kernel
theorem dX9_strangerNote_163 : decode cX9_strangerNote 163 = .ok (.goto 5, 3) := by decide +kernel
theorem dX9_strangerNote_166 : decode cX9_strangerNote 166 = .ok (.bipush 7, 2) := by decide +kernel
theorem dX9_strangerNote_168 : decode cX9_strangerNote 168 = .ok (.ireturn, 1) := by decide +kernel
theorem dX9_isStep_0 : decode cX9_isStep 0 = .ok (.iload_n 0, 1) := by decide +kernel
theorem dX9_isStep_1 : decode cX9_isStep 1 = .ok (.ifCond .eq 14, 3) := by decide +kernel
theorem dX9_isStep_4 : decode cX9_isStep 4 = .ok (.iload_n 0, 1) := by decide +kernel
theorem dX9_isStep_5 : decode cX9_isStep 5 = .ok (.invokestatic 205, 3) := by decide +kernel
theorem dX9_isStep_8 : decode cX9_isStep 8 = .ok (.ifCond .ne 7, 3) := by decide +kernel
theorem dX9_isStep_11 : decode cX9_isStep 11 = .ok (.iconst 1, 1) := by decide +kernel
theorem dX9_isStep_12 : decode cX9_isStep 12 = .ok (.goto 4, 3) := by decide +kernel
theorem dX9_isStep_15 : decode cX9_isStep 15 = .ok (.iconst 0, 1) := by decide +kernel
theorem dX9_isStep_16 : decode cX9_isStep 16 = .ok (.ireturn, 1) := by decide +kernel
theorem dX9_isLeap_0 : decode cX9_isLeap 0 = .ok (.iload_n 0, 1) := by decide +kernel
theorem dX9_isLeap_1 : decode cX9_isLeap 1 = .ok (.iconst 2, 1) := by decide +kernel
theorem dX9_isLeap_2 : decode cX9_isLeap 2 = .ok (.if_icmp .gt 9, 3) := by decide +kernel
theorem dX9_isLeap_5 : decode cX9_isLeap 5 = .ok (.iload_n 0, 1) := by decide +kernel
theorem dX9_isLeap_6 : decode cX9_isLeap 6 = .ok (.bipush (-2), 2) := by decide +kernel
theorem dX9_isLeap_8 : decode cX9_isLeap 8 = .ok (.if_icmp .ge 7, 3) := by decide +kernel
theorem dX9_isLeap_11 : decode cX9_isLeap 11 = .ok (.iconst 1, 1) := by decide +kernel
theorem dX9_isLeap_12 : decode cX9_isLeap 12 = .ok (.goto 4, 3) := by decide +kernel
theorem dX9_isLeap_15 : decode cX9_isLeap 15 = .ok (.iconst 0, 1) := by decide +kernel
theorem dX9_isLeap_16 : decode cX9_isLeap 16 = .ok (.ireturn, 1) := by decide +kernel
theorem dX10_init_0 : decode cX10_init 0 = .ok (.aload_n 0, 1) := by decide +kernel
theorem dX10_init_1 : decode cX10_init 1 = .ok (.invokespecial 1, 3) := by decide +kernel
theorem dX10_init_4 : decode cX10_init 4 = .ok (.aload_n 0, 1) := by decide +kernel
theorem dX10_init_5 : decode cX10_init 5 = .ok (.iconst 4, 1) := by decide +kernel
theorem dX10_init_6 : decode cX10_init 6 = .ok (.newarray .int, 2) := by decide +kernel
theorem dX10_init_8 : decode cX10_init 8 = .ok (.putfield 7, 3) := by decide +kernel
theorem dX10_init_11 : decode cX10_init 11 = .ok (.aload_n 0, 1) := by decide +kernel
theorem dX10_init_12 : decode cX10_init 12 = .ok (.sipush 800, 3) := by decide +kernel
theorem dX10_init_15 : decode cX10_init 15 = .ok (.newarray .int, 2) := by decide +kernel
theorem dX10_init_17 : decode cX10_init 17 = .ok (.putfield 13, 3) := by decide +kernel
theorem dX10_init_20 : decode cX10_init 20 = .ok (.aload_n 0, 1) := by decide +kernel
theorem dX10_init_21 : decode cX10_init 21 = .ok (.bipush 24, 2) := by decide +kernel
theorem dX10_init_23 : decode cX10_init 23 = .ok (.newarray .int, 2) := by decide +kernel
theorem dX10_init_25 : decode cX10_init 25 = .ok (.putfield 16, 3) := by decide +kernel
theorem dX10_init_28 : decode cX10_init 28 = .ok (.aload_n 0, 1) := by decide +kernel
theorem dX10_init_29 : decode cX10_init 29 = .ok (.bipush 24, 2) := by decide +kernel
theorem dX10_init_31 : decode cX10_init 31 = .ok (.newarray .int, 2) := by decide +kernel
theorem dX10_init_33 : decode cX10_init 33 = .ok (.putfield 19, 3) := by decide +kernel
theorem dX10_init_36 : decode cX10_init 36 = .ok (.aload_n 0, 1) := by decide +kernel
theorem dX10_init_37 : decode cX10_init 37 = .ok (.bipush 24, 2) := by decide +kernel
theorem dX10_init_39 : decode cX10_init 39 = .ok (.newarray .int, 2) := by decide +kernel
theorem dX10_init_41 : decode cX10_init 41 = .ok (.putfield 22, 3) := by decide +kernel
theorem dX10_init_44 : decode cX10_init 44 = .ok (.aload_n 0, 1) := by decide +kernel
theorem dX10_init_45 : decode cX10_init 45 = .ok (.bipush 60, 2) := by decide +kernel
theorem dX10_init_47 : decode cX10_init 47 = .ok (.newarray .int, 2) := by decide +kernel
theorem dX10_init_49 : decode cX10_init 49 = .ok (.putfield 25, 3) := by decide +kernel
theorem dX10_init_52 : decode cX10_init 52 = .ok (.aload_n 0, 1) := by decide +kernel
theorem dX10_init_53 : decode cX10_init 53 = .ok (.bipush 60, 2) := by decide +kernel
theorem dX10_init_55 : decode cX10_init 55 = .ok (.newarray .int, 2) := by decide +kernel
theorem dX10_init_57 : decode cX10_init 57 = .ok (.putfield 28, 3) := by decide +kernel
theorem dX10_init_60 : decode cX10_init 60 = .ok (.aload_n 0, 1) := by decide +kernel
theorem dX10_init_61 : decode cX10_init 61 = .ok (.bipush 60, 2) := by decide +kernel
theorem dX10_init_63 : decode cX10_init 63 = .ok (.newarray .int, 2) := by decide +kernel
theorem dX10_init_65 : decode cX10_init 65 = .ok (.putfield 31, 3) := by decide +kernel
theorem dX10_init_68 : decode cX10_init 68 = .ok (.aload_n 0, 1) := by decide +kernel
theorem dX10_init_69 : decode cX10_init 69 = .ok (.bipush 60, 2) := by decide +kernel
theorem dX10_init_71 : decode cX10_init 71 = .ok (.newarray .int, 2) := by decide +kernel
theorem dX10_init_73 : decode cX10_init 73 = .ok (.putfield 34, 3) := by decide +kernel
theorem dX10_init_76 : decode cX10_init 76 = .ok (.aload_n 0, 1) := by decide +kernel
theorem dX10_init_77 : decode cX10_init 77 = .ok (.bipush 61, 2) := by decide +kernel
theorem dX10_init_79 : decode cX10_init 79 = .ok (.newarray .int, 2) := by decide +kernel
theorem dX10_init_81 : decode cX10_init 81 = .ok (.putfield 37, 3) := by decide +kernel
theorem dX10_init_84 : decode cX10_init 84 = .ok (.aload_n 0, 1) := by decide +kernel
theorem dX10_init_85 : decode cX10_init 85 = .ok (.bipush 61, 2) := by decide +kernel
theorem dX10_init_87 : decode cX10_init 87 = .ok (.newarray .int, 2) := by decide +kernel
theorem dX10_init_89 : decode cX10_init 89 = .ok (.putfield 40, 3) := by decide +kernel
theorem dX10_init_92 : decode cX10_init 92 = .ok (.aload_n 0, 1) := by decide +kernel
theorem dX10_init_93 : decode cX10_init 93 = .ok (.bipush 61, 2) := by decide +kernel
theorem dX10_init_95 : decode cX10_init 95 = .ok (.newarray .int, 2) := by decide +kernel
theorem dX10_init_97 : decode cX10_init 97 = .ok (.putfield 43, 3) := by decide +kernel
theorem dX10_init_100 : decode cX10_init 100 = .ok (.aload_n 0, 1) := by decide +kernel
theorem dX10_init_101 : decode cX10_init 101 = .ok (.bipush 61, 2) := by decide +kernel
theorem dX10_init_103 : decode cX10_init 103 = .ok (.newarray .int, 2) := by decide +kernel
theorem dX10_init_105 : decode cX10_init 105 = .ok (.putfield 46, 3) := by decide +kernel
theorem dX10_init_108 : decode cX10_init 108 = .ok (.aload_n 0, 1) := by decide +kernel
theorem dX10_init_109 : decode cX10_init 109 = .ok (.bipush 61, 2) := by decide +kernel
theorem dX10_init_111 : decode cX10_init 111 = .ok (.newarray .int, 2) := by decide +kernel
theorem dX10_init_113 : decode cX10_init 113 = .ok (.putfield 49, 3) := by decide +kernel
theorem dX10_init_116 : decode cX10_init 116 = .ok (.aload_n 0, 1) := by decide +kernel
theorem dX10_init_117 : decode cX10_init 117 = .ok (.sipush 676, 3) := by decide +kernel
theorem dX10_init_120 : decode cX10_init 120 = .ok (.newarray .boolean, 2) := by decide +kernel
theorem dX10_init_122 : decode cX10_init 122 = .ok (.putfield 52, 3) := by decide +kernel
theorem dX10_init_125 : decode cX10_init 125 = .ok (.aload_n 0, 1) := by decide +kernel
theorem dX10_init_126 : decode cX10_init 126 = .ok (.bipush 60, 2) := by decide +kernel
theorem dX10_init_128 : decode cX10_init 128 = .ok (.newarray .int, 2) := by decide +kernel
theorem dX10_init_130 : decode cX10_init 130 = .ok (.putfield 56, 3) := by decide +kernel
theorem dX10_init_133 : decode cX10_init 133 = .ok (.aload_n 0, 1) := by decide +kernel
theorem dX10_init_134 : decode cX10_init 134 = .ok (.bipush 60, 2) := by decide +kernel
theorem dX10_init_136 : decode cX10_init 136 = .ok (.newarray .int, 2) := by decide +kernel
theorem dX10_init_138 : decode cX10_init 138 = .ok (.putfield 59, 3) := by decide +kernel
theorem dX10_init_141 : decode cX10_init 141 = .ok (.aload_n 0, 1) := by decide +kernel
theorem dX10_init_142 : decode cX10_init 142 = .ok (.bipush 60, 2) := by decide +kernel
theorem dX10_init_144 : decode cX10_init 144 = .ok (.newarray .int, 2) := by decide +kernel
theorem dX10_init_146 : decode cX10_init 146 = .ok (.putfield 62, 3) := by decide +kernel
theorem dX10_init_149 : decode cX10_init 149 = .ok (.aload_n 0, 1) := by decide +kernel
theorem dX10_init_150 : decode cX10_init 150 = .ok (.bipush 60, 2) := by decide +kernel
theorem dX10_init_152 : decode cX10_init 152 = .ok (.newarray .int, 2) := by decide +kernel
theorem dX10_init_154 : decode cX10_init 154 = .ok (.putfield 65, 3) := by decide +kernel
theorem dX10_init_157 : decode cX10_init 157 = .ok (.aload_n 0, 1) := by decide +kernel
theorem dX10_init_158 : decode cX10_init 158 = .ok (.bipush 24, 2) := by decide +kernel
theorem dX10_init_160 : decode cX10_init 160 = .ok (.newarray .int, 2) := by decide +kernel
theorem dX10_init_162 : decode cX10_init 162 = .ok (.putfield 68, 3) := by decide +kernel
theorem dX10_init_165 : decode cX10_init 165 = .ok (.aload_n 0, 1) := by decide +kernel
theorem dX10_init_166 : decode cX10_init 166 = .ok (.sipush 1920, 3) := by decide +kernel
theorem dX10_init_169 : decode cX10_init 169 = .ok (.newarray .int, 2) := by decide +kernel
theorem dX10_init_171 : decode cX10_init 171 = .ok (.putfield 71, 3) := by decide +kernel
theorem dX10_init_174 : decode cX10_init 174 = .ok (.aload_n 0, 1) := by decide +kernel
theorem dX10_init_175 : decode cX10_init 175 = .ok (.sipush 1920, 3) := by decide +kernel
theorem dX10_init_178 : decode cX10_init 178 = .ok (.newarray .int, 2) := by decide +kernel
theorem dX10_init_180 : decode cX10_init 180 = .ok (.putfield 74, 3) := by decide +kernel
theorem dX10_init_183 : decode cX10_init 183 = .ok (.aload_n 0, 1) := by decide +kernel
theorem dX10_init_184 : decode cX10_init 184 = .ok (.sipush 7800, 3) := by decide +kernel
theorem dX10_init_187 : decode cX10_init 187 = .ok (.newarray .int, 2) := by decide +kernel
theorem dX10_init_189 : decode cX10_init 189 = .ok (.putfield 77, 3) := by decide +kernel
theorem dX10_init_192 : decode cX10_init 192 = .ok (.aload_n 0, 1) := by decide +kernel
theorem dX10_init_193 : decode cX10_init 193 = .ok (.sipush 7800, 3) := by decide +kernel
theorem dX10_init_196 : decode cX10_init 196 = .ok (.newarray .long, 2) := by decide +kernel
theorem dX10_init_198 : decode cX10_init 198 = .ok (.putfield 80, 3) := by decide +kernel
theorem dX10_init_201 : decode cX10_init 201 = .ok (.aload_n 0, 1) := by decide +kernel
theorem dX10_init_202 : decode cX10_init 202 = .ok (.ldc 84, 2) := by decide +kernel
theorem dX10_init_204 : decode cX10_init 204 = .ok (.newarray .int, 2) := by decide +kernel
theorem dX10_init_206 : decode cX10_init 206 = .ok (.putfield 85, 3) := by decide +kernel
theorem dX10_init_209 : decode cX10_init 209 = .ok (.aload_n 0, 1) := by decide +kernel
theorem dX10_init_210 : decode cX10_init 210 = .ok (.ldc 84, 2) := by decide +kernel
theorem dX10_init_212 : decode cX10_init 212 = .ok (.newarray .int, 2) := by decide +kernel
theorem dX10_init_214 : decode cX10_init 214 = .ok (.putfield 88, 3) := by decide +kernel
theorem dX10_init_217 : decode cX10_init 217 = .ok (.aload_n 0, 1) := by decide +kernel
theorem dX10_init_218 : decode cX10_init 218 = .ok (.bipush 26, 2) := by decide +kernel
theorem dX10_init_220 : decode cX10_init 220 = .ok (.newarray .int, 2) := by decide +kernel
theorem dX10_init_222 : decode cX10_init 222 = .ok (.putfield 91, 3) := by decide +kernel
theorem dX10_init_225 : decode cX10_init 225 = .ok (.aload_n 0, 1) := by decide +kernel
theorem dX10_init_226 : decode cX10_init 226 = .ok (.bipush 64, 2) := by decide +kernel
theorem dX10_init_228 : decode cX10_init 228 = .ok (.newarray .int, 2) := by decide +kernel
theorem dX10_init_230 : decode cX10_init 230 = .ok (.putfield 94, 3) := by decide +kernel
theorem dX10_init_233 : decode cX10_init 233 = .ok (.aload_n 0, 1) := by decide +kernel
theorem dX10_init_234 : decode cX10_init 234 = .ok (.bipush 64, 2) := by decide +kernel
theorem dX10_init_236 : decode cX10_init 236 = .ok (.newarray .int, 2) := by decide +kernel
theorem dX10_init_238 : decode cX10_init 238 = .ok (.putfield 97, 3) := by decide +kernel
theorem dX10_init_241 : decode cX10_init 241 = .ok (.aload_n 0, 1) := by decide +kernel
theorem dX10_init_242 : decode cX10_init 242 = .ok (.bipush 64, 2) := by decide +kernel
theorem dX10_init_244 : decode cX10_init 244 = .ok (.newarray .int, 2) := by decide +kernel
theorem dX10_init_246 : decode cX10_init 246 = .ok (.putfield 100, 3) := by decide +kernel
theorem dX10_init_249 : decode cX10_init 249 = .ok (.aload_n 0, 1) := by decide +kernel
theorem dX10_init_250 : decode cX10_init 250 = .ok (.bipush 64, 2) := by decide +kernel
theorem dX10_init_252 : decode cX10_init 252 = .ok (.newarray .int, 2) := by decide +kernel
theorem dX10_init_254 : decode cX10_init 254 = .ok (.putfield 103, 3) := by decide +kernel
theorem dX10_init_257 : decode cX10_init 257 = .ok (.aload_n 0, 1) := by decide +kernel
theorem dX10_init_258 : decode cX10_init 258 = .ok (.getfield 7, 3) := by decide +kernel
theorem dX10_init_261 : decode cX10_init 261 = .ok (.iconst 0, 1) := by decide +kernel
theorem dX10_init_262 : decode cX10_init 262 = .ok (.iconst 4, 1) := by decide +kernel
theorem dX10_init_263 : decode cX10_init 263 = .ok (.iastore, 1) := by decide +kernel
theorem dX10_init_264 : decode cX10_init 264 = .ok (.aload_n 0, 1) := by decide +kernel
theorem dX10_init_265 : decode cX10_init 265 = .ok (.getfield 7, 3) := by decide +kernel
theorem dX10_init_268 : decode cX10_init 268 = .ok (.iconst 1, 1) := by decide +kernel
theorem dX10_init_269 : decode cX10_init 269 = .ok (.iconst 3, 1) := by decide +kernel
theorem dX10_init_270 : decode cX10_init 270 = .ok (.iastore, 1) := by decide +kernel
theorem dX10_init_271 : decode cX10_init 271 = .ok (.aload_n 0, 1) := by decide +kernel
theorem dX10_init_272 : decode cX10_init 272 = .ok (.getfield 7, 3) := by decide +kernel
theorem dX10_init_275 : decode cX10_init 275 = .ok (.iconst 2, 1) := by decide +kernel
theorem dX10_init_276 : decode cX10_init 276 = .ok (.iconst 1, 1) := by decide +kernel
theorem dX10_init_277 : decode cX10_init 277 = .ok (.iastore, 1) := by decide +kernel
theorem dX10_init_278 : decode cX10_init 278 = .ok (.aload_n 0, 1) := by decide +kernel
theorem dX10_init_279 : decode cX10_init 279 = .ok (.getfield 7, 3) := by decide +kernel
theorem dX10_init_282 : decode cX10_init 282 = .ok (.iconst 3, 1) := by decide +kernel
theorem dX10_init_283 : decode cX10_init 283 = .ok (.iconst 5, 1) := by decide +kernel
theorem dX10_init_284 : decode cX10_init 284 = .ok (.iastore, 1) := by decide +kernel
theorem dX10_init_285 : decode cX10_init 285 = .ok (.return_, 1) := by decide +kernel
theorem dX10_thrown_0 : decode cX10_thrown 0 = .ok (.aload_n 0, 1) := by decide +kernel
theorem dX10_thrown_1 : decode cX10_thrown 1 = .ok (.getfield 106, 3) := by decide +kernel
theorem dX10_thrown_4 : decode cX10_thrown 4 = .ok (.ireturn, 1) := by decide +kernel
theorem dX10_key_0 : decode cX10_key 0 = .ok (.aload_n 0, 1) := by decide +kernel
theorem dX10_key_1 : decode cX10_key 1 = .ok (.iconst 0, 1) := by decide +kernel
theorem dX10_key_2 : decode cX10_key 2 = .ok (.putfield 106, 3) := by decide +kernel
theorem dX10_key_5 : decode cX10_key 5 = .ok (.iload_n 1, 1) := by decide +kernel
theorem dX10_key_6 : decode cX10_key 6 = .ok (.ifCond .lt 9, 3) := by decide +kernel
theorem dX10_key_9 : decode cX10_key 9 = .ok (.iload_n 1, 1) := by decide +kernel
theorem dX10_key_10 : decode cX10_key 10 = .ok (.bipush 11, 2) := by decide +kernel
theorem dX10_key_12 : decode cX10_key 12 = .ok (.if_icmp .le 5, 3) := by decide +kernel
theorem dX10_key_15 : decode cX10_key 15 = .ok (.iconst 0, 1) := by decide +kernel
theorem dX10_key_16 : decode cX10_key 16 = .ok (.ireturn, 1) := by decide +kernel
theorem dX10_key_17 : decode cX10_key 17 = .ok (.aload_n 0, 1) := by decide +kernel
theorem dX10_key_18 : decode cX10_key 18 = .ok (.iload_n 1, 1) := by decide +kernel
theorem dX10_key_19 : decode cX10_key 19 = .ok (.putfield 110, 3) := by decide +kernel
theorem dX10_key_22 : decode cX10_key 22 = .ok (.aload_n 0, 1) := by decide +kernel
theorem dX10_key_23 : decode cX10_key 23 = .ok (.iload_n 2, 1) := by decide +kernel
theorem dX10_key_24 : decode cX10_key 24 = .ok (.putfield 113, 3) := by decide +kernel
theorem dX10_key_27 : decode cX10_key 27 = .ok (.iconst 1, 1) := by decide +kernel
theorem dX10_key_28 : decode cX10_key 28 = .ok (.ireturn, 1) := by decide +kernel
theorem dX10_cost_0 : decode cX10_cost 0 = .ok (.aload_n 0, 1) := by decide +kernel
theorem dX10_cost_1 : decode cX10_cost 1 = .ok (.iconst 0, 1) := by decide +kernel
theorem dX10_cost_2 : decode cX10_cost 2 = .ok (.putfield 106, 3) := by decide +kernel
theorem dX10_cost_5 : decode cX10_cost 5 = .ok (.iload_n 1, 1) := by decide +kernel
theorem dX10_cost_6 : decode cX10_cost 6 = .ok (.ifCond .lt 19, 3) := by decide +kernel
theorem dX10_cost_9 : decode cX10_cost 9 = .ok (.iload_n 1, 1) := by decide +kernel
theorem dX10_cost_10 : decode cX10_cost 10 = .ok (.iconst 3, 1) := by decide +kernel
theorem dX10_cost_11 : decode cX10_cost 11 = .ok (.if_icmp .gt 14, 3) := by decide +kernel
theorem dX10_cost_14 : decode cX10_cost 14 = .ok (.iload_n 2, 1) := by decide +kernel
theorem dX10_cost_15 : decode cX10_cost 15 = .ok (.ifCond .lt 10, 3) := by decide +kernel
theorem dX10_cost_18 : decode cX10_cost 18 = .ok (.iload_n 2, 1) := by decide +kernel
theorem dX10_cost_19 : decode cX10_cost 19 = .ok (.sipush 1000, 3) := by decide +kernel
theorem dX10_cost_22 : decode cX10_cost 22 = .ok (.if_icmp .le 5, 3) := by decide +kernel
theorem dX10_cost_25 : decode cX10_cost 25 = .ok (.iconst 0, 1) := by decide +kernel
theorem dX10_cost_26 : decode cX10_cost 26 = .ok (.ireturn, 1) := by decide +kernel
theorem dX10_cost_27 : decode cX10_cost 27 = .ok (.aload_n 0, 1) := by decide +kernel
theorem dX10_cost_28 : decode cX10_cost 28 = .ok (.getfield 7, 3) := by decide +kernel
theorem dX10_cost_31 : decode cX10_cost 31 = .ok (.iload_n 1, 1) := by decide +kernel
theorem dX10_cost_32 : decode cX10_cost 32 = .ok (.iload_n 2, 1) := by decide +kernel
theorem dX10_cost_33 : decode cX10_cost 33 = .ok (.iastore, 1) := by decide +kernel
theorem dX10_cost_34 : decode cX10_cost 34 = .ok (.iconst 1, 1) := by decide +kernel
theorem dX10_cost_35 : decode cX10_cost 35 = .ok (.ireturn, 1) := by decide +kernel
theorem dX10_draft_0 : decode cX10_draft 0 = .ok (.aload_n 0, 1) := by decide +kernel
theorem dX10_draft_1 : decode cX10_draft 1 = .ok (.iconst 0, 1) := by decide +kernel
theorem dX10_draft_2 : decode cX10_draft 2 = .ok (.putfield 106, 3) := by decide +kernel
theorem dX10_draft_5 : decode cX10_draft 5 = .ok (.iload_n 1, 1) := by decide +kernel
theorem dX10_draft_6 : decode cX10_draft 6 = .ok (.iconst 1, 1) := by decide +kernel
theorem dX10_draft_7 : decode cX10_draft 7 = .ok (.if_icmp .lt 21, 3) := by decide +kernel
theorem dX10_draft_10 : decode cX10_draft 10 = .ok (.iload_n 1, 1) := by decide +kernel
theorem dX10_draft_11 : decode cX10_draft 11 = .ok (.bipush 8, 2) := by decide +kernel
theorem dX10_draft_13 : decode cX10_draft 13 = .ok (.if_icmp .gt 15, 3) := by decide +kernel
theorem dX10_draft_16 : decode cX10_draft 16 = .ok (.aload_n 0, 1) := by decide +kernel
theorem dX10_draft_17 : decode cX10_draft 17 = .ok (.getfield 117, 3) := by decide +kernel
theorem dX10_draft_20 : decode cX10_draft 20 = .ok (.iload_n 1, 1) := by decide +kernel
theorem dX10_draft_21 : decode cX10_draft 21 = .ok (.iadd, 1) := by decide +kernel
theorem dX10_draft_22 : decode cX10_draft 22 = .ok (.sipush 800, 3) := by decide +kernel
theorem dX10_draft_25 : decode cX10_draft 25 = .ok (.if_icmp .le 5, 3) := by decide +kernel
theorem dX10_draft_28 : decode cX10_draft 28 = .ok (.iconst (-1), 1) := by decide +kernel
theorem dX10_draft_29 : decode cX10_draft 29 = .ok (.ireturn, 1) := by decide +kernel
theorem dX10_draft_30 : decode cX10_draft 30 = .ok (.iconst 0, 1) := by decide +kernel
theorem dX10_draft_31 : decode cX10_draft 31 = .ok (.istore 4, 2) := by decide +kernel
theorem dX10_draft_33 : decode cX10_draft 33 = .ok (.iload 4, 2) := by decide +kernel
theorem dX10_draft_35 : decode cX10_draft 35 = .ok (.iload_n 1, 1) := by decide +kernel
theorem dX10_draft_36 : decode cX10_draft 36 = .ok (.if_icmp .ge 40, 3) := by decide +kernel
theorem dX10_draft_39 : decode cX10_draft 39 = .ok (.aload_n 0, 1) := by decide +kernel
theorem dX10_draft_40 : decode cX10_draft 40 = .ok (.getfield 13, 3) := by decide +kernel
theorem dX10_draft_43 : decode cX10_draft 43 = .ok (.aload_n 0, 1) := by decide +kernel
theorem dX10_draft_44 : decode cX10_draft 44 = .ok (.getfield 117, 3) := by decide +kernel
theorem dX10_draft_47 : decode cX10_draft 47 = .ok (.lload_n 2, 1) := by decide +kernel
theorem dX10_draft_48 : decode cX10_draft 48 = .ok (.bipush 8, 2) := by decide +kernel
theorem dX10_draft_50 : decode cX10_draft 50 = .ok (.iload 4, 2) := by decide +kernel
theorem dX10_draft_52 : decode cX10_draft 52 = .ok (.imul, 1) := by decide +kernel
theorem dX10_draft_53 : decode cX10_draft 53 = .ok (.lshr, 1) := by decide +kernel
theorem dX10_draft_54 : decode cX10_draft 54 = .ok (.ldc2_w 120, 3) := by decide +kernel
theorem dX10_draft_57 : decode cX10_draft 57 = .ok (.land, 1) := by decide +kernel
theorem dX10_draft_58 : decode cX10_draft 58 = .ok (.l2i, 1) := by decide +kernel
theorem dX10_draft_59 : decode cX10_draft 59 = .ok (.iastore, 1) := by decide +kernel
theorem dX10_draft_60 : decode cX10_draft 60 = .ok (.aload_n 0, 1) := by decide +kernel
theorem dX10_draft_61 : decode cX10_draft 61 = .ok (.dup, 1) := by decide +kernel
theorem dX10_draft_62 : decode cX10_draft 62 = .ok (.getfield 117, 3) := by decide +kernel
theorem dX10_draft_65 : decode cX10_draft 65 = .ok (.iconst 1, 1) := by decide +kernel
theorem dX10_draft_66 : decode cX10_draft 66 = .ok (.iadd, 1) := by decide +kernel
theorem dX10_draft_67 : decode cX10_draft 67 = .ok (.putfield 117, 3) := by decide +kernel
theorem dX10_draft_70 : decode cX10_draft 70 = .ok (.iinc 4 1, 3) := by decide +kernel
theorem dX10_draft_73 : decode cX10_draft 73 = .ok (.goto (-40), 3) := by decide +kernel
theorem dX10_draft_76 : decode cX10_draft 76 = .ok (.aload_n 0, 1) := by decide +kernel
theorem dX10_draft_77 : decode cX10_draft 77 = .ok (.getfield 117, 3) := by decide +kernel
theorem dX10_draft_80 : decode cX10_draft 80 = .ok (.ireturn, 1) := by decide +kernel
theorem dX10_here_0 : decode cX10_here 0 = .ok (.aload_n 0, 1) := by decide +kernel
theorem dX10_here_1 : decode cX10_here 1 = .ok (.getfield 122, 3) := by decide +kernel
theorem dX10_here_4 : decode cX10_here 4 = .ok (.aload_n 0, 1) := by decide +kernel
theorem dX10_here_5 : decode cX10_here 5 = .ok (.getfield 117, 3) := by decide +kernel
theorem dX10_here_8 : decode cX10_here 8 = .ok (.if_icmp .ge 15, 3) := by decide +kernel
theorem dX10_here_11 : decode cX10_here 11 = .ok (.aload_n 0, 1) := by decide +kernel
theorem dX10_here_12 : decode cX10_here 12 = .ok (.getfield 13, 3) := by decide +kernel
theorem dX10_here_15 : decode cX10_here 15 = .ok (.aload_n 0, 1) := by decide +kernel
theorem dX10_here_16 : decode cX10_here 16 = .ok (.getfield 122, 3) := by decide +kernel
theorem dX10_here_19 : decode cX10_here 19 = .ok (.iaload, 1) := by decide +kernel
theorem dX10_here_20 : decode cX10_here 20 = .ok (.goto 4, 3) := by decide +kernel
theorem dX10_here_23 : decode cX10_here 23 = .ok (.iconst (-1), 1) := by decide +kernel
theorem dX10_here_24 : decode cX10_here 24 = .ok (.ireturn, 1) := by decide +kernel
theorem dX10_blanks_0 : decode cX10_blanks 0 = .ok (.aload_n 0, 1) := by decide +kernel
theorem dX10_blanks_1 : decode cX10_blanks 1 = .ok (.invokevirtual 125, 3) := by decide +kernel
theorem dX10_blanks_4 : decode cX10_blanks 4 = .ok (.bipush 32, 2) := by decide +kernel
theorem dX10_blanks_6 : decode cX10_blanks 6 = .ok (.if_icmp .ne 16, 3) := by decide +kernel
theorem dX10_blanks_9 : decode cX10_blanks 9 = .ok (.aload_n 0, 1) := by decide +kernel
theorem dX10_blanks_10 : decode cX10_blanks 10 = .ok (.dup, 1) := by decide +kernel
theorem dX10_blanks_11 : decode cX10_blanks 11 = .ok (.getfield 122, 3) := by decide +kernel
theorem dX10_blanks_14 : decode cX10_blanks 14 = .ok (.iconst 1, 1) := by decide +kernel
theorem dX10_blanks_15 : decode cX10_blanks 15 = .ok (.iadd, 1) := by decide +kernel
theorem dX10_blanks_16 : decode cX10_blanks 16 = .ok (.putfield 122, 3) := by decide +kernel
theorem dX10_blanks_19 : decode cX10_blanks 19 = .ok (.goto (-19), 3) := by decide +kernel
theorem dX10_blanks_22 : decode cX10_blanks 22 = .ok (.return_, 1) := by decide +kernel
theorem dX10_stop_0 : decode cX10_stop 0 = .ok (.aload_n 0, 1) := by decide +kernel
theorem dX10_stop_1 : decode cX10_stop 1 = .ok (.aload_n 0, 1) := by decide +kernel
theorem dX10_stop_2 : decode cX10_stop 2 = .ok (.getfield 129, 3) := by decide +kernel
theorem dX10_stop_5 : decode cX10_stop 5 = .ok (.ifCond .ge 7, 3) := by decide +kernel
theorem dX10_stop_8 : decode cX10_stop 8 = .ok (.iload_n 1, 1) := by decide +kernel
theorem dX10_stop_9 : decode cX10_stop 9 = .ok (.goto 7, 3) := by decide +kernel
theorem dX10_stop_12 : decode cX10_stop 12 = .ok (.aload_n 0, 1) := by decide +kernel
theorem dX10_stop_13 : decode cX10_stop 13 = .ok (.getfield 129, 3) := by decide +kernel
theorem dX10_stop_16 : decode cX10_stop 16 = .ok (.putfield 129, 3) := by decide +kernel
theorem dX10_stop_19 : decode cX10_stop 19 = .ok (.return_, 1) := by decide +kernel
theorem dX10_isName_0 : decode cX10_isName 0 = .ok (.iload_n 0, 1) := by decide +kernel
theorem dX10_isName_1 : decode cX10_isName 1 = .ok (.bipush 65, 2) := by decide +kernel
theorem dX10_isName_3 : decode cX10_isName 3 = .ok (.if_icmp .lt 13, 3) := by decide +kernel
theorem dX10_isName_6 : decode cX10_isName 6 = .ok (.iload_n 0, 1) := by decide +kernel
theorem dX10_isName_7 : decode cX10_isName 7 = .ok (.bipush 90, 2) := by decide +kernel
theorem dX10_isName_9 : decode cX10_isName 9 = .ok (.if_icmp .gt 7, 3) := by decide +kernel
theorem dX10_isName_12 : decode cX10_isName 12 = .ok (.iconst 1, 1) := by decide +kernel
theorem dX10_isName_13 : decode cX10_isName 13 = .ok (.goto 4, 3) := by decide +kernel
theorem dX10_isName_16 : decode cX10_isName 16 = .ok (.iconst 0, 1) := by decide +kernel
theorem dX10_isName_17 : decode cX10_isName 17 = .ok (.ireturn, 1) := by decide +kernel
theorem dX10_isDegree_0 : decode cX10_isDegree 0 = .ok (.iload_n 0, 1) := by decide +kernel
theorem dX10_isDegree_1 : decode cX10_isDegree 1 = .ok (.bipush 49, 2) := by decide +kernel
theorem dX10_isDegree_3 : decode cX10_isDegree 3 = .ok (.if_icmp .lt 13, 3) := by decide +kernel
theorem dX10_isDegree_6 : decode cX10_isDegree 6 = .ok (.iload_n 0, 1) := by decide +kernel
theorem dX10_isDegree_7 : decode cX10_isDegree 7 = .ok (.bipush 55, 2) := by decide +kernel
theorem dX10_isDegree_9 : decode cX10_isDegree 9 = .ok (.if_icmp .gt 7, 3) := by decide +kernel
theorem dX10_isDegree_12 : decode cX10_isDegree 12 = .ok (.iconst 1, 1) := by decide +kernel
theorem dX10_isDegree_13 : decode cX10_isDegree 13 = .ok (.goto 4, 3) := by decide +kernel
theorem dX10_isDegree_16 : decode cX10_isDegree 16 = .ok (.iconst 0, 1) := by decide +kernel
theorem dX10_isDegree_17 : decode cX10_isDegree 17 = .ok (.ireturn, 1) := by decide +kernel
theorem dX10_kindOf_0 : decode cX10_kindOf 0 = .ok (.iload_n 0, 1) := by decide +kernel
theorem dX10_kindOf_1 : decode cX10_kindOf 1 = .ok (.lookupswitch 104 #[(77, 83), (97, 89), (100, 87), (104, 98), (106, 93), (109, 85), (110, 95), (111, 101), (115, 91)], 83) := by decide +kernel
theorem dX10_kindOf_84 : decode cX10_kindOf 84 = .ok (.iconst 0, 1) := by decide +kernel
theorem dX10_kindOf_85 : decode cX10_kindOf 85 = .ok (.ireturn, 1) := by decide +kernel
theorem dX10_kindOf_86 : decode cX10_kindOf 86 = .ok (.iconst 1, 1) := by decide +kernel
theorem dX10_kindOf_87 : decode cX10_kindOf 87 = .ok (.ireturn, 1) := by decide +kernel
theorem dX10_kindOf_88 : decode cX10_kindOf 88 = .ok (.iconst 2, 1) := by decide +kernel
theorem dX10_kindOf_89 : decode cX10_kindOf 89 = .ok (.ireturn, 1) := by decide +kernel
theorem dX10_kindOf_90 : decode cX10_kindOf 90 = .ok (.iconst 3, 1) := by decide +kernel
theorem dX10_kindOf_91 : decode cX10_kindOf 91 = .ok (.ireturn, 1) := by decide +kernel
theorem dX10_kindOf_92 : decode cX10_kindOf 92 = .ok (.iconst 4, 1) := by decide +kernel
theorem dX10_kindOf_93 : decode cX10_kindOf 93 = .ok (.ireturn, 1) := by decide +kernel
theorem dX10_kindOf_94 : decode cX10_kindOf 94 = .ok (.iconst 5, 1) := by decide +kernel
theorem dX10_kindOf_95 : decode cX10_kindOf 95 = .ok (.ireturn, 1) := by decide +kernel
theorem dX10_kindOf_96 : decode cX10_kindOf 96 = .ok (.bipush 6, 2) := by decide +kernel
theorem dX10_kindOf_98 : decode cX10_kindOf 98 = .ok (.ireturn, 1) := by decide +kernel
theorem dX10_kindOf_99 : decode cX10_kindOf 99 = .ok (.bipush 7, 2) := by decide +kernel
theorem dX10_kindOf_101 : decode cX10_kindOf 101 = .ok (.ireturn, 1) := by decide +kernel
theorem dX10_kindOf_102 : decode cX10_kindOf 102 = .ok (.bipush 8, 2) := by decide +kernel
theorem dX10_kindOf_104 : decode cX10_kindOf 104 = .ok (.ireturn, 1) := by decide +kernel
theorem dX10_kindOf_105 : decode cX10_kindOf 105 = .ok (.iconst (-1), 1) := by decide +kernel
theorem dX10_kindOf_106 : decode cX10_kindOf 106 = .ok (.ireturn, 1) := by decide +kernel
theorem dX10_item_0 : decode cX10_item 0 = .ok (.aload_n 0, 1) := by decide +kernel
theorem dX10_item_1 : decode cX10_item 1 = .ok (.invokevirtual 125, 3) := by decide +kernel
theorem dX10_item_4 : decode cX10_item 4 = .ok (.istore_n 1, 1) := by decide +kernel
theorem dX10_item_5 : decode cX10_item 5 = .ok (.aload_n 0, 1) := by decide +kernel
theorem dX10_item_6 : decode cX10_item 6 = .ok (.dup, 1) := by decide +kernel
theorem dX10_item_7 : decode cX10_item 7 = .ok (.getfield 122, 3) := by decide +kernel
theorem dX10_item_10 : decode cX10_item 10 = .ok (.iconst 1, 1) := by decide +kernel
theorem dX10_item_11 : decode cX10_item 11 = .ok (.iadd, 1) := by decide +kernel
theorem dX10_item_12 : decode cX10_item 12 = .ok (.putfield 122, 3) := by decide +kernel
theorem dX10_item_15 : decode cX10_item 15 = .ok (.iload_n 1, 1) := by decide +kernel
theorem dX10_item_16 : decode cX10_item 16 = .ok (.invokestatic 132, 3) := by decide +kernel
theorem dX10_item_19 : decode cX10_item 19 = .ok (.ifCond .eq 8, 3) := by decide +kernel
theorem dX10_item_22 : decode cX10_item 22 = .ok (.iload_n 1, 1) := by decide +kernel
theorem dX10_item_23 : decode cX10_item 23 = .ok (.bipush 65, 2) := by decide +kernel
theorem dX10_item_25 : decode cX10_item 25 = .ok (.isub, 1) := by decide +kernel
theorem dX10_item_26 : decode cX10_item 26 = .ok (.ireturn, 1) := by decide +kernel
theorem dX10_item_27 : decode cX10_item 27 = .ok (.aload_n 0, 1) := by decide +kernel
theorem dX10_item_28 : decode cX10_item 28 = .ok (.invokevirtual 125, 3) := by decide +kernel
theorem dX10_item_31 : decode cX10_item 31 = .ok (.invokestatic 136, 3) := by decide +kernel
theorem dX10_item_34 : decode cX10_item 34 = .ok (.istore_n 2, 1) := by decide +kernel
theorem dX10_item_35 : decode cX10_item 35 = .ok (.aload_n 0, 1) := by decide +kernel
theorem dX10_item_36 : decode cX10_item 36 = .ok (.dup, 1) := by decide +kernel
theorem dX10_item_37 : decode cX10_item 37 = .ok (.getfield 122, 3) := by decide +kernel
theorem dX10_item_40 : decode cX10_item 40 = .ok (.iload_n 2, 1) := by decide +kernel
theorem dX10_item_41 : decode cX10_item 41 = .ok (.ifCond .lt 7, 3) := by decide +kernel
theorem dX10_item_44 : decode cX10_item 44 = .ok (.iconst 1, 1) := by decide +kernel
theorem dX10_item_45 : decode cX10_item 45 = .ok (.goto 4, 3) := by decide +kernel
theorem dX10_item_48 : decode cX10_item 48 = .ok (.iconst 0, 1) := by decide +kernel
theorem dX10_item_49 : decode cX10_item 49 = .ok (.iadd, 1) := by decide +kernel
theorem dX10_item_50 : decode cX10_item 50 = .ok (.putfield 122, 3) := by decide +kernel
theorem dX10_item_53 : decode cX10_item 53 = .ok (.bipush 100, 2) := by decide +kernel
theorem dX10_item_55 : decode cX10_item 55 = .ok (.bipush 10, 2) := by decide +kernel
theorem dX10_item_57 : decode cX10_item 57 = .ok (.iload_n 1, 1) := by decide +kernel
theorem dX10_item_58 : decode cX10_item 58 = .ok (.bipush 48, 2) := by decide +kernel
theorem dX10_item_60 : decode cX10_item 60 = .ok (.isub, 1) := by decide +kernel
theorem dX10_item_61 : decode cX10_item 61 = .ok (.imul, 1) := by decide +kernel
theorem dX10_item_62 : decode cX10_item 62 = .ok (.iadd, 1) := by decide +kernel
theorem dX10_item_63 : decode cX10_item 63 = .ok (.iload_n 2, 1) := by decide +kernel
theorem dX10_item_64 : decode cX10_item 64 = .ok (.iadd, 1) := by decide +kernel
theorem dX10_item_65 : decode cX10_item 65 = .ok (.iconst 1, 1) := by decide +kernel
theorem dX10_item_66 : decode cX10_item 66 = .ok (.iadd, 1) := by decide +kernel
theorem dX10_item_67 : decode cX10_item 67 = .ok (.ireturn, 1) := by decide +kernel
theorem dX10_isItem_0 : decode cX10_isItem 0 = .ok (.aload_n 0, 1) := by decide +kernel
theorem dX10_isItem_1 : decode cX10_isItem 1 = .ok (.invokevirtual 125, 3) := by decide +kernel
theorem dX10_isItem_4 : decode cX10_isItem 4 = .ok (.invokestatic 132, 3) := by decide +kernel
theorem dX10_isItem_7 : decode cX10_isItem 7 = .ok (.ifCond .ne 13, 3) := by decide +kernel
theorem dX10_isItem_10 : decode cX10_isItem 10 = .ok (.aload_n 0, 1) := by decide +kernel
theorem dX10_isItem_11 : decode cX10_isItem 11 = .ok (.invokevirtual 125, 3) := by decide +kernel
theorem dX10_isItem_14 : decode cX10_isItem 14 = .ok (.invokestatic 140, 3) := by decide +kernel
theorem dX10_isItem_17 : decode cX10_isItem 17 = .ok (.ifCond .eq 7, 3) := by decide +kernel
theorem dX10_isItem_20 : decode cX10_isItem 20 = .ok (.iconst 1, 1) := by decide +kernel
theorem dX10_isItem_21 : decode cX10_isItem 21 = .ok (.goto 4, 3) := by decide +kernel
theorem dX10_isItem_24 : decode cX10_isItem 24 = .ok (.iconst 0, 1) := by decide +kernel
theorem dX10_isItem_25 : decode cX10_isItem 25 = .ok (.ireturn, 1) := by decide +kernel
theorem dX10_figures_0 : decode cX10_figures 0 = .ok (.iconst 0, 1) := by decide +kernel
theorem dX10_figures_1 : decode cX10_figures 1 = .ok (.istore_n 1, 1) := by decide +kernel
theorem dX10_figures_2 : decode cX10_figures 2 = .ok (.iconst 0, 1) := by decide +kernel
theorem dX10_figures_3 : decode cX10_figures 3 = .ok (.istore_n 2, 1) := by decide +kernel
theorem dX10_figures_4 : decode cX10_figures 4 = .ok (.aload_n 0, 1) := by decide +kernel
theorem dX10_figures_5 : decode cX10_figures 5 = .ok (.getfield 129, 3) := by decide +kernel
theorem dX10_figures_8 : decode cX10_figures 8 = .ok (.ifCond .ge 66, 3) := by decide +kernel
theorem dX10_figures_11 : decode cX10_figures 11 = .ok (.aload_n 0, 1) := by decide +kernel
theorem dX10_figures_12 : decode cX10_figures 12 = .ok (.invokevirtual 125, 3) := by decide +kernel
theorem dX10_figures_15 : decode cX10_figures 15 = .ok (.bipush 48, 2) := by decide +kernel
theorem dX10_figures_17 : decode cX10_figures 17 = .ok (.if_icmp .lt 57, 3) := by decide +kernel
theorem dX10_figures_20 : decode cX10_figures 20 = .ok (.aload_n 0, 1) := by decide +kernel
theorem dX10_figures_21 : decode cX10_figures 21 = .ok (.invokevirtual 125, 3) := by decide +kernel
theorem dX10_figures_24 : decode cX10_figures 24 = .ok (.bipush 57, 2) := by decide +kernel
theorem dX10_figures_26 : decode cX10_figures 26 = .ok (.if_icmp .gt 48, 3) := by decide +kernel
theorem dX10_figures_29 : decode cX10_figures 29 = .ok (.iload_n 2, 1) := by decide +kernel
theorem dX10_figures_30 : decode cX10_figures 30 = .ok (.iconst 3, 1) := by decide +kernel
theorem dX10_figures_31 : decode cX10_figures 31 = .ok (.if_icmp .ne 14, 3) := by decide +kernel
theorem dX10_figures_34 : decode cX10_figures 34 = .ok (.aload_n 0, 1) := by decide +kernel
theorem dX10_figures_35 : decode cX10_figures 35 = .ok (.aload_n 0, 1) := by decide +kernel
theorem dX10_figures_36 : decode cX10_figures 36 = .ok (.getfield 122, 3) := by decide +kernel
theorem dX10_figures_39 : decode cX10_figures 39 = .ok (.invokevirtual 143, 3) := by decide +kernel
theorem dX10_figures_42 : decode cX10_figures 42 = .ok (.goto (-38), 3) := by decide +kernel
theorem dX10_figures_45 : decode cX10_figures 45 = .ok (.bipush 10, 2) := by decide +kernel
