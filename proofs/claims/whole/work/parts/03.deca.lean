theorem dX0_init_0 : decode cX0_init 0 = .ok (.aload_n 0, 1) := by decide +kernel
theorem dX0_init_1 : decode cX0_init 1 = .ok (.invokespecial 3, 3) := by decide +kernel
theorem dX0_init_4 : decode cX0_init 4 = .ok (.aload_n 0, 1) := by decide +kernel
theorem dX0_init_5 : decode cX0_init 5 = .ok (.new 9, 3) := by decide +kernel
theorem dX0_init_8 : decode cX0_init 8 = .ok (.dup, 1) := by decide +kernel
theorem dX0_init_9 : decode cX0_init 9 = .ok (.invokespecial 11, 3) := by decide +kernel
theorem dX0_init_12 : decode cX0_init 12 = .ok (.putfield 12, 3) := by decide +kernel
theorem dX0_init_15 : decode cX0_init 15 = .ok (.aload_n 0, 1) := by decide +kernel
theorem dX0_init_16 : decode cX0_init 16 = .ok (.new 18, 3) := by decide +kernel
theorem dX0_init_19 : decode cX0_init 19 = .ok (.dup, 1) := by decide +kernel
theorem dX0_init_20 : decode cX0_init 20 = .ok (.invokespecial 20, 3) := by decide +kernel
theorem dX0_init_23 : decode cX0_init 23 = .ok (.putfield 21, 3) := by decide +kernel
theorem dX0_init_26 : decode cX0_init 26 = .ok (.aload_n 0, 1) := by decide +kernel
theorem dX0_init_27 : decode cX0_init 27 = .ok (.bipush 24, 2) := by decide +kernel
theorem dX0_init_29 : decode cX0_init 29 = .ok (.newarray .int, 2) := by decide +kernel
theorem dX0_init_31 : decode cX0_init 31 = .ok (.putfield 25, 3) := by decide +kernel
theorem dX0_init_34 : decode cX0_init 34 = .ok (.aload_n 0, 1) := by decide +kernel
theorem dX0_init_35 : decode cX0_init 35 = .ok (.sipush 7800, 3) := by decide +kernel
theorem dX0_init_38 : decode cX0_init 38 = .ok (.newarray .long, 2) := by decide +kernel
theorem dX0_init_40 : decode cX0_init 40 = .ok (.putfield 29, 3) := by decide +kernel
theorem dX0_init_43 : decode cX0_init 43 = .ok (.aload_n 0, 1) := by decide +kernel
theorem dX0_init_44 : decode cX0_init 44 = .ok (.sipush 7800, 3) := by decide +kernel
theorem dX0_init_47 : decode cX0_init 47 = .ok (.newarray .int, 2) := by decide +kernel
theorem dX0_init_49 : decode cX0_init 49 = .ok (.putfield 33, 3) := by decide +kernel
theorem dX0_init_52 : decode cX0_init 52 = .ok (.aload_n 0, 1) := by decide +kernel
theorem dX0_init_53 : decode cX0_init 53 = .ok (.ldc 36, 2) := by decide +kernel
theorem dX0_init_55 : decode cX0_init 55 = .ok (.newarray .long, 2) := by decide +kernel
theorem dX0_init_57 : decode cX0_init 57 = .ok (.putfield 37, 3) := by decide +kernel
theorem dX0_init_60 : decode cX0_init 60 = .ok (.aload_n 0, 1) := by decide +kernel
theorem dX0_init_61 : decode cX0_init 61 = .ok (.iconst 0, 1) := by decide +kernel
theorem dX0_init_62 : decode cX0_init 62 = .ok (.putfield 40, 3) := by decide +kernel
theorem dX0_init_65 : decode cX0_init 65 = .ok (.return_, 1) := by decide +kernel
theorem dX0_listAll_0 : decode cX0_listAll 0 = .ok (.aload_n 0, 1) := by decide +kernel
theorem dX0_listAll_1 : decode cX0_listAll 1 = .ok (.getfield 12, 3) := by decide +kernel
theorem dX0_listAll_4 : decode cX0_listAll 4 = .ok (.aload_n 1, 1) := by decide +kernel
theorem dX0_listAll_5 : decode cX0_listAll 5 = .ok (.invokevirtual 44, 3) := by decide +kernel
theorem dX0_listAll_8 : decode cX0_listAll 8 = .ok (.aload_n 0, 1) := by decide +kernel
theorem dX0_listAll_9 : decode cX0_listAll 9 = .ok (.aload_n 2, 1) := by decide +kernel
theorem dX0_listAll_10 : decode cX0_listAll 10 = .ok (.getfield 48, 3) := by decide +kernel
theorem dX0_listAll_13 : decode cX0_listAll 13 = .ok (.putfield 40, 3) := by decide +kernel
theorem dX0_listAll_16 : decode cX0_listAll 16 = .ok (.aload_n 2, 1) := by decide +kernel
theorem dX0_listAll_17 : decode cX0_listAll 17 = .ok (.getfield 53, 3) := by decide +kernel
theorem dX0_listAll_20 : decode cX0_listAll 20 = .ok (.iconst 0, 1) := by decide +kernel
theorem dX0_listAll_21 : decode cX0_listAll 21 = .ok (.aload_n 0, 1) := by decide +kernel
theorem dX0_listAll_22 : decode cX0_listAll 22 = .ok (.getfield 25, 3) := by decide +kernel
theorem dX0_listAll_25 : decode cX0_listAll 25 = .ok (.iconst 0, 1) := by decide +kernel
theorem dX0_listAll_26 : decode cX0_listAll 26 = .ok (.bipush 24, 2) := by decide +kernel
theorem dX0_listAll_28 : decode cX0_listAll 28 = .ok (.invokestatic 54, 3) := by decide +kernel
theorem dX0_listAll_31 : decode cX0_listAll 31 = .ok (.aload_n 0, 1) := by decide +kernel
theorem dX0_listAll_32 : decode cX0_listAll 32 = .ok (.getfield 21, 3) := by decide +kernel
theorem dX0_listAll_35 : decode cX0_listAll 35 = .ok (.aload_n 2, 1) := by decide +kernel
theorem dX0_listAll_36 : decode cX0_listAll 36 = .ok (.aload_n 3, 1) := by decide +kernel
theorem dX0_listAll_37 : decode cX0_listAll 37 = .ok (.aload 4, 2) := by decide +kernel
theorem dX0_listAll_39 : decode cX0_listAll 39 = .ok (.invokevirtual 60, 3) := by decide +kernel
theorem dX0_listAll_42 : decode cX0_listAll 42 = .ok (.iconst 0, 1) := by decide +kernel
theorem dX0_listAll_43 : decode cX0_listAll 43 = .ok (.istore 5, 2) := by decide +kernel
theorem dX0_listAll_45 : decode cX0_listAll 45 = .ok (.iload 5, 2) := by decide +kernel
theorem dX0_listAll_47 : decode cX0_listAll 47 = .ok (.aload_n 0, 1) := by decide +kernel
theorem dX0_listAll_48 : decode cX0_listAll 48 = .ok (.getfield 40, 3) := by decide +kernel
theorem dX0_listAll_51 : decode cX0_listAll 51 = .ok (.if_icmp .ge 32, 3) := by decide +kernel
theorem dX0_listAll_54 : decode cX0_listAll 54 = .ok (.iload 5, 2) := by decide +kernel
theorem dX0_listAll_56 : decode cX0_listAll 56 = .ok (.istore 6, 2) := by decide +kernel
theorem dX0_listAll_58 : decode cX0_listAll 58 = .ok (.iload 6, 2) := by decide +kernel
theorem dX0_listAll_60 : decode cX0_listAll 60 = .ok (.ifCond .lt 17, 3) := by decide +kernel
theorem dX0_listAll_63 : decode cX0_listAll 63 = .ok (.aload_n 0, 1) := by decide +kernel
theorem dX0_listAll_64 : decode cX0_listAll 64 = .ok (.iload 6, 2) := by decide +kernel
theorem dX0_listAll_66 : decode cX0_listAll 66 = .ok (.iload 5, 2) := by decide +kernel
theorem dX0_listAll_68 : decode cX0_listAll 68 = .ok (.invokevirtual 64, 3) := by decide +kernel
theorem dX0_listAll_71 : decode cX0_listAll 71 = .ok (.iinc 6 (-1), 3) := by decide +kernel
theorem dX0_listAll_74 : decode cX0_listAll 74 = .ok (.goto (-16), 3) := by decide +kernel
theorem dX0_listAll_77 : decode cX0_listAll 77 = .ok (.iinc 5 1, 3) := by decide +kernel
theorem dX0_listAll_80 : decode cX0_listAll 80 = .ok (.goto (-35), 3) := by decide +kernel
theorem dX0_listAll_83 : decode cX0_listAll 83 = .ok (.return_, 1) := by decide +kernel
theorem dX0_fillSpan_0 : decode cX0_fillSpan 0 = .ok (.iconst 0, 1) := by decide +kernel
theorem dX0_fillSpan_1 : decode cX0_fillSpan 1 = .ok (.istore_n 3, 1) := by decide +kernel
theorem dX0_fillSpan_2 : decode cX0_fillSpan 2 = .ok (.iload_n 3, 1) := by decide +kernel
theorem dX0_fillSpan_3 : decode cX0_fillSpan 3 = .ok (.bipush 26, 2) := by decide +kernel
theorem dX0_fillSpan_5 : decode cX0_fillSpan 5 = .ok (.if_icmp .ge 33, 3) := by decide +kernel
theorem dX0_fillSpan_8 : decode cX0_fillSpan 8 = .ok (.aload_n 0, 1) := by decide +kernel
theorem dX0_fillSpan_9 : decode cX0_fillSpan 9 = .ok (.getfield 29, 3) := by decide +kernel
theorem dX0_fillSpan_12 : decode cX0_fillSpan 12 = .ok (.iload_n 3, 1) := by decide +kernel
theorem dX0_fillSpan_13 : decode cX0_fillSpan 13 = .ok (.iload_n 1, 1) := by decide +kernel
theorem dX0_fillSpan_14 : decode cX0_fillSpan 14 = .ok (.iload_n 2, 1) := by decide +kernel
theorem dX0_fillSpan_15 : decode cX0_fillSpan 15 = .ok (.invokestatic 68, 3) := by decide +kernel
theorem dX0_fillSpan_18 : decode cX0_fillSpan 18 = .ok (.lconst 0, 1) := by decide +kernel
theorem dX0_fillSpan_19 : decode cX0_fillSpan 19 = .ok (.lastore, 1) := by decide +kernel
theorem dX0_fillSpan_20 : decode cX0_fillSpan 20 = .ok (.aload_n 0, 1) := by decide +kernel
theorem dX0_fillSpan_21 : decode cX0_fillSpan 21 = .ok (.getfield 33, 3) := by decide +kernel
theorem dX0_fillSpan_24 : decode cX0_fillSpan 24 = .ok (.iload_n 3, 1) := by decide +kernel
theorem dX0_fillSpan_25 : decode cX0_fillSpan 25 = .ok (.iload_n 1, 1) := by decide +kernel
theorem dX0_fillSpan_26 : decode cX0_fillSpan 26 = .ok (.iload_n 2, 1) := by decide +kernel
theorem dX0_fillSpan_27 : decode cX0_fillSpan 27 = .ok (.invokestatic 68, 3) := by decide +kernel
theorem dX0_fillSpan_30 : decode cX0_fillSpan 30 = .ok (.iconst 0, 1) := by decide +kernel
theorem dX0_fillSpan_31 : decode cX0_fillSpan 31 = .ok (.iastore, 1) := by decide +kernel
theorem dX0_fillSpan_32 : decode cX0_fillSpan 32 = .ok (.iinc 3 1, 3) := by decide +kernel
theorem dX0_fillSpan_35 : decode cX0_fillSpan 35 = .ok (.goto (-33), 3) := by decide +kernel
theorem dX0_fillSpan_38 : decode cX0_fillSpan 38 = .ok (.iconst 0, 1) := by decide +kernel
theorem dX0_fillSpan_39 : decode cX0_fillSpan 39 = .ok (.istore_n 3, 1) := by decide +kernel
theorem dX0_fillSpan_40 : decode cX0_fillSpan 40 = .ok (.iload_n 3, 1) := by decide +kernel
theorem dX0_fillSpan_41 : decode cX0_fillSpan 41 = .ok (.aload_n 0, 1) := by decide +kernel
theorem dX0_fillSpan_42 : decode cX0_fillSpan 42 = .ok (.getfield 12, 3) := by decide +kernel
theorem dX0_fillSpan_45 : decode cX0_fillSpan 45 = .ok (.getfield 72, 3) := by decide +kernel
theorem dX0_fillSpan_48 : decode cX0_fillSpan 48 = .ok (.if_icmp .ge 72, 3) := by decide +kernel
theorem dX0_fillSpan_51 : decode cX0_fillSpan 51 = .ok (.aload_n 0, 1) := by decide +kernel
theorem dX0_fillSpan_52 : decode cX0_fillSpan 52 = .ok (.getfield 12, 3) := by decide +kernel
theorem dX0_fillSpan_55 : decode cX0_fillSpan 55 = .ok (.getfield 75, 3) := by decide +kernel
theorem dX0_fillSpan_58 : decode cX0_fillSpan 58 = .ok (.iload_n 3, 1) := by decide +kernel
theorem dX0_fillSpan_59 : decode cX0_fillSpan 59 = .ok (.iaload, 1) := by decide +kernel
theorem dX0_fillSpan_60 : decode cX0_fillSpan 60 = .ok (.istore 4, 2) := by decide +kernel
theorem dX0_fillSpan_62 : decode cX0_fillSpan 62 = .ok (.aload_n 0, 1) := by decide +kernel
theorem dX0_fillSpan_63 : decode cX0_fillSpan 63 = .ok (.getfield 12, 3) := by decide +kernel
theorem dX0_fillSpan_66 : decode cX0_fillSpan 66 = .ok (.getfield 78, 3) := by decide +kernel
theorem dX0_fillSpan_69 : decode cX0_fillSpan 69 = .ok (.iload 4, 2) := by decide +kernel
theorem dX0_fillSpan_71 : decode cX0_fillSpan 71 = .ok (.iaload, 1) := by decide +kernel
theorem dX0_fillSpan_72 : decode cX0_fillSpan 72 = .ok (.iconst (-1), 1) := by decide +kernel
theorem dX0_fillSpan_73 : decode cX0_fillSpan 73 = .ok (.if_icmp .ne 14, 3) := by decide +kernel
theorem dX0_fillSpan_76 : decode cX0_fillSpan 76 = .ok (.aload_n 0, 1) := by decide +kernel
theorem dX0_fillSpan_77 : decode cX0_fillSpan 77 = .ok (.iload 4, 2) := by decide +kernel
theorem dX0_fillSpan_79 : decode cX0_fillSpan 79 = .ok (.iload_n 1, 1) := by decide +kernel
theorem dX0_fillSpan_80 : decode cX0_fillSpan 80 = .ok (.iload_n 2, 1) := by decide +kernel
theorem dX0_fillSpan_81 : decode cX0_fillSpan 81 = .ok (.invokevirtual 81, 3) := by decide +kernel
theorem dX0_fillSpan_84 : decode cX0_fillSpan 84 = .ok (.goto 30, 3) := by decide +kernel
theorem dX0_fillSpan_87 : decode cX0_fillSpan 87 = .ok (.iconst 1, 1) := by decide +kernel
theorem dX0_fillSpan_88 : decode cX0_fillSpan 88 = .ok (.istore 5, 2) := by decide +kernel
theorem dX0_fillSpan_90 : decode cX0_fillSpan 90 = .ok (.iload 5, 2) := by decide +kernel
theorem dX0_fillSpan_92 : decode cX0_fillSpan 92 = .ok (.iload_n 2, 1) := by decide +kernel
theorem dX0_fillSpan_93 : decode cX0_fillSpan 93 = .ok (.iload_n 1, 1) := by decide +kernel
theorem dX0_fillSpan_94 : decode cX0_fillSpan 94 = .ok (.isub, 1) := by decide +kernel
theorem dX0_fillSpan_95 : decode cX0_fillSpan 95 = .ok (.if_icmp .gt 19, 3) := by decide +kernel
theorem dX0_fillSpan_98 : decode cX0_fillSpan 98 = .ok (.aload_n 0, 1) := by decide +kernel
theorem dX0_fillSpan_99 : decode cX0_fillSpan 99 = .ok (.iload 4, 2) := by decide +kernel
theorem dX0_fillSpan_101 : decode cX0_fillSpan 101 = .ok (.iload_n 1, 1) := by decide +kernel
theorem dX0_fillSpan_102 : decode cX0_fillSpan 102 = .ok (.iload_n 2, 1) := by decide +kernel
theorem dX0_fillSpan_103 : decode cX0_fillSpan 103 = .ok (.iload 5, 2) := by decide +kernel
theorem dX0_fillSpan_105 : decode cX0_fillSpan 105 = .ok (.invokevirtual 85, 3) := by decide +kernel
theorem dX0_fillSpan_108 : decode cX0_fillSpan 108 = .ok (.iinc 5 1, 3) := by decide +kernel
theorem dX0_fillSpan_111 : decode cX0_fillSpan 111 = .ok (.goto (-21), 3) := by decide +kernel
theorem dX0_fillSpan_114 : decode cX0_fillSpan 114 = .ok (.iinc 3 1, 3) := by decide +kernel
theorem dX0_fillSpan_117 : decode cX0_fillSpan 117 = .ok (.goto (-77), 3) := by decide +kernel
theorem dX0_fillSpan_120 : decode cX0_fillSpan 120 = .ok (.return_, 1) := by decide +kernel
theorem dX0_addWhole_0 : decode cX0_addWhole 0 = .ok (.aload_n 0, 1) := by decide +kernel
theorem dX0_addWhole_1 : decode cX0_addWhole 1 = .ok (.getfield 12, 3) := by decide +kernel
theorem dX0_addWhole_4 : decode cX0_addWhole 4 = .ok (.getfield 89, 3) := by decide +kernel
theorem dX0_addWhole_7 : decode cX0_addWhole 7 = .ok (.iload_n 1, 1) := by decide +kernel
theorem dX0_addWhole_8 : decode cX0_addWhole 8 = .ok (.iaload, 1) := by decide +kernel
theorem dX0_addWhole_9 : decode cX0_addWhole 9 = .ok (.iload_n 2, 1) := by decide +kernel
theorem dX0_addWhole_10 : decode cX0_addWhole 10 = .ok (.iload_n 3, 1) := by decide +kernel
theorem dX0_addWhole_11 : decode cX0_addWhole 11 = .ok (.invokestatic 68, 3) := by decide +kernel
theorem dX0_addWhole_14 : decode cX0_addWhole 14 = .ok (.istore 4, 2) := by decide +kernel
theorem dX0_addWhole_16 : decode cX0_addWhole 16 = .ok (.aload_n 0, 1) := by decide +kernel
theorem dX0_addWhole_17 : decode cX0_addWhole 17 = .ok (.getfield 12, 3) := by decide +kernel
theorem dX0_addWhole_20 : decode cX0_addWhole 20 = .ok (.getfield 92, 3) := by decide +kernel
theorem dX0_addWhole_23 : decode cX0_addWhole 23 = .ok (.iload_n 1, 1) := by decide +kernel
theorem dX0_addWhole_24 : decode cX0_addWhole 24 = .ok (.iaload, 1) := by decide +kernel
theorem dX0_addWhole_25 : decode cX0_addWhole 25 = .ok (.istore 5, 2) := by decide +kernel
theorem dX0_addWhole_27 : decode cX0_addWhole 27 = .ok (.aload_n 0, 1) := by decide +kernel
theorem dX0_addWhole_28 : decode cX0_addWhole 28 = .ok (.iload 5, 2) := by decide +kernel
theorem dX0_addWhole_30 : decode cX0_addWhole 30 = .ok (.iload_n 2, 1) := by decide +kernel
theorem dX0_addWhole_31 : decode cX0_addWhole 31 = .ok (.iload_n 3, 1) := by decide +kernel
theorem dX0_addWhole_32 : decode cX0_addWhole 32 = .ok (.invokevirtual 95, 3) := by decide +kernel
theorem dX0_addWhole_35 : decode cX0_addWhole 35 = .ok (.istore 6, 2) := by decide +kernel
theorem dX0_addWhole_37 : decode cX0_addWhole 37 = .ok (.iload 6, 2) := by decide +kernel
theorem dX0_addWhole_39 : decode cX0_addWhole 39 = .ok (.ifCond .ne 4, 3) := by decide +kernel
theorem dX0_addWhole_42 : decode cX0_addWhole 42 = .ok (.return_, 1) := by decide +kernel
theorem dX0_addWhole_43 : decode cX0_addWhole 43 = .ok (.aload_n 0, 1) := by decide +kernel
theorem dX0_addWhole_44 : decode cX0_addWhole 44 = .ok (.getfield 29, 3) := by decide +kernel
theorem dX0_addWhole_47 : decode cX0_addWhole 47 = .ok (.iload 4, 2) := by decide +kernel
theorem dX0_addWhole_49 : decode cX0_addWhole 49 = .ok (.dup2, 1) := by decide +kernel
theorem dX0_addWhole_50 : decode cX0_addWhole 50 = .ok (.laload, 1) := by decide +kernel
theorem dX0_addWhole_51 : decode cX0_addWhole 51 = .ok (.aload_n 0, 1) := by decide +kernel
theorem dX0_addWhole_52 : decode cX0_addWhole 52 = .ok (.iload 5, 2) := by decide +kernel
theorem dX0_addWhole_54 : decode cX0_addWhole 54 = .ok (.iload_n 2, 1) := by decide +kernel
theorem dX0_addWhole_55 : decode cX0_addWhole 55 = .ok (.iload_n 3, 1) := by decide +kernel
theorem dX0_addWhole_56 : decode cX0_addWhole 56 = .ok (.invokevirtual 98, 3) := by decide +kernel
theorem dX0_addWhole_59 : decode cX0_addWhole 59 = .ok (.ladd, 1) := by decide +kernel
theorem dX0_addWhole_60 : decode cX0_addWhole 60 = .ok (.lastore, 1) := by decide +kernel
theorem dX0_addWhole_61 : decode cX0_addWhole 61 = .ok (.iconst 1, 1) := by decide +kernel
theorem dX0_addWhole_62 : decode cX0_addWhole 62 = .ok (.istore 7, 2) := by decide +kernel
theorem dX0_addWhole_64 : decode cX0_addWhole 64 = .ok (.iconst 0, 1) := by decide +kernel
theorem dX0_addWhole_65 : decode cX0_addWhole 65 = .ok (.istore 8, 2) := by decide +kernel
theorem dX0_addWhole_67 : decode cX0_addWhole 67 = .ok (.iload 8, 2) := by decide +kernel
theorem dX0_addWhole_69 : decode cX0_addWhole 69 = .ok (.iload 6, 2) := by decide +kernel
theorem dX0_addWhole_71 : decode cX0_addWhole 71 = .ok (.if_icmp .ge 54, 3) := by decide +kernel
theorem dX0_addWhole_74 : decode cX0_addWhole 74 = .ok (.iload 7, 2) := by decide +kernel
theorem dX0_addWhole_76 : decode cX0_addWhole 76 = .ok (.ifCond .eq 49, 3) := by decide +kernel
theorem dX0_addWhole_79 : decode cX0_addWhole 79 = .ok (.aload_n 0, 1) := by decide +kernel
theorem dX0_addWhole_80 : decode cX0_addWhole 80 = .ok (.getfield 12, 3) := by decide +kernel
theorem dX0_addWhole_83 : decode cX0_addWhole 83 = .ok (.getfield 102, 3) := by decide +kernel
theorem dX0_addWhole_86 : decode cX0_addWhole 86 = .ok (.iload_n 1, 1) := by decide +kernel
theorem dX0_addWhole_87 : decode cX0_addWhole 87 = .ok (.iaload, 1) := by decide +kernel
theorem dX0_addWhole_88 : decode cX0_addWhole 88 = .ok (.aload_n 0, 1) := by decide +kernel
theorem dX0_addWhole_89 : decode cX0_addWhole 89 = .ok (.iload 5, 2) := by decide +kernel
theorem dX0_addWhole_91 : decode cX0_addWhole 91 = .ok (.iload_n 2, 1) := by decide +kernel
theorem dX0_addWhole_92 : decode cX0_addWhole 92 = .ok (.iload_n 3, 1) := by decide +kernel
theorem dX0_addWhole_93 : decode cX0_addWhole 93 = .ok (.iload 8, 2) := by decide +kernel
theorem dX0_addWhole_95 : decode cX0_addWhole 95 = .ok (.invokevirtual 105, 3) := by decide +kernel
theorem dX0_addWhole_98 : decode cX0_addWhole 98 = .ok (.iadd, 1) := by decide +kernel
theorem dX0_addWhole_99 : decode cX0_addWhole 99 = .ok (.istore 9, 2) := by decide +kernel
theorem dX0_addWhole_101 : decode cX0_addWhole 101 = .ok (.aload_n 0, 1) := by decide +kernel
theorem dX0_addWhole_102 : decode cX0_addWhole 102 = .ok (.iload 4, 2) := by decide +kernel
theorem dX0_addWhole_104 : decode cX0_addWhole 104 = .ok (.iload 9, 2) := by decide +kernel
theorem dX0_addWhole_106 : decode cX0_addWhole 106 = .ok (.iload_n 1, 1) := by decide +kernel
theorem dX0_addWhole_107 : decode cX0_addWhole 107 = .ok (.iconst 0, 1) := by decide +kernel
theorem dX0_addWhole_108 : decode cX0_addWhole 108 = .ok (.iload 8, 2) := by decide +kernel
theorem dX0_addWhole_110 : decode cX0_addWhole 110 = .ok (.iconst 0, 1) := by decide +kernel
theorem dX0_addWhole_111 : decode cX0_addWhole 111 = .ok (.invokestatic 109, 3) := by decide +kernel
theorem dX0_addWhole_114 : decode cX0_addWhole 114 = .ok (.invokevirtual 113, 3) := by decide +kernel
theorem dX0_addWhole_117 : decode cX0_addWhole 117 = .ok (.istore 7, 2) := by decide +kernel
theorem dX0_addWhole_119 : decode cX0_addWhole 119 = .ok (.iinc 8 1, 3) := by decide +kernel
theorem dX0_addWhole_122 : decode cX0_addWhole 122 = .ok (.goto (-55), 3) := by decide +kernel
theorem dX0_addWhole_125 : decode cX0_addWhole 125 = .ok (.return_, 1) := by decide +kernel
theorem dX0_addParts_0 : decode cX0_addParts 0 = .ok (.iload_n 2, 1) := by decide +kernel
theorem dX0_addParts_1 : decode cX0_addParts 1 = .ok (.iload 4, 2) := by decide +kernel
theorem dX0_addParts_3 : decode cX0_addParts 3 = .ok (.iadd, 1) := by decide +kernel
theorem dX0_addParts_4 : decode cX0_addParts 4 = .ok (.istore 5, 2) := by decide +kernel
theorem dX0_addParts_6 : decode cX0_addParts 6 = .ok (.aload_n 0, 1) := by decide +kernel
theorem dX0_addParts_7 : decode cX0_addParts 7 = .ok (.getfield 12, 3) := by decide +kernel
theorem dX0_addParts_10 : decode cX0_addParts 10 = .ok (.getfield 92, 3) := by decide +kernel
theorem dX0_addParts_13 : decode cX0_addParts 13 = .ok (.iload_n 1, 1) := by decide +kernel
theorem dX0_addParts_14 : decode cX0_addParts 14 = .ok (.iaload, 1) := by decide +kernel
theorem dX0_addParts_15 : decode cX0_addParts 15 = .ok (.istore 6, 2) := by decide +kernel
theorem dX0_addParts_17 : decode cX0_addParts 17 = .ok (.aload_n 0, 1) := by decide +kernel
theorem dX0_addParts_18 : decode cX0_addParts 18 = .ok (.getfield 12, 3) := by decide +kernel
theorem dX0_addParts_21 : decode cX0_addParts 21 = .ok (.getfield 78, 3) := by decide +kernel
theorem dX0_addParts_24 : decode cX0_addParts 24 = .ok (.iload_n 1, 1) := by decide +kernel
theorem dX0_addParts_25 : decode cX0_addParts 25 = .ok (.iaload, 1) := by decide +kernel
theorem dX0_addParts_26 : decode cX0_addParts 26 = .ok (.istore 7, 2) := by decide +kernel
theorem dX0_addParts_28 : decode cX0_addParts 28 = .ok (.aload_n 0, 1) := by decide +kernel
theorem dX0_addParts_29 : decode cX0_addParts 29 = .ok (.iload 6, 2) := by decide +kernel
theorem dX0_addParts_31 : decode cX0_addParts 31 = .ok (.iload_n 2, 1) := by decide +kernel
theorem dX0_addParts_32 : decode cX0_addParts 32 = .ok (.iload 5, 2) := by decide +kernel
theorem dX0_addParts_34 : decode cX0_addParts 34 = .ok (.iconst 1, 1) := by decide +kernel
theorem dX0_addParts_35 : decode cX0_addParts 35 = .ok (.isub, 1) := by decide +kernel
theorem dX0_addParts_36 : decode cX0_addParts 36 = .ok (.invokevirtual 95, 3) := by decide +kernel
theorem dX0_addParts_39 : decode cX0_addParts 39 = .ok (.istore 8, 2) := by decide +kernel
theorem dX0_addParts_41 : decode cX0_addParts 41 = .ok (.iload 8, 2) := by decide +kernel
theorem dX0_addParts_43 : decode cX0_addParts 43 = .ok (.ifCond .ne 7, 3) := by decide +kernel
theorem dX0_addParts_46 : decode cX0_addParts 46 = .ok (.iconst 0, 1) := by decide +kernel
theorem dX0_addParts_47 : decode cX0_addParts 47 = .ok (.goto 12, 3) := by decide +kernel
theorem dX0_addParts_50 : decode cX0_addParts 50 = .ok (.aload_n 0, 1) := by decide +kernel
theorem dX0_addParts_51 : decode cX0_addParts 51 = .ok (.iload 7, 2) := by decide +kernel
theorem dX0_addParts_53 : decode cX0_addParts 53 = .ok (.iload 5, 2) := by decide +kernel
theorem dX0_addParts_55 : decode cX0_addParts 55 = .ok (.iload_n 3, 1) := by decide +kernel
theorem dX0_addParts_56 : decode cX0_addParts 56 = .ok (.invokevirtual 95, 3) := by decide +kernel
theorem dX0_addParts_59 : decode cX0_addParts 59 = .ok (.istore 9, 2) := by decide +kernel
theorem dX0_addParts_61 : decode cX0_addParts 61 = .ok (.iload 9, 2) := by decide +kernel
theorem dX0_addParts_63 : decode cX0_addParts 63 = .ok (.ifCond .ne 4, 3) := by decide +kernel
theorem dX0_addParts_66 : decode cX0_addParts 66 = .ok (.return_, 1) := by decide +kernel
theorem dX0_addParts_67 : decode cX0_addParts 67 = .ok (.aload_n 0, 1) := by decide +kernel
theorem dX0_addParts_68 : decode cX0_addParts 68 = .ok (.getfield 12, 3) := by decide +kernel
theorem dX0_addParts_71 : decode cX0_addParts 71 = .ok (.getfield 89, 3) := by decide +kernel
theorem dX0_addParts_74 : decode cX0_addParts 74 = .ok (.iload_n 1, 1) := by decide +kernel
theorem dX0_addParts_75 : decode cX0_addParts 75 = .ok (.iaload, 1) := by decide +kernel
theorem dX0_addParts_76 : decode cX0_addParts 76 = .ok (.iload_n 2, 1) := by decide +kernel
theorem dX0_addParts_77 : decode cX0_addParts 77 = .ok (.iload_n 3, 1) := by decide +kernel
theorem dX0_addParts_78 : decode cX0_addParts 78 = .ok (.invokestatic 68, 3) := by decide +kernel
theorem dX0_addParts_81 : decode cX0_addParts 81 = .ok (.istore 10, 2) := by decide +kernel
theorem dX0_addParts_83 : decode cX0_addParts 83 = .ok (.aload_n 0, 1) := by decide +kernel
theorem dX0_addParts_84 : decode cX0_addParts 84 = .ok (.getfield 29, 3) := by decide +kernel
theorem dX0_addParts_87 : decode cX0_addParts 87 = .ok (.iload 10, 2) := by decide +kernel
theorem dX0_addParts_89 : decode cX0_addParts 89 = .ok (.dup2, 1) := by decide +kernel
theorem dX0_addParts_90 : decode cX0_addParts 90 = .ok (.laload, 1) := by decide +kernel
theorem dX0_addParts_91 : decode cX0_addParts 91 = .ok (.aload_n 0, 1) := by decide +kernel
theorem dX0_addParts_92 : decode cX0_addParts 92 = .ok (.iload 6, 2) := by decide +kernel
theorem dX0_addParts_94 : decode cX0_addParts 94 = .ok (.iload_n 2, 1) := by decide +kernel
theorem dX0_addParts_95 : decode cX0_addParts 95 = .ok (.iload 5, 2) := by decide +kernel
theorem dX0_addParts_97 : decode cX0_addParts 97 = .ok (.iconst 1, 1) := by decide +kernel
theorem dX0_addParts_98 : decode cX0_addParts 98 = .ok (.isub, 1) := by decide +kernel
theorem dX0_addParts_99 : decode cX0_addParts 99 = .ok (.invokevirtual 98, 3) := by decide +kernel
theorem dX0_addParts_102 : decode cX0_addParts 102 = .ok (.aload_n 0, 1) := by decide +kernel
theorem dX0_addParts_103 : decode cX0_addParts 103 = .ok (.iload 7, 2) := by decide +kernel
theorem dX0_addParts_105 : decode cX0_addParts 105 = .ok (.iload 5, 2) := by decide +kernel
theorem dX0_addParts_107 : decode cX0_addParts 107 = .ok (.iload_n 3, 1) := by decide +kernel
theorem dX0_addParts_108 : decode cX0_addParts 108 = .ok (.invokevirtual 98, 3) := by decide +kernel
theorem dX0_addParts_111 : decode cX0_addParts 111 = .ok (.lmul, 1) := by decide +kernel
theorem dX0_addParts_112 : decode cX0_addParts 112 = .ok (.ladd, 1) := by decide +kernel
theorem dX0_addParts_113 : decode cX0_addParts 113 = .ok (.lastore, 1) := by decide +kernel
theorem dX0_addParts_114 : decode cX0_addParts 114 = .ok (.iconst 1, 1) := by decide +kernel
theorem dX0_addParts_115 : decode cX0_addParts 115 = .ok (.istore 11, 2) := by decide +kernel
theorem dX0_addParts_117 : decode cX0_addParts 117 = .ok (.iconst 0, 1) := by decide +kernel
theorem dX0_addParts_118 : decode cX0_addParts 118 = .ok (.istore 12, 2) := by decide +kernel
theorem dX0_addParts_120 : decode cX0_addParts 120 = .ok (.iload 12, 2) := by decide +kernel
theorem dX0_addParts_122 : decode cX0_addParts 122 = .ok (.iload 8, 2) := by decide +kernel
theorem dX0_addParts_124 : decode cX0_addParts 124 = .ok (.if_icmp .ge 114, 3) := by decide +kernel
theorem dX0_addParts_127 : decode cX0_addParts 127 = .ok (.iload 11, 2) := by decide +kernel
theorem dX0_addParts_129 : decode cX0_addParts 129 = .ok (.ifCond .eq 109, 3) := by decide +kernel
theorem dX0_addParts_132 : decode cX0_addParts 132 = .ok (.aload_n 0, 1) := by decide +kernel
theorem dX0_addParts_133 : decode cX0_addParts 133 = .ok (.getfield 12, 3) := by decide +kernel
theorem dX0_addParts_136 : decode cX0_addParts 136 = .ok (.getfield 102, 3) := by decide +kernel
theorem dX0_addParts_139 : decode cX0_addParts 139 = .ok (.iload_n 1, 1) := by decide +kernel
theorem dX0_addParts_140 : decode cX0_addParts 140 = .ok (.iaload, 1) := by decide +kernel
theorem dX0_addParts_141 : decode cX0_addParts 141 = .ok (.aload_n 0, 1) := by decide +kernel
theorem dX0_addParts_142 : decode cX0_addParts 142 = .ok (.iload 6, 2) := by decide +kernel
theorem dX0_addParts_144 : decode cX0_addParts 144 = .ok (.iload_n 2, 1) := by decide +kernel
theorem dX0_addParts_145 : decode cX0_addParts 145 = .ok (.iload 5, 2) := by decide +kernel
theorem dX0_addParts_147 : decode cX0_addParts 147 = .ok (.iconst 1, 1) := by decide +kernel
theorem dX0_addParts_148 : decode cX0_addParts 148 = .ok (.isub, 1) := by decide +kernel
theorem dX0_addParts_149 : decode cX0_addParts 149 = .ok (.iload 12, 2) := by decide +kernel
theorem dX0_addParts_151 : decode cX0_addParts 151 = .ok (.invokevirtual 105, 3) := by decide +kernel
theorem dX0_addParts_154 : decode cX0_addParts 154 = .ok (.iadd, 1) := by decide +kernel
theorem dX0_addParts_155 : decode cX0_addParts 155 = .ok (.istore 13, 2) := by decide +kernel
theorem dX0_addParts_157 : decode cX0_addParts 157 = .ok (.iload 9, 2) := by decide +kernel
theorem dX0_addParts_159 : decode cX0_addParts 159 = .ok (.bipush 30, 2) := by decide +kernel
theorem dX0_addParts_161 : decode cX0_addParts 161 = .ok (.iload 12, 2) := by decide +kernel
theorem dX0_addParts_163 : decode cX0_addParts 163 = .ok (.iconst 1, 1) := by decide +kernel
theorem dX0_addParts_164 : decode cX0_addParts 164 = .ok (.iadd, 1) := by decide +kernel
theorem dX0_addParts_165 : decode cX0_addParts 165 = .ok (.idiv, 1) := by decide +kernel
theorem dX0_addParts_166 : decode cX0_addParts 166 = .ok (.invokestatic 117, 3) := by decide +kernel
theorem dX0_addParts_169 : decode cX0_addParts 169 = .ok (.istore 14, 2) := by decide +kernel
theorem dX0_addParts_171 : decode cX0_addParts 171 = .ok (.iconst 0, 1) := by decide +kernel
theorem dX0_addParts_172 : decode cX0_addParts 172 = .ok (.istore 15, 2) := by decide +kernel
theorem dX0_addParts_174 : decode cX0_addParts 174 = .ok (.iload 15, 2) := by decide +kernel
theorem dX0_addParts_176 : decode cX0_addParts 176 = .ok (.iload 14, 2) := by decide +kernel
theorem dX0_addParts_178 : decode cX0_addParts 178 = .ok (.if_icmp .ge 42, 3) := by decide +kernel
theorem dX0_addParts_181 : decode cX0_addParts 181 = .ok (.aload_n 0, 1) := by decide +kernel
theorem dX0_addParts_182 : decode cX0_addParts 182 = .ok (.iload 10, 2) := by decide +kernel
theorem dX0_addParts_184 : decode cX0_addParts 184 = .ok (.iload 13, 2) := by decide +kernel
theorem dX0_addParts_186 : decode cX0_addParts 186 = .ok (.aload_n 0, 1) := by decide +kernel
theorem dX0_addParts_187 : decode cX0_addParts 187 = .ok (.iload 7, 2) := by decide +kernel
theorem dX0_addParts_189 : decode cX0_addParts 189 = .ok (.iload 5, 2) := by decide +kernel
theorem dX0_addParts_191 : decode cX0_addParts 191 = .ok (.iload_n 3, 1) := by decide +kernel
theorem dX0_addParts_192 : decode cX0_addParts 192 = .ok (.iload 15, 2) := by decide +kernel
theorem dX0_addParts_194 : decode cX0_addParts 194 = .ok (.invokevirtual 105, 3) := by decide +kernel
theorem dX0_addParts_197 : decode cX0_addParts 197 = .ok (.iadd, 1) := by decide +kernel
theorem dX0_addParts_198 : decode cX0_addParts 198 = .ok (.iload_n 1, 1) := by decide +kernel
theorem dX0_addParts_199 : decode cX0_addParts 199 = .ok (.iload 4, 2) := by decide +kernel
theorem dX0_addParts_201 : decode cX0_addParts 201 = .ok (.iload 12, 2) := by decide +kernel
theorem dX0_addParts_203 : decode cX0_addParts 203 = .ok (.iload 15, 2) := by decide +kernel
theorem dX0_addParts_205 : decode cX0_addParts 205 = .ok (.invokestatic 109, 3) := by decide +kernel
theorem dX0_addParts_208 : decode cX0_addParts 208 = .ok (.invokevirtual 113, 3) := by decide +kernel
theorem dX0_addParts_211 : decode cX0_addParts 211 = .ok (.ifCond .eq 9, 3) := by decide +kernel
theorem dX0_addParts_214 : decode cX0_addParts 214 = .ok (.iinc 15 1, 3) := by decide +kernel
theorem dX0_addParts_217 : decode cX0_addParts 217 = .ok (.goto (-43), 3) := by decide +kernel
theorem dX0_addParts_220 : decode cX0_addParts 220 = .ok (.iload 15, 2) := by decide +kernel
theorem dX0_addParts_222 : decode cX0_addParts 222 = .ok (.ifCond .le 7, 3) := by decide +kernel
theorem dX0_addParts_225 : decode cX0_addParts 225 = .ok (.iconst 1, 1) := by decide +kernel
theorem dX0_addParts_226 : decode cX0_addParts 226 = .ok (.goto 4, 3) := by decide +kernel
theorem dX0_addParts_229 : decode cX0_addParts 229 = .ok (.iconst 0, 1) := by decide +kernel
theorem dX0_addParts_230 : decode cX0_addParts 230 = .ok (.istore 11, 2) := by decide +kernel
theorem dX0_addParts_232 : decode cX0_addParts 232 = .ok (.iinc 12 1, 3) := by decide +kernel
theorem dX0_addParts_235 : decode cX0_addParts 235 = .ok (.goto (-115), 3) := by decide +kernel
theorem dX0_addParts_238 : decode cX0_addParts 238 = .ok (.return_, 1) := by decide +kernel
theorem dX0_offer_0 : decode cX0_offer 0 = .ok (.iload_n 1, 1) := by decide +kernel
theorem dX0_offer_1 : decode cX0_offer 1 = .ok (.bipush 30, 2) := by decide +kernel
theorem dX0_offer_3 : decode cX0_offer 3 = .ok (.imul, 1) := by decide +kernel
theorem dX0_offer_4 : decode cX0_offer 4 = .ok (.istore 4, 2) := by decide +kernel
theorem dX0_offer_6 : decode cX0_offer 6 = .ok (.aload_n 0, 1) := by decide +kernel
theorem dX0_offer_7 : decode cX0_offer 7 = .ok (.getfield 33, 3) := by decide +kernel
theorem dX0_offer_10 : decode cX0_offer 10 = .ok (.iload_n 1, 1) := by decide +kernel
theorem dX0_offer_11 : decode cX0_offer 11 = .ok (.iaload, 1) := by decide +kernel
theorem dX0_offer_12 : decode cX0_offer 12 = .ok (.istore 5, 2) := by decide +kernel
theorem dX0_offer_14 : decode cX0_offer 14 = .ok (.iload 5, 2) := by decide +kernel
theorem dX0_offer_16 : decode cX0_offer 16 = .ok (.bipush 30, 2) := by decide +kernel
theorem dX0_offer_18 : decode cX0_offer 18 = .ok (.if_icmp .ge 16, 3) := by decide +kernel
theorem dX0_offer_21 : decode cX0_offer 21 = .ok (.aload_n 0, 1) := by decide +kernel
theorem dX0_offer_22 : decode cX0_offer 22 = .ok (.getfield 33, 3) := by decide +kernel
theorem dX0_offer_25 : decode cX0_offer 25 = .ok (.iload_n 1, 1) := by decide +kernel
theorem dX0_offer_26 : decode cX0_offer 26 = .ok (.iload 5, 2) := by decide +kernel
theorem dX0_offer_28 : decode cX0_offer 28 = .ok (.iconst 1, 1) := by decide +kernel
theorem dX0_offer_29 : decode cX0_offer 29 = .ok (.iadd, 1) := by decide +kernel
theorem dX0_offer_30 : decode cX0_offer 30 = .ok (.iastore, 1) := by decide +kernel
theorem dX0_offer_31 : decode cX0_offer 31 = .ok (.goto 24, 3) := by decide +kernel
theorem dX0_offer_34 : decode cX0_offer 34 = .ok (.bipush 29, 2) := by decide +kernel
theorem dX0_offer_36 : decode cX0_offer 36 = .ok (.istore 5, 2) := by decide +kernel
theorem dX0_offer_38 : decode cX0_offer 38 = .ok (.lload_n 2, 1) := by decide +kernel
theorem dX0_offer_39 : decode cX0_offer 39 = .ok (.aload_n 0, 1) := by decide +kernel
theorem dX0_offer_40 : decode cX0_offer 40 = .ok (.getfield 37, 3) := by decide +kernel
theorem dX0_offer_43 : decode cX0_offer 43 = .ok (.iload 4, 2) := by decide +kernel
theorem dX0_offer_45 : decode cX0_offer 45 = .ok (.iload 5, 2) := by decide +kernel
theorem dX0_offer_47 : decode cX0_offer 47 = .ok (.iadd, 1) := by decide +kernel
theorem dX0_offer_48 : decode cX0_offer 48 = .ok (.laload, 1) := by decide +kernel
theorem dX0_offer_49 : decode cX0_offer 49 = .ok (.lcmp, 1) := by decide +kernel
theorem dX0_offer_50 : decode cX0_offer 50 = .ok (.ifCond .lt 5, 3) := by decide +kernel
theorem dX0_offer_53 : decode cX0_offer 53 = .ok (.iconst 0, 1) := by decide +kernel
theorem dX0_offer_54 : decode cX0_offer 54 = .ok (.ireturn, 1) := by decide +kernel
theorem dX0_offer_55 : decode cX0_offer 55 = .ok (.iload 5, 2) := by decide +kernel
theorem dX0_offer_57 : decode cX0_offer 57 = .ok (.ifCond .le 48, 3) := by decide +kernel
theorem dX0_offer_60 : decode cX0_offer 60 = .ok (.aload_n 0, 1) := by decide +kernel
theorem dX0_offer_61 : decode cX0_offer 61 = .ok (.getfield 37, 3) := by decide +kernel
theorem dX0_offer_64 : decode cX0_offer 64 = .ok (.iload 4, 2) := by decide +kernel
theorem dX0_offer_66 : decode cX0_offer 66 = .ok (.iload 5, 2) := by decide +kernel
theorem dX0_offer_68 : decode cX0_offer 68 = .ok (.iadd, 1) := by decide +kernel
theorem dX0_offer_69 : decode cX0_offer 69 = .ok (.iconst 1, 1) := by decide +kernel
theorem dX0_offer_70 : decode cX0_offer 70 = .ok (.isub, 1) := by decide +kernel
theorem dX0_offer_71 : decode cX0_offer 71 = .ok (.laload, 1) := by decide +kernel
theorem dX0_offer_72 : decode cX0_offer 72 = .ok (.lload_n 2, 1) := by decide +kernel
theorem dX0_offer_73 : decode cX0_offer 73 = .ok (.lcmp, 1) := by decide +kernel
theorem dX0_offer_74 : decode cX0_offer 74 = .ok (.ifCond .le 31, 3) := by decide +kernel
theorem dX0_offer_77 : decode cX0_offer 77 = .ok (.aload_n 0, 1) := by decide +kernel
theorem dX0_offer_78 : decode cX0_offer 78 = .ok (.getfield 37, 3) := by decide +kernel
theorem dX0_offer_81 : decode cX0_offer 81 = .ok (.iload 4, 2) := by decide +kernel
theorem dX0_offer_83 : decode cX0_offer 83 = .ok (.iload 5, 2) := by decide +kernel
theorem dX0_offer_85 : decode cX0_offer 85 = .ok (.iadd, 1) := by decide +kernel
theorem dX0_offer_86 : decode cX0_offer 86 = .ok (.aload_n 0, 1) := by decide +kernel
theorem dX0_offer_87 : decode cX0_offer 87 = .ok (.getfield 37, 3) := by decide +kernel
theorem dX0_offer_90 : decode cX0_offer 90 = .ok (.iload 4, 2) := by decide +kernel
theorem dX0_offer_92 : decode cX0_offer 92 = .ok (.iload 5, 2) := by decide +kernel
theorem dX0_offer_94 : decode cX0_offer 94 = .ok (.iadd, 1) := by decide +kernel
theorem dX0_offer_95 : decode cX0_offer 95 = .ok (.iconst 1, 1) := by decide +kernel
theorem dX0_offer_96 : decode cX0_offer 96 = .ok (.isub, 1) := by decide +kernel
theorem dX0_offer_97 : decode cX0_offer 97 = .ok (.laload, 1) := by decide +kernel
theorem dX0_offer_98 : decode cX0_offer 98 = .ok (.lastore, 1) := by decide +kernel
theorem dX0_offer_99 : decode cX0_offer 99 = .ok (.iinc 5 (-1), 3) := by decide +kernel
theorem dX0_offer_102 : decode cX0_offer 102 = .ok (.goto (-47), 3) := by decide +kernel
theorem dX0_offer_105 : decode cX0_offer 105 = .ok (.aload_n 0, 1) := by decide +kernel
theorem dX0_offer_106 : decode cX0_offer 106 = .ok (.getfield 37, 3) := by decide +kernel
theorem dX0_offer_109 : decode cX0_offer 109 = .ok (.iload 4, 2) := by decide +kernel
theorem dX0_offer_111 : decode cX0_offer 111 = .ok (.iload 5, 2) := by decide +kernel
theorem dX0_offer_113 : decode cX0_offer 113 = .ok (.iadd, 1) := by decide +kernel
theorem dX0_offer_114 : decode cX0_offer 114 = .ok (.lload_n 2, 1) := by decide +kernel
theorem dX0_offer_115 : decode cX0_offer 115 = .ok (.lastore, 1) := by decide +kernel
theorem dX0_offer_116 : decode cX0_offer 116 = .ok (.iconst 1, 1) := by decide +kernel
theorem dX0_offer_117 : decode cX0_offer 117 = .ok (.ireturn, 1) := by decide +kernel
theorem dX0_listed_0 : decode cX0_listed 0 = .ok (.aload_n 0, 1) := by decide +kernel
theorem dX0_listed_1 : decode cX0_listed 1 = .ok (.getfield 40, 3) := by decide +kernel
theorem dX0_listed_4 : decode cX0_listed 4 = .ok (.ifCond .ne 7, 3) := by decide +kernel
theorem dX0_listed_7 : decode cX0_listed 7 = .ok (.iconst 0, 1) := by decide +kernel
theorem dX0_listed_8 : decode cX0_listed 8 = .ok (.goto 12, 3) := by decide +kernel
theorem dX0_listed_11 : decode cX0_listed 11 = .ok (.aload_n 0, 1) := by decide +kernel
theorem dX0_listed_12 : decode cX0_listed 12 = .ok (.getfield 33, 3) := by decide +kernel
theorem dX0_listed_15 : decode cX0_listed 15 = .ok (.aload_n 0, 1) := by decide +kernel
theorem dX0_listed_16 : decode cX0_listed 16 = .ok (.invokevirtual 123, 3) := by decide +kernel
theorem dX0_listed_19 : decode cX0_listed 19 = .ok (.iaload, 1) := by decide +kernel
theorem dX0_listed_20 : decode cX0_listed 20 = .ok (.ireturn, 1) := by decide +kernel
theorem dX0_countOfAll_0 : decode cX0_countOfAll 0 = .ok (.aload_n 0, 1) := by decide +kernel
theorem dX0_countOfAll_1 : decode cX0_countOfAll 1 = .ok (.getfield 40, 3) := by decide +kernel
theorem dX0_countOfAll_4 : decode cX0_countOfAll 4 = .ok (.ifCond .ne 7, 3) := by decide +kernel
theorem dX0_countOfAll_7 : decode cX0_countOfAll 7 = .ok (.lconst 0, 1) := by decide +kernel
theorem dX0_countOfAll_8 : decode cX0_countOfAll 8 = .ok (.goto 12, 3) := by decide +kernel
theorem dX0_countOfAll_11 : decode cX0_countOfAll 11 = .ok (.aload_n 0, 1) := by decide +kernel
theorem dX0_countOfAll_12 : decode cX0_countOfAll 12 = .ok (.getfield 29, 3) := by decide +kernel
theorem dX0_countOfAll_15 : decode cX0_countOfAll 15 = .ok (.aload_n 0, 1) := by decide +kernel
theorem dX0_countOfAll_16 : decode cX0_countOfAll 16 = .ok (.invokevirtual 123, 3) := by decide +kernel
theorem dX0_countOfAll_19 : decode cX0_countOfAll 19 = .ok (.laload, 1) := by decide +kernel
theorem dX0_countOfAll_20 : decode cX0_countOfAll 20 = .ok (.lreturn, 1) := by decide +kernel
theorem dX0_priceOfWhole_0 : decode cX0_priceOfWhole 0 = .ok (.aload_n 0, 1) := by decide +kernel
theorem dX0_priceOfWhole_1 : decode cX0_priceOfWhole 1 = .ok (.aload_n 0, 1) := by decide +kernel
theorem dX0_priceOfWhole_2 : decode cX0_priceOfWhole 2 = .ok (.getfield 12, 3) := by decide +kernel
theorem dX0_priceOfWhole_5 : decode cX0_priceOfWhole 5 = .ok (.getfield 89, 3) := by decide +kernel
theorem dX0_priceOfWhole_8 : decode cX0_priceOfWhole 8 = .ok (.iconst 0, 1) := by decide +kernel
theorem dX0_priceOfWhole_9 : decode cX0_priceOfWhole 9 = .ok (.iaload, 1) := by decide +kernel
theorem dX0_priceOfWhole_10 : decode cX0_priceOfWhole 10 = .ok (.iconst 0, 1) := by decide +kernel
theorem dX0_priceOfWhole_11 : decode cX0_priceOfWhole 11 = .ok (.aload_n 0, 1) := by decide +kernel
theorem dX0_priceOfWhole_12 : decode cX0_priceOfWhole 12 = .ok (.getfield 40, 3) := by decide +kernel
theorem dX0_priceOfWhole_15 : decode cX0_priceOfWhole 15 = .ok (.iconst 1, 1) := by decide +kernel
theorem dX0_priceOfWhole_16 : decode cX0_priceOfWhole 16 = .ok (.isub, 1) := by decide +kernel
theorem dX0_priceOfWhole_17 : decode cX0_priceOfWhole 17 = .ok (.iload_n 1, 1) := by decide +kernel
theorem dX0_priceOfWhole_18 : decode cX0_priceOfWhole 18 = .ok (.invokevirtual 105, 3) := by decide +kernel
theorem dX0_priceOfWhole_21 : decode cX0_priceOfWhole 21 = .ok (.ireturn, 1) := by decide +kernel
theorem dX0_wholeRow_0 : decode cX0_wholeRow 0 = .ok (.aload_n 0, 1) := by decide +kernel
theorem dX0_wholeRow_1 : decode cX0_wholeRow 1 = .ok (.getfield 12, 3) := by decide +kernel
theorem dX0_wholeRow_4 : decode cX0_wholeRow 4 = .ok (.getfield 89, 3) := by decide +kernel
theorem dX0_wholeRow_7 : decode cX0_wholeRow 7 = .ok (.iconst 0, 1) := by decide +kernel
theorem dX0_wholeRow_8 : decode cX0_wholeRow 8 = .ok (.iaload, 1) := by decide +kernel
theorem dX0_wholeRow_9 : decode cX0_wholeRow 9 = .ok (.iconst 0, 1) := by decide +kernel
theorem dX0_wholeRow_10 : decode cX0_wholeRow 10 = .ok (.aload_n 0, 1) := by decide +kernel
theorem dX0_wholeRow_11 : decode cX0_wholeRow 11 = .ok (.getfield 40, 3) := by decide +kernel
theorem dX0_wholeRow_14 : decode cX0_wholeRow 14 = .ok (.iconst 1, 1) := by decide +kernel
theorem dX0_wholeRow_15 : decode cX0_wholeRow 15 = .ok (.isub, 1) := by decide +kernel
theorem dX0_wholeRow_16 : decode cX0_wholeRow 16 = .ok (.invokestatic 68, 3) := by decide +kernel
theorem dX0_wholeRow_19 : decode cX0_wholeRow 19 = .ok (.ireturn, 1) := by decide +kernel
theorem dX0_pitchAt_0 : decode cX0_pitchAt 0 = .ok (.aload_n 0, 1) := by decide +kernel
theorem dX0_pitchAt_1 : decode cX0_pitchAt 1 = .ok (.iload_n 1, 1) := by decide +kernel
theorem dX0_pitchAt_2 : decode cX0_pitchAt 2 = .ok (.invokevirtual 127, 3) := by decide +kernel
theorem dX0_pitchAt_5 : decode cX0_pitchAt 5 = .ok (.ifCond .eq 12, 3) := by decide +kernel
theorem dX0_pitchAt_8 : decode cX0_pitchAt 8 = .ok (.aload_n 0, 1) := by decide +kernel
theorem dX0_pitchAt_9 : decode cX0_pitchAt 9 = .ok (.getfield 25, 3) := by decide +kernel
theorem dX0_pitchAt_12 : decode cX0_pitchAt 12 = .ok (.iload_n 1, 1) := by decide +kernel
theorem dX0_pitchAt_13 : decode cX0_pitchAt 13 = .ok (.iaload, 1) := by decide +kernel
theorem dX0_pitchAt_14 : decode cX0_pitchAt 14 = .ok (.goto 4, 3) := by decide +kernel
theorem dX0_pitchAt_17 : decode cX0_pitchAt 17 = .ok (.iconst (-1), 1) := by decide +kernel
theorem dX0_pitchAt_18 : decode cX0_pitchAt 18 = .ok (.ireturn, 1) := by decide +kernel
theorem dX0_hasSlot_0 : decode cX0_hasSlot 0 = .ok (.iload_n 1, 1) := by decide +kernel
theorem dX0_hasSlot_1 : decode cX0_hasSlot 1 = .ok (.ifCond .lt 15, 3) := by decide +kernel
theorem dX0_hasSlot_4 : decode cX0_hasSlot 4 = .ok (.iload_n 1, 1) := by decide +kernel
theorem dX0_hasSlot_5 : decode cX0_hasSlot 5 = .ok (.aload_n 0, 1) := by decide +kernel
theorem dX0_hasSlot_6 : decode cX0_hasSlot 6 = .ok (.getfield 40, 3) := by decide +kernel
theorem dX0_hasSlot_9 : decode cX0_hasSlot 9 = .ok (.if_icmp .ge 7, 3) := by decide +kernel
theorem dX0_hasSlot_12 : decode cX0_hasSlot 12 = .ok (.iconst 1, 1) := by decide +kernel
theorem dX0_hasSlot_13 : decode cX0_hasSlot 13 = .ok (.goto 4, 3) := by decide +kernel
theorem dX0_hasSlot_16 : decode cX0_hasSlot 16 = .ok (.iconst 0, 1) := by decide +kernel
theorem dX0_hasSlot_17 : decode cX0_hasSlot 17 = .ok (.ireturn, 1) := by decide +kernel
theorem dX0_sizeOf_0 : decode cX0_sizeOf 0 = .ok (.iload_n 1, 1) := by decide +kernel
theorem dX0_sizeOf_1 : decode cX0_sizeOf 1 = .ok (.bipush 26, 2) := by decide +kernel
theorem dX0_sizeOf_3 : decode cX0_sizeOf 3 = .ok (.if_icmp .ge 15, 3) := by decide +kernel
theorem dX0_sizeOf_6 : decode cX0_sizeOf 6 = .ok (.aload_n 0, 1) := by decide +kernel
theorem dX0_sizeOf_7 : decode cX0_sizeOf 7 = .ok (.getfield 33, 3) := by decide +kernel
theorem dX0_sizeOf_10 : decode cX0_sizeOf 10 = .ok (.iload_n 1, 1) := by decide +kernel
theorem dX0_sizeOf_11 : decode cX0_sizeOf 11 = .ok (.iload_n 2, 1) := by decide +kernel
theorem dX0_sizeOf_12 : decode cX0_sizeOf 12 = .ok (.iload_n 3, 1) := by decide +kernel
theorem dX0_sizeOf_13 : decode cX0_sizeOf 13 = .ok (.invokestatic 68, 3) := by decide +kernel
theorem dX0_sizeOf_16 : decode cX0_sizeOf 16 = .ok (.iaload, 1) := by decide +kernel
theorem dX0_sizeOf_17 : decode cX0_sizeOf 17 = .ok (.ireturn, 1) := by decide +kernel
theorem dX0_sizeOf_18 : decode cX0_sizeOf 18 = .ok (.iload_n 2, 1) := by decide +kernel
theorem dX0_sizeOf_19 : decode cX0_sizeOf 19 = .ok (.iload_n 3, 1) := by decide +kernel
theorem dX0_sizeOf_20 : decode cX0_sizeOf 20 = .ok (.if_icmp .ne 17, 3) := by decide +kernel
theorem dX0_sizeOf_23 : decode cX0_sizeOf 23 = .ok (.aload_n 0, 1) := by decide +kernel
theorem dX0_sizeOf_24 : decode cX0_sizeOf 24 = .ok (.iload_n 1, 1) := by decide +kernel
theorem dX0_sizeOf_25 : decode cX0_sizeOf 25 = .ok (.iload_n 2, 1) := by decide +kernel
theorem dX0_sizeOf_26 : decode cX0_sizeOf 26 = .ok (.invokevirtual 131, 3) := by decide +kernel
theorem dX0_sizeOf_29 : decode cX0_sizeOf 29 = .ok (.iconst (-1), 1) := by decide +kernel
theorem dX0_sizeOf_30 : decode cX0_sizeOf 30 = .ok (.if_icmp .eq 7, 3) := by decide +kernel
theorem dX0_sizeOf_33 : decode cX0_sizeOf 33 = .ok (.iconst 1, 1) := by decide +kernel
theorem dX0_sizeOf_34 : decode cX0_sizeOf 34 = .ok (.goto 4, 3) := by decide +kernel
theorem dX0_sizeOf_37 : decode cX0_sizeOf 37 = .ok (.iconst 0, 1) := by decide +kernel
theorem dX0_sizeOf_38 : decode cX0_sizeOf 38 = .ok (.ireturn, 1) := by decide +kernel
theorem dX0_countOf_0 : decode cX0_countOf 0 = .ok (.iload_n 1, 1) := by decide +kernel
theorem dX0_countOf_1 : decode cX0_countOf 1 = .ok (.bipush 26, 2) := by decide +kernel
theorem dX0_countOf_3 : decode cX0_countOf 3 = .ok (.if_icmp .ge 17, 3) := by decide +kernel
theorem dX0_countOf_6 : decode cX0_countOf 6 = .ok (.aload_n 0, 1) := by decide +kernel
theorem dX0_countOf_7 : decode cX0_countOf 7 = .ok (.getfield 29, 3) := by decide +kernel
theorem dX0_countOf_10 : decode cX0_countOf 10 = .ok (.iload_n 1, 1) := by decide +kernel
theorem dX0_countOf_11 : decode cX0_countOf 11 = .ok (.iload_n 2, 1) := by decide +kernel
theorem dX0_countOf_12 : decode cX0_countOf 12 = .ok (.iload_n 3, 1) := by decide +kernel
theorem dX0_countOf_13 : decode cX0_countOf 13 = .ok (.invokestatic 68, 3) := by decide +kernel
theorem dX0_countOf_16 : decode cX0_countOf 16 = .ok (.laload, 1) := by decide +kernel
theorem dX0_countOf_17 : decode cX0_countOf 17 = .ok (.goto 11, 3) := by decide +kernel
theorem dX0_countOf_20 : decode cX0_countOf 20 = .ok (.aload_n 0, 1) := by decide +kernel
theorem dX0_countOf_21 : decode cX0_countOf 21 = .ok (.iload_n 1, 1) := by decide +kernel
theorem dX0_countOf_22 : decode cX0_countOf 22 = .ok (.iload_n 2, 1) := by decide +kernel
theorem dX0_countOf_23 : decode cX0_countOf 23 = .ok (.iload_n 3, 1) := by decide +kernel
theorem dX0_countOf_24 : decode cX0_countOf 24 = .ok (.invokevirtual 95, 3) := by decide +kernel
theorem dX0_countOf_27 : decode cX0_countOf 27 = .ok (.i2l, 1) := by decide +kernel
theorem dX0_countOf_28 : decode cX0_countOf 28 = .ok (.lreturn, 1) := by decide +kernel
theorem dX0_priceOf_0 : decode cX0_priceOf 0 = .ok (.iload_n 1, 1) := by decide +kernel
theorem dX0_priceOf_1 : decode cX0_priceOf 1 = .ok (.bipush 26, 2) := by decide +kernel
theorem dX0_priceOf_3 : decode cX0_priceOf 3 = .ok (.if_icmp .ge 17, 3) := by decide +kernel
theorem dX0_priceOf_6 : decode cX0_priceOf 6 = .ok (.aload_n 0, 1) := by decide +kernel
theorem dX0_priceOf_7 : decode cX0_priceOf 7 = .ok (.iload_n 1, 1) := by decide +kernel
theorem dX0_priceOf_8 : decode cX0_priceOf 8 = .ok (.iload_n 2, 1) := by decide +kernel
theorem dX0_priceOf_9 : decode cX0_priceOf 9 = .ok (.iload_n 3, 1) := by decide +kernel
theorem dX0_priceOf_10 : decode cX0_priceOf 10 = .ok (.iload 4, 2) := by decide +kernel
theorem dX0_priceOf_12 : decode cX0_priceOf 12 = .ok (.invokevirtual 134, 3) := by decide +kernel
theorem dX0_priceOf_15 : decode cX0_priceOf 15 = .ok (.bipush 21, 2) := by decide +kernel
theorem dX0_priceOf_17 : decode cX0_priceOf 17 = .ok (.lushr, 1) := by decide +kernel
theorem dX0_priceOf_18 : decode cX0_priceOf 18 = .ok (.l2i, 1) := by decide +kernel
theorem dX0_priceOf_19 : decode cX0_priceOf 19 = .ok (.ireturn, 1) := by decide +kernel
theorem dX0_priceOf_20 : decode cX0_priceOf 20 = .ok (.aload_n 0, 1) := by decide +kernel
theorem dX0_priceOf_21 : decode cX0_priceOf 21 = .ok (.getfield 21, 3) := by decide +kernel
theorem dX0_priceOf_24 : decode cX0_priceOf 24 = .ok (.getfield 138, 3) := by decide +kernel
theorem dX0_priceOf_27 : decode cX0_priceOf 27 = .ok (.iload_n 2, 1) := by decide +kernel
theorem dX0_priceOf_28 : decode cX0_priceOf 28 = .ok (.bipush 70, 2) := by decide +kernel
theorem dX0_priceOf_30 : decode cX0_priceOf 30 = .ok (.imul, 1) := by decide +kernel
theorem dX0_priceOf_31 : decode cX0_priceOf 31 = .ok (.iload_n 1, 1) := by decide +kernel
theorem dX0_priceOf_32 : decode cX0_priceOf 32 = .ok (.iadd, 1) := by decide +kernel
theorem dX0_priceOf_33 : decode cX0_priceOf 33 = .ok (.bipush 26, 2) := by decide +kernel
theorem dX0_priceOf_35 : decode cX0_priceOf 35 = .ok (.isub, 1) := by decide +kernel
theorem dX0_priceOf_36 : decode cX0_priceOf 36 = .ok (.iaload, 1) := by decide +kernel
theorem dX0_priceOf_37 : decode cX0_priceOf 37 = .ok (.ireturn, 1) := by decide +kernel
theorem dX0_chordOf_0 : decode cX0_chordOf 0 = .ok (.aload_n 0, 1) := by decide +kernel
theorem dX0_chordOf_1 : decode cX0_chordOf 1 = .ok (.getfield 21, 3) := by decide +kernel
theorem dX0_chordOf_4 : decode cX0_chordOf 4 = .ok (.getfield 141, 3) := by decide +kernel
theorem dX0_chordOf_7 : decode cX0_chordOf 7 = .ok (.iload_n 2, 1) := by decide +kernel
theorem dX0_chordOf_8 : decode cX0_chordOf 8 = .ok (.bipush 70, 2) := by decide +kernel
theorem dX0_chordOf_10 : decode cX0_chordOf 10 = .ok (.imul, 1) := by decide +kernel
theorem dX0_chordOf_11 : decode cX0_chordOf 11 = .ok (.iload_n 1, 1) := by decide +kernel
theorem dX0_chordOf_12 : decode cX0_chordOf 12 = .ok (.iadd, 1) := by decide +kernel
theorem dX0_chordOf_13 : decode cX0_chordOf 13 = .ok (.bipush 26, 2) := by decide +kernel
theorem dX0_chordOf_15 : decode cX0_chordOf 15 = .ok (.isub, 1) := by decide +kernel
theorem dX0_chordOf_16 : decode cX0_chordOf 16 = .ok (.iaload, 1) := by decide +kernel
theorem dX0_chordOf_17 : decode cX0_chordOf 17 = .ok (.ireturn, 1) := by decide +kernel
theorem dX0_entryAt_0 : decode cX0_entryAt 0 = .ok (.aload_n 0, 1) := by decide +kernel
theorem dX0_entryAt_1 : decode cX0_entryAt 1 = .ok (.getfield 37, 3) := by decide +kernel
theorem dX0_entryAt_4 : decode cX0_entryAt 4 = .ok (.iload_n 1, 1) := by decide +kernel
theorem dX0_entryAt_5 : decode cX0_entryAt 5 = .ok (.iload_n 2, 1) := by decide +kernel
theorem dX0_entryAt_6 : decode cX0_entryAt 6 = .ok (.iload_n 3, 1) := by decide +kernel
theorem dX0_entryAt_7 : decode cX0_entryAt 7 = .ok (.invokestatic 68, 3) := by decide +kernel
theorem dX0_entryAt_10 : decode cX0_entryAt 10 = .ok (.bipush 30, 2) := by decide +kernel
theorem dX0_entryAt_12 : decode cX0_entryAt 12 = .ok (.imul, 1) := by decide +kernel
theorem dX0_entryAt_13 : decode cX0_entryAt 13 = .ok (.iload 4, 2) := by decide +kernel
theorem dX0_entryAt_15 : decode cX0_entryAt 15 = .ok (.iadd, 1) := by decide +kernel
theorem dX0_entryAt_16 : decode cX0_entryAt 16 = .ok (.laload, 1) := by decide +kernel
theorem dX0_entryAt_17 : decode cX0_entryAt 17 = .ok (.lreturn, 1) := by decide +kernel
theorem dX0_rowOf_0 : decode cX0_rowOf 0 = .ok (.iload_n 2, 1) := by decide +kernel
theorem dX0_rowOf_1 : decode cX0_rowOf 1 = .ok (.iload_n 2, 1) := by decide +kernel
theorem dX0_rowOf_2 : decode cX0_rowOf 2 = .ok (.iconst 1, 1) := by decide +kernel
theorem dX0_rowOf_3 : decode cX0_rowOf 3 = .ok (.iadd, 1) := by decide +kernel
theorem dX0_rowOf_4 : decode cX0_rowOf 4 = .ok (.imul, 1) := by decide +kernel
theorem dX0_rowOf_5 : decode cX0_rowOf 5 = .ok (.iconst 2, 1) := by decide +kernel
theorem dX0_rowOf_6 : decode cX0_rowOf 6 = .ok (.idiv, 1) := by decide +kernel
theorem dX0_rowOf_7 : decode cX0_rowOf 7 = .ok (.iload_n 1, 1) := by decide +kernel
theorem dX0_rowOf_8 : decode cX0_rowOf 8 = .ok (.iadd, 1) := by decide +kernel
theorem dX0_rowOf_9 : decode cX0_rowOf 9 = .ok (.bipush 26, 2) := by decide +kernel
theorem dX0_rowOf_11 : decode cX0_rowOf 11 = .ok (.imul, 1) := by decide +kernel
theorem dX0_rowOf_12 : decode cX0_rowOf 12 = .ok (.iload_n 0, 1) := by decide +kernel
theorem dX0_rowOf_13 : decode cX0_rowOf 13 = .ok (.iadd, 1) := by decide +kernel
theorem dX0_rowOf_14 : decode cX0_rowOf 14 = .ok (.ireturn, 1) := by decide +kernel
theorem dX0_entryOf_0 : decode cX0_entryOf 0 = .ok (.iload_n 1, 1) := by decide +kernel
theorem dX0_entryOf_1 : decode cX0_entryOf 1 = .ok (.bipush 15, 2) := by decide +kernel
theorem dX0_entryOf_3 : decode cX0_entryOf 3 = .ok (.ishl, 1) := by decide +kernel
theorem dX0_entryOf_4 : decode cX0_entryOf 4 = .ok (.iload_n 2, 1) := by decide +kernel
theorem dX0_entryOf_5 : decode cX0_entryOf 5 = .ok (.bipush 10, 2) := by decide +kernel
theorem dX0_entryOf_7 : decode cX0_entryOf 7 = .ok (.ishl, 1) := by decide +kernel
theorem dX0_entryOf_8 : decode cX0_entryOf 8 = .ok (.ior, 1) := by decide +kernel
theorem dX0_entryOf_9 : decode cX0_entryOf 9 = .ok (.iload_n 3, 1) := by decide +kernel
theorem dX0_entryOf_10 : decode cX0_entryOf 10 = .ok (.iconst 5, 1) := by decide +kernel
theorem dX0_entryOf_11 : decode cX0_entryOf 11 = .ok (.ishl, 1) := by decide +kernel
theorem dX0_entryOf_12 : decode cX0_entryOf 12 = .ok (.ior, 1) := by decide +kernel
theorem dX0_entryOf_13 : decode cX0_entryOf 13 = .ok (.iload 4, 2) := by decide +kernel
theorem dX0_entryOf_15 : decode cX0_entryOf 15 = .ok (.ior, 1) := by decide +kernel
theorem dX0_entryOf_16 : decode cX0_entryOf 16 = .ok (.i2l, 1) := by decide +kernel
theorem dX0_entryOf_17 : decode cX0_entryOf 17 = .ok (.lstore 5, 2) := by decide +kernel
theorem dX0_entryOf_19 : decode cX0_entryOf 19 = .ok (.iload_n 0, 1) := by decide +kernel
theorem dX0_entryOf_20 : decode cX0_entryOf 20 = .ok (.i2l, 1) := by decide +kernel
theorem dX0_entryOf_21 : decode cX0_entryOf 21 = .ok (.bipush 21, 2) := by decide +kernel
theorem dX0_entryOf_23 : decode cX0_entryOf 23 = .ok (.lshl, 1) := by decide +kernel
theorem dX0_entryOf_24 : decode cX0_entryOf 24 = .ok (.lload 5, 2) := by decide +kernel
theorem dX0_entryOf_26 : decode cX0_entryOf 26 = .ok (.lor, 1) := by decide +kernel
theorem dX0_entryOf_27 : decode cX0_entryOf 27 = .ok (.lreturn, 1) := by decide +kernel
theorem dX0_ruleOf_0 : decode cX0_ruleOf 0 = .ok (.lload_n 0, 1) := by decide +kernel
theorem dX0_ruleOf_1 : decode cX0_ruleOf 1 = .ok (.bipush 15, 2) := by decide +kernel
theorem dX0_ruleOf_3 : decode cX0_ruleOf 3 = .ok (.lushr, 1) := by decide +kernel
theorem dX0_ruleOf_4 : decode cX0_ruleOf 4 = .ok (.l2i, 1) := by decide +kernel
theorem dX0_ruleOf_5 : decode cX0_ruleOf 5 = .ok (.bipush 63, 2) := by decide +kernel
theorem dX0_ruleOf_7 : decode cX0_ruleOf 7 = .ok (.iand, 1) := by decide +kernel
theorem dX0_ruleOf_8 : decode cX0_ruleOf 8 = .ok (.ireturn, 1) := by decide +kernel
theorem dX0_partOf_0 : decode cX0_partOf 0 = .ok (.lload_n 0, 1) := by decide +kernel
theorem dX0_partOf_1 : decode cX0_partOf 1 = .ok (.bipush 10, 2) := by decide +kernel
theorem dX0_partOf_3 : decode cX0_partOf 3 = .ok (.lushr, 1) := by decide +kernel
theorem dX0_partOf_4 : decode cX0_partOf 4 = .ok (.l2i, 1) := by decide +kernel
theorem dX0_partOf_5 : decode cX0_partOf 5 = .ok (.bipush 31, 2) := by decide +kernel
theorem dX0_partOf_7 : decode cX0_partOf 7 = .ok (.iand, 1) := by decide +kernel
theorem dX0_partOf_8 : decode cX0_partOf 8 = .ok (.ireturn, 1) := by decide +kernel
theorem dX0_rankOneOf_0 : decode cX0_rankOneOf 0 = .ok (.lload_n 0, 1) := by decide +kernel
theorem dX0_rankOneOf_1 : decode cX0_rankOneOf 1 = .ok (.iconst 5, 1) := by decide +kernel
theorem dX0_rankOneOf_2 : decode cX0_rankOneOf 2 = .ok (.lushr, 1) := by decide +kernel
theorem dX0_rankOneOf_3 : decode cX0_rankOneOf 3 = .ok (.l2i, 1) := by decide +kernel
theorem dX0_rankOneOf_4 : decode cX0_rankOneOf 4 = .ok (.bipush 31, 2) := by decide +kernel
theorem dX0_rankOneOf_6 : decode cX0_rankOneOf 6 = .ok (.iand, 1) := by decide +kernel
theorem dX0_rankOneOf_7 : decode cX0_rankOneOf 7 = .ok (.ireturn, 1) := by decide +kernel
theorem dX0_rankTwoOf_0 : decode cX0_rankTwoOf 0 = .ok (.lload_n 0, 1) := by decide +kernel
theorem dX0_rankTwoOf_1 : decode cX0_rankTwoOf 1 = .ok (.l2i, 1) := by decide +kernel
theorem dX0_rankTwoOf_2 : decode cX0_rankTwoOf 2 = .ok (.bipush 31, 2) := by decide +kernel
theorem dX0_rankTwoOf_4 : decode cX0_rankTwoOf 4 = .ok (.iand, 1) := by decide +kernel
theorem dX0_rankTwoOf_5 : decode cX0_rankTwoOf 5 = .ok (.ireturn, 1) := by decide +kernel
theorem dX1_init_0 : decode cX1_init 0 = .ok (.aload_n 0, 1) := by decide +kernel
theorem dX1_init_1 : decode cX1_init 1 = .ok (.invokespecial 3, 3) := by decide +kernel
theorem dX1_init_4 : decode cX1_init 4 = .ok (.aload_n 0, 1) := by decide +kernel
theorem dX1_init_5 : decode cX1_init 5 = .ok (.sipush 800, 3) := by decide +kernel
theorem dX1_init_8 : decode cX1_init 8 = .ok (.newarray .byte, 2) := by decide +kernel
theorem dX1_init_10 : decode cX1_init 10 = .ok (.putfield 9, 3) := by decide +kernel
theorem dX1_init_13 : decode cX1_init 13 = .ok (.aload_n 0, 1) := by decide +kernel
theorem dX1_init_14 : decode cX1_init 14 = .ok (.iconst 0, 1) := by decide +kernel
theorem dX1_init_15 : decode cX1_init 15 = .ok (.putfield 15, 3) := by decide +kernel
theorem dX1_init_18 : decode cX1_init 18 = .ok (.return_, 1) := by decide +kernel
theorem dX1_extend_0 : decode cX1_extend 0 = .ok (.iload_n 1, 1) := by decide +kernel
theorem dX1_extend_1 : decode cX1_extend 1 = .ok (.iconst 1, 1) := by decide +kernel
theorem dX1_extend_2 : decode cX1_extend 2 = .ok (.if_icmp .lt 21, 3) := by decide +kernel
theorem dX1_extend_5 : decode cX1_extend 5 = .ok (.iload_n 1, 1) := by decide +kernel
theorem dX1_extend_6 : decode cX1_extend 6 = .ok (.bipush 8, 2) := by decide +kernel
theorem dX1_extend_8 : decode cX1_extend 8 = .ok (.if_icmp .gt 15, 3) := by decide +kernel
theorem dX1_extend_11 : decode cX1_extend 11 = .ok (.aload_n 0, 1) := by decide +kernel
theorem dX1_extend_12 : decode cX1_extend 12 = .ok (.getfield 15, 3) := by decide +kernel
theorem dX1_extend_15 : decode cX1_extend 15 = .ok (.iload_n 1, 1) := by decide +kernel
theorem dX1_extend_16 : decode cX1_extend 16 = .ok (.iadd, 1) := by decide +kernel
theorem dX1_extend_17 : decode cX1_extend 17 = .ok (.sipush 800, 3) := by decide +kernel
theorem dX1_extend_20 : decode cX1_extend 20 = .ok (.if_icmp .le 5, 3) := by decide +kernel
theorem dX1_extend_23 : decode cX1_extend 23 = .ok (.iconst (-1), 1) := by decide +kernel
theorem dX1_extend_24 : decode cX1_extend 24 = .ok (.ireturn, 1) := by decide +kernel
theorem dX1_extend_25 : decode cX1_extend 25 = .ok (.iconst 0, 1) := by decide +kernel
theorem dX1_extend_26 : decode cX1_extend 26 = .ok (.istore 4, 2) := by decide +kernel
theorem dX1_extend_28 : decode cX1_extend 28 = .ok (.iload 4, 2) := by decide +kernel
theorem dX1_extend_30 : decode cX1_extend 30 = .ok (.iload_n 1, 1) := by decide +kernel
theorem dX1_extend_31 : decode cX1_extend 31 = .ok (.if_icmp .ge 30, 3) := by decide +kernel
theorem dX1_extend_34 : decode cX1_extend 34 = .ok (.aload_n 0, 1) := by decide +kernel
theorem dX1_extend_35 : decode cX1_extend 35 = .ok (.getfield 9, 3) := by decide +kernel
theorem dX1_extend_38 : decode cX1_extend 38 = .ok (.aload_n 0, 1) := by decide +kernel
theorem dX1_extend_39 : decode cX1_extend 39 = .ok (.getfield 15, 3) := by decide +kernel
theorem dX1_extend_42 : decode cX1_extend 42 = .ok (.iload 4, 2) := by decide +kernel
theorem dX1_extend_44 : decode cX1_extend 44 = .ok (.iadd, 1) := by decide +kernel
theorem dX1_extend_45 : decode cX1_extend 45 = .ok (.lload_n 2, 1) := by decide +kernel
theorem dX1_extend_46 : decode cX1_extend 46 = .ok (.bipush 8, 2) := by decide +kernel
theorem dX1_extend_48 : decode cX1_extend 48 = .ok (.iload 4, 2) := by decide +kernel
theorem dX1_extend_50 : decode cX1_extend 50 = .ok (.imul, 1) := by decide +kernel
theorem dX1_extend_51 : decode cX1_extend 51 = .ok (.lushr, 1) := by decide +kernel
theorem dX1_extend_52 : decode cX1_extend 52 = .ok (.l2i, 1) := by decide +kernel
theorem dX1_extend_53 : decode cX1_extend 53 = .ok (.i2b, 1) := by decide +kernel
theorem dX1_extend_54 : decode cX1_extend 54 = .ok (.bastore, 1) := by decide +kernel
theorem dX1_extend_55 : decode cX1_extend 55 = .ok (.iinc 4 1, 3) := by decide +kernel
theorem dX1_extend_58 : decode cX1_extend 58 = .ok (.goto (-30), 3) := by decide +kernel
theorem dX1_extend_61 : decode cX1_extend 61 = .ok (.aload_n 0, 1) := by decide +kernel
theorem dX1_extend_62 : decode cX1_extend 62 = .ok (.dup, 1) := by decide +kernel
theorem dX1_extend_63 : decode cX1_extend 63 = .ok (.getfield 15, 3) := by decide +kernel
theorem dX1_extend_66 : decode cX1_extend 66 = .ok (.iload_n 1, 1) := by decide +kernel
theorem dX1_extend_67 : decode cX1_extend 67 = .ok (.iadd, 1) := by decide +kernel
theorem dX1_extend_68 : decode cX1_extend 68 = .ok (.putfield 15, 3) := by decide +kernel
theorem dX1_extend_71 : decode cX1_extend 71 = .ok (.aload_n 0, 1) := by decide +kernel
theorem dX1_extend_72 : decode cX1_extend 72 = .ok (.getfield 15, 3) := by decide +kernel
theorem dX1_extend_75 : decode cX1_extend 75 = .ok (.ireturn, 1) := by decide +kernel
theorem dX1_octetAt_0 : decode cX1_octetAt 0 = .ok (.iload_n 1, 1) := by decide +kernel
theorem dX1_octetAt_1 : decode cX1_octetAt 1 = .ok (.ifCond .lt 24, 3) := by decide +kernel
theorem dX1_octetAt_4 : decode cX1_octetAt 4 = .ok (.iload_n 1, 1) := by decide +kernel
theorem dX1_octetAt_5 : decode cX1_octetAt 5 = .ok (.aload_n 0, 1) := by decide +kernel
theorem dX1_octetAt_6 : decode cX1_octetAt 6 = .ok (.getfield 15, 3) := by decide +kernel
theorem dX1_octetAt_9 : decode cX1_octetAt 9 = .ok (.if_icmp .ge 16, 3) := by decide +kernel
theorem dX1_octetAt_12 : decode cX1_octetAt 12 = .ok (.aload_n 0, 1) := by decide +kernel
theorem dX1_octetAt_13 : decode cX1_octetAt 13 = .ok (.getfield 9, 3) := by decide +kernel
theorem dX1_octetAt_16 : decode cX1_octetAt 16 = .ok (.iload_n 1, 1) := by decide +kernel
theorem dX1_octetAt_17 : decode cX1_octetAt 17 = .ok (.baload, 1) := by decide +kernel
theorem dX1_octetAt_18 : decode cX1_octetAt 18 = .ok (.sipush 255, 3) := by decide +kernel
theorem dX1_octetAt_21 : decode cX1_octetAt 21 = .ok (.iand, 1) := by decide +kernel
theorem dX1_octetAt_22 : decode cX1_octetAt 22 = .ok (.goto 4, 3) := by decide +kernel
theorem dX1_octetAt_25 : decode cX1_octetAt 25 = .ok (.iconst (-1), 1) := by decide +kernel
theorem dX1_octetAt_26 : decode cX1_octetAt 26 = .ok (.ireturn, 1) := by decide +kernel
theorem dX2_init_0 : decode cX2_init 0 = .ok (.aload_n 0, 1) := by decide +kernel
theorem dX2_init_1 : decode cX2_init 1 = .ok (.invokespecial 3, 3) := by decide +kernel
theorem dX2_init_4 : decode cX2_init 4 = .ok (.aload_n 0, 1) := by decide +kernel
theorem dX2_init_5 : decode cX2_init 5 = .ok (.bipush 60, 2) := by decide +kernel
theorem dX2_init_7 : decode cX2_init 7 = .ok (.newarray .int, 2) := by decide +kernel
theorem dX2_init_9 : decode cX2_init 9 = .ok (.putfield 9, 3) := by decide +kernel
theorem dX2_init_12 : decode cX2_init 12 = .ok (.aload_n 0, 1) := by decide +kernel
theorem dX2_init_13 : decode cX2_init 13 = .ok (.bipush 60, 2) := by decide +kernel
theorem dX2_init_15 : decode cX2_init 15 = .ok (.newarray .int, 2) := by decide +kernel
theorem dX2_init_17 : decode cX2_init 17 = .ok (.putfield 15, 3) := by decide +kernel
theorem dX2_init_20 : decode cX2_init 20 = .ok (.aload_n 0, 1) := by decide +kernel
theorem dX2_init_21 : decode cX2_init 21 = .ok (.bipush 60, 2) := by decide +kernel
theorem dX2_init_23 : decode cX2_init 23 = .ok (.newarray .int, 2) := by decide +kernel
theorem dX2_init_25 : decode cX2_init 25 = .ok (.putfield 18, 3) := by decide +kernel
theorem dX2_init_28 : decode cX2_init 28 = .ok (.aload_n 0, 1) := by decide +kernel
theorem dX2_init_29 : decode cX2_init 29 = .ok (.bipush 60, 2) := by decide +kernel
theorem dX2_init_31 : decode cX2_init 31 = .ok (.newarray .int, 2) := by decide +kernel
theorem dX2_init_33 : decode cX2_init 33 = .ok (.putfield 21, 3) := by decide +kernel
theorem dX2_init_36 : decode cX2_init 36 = .ok (.aload_n 0, 1) := by decide +kernel
theorem dX2_init_37 : decode cX2_init 37 = .ok (.bipush 60, 2) := by decide +kernel
theorem dX2_init_39 : decode cX2_init 39 = .ok (.newarray .int, 2) := by decide +kernel
theorem dX2_init_41 : decode cX2_init 41 = .ok (.putfield 24, 3) := by decide +kernel
theorem dX2_init_44 : decode cX2_init 44 = .ok (.aload_n 0, 1) := by decide +kernel
theorem dX2_init_45 : decode cX2_init 45 = .ok (.iconst 0, 1) := by decide +kernel
theorem dX2_init_46 : decode cX2_init 46 = .ok (.putfield 27, 3) := by decide +kernel
theorem dX2_init_49 : decode cX2_init 49 = .ok (.return_, 1) := by decide +kernel
theorem dX2_become_0 : decode cX2_become 0 = .ok (.aload_n 1, 1) := by decide +kernel
theorem dX2_become_1 : decode cX2_become 1 = .ok (.getfield 9, 3) := by decide +kernel
theorem dX2_become_4 : decode cX2_become 4 = .ok (.iconst 0, 1) := by decide +kernel
theorem dX2_become_5 : decode cX2_become 5 = .ok (.aload_n 0, 1) := by decide +kernel
theorem dX2_become_6 : decode cX2_become 6 = .ok (.getfield 9, 3) := by decide +kernel
theorem dX2_become_9 : decode cX2_become 9 = .ok (.iconst 0, 1) := by decide +kernel
theorem dX2_become_10 : decode cX2_become 10 = .ok (.bipush 60, 2) := by decide +kernel
theorem dX2_become_12 : decode cX2_become 12 = .ok (.invokestatic 31, 3) := by decide +kernel
theorem dX2_become_15 : decode cX2_become 15 = .ok (.aload_n 1, 1) := by decide +kernel
theorem dX2_become_16 : decode cX2_become 16 = .ok (.getfield 15, 3) := by decide +kernel
theorem dX2_become_19 : decode cX2_become 19 = .ok (.iconst 0, 1) := by decide +kernel
theorem dX2_become_20 : decode cX2_become 20 = .ok (.aload_n 0, 1) := by decide +kernel
theorem dX2_become_21 : decode cX2_become 21 = .ok (.getfield 15, 3) := by decide +kernel
theorem dX2_become_24 : decode cX2_become 24 = .ok (.iconst 0, 1) := by decide +kernel
theorem dX2_become_25 : decode cX2_become 25 = .ok (.bipush 60, 2) := by decide +kernel
theorem dX2_become_27 : decode cX2_become 27 = .ok (.invokestatic 31, 3) := by decide +kernel
theorem dX2_become_30 : decode cX2_become 30 = .ok (.aload_n 1, 1) := by decide +kernel
theorem dX2_become_31 : decode cX2_become 31 = .ok (.getfield 18, 3) := by decide +kernel
theorem dX2_become_34 : decode cX2_become 34 = .ok (.iconst 0, 1) := by decide +kernel
theorem dX2_become_35 : decode cX2_become 35 = .ok (.aload_n 0, 1) := by decide +kernel
theorem dX2_become_36 : decode cX2_become 36 = .ok (.getfield 18, 3) := by decide +kernel
theorem dX2_become_39 : decode cX2_become 39 = .ok (.iconst 0, 1) := by decide +kernel
theorem dX2_become_40 : decode cX2_become 40 = .ok (.bipush 60, 2) := by decide +kernel
theorem dX2_become_42 : decode cX2_become 42 = .ok (.invokestatic 31, 3) := by decide +kernel
theorem dX2_become_45 : decode cX2_become 45 = .ok (.aload_n 1, 1) := by decide +kernel
theorem dX2_become_46 : decode cX2_become 46 = .ok (.getfield 21, 3) := by decide +kernel
theorem dX2_become_49 : decode cX2_become 49 = .ok (.iconst 0, 1) := by decide +kernel
theorem dX2_become_50 : decode cX2_become 50 = .ok (.aload_n 0, 1) := by decide +kernel
theorem dX2_become_51 : decode cX2_become 51 = .ok (.getfield 21, 3) := by decide +kernel
theorem dX2_become_54 : decode cX2_become 54 = .ok (.iconst 0, 1) := by decide +kernel
theorem dX2_become_55 : decode cX2_become 55 = .ok (.bipush 60, 2) := by decide +kernel
theorem dX2_become_57 : decode cX2_become 57 = .ok (.invokestatic 31, 3) := by decide +kernel
theorem dX2_become_60 : decode cX2_become 60 = .ok (.aload_n 1, 1) := by decide +kernel
theorem dX2_become_61 : decode cX2_become 61 = .ok (.getfield 24, 3) := by decide +kernel
theorem dX2_become_64 : decode cX2_become 64 = .ok (.iconst 0, 1) := by decide +kernel
theorem dX2_become_65 : decode cX2_become 65 = .ok (.aload_n 0, 1) := by decide +kernel
theorem dX2_become_66 : decode cX2_become 66 = .ok (.getfield 24, 3) := by decide +kernel
theorem dX2_become_69 : decode cX2_become 69 = .ok (.iconst 0, 1) := by decide +kernel
theorem dX2_become_70 : decode cX2_become 70 = .ok (.bipush 60, 2) := by decide +kernel
theorem dX2_become_72 : decode cX2_become 72 = .ok (.invokestatic 31, 3) := by decide +kernel
theorem dX2_become_75 : decode cX2_become 75 = .ok (.aload_n 0, 1) := by decide +kernel
theorem dX2_become_76 : decode cX2_become 76 = .ok (.aload_n 1, 1) := by decide +kernel
theorem dX2_become_77 : decode cX2_become 77 = .ok (.getfield 27, 3) := by decide +kernel
theorem dX2_become_80 : decode cX2_become 80 = .ok (.putfield 27, 3) := by decide +kernel
theorem dX2_become_83 : decode cX2_become 83 = .ok (.return_, 1) := by decide +kernel
theorem dX2_renames_0 : decode cX2_renames 0 = .ok (.aload_n 0, 1) := by decide +kernel
theorem dX2_renames_1 : decode cX2_renames 1 = .ok (.getfield 18, 3) := by decide +kernel
theorem dX2_renames_4 : decode cX2_renames 4 = .ok (.iload_n 1, 1) := by decide +kernel
theorem dX2_renames_5 : decode cX2_renames 5 = .ok (.iaload, 1) := by decide +kernel
theorem dX2_renames_6 : decode cX2_renames 6 = .ok (.iconst (-1), 1) := by decide +kernel
theorem dX2_renames_7 : decode cX2_renames 7 = .ok (.if_icmp .ne 18, 3) := by decide +kernel
theorem dX2_renames_10 : decode cX2_renames 10 = .ok (.aload_n 0, 1) := by decide +kernel
theorem dX2_renames_11 : decode cX2_renames 11 = .ok (.getfield 15, 3) := by decide +kernel
theorem dX2_renames_14 : decode cX2_renames 14 = .ok (.iload_n 1, 1) := by decide +kernel
theorem dX2_renames_15 : decode cX2_renames 15 = .ok (.iaload, 1) := by decide +kernel
theorem dX2_renames_16 : decode cX2_renames 16 = .ok (.bipush 26, 2) := by decide +kernel
theorem dX2_renames_18 : decode cX2_renames 18 = .ok (.if_icmp .ge 7, 3) := by decide +kernel
theorem dX2_renames_21 : decode cX2_renames 21 = .ok (.iconst 1, 1) := by decide +kernel
theorem dX2_renames_22 : decode cX2_renames 22 = .ok (.goto 4, 3) := by decide +kernel
theorem dX2_renames_25 : decode cX2_renames 25 = .ok (.iconst 0, 1) := by decide +kernel
theorem dX2_renames_26 : decode cX2_renames 26 = .ok (.ireturn, 1) := by decide +kernel
theorem dX3_init_0 : decode cX3_init 0 = .ok (.aload_n 0, 1) := by decide +kernel
theorem dX3_init_1 : decode cX3_init 1 = .ok (.invokespecial 3, 3) := by decide +kernel
theorem dX3_init_4 : decode cX3_init 4 = .ok (.aload_n 0, 1) := by decide +kernel
theorem dX3_init_5 : decode cX3_init 5 = .ok (.iconst 0, 1) := by decide +kernel
theorem dX3_init_6 : decode cX3_init 6 = .ok (.putfield 9, 3) := by decide +kernel
theorem dX3_init_9 : decode cX3_init 9 = .ok (.aload_n 0, 1) := by decide +kernel
theorem dX3_init_10 : decode cX3_init 10 = .ok (.iconst 0, 1) := by decide +kernel
theorem dX3_init_11 : decode cX3_init 11 = .ok (.putfield 15, 3) := by decide +kernel
theorem dX3_init_14 : decode cX3_init 14 = .ok (.return_, 1) := by decide +kernel
theorem dX3_change_0 : decode cX3_change 0 = .ok (.iload_n 1, 1) := by decide +kernel
theorem dX3_change_1 : decode cX3_change 1 = .ok (.ifCond .lt 9, 3) := by decide +kernel
theorem dX3_change_4 : decode cX3_change 4 = .ok (.iload_n 1, 1) := by decide +kernel
theorem dX3_change_5 : decode cX3_change 5 = .ok (.bipush 12, 2) := by decide +kernel
theorem dX3_change_7 : decode cX3_change 7 = .ok (.if_icmp .lt 5, 3) := by decide +kernel
theorem dX3_change_10 : decode cX3_change 10 = .ok (.iconst 0, 1) := by decide +kernel
theorem dX3_change_11 : decode cX3_change 11 = .ok (.ireturn, 1) := by decide +kernel
theorem dX3_change_12 : decode cX3_change 12 = .ok (.aload_n 0, 1) := by decide +kernel
theorem dX3_change_13 : decode cX3_change 13 = .ok (.iload_n 1, 1) := by decide +kernel
theorem dX3_change_14 : decode cX3_change 14 = .ok (.putfield 9, 3) := by decide +kernel
theorem dX3_change_17 : decode cX3_change 17 = .ok (.aload_n 0, 1) := by decide +kernel
theorem dX3_change_18 : decode cX3_change 18 = .ok (.iload_n 2, 1) := by decide +kernel
theorem dX3_change_19 : decode cX3_change 19 = .ok (.putfield 15, 3) := by decide +kernel
theorem dX3_change_22 : decode cX3_change 22 = .ok (.iconst 1, 1) := by decide +kernel
theorem dX3_change_23 : decode cX3_change 23 = .ok (.ireturn, 1) := by decide +kernel
theorem dX3_rootOf_0 : decode cX3_rootOf 0 = .ok (.iload_n 1, 1) := by decide +kernel
theorem dX3_rootOf_1 : decode cX3_rootOf 1 = .ok (.ifCond .lt 9, 3) := by decide +kernel
theorem dX3_rootOf_4 : decode cX3_rootOf 4 = .ok (.iload_n 1, 1) := by decide +kernel
theorem dX3_rootOf_5 : decode cX3_rootOf 5 = .ok (.bipush 7, 2) := by decide +kernel
theorem dX3_rootOf_7 : decode cX3_rootOf 7 = .ok (.if_icmp .lt 5, 3) := by decide +kernel
theorem dX3_rootOf_10 : decode cX3_rootOf 10 = .ok (.iconst (-1), 1) := by decide +kernel
theorem dX3_rootOf_11 : decode cX3_rootOf 11 = .ok (.ireturn, 1) := by decide +kernel
theorem dX3_rootOf_12 : decode cX3_rootOf 12 = .ok (.aload_n 0, 1) := by decide +kernel
theorem dX3_rootOf_13 : decode cX3_rootOf 13 = .ok (.getfield 9, 3) := by decide +kernel
theorem dX3_rootOf_16 : decode cX3_rootOf 16 = .ok (.aload_n 0, 1) := by decide +kernel
theorem dX3_rootOf_17 : decode cX3_rootOf 17 = .ok (.getfield 15, 3) := by decide +kernel
theorem dX3_rootOf_20 : decode cX3_rootOf 20 = .ok (.ifCond .eq 11, 3) := by decide +kernel
theorem dX3_rootOf_23 : decode cX3_rootOf 23 = .ok (.getstatic 19, 3) := by decide +kernel
theorem dX3_rootOf_26 : decode cX3_rootOf 26 = .ok (.iload_n 1, 1) := by decide +kernel
theorem dX3_rootOf_27 : decode cX3_rootOf 27 = .ok (.iaload, 1) := by decide +kernel
theorem dX3_rootOf_28 : decode cX3_rootOf 28 = .ok (.goto 8, 3) := by decide +kernel
theorem dX3_rootOf_31 : decode cX3_rootOf 31 = .ok (.getstatic 23, 3) := by decide +kernel
theorem dX3_rootOf_34 : decode cX3_rootOf 34 = .ok (.iload_n 1, 1) := by decide +kernel
theorem dX3_rootOf_35 : decode cX3_rootOf 35 = .ok (.iaload, 1) := by decide +kernel
theorem dX3_rootOf_36 : decode cX3_rootOf 36 = .ok (.iadd, 1) := by decide +kernel
theorem dX3_rootOf_37 : decode cX3_rootOf 37 = .ok (.bipush 12, 2) := by decide +kernel
theorem dX3_rootOf_39 : decode cX3_rootOf 39 = .ok (.irem, 1) := by decide +kernel
theorem dX3_rootOf_40 : decode cX3_rootOf 40 = .ok (.ireturn, 1) := by decide +kernel
theorem dX4_init_0 : decode cX4_init 0 = .ok (.aload_n 0, 1) := by decide +kernel
theorem dX4_init_1 : decode cX4_init 1 = .ok (.invokespecial 3, 3) := by decide +kernel
theorem dX4_init_4 : decode cX4_init 4 = .ok (.aload_n 0, 1) := by decide +kernel
theorem dX4_init_5 : decode cX4_init 5 = .ok (.new 9, 3) := by decide +kernel
theorem dX4_init_8 : decode cX4_init 8 = .ok (.dup, 1) := by decide +kernel
theorem dX4_init_9 : decode cX4_init 9 = .ok (.invokespecial 11, 3) := by decide +kernel
theorem dX4_init_12 : decode cX4_init 12 = .ok (.putfield 12, 3) := by decide +kernel
theorem dX4_init_15 : decode cX4_init 15 = .ok (.aload_n 0, 1) := by decide +kernel
theorem dX4_init_16 : decode cX4_init 16 = .ok (.bipush 60, 2) := by decide +kernel
theorem dX4_init_18 : decode cX4_init 18 = .ok (.newarray .int, 2) := by decide +kernel
theorem dX4_init_20 : decode cX4_init 20 = .ok (.putfield 18, 3) := by decide +kernel
theorem dX4_init_23 : decode cX4_init 23 = .ok (.aload_n 0, 1) := by decide +kernel
theorem dX4_init_24 : decode cX4_init 24 = .ok (.bipush 26, 2) := by decide +kernel
theorem dX4_init_26 : decode cX4_init 26 = .ok (.newarray .int, 2) := by decide +kernel
theorem dX4_init_28 : decode cX4_init 28 = .ok (.putfield 22, 3) := by decide +kernel
theorem dX4_init_31 : decode cX4_init 31 = .ok (.aload_n 0, 1) := by decide +kernel
theorem dX4_init_32 : decode cX4_init 32 = .ok (.iconst 0, 1) := by decide +kernel
theorem dX4_init_33 : decode cX4_init 33 = .ok (.putfield 25, 3) := by decide +kernel
theorem dX4_init_36 : decode cX4_init 36 = .ok (.return_, 1) := by decide +kernel
theorem dX4_readAll_0 : decode cX4_readAll 0 = .ok (.aload_n 0, 1) := by decide +kernel
theorem dX4_readAll_1 : decode cX4_readAll 1 = .ok (.iconst 0, 1) := by decide +kernel
theorem dX4_readAll_2 : decode cX4_readAll 2 = .ok (.putfield 25, 3) := by decide +kernel
theorem dX4_readAll_5 : decode cX4_readAll 5 = .ok (.aload_n 0, 1) := by decide +kernel
theorem dX4_readAll_6 : decode cX4_readAll 6 = .ok (.getfield 12, 3) := by decide +kernel
theorem dX4_readAll_9 : decode cX4_readAll 9 = .ok (.iconst 0, 1) := by decide +kernel
theorem dX4_readAll_10 : decode cX4_readAll 10 = .ok (.putfield 29, 3) := by decide +kernel
theorem dX4_readAll_13 : decode cX4_readAll 13 = .ok (.iconst 0, 1) := by decide +kernel
theorem dX4_readAll_14 : decode cX4_readAll 14 = .ok (.istore_n 2, 1) := by decide +kernel
theorem dX4_readAll_15 : decode cX4_readAll 15 = .ok (.iload_n 2, 1) := by decide +kernel
theorem dX4_readAll_16 : decode cX4_readAll 16 = .ok (.bipush 60, 2) := by decide +kernel
theorem dX4_readAll_18 : decode cX4_readAll 18 = .ok (.if_icmp .gt 38, 3) := by decide +kernel
theorem dX4_readAll_21 : decode cX4_readAll 21 = .ok (.aload_n 0, 1) := by decide +kernel
theorem dX4_readAll_22 : decode cX4_readAll 22 = .ok (.aload_n 1, 1) := by decide +kernel
theorem dX4_readAll_23 : decode cX4_readAll 23 = .ok (.invokevirtual 32, 3) := by decide +kernel
theorem dX4_readAll_26 : decode cX4_readAll 26 = .ok (.iconst (-1), 1) := by decide +kernel
theorem dX4_readAll_27 : decode cX4_readAll 27 = .ok (.if_icmp .ne 10, 3) := by decide +kernel
theorem dX4_readAll_30 : decode cX4_readAll 30 = .ok (.iload_n 2, 1) := by decide +kernel
theorem dX4_readAll_31 : decode cX4_readAll 31 = .ok (.ifCond .le 6, 3) := by decide +kernel
theorem dX4_readAll_34 : decode cX4_readAll 34 = .ok (.goto 22, 3) := by decide +kernel
theorem dX4_readAll_37 : decode cX4_readAll 37 = .ok (.aload_n 0, 1) := by decide +kernel
theorem dX4_readAll_38 : decode cX4_readAll 38 = .ok (.aload_n 1, 1) := by decide +kernel
theorem dX4_readAll_39 : decode cX4_readAll 39 = .ok (.invokevirtual 36, 3) := by decide +kernel
theorem dX4_readAll_42 : decode cX4_readAll 42 = .ok (.ifCond .ne 8, 3) := by decide +kernel
theorem dX4_readAll_45 : decode cX4_readAll 45 = .ok (.aload_n 0, 1) := by decide +kernel
theorem dX4_readAll_46 : decode cX4_readAll 46 = .ok (.getfield 25, 3) := by decide +kernel
theorem dX4_readAll_49 : decode cX4_readAll 49 = .ok (.ireturn, 1) := by decide +kernel
theorem dX4_readAll_50 : decode cX4_readAll 50 = .ok (.iinc 2 1, 3) := by decide +kernel
theorem dX4_readAll_53 : decode cX4_readAll 53 = .ok (.goto (-38), 3) := by decide +kernel
theorem dX4_readAll_56 : decode cX4_readAll 56 = .ok (.aload_n 0, 1) := by decide +kernel
theorem dX4_readAll_57 : decode cX4_readAll 57 = .ok (.invokevirtual 40, 3) := by decide +kernel
theorem dX4_readAll_60 : decode cX4_readAll 60 = .ok (.aload_n 0, 1) := by decide +kernel
theorem dX4_readAll_61 : decode cX4_readAll 61 = .ok (.invokevirtual 43, 3) := by decide +kernel
theorem dX4_readAll_64 : decode cX4_readAll 64 = .ok (.istore_n 2, 1) := by decide +kernel
theorem dX4_readAll_65 : decode cX4_readAll 65 = .ok (.iload_n 2, 1) := by decide +kernel
theorem dX4_readAll_66 : decode cX4_readAll 66 = .ok (.iconst (-1), 1) := by decide +kernel
theorem dX4_readAll_67 : decode cX4_readAll 67 = .ok (.if_icmp .ne 7, 3) := by decide +kernel
theorem dX4_readAll_70 : decode cX4_readAll 70 = .ok (.aload_n 0, 1) := by decide +kernel
theorem dX4_readAll_71 : decode cX4_readAll 71 = .ok (.invokevirtual 47, 3) := by decide +kernel
theorem dX4_readAll_74 : decode cX4_readAll 74 = .ok (.iload_n 2, 1) := by decide +kernel
theorem dX4_readAll_75 : decode cX4_readAll 75 = .ok (.ireturn, 1) := by decide +kernel
theorem dX4_readRule_0 : decode cX4_readRule 0 = .ok (.aload_n 0, 1) := by decide +kernel
theorem dX4_readRule_1 : decode cX4_readRule 1 = .ok (.aload_n 1, 1) := by decide +kernel
theorem dX4_readRule_2 : decode cX4_readRule 2 = .ok (.invokevirtual 32, 3) := by decide +kernel
theorem dX4_readRule_5 : decode cX4_readRule 5 = .ok (.istore_n 2, 1) := by decide +kernel
theorem dX4_readRule_6 : decode cX4_readRule 6 = .ok (.aload_n 0, 1) := by decide +kernel
theorem dX4_readRule_7 : decode cX4_readRule 7 = .ok (.getfield 25, 3) := by decide +kernel
theorem dX4_readRule_10 : decode cX4_readRule 10 = .ok (.istore_n 3, 1) := by decide +kernel
theorem dX4_readRule_11 : decode cX4_readRule 11 = .ok (.iload_n 2, 1) := by decide +kernel
theorem dX4_readRule_12 : decode cX4_readRule 12 = .ok (.invokestatic 50, 3) := by decide +kernel
theorem dX4_readRule_15 : decode cX4_readRule 15 = .ok (.ifCond .eq 15, 3) := by decide +kernel
theorem dX4_readRule_18 : decode cX4_readRule 18 = .ok (.aload_n 0, 1) := by decide +kernel
theorem dX4_readRule_19 : decode cX4_readRule 19 = .ok (.getfield 12, 3) := by decide +kernel
theorem dX4_readRule_22 : decode cX4_readRule 22 = .ok (.getfield 29, 3) := by decide +kernel
theorem dX4_readRule_25 : decode cX4_readRule 25 = .ok (.bipush 60, 2) := by decide +kernel
theorem dX4_readRule_27 : decode cX4_readRule 27 = .ok (.if_icmp .lt 5, 3) := by decide +kernel
theorem dX4_readRule_30 : decode cX4_readRule 30 = .ok (.iconst 0, 1) := by decide +kernel
theorem dX4_readRule_31 : decode cX4_readRule 31 = .ok (.ireturn, 1) := by decide +kernel
theorem dX4_readRule_32 : decode cX4_readRule 32 = .ok (.aload_n 0, 1) := by decide +kernel
theorem dX4_readRule_33 : decode cX4_readRule 33 = .ok (.dup, 1) := by decide +kernel
theorem dX4_readRule_34 : decode cX4_readRule 34 = .ok (.getfield 25, 3) := by decide +kernel
theorem dX4_readRule_37 : decode cX4_readRule 37 = .ok (.iconst 1, 1) := by decide +kernel
theorem dX4_readRule_38 : decode cX4_readRule 38 = .ok (.iadd, 1) := by decide +kernel
theorem dX4_readRule_39 : decode cX4_readRule 39 = .ok (.putfield 25, 3) := by decide +kernel
theorem dX4_readRule_42 : decode cX4_readRule 42 = .ok (.aload_n 0, 1) := by decide +kernel
theorem dX4_readRule_43 : decode cX4_readRule 43 = .ok (.aload_n 1, 1) := by decide +kernel
theorem dX4_readRule_44 : decode cX4_readRule 44 = .ok (.bipush 61, 2) := by decide +kernel
theorem dX4_readRule_46 : decode cX4_readRule 46 = .ok (.invokevirtual 54, 3) := by decide +kernel
theorem dX4_readRule_49 : decode cX4_readRule 49 = .ok (.ifCond .ne 5, 3) := by decide +kernel
theorem dX4_readRule_52 : decode cX4_readRule 52 = .ok (.iconst 0, 1) := by decide +kernel
theorem dX4_readRule_53 : decode cX4_readRule 53 = .ok (.ireturn, 1) := by decide +kernel
theorem dX4_readRule_54 : decode cX4_readRule 54 = .ok (.aload_n 0, 1) := by decide +kernel
theorem dX4_readRule_55 : decode cX4_readRule 55 = .ok (.aload_n 1, 1) := by decide +kernel
theorem dX4_readRule_56 : decode cX4_readRule 56 = .ok (.invokevirtual 58, 3) := by decide +kernel
theorem dX4_readRule_59 : decode cX4_readRule 59 = .ok (.istore 4, 2) := by decide +kernel
theorem dX4_readRule_61 : decode cX4_readRule 61 = .ok (.iload 4, 2) := by decide +kernel
theorem dX4_readRule_63 : decode cX4_readRule 63 = .ok (.iconst (-1), 1) := by decide +kernel
theorem dX4_readRule_64 : decode cX4_readRule 64 = .ok (.if_icmp .ne 5, 3) := by decide +kernel
theorem dX4_readRule_67 : decode cX4_readRule 67 = .ok (.iconst 0, 1) := by decide +kernel
theorem dX4_readRule_68 : decode cX4_readRule 68 = .ok (.ireturn, 1) := by decide +kernel
theorem dX4_readRule_69 : decode cX4_readRule 69 = .ok (.aload_n 0, 1) := by decide +kernel
theorem dX4_readRule_70 : decode cX4_readRule 70 = .ok (.aload_n 1, 1) := by decide +kernel
theorem dX4_readRule_71 : decode cX4_readRule 71 = .ok (.invokevirtual 58, 3) := by decide +kernel
theorem dX4_readRule_74 : decode cX4_readRule 74 = .ok (.istore 5, 2) := by decide +kernel
theorem dX4_readRule_76 : decode cX4_readRule 76 = .ok (.aload_n 0, 1) := by decide +kernel
theorem dX4_readRule_77 : decode cX4_readRule 77 = .ok (.aload_n 1, 1) := by decide +kernel
theorem dX4_readRule_78 : decode cX4_readRule 78 = .ok (.invokevirtual 61, 3) := by decide +kernel
theorem dX4_readRule_81 : decode cX4_readRule 81 = .ok (.istore 6, 2) := by decide +kernel
theorem dX4_readRule_83 : decode cX4_readRule 83 = .ok (.iload 6, 2) := by decide +kernel
theorem dX4_readRule_85 : decode cX4_readRule 85 = .ok (.iconst (-1), 1) := by decide +kernel
theorem dX4_readRule_86 : decode cX4_readRule 86 = .ok (.if_icmp .eq 13, 3) := by decide +kernel
theorem dX4_readRule_89 : decode cX4_readRule 89 = .ok (.aload_n 0, 1) := by decide +kernel
theorem dX4_readRule_90 : decode cX4_readRule 90 = .ok (.aload_n 1, 1) := by decide +kernel
theorem dX4_readRule_91 : decode cX4_readRule 91 = .ok (.bipush 59, 2) := by decide +kernel
theorem dX4_readRule_93 : decode cX4_readRule 93 = .ok (.invokevirtual 54, 3) := by decide +kernel
theorem dX4_readRule_96 : decode cX4_readRule 96 = .ok (.ifCond .ne 5, 3) := by decide +kernel
theorem dX4_readRule_99 : decode cX4_readRule 99 = .ok (.iconst 0, 1) := by decide +kernel
theorem dX4_readRule_100 : decode cX4_readRule 100 = .ok (.ireturn, 1) := by decide +kernel
theorem dX4_readRule_101 : decode cX4_readRule 101 = .ok (.aload_n 0, 1) := by decide +kernel
theorem dX4_readRule_102 : decode cX4_readRule 102 = .ok (.getfield 12, 3) := by decide +kernel
theorem dX4_readRule_105 : decode cX4_readRule 105 = .ok (.getfield 29, 3) := by decide +kernel
theorem dX4_readRule_108 : decode cX4_readRule 108 = .ok (.istore 7, 2) := by decide +kernel
theorem dX4_readRule_110 : decode cX4_readRule 110 = .ok (.aload_n 0, 1) := by decide +kernel
theorem dX4_readRule_111 : decode cX4_readRule 111 = .ok (.getfield 12, 3) := by decide +kernel
theorem dX4_readRule_114 : decode cX4_readRule 114 = .ok (.getfield 64, 3) := by decide +kernel
theorem dX4_readRule_117 : decode cX4_readRule 117 = .ok (.iload 7, 2) := by decide +kernel
theorem dX4_readRule_119 : decode cX4_readRule 119 = .ok (.iload_n 2, 1) := by decide +kernel
theorem dX4_readRule_120 : decode cX4_readRule 120 = .ok (.bipush 65, 2) := by decide +kernel
theorem dX4_readRule_122 : decode cX4_readRule 122 = .ok (.isub, 1) := by decide +kernel
theorem dX4_readRule_123 : decode cX4_readRule 123 = .ok (.iastore, 1) := by decide +kernel
theorem dX4_readRule_124 : decode cX4_readRule 124 = .ok (.aload_n 0, 1) := by decide +kernel
theorem dX4_readRule_125 : decode cX4_readRule 125 = .ok (.getfield 12, 3) := by decide +kernel
theorem dX4_readRule_128 : decode cX4_readRule 128 = .ok (.getfield 67, 3) := by decide +kernel
theorem dX4_readRule_131 : decode cX4_readRule 131 = .ok (.iload 7, 2) := by decide +kernel
theorem dX4_readRule_133 : decode cX4_readRule 133 = .ok (.iload 4, 2) := by decide +kernel
theorem dX4_readRule_135 : decode cX4_readRule 135 = .ok (.iastore, 1) := by decide +kernel
theorem dX4_readRule_136 : decode cX4_readRule 136 = .ok (.aload_n 0, 1) := by decide +kernel
theorem dX4_readRule_137 : decode cX4_readRule 137 = .ok (.getfield 12, 3) := by decide +kernel
theorem dX4_readRule_140 : decode cX4_readRule 140 = .ok (.getfield 70, 3) := by decide +kernel
theorem dX4_readRule_143 : decode cX4_readRule 143 = .ok (.iload 7, 2) := by decide +kernel
theorem dX4_readRule_145 : decode cX4_readRule 145 = .ok (.iload 5, 2) := by decide +kernel
theorem dX4_readRule_147 : decode cX4_readRule 147 = .ok (.iastore, 1) := by decide +kernel
theorem dX4_readRule_148 : decode cX4_readRule 148 = .ok (.aload_n 0, 1) := by decide +kernel
theorem dX4_readRule_149 : decode cX4_readRule 149 = .ok (.getfield 12, 3) := by decide +kernel
theorem dX4_readRule_152 : decode cX4_readRule 152 = .ok (.getfield 73, 3) := by decide +kernel
theorem dX4_readRule_155 : decode cX4_readRule 155 = .ok (.iload 7, 2) := by decide +kernel
theorem dX4_readRule_157 : decode cX4_readRule 157 = .ok (.iload 6, 2) := by decide +kernel
theorem dX4_readRule_159 : decode cX4_readRule 159 = .ok (.iastore, 1) := by decide +kernel
theorem dX4_readRule_160 : decode cX4_readRule 160 = .ok (.aload_n 0, 1) := by decide +kernel
theorem dX4_readRule_161 : decode cX4_readRule 161 = .ok (.getfield 18, 3) := by decide +kernel
theorem dX4_readRule_164 : decode cX4_readRule 164 = .ok (.iload 7, 2) := by decide +kernel
theorem dX4_readRule_166 : decode cX4_readRule 166 = .ok (.iload_n 3, 1) := by decide +kernel
theorem dX4_readRule_167 : decode cX4_readRule 167 = .ok (.iastore, 1) := by decide +kernel
theorem dX4_readRule_168 : decode cX4_readRule 168 = .ok (.aload_n 0, 1) := by decide +kernel
theorem dX4_readRule_169 : decode cX4_readRule 169 = .ok (.getfield 12, 3) := by decide +kernel
theorem dX4_readRule_172 : decode cX4_readRule 172 = .ok (.iload 7, 2) := by decide +kernel
theorem dX4_readRule_174 : decode cX4_readRule 174 = .ok (.iconst 1, 1) := by decide +kernel
theorem dX4_readRule_175 : decode cX4_readRule 175 = .ok (.iadd, 1) := by decide +kernel
theorem dX4_readRule_176 : decode cX4_readRule 176 = .ok (.putfield 29, 3) := by decide +kernel
theorem dX4_readRule_179 : decode cX4_readRule 179 = .ok (.iconst 1, 1) := by decide +kernel
theorem dX4_readRule_180 : decode cX4_readRule 180 = .ok (.ireturn, 1) := by decide +kernel
theorem dX4_readItem_0 : decode cX4_readItem 0 = .ok (.aload_n 0, 1) := by decide +kernel
theorem dX4_readItem_1 : decode cX4_readItem 1 = .ok (.aload_n 1, 1) := by decide +kernel
theorem dX4_readItem_2 : decode cX4_readItem 2 = .ok (.invokevirtual 32, 3) := by decide +kernel
theorem dX4_readItem_5 : decode cX4_readItem 5 = .ok (.istore_n 2, 1) := by decide +kernel
theorem dX4_readItem_6 : decode cX4_readItem 6 = .ok (.iload_n 2, 1) := by decide +kernel
theorem dX4_readItem_7 : decode cX4_readItem 7 = .ok (.invokestatic 50, 3) := by decide +kernel
theorem dX4_readItem_10 : decode cX4_readItem 10 = .ok (.ifCond .eq 18, 3) := by decide +kernel
theorem dX4_readItem_13 : decode cX4_readItem 13 = .ok (.aload_n 0, 1) := by decide +kernel
theorem dX4_readItem_14 : decode cX4_readItem 14 = .ok (.dup, 1) := by decide +kernel
theorem dX4_readItem_15 : decode cX4_readItem 15 = .ok (.getfield 25, 3) := by decide +kernel
theorem dX4_readItem_18 : decode cX4_readItem 18 = .ok (.iconst 1, 1) := by decide +kernel
theorem dX4_readItem_19 : decode cX4_readItem 19 = .ok (.iadd, 1) := by decide +kernel
theorem dX4_readItem_20 : decode cX4_readItem 20 = .ok (.putfield 25, 3) := by decide +kernel
theorem dX4_readItem_23 : decode cX4_readItem 23 = .ok (.iload_n 2, 1) := by decide +kernel
theorem dX4_readItem_24 : decode cX4_readItem 24 = .ok (.bipush 65, 2) := by decide +kernel
theorem dX4_readItem_26 : decode cX4_readItem 26 = .ok (.isub, 1) := by decide +kernel
theorem dX4_readItem_27 : decode cX4_readItem 27 = .ok (.ireturn, 1) := by decide +kernel
theorem dX4_readItem_28 : decode cX4_readItem 28 = .ok (.iload_n 2, 1) := by decide +kernel
theorem dX4_readItem_29 : decode cX4_readItem 29 = .ok (.bipush 49, 2) := by decide +kernel
theorem dX4_readItem_31 : decode cX4_readItem 31 = .ok (.if_icmp .lt 9, 3) := by decide +kernel
theorem dX4_readItem_34 : decode cX4_readItem 34 = .ok (.iload_n 2, 1) := by decide +kernel
theorem dX4_readItem_35 : decode cX4_readItem 35 = .ok (.bipush 55, 2) := by decide +kernel
theorem dX4_readItem_37 : decode cX4_readItem 37 = .ok (.if_icmp .le 5, 3) := by decide +kernel
theorem dX4_readItem_40 : decode cX4_readItem 40 = .ok (.iconst (-1), 1) := by decide +kernel
theorem dX4_readItem_41 : decode cX4_readItem 41 = .ok (.ireturn, 1) := by decide +kernel
theorem dX4_readItem_42 : decode cX4_readItem 42 = .ok (.aload_n 0, 1) := by decide +kernel
theorem dX4_readItem_43 : decode cX4_readItem 43 = .ok (.dup, 1) := by decide +kernel
theorem dX4_readItem_44 : decode cX4_readItem 44 = .ok (.getfield 25, 3) := by decide +kernel
theorem dX4_readItem_47 : decode cX4_readItem 47 = .ok (.iconst 1, 1) := by decide +kernel
theorem dX4_readItem_48 : decode cX4_readItem 48 = .ok (.iadd, 1) := by decide +kernel
theorem dX4_readItem_49 : decode cX4_readItem 49 = .ok (.putfield 25, 3) := by decide +kernel
theorem dX4_readItem_52 : decode cX4_readItem 52 = .ok (.aload_n 1, 1) := by decide +kernel
theorem dX4_readItem_53 : decode cX4_readItem 53 = .ok (.aload_n 0, 1) := by decide +kernel
theorem dX4_readItem_54 : decode cX4_readItem 54 = .ok (.getfield 25, 3) := by decide +kernel
theorem dX4_readItem_57 : decode cX4_readItem 57 = .ok (.invokevirtual 76, 3) := by decide +kernel
theorem dX4_readItem_60 : decode cX4_readItem 60 = .ok (.invokestatic 82, 3) := by decide +kernel
theorem dX4_readItem_63 : decode cX4_readItem 63 = .ok (.istore_n 3, 1) := by decide +kernel
theorem dX4_readItem_64 : decode cX4_readItem 64 = .ok (.iload_n 3, 1) := by decide +kernel
theorem dX4_readItem_65 : decode cX4_readItem 65 = .ok (.iconst (-1), 1) := by decide +kernel
theorem dX4_readItem_66 : decode cX4_readItem 66 = .ok (.if_icmp .ne 9, 3) := by decide +kernel
theorem dX4_readItem_69 : decode cX4_readItem 69 = .ok (.bipush 9, 2) := by decide +kernel
theorem dX4_readItem_71 : decode cX4_readItem 71 = .ok (.istore_n 3, 1) := by decide +kernel
theorem dX4_readItem_72 : decode cX4_readItem 72 = .ok (.goto 13, 3) := by decide +kernel
theorem dX4_readItem_75 : decode cX4_readItem 75 = .ok (.aload_n 0, 1) := by decide +kernel
theorem dX4_readItem_76 : decode cX4_readItem 76 = .ok (.dup, 1) := by decide +kernel
theorem dX4_readItem_77 : decode cX4_readItem 77 = .ok (.getfield 25, 3) := by decide +kernel
theorem dX4_readItem_80 : decode cX4_readItem 80 = .ok (.iconst 1, 1) := by decide +kernel
theorem dX4_readItem_81 : decode cX4_readItem 81 = .ok (.iadd, 1) := by decide +kernel
theorem dX4_readItem_82 : decode cX4_readItem 82 = .ok (.putfield 25, 3) := by decide +kernel
theorem dX4_readItem_85 : decode cX4_readItem 85 = .ok (.bipush 26, 2) := by decide +kernel
theorem dX4_readItem_87 : decode cX4_readItem 87 = .ok (.iload_n 2, 1) := by decide +kernel
theorem dX4_readItem_88 : decode cX4_readItem 88 = .ok (.bipush 49, 2) := by decide +kernel
theorem dX4_readItem_90 : decode cX4_readItem 90 = .ok (.isub, 1) := by decide +kernel
theorem dX4_readItem_91 : decode cX4_readItem 91 = .ok (.bipush 10, 2) := by decide +kernel
theorem dX4_readItem_93 : decode cX4_readItem 93 = .ok (.imul, 1) := by decide +kernel
theorem dX4_readItem_94 : decode cX4_readItem 94 = .ok (.iadd, 1) := by decide +kernel
theorem dX4_readItem_95 : decode cX4_readItem 95 = .ok (.iload_n 3, 1) := by decide +kernel
theorem dX4_readItem_96 : decode cX4_readItem 96 = .ok (.iadd, 1) := by decide +kernel
theorem dX4_readItem_97 : decode cX4_readItem 97 = .ok (.ireturn, 1) := by decide +kernel
theorem dX4_readCost_0 : decode cX4_readCost 0 = .ok (.aload_n 0, 1) := by decide +kernel
theorem dX4_readCost_1 : decode cX4_readCost 1 = .ok (.aload_n 1, 1) := by decide +kernel
theorem dX4_readCost_2 : decode cX4_readCost 2 = .ok (.bipush 58, 2) := by decide +kernel
theorem dX4_readCost_4 : decode cX4_readCost 4 = .ok (.invokevirtual 54, 3) := by decide +kernel
theorem dX4_readCost_7 : decode cX4_readCost 7 = .ok (.ifCond .ne 5, 3) := by decide +kernel
theorem dX4_readCost_10 : decode cX4_readCost 10 = .ok (.iconst 0, 1) := by decide +kernel
theorem dX4_readCost_11 : decode cX4_readCost 11 = .ok (.ireturn, 1) := by decide +kernel
theorem dX4_readCost_12 : decode cX4_readCost 12 = .ok (.aload_n 0, 1) := by decide +kernel
theorem dX4_readCost_13 : decode cX4_readCost 13 = .ok (.aload_n 1, 1) := by decide +kernel
theorem dX4_readCost_14 : decode cX4_readCost 14 = .ok (.invokevirtual 32, 3) := by decide +kernel
theorem dX4_readCost_17 : decode cX4_readCost 17 = .ok (.istore_n 2, 1) := by decide +kernel
theorem dX4_readCost_18 : decode cX4_readCost 18 = .ok (.iload_n 2, 1) := by decide +kernel
theorem dX4_readCost_19 : decode cX4_readCost 19 = .ok (.invokestatic 85, 3) := by decide +kernel
theorem dX4_readCost_22 : decode cX4_readCost 22 = .ok (.ifCond .ne 5, 3) := by decide +kernel
theorem dX4_readCost_25 : decode cX4_readCost 25 = .ok (.iconst (-1), 1) := by decide +kernel
theorem dX4_readCost_26 : decode cX4_readCost 26 = .ok (.ireturn, 1) := by decide +kernel
theorem dX4_readCost_27 : decode cX4_readCost 27 = .ok (.iconst 0, 1) := by decide +kernel
theorem dX4_readCost_28 : decode cX4_readCost 28 = .ok (.istore_n 3, 1) := by decide +kernel
theorem dX4_readCost_29 : decode cX4_readCost 29 = .ok (.iconst 0, 1) := by decide +kernel
theorem dX4_readCost_30 : decode cX4_readCost 30 = .ok (.istore 4, 2) := by decide +kernel
theorem dX4_readCost_32 : decode cX4_readCost 32 = .ok (.iload 4, 2) := by decide +kernel
theorem dX4_readCost_34 : decode cX4_readCost 34 = .ok (.iconst 3, 1) := by decide +kernel
theorem dX4_readCost_35 : decode cX4_readCost 35 = .ok (.if_icmp .ge 45, 3) := by decide +kernel
theorem dX4_readCost_38 : decode cX4_readCost 38 = .ok (.iload_n 2, 1) := by decide +kernel
theorem dX4_readCost_39 : decode cX4_readCost 39 = .ok (.invokestatic 85, 3) := by decide +kernel
theorem dX4_readCost_42 : decode cX4_readCost 42 = .ok (.ifCond .eq 38, 3) := by decide +kernel
theorem dX4_readCost_45 : decode cX4_readCost 45 = .ok (.iload_n 3, 1) := by decide +kernel
theorem dX4_readCost_46 : decode cX4_readCost 46 = .ok (.bipush 10, 2) := by decide +kernel
theorem dX4_readCost_48 : decode cX4_readCost 48 = .ok (.imul, 1) := by decide +kernel
theorem dX4_readCost_49 : decode cX4_readCost 49 = .ok (.iload_n 2, 1) := by decide +kernel
theorem dX4_readCost_50 : decode cX4_readCost 50 = .ok (.iadd, 1) := by decide +kernel
theorem dX4_readCost_51 : decode cX4_readCost 51 = .ok (.bipush 48, 2) := by decide +kernel
theorem dX4_readCost_53 : decode cX4_readCost 53 = .ok (.isub, 1) := by decide +kernel
theorem dX4_readCost_54 : decode cX4_readCost 54 = .ok (.istore_n 3, 1) := by decide +kernel
theorem dX4_readCost_55 : decode cX4_readCost 55 = .ok (.aload_n 0, 1) := by decide +kernel
theorem dX4_readCost_56 : decode cX4_readCost 56 = .ok (.dup, 1) := by decide +kernel
theorem dX4_readCost_57 : decode cX4_readCost 57 = .ok (.getfield 25, 3) := by decide +kernel
theorem dX4_readCost_60 : decode cX4_readCost 60 = .ok (.iconst 1, 1) := by decide +kernel
theorem dX4_readCost_61 : decode cX4_readCost 61 = .ok (.iadd, 1) := by decide +kernel
theorem dX4_readCost_62 : decode cX4_readCost 62 = .ok (.putfield 25, 3) := by decide +kernel
theorem dX4_readCost_65 : decode cX4_readCost 65 = .ok (.aload_n 1, 1) := by decide +kernel
theorem dX4_readCost_66 : decode cX4_readCost 66 = .ok (.aload_n 0, 1) := by decide +kernel
theorem dX4_readCost_67 : decode cX4_readCost 67 = .ok (.getfield 25, 3) := by decide +kernel
theorem dX4_readCost_70 : decode cX4_readCost 70 = .ok (.invokevirtual 76, 3) := by decide +kernel
theorem dX4_readCost_73 : decode cX4_readCost 73 = .ok (.istore_n 2, 1) := by decide +kernel
theorem dX4_readCost_74 : decode cX4_readCost 74 = .ok (.iinc 4 1, 3) := by decide +kernel
theorem dX4_readCost_77 : decode cX4_readCost 77 = .ok (.goto (-45), 3) := by decide +kernel
theorem dX4_readCost_80 : decode cX4_readCost 80 = .ok (.iload_n 3, 1) := by decide +kernel
theorem dX4_readCost_81 : decode cX4_readCost 81 = .ok (.ireturn, 1) := by decide +kernel
theorem dX4_takes_0 : decode cX4_takes 0 = .ok (.aload_n 0, 1) := by decide +kernel
theorem dX4_takes_1 : decode cX4_takes 1 = .ok (.aload_n 1, 1) := by decide +kernel
theorem dX4_takes_2 : decode cX4_takes 2 = .ok (.invokevirtual 32, 3) := by decide +kernel
theorem dX4_takes_5 : decode cX4_takes 5 = .ok (.iload_n 2, 1) := by decide +kernel
theorem dX4_takes_6 : decode cX4_takes 6 = .ok (.if_icmp .ne 7, 3) := by decide +kernel
theorem dX4_takes_9 : decode cX4_takes 9 = .ok (.iconst 1, 1) := by decide +kernel
theorem dX4_takes_10 : decode cX4_takes 10 = .ok (.goto 4, 3) := by decide +kernel
theorem dX4_takes_13 : decode cX4_takes 13 = .ok (.iconst 0, 1) := by decide +kernel
theorem dX4_takes_14 : decode cX4_takes 14 = .ok (.istore_n 3, 1) := by decide +kernel
theorem dX4_takes_15 : decode cX4_takes 15 = .ok (.iload_n 3, 1) := by decide +kernel
theorem dX4_takes_16 : decode cX4_takes 16 = .ok (.ifCond .eq 13, 3) := by decide +kernel
theorem dX4_takes_19 : decode cX4_takes 19 = .ok (.aload_n 0, 1) := by decide +kernel
theorem dX4_takes_20 : decode cX4_takes 20 = .ok (.dup, 1) := by decide +kernel
theorem dX4_takes_21 : decode cX4_takes 21 = .ok (.getfield 25, 3) := by decide +kernel
theorem dX4_takes_24 : decode cX4_takes 24 = .ok (.iconst 1, 1) := by decide +kernel
theorem dX4_takes_25 : decode cX4_takes 25 = .ok (.iadd, 1) := by decide +kernel
theorem dX4_takes_26 : decode cX4_takes 26 = .ok (.putfield 25, 3) := by decide +kernel
theorem dX4_takes_29 : decode cX4_takes 29 = .ok (.iload_n 3, 1) := by decide +kernel
theorem dX4_takes_30 : decode cX4_takes 30 = .ok (.ireturn, 1) := by decide +kernel
theorem dX4_nextOctet_0 : decode cX4_nextOctet 0 = .ok (.aload_n 0, 1) := by decide +kernel
theorem dX4_nextOctet_1 : decode cX4_nextOctet 1 = .ok (.getfield 25, 3) := by decide +kernel
theorem dX4_nextOctet_4 : decode cX4_nextOctet 4 = .ok (.aload_n 1, 1) := by decide +kernel
theorem dX4_nextOctet_5 : decode cX4_nextOctet 5 = .ok (.getfield 88, 3) := by decide +kernel
theorem dX4_nextOctet_8 : decode cX4_nextOctet 8 = .ok (.if_icmp .ge 29, 3) := by decide +kernel
theorem dX4_nextOctet_11 : decode cX4_nextOctet 11 = .ok (.aload_n 1, 1) := by decide +kernel
theorem dX4_nextOctet_12 : decode cX4_nextOctet 12 = .ok (.aload_n 0, 1) := by decide +kernel
theorem dX4_nextOctet_13 : decode cX4_nextOctet 13 = .ok (.getfield 25, 3) := by decide +kernel
theorem dX4_nextOctet_16 : decode cX4_nextOctet 16 = .ok (.invokevirtual 76, 3) := by decide +kernel
theorem dX4_nextOctet_19 : decode cX4_nextOctet 19 = .ok (.bipush 32, 2) := by decide +kernel
theorem dX4_nextOctet_21 : decode cX4_nextOctet 21 = .ok (.if_icmp .ne 16, 3) := by decide +kernel
theorem dX4_nextOctet_24 : decode cX4_nextOctet 24 = .ok (.aload_n 0, 1) := by decide +kernel
theorem dX4_nextOctet_25 : decode cX4_nextOctet 25 = .ok (.dup, 1) := by decide +kernel
theorem dX4_nextOctet_26 : decode cX4_nextOctet 26 = .ok (.getfield 25, 3) := by decide +kernel
theorem dX4_nextOctet_29 : decode cX4_nextOctet 29 = .ok (.iconst 1, 1) := by decide +kernel
theorem dX4_nextOctet_30 : decode cX4_nextOctet 30 = .ok (.iadd, 1) := by decide +kernel
theorem dX4_nextOctet_31 : decode cX4_nextOctet 31 = .ok (.putfield 25, 3) := by decide +kernel
theorem dX4_nextOctet_34 : decode cX4_nextOctet 34 = .ok (.goto (-34), 3) := by decide +kernel
theorem dX4_nextOctet_37 : decode cX4_nextOctet 37 = .ok (.aload_n 1, 1) := by decide +kernel
theorem dX4_nextOctet_38 : decode cX4_nextOctet 38 = .ok (.aload_n 0, 1) := by decide +kernel
theorem dX4_nextOctet_39 : decode cX4_nextOctet 39 = .ok (.getfield 25, 3) := by decide +kernel
theorem dX4_nextOctet_42 : decode cX4_nextOctet 42 = .ok (.invokevirtual 76, 3) := by decide +kernel
theorem dX4_nextOctet_45 : decode cX4_nextOctet 45 = .ok (.ireturn, 1) := by decide +kernel
theorem dX4_isName_0 : decode cX4_isName 0 = .ok (.iload_n 0, 1) := by decide +kernel
theorem dX4_isName_1 : decode cX4_isName 1 = .ok (.bipush 65, 2) := by decide +kernel
theorem dX4_isName_3 : decode cX4_isName 3 = .ok (.if_icmp .lt 13, 3) := by decide +kernel
theorem dX4_isName_6 : decode cX4_isName 6 = .ok (.iload_n 0, 1) := by decide +kernel
theorem dX4_isName_7 : decode cX4_isName 7 = .ok (.bipush 90, 2) := by decide +kernel
theorem dX4_isName_9 : decode cX4_isName 9 = .ok (.if_icmp .gt 7, 3) := by decide +kernel
theorem dX4_isName_12 : decode cX4_isName 12 = .ok (.iconst 1, 1) := by decide +kernel
theorem dX4_isName_13 : decode cX4_isName 13 = .ok (.goto 4, 3) := by decide +kernel
theorem dX4_isName_16 : decode cX4_isName 16 = .ok (.iconst 0, 1) := by decide +kernel
theorem dX4_isName_17 : decode cX4_isName 17 = .ok (.ireturn, 1) := by decide +kernel
theorem dX4_isFigure_0 : decode cX4_isFigure 0 = .ok (.iload_n 0, 1) := by decide +kernel
theorem dX4_isFigure_1 : decode cX4_isFigure 1 = .ok (.bipush 48, 2) := by decide +kernel
theorem dX4_isFigure_3 : decode cX4_isFigure 3 = .ok (.if_icmp .lt 13, 3) := by decide +kernel
theorem dX4_isFigure_6 : decode cX4_isFigure 6 = .ok (.iload_n 0, 1) := by decide +kernel
theorem dX4_isFigure_7 : decode cX4_isFigure 7 = .ok (.bipush 57, 2) := by decide +kernel
theorem dX4_isFigure_9 : decode cX4_isFigure 9 = .ok (.if_icmp .gt 7, 3) := by decide +kernel
theorem dX4_isFigure_12 : decode cX4_isFigure 12 = .ok (.iconst 1, 1) := by decide +kernel
theorem dX4_isFigure_13 : decode cX4_isFigure 13 = .ok (.goto 4, 3) := by decide +kernel
theorem dX4_isFigure_16 : decode cX4_isFigure 16 = .ok (.iconst 0, 1) := by decide +kernel
theorem dX4_isFigure_17 : decode cX4_isFigure 17 = .ok (.ireturn, 1) := by decide +kernel
theorem dX4_kindOf_0 : decode cX4_kindOf 0 = .ok (.iload_n 0, 1) := by decide +kernel
theorem dX4_kindOf_1 : decode cX4_kindOf 1 = .ok (.ifCond .ge 7, 3) := by decide +kernel
theorem dX4_kindOf_4 : decode cX4_kindOf 4 = .ok (.iconst (-1), 1) := by decide +kernel
theorem dX4_kindOf_5 : decode cX4_kindOf 5 = .ok (.goto 10, 3) := by decide +kernel
theorem dX4_kindOf_8 : decode cX4_kindOf 8 = .ok (.ldc 91, 2) := by decide +kernel
theorem dX4_kindOf_10 : decode cX4_kindOf 10 = .ok (.iload_n 0, 1) := by decide +kernel
theorem dX4_kindOf_11 : decode cX4_kindOf 11 = .ok (.i2c, 1) := by decide +kernel
theorem dX4_kindOf_12 : decode cX4_kindOf 12 = .ok (.invokevirtual 93, 3) := by decide +kernel
theorem dX4_kindOf_15 : decode cX4_kindOf 15 = .ok (.ireturn, 1) := by decide +kernel
theorem dX4_findReach_0 : decode cX4_findReach 0 = .ok (.iconst 0, 1) := by decide +kernel
theorem dX4_findReach_1 : decode cX4_findReach 1 = .ok (.istore_n 1, 1) := by decide +kernel
theorem dX4_findReach_2 : decode cX4_findReach 2 = .ok (.iload_n 1, 1) := by decide +kernel
theorem dX4_findReach_3 : decode cX4_findReach 3 = .ok (.bipush 26, 2) := by decide +kernel
theorem dX4_findReach_5 : decode cX4_findReach 5 = .ok (.if_icmp .ge 16, 3) := by decide +kernel
theorem dX4_findReach_8 : decode cX4_findReach 8 = .ok (.aload_n 0, 1) := by decide +kernel
theorem dX4_findReach_9 : decode cX4_findReach 9 = .ok (.getfield 22, 3) := by decide +kernel
theorem dX4_findReach_12 : decode cX4_findReach 12 = .ok (.iload_n 1, 1) := by decide +kernel
theorem dX4_findReach_13 : decode cX4_findReach 13 = .ok (.iconst 0, 1) := by decide +kernel
theorem dX4_findReach_14 : decode cX4_findReach 14 = .ok (.iastore, 1) := by decide +kernel
theorem dX4_findReach_15 : decode cX4_findReach 15 = .ok (.iinc 1 1, 3) := by decide +kernel
theorem dX4_findReach_18 : decode cX4_findReach 18 = .ok (.goto (-16), 3) := by decide +kernel
theorem dX4_findReach_21 : decode cX4_findReach 21 = .ok (.iconst 0, 1) := by decide +kernel
theorem dX4_findReach_22 : decode cX4_findReach 22 = .ok (.istore_n 1, 1) := by decide +kernel
theorem dX4_findReach_23 : decode cX4_findReach 23 = .ok (.iload_n 1, 1) := by decide +kernel
theorem dX4_findReach_24 : decode cX4_findReach 24 = .ok (.aload_n 0, 1) := by decide +kernel
theorem dX4_findReach_25 : decode cX4_findReach 25 = .ok (.getfield 12, 3) := by decide +kernel
theorem dX4_findReach_28 : decode cX4_findReach 28 = .ok (.getfield 29, 3) := by decide +kernel
theorem dX4_findReach_31 : decode cX4_findReach 31 = .ok (.if_icmp .ge 48, 3) := by decide +kernel
theorem dX4_findReach_34 : decode cX4_findReach 34 = .ok (.aload_n 0, 1) := by decide +kernel
theorem dX4_findReach_35 : decode cX4_findReach 35 = .ok (.getfield 12, 3) := by decide +kernel
theorem dX4_findReach_38 : decode cX4_findReach 38 = .ok (.iload_n 1, 1) := by decide +kernel
theorem dX4_findReach_39 : decode cX4_findReach 39 = .ok (.invokevirtual 98, 3) := by decide +kernel
theorem dX4_findReach_42 : decode cX4_findReach 42 = .ok (.ifCond .eq 31, 3) := by decide +kernel
theorem dX4_findReach_45 : decode cX4_findReach 45 = .ok (.aload_n 0, 1) := by decide +kernel
theorem dX4_findReach_46 : decode cX4_findReach 46 = .ok (.getfield 22, 3) := by decide +kernel
theorem dX4_findReach_49 : decode cX4_findReach 49 = .ok (.aload_n 0, 1) := by decide +kernel
theorem dX4_findReach_50 : decode cX4_findReach 50 = .ok (.getfield 12, 3) := by decide +kernel
theorem dX4_findReach_53 : decode cX4_findReach 53 = .ok (.getfield 64, 3) := by decide +kernel
theorem dX4_findReach_56 : decode cX4_findReach 56 = .ok (.iload_n 1, 1) := by decide +kernel
theorem dX4_findReach_57 : decode cX4_findReach 57 = .ok (.iaload, 1) := by decide +kernel
theorem dX4_findReach_58 : decode cX4_findReach 58 = .ok (.dup2, 1) := by decide +kernel
theorem dX4_findReach_59 : decode cX4_findReach 59 = .ok (.iaload, 1) := by decide +kernel
theorem dX4_findReach_60 : decode cX4_findReach 60 = .ok (.iconst 1, 1) := by decide +kernel
theorem dX4_findReach_61 : decode cX4_findReach 61 = .ok (.aload_n 0, 1) := by decide +kernel
theorem dX4_findReach_62 : decode cX4_findReach 62 = .ok (.getfield 12, 3) := by decide +kernel
theorem dX4_findReach_65 : decode cX4_findReach 65 = .ok (.getfield 67, 3) := by decide +kernel
theorem dX4_findReach_68 : decode cX4_findReach 68 = .ok (.iload_n 1, 1) := by decide +kernel
theorem dX4_findReach_69 : decode cX4_findReach 69 = .ok (.iaload, 1) := by decide +kernel
theorem dX4_findReach_70 : decode cX4_findReach 70 = .ok (.ishl, 1) := by decide +kernel
theorem dX4_findReach_71 : decode cX4_findReach 71 = .ok (.ior, 1) := by decide +kernel
theorem dX4_findReach_72 : decode cX4_findReach 72 = .ok (.iastore, 1) := by decide +kernel
theorem dX4_findReach_73 : decode cX4_findReach 73 = .ok (.iinc 1 1, 3) := by decide +kernel
theorem dX4_findReach_76 : decode cX4_findReach 76 = .ok (.goto (-53), 3) := by decide +kernel
theorem dX4_findReach_79 : decode cX4_findReach 79 = .ok (.iconst 0, 1) := by decide +kernel
theorem dX4_findReach_80 : decode cX4_findReach 80 = .ok (.istore_n 1, 1) := by decide +kernel
theorem dX4_findReach_81 : decode cX4_findReach 81 = .ok (.iload_n 1, 1) := by decide +kernel
theorem dX4_findReach_82 : decode cX4_findReach 82 = .ok (.bipush 26, 2) := by decide +kernel
theorem dX4_findReach_84 : decode cX4_findReach 84 = .ok (.if_icmp .ge 47, 3) := by decide +kernel
theorem dX4_findReach_87 : decode cX4_findReach 87 = .ok (.iconst 0, 1) := by decide +kernel
theorem dX4_findReach_88 : decode cX4_findReach 88 = .ok (.istore_n 2, 1) := by decide +kernel
theorem dX4_findReach_89 : decode cX4_findReach 89 = .ok (.iload_n 2, 1) := by decide +kernel
theorem dX4_findReach_90 : decode cX4_findReach 90 = .ok (.bipush 26, 2) := by decide +kernel
theorem dX4_findReach_92 : decode cX4_findReach 92 = .ok (.if_icmp .ge 33, 3) := by decide +kernel
theorem dX4_findReach_95 : decode cX4_findReach 95 = .ok (.aload_n 0, 1) := by decide +kernel
theorem dX4_findReach_96 : decode cX4_findReach 96 = .ok (.iload_n 2, 1) := by decide +kernel
theorem dX4_findReach_97 : decode cX4_findReach 97 = .ok (.iload_n 1, 1) := by decide +kernel
theorem dX4_findReach_98 : decode cX4_findReach 98 = .ok (.invokevirtual 101, 3) := by decide +kernel
theorem dX4_findReach_101 : decode cX4_findReach 101 = .ok (.ifCond .eq 18, 3) := by decide +kernel
theorem dX4_findReach_104 : decode cX4_findReach 104 = .ok (.aload_n 0, 1) := by decide +kernel
theorem dX4_findReach_105 : decode cX4_findReach 105 = .ok (.getfield 22, 3) := by decide +kernel
theorem dX4_findReach_108 : decode cX4_findReach 108 = .ok (.iload_n 2, 1) := by decide +kernel
theorem dX4_findReach_109 : decode cX4_findReach 109 = .ok (.dup2, 1) := by decide +kernel
theorem dX4_findReach_110 : decode cX4_findReach 110 = .ok (.iaload, 1) := by decide +kernel
theorem dX4_findReach_111 : decode cX4_findReach 111 = .ok (.aload_n 0, 1) := by decide +kernel
theorem dX4_findReach_112 : decode cX4_findReach 112 = .ok (.getfield 22, 3) := by decide +kernel
theorem dX4_findReach_115 : decode cX4_findReach 115 = .ok (.iload_n 1, 1) := by decide +kernel
theorem dX4_findReach_116 : decode cX4_findReach 116 = .ok (.iaload, 1) := by decide +kernel
theorem dX4_findReach_117 : decode cX4_findReach 117 = .ok (.ior, 1) := by decide +kernel
theorem dX4_findReach_118 : decode cX4_findReach 118 = .ok (.iastore, 1) := by decide +kernel
theorem dX4_findReach_119 : decode cX4_findReach 119 = .ok (.iinc 2 1, 3) := by decide +kernel
theorem dX4_findReach_122 : decode cX4_findReach 122 = .ok (.goto (-33), 3) := by decide +kernel
theorem dX4_findReach_125 : decode cX4_findReach 125 = .ok (.iinc 1 1, 3) := by decide +kernel
theorem dX4_findReach_128 : decode cX4_findReach 128 = .ok (.goto (-47), 3) := by decide +kernel
theorem dX4_findReach_131 : decode cX4_findReach 131 = .ok (.return_, 1) := by decide +kernel
theorem dX4_reaches_0 : decode cX4_reaches 0 = .ok (.aload_n 0, 1) := by decide +kernel
theorem dX4_reaches_1 : decode cX4_reaches 1 = .ok (.getfield 22, 3) := by decide +kernel
theorem dX4_reaches_4 : decode cX4_reaches 4 = .ok (.iload_n 1, 1) := by decide +kernel
theorem dX4_reaches_5 : decode cX4_reaches 5 = .ok (.iaload, 1) := by decide +kernel
theorem dX4_reaches_6 : decode cX4_reaches 6 = .ok (.iload_n 2, 1) := by decide +kernel
theorem dX4_reaches_7 : decode cX4_reaches 7 = .ok (.iushr, 1) := by decide +kernel
theorem dX4_reaches_8 : decode cX4_reaches 8 = .ok (.iconst 1, 1) := by decide +kernel
theorem dX4_reaches_9 : decode cX4_reaches 9 = .ok (.iand, 1) := by decide +kernel
theorem dX4_reaches_10 : decode cX4_reaches 10 = .ok (.ifCond .eq 7, 3) := by decide +kernel
theorem dX4_reaches_13 : decode cX4_reaches 13 = .ok (.iconst 1, 1) := by decide +kernel
theorem dX4_reaches_14 : decode cX4_reaches 14 = .ok (.goto 4, 3) := by decide +kernel
theorem dX4_reaches_17 : decode cX4_reaches 17 = .ok (.iconst 0, 1) := by decide +kernel
theorem dX4_reaches_18 : decode cX4_reaches 18 = .ok (.ireturn, 1) := by decide +kernel
theorem dX4_ringPlace_0 : decode cX4_ringPlace 0 = .ok (.iconst 0, 1) := by decide +kernel
theorem dX4_ringPlace_1 : decode cX4_ringPlace 1 = .ok (.istore_n 1, 1) := by decide +kernel
theorem dX4_ringPlace_2 : decode cX4_ringPlace 2 = .ok (.iload_n 1, 1) := by decide +kernel
theorem dX4_ringPlace_3 : decode cX4_ringPlace 3 = .ok (.aload_n 0, 1) := by decide +kernel
theorem dX4_ringPlace_4 : decode cX4_ringPlace 4 = .ok (.getfield 12, 3) := by decide +kernel
theorem dX4_ringPlace_7 : decode cX4_ringPlace 7 = .ok (.getfield 29, 3) := by decide +kernel
theorem dX4_ringPlace_10 : decode cX4_ringPlace 10 = .ok (.if_icmp .ge 52, 3) := by decide +kernel
theorem dX4_ringPlace_13 : decode cX4_ringPlace 13 = .ok (.aload_n 0, 1) := by decide +kernel
theorem dX4_ringPlace_14 : decode cX4_ringPlace 14 = .ok (.getfield 12, 3) := by decide +kernel
theorem dX4_ringPlace_17 : decode cX4_ringPlace 17 = .ok (.iload_n 1, 1) := by decide +kernel
theorem dX4_ringPlace_18 : decode cX4_ringPlace 18 = .ok (.invokevirtual 98, 3) := by decide +kernel
theorem dX4_ringPlace_21 : decode cX4_ringPlace 21 = .ok (.ifCond .eq 35, 3) := by decide +kernel
theorem dX4_ringPlace_24 : decode cX4_ringPlace 24 = .ok (.aload_n 0, 1) := by decide +kernel
theorem dX4_ringPlace_25 : decode cX4_ringPlace 25 = .ok (.aload_n 0, 1) := by decide +kernel
theorem dX4_ringPlace_26 : decode cX4_ringPlace 26 = .ok (.getfield 12, 3) := by decide +kernel
theorem dX4_ringPlace_29 : decode cX4_ringPlace 29 = .ok (.getfield 67, 3) := by decide +kernel
theorem dX4_ringPlace_32 : decode cX4_ringPlace 32 = .ok (.iload_n 1, 1) := by decide +kernel
theorem dX4_ringPlace_33 : decode cX4_ringPlace 33 = .ok (.iaload, 1) := by decide +kernel
theorem dX4_ringPlace_34 : decode cX4_ringPlace 34 = .ok (.aload_n 0, 1) := by decide +kernel
theorem dX4_ringPlace_35 : decode cX4_ringPlace 35 = .ok (.getfield 12, 3) := by decide +kernel
theorem dX4_ringPlace_38 : decode cX4_ringPlace 38 = .ok (.getfield 64, 3) := by decide +kernel
theorem dX4_ringPlace_41 : decode cX4_ringPlace 41 = .ok (.iload_n 1, 1) := by decide +kernel
theorem dX4_ringPlace_42 : decode cX4_ringPlace 42 = .ok (.iaload, 1) := by decide +kernel
theorem dX4_ringPlace_43 : decode cX4_ringPlace 43 = .ok (.invokevirtual 101, 3) := by decide +kernel
theorem dX4_ringPlace_46 : decode cX4_ringPlace 46 = .ok (.ifCond .eq 10, 3) := by decide +kernel
theorem dX4_ringPlace_49 : decode cX4_ringPlace 49 = .ok (.aload_n 0, 1) := by decide +kernel
theorem dX4_ringPlace_50 : decode cX4_ringPlace 50 = .ok (.getfield 18, 3) := by decide +kernel
theorem dX4_ringPlace_53 : decode cX4_ringPlace 53 = .ok (.iload_n 1, 1) := by decide +kernel
theorem dX4_ringPlace_54 : decode cX4_ringPlace 54 = .ok (.iaload, 1) := by decide +kernel
theorem dX4_ringPlace_55 : decode cX4_ringPlace 55 = .ok (.ireturn, 1) := by decide +kernel
theorem dX4_ringPlace_56 : decode cX4_ringPlace 56 = .ok (.iinc 1 1, 3) := by decide +kernel
theorem dX4_ringPlace_59 : decode cX4_ringPlace 59 = .ok (.goto (-57), 3) := by decide +kernel
theorem dX4_ringPlace_62 : decode cX4_ringPlace 62 = .ok (.iconst (-1), 1) := by decide +kernel
theorem dX4_ringPlace_63 : decode cX4_ringPlace 63 = .ok (.ireturn, 1) := by decide +kernel
theorem dX4_arrange_0 : decode cX4_arrange 0 = .ok (.iconst 0, 1) := by decide +kernel
theorem dX4_arrange_1 : decode cX4_arrange 1 = .ok (.istore_n 1, 1) := by decide +kernel
theorem dX4_arrange_2 : decode cX4_arrange 2 = .ok (.iconst 0, 1) := by decide +kernel
theorem dX4_arrange_3 : decode cX4_arrange 3 = .ok (.istore_n 2, 1) := by decide +kernel
theorem dX4_arrange_4 : decode cX4_arrange 4 = .ok (.iload_n 2, 1) := by decide +kernel
theorem dX4_arrange_5 : decode cX4_arrange 5 = .ok (.bipush 26, 2) := by decide +kernel
theorem dX4_arrange_7 : decode cX4_arrange 7 = .ok (.if_icmp .ge 68, 3) := by decide +kernel
theorem dX4_arrange_10 : decode cX4_arrange 10 = .ok (.iconst 0, 1) := by decide +kernel
theorem dX4_arrange_11 : decode cX4_arrange 11 = .ok (.istore_n 3, 1) := by decide +kernel
theorem dX4_arrange_12 : decode cX4_arrange 12 = .ok (.iload_n 3, 1) := by decide +kernel
theorem dX4_arrange_13 : decode cX4_arrange 13 = .ok (.aload_n 0, 1) := by decide +kernel
theorem dX4_arrange_14 : decode cX4_arrange 14 = .ok (.getfield 12, 3) := by decide +kernel
theorem dX4_arrange_17 : decode cX4_arrange 17 = .ok (.getfield 29, 3) := by decide +kernel
theorem dX4_arrange_20 : decode cX4_arrange 20 = .ok (.if_icmp .ge 49, 3) := by decide +kernel
theorem dX4_arrange_23 : decode cX4_arrange 23 = .ok (.iload_n 1, 1) := by decide +kernel
theorem dX4_arrange_24 : decode cX4_arrange 24 = .ok (.bipush 60, 2) := by decide +kernel
theorem dX4_arrange_26 : decode cX4_arrange 26 = .ok (.if_icmp .ge 37, 3) := by decide +kernel
theorem dX4_arrange_29 : decode cX4_arrange 29 = .ok (.aload_n 0, 1) := by decide +kernel
theorem dX4_arrange_30 : decode cX4_arrange 30 = .ok (.getfield 22, 3) := by decide +kernel
theorem dX4_arrange_33 : decode cX4_arrange 33 = .ok (.aload_n 0, 1) := by decide +kernel
theorem dX4_arrange_34 : decode cX4_arrange 34 = .ok (.getfield 12, 3) := by decide +kernel
theorem dX4_arrange_37 : decode cX4_arrange 37 = .ok (.getfield 64, 3) := by decide +kernel
theorem dX4_arrange_40 : decode cX4_arrange 40 = .ok (.iload_n 3, 1) := by decide +kernel
theorem dX4_arrange_41 : decode cX4_arrange 41 = .ok (.iaload, 1) := by decide +kernel
theorem dX4_arrange_42 : decode cX4_arrange 42 = .ok (.iaload, 1) := by decide +kernel
theorem dX4_arrange_43 : decode cX4_arrange 43 = .ok (.invokestatic 105, 3) := by decide +kernel
theorem dX4_arrange_46 : decode cX4_arrange 46 = .ok (.iload_n 2, 1) := by decide +kernel
theorem dX4_arrange_47 : decode cX4_arrange 47 = .ok (.if_icmp .ne 16, 3) := by decide +kernel
theorem dX4_arrange_50 : decode cX4_arrange 50 = .ok (.aload_n 0, 1) := by decide +kernel
theorem dX4_arrange_51 : decode cX4_arrange 51 = .ok (.getfield 12, 3) := by decide +kernel
theorem dX4_arrange_54 : decode cX4_arrange 54 = .ok (.getfield 110, 3) := by decide +kernel
theorem dX4_arrange_57 : decode cX4_arrange 57 = .ok (.iload_n 1, 1) := by decide +kernel
theorem dX4_arrange_58 : decode cX4_arrange 58 = .ok (.iload_n 3, 1) := by decide +kernel
theorem dX4_arrange_59 : decode cX4_arrange 59 = .ok (.iastore, 1) := by decide +kernel
theorem dX4_arrange_60 : decode cX4_arrange 60 = .ok (.iinc 1 1, 3) := by decide +kernel
theorem dX4_arrange_63 : decode cX4_arrange 63 = .ok (.iinc 3 1, 3) := by decide +kernel
theorem dX4_arrange_66 : decode cX4_arrange 66 = .ok (.goto (-54), 3) := by decide +kernel
theorem dX4_arrange_69 : decode cX4_arrange 69 = .ok (.iinc 2 1, 3) := by decide +kernel
theorem dX4_arrange_72 : decode cX4_arrange 72 = .ok (.goto (-68), 3) := by decide +kernel
theorem dX4_arrange_75 : decode cX4_arrange 75 = .ok (.return_, 1) := by decide +kernel
theorem dX5_init_0 : decode cX5_init 0 = .ok (.aload_n 0, 1) := by decide +kernel
theorem dX5_init_1 : decode cX5_init 1 = .ok (.invokespecial 3, 3) := by decide +kernel
theorem dX5_init_4 : decode cX5_init 4 = .ok (.aload_n 0, 1) := by decide +kernel
theorem dX5_init_5 : decode cX5_init 5 = .ok (.bipush 24, 2) := by decide +kernel
theorem dX5_init_7 : decode cX5_init 7 = .ok (.newarray .int, 2) := by decide +kernel
theorem dX5_init_9 : decode cX5_init 9 = .ok (.putfield 9, 3) := by decide +kernel
theorem dX5_init_12 : decode cX5_init 12 = .ok (.aload_n 0, 1) := by decide +kernel
theorem dX5_init_13 : decode cX5_init 13 = .ok (.bipush 24, 2) := by decide +kernel
theorem dX5_init_15 : decode cX5_init 15 = .ok (.newarray .int, 2) := by decide +kernel
theorem dX5_init_17 : decode cX5_init 17 = .ok (.putfield 15, 3) := by decide +kernel
theorem dX5_init_20 : decode cX5_init 20 = .ok (.aload_n 0, 1) := by decide +kernel
theorem dX5_init_21 : decode cX5_init 21 = .ok (.bipush 24, 2) := by decide +kernel
theorem dX5_init_23 : decode cX5_init 23 = .ok (.newarray .int, 2) := by decide +kernel
theorem dX5_init_25 : decode cX5_init 25 = .ok (.putfield 18, 3) := by decide +kernel
theorem dX5_init_28 : decode cX5_init 28 = .ok (.aload_n 0, 1) := by decide +kernel
theorem dX5_init_29 : decode cX5_init 29 = .ok (.iconst 0, 1) := by decide +kernel
theorem dX5_init_30 : decode cX5_init 30 = .ok (.putfield 21, 3) := by decide +kernel
theorem dX5_init_33 : decode cX5_init 33 = .ok (.return_, 1) := by decide +kernel
theorem dX5_has_0 : decode cX5_has 0 = .ok (.iload_n 1, 1) := by decide +kernel
theorem dX5_has_1 : decode cX5_has 1 = .ok (.ifCond .lt 15, 3) := by decide +kernel
theorem dX5_has_4 : decode cX5_has 4 = .ok (.iload_n 1, 1) := by decide +kernel
theorem dX5_has_5 : decode cX5_has 5 = .ok (.aload_n 0, 1) := by decide +kernel
theorem dX5_has_6 : decode cX5_has 6 = .ok (.getfield 21, 3) := by decide +kernel
theorem dX5_has_9 : decode cX5_has 9 = .ok (.if_icmp .ge 7, 3) := by decide +kernel
theorem dX5_has_12 : decode cX5_has 12 = .ok (.iconst 1, 1) := by decide +kernel
theorem dX5_has_13 : decode cX5_has 13 = .ok (.goto 4, 3) := by decide +kernel
theorem dX5_has_16 : decode cX5_has 16 = .ok (.iconst 0, 1) := by decide +kernel
theorem dX5_has_17 : decode cX5_has 17 = .ok (.ireturn, 1) := by decide +kernel
theorem dX5_add_0 : decode cX5_add 0 = .ok (.aload_n 0, 1) := by decide +kernel
theorem dX5_add_1 : decode cX5_add 1 = .ok (.getfield 21, 3) := by decide +kernel
theorem dX5_add_4 : decode cX5_add 4 = .ok (.bipush 24, 2) := by decide +kernel
theorem dX5_add_6 : decode cX5_add 6 = .ok (.if_icmp .ge 26, 3) := by decide +kernel
theorem dX5_add_9 : decode cX5_add 9 = .ok (.iload_n 1, 1) := by decide +kernel
theorem dX5_add_10 : decode cX5_add 10 = .ok (.iconst 1, 1) := by decide +kernel
theorem dX5_add_11 : decode cX5_add 11 = .ok (.if_icmp .lt 21, 3) := by decide +kernel
theorem dX5_add_14 : decode cX5_add 14 = .ok (.iload_n 1, 1) := by decide +kernel
theorem dX5_add_15 : decode cX5_add 15 = .ok (.sipush 4095, 3) := by decide +kernel
theorem dX5_add_18 : decode cX5_add 18 = .ok (.if_icmp .gt 14, 3) := by decide +kernel
theorem dX5_add_21 : decode cX5_add 21 = .ok (.iload_n 3, 1) := by decide +kernel
theorem dX5_add_22 : decode cX5_add 22 = .ok (.iconst (-1), 1) := by decide +kernel
theorem dX5_add_23 : decode cX5_add 23 = .ok (.if_icmp .lt 9, 3) := by decide +kernel
theorem dX5_add_26 : decode cX5_add 26 = .ok (.iload_n 3, 1) := by decide +kernel
theorem dX5_add_27 : decode cX5_add 27 = .ok (.bipush 127, 2) := by decide +kernel
theorem dX5_add_29 : decode cX5_add 29 = .ok (.if_icmp .le 5, 3) := by decide +kernel
theorem dX5_add_32 : decode cX5_add 32 = .ok (.iconst (-1), 1) := by decide +kernel
theorem dX5_add_33 : decode cX5_add 33 = .ok (.ireturn, 1) := by decide +kernel
theorem dX5_add_34 : decode cX5_add 34 = .ok (.iload_n 2, 1) := by decide +kernel
theorem dX5_add_35 : decode cX5_add 35 = .ok (.iconst (-1), 1) := by decide +kernel
theorem dX5_add_36 : decode cX5_add 36 = .ok (.if_icmp .eq 23, 3) := by decide +kernel
theorem dX5_add_39 : decode cX5_add 39 = .ok (.iload_n 2, 1) := by decide +kernel
theorem dX5_add_40 : decode cX5_add 40 = .ok (.ifCond .lt 17, 3) := by decide +kernel
theorem dX5_add_43 : decode cX5_add 43 = .ok (.iload_n 2, 1) := by decide +kernel
theorem dX5_add_44 : decode cX5_add 44 = .ok (.bipush 12, 2) := by decide +kernel
theorem dX5_add_46 : decode cX5_add 46 = .ok (.if_icmp .ge 11, 3) := by decide +kernel
theorem dX5_add_49 : decode cX5_add 49 = .ok (.iload_n 1, 1) := by decide +kernel
theorem dX5_add_50 : decode cX5_add 50 = .ok (.iload_n 2, 1) := by decide +kernel
theorem dX5_add_51 : decode cX5_add 51 = .ok (.iushr, 1) := by decide +kernel
theorem dX5_add_52 : decode cX5_add 52 = .ok (.iconst 1, 1) := by decide +kernel
theorem dX5_add_53 : decode cX5_add 53 = .ok (.iand, 1) := by decide +kernel
theorem dX5_add_54 : decode cX5_add 54 = .ok (.ifCond .ne 5, 3) := by decide +kernel
theorem dX5_add_57 : decode cX5_add 57 = .ok (.iconst (-1), 1) := by decide +kernel
theorem dX5_add_58 : decode cX5_add 58 = .ok (.ireturn, 1) := by decide +kernel
theorem dX5_add_59 : decode cX5_add 59 = .ok (.aload_n 0, 1) := by decide +kernel
theorem dX5_add_60 : decode cX5_add 60 = .ok (.getfield 9, 3) := by decide +kernel
theorem dX5_add_63 : decode cX5_add 63 = .ok (.aload_n 0, 1) := by decide +kernel
theorem dX5_add_64 : decode cX5_add 64 = .ok (.getfield 21, 3) := by decide +kernel
theorem dX5_add_67 : decode cX5_add 67 = .ok (.iload_n 1, 1) := by decide +kernel
theorem dX5_add_68 : decode cX5_add 68 = .ok (.iastore, 1) := by decide +kernel
theorem dX5_add_69 : decode cX5_add 69 = .ok (.aload_n 0, 1) := by decide +kernel
theorem dX5_add_70 : decode cX5_add 70 = .ok (.getfield 15, 3) := by decide +kernel
theorem dX5_add_73 : decode cX5_add 73 = .ok (.aload_n 0, 1) := by decide +kernel
theorem dX5_add_74 : decode cX5_add 74 = .ok (.getfield 21, 3) := by decide +kernel
theorem dX5_add_77 : decode cX5_add 77 = .ok (.iload_n 2, 1) := by decide +kernel
theorem dX5_add_78 : decode cX5_add 78 = .ok (.iastore, 1) := by decide +kernel
theorem dX5_add_79 : decode cX5_add 79 = .ok (.aload_n 0, 1) := by decide +kernel
theorem dX5_add_80 : decode cX5_add 80 = .ok (.getfield 18, 3) := by decide +kernel
theorem dX5_add_83 : decode cX5_add 83 = .ok (.aload_n 0, 1) := by decide +kernel
theorem dX5_add_84 : decode cX5_add 84 = .ok (.getfield 21, 3) := by decide +kernel
theorem dX5_add_87 : decode cX5_add 87 = .ok (.iload_n 3, 1) := by decide +kernel
theorem dX5_add_88 : decode cX5_add 88 = .ok (.iastore, 1) := by decide +kernel
theorem dX5_add_89 : decode cX5_add 89 = .ok (.aload_n 0, 1) := by decide +kernel
theorem dX5_add_90 : decode cX5_add 90 = .ok (.dup, 1) := by decide +kernel
theorem dX5_add_91 : decode cX5_add 91 = .ok (.getfield 21, 3) := by decide +kernel
theorem dX5_add_94 : decode cX5_add 94 = .ok (.iconst 1, 1) := by decide +kernel
theorem dX5_add_95 : decode cX5_add 95 = .ok (.iadd, 1) := by decide +kernel
theorem dX5_add_96 : decode cX5_add 96 = .ok (.putfield 21, 3) := by decide +kernel
theorem dX5_add_99 : decode cX5_add 99 = .ok (.aload_n 0, 1) := by decide +kernel
theorem dX5_add_100 : decode cX5_add 100 = .ok (.getfield 21, 3) := by decide +kernel
theorem dX5_add_103 : decode cX5_add 103 = .ok (.iconst 1, 1) := by decide +kernel
theorem dX5_add_104 : decode cX5_add 104 = .ok (.isub, 1) := by decide +kernel
theorem dX5_add_105 : decode cX5_add 105 = .ok (.ireturn, 1) := by decide +kernel
theorem dX6_init_0 : decode cX6_init 0 = .ok (.aload_n 0, 1) := by decide +kernel
theorem dX6_init_1 : decode cX6_init 1 = .ok (.invokespecial 3, 3) := by decide +kernel
theorem dX6_init_4 : decode cX6_init 4 = .ok (.aload_n 0, 1) := by decide +kernel
theorem dX6_init_5 : decode cX6_init 5 = .ok (.sipush 1680, 3) := by decide +kernel
theorem dX6_init_8 : decode cX6_init 8 = .ok (.newarray .int, 2) := by decide +kernel
theorem dX6_init_10 : decode cX6_init 10 = .ok (.putfield 9, 3) := by decide +kernel
theorem dX6_init_13 : decode cX6_init 13 = .ok (.aload_n 0, 1) := by decide +kernel
theorem dX6_init_14 : decode cX6_init 14 = .ok (.sipush 1680, 3) := by decide +kernel
theorem dX6_init_17 : decode cX6_init 17 = .ok (.newarray .int, 2) := by decide +kernel
theorem dX6_init_19 : decode cX6_init 19 = .ok (.putfield 15, 3) := by decide +kernel
theorem dX6_init_22 : decode cX6_init 22 = .ok (.return_, 1) := by decide +kernel
theorem dX6_fill_0 : decode cX6_fill 0 = .ok (.iconst 0, 1) := by decide +kernel
theorem dX6_fill_1 : decode cX6_fill 1 = .ok (.istore 4, 2) := by decide +kernel
theorem dX6_fill_3 : decode cX6_fill 3 = .ok (.iload 4, 2) := by decide +kernel
theorem dX6_fill_5 : decode cX6_fill 5 = .ok (.aload_n 1, 1) := by decide +kernel
theorem dX6_fill_6 : decode cX6_fill 6 = .ok (.getfield 18, 3) := by decide +kernel
theorem dX6_fill_9 : decode cX6_fill 9 = .ok (.if_icmp .ge 41, 3) := by decide +kernel
theorem dX6_fill_12 : decode cX6_fill 12 = .ok (.iconst 0, 1) := by decide +kernel
theorem dX6_fill_13 : decode cX6_fill 13 = .ok (.istore 5, 2) := by decide +kernel
theorem dX6_fill_15 : decode cX6_fill 15 = .ok (.iload 5, 2) := by decide +kernel
theorem dX6_fill_17 : decode cX6_fill 17 = .ok (.bipush 7, 2) := by decide +kernel
theorem dX6_fill_19 : decode cX6_fill 19 = .ok (.if_icmp .ge 25, 3) := by decide +kernel
theorem dX6_fill_22 : decode cX6_fill 22 = .ok (.aload_n 0, 1) := by decide +kernel
theorem dX6_fill_23 : decode cX6_fill 23 = .ok (.aload_n 1, 1) := by decide +kernel
theorem dX6_fill_24 : decode cX6_fill 24 = .ok (.iload 4, 2) := by decide +kernel
theorem dX6_fill_26 : decode cX6_fill 26 = .ok (.iload 5, 2) := by decide +kernel
theorem dX6_fill_28 : decode cX6_fill 28 = .ok (.aload_n 2, 1) := by decide +kernel
theorem dX6_fill_29 : decode cX6_fill 29 = .ok (.iload 5, 2) := by decide +kernel
theorem dX6_fill_31 : decode cX6_fill 31 = .ok (.invokevirtual 24, 3) := by decide +kernel
theorem dX6_fill_34 : decode cX6_fill 34 = .ok (.aload_n 3, 1) := by decide +kernel
theorem dX6_fill_35 : decode cX6_fill 35 = .ok (.invokevirtual 30, 3) := by decide +kernel
theorem dX6_fill_38 : decode cX6_fill 38 = .ok (.iinc 5 1, 3) := by decide +kernel
theorem dX6_fill_41 : decode cX6_fill 41 = .ok (.goto (-26), 3) := by decide +kernel
theorem dX6_fill_44 : decode cX6_fill 44 = .ok (.iinc 4 1, 3) := by decide +kernel
theorem dX6_fill_47 : decode cX6_fill 47 = .ok (.goto (-44), 3) := by decide +kernel
theorem dX6_fill_50 : decode cX6_fill 50 = .ok (.return_, 1) := by decide +kernel
theorem dX6_fillDegree_0 : decode cX6_fillDegree 0 = .ok (.iload_n 2, 1) := by decide +kernel
theorem dX6_fillDegree_1 : decode cX6_fillDegree 1 = .ok (.bipush 70, 2) := by decide +kernel
theorem dX6_fillDegree_3 : decode cX6_fillDegree 3 = .ok (.imul, 1) := by decide +kernel
theorem dX6_fillDegree_4 : decode cX6_fillDegree 4 = .ok (.iload_n 3, 1) := by decide +kernel
theorem dX6_fillDegree_5 : decode cX6_fillDegree 5 = .ok (.bipush 10, 2) := by decide +kernel
theorem dX6_fillDegree_7 : decode cX6_fillDegree 7 = .ok (.imul, 1) := by decide +kernel
theorem dX6_fillDegree_8 : decode cX6_fillDegree 8 = .ok (.iadd, 1) := by decide +kernel
theorem dX6_fillDegree_9 : decode cX6_fillDegree 9 = .ok (.istore 6, 2) := by decide +kernel
theorem dX6_fillDegree_11 : decode cX6_fillDegree 11 = .ok (.iload 6, 2) := by decide +kernel
theorem dX6_fillDegree_13 : decode cX6_fillDegree 13 = .ok (.bipush 9, 2) := by decide +kernel
theorem dX6_fillDegree_15 : decode cX6_fillDegree 15 = .ok (.iadd, 1) := by decide +kernel
theorem dX6_fillDegree_16 : decode cX6_fillDegree 16 = .ok (.istore 7, 2) := by decide +kernel
theorem dX6_fillDegree_18 : decode cX6_fillDegree 18 = .ok (.aload_n 0, 1) := by decide +kernel
theorem dX6_fillDegree_19 : decode cX6_fillDegree 19 = .ok (.getfield 9, 3) := by decide +kernel
theorem dX6_fillDegree_22 : decode cX6_fillDegree 22 = .ok (.iload 7, 2) := by decide +kernel
theorem dX6_fillDegree_24 : decode cX6_fillDegree 24 = .ok (.iconst (-1), 1) := by decide +kernel
theorem dX6_fillDegree_25 : decode cX6_fillDegree 25 = .ok (.iastore, 1) := by decide +kernel
theorem dX6_fillDegree_26 : decode cX6_fillDegree 26 = .ok (.aload_n 0, 1) := by decide +kernel
theorem dX6_fillDegree_27 : decode cX6_fillDegree 27 = .ok (.getfield 15, 3) := by decide +kernel
theorem dX6_fillDegree_30 : decode cX6_fillDegree 30 = .ok (.iload 7, 2) := by decide +kernel
theorem dX6_fillDegree_32 : decode cX6_fillDegree 32 = .ok (.iconst (-1), 1) := by decide +kernel
theorem dX6_fillDegree_33 : decode cX6_fillDegree 33 = .ok (.iastore, 1) := by decide +kernel
theorem dX6_fillDegree_34 : decode cX6_fillDegree 34 = .ok (.iconst 0, 1) := by decide +kernel
theorem dX6_fillDegree_35 : decode cX6_fillDegree 35 = .ok (.istore 8, 2) := by decide +kernel
theorem dX6_fillDegree_37 : decode cX6_fillDegree 37 = .ok (.iload 8, 2) := by decide +kernel
theorem dX6_fillDegree_39 : decode cX6_fillDegree 39 = .ok (.bipush 9, 2) := by decide +kernel
theorem dX6_fillDegree_41 : decode cX6_fillDegree 41 = .ok (.if_icmp .ge 123, 3) := by decide +kernel
theorem dX6_fillDegree_44 : decode cX6_fillDegree 44 = .ok (.aload 5, 2) := by decide +kernel
theorem dX6_fillDegree_46 : decode cX6_fillDegree 46 = .ok (.aload_n 1, 1) := by decide +kernel
theorem dX6_fillDegree_47 : decode cX6_fillDegree 47 = .ok (.getfield 34, 3) := by decide +kernel
theorem dX6_fillDegree_50 : decode cX6_fillDegree 50 = .ok (.iload_n 2, 1) := by decide +kernel
theorem dX6_fillDegree_51 : decode cX6_fillDegree 51 = .ok (.iaload, 1) := by decide +kernel
theorem dX6_fillDegree_52 : decode cX6_fillDegree 52 = .ok (.aload_n 1, 1) := by decide +kernel
theorem dX6_fillDegree_53 : decode cX6_fillDegree 53 = .ok (.getfield 37, 3) := by decide +kernel
