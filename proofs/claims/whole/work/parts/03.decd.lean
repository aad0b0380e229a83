theorem dX10_parse_255 : decode cX10_parse 255 = .ok (.iload 5, 2) := by decide +kernel
theorem dX10_parse_257 : decode cX10_parse 257 = .ok (.iload 6, 2) := by decide +kernel
theorem dX10_parse_259 : decode cX10_parse 259 = .ok (.iload_n 2, 1) := by decide +kernel
theorem dX10_parse_260 : decode cX10_parse 260 = .ok (.iload_n 2, 1) := by decide +kernel
theorem dX10_parse_261 : decode cX10_parse 261 = .ok (.iload_n 1, 1) := by decide +kernel
theorem dX10_parse_262 : decode cX10_parse 262 = .ok (.iadd, 1) := by decide +kernel
theorem dX10_parse_263 : decode cX10_parse 263 = .ok (.invokevirtual 231, 3) := by decide +kernel
theorem dX10_parse_266 : decode cX10_parse 266 = .ok (.goto 27, 3) := by decide +kernel
theorem dX10_parse_269 : decode cX10_parse 269 = .ok (.aload_n 0, 1) := by decide +kernel
theorem dX10_parse_270 : decode cX10_parse 270 = .ok (.getfield 56, 3) := by decide +kernel
theorem dX10_parse_273 : decode cX10_parse 273 = .ok (.iload 6, 2) := by decide +kernel
theorem dX10_parse_275 : decode cX10_parse 275 = .ok (.iaload, 1) := by decide +kernel
theorem dX10_parse_276 : decode cX10_parse 276 = .ok (.iload 4, 2) := by decide +kernel
theorem dX10_parse_278 : decode cX10_parse 278 = .ok (.if_icmp .ne 15, 3) := by decide +kernel
theorem dX10_parse_281 : decode cX10_parse 281 = .ok (.aload_n 0, 1) := by decide +kernel
theorem dX10_parse_282 : decode cX10_parse 282 = .ok (.iload 5, 2) := by decide +kernel
theorem dX10_parse_284 : decode cX10_parse 284 = .ok (.iload 6, 2) := by decide +kernel
theorem dX10_parse_286 : decode cX10_parse 286 = .ok (.iload_n 2, 1) := by decide +kernel
theorem dX10_parse_287 : decode cX10_parse 287 = .ok (.iload_n 2, 1) := by decide +kernel
theorem dX10_parse_288 : decode cX10_parse 288 = .ok (.iload_n 1, 1) := by decide +kernel
theorem dX10_parse_289 : decode cX10_parse 289 = .ok (.iadd, 1) := by decide +kernel
theorem dX10_parse_290 : decode cX10_parse 290 = .ok (.invokevirtual 235, 3) := by decide +kernel
theorem dX10_parse_293 : decode cX10_parse 293 = .ok (.iinc 6 1, 3) := by decide +kernel
theorem dX10_parse_296 : decode cX10_parse 296 = .ok (.goto (-74), 3) := by decide +kernel
theorem dX10_parse_299 : decode cX10_parse 299 = .ok (.iinc 3 1, 3) := by decide +kernel
theorem dX10_parse_302 : decode cX10_parse 302 = .ok (.goto (-107), 3) := by decide +kernel
theorem dX10_parse_305 : decode cX10_parse 305 = .ok (.iinc 2 1, 3) := by decide +kernel
theorem dX10_parse_308 : decode cX10_parse 308 = .ok (.goto (-125), 3) := by decide +kernel
theorem dX10_parse_311 : decode cX10_parse 311 = .ok (.iinc 1 1, 3) := by decide +kernel
theorem dX10_parse_314 : decode cX10_parse 314 = .ok (.goto (-141), 3) := by decide +kernel
theorem dX10_parse_317 : decode cX10_parse 317 = .ok (.aload_n 0, 1) := by decide +kernel
theorem dX10_parse_318 : decode cX10_parse 318 = .ok (.invokevirtual 238, 3) := by decide +kernel
theorem dX10_parse_321 : decode cX10_parse 321 = .ok (.ireturn, 1) := by decide +kernel
theorem dX10_topCell_0 : decode cX10_topCell 0 = .ok (.aload_n 0, 1) := by decide +kernel
theorem dX10_topCell_1 : decode cX10_topCell 1 = .ok (.getfield 56, 3) := by decide +kernel
theorem dX10_topCell_4 : decode cX10_topCell 4 = .ok (.iconst 0, 1) := by decide +kernel
theorem dX10_topCell_5 : decode cX10_topCell 5 = .ok (.iaload, 1) := by decide +kernel
theorem dX10_topCell_6 : decode cX10_topCell 6 = .ok (.iconst 0, 1) := by decide +kernel
theorem dX10_topCell_7 : decode cX10_topCell 7 = .ok (.aload_n 0, 1) := by decide +kernel
theorem dX10_topCell_8 : decode cX10_topCell 8 = .ok (.getfield 192, 3) := by decide +kernel
theorem dX10_topCell_11 : decode cX10_topCell 11 = .ok (.iconst 1, 1) := by decide +kernel
theorem dX10_topCell_12 : decode cX10_topCell 12 = .ok (.isub, 1) := by decide +kernel
theorem dX10_topCell_13 : decode cX10_topCell 13 = .ok (.invokestatic 198, 3) := by decide +kernel
theorem dX10_topCell_16 : decode cX10_topCell 16 = .ok (.ireturn, 1) := by decide +kernel
theorem dX10_listed_0 : decode cX10_listed 0 = .ok (.aload_n 0, 1) := by decide +kernel
theorem dX10_listed_1 : decode cX10_listed 1 = .ok (.getfield 219, 3) := by decide +kernel
theorem dX10_listed_4 : decode cX10_listed 4 = .ok (.ifCond .eq 15, 3) := by decide +kernel
theorem dX10_listed_7 : decode cX10_listed 7 = .ok (.aload_n 0, 1) := by decide +kernel
theorem dX10_listed_8 : decode cX10_listed 8 = .ok (.getfield 77, 3) := by decide +kernel
theorem dX10_listed_11 : decode cX10_listed 11 = .ok (.aload_n 0, 1) := by decide +kernel
theorem dX10_listed_12 : decode cX10_listed 12 = .ok (.invokevirtual 241, 3) := by decide +kernel
theorem dX10_listed_15 : decode cX10_listed 15 = .ok (.iaload, 1) := by decide +kernel
theorem dX10_listed_16 : decode cX10_listed 16 = .ok (.goto 4, 3) := by decide +kernel
theorem dX10_listed_19 : decode cX10_listed 19 = .ok (.iconst 0, 1) := by decide +kernel
theorem dX10_listed_20 : decode cX10_listed 20 = .ok (.ireturn, 1) := by decide +kernel
theorem dX10_noReading_0 : decode cX10_noReading 0 = .ok (.iload_n 1, 1) := by decide +kernel
theorem dX10_noReading_1 : decode cX10_noReading 1 = .ok (.ifCond .lt 11, 3) := by decide +kernel
theorem dX10_noReading_4 : decode cX10_noReading 4 = .ok (.iload_n 1, 1) := by decide +kernel
theorem dX10_noReading_5 : decode cX10_noReading 5 = .ok (.aload_n 0, 1) := by decide +kernel
theorem dX10_noReading_6 : decode cX10_noReading 6 = .ok (.invokevirtual 238, 3) := by decide +kernel
theorem dX10_noReading_9 : decode cX10_noReading 9 = .ok (.if_icmp .lt 7, 3) := by decide +kernel
theorem dX10_noReading_12 : decode cX10_noReading 12 = .ok (.iconst 1, 1) := by decide +kernel
theorem dX10_noReading_13 : decode cX10_noReading 13 = .ok (.goto 4, 3) := by decide +kernel
theorem dX10_noReading_16 : decode cX10_noReading 16 = .ok (.iconst 0, 1) := by decide +kernel
theorem dX10_noReading_17 : decode cX10_noReading 17 = .ok (.ireturn, 1) := by decide +kernel
theorem dX10_readings_0 : decode cX10_readings 0 = .ok (.aload_n 0, 1) := by decide +kernel
theorem dX10_readings_1 : decode cX10_readings 1 = .ok (.iconst 0, 1) := by decide +kernel
theorem dX10_readings_2 : decode cX10_readings 2 = .ok (.putfield 106, 3) := by decide +kernel
theorem dX10_readings_5 : decode cX10_readings 5 = .ok (.aload_n 0, 1) := by decide +kernel
theorem dX10_readings_6 : decode cX10_readings 6 = .ok (.getfield 219, 3) := by decide +kernel
theorem dX10_readings_9 : decode cX10_readings 9 = .ok (.ifCond .eq 15, 3) := by decide +kernel
theorem dX10_readings_12 : decode cX10_readings 12 = .ok (.aload_n 0, 1) := by decide +kernel
theorem dX10_readings_13 : decode cX10_readings 13 = .ok (.getfield 80, 3) := by decide +kernel
theorem dX10_readings_16 : decode cX10_readings 16 = .ok (.aload_n 0, 1) := by decide +kernel
theorem dX10_readings_17 : decode cX10_readings 17 = .ok (.invokevirtual 241, 3) := by decide +kernel
theorem dX10_readings_20 : decode cX10_readings 20 = .ok (.laload, 1) := by decide +kernel
theorem dX10_readings_21 : decode cX10_readings 21 = .ok (.goto 4, 3) := by decide +kernel
theorem dX10_readings_24 : decode cX10_readings 24 = .ok (.lconst 0, 1) := by decide +kernel
theorem dX10_readings_25 : decode cX10_readings 25 = .ok (.lreturn, 1) := by decide +kernel
theorem dX10_price_0 : decode cX10_price 0 = .ok (.aload_n 0, 1) := by decide +kernel
theorem dX10_price_1 : decode cX10_price 1 = .ok (.iconst 0, 1) := by decide +kernel
theorem dX10_price_2 : decode cX10_price 2 = .ok (.putfield 106, 3) := by decide +kernel
theorem dX10_price_5 : decode cX10_price 5 = .ok (.aload_n 0, 1) := by decide +kernel
theorem dX10_price_6 : decode cX10_price 6 = .ok (.iload_n 1, 1) := by decide +kernel
theorem dX10_price_7 : decode cX10_price 7 = .ok (.invokevirtual 244, 3) := by decide +kernel
theorem dX10_price_10 : decode cX10_price 10 = .ok (.ifCond .eq 7, 3) := by decide +kernel
theorem dX10_price_13 : decode cX10_price 13 = .ok (.iconst (-1), 1) := by decide +kernel
theorem dX10_price_14 : decode cX10_price 14 = .ok (.goto 17, 3) := by decide +kernel
theorem dX10_price_17 : decode cX10_price 17 = .ok (.aload_n 0, 1) := by decide +kernel
theorem dX10_price_18 : decode cX10_price 18 = .ok (.getfield 85, 3) := by decide +kernel
theorem dX10_price_21 : decode cX10_price 21 = .ok (.bipush 30, 2) := by decide +kernel
theorem dX10_price_23 : decode cX10_price 23 = .ok (.aload_n 0, 1) := by decide +kernel
theorem dX10_price_24 : decode cX10_price 24 = .ok (.invokevirtual 241, 3) := by decide +kernel
theorem dX10_price_27 : decode cX10_price 27 = .ok (.imul, 1) := by decide +kernel
theorem dX10_price_28 : decode cX10_price 28 = .ok (.iload_n 1, 1) := by decide +kernel
theorem dX10_price_29 : decode cX10_price 29 = .ok (.iadd, 1) := by decide +kernel
theorem dX10_price_30 : decode cX10_price 30 = .ok (.iaload, 1) := by decide +kernel
theorem dX10_price_31 : decode cX10_price 31 = .ok (.ireturn, 1) := by decide +kernel
theorem dX10_later_0 : decode cX10_later 0 = .ok (.aload_n 0, 1) := by decide +kernel
theorem dX10_later_1 : decode cX10_later 1 = .ok (.getfield 94, 3) := by decide +kernel
theorem dX10_later_4 : decode cX10_later 4 = .ok (.aload_n 0, 1) := by decide +kernel
theorem dX10_later_5 : decode cX10_later 5 = .ok (.getfield 247, 3) := by decide +kernel
theorem dX10_later_8 : decode cX10_later 8 = .ok (.iload_n 1, 1) := by decide +kernel
theorem dX10_later_9 : decode cX10_later 9 = .ok (.iastore, 1) := by decide +kernel
theorem dX10_later_10 : decode cX10_later 10 = .ok (.aload_n 0, 1) := by decide +kernel
theorem dX10_later_11 : decode cX10_later 11 = .ok (.getfield 97, 3) := by decide +kernel
theorem dX10_later_14 : decode cX10_later 14 = .ok (.aload_n 0, 1) := by decide +kernel
theorem dX10_later_15 : decode cX10_later 15 = .ok (.getfield 247, 3) := by decide +kernel
theorem dX10_later_18 : decode cX10_later 18 = .ok (.iload_n 2, 1) := by decide +kernel
theorem dX10_later_19 : decode cX10_later 19 = .ok (.iastore, 1) := by decide +kernel
theorem dX10_later_20 : decode cX10_later 20 = .ok (.aload_n 0, 1) := by decide +kernel
theorem dX10_later_21 : decode cX10_later 21 = .ok (.getfield 100, 3) := by decide +kernel
theorem dX10_later_24 : decode cX10_later 24 = .ok (.aload_n 0, 1) := by decide +kernel
theorem dX10_later_25 : decode cX10_later 25 = .ok (.getfield 247, 3) := by decide +kernel
theorem dX10_later_28 : decode cX10_later 28 = .ok (.iload_n 3, 1) := by decide +kernel
theorem dX10_later_29 : decode cX10_later 29 = .ok (.iastore, 1) := by decide +kernel
theorem dX10_later_30 : decode cX10_later 30 = .ok (.aload_n 0, 1) := by decide +kernel
theorem dX10_later_31 : decode cX10_later 31 = .ok (.getfield 103, 3) := by decide +kernel
theorem dX10_later_34 : decode cX10_later 34 = .ok (.aload_n 0, 1) := by decide +kernel
theorem dX10_later_35 : decode cX10_later 35 = .ok (.getfield 247, 3) := by decide +kernel
theorem dX10_later_38 : decode cX10_later 38 = .ok (.iload 4, 2) := by decide +kernel
theorem dX10_later_40 : decode cX10_later 40 = .ok (.iastore, 1) := by decide +kernel
theorem dX10_later_41 : decode cX10_later 41 = .ok (.aload_n 0, 1) := by decide +kernel
theorem dX10_later_42 : decode cX10_later 42 = .ok (.dup, 1) := by decide +kernel
theorem dX10_later_43 : decode cX10_later 43 = .ok (.getfield 247, 3) := by decide +kernel
theorem dX10_later_46 : decode cX10_later 46 = .ok (.iconst 1, 1) := by decide +kernel
theorem dX10_later_47 : decode cX10_later 47 = .ok (.iadd, 1) := by decide +kernel
theorem dX10_later_48 : decode cX10_later 48 = .ok (.putfield 247, 3) := by decide +kernel
theorem dX10_later_51 : decode cX10_later 51 = .ok (.return_, 1) := by decide +kernel
theorem dX10_begin_0 : decode cX10_begin 0 = .ok (.aload_n 0, 1) := by decide +kernel
theorem dX10_begin_1 : decode cX10_begin 1 = .ok (.iconst 0, 1) := by decide +kernel
theorem dX10_begin_2 : decode cX10_begin 2 = .ok (.putfield 247, 3) := by decide +kernel
theorem dX10_begin_5 : decode cX10_begin 5 = .ok (.aload_n 0, 1) := by decide +kernel
theorem dX10_begin_6 : decode cX10_begin 6 = .ok (.aload_n 0, 1) := by decide +kernel
theorem dX10_begin_7 : decode cX10_begin 7 = .ok (.getfield 56, 3) := by decide +kernel
theorem dX10_begin_10 : decode cX10_begin 10 = .ok (.iconst 0, 1) := by decide +kernel
theorem dX10_begin_11 : decode cX10_begin 11 = .ok (.iaload, 1) := by decide +kernel
theorem dX10_begin_12 : decode cX10_begin 12 = .ok (.iconst 0, 1) := by decide +kernel
theorem dX10_begin_13 : decode cX10_begin 13 = .ok (.aload_n 0, 1) := by decide +kernel
theorem dX10_begin_14 : decode cX10_begin 14 = .ok (.getfield 192, 3) := by decide +kernel
theorem dX10_begin_17 : decode cX10_begin 17 = .ok (.iconst 1, 1) := by decide +kernel
theorem dX10_begin_18 : decode cX10_begin 18 = .ok (.isub, 1) := by decide +kernel
theorem dX10_begin_19 : decode cX10_begin 19 = .ok (.iload_n 1, 1) := by decide +kernel
theorem dX10_begin_20 : decode cX10_begin 20 = .ok (.invokevirtual 250, 3) := by decide +kernel
theorem dX10_begin_23 : decode cX10_begin 23 = .ok (.return_, 1) := by decide +kernel
theorem dX10_next_0 : decode cX10_next 0 = .ok (.aload_n 0, 1) := by decide +kernel
theorem dX10_next_1 : decode cX10_next 1 = .ok (.getfield 247, 3) := by decide +kernel
theorem dX10_next_4 : decode cX10_next 4 = .ok (.ifCond .ne 5, 3) := by decide +kernel
theorem dX10_next_7 : decode cX10_next 7 = .ok (.iconst 0, 1) := by decide +kernel
theorem dX10_next_8 : decode cX10_next 8 = .ok (.ireturn, 1) := by decide +kernel
theorem dX10_next_9 : decode cX10_next 9 = .ok (.aload_n 0, 1) := by decide +kernel
theorem dX10_next_10 : decode cX10_next 10 = .ok (.dup, 1) := by decide +kernel
theorem dX10_next_11 : decode cX10_next 11 = .ok (.getfield 247, 3) := by decide +kernel
theorem dX10_next_14 : decode cX10_next 14 = .ok (.iconst 1, 1) := by decide +kernel
theorem dX10_next_15 : decode cX10_next 15 = .ok (.isub, 1) := by decide +kernel
theorem dX10_next_16 : decode cX10_next 16 = .ok (.putfield 247, 3) := by decide +kernel
theorem dX10_next_19 : decode cX10_next 19 = .ok (.aload_n 0, 1) := by decide +kernel
theorem dX10_next_20 : decode cX10_next 20 = .ok (.aload_n 0, 1) := by decide +kernel
theorem dX10_next_21 : decode cX10_next 21 = .ok (.getfield 94, 3) := by decide +kernel
theorem dX10_next_24 : decode cX10_next 24 = .ok (.aload_n 0, 1) := by decide +kernel
theorem dX10_next_25 : decode cX10_next 25 = .ok (.getfield 247, 3) := by decide +kernel
theorem dX10_next_28 : decode cX10_next 28 = .ok (.iaload, 1) := by decide +kernel
theorem dX10_next_29 : decode cX10_next 29 = .ok (.putfield 253, 3) := by decide +kernel
theorem dX10_next_32 : decode cX10_next 32 = .ok (.aload_n 0, 1) := by decide +kernel
theorem dX10_next_33 : decode cX10_next 33 = .ok (.aload_n 0, 1) := by decide +kernel
theorem dX10_next_34 : decode cX10_next 34 = .ok (.getfield 97, 3) := by decide +kernel
theorem dX10_next_37 : decode cX10_next 37 = .ok (.aload_n 0, 1) := by decide +kernel
theorem dX10_next_38 : decode cX10_next 38 = .ok (.getfield 247, 3) := by decide +kernel
theorem dX10_next_41 : decode cX10_next 41 = .ok (.iaload, 1) := by decide +kernel
theorem dX10_next_42 : decode cX10_next 42 = .ok (.putfield 256, 3) := by decide +kernel
theorem dX10_next_45 : decode cX10_next 45 = .ok (.aload_n 0, 1) := by decide +kernel
theorem dX10_next_46 : decode cX10_next 46 = .ok (.aload_n 0, 1) := by decide +kernel
theorem dX10_next_47 : decode cX10_next 47 = .ok (.getfield 100, 3) := by decide +kernel
theorem dX10_next_50 : decode cX10_next 50 = .ok (.aload_n 0, 1) := by decide +kernel
theorem dX10_next_51 : decode cX10_next 51 = .ok (.getfield 247, 3) := by decide +kernel
theorem dX10_next_54 : decode cX10_next 54 = .ok (.iaload, 1) := by decide +kernel
theorem dX10_next_55 : decode cX10_next 55 = .ok (.putfield 259, 3) := by decide +kernel
theorem dX10_next_58 : decode cX10_next 58 = .ok (.aload_n 0, 1) := by decide +kernel
theorem dX10_next_59 : decode cX10_next 59 = .ok (.iconst (-1), 1) := by decide +kernel
theorem dX10_next_60 : decode cX10_next 60 = .ok (.putfield 262, 3) := by decide +kernel
theorem dX10_next_63 : decode cX10_next 63 = .ok (.aload_n 0, 1) := by decide +kernel
theorem dX10_next_64 : decode cX10_next 64 = .ok (.getfield 253, 3) := by decide +kernel
theorem dX10_next_67 : decode cX10_next 67 = .ok (.bipush 100, 2) := by decide +kernel
theorem dX10_next_69 : decode cX10_next 69 = .ok (.if_icmp .ge 142, 3) := by decide +kernel
theorem dX10_next_72 : decode cX10_next 72 = .ok (.aload_n 0, 1) := by decide +kernel
theorem dX10_next_73 : decode cX10_next 73 = .ok (.getfield 88, 3) := by decide +kernel
theorem dX10_next_76 : decode cX10_next 76 = .ok (.bipush 30, 2) := by decide +kernel
theorem dX10_next_78 : decode cX10_next 78 = .ok (.aload_n 0, 1) := by decide +kernel
theorem dX10_next_79 : decode cX10_next 79 = .ok (.getfield 253, 3) := by decide +kernel
theorem dX10_next_82 : decode cX10_next 82 = .ok (.aload_n 0, 1) := by decide +kernel
theorem dX10_next_83 : decode cX10_next 83 = .ok (.getfield 256, 3) := by decide +kernel
theorem dX10_next_86 : decode cX10_next 86 = .ok (.aload_n 0, 1) := by decide +kernel
theorem dX10_next_87 : decode cX10_next 87 = .ok (.getfield 259, 3) := by decide +kernel
theorem dX10_next_90 : decode cX10_next 90 = .ok (.invokestatic 198, 3) := by decide +kernel
theorem dX10_next_93 : decode cX10_next 93 = .ok (.imul, 1) := by decide +kernel
theorem dX10_next_94 : decode cX10_next 94 = .ok (.aload_n 0, 1) := by decide +kernel
theorem dX10_next_95 : decode cX10_next 95 = .ok (.getfield 103, 3) := by decide +kernel
theorem dX10_next_98 : decode cX10_next 98 = .ok (.aload_n 0, 1) := by decide +kernel
theorem dX10_next_99 : decode cX10_next 99 = .ok (.getfield 247, 3) := by decide +kernel
theorem dX10_next_102 : decode cX10_next 102 = .ok (.iaload, 1) := by decide +kernel
theorem dX10_next_103 : decode cX10_next 103 = .ok (.iadd, 1) := by decide +kernel
theorem dX10_next_104 : decode cX10_next 104 = .ok (.iaload, 1) := by decide +kernel
theorem dX10_next_105 : decode cX10_next 105 = .ok (.istore_n 1, 1) := by decide +kernel
theorem dX10_next_106 : decode cX10_next 106 = .ok (.iload_n 1, 1) := by decide +kernel
theorem dX10_next_107 : decode cX10_next 107 = .ok (.bipush 15, 2) := by decide +kernel
theorem dX10_next_109 : decode cX10_next 109 = .ok (.ishr, 1) := by decide +kernel
theorem dX10_next_110 : decode cX10_next 110 = .ok (.istore_n 2, 1) := by decide +kernel
theorem dX10_next_111 : decode cX10_next 111 = .ok (.iload_n 1, 1) := by decide +kernel
theorem dX10_next_112 : decode cX10_next 112 = .ok (.bipush 10, 2) := by decide +kernel
theorem dX10_next_114 : decode cX10_next 114 = .ok (.ishr, 1) := by decide +kernel
theorem dX10_next_115 : decode cX10_next 115 = .ok (.bipush 31, 2) := by decide +kernel
theorem dX10_next_117 : decode cX10_next 117 = .ok (.iand, 1) := by decide +kernel
theorem dX10_next_118 : decode cX10_next 118 = .ok (.istore_n 3, 1) := by decide +kernel
theorem dX10_next_119 : decode cX10_next 119 = .ok (.iload_n 1, 1) := by decide +kernel
theorem dX10_next_120 : decode cX10_next 120 = .ok (.iconst 5, 1) := by decide +kernel
theorem dX10_next_121 : decode cX10_next 121 = .ok (.ishr, 1) := by decide +kernel
theorem dX10_next_122 : decode cX10_next 122 = .ok (.bipush 31, 2) := by decide +kernel
theorem dX10_next_124 : decode cX10_next 124 = .ok (.iand, 1) := by decide +kernel
theorem dX10_next_125 : decode cX10_next 125 = .ok (.istore 4, 2) := by decide +kernel
theorem dX10_next_127 : decode cX10_next 127 = .ok (.iload_n 1, 1) := by decide +kernel
theorem dX10_next_128 : decode cX10_next 128 = .ok (.bipush 31, 2) := by decide +kernel
theorem dX10_next_130 : decode cX10_next 130 = .ok (.iand, 1) := by decide +kernel
theorem dX10_next_131 : decode cX10_next 131 = .ok (.istore 5, 2) := by decide +kernel
theorem dX10_next_133 : decode cX10_next 133 = .ok (.aload_n 0, 1) := by decide +kernel
theorem dX10_next_134 : decode cX10_next 134 = .ok (.iload_n 2, 1) := by decide +kernel
theorem dX10_next_135 : decode cX10_next 135 = .ok (.putfield 262, 3) := by decide +kernel
theorem dX10_next_138 : decode cX10_next 138 = .ok (.iload_n 3, 1) := by decide +kernel
theorem dX10_next_139 : decode cX10_next 139 = .ok (.ifCond .ne 26, 3) := by decide +kernel
theorem dX10_next_142 : decode cX10_next 142 = .ok (.aload_n 0, 1) := by decide +kernel
theorem dX10_next_143 : decode cX10_next 143 = .ok (.aload_n 0, 1) := by decide +kernel
theorem dX10_next_144 : decode cX10_next 144 = .ok (.getfield 59, 3) := by decide +kernel
theorem dX10_next_147 : decode cX10_next 147 = .ok (.iload_n 2, 1) := by decide +kernel
theorem dX10_next_148 : decode cX10_next 148 = .ok (.iaload, 1) := by decide +kernel
theorem dX10_next_149 : decode cX10_next 149 = .ok (.aload_n 0, 1) := by decide +kernel
theorem dX10_next_150 : decode cX10_next 150 = .ok (.getfield 256, 3) := by decide +kernel
theorem dX10_next_153 : decode cX10_next 153 = .ok (.aload_n 0, 1) := by decide +kernel
theorem dX10_next_154 : decode cX10_next 154 = .ok (.getfield 259, 3) := by decide +kernel
theorem dX10_next_157 : decode cX10_next 157 = .ok (.iload 4, 2) := by decide +kernel
theorem dX10_next_159 : decode cX10_next 159 = .ok (.invokevirtual 250, 3) := by decide +kernel
theorem dX10_next_162 : decode cX10_next 162 = .ok (.goto 49, 3) := by decide +kernel
theorem dX10_next_165 : decode cX10_next 165 = .ok (.aload_n 0, 1) := by decide +kernel
theorem dX10_next_166 : decode cX10_next 166 = .ok (.aload_n 0, 1) := by decide +kernel
theorem dX10_next_167 : decode cX10_next 167 = .ok (.getfield 62, 3) := by decide +kernel
theorem dX10_next_170 : decode cX10_next 170 = .ok (.iload_n 2, 1) := by decide +kernel
theorem dX10_next_171 : decode cX10_next 171 = .ok (.iaload, 1) := by decide +kernel
theorem dX10_next_172 : decode cX10_next 172 = .ok (.aload_n 0, 1) := by decide +kernel
theorem dX10_next_173 : decode cX10_next 173 = .ok (.getfield 256, 3) := by decide +kernel
theorem dX10_next_176 : decode cX10_next 176 = .ok (.iload_n 3, 1) := by decide +kernel
theorem dX10_next_177 : decode cX10_next 177 = .ok (.iadd, 1) := by decide +kernel
theorem dX10_next_178 : decode cX10_next 178 = .ok (.aload_n 0, 1) := by decide +kernel
theorem dX10_next_179 : decode cX10_next 179 = .ok (.getfield 259, 3) := by decide +kernel
theorem dX10_next_182 : decode cX10_next 182 = .ok (.iload 5, 2) := by decide +kernel
theorem dX10_next_184 : decode cX10_next 184 = .ok (.invokevirtual 250, 3) := by decide +kernel
theorem dX10_next_187 : decode cX10_next 187 = .ok (.aload_n 0, 1) := by decide +kernel
theorem dX10_next_188 : decode cX10_next 188 = .ok (.aload_n 0, 1) := by decide +kernel
theorem dX10_next_189 : decode cX10_next 189 = .ok (.getfield 59, 3) := by decide +kernel
theorem dX10_next_192 : decode cX10_next 192 = .ok (.iload_n 2, 1) := by decide +kernel
theorem dX10_next_193 : decode cX10_next 193 = .ok (.iaload, 1) := by decide +kernel
theorem dX10_next_194 : decode cX10_next 194 = .ok (.aload_n 0, 1) := by decide +kernel
theorem dX10_next_195 : decode cX10_next 195 = .ok (.getfield 256, 3) := by decide +kernel
theorem dX10_next_198 : decode cX10_next 198 = .ok (.aload_n 0, 1) := by decide +kernel
theorem dX10_next_199 : decode cX10_next 199 = .ok (.getfield 256, 3) := by decide +kernel
theorem dX10_next_202 : decode cX10_next 202 = .ok (.iload_n 3, 1) := by decide +kernel
theorem dX10_next_203 : decode cX10_next 203 = .ok (.iadd, 1) := by decide +kernel
theorem dX10_next_204 : decode cX10_next 204 = .ok (.iconst 1, 1) := by decide +kernel
theorem dX10_next_205 : decode cX10_next 205 = .ok (.isub, 1) := by decide +kernel
theorem dX10_next_206 : decode cX10_next 206 = .ok (.iload 4, 2) := by decide +kernel
theorem dX10_next_208 : decode cX10_next 208 = .ok (.invokevirtual 250, 3) := by decide +kernel
theorem dX10_next_211 : decode cX10_next 211 = .ok (.iconst 1, 1) := by decide +kernel
theorem dX10_next_212 : decode cX10_next 212 = .ok (.ireturn, 1) := by decide +kernel
theorem dX10_nodeChord_0 : decode cX10_nodeChord 0 = .ok (.aload_n 0, 1) := by decide +kernel
theorem dX10_nodeChord_1 : decode cX10_nodeChord 1 = .ok (.getfield 253, 3) := by decide +kernel
theorem dX10_nodeChord_4 : decode cX10_nodeChord 4 = .ok (.bipush 100, 2) := by decide +kernel
theorem dX10_nodeChord_6 : decode cX10_nodeChord 6 = .ok (.if_icmp .ge 7, 3) := by decide +kernel
theorem dX10_nodeChord_9 : decode cX10_nodeChord 9 = .ok (.iconst (-1), 1) := by decide +kernel
theorem dX10_nodeChord_10 : decode cX10_nodeChord 10 = .ok (.goto 23, 3) := by decide +kernel
theorem dX10_nodeChord_13 : decode cX10_nodeChord 13 = .ok (.aload_n 0, 1) := by decide +kernel
theorem dX10_nodeChord_14 : decode cX10_nodeChord 14 = .ok (.getfield 71, 3) := by decide +kernel
theorem dX10_nodeChord_17 : decode cX10_nodeChord 17 = .ok (.bipush 24, 2) := by decide +kernel
theorem dX10_nodeChord_19 : decode cX10_nodeChord 19 = .ok (.aload_n 0, 1) := by decide +kernel
theorem dX10_nodeChord_20 : decode cX10_nodeChord 20 = .ok (.getfield 253, 3) := by decide +kernel
theorem dX10_nodeChord_23 : decode cX10_nodeChord 23 = .ok (.bipush 100, 2) := by decide +kernel
theorem dX10_nodeChord_25 : decode cX10_nodeChord 25 = .ok (.isub, 1) := by decide +kernel
theorem dX10_nodeChord_26 : decode cX10_nodeChord 26 = .ok (.imul, 1) := by decide +kernel
theorem dX10_nodeChord_27 : decode cX10_nodeChord 27 = .ok (.aload_n 0, 1) := by decide +kernel
theorem dX10_nodeChord_28 : decode cX10_nodeChord 28 = .ok (.getfield 256, 3) := by decide +kernel
theorem dX10_nodeChord_31 : decode cX10_nodeChord 31 = .ok (.iadd, 1) := by decide +kernel
theorem dX10_nodeChord_32 : decode cX10_nodeChord 32 = .ok (.iaload, 1) := by decide +kernel
theorem dX10_nodeChord_33 : decode cX10_nodeChord 33 = .ok (.ireturn, 1) := by decide +kernel
theorem dX10_node_0 : decode cX10_node 0 = .ok (.aload_n 0, 1) := by decide +kernel
theorem dX10_node_1 : decode cX10_node 1 = .ok (.iconst 0, 1) := by decide +kernel
theorem dX10_node_2 : decode cX10_node 2 = .ok (.putfield 106, 3) := by decide +kernel
theorem dX10_node_5 : decode cX10_node 5 = .ok (.aload_n 0, 1) := by decide +kernel
theorem dX10_node_6 : decode cX10_node 6 = .ok (.iload_n 1, 1) := by decide +kernel
theorem dX10_node_7 : decode cX10_node 7 = .ok (.invokevirtual 244, 3) := by decide +kernel
theorem dX10_node_10 : decode cX10_node 10 = .ok (.ifCond .ne 16, 3) := by decide +kernel
theorem dX10_node_13 : decode cX10_node 13 = .ok (.iload_n 2, 1) := by decide +kernel
theorem dX10_node_14 : decode cX10_node 14 = .ok (.ifCond .lt 12, 3) := by decide +kernel
theorem dX10_node_17 : decode cX10_node 17 = .ok (.iload_n 3, 1) := by decide +kernel
theorem dX10_node_18 : decode cX10_node 18 = .ok (.ifCond .lt 8, 3) := by decide +kernel
theorem dX10_node_21 : decode cX10_node 21 = .ok (.iload_n 3, 1) := by decide +kernel
theorem dX10_node_22 : decode cX10_node 22 = .ok (.iconst 3, 1) := by decide +kernel
theorem dX10_node_23 : decode cX10_node 23 = .ok (.if_icmp .le 5, 3) := by decide +kernel
theorem dX10_node_26 : decode cX10_node 26 = .ok (.iconst (-1), 1) := by decide +kernel
theorem dX10_node_27 : decode cX10_node 27 = .ok (.ireturn, 1) := by decide +kernel
theorem dX10_node_28 : decode cX10_node 28 = .ok (.aload_n 0, 1) := by decide +kernel
theorem dX10_node_29 : decode cX10_node 29 = .ok (.iload_n 1, 1) := by decide +kernel
theorem dX10_node_30 : decode cX10_node 30 = .ok (.invokevirtual 265, 3) := by decide +kernel
theorem dX10_node_33 : decode cX10_node 33 = .ok (.aload_n 0, 1) := by decide +kernel
theorem dX10_node_34 : decode cX10_node 34 = .ok (.invokevirtual 268, 3) := by decide +kernel
theorem dX10_node_37 : decode cX10_node 37 = .ok (.istore 4, 2) := by decide +kernel
theorem dX10_node_39 : decode cX10_node 39 = .ok (.iconst 0, 1) := by decide +kernel
theorem dX10_node_40 : decode cX10_node 40 = .ok (.istore 5, 2) := by decide +kernel
theorem dX10_node_42 : decode cX10_node 42 = .ok (.iload 5, 2) := by decide +kernel
theorem dX10_node_44 : decode cX10_node 44 = .ok (.iload_n 2, 1) := by decide +kernel
theorem dX10_node_45 : decode cX10_node 45 = .ok (.if_icmp .ge 20, 3) := by decide +kernel
theorem dX10_node_48 : decode cX10_node 48 = .ok (.iload 4, 2) := by decide +kernel
theorem dX10_node_50 : decode cX10_node 50 = .ok (.ifCond .eq 15, 3) := by decide +kernel
theorem dX10_node_53 : decode cX10_node 53 = .ok (.aload_n 0, 1) := by decide +kernel
theorem dX10_node_54 : decode cX10_node 54 = .ok (.invokevirtual 268, 3) := by decide +kernel
theorem dX10_node_57 : decode cX10_node 57 = .ok (.istore 4, 2) := by decide +kernel
theorem dX10_node_59 : decode cX10_node 59 = .ok (.iinc 5 1, 3) := by decide +kernel
theorem dX10_node_62 : decode cX10_node 62 = .ok (.goto (-20), 3) := by decide +kernel
theorem dX10_node_65 : decode cX10_node 65 = .ok (.iload 4, 2) := by decide +kernel
theorem dX10_node_67 : decode cX10_node 67 = .ok (.ifCond .ne 5, 3) := by decide +kernel
theorem dX10_node_70 : decode cX10_node 70 = .ok (.iconst (-1), 1) := by decide +kernel
theorem dX10_node_71 : decode cX10_node 71 = .ok (.ireturn, 1) := by decide +kernel
theorem dX10_node_72 : decode cX10_node 72 = .ok (.iload_n 3, 1) := by decide +kernel
theorem dX10_node_73 : decode cX10_node 73 = .ok (.ifCond .ne 10, 3) := by decide +kernel
theorem dX10_node_76 : decode cX10_node 76 = .ok (.aload_n 0, 1) := by decide +kernel
theorem dX10_node_77 : decode cX10_node 77 = .ok (.getfield 262, 3) := by decide +kernel
theorem dX10_node_80 : decode cX10_node 80 = .ok (.goto 31, 3) := by decide +kernel
theorem dX10_node_83 : decode cX10_node 83 = .ok (.iload_n 3, 1) := by decide +kernel
theorem dX10_node_84 : decode cX10_node 84 = .ok (.iconst 1, 1) := by decide +kernel
theorem dX10_node_85 : decode cX10_node 85 = .ok (.if_icmp .ne 10, 3) := by decide +kernel
theorem dX10_node_88 : decode cX10_node 88 = .ok (.aload_n 0, 1) := by decide +kernel
theorem dX10_node_89 : decode cX10_node 89 = .ok (.getfield 256, 3) := by decide +kernel
theorem dX10_node_92 : decode cX10_node 92 = .ok (.goto 19, 3) := by decide +kernel
theorem dX10_node_95 : decode cX10_node 95 = .ok (.iload_n 3, 1) := by decide +kernel
theorem dX10_node_96 : decode cX10_node 96 = .ok (.iconst 2, 1) := by decide +kernel
theorem dX10_node_97 : decode cX10_node 97 = .ok (.if_icmp .ne 10, 3) := by decide +kernel
theorem dX10_node_100 : decode cX10_node 100 = .ok (.aload_n 0, 1) := by decide +kernel
theorem dX10_node_101 : decode cX10_node 101 = .ok (.getfield 259, 3) := by decide +kernel
theorem dX10_node_104 : decode cX10_node 104 = .ok (.goto 7, 3) := by decide +kernel
theorem dX10_node_107 : decode cX10_node 107 = .ok (.aload_n 0, 1) := by decide +kernel
theorem dX10_node_108 : decode cX10_node 108 = .ok (.invokevirtual 271, 3) := by decide +kernel
theorem dX10_node_111 : decode cX10_node 111 = .ok (.ireturn, 1) := by decide +kernel
theorem dX10_nodes_0 : decode cX10_nodes 0 = .ok (.aload_n 0, 1) := by decide +kernel
theorem dX10_nodes_1 : decode cX10_nodes 1 = .ok (.iconst 0, 1) := by decide +kernel
theorem dX10_nodes_2 : decode cX10_nodes 2 = .ok (.putfield 106, 3) := by decide +kernel
theorem dX10_nodes_5 : decode cX10_nodes 5 = .ok (.aload_n 0, 1) := by decide +kernel
theorem dX10_nodes_6 : decode cX10_nodes 6 = .ok (.iload_n 1, 1) := by decide +kernel
theorem dX10_nodes_7 : decode cX10_nodes 7 = .ok (.invokevirtual 244, 3) := by decide +kernel
theorem dX10_nodes_10 : decode cX10_nodes 10 = .ok (.ifCond .eq 5, 3) := by decide +kernel
theorem dX10_nodes_13 : decode cX10_nodes 13 = .ok (.iconst (-1), 1) := by decide +kernel
theorem dX10_nodes_14 : decode cX10_nodes 14 = .ok (.ireturn, 1) := by decide +kernel
theorem dX10_nodes_15 : decode cX10_nodes 15 = .ok (.aload_n 0, 1) := by decide +kernel
theorem dX10_nodes_16 : decode cX10_nodes 16 = .ok (.iload_n 1, 1) := by decide +kernel
theorem dX10_nodes_17 : decode cX10_nodes 17 = .ok (.invokevirtual 265, 3) := by decide +kernel
theorem dX10_nodes_20 : decode cX10_nodes 20 = .ok (.iconst 0, 1) := by decide +kernel
theorem dX10_nodes_21 : decode cX10_nodes 21 = .ok (.istore_n 2, 1) := by decide +kernel
theorem dX10_nodes_22 : decode cX10_nodes 22 = .ok (.aload_n 0, 1) := by decide +kernel
theorem dX10_nodes_23 : decode cX10_nodes 23 = .ok (.invokevirtual 268, 3) := by decide +kernel
theorem dX10_nodes_26 : decode cX10_nodes 26 = .ok (.ifCond .eq 9, 3) := by decide +kernel
theorem dX10_nodes_29 : decode cX10_nodes 29 = .ok (.iinc 2 1, 3) := by decide +kernel
theorem dX10_nodes_32 : decode cX10_nodes 32 = .ok (.goto (-10), 3) := by decide +kernel
theorem dX10_nodes_35 : decode cX10_nodes 35 = .ok (.iload_n 2, 1) := by decide +kernel
theorem dX10_nodes_36 : decode cX10_nodes 36 = .ok (.ireturn, 1) := by decide +kernel
theorem dX10_symbolAt_0 : decode cX10_symbolAt 0 = .ok (.aload_n 0, 1) := by decide +kernel
theorem dX10_symbolAt_1 : decode cX10_symbolAt 1 = .ok (.iload_n 1, 1) := by decide +kernel
theorem dX10_symbolAt_2 : decode cX10_symbolAt 2 = .ok (.invokevirtual 265, 3) := by decide +kernel
theorem dX10_symbolAt_5 : decode cX10_symbolAt 5 = .ok (.aload_n 0, 1) := by decide +kernel
theorem dX10_symbolAt_6 : decode cX10_symbolAt 6 = .ok (.invokevirtual 268, 3) := by decide +kernel
theorem dX10_symbolAt_9 : decode cX10_symbolAt 9 = .ok (.ifCond .eq 28, 3) := by decide +kernel
theorem dX10_symbolAt_12 : decode cX10_symbolAt 12 = .ok (.aload_n 0, 1) := by decide +kernel
theorem dX10_symbolAt_13 : decode cX10_symbolAt 13 = .ok (.getfield 253, 3) := by decide +kernel
theorem dX10_symbolAt_16 : decode cX10_symbolAt 16 = .ok (.bipush 100, 2) := by decide +kernel
theorem dX10_symbolAt_18 : decode cX10_symbolAt 18 = .ok (.if_icmp .lt (-13), 3) := by decide +kernel
theorem dX10_symbolAt_21 : decode cX10_symbolAt 21 = .ok (.aload_n 0, 1) := by decide +kernel
theorem dX10_symbolAt_22 : decode cX10_symbolAt 22 = .ok (.getfield 256, 3) := by decide +kernel
theorem dX10_symbolAt_25 : decode cX10_symbolAt 25 = .ok (.iload_n 2, 1) := by decide +kernel
theorem dX10_symbolAt_26 : decode cX10_symbolAt 26 = .ok (.if_icmp .ne (-21), 3) := by decide +kernel
theorem dX10_symbolAt_29 : decode cX10_symbolAt 29 = .ok (.aload_n 0, 1) := by decide +kernel
theorem dX10_symbolAt_30 : decode cX10_symbolAt 30 = .ok (.getfield 253, 3) := by decide +kernel
theorem dX10_symbolAt_33 : decode cX10_symbolAt 33 = .ok (.bipush 100, 2) := by decide +kernel
theorem dX10_symbolAt_35 : decode cX10_symbolAt 35 = .ok (.isub, 1) := by decide +kernel
theorem dX10_symbolAt_36 : decode cX10_symbolAt 36 = .ok (.ireturn, 1) := by decide +kernel
theorem dX10_symbolAt_37 : decode cX10_symbolAt 37 = .ok (.iconst (-1), 1) := by decide +kernel
theorem dX10_symbolAt_38 : decode cX10_symbolAt 38 = .ok (.ireturn, 1) := by decide +kernel
theorem dX10_chord_0 : decode cX10_chord 0 = .ok (.aload_n 0, 1) := by decide +kernel
theorem dX10_chord_1 : decode cX10_chord 1 = .ok (.iconst 0, 1) := by decide +kernel
theorem dX10_chord_2 : decode cX10_chord 2 = .ok (.putfield 106, 3) := by decide +kernel
theorem dX10_chord_5 : decode cX10_chord 5 = .ok (.aload_n 0, 1) := by decide +kernel
theorem dX10_chord_6 : decode cX10_chord 6 = .ok (.iload_n 1, 1) := by decide +kernel
theorem dX10_chord_7 : decode cX10_chord 7 = .ok (.invokevirtual 244, 3) := by decide +kernel
theorem dX10_chord_10 : decode cX10_chord 10 = .ok (.ifCond .ne 15, 3) := by decide +kernel
theorem dX10_chord_13 : decode cX10_chord 13 = .ok (.iload_n 2, 1) := by decide +kernel
theorem dX10_chord_14 : decode cX10_chord 14 = .ok (.ifCond .lt 11, 3) := by decide +kernel
theorem dX10_chord_17 : decode cX10_chord 17 = .ok (.iload_n 2, 1) := by decide +kernel
theorem dX10_chord_18 : decode cX10_chord 18 = .ok (.aload_n 0, 1) := by decide +kernel
theorem dX10_chord_19 : decode cX10_chord 19 = .ok (.getfield 192, 3) := by decide +kernel
theorem dX10_chord_22 : decode cX10_chord 22 = .ok (.if_icmp .lt 5, 3) := by decide +kernel
theorem dX10_chord_25 : decode cX10_chord 25 = .ok (.iconst (-1), 1) := by decide +kernel
theorem dX10_chord_26 : decode cX10_chord 26 = .ok (.ireturn, 1) := by decide +kernel
theorem dX10_chord_27 : decode cX10_chord 27 = .ok (.aload_n 0, 1) := by decide +kernel
theorem dX10_chord_28 : decode cX10_chord 28 = .ok (.getfield 71, 3) := by decide +kernel
theorem dX10_chord_31 : decode cX10_chord 31 = .ok (.bipush 24, 2) := by decide +kernel
theorem dX10_chord_33 : decode cX10_chord 33 = .ok (.aload_n 0, 1) := by decide +kernel
theorem dX10_chord_34 : decode cX10_chord 34 = .ok (.iload_n 1, 1) := by decide +kernel
theorem dX10_chord_35 : decode cX10_chord 35 = .ok (.iload_n 2, 1) := by decide +kernel
theorem dX10_chord_36 : decode cX10_chord 36 = .ok (.invokevirtual 274, 3) := by decide +kernel
theorem dX10_chord_39 : decode cX10_chord 39 = .ok (.imul, 1) := by decide +kernel
theorem dX10_chord_40 : decode cX10_chord 40 = .ok (.iload_n 2, 1) := by decide +kernel
theorem dX10_chord_41 : decode cX10_chord 41 = .ok (.iadd, 1) := by decide +kernel
theorem dX10_chord_42 : decode cX10_chord 42 = .ok (.iaload, 1) := by decide +kernel
theorem dX10_chord_43 : decode cX10_chord 43 = .ok (.ireturn, 1) := by decide +kernel
theorem dX10_cadence_0 : decode cX10_cadence 0 = .ok (.aload_n 0, 1) := by decide +kernel
theorem dX10_cadence_1 : decode cX10_cadence 1 = .ok (.iconst 0, 1) := by decide +kernel
theorem dX10_cadence_2 : decode cX10_cadence 2 = .ok (.putfield 106, 3) := by decide +kernel
theorem dX10_cadence_5 : decode cX10_cadence 5 = .ok (.aload_n 0, 1) := by decide +kernel
theorem dX10_cadence_6 : decode cX10_cadence 6 = .ok (.iload_n 1, 1) := by decide +kernel
theorem dX10_cadence_7 : decode cX10_cadence 7 = .ok (.invokevirtual 244, 3) := by decide +kernel
theorem dX10_cadence_10 : decode cX10_cadence 10 = .ok (.ifCond .eq 5, 3) := by decide +kernel
theorem dX10_cadence_13 : decode cX10_cadence 13 = .ok (.iconst (-1), 1) := by decide +kernel
theorem dX10_cadence_14 : decode cX10_cadence 14 = .ok (.ireturn, 1) := by decide +kernel
theorem dX10_cadence_15 : decode cX10_cadence 15 = .ok (.aload_n 0, 1) := by decide +kernel
theorem dX10_cadence_16 : decode cX10_cadence 16 = .ok (.iload_n 1, 1) := by decide +kernel
theorem dX10_cadence_17 : decode cX10_cadence 17 = .ok (.aload_n 0, 1) := by decide +kernel
theorem dX10_cadence_18 : decode cX10_cadence 18 = .ok (.getfield 192, 3) := by decide +kernel
theorem dX10_cadence_21 : decode cX10_cadence 21 = .ok (.iconst 1, 1) := by decide +kernel
theorem dX10_cadence_22 : decode cX10_cadence 22 = .ok (.isub, 1) := by decide +kernel
theorem dX10_cadence_23 : decode cX10_cadence 23 = .ok (.invokevirtual 274, 3) := by decide +kernel
theorem dX10_cadence_26 : decode cX10_cadence 26 = .ok (.bipush 10, 2) := by decide +kernel
theorem dX10_cadence_28 : decode cX10_cadence 28 = .ok (.idiv, 1) := by decide +kernel
theorem dX10_cadence_29 : decode cX10_cadence 29 = .ok (.istore_n 2, 1) := by decide +kernel
theorem dX10_cadence_30 : decode cX10_cadence 30 = .ok (.aload_n 0, 1) := by decide +kernel
theorem dX10_cadence_31 : decode cX10_cadence 31 = .ok (.getfield 192, 3) := by decide +kernel
theorem dX10_cadence_34 : decode cX10_cadence 34 = .ok (.iconst 2, 1) := by decide +kernel
theorem dX10_cadence_35 : decode cX10_cadence 35 = .ok (.if_icmp .ge 7, 3) := by decide +kernel
theorem dX10_cadence_38 : decode cX10_cadence 38 = .ok (.iconst 0, 1) := by decide +kernel
theorem dX10_cadence_39 : decode cX10_cadence 39 = .ok (.goto 17, 3) := by decide +kernel
theorem dX10_cadence_42 : decode cX10_cadence 42 = .ok (.aload_n 0, 1) := by decide +kernel
theorem dX10_cadence_43 : decode cX10_cadence 43 = .ok (.iload_n 1, 1) := by decide +kernel
theorem dX10_cadence_44 : decode cX10_cadence 44 = .ok (.aload_n 0, 1) := by decide +kernel
theorem dX10_cadence_45 : decode cX10_cadence 45 = .ok (.getfield 192, 3) := by decide +kernel
theorem dX10_cadence_48 : decode cX10_cadence 48 = .ok (.iconst 2, 1) := by decide +kernel
theorem dX10_cadence_49 : decode cX10_cadence 49 = .ok (.isub, 1) := by decide +kernel
theorem dX10_cadence_50 : decode cX10_cadence 50 = .ok (.invokevirtual 274, 3) := by decide +kernel
theorem dX10_cadence_53 : decode cX10_cadence 53 = .ok (.bipush 10, 2) := by decide +kernel
theorem dX10_cadence_55 : decode cX10_cadence 55 = .ok (.idiv, 1) := by decide +kernel
theorem dX10_cadence_56 : decode cX10_cadence 56 = .ok (.istore_n 3, 1) := by decide +kernel
theorem dX10_cadence_57 : decode cX10_cadence 57 = .ok (.iload_n 2, 1) := by decide +kernel
theorem dX10_cadence_58 : decode cX10_cadence 58 = .ok (.iconst 1, 1) := by decide +kernel
theorem dX10_cadence_59 : decode cX10_cadence 59 = .ok (.if_icmp .ne 12, 3) := by decide +kernel
theorem dX10_cadence_62 : decode cX10_cadence 62 = .ok (.iload_n 3, 1) := by decide +kernel
theorem dX10_cadence_63 : decode cX10_cadence 63 = .ok (.iconst 5, 1) := by decide +kernel
theorem dX10_cadence_64 : decode cX10_cadence 64 = .ok (.if_icmp .ne 7, 3) := by decide +kernel
theorem dX10_cadence_67 : decode cX10_cadence 67 = .ok (.iconst 1, 1) := by decide +kernel
theorem dX10_cadence_68 : decode cX10_cadence 68 = .ok (.goto 42, 3) := by decide +kernel
theorem dX10_cadence_71 : decode cX10_cadence 71 = .ok (.iload_n 2, 1) := by decide +kernel
theorem dX10_cadence_72 : decode cX10_cadence 72 = .ok (.iconst 1, 1) := by decide +kernel
theorem dX10_cadence_73 : decode cX10_cadence 73 = .ok (.if_icmp .ne 12, 3) := by decide +kernel
theorem dX10_cadence_76 : decode cX10_cadence 76 = .ok (.iload_n 3, 1) := by decide +kernel
theorem dX10_cadence_77 : decode cX10_cadence 77 = .ok (.iconst 4, 1) := by decide +kernel
theorem dX10_cadence_78 : decode cX10_cadence 78 = .ok (.if_icmp .ne 7, 3) := by decide +kernel
theorem dX10_cadence_81 : decode cX10_cadence 81 = .ok (.iconst 2, 1) := by decide +kernel
theorem dX10_cadence_82 : decode cX10_cadence 82 = .ok (.goto 28, 3) := by decide +kernel
theorem dX10_cadence_85 : decode cX10_cadence 85 = .ok (.iload_n 2, 1) := by decide +kernel
theorem dX10_cadence_86 : decode cX10_cadence 86 = .ok (.iconst 5, 1) := by decide +kernel
theorem dX10_cadence_87 : decode cX10_cadence 87 = .ok (.if_icmp .ne 7, 3) := by decide +kernel
theorem dX10_cadence_90 : decode cX10_cadence 90 = .ok (.iconst 3, 1) := by decide +kernel
theorem dX10_cadence_91 : decode cX10_cadence 91 = .ok (.goto 19, 3) := by decide +kernel
theorem dX10_cadence_94 : decode cX10_cadence 94 = .ok (.iload_n 2, 1) := by decide +kernel
theorem dX10_cadence_95 : decode cX10_cadence 95 = .ok (.bipush 6, 2) := by decide +kernel
theorem dX10_cadence_97 : decode cX10_cadence 97 = .ok (.if_icmp .ne 12, 3) := by decide +kernel
theorem dX10_cadence_100 : decode cX10_cadence 100 = .ok (.iload_n 3, 1) := by decide +kernel
theorem dX10_cadence_101 : decode cX10_cadence 101 = .ok (.iconst 5, 1) := by decide +kernel
theorem dX10_cadence_102 : decode cX10_cadence 102 = .ok (.if_icmp .ne 7, 3) := by decide +kernel
theorem dX10_cadence_105 : decode cX10_cadence 105 = .ok (.iconst 4, 1) := by decide +kernel
theorem dX10_cadence_106 : decode cX10_cadence 106 = .ok (.goto 4, 3) := by decide +kernel
theorem dX10_cadence_109 : decode cX10_cadence 109 = .ok (.iconst 0, 1) := by decide +kernel
theorem dX10_cadence_110 : decode cX10_cadence 110 = .ok (.ireturn, 1) := by decide +kernel
theorem dX10_isStep_0 : decode cX10_isStep 0 = .ok (.iload_n 0, 1) := by decide +kernel
theorem dX10_isStep_1 : decode cX10_isStep 1 = .ok (.iconst 1, 1) := by decide +kernel
theorem dX10_isStep_2 : decode cX10_isStep 2 = .ok (.if_icmp .eq 19, 3) := by decide +kernel
theorem dX10_isStep_5 : decode cX10_isStep 5 = .ok (.iload_n 0, 1) := by decide +kernel
theorem dX10_isStep_6 : decode cX10_isStep 6 = .ok (.iconst 2, 1) := by decide +kernel
theorem dX10_isStep_7 : decode cX10_isStep 7 = .ok (.if_icmp .eq 14, 3) := by decide +kernel
theorem dX10_isStep_10 : decode cX10_isStep 10 = .ok (.iload_n 0, 1) := by decide +kernel
theorem dX10_isStep_11 : decode cX10_isStep 11 = .ok (.iconst (-1), 1) := by decide +kernel
theorem dX10_isStep_12 : decode cX10_isStep 12 = .ok (.if_icmp .eq 9, 3) := by decide +kernel
theorem dX10_isStep_15 : decode cX10_isStep 15 = .ok (.iload_n 0, 1) := by decide +kernel
theorem dX10_isStep_16 : decode cX10_isStep 16 = .ok (.bipush (-2), 2) := by decide +kernel
theorem dX10_isStep_18 : decode cX10_isStep 18 = .ok (.if_icmp .ne 7, 3) := by decide +kernel
theorem dX10_isStep_21 : decode cX10_isStep 21 = .ok (.iconst 1, 1) := by decide +kernel
theorem dX10_isStep_22 : decode cX10_isStep 22 = .ok (.goto 4, 3) := by decide +kernel
theorem dX10_isStep_25 : decode cX10_isStep 25 = .ok (.iconst 0, 1) := by decide +kernel
theorem dX10_isStep_26 : decode cX10_isStep 26 = .ok (.ireturn, 1) := by decide +kernel
theorem dX10_isMore_0 : decode cX10_isMore 0 = .ok (.iload_n 0, 1) := by decide +kernel
theorem dX10_isMore_1 : decode cX10_isMore 1 = .ok (.iconst 2, 1) := by decide +kernel
theorem dX10_isMore_2 : decode cX10_isMore 2 = .ok (.if_icmp .gt 9, 3) := by decide +kernel
theorem dX10_isMore_5 : decode cX10_isMore 5 = .ok (.iload_n 0, 1) := by decide +kernel
theorem dX10_isMore_6 : decode cX10_isMore 6 = .ok (.bipush (-2), 2) := by decide +kernel
theorem dX10_isMore_8 : decode cX10_isMore 8 = .ok (.if_icmp .ge 7, 3) := by decide +kernel
theorem dX10_isMore_11 : decode cX10_isMore 11 = .ok (.iconst 1, 1) := by decide +kernel
theorem dX10_isMore_12 : decode cX10_isMore 12 = .ok (.goto 4, 3) := by decide +kernel
theorem dX10_isMore_15 : decode cX10_isMore 15 = .ok (.iconst 0, 1) := by decide +kernel
theorem dX10_isMore_16 : decode cX10_isMore 16 = .ok (.ireturn, 1) := by decide +kernel
theorem dX10_isTurned_0 : decode cX10_isTurned 0 = .ok (.iload_n 0, 1) := by decide +kernel
theorem dX10_isTurned_1 : decode cX10_isTurned 1 = .ok (.ifCond .le 7, 3) := by decide +kernel
theorem dX10_isTurned_4 : decode cX10_isTurned 4 = .ok (.iload_n 1, 1) := by decide +kernel
theorem dX10_isTurned_5 : decode cX10_isTurned 5 = .ok (.ifCond .lt 11, 3) := by decide +kernel
theorem dX10_isTurned_8 : decode cX10_isTurned 8 = .ok (.iload_n 0, 1) := by decide +kernel
theorem dX10_isTurned_9 : decode cX10_isTurned 9 = .ok (.ifCond .ge 11, 3) := by decide +kernel
theorem dX10_isTurned_12 : decode cX10_isTurned 12 = .ok (.iload_n 1, 1) := by decide +kernel
theorem dX10_isTurned_13 : decode cX10_isTurned 13 = .ok (.ifCond .le 7, 3) := by decide +kernel
theorem dX10_isTurned_16 : decode cX10_isTurned 16 = .ok (.iconst 1, 1) := by decide +kernel
theorem dX10_isTurned_17 : decode cX10_isTurned 17 = .ok (.goto 4, 3) := by decide +kernel
theorem dX10_isTurned_20 : decode cX10_isTurned 20 = .ok (.iconst 0, 1) := by decide +kernel
theorem dX10_isTurned_21 : decode cX10_isTurned 21 = .ok (.ireturn, 1) := by decide +kernel
theorem dX10_melody_0 : decode cX10_melody 0 = .ok (.aload_n 0, 1) := by decide +kernel
theorem dX10_melody_1 : decode cX10_melody 1 = .ok (.iconst 0, 1) := by decide +kernel
theorem dX10_melody_2 : decode cX10_melody 2 = .ok (.putfield 106, 3) := by decide +kernel
theorem dX10_melody_5 : decode cX10_melody 5 = .ok (.aload_n 0, 1) := by decide +kernel
theorem dX10_melody_6 : decode cX10_melody 6 = .ok (.iload_n 1, 1) := by decide +kernel
theorem dX10_melody_7 : decode cX10_melody 7 = .ok (.invokevirtual 244, 3) := by decide +kernel
theorem dX10_melody_10 : decode cX10_melody 10 = .ok (.ifCond .ne 24, 3) := by decide +kernel
theorem dX10_melody_13 : decode cX10_melody 13 = .ok (.iload_n 2, 1) := by decide +kernel
theorem dX10_melody_14 : decode cX10_melody 14 = .ok (.ifCond .lt 20, 3) := by decide +kernel
theorem dX10_melody_17 : decode cX10_melody 17 = .ok (.iload_n 2, 1) := by decide +kernel
theorem dX10_melody_18 : decode cX10_melody 18 = .ok (.aload_n 0, 1) := by decide +kernel
theorem dX10_melody_19 : decode cX10_melody 19 = .ok (.getfield 192, 3) := by decide +kernel
theorem dX10_melody_22 : decode cX10_melody 22 = .ok (.if_icmp .ge 12, 3) := by decide +kernel
theorem dX10_melody_25 : decode cX10_melody 25 = .ok (.aload_n 0, 1) := by decide +kernel
theorem dX10_melody_26 : decode cX10_melody 26 = .ok (.getfield 68, 3) := by decide +kernel
theorem dX10_melody_29 : decode cX10_melody 29 = .ok (.iload_n 2, 1) := by decide +kernel
theorem dX10_melody_30 : decode cX10_melody 30 = .ok (.iaload, 1) := by decide +kernel
theorem dX10_melody_31 : decode cX10_melody 31 = .ok (.ifCond .ge 5, 3) := by decide +kernel
theorem dX10_melody_34 : decode cX10_melody 34 = .ok (.iconst (-1), 1) := by decide +kernel
theorem dX10_melody_35 : decode cX10_melody 35 = .ok (.ireturn, 1) := by decide +kernel
theorem dX10_melody_36 : decode cX10_melody 36 = .ok (.aload_n 0, 1) := by decide +kernel
theorem dX10_melody_37 : decode cX10_melody 37 = .ok (.getfield 68, 3) := by decide +kernel
theorem dX10_melody_40 : decode cX10_melody 40 = .ok (.iload_n 2, 1) := by decide +kernel
theorem dX10_melody_41 : decode cX10_melody 41 = .ok (.iaload, 1) := by decide +kernel
theorem dX10_melody_42 : decode cX10_melody 42 = .ok (.istore_n 3, 1) := by decide +kernel
theorem dX10_melody_43 : decode cX10_melody 43 = .ok (.aload_n 0, 1) := by decide +kernel
theorem dX10_melody_44 : decode cX10_melody 44 = .ok (.getfield 71, 3) := by decide +kernel
theorem dX10_melody_47 : decode cX10_melody 47 = .ok (.bipush 24, 2) := by decide +kernel
theorem dX10_melody_49 : decode cX10_melody 49 = .ok (.aload_n 0, 1) := by decide +kernel
theorem dX10_melody_50 : decode cX10_melody 50 = .ok (.iload_n 1, 1) := by decide +kernel
theorem dX10_melody_51 : decode cX10_melody 51 = .ok (.iload_n 2, 1) := by decide +kernel
theorem dX10_melody_52 : decode cX10_melody 52 = .ok (.invokevirtual 274, 3) := by decide +kernel
theorem dX10_melody_55 : decode cX10_melody 55 = .ok (.imul, 1) := by decide +kernel
theorem dX10_melody_56 : decode cX10_melody 56 = .ok (.iload_n 2, 1) := by decide +kernel
theorem dX10_melody_57 : decode cX10_melody 57 = .ok (.iadd, 1) := by decide +kernel
theorem dX10_melody_58 : decode cX10_melody 58 = .ok (.iaload, 1) := by decide +kernel
theorem dX10_melody_59 : decode cX10_melody 59 = .ok (.istore 4, 2) := by decide +kernel
theorem dX10_melody_61 : decode cX10_melody 61 = .ok (.iload 4, 2) := by decide +kernel
theorem dX10_melody_63 : decode cX10_melody 63 = .ok (.bipush 12, 2) := by decide +kernel
theorem dX10_melody_65 : decode cX10_melody 65 = .ok (.irem, 1) := by decide +kernel
theorem dX10_melody_66 : decode cX10_melody 66 = .ok (.iload 4, 2) := by decide +kernel
theorem dX10_melody_68 : decode cX10_melody 68 = .ok (.bipush 12, 2) := by decide +kernel
theorem dX10_melody_70 : decode cX10_melody 70 = .ok (.idiv, 1) := by decide +kernel
theorem dX10_melody_71 : decode cX10_melody 71 = .ok (.invokestatic 181, 3) := by decide +kernel
theorem dX10_melody_74 : decode cX10_melody 74 = .ok (.iload_n 3, 1) := by decide +kernel
theorem dX10_melody_75 : decode cX10_melody 75 = .ok (.bipush 12, 2) := by decide +kernel
theorem dX10_melody_77 : decode cX10_melody 77 = .ok (.irem, 1) := by decide +kernel
theorem dX10_melody_78 : decode cX10_melody 78 = .ok (.ishr, 1) := by decide +kernel
theorem dX10_melody_79 : decode cX10_melody 79 = .ok (.iconst 1, 1) := by decide +kernel
theorem dX10_melody_80 : decode cX10_melody 80 = .ok (.iand, 1) := by decide +kernel
theorem dX10_melody_81 : decode cX10_melody 81 = .ok (.iconst 1, 1) := by decide +kernel
theorem dX10_melody_82 : decode cX10_melody 82 = .ok (.if_icmp .ne 5, 3) := by decide +kernel
theorem dX10_melody_85 : decode cX10_melody 85 = .ok (.iconst 0, 1) := by decide +kernel
theorem dX10_melody_86 : decode cX10_melody 86 = .ok (.ireturn, 1) := by decide +kernel
theorem dX10_melody_87 : decode cX10_melody 87 = .ok (.iload_n 2, 1) := by decide +kernel
theorem dX10_melody_88 : decode cX10_melody 88 = .ok (.ifCond .le 26, 3) := by decide +kernel
theorem dX10_melody_91 : decode cX10_melody 91 = .ok (.aload_n 0, 1) := by decide +kernel
theorem dX10_melody_92 : decode cX10_melody 92 = .ok (.getfield 68, 3) := by decide +kernel
theorem dX10_melody_95 : decode cX10_melody 95 = .ok (.iload_n 2, 1) := by decide +kernel
theorem dX10_melody_96 : decode cX10_melody 96 = .ok (.ifCond .le 9, 3) := by decide +kernel
theorem dX10_melody_99 : decode cX10_melody 99 = .ok (.iload_n 2, 1) := by decide +kernel
theorem dX10_melody_100 : decode cX10_melody 100 = .ok (.iconst 1, 1) := by decide +kernel
theorem dX10_melody_101 : decode cX10_melody 101 = .ok (.isub, 1) := by decide +kernel
theorem dX10_melody_102 : decode cX10_melody 102 = .ok (.goto 4, 3) := by decide +kernel
theorem dX10_melody_105 : decode cX10_melody 105 = .ok (.iconst 0, 1) := by decide +kernel
theorem dX10_melody_106 : decode cX10_melody 106 = .ok (.iaload, 1) := by decide +kernel
theorem dX10_melody_107 : decode cX10_melody 107 = .ok (.ifCond .lt 7, 3) := by decide +kernel
theorem dX10_melody_110 : decode cX10_melody 110 = .ok (.iconst 1, 1) := by decide +kernel
theorem dX10_melody_111 : decode cX10_melody 111 = .ok (.goto 4, 3) := by decide +kernel
theorem dX10_melody_114 : decode cX10_melody 114 = .ok (.iconst 0, 1) := by decide +kernel
theorem dX10_melody_115 : decode cX10_melody 115 = .ok (.istore 5, 2) := by decide +kernel
theorem dX10_melody_117 : decode cX10_melody 117 = .ok (.iload_n 2, 1) := by decide +kernel
theorem dX10_melody_118 : decode cX10_melody 118 = .ok (.iconst 1, 1) := by decide +kernel
theorem dX10_melody_119 : decode cX10_melody 119 = .ok (.iadd, 1) := by decide +kernel
theorem dX10_melody_120 : decode cX10_melody 120 = .ok (.aload_n 0, 1) := by decide +kernel
theorem dX10_melody_121 : decode cX10_melody 121 = .ok (.getfield 192, 3) := by decide +kernel
theorem dX10_melody_124 : decode cX10_melody 124 = .ok (.if_icmp .ge 32, 3) := by decide +kernel
theorem dX10_melody_127 : decode cX10_melody 127 = .ok (.aload_n 0, 1) := by decide +kernel
theorem dX10_melody_128 : decode cX10_melody 128 = .ok (.getfield 68, 3) := by decide +kernel
theorem dX10_melody_131 : decode cX10_melody 131 = .ok (.iload_n 2, 1) := by decide +kernel
theorem dX10_melody_132 : decode cX10_melody 132 = .ok (.iconst 1, 1) := by decide +kernel
theorem dX10_melody_133 : decode cX10_melody 133 = .ok (.iadd, 1) := by decide +kernel
theorem dX10_melody_134 : decode cX10_melody 134 = .ok (.aload_n 0, 1) := by decide +kernel
theorem dX10_melody_135 : decode cX10_melody 135 = .ok (.getfield 192, 3) := by decide +kernel
theorem dX10_melody_138 : decode cX10_melody 138 = .ok (.if_icmp .ge 9, 3) := by decide +kernel
theorem dX10_melody_141 : decode cX10_melody 141 = .ok (.iload_n 2, 1) := by decide +kernel
theorem dX10_melody_142 : decode cX10_melody 142 = .ok (.iconst 1, 1) := by decide +kernel
theorem dX10_melody_143 : decode cX10_melody 143 = .ok (.iadd, 1) := by decide +kernel
theorem dX10_melody_144 : decode cX10_melody 144 = .ok (.goto 4, 3) := by decide +kernel
theorem dX10_melody_147 : decode cX10_melody 147 = .ok (.iconst 0, 1) := by decide +kernel
theorem dX10_melody_148 : decode cX10_melody 148 = .ok (.iaload, 1) := by decide +kernel
theorem dX10_melody_149 : decode cX10_melody 149 = .ok (.ifCond .lt 7, 3) := by decide +kernel
theorem dX10_melody_152 : decode cX10_melody 152 = .ok (.iconst 1, 1) := by decide +kernel
theorem dX10_melody_153 : decode cX10_melody 153 = .ok (.goto 4, 3) := by decide +kernel
theorem dX10_melody_156 : decode cX10_melody 156 = .ok (.iconst 0, 1) := by decide +kernel
theorem dX10_melody_157 : decode cX10_melody 157 = .ok (.istore 6, 2) := by decide +kernel
theorem dX10_melody_159 : decode cX10_melody 159 = .ok (.iload 5, 2) := by decide +kernel
theorem dX10_melody_161 : decode cX10_melody 161 = .ok (.ifCond .eq 16, 3) := by decide +kernel
theorem dX10_melody_164 : decode cX10_melody 164 = .ok (.iload_n 3, 1) := by decide +kernel
theorem dX10_melody_165 : decode cX10_melody 165 = .ok (.aload_n 0, 1) := by decide +kernel
theorem dX10_melody_166 : decode cX10_melody 166 = .ok (.getfield 68, 3) := by decide +kernel
theorem dX10_melody_169 : decode cX10_melody 169 = .ok (.iload_n 2, 1) := by decide +kernel
theorem dX10_melody_170 : decode cX10_melody 170 = .ok (.iconst 1, 1) := by decide +kernel
theorem dX10_melody_171 : decode cX10_melody 171 = .ok (.isub, 1) := by decide +kernel
theorem dX10_melody_172 : decode cX10_melody 172 = .ok (.iaload, 1) := by decide +kernel
theorem dX10_melody_173 : decode cX10_melody 173 = .ok (.isub, 1) := by decide +kernel
theorem dX10_melody_174 : decode cX10_melody 174 = .ok (.goto 4, 3) := by decide +kernel
theorem dX10_melody_177 : decode cX10_melody 177 = .ok (.iconst 0, 1) := by decide +kernel
theorem dX10_melody_178 : decode cX10_melody 178 = .ok (.istore 7, 2) := by decide +kernel
theorem dX10_melody_180 : decode cX10_melody 180 = .ok (.iload 6, 2) := by decide +kernel
theorem dX10_melody_182 : decode cX10_melody 182 = .ok (.ifCond .eq 16, 3) := by decide +kernel
theorem dX10_melody_185 : decode cX10_melody 185 = .ok (.aload_n 0, 1) := by decide +kernel
theorem dX10_melody_186 : decode cX10_melody 186 = .ok (.getfield 68, 3) := by decide +kernel
theorem dX10_melody_189 : decode cX10_melody 189 = .ok (.iload_n 2, 1) := by decide +kernel
theorem dX10_melody_190 : decode cX10_melody 190 = .ok (.iconst 1, 1) := by decide +kernel
theorem dX10_melody_191 : decode cX10_melody 191 = .ok (.iadd, 1) := by decide +kernel
theorem dX10_melody_192 : decode cX10_melody 192 = .ok (.iaload, 1) := by decide +kernel
theorem dX10_melody_193 : decode cX10_melody 193 = .ok (.iload_n 3, 1) := by decide +kernel
theorem dX10_melody_194 : decode cX10_melody 194 = .ok (.isub, 1) := by decide +kernel
theorem dX10_melody_195 : decode cX10_melody 195 = .ok (.goto 4, 3) := by decide +kernel
theorem dX10_melody_198 : decode cX10_melody 198 = .ok (.iconst 0, 1) := by decide +kernel
theorem dX10_melody_199 : decode cX10_melody 199 = .ok (.istore 8, 2) := by decide +kernel
theorem dX10_melody_201 : decode cX10_melody 201 = .ok (.iload 5, 2) := by decide +kernel
theorem dX10_melody_203 : decode cX10_melody 203 = .ok (.ifCond .eq 12, 3) := by decide +kernel
theorem dX10_melody_206 : decode cX10_melody 206 = .ok (.iload 6, 2) := by decide +kernel
theorem dX10_melody_208 : decode cX10_melody 208 = .ok (.ifCond .eq 7, 3) := by decide +kernel
theorem dX10_melody_211 : decode cX10_melody 211 = .ok (.iconst 1, 1) := by decide +kernel
theorem dX10_melody_212 : decode cX10_melody 212 = .ok (.goto 4, 3) := by decide +kernel
theorem dX10_melody_215 : decode cX10_melody 215 = .ok (.iconst 0, 1) := by decide +kernel
theorem dX10_melody_216 : decode cX10_melody 216 = .ok (.istore 9, 2) := by decide +kernel
theorem dX10_melody_218 : decode cX10_melody 218 = .ok (.iload 9, 2) := by decide +kernel
theorem dX10_melody_220 : decode cX10_melody 220 = .ok (.ifCond .eq 31, 3) := by decide +kernel
theorem dX10_melody_223 : decode cX10_melody 223 = .ok (.iload 7, 2) := by decide +kernel
theorem dX10_melody_225 : decode cX10_melody 225 = .ok (.invokestatic 277, 3) := by decide +kernel
theorem dX10_melody_228 : decode cX10_melody 228 = .ok (.ifCond .eq 23, 3) := by decide +kernel
theorem dX10_melody_231 : decode cX10_melody 231 = .ok (.iload 8, 2) := by decide +kernel
theorem dX10_melody_233 : decode cX10_melody 233 = .ok (.invokestatic 277, 3) := by decide +kernel
theorem dX10_melody_236 : decode cX10_melody 236 = .ok (.ifCond .eq 15, 3) := by decide +kernel
theorem dX10_melody_239 : decode cX10_melody 239 = .ok (.iload 7, 2) := by decide +kernel
theorem dX10_melody_241 : decode cX10_melody 241 = .ok (.iload 8, 2) := by decide +kernel
theorem dX10_melody_243 : decode cX10_melody 243 = .ok (.invokestatic 280, 3) := by decide +kernel
theorem dX10_melody_246 : decode cX10_melody 246 = .ok (.ifCond .ne 5, 3) := by decide +kernel
theorem dX10_melody_249 : decode cX10_melody 249 = .ok (.iconst 1, 1) := by decide +kernel
theorem dX10_melody_250 : decode cX10_melody 250 = .ok (.ireturn, 1) := by decide +kernel
theorem dX10_melody_251 : decode cX10_melody 251 = .ok (.iload 9, 2) := by decide +kernel
theorem dX10_melody_253 : decode cX10_melody 253 = .ok (.ifCond .eq 21, 3) := by decide +kernel
theorem dX10_melody_256 : decode cX10_melody 256 = .ok (.iload 7, 2) := by decide +kernel
theorem dX10_melody_258 : decode cX10_melody 258 = .ok (.invokestatic 277, 3) := by decide +kernel
theorem dX10_melody_261 : decode cX10_melody 261 = .ok (.ifCond .eq 13, 3) := by decide +kernel
theorem dX10_melody_264 : decode cX10_melody 264 = .ok (.iload 8, 2) := by decide +kernel
theorem dX10_melody_266 : decode cX10_melody 266 = .ok (.iload 7, 2) := by decide +kernel
theorem dX10_melody_268 : decode cX10_melody 268 = .ok (.ineg, 1) := by decide +kernel
theorem dX10_melody_269 : decode cX10_melody 269 = .ok (.if_icmp .ne 5, 3) := by decide +kernel
theorem dX10_melody_272 : decode cX10_melody 272 = .ok (.iconst 2, 1) := by decide +kernel
theorem dX10_melody_273 : decode cX10_melody 273 = .ok (.ireturn, 1) := by decide +kernel
theorem dX10_melody_274 : decode cX10_melody 274 = .ok (.iload 9, 2) := by decide +kernel
theorem dX10_melody_276 : decode cX10_melody 276 = .ok (.ifCond .eq 23, 3) := by decide +kernel
theorem dX10_melody_279 : decode cX10_melody 279 = .ok (.iload 7, 2) := by decide +kernel
theorem dX10_melody_281 : decode cX10_melody 281 = .ok (.ifCond .ne 18, 3) := by decide +kernel
theorem dX10_melody_284 : decode cX10_melody 284 = .ok (.iload 8, 2) := by decide +kernel
theorem dX10_melody_286 : decode cX10_melody 286 = .ok (.iconst (-1), 1) := by decide +kernel
theorem dX10_melody_287 : decode cX10_melody 287 = .ok (.if_icmp .eq 10, 3) := by decide +kernel
theorem dX10_melody_290 : decode cX10_melody 290 = .ok (.iload 8, 2) := by decide +kernel
theorem dX10_melody_292 : decode cX10_melody 292 = .ok (.bipush (-2), 2) := by decide +kernel
theorem dX10_melody_294 : decode cX10_melody 294 = .ok (.if_icmp .ne 5, 3) := by decide +kernel
theorem dX10_melody_297 : decode cX10_melody 297 = .ok (.iconst 3, 1) := by decide +kernel
theorem dX10_melody_298 : decode cX10_melody 298 = .ok (.ireturn, 1) := by decide +kernel
theorem dX10_melody_299 : decode cX10_melody 299 = .ok (.iload 6, 2) := by decide +kernel
theorem dX10_melody_301 : decode cX10_melody 301 = .ok (.ifCond .eq 10, 3) := by decide +kernel
theorem dX10_melody_304 : decode cX10_melody 304 = .ok (.iload 8, 2) := by decide +kernel
theorem dX10_melody_306 : decode cX10_melody 306 = .ok (.ifCond .ne 5, 3) := by decide +kernel
theorem dX10_melody_309 : decode cX10_melody 309 = .ok (.iconst 4, 1) := by decide +kernel
theorem dX10_melody_310 : decode cX10_melody 310 = .ok (.ireturn, 1) := by decide +kernel
theorem dX10_melody_311 : decode cX10_melody 311 = .ok (.iload 9, 2) := by decide +kernel
theorem dX10_melody_313 : decode cX10_melody 313 = .ok (.ifCond .eq 31, 3) := by decide +kernel
theorem dX10_melody_316 : decode cX10_melody 316 = .ok (.iload 7, 2) := by decide +kernel
theorem dX10_melody_318 : decode cX10_melody 318 = .ok (.invokestatic 284, 3) := by decide +kernel
theorem dX10_melody_321 : decode cX10_melody 321 = .ok (.ifCond .eq 23, 3) := by decide +kernel
theorem dX10_melody_324 : decode cX10_melody 324 = .ok (.iload 8, 2) := by decide +kernel
theorem dX10_melody_326 : decode cX10_melody 326 = .ok (.invokestatic 277, 3) := by decide +kernel
theorem dX10_melody_329 : decode cX10_melody 329 = .ok (.ifCond .eq 15, 3) := by decide +kernel
theorem dX10_melody_332 : decode cX10_melody 332 = .ok (.iload 7, 2) := by decide +kernel
theorem dX10_melody_334 : decode cX10_melody 334 = .ok (.iload 8, 2) := by decide +kernel
theorem dX10_melody_336 : decode cX10_melody 336 = .ok (.invokestatic 280, 3) := by decide +kernel
theorem dX10_melody_339 : decode cX10_melody 339 = .ok (.ifCond .eq 5, 3) := by decide +kernel
theorem dX10_melody_342 : decode cX10_melody 342 = .ok (.iconst 5, 1) := by decide +kernel
theorem dX10_melody_343 : decode cX10_melody 343 = .ok (.ireturn, 1) := by decide +kernel
theorem dX10_melody_344 : decode cX10_melody 344 = .ok (.iload 9, 2) := by decide +kernel
theorem dX10_melody_346 : decode cX10_melody 346 = .ok (.ifCond .eq 34, 3) := by decide +kernel
theorem dX10_melody_349 : decode cX10_melody 349 = .ok (.iload 7, 2) := by decide +kernel
theorem dX10_melody_351 : decode cX10_melody 351 = .ok (.invokestatic 277, 3) := by decide +kernel
theorem dX10_melody_354 : decode cX10_melody 354 = .ok (.ifCond .eq 26, 3) := by decide +kernel
theorem dX10_melody_357 : decode cX10_melody 357 = .ok (.iload 8, 2) := by decide +kernel
theorem dX10_melody_359 : decode cX10_melody 359 = .ok (.invokestatic 284, 3) := by decide +kernel
theorem dX10_melody_362 : decode cX10_melody 362 = .ok (.ifCond .eq 18, 3) := by decide +kernel
theorem dX10_melody_365 : decode cX10_melody 365 = .ok (.iload 7, 2) := by decide +kernel
theorem dX10_melody_367 : decode cX10_melody 367 = .ok (.iload 8, 2) := by decide +kernel
theorem dX10_melody_369 : decode cX10_melody 369 = .ok (.invokestatic 280, 3) := by decide +kernel
theorem dX10_melody_372 : decode cX10_melody 372 = .ok (.ifCond .eq 8, 3) := by decide +kernel
theorem dX10_melody_375 : decode cX10_melody 375 = .ok (.bipush 6, 2) := by decide +kernel
theorem dX10_melody_377 : decode cX10_melody 377 = .ok (.goto 5, 3) := by decide +kernel
theorem dX10_melody_380 : decode cX10_melody 380 = .ok (.bipush 7, 2) := by decide +kernel
theorem dX10_melody_382 : decode cX10_melody 382 = .ok (.ireturn, 1) := by decide +kernel
theorem dX10_cell_0 : decode cX10_cell 0 = .ok (.aload_n 0, 1) := by decide +kernel
theorem dX10_cell_1 : decode cX10_cell 1 = .ok (.iload_n 1, 1) := by decide +kernel
theorem dX10_cell_2 : decode cX10_cell 2 = .ok (.ifCond .lt 26, 3) := by decide +kernel
theorem dX10_cell_5 : decode cX10_cell 5 = .ok (.iload_n 1, 1) := by decide +kernel
theorem dX10_cell_6 : decode cX10_cell 6 = .ok (.iload_n 2, 1) := by decide +kernel
theorem dX10_cell_7 : decode cX10_cell 7 = .ok (.if_icmp .gt 21, 3) := by decide +kernel
theorem dX10_cell_10 : decode cX10_cell 10 = .ok (.iload_n 2, 1) := by decide +kernel
theorem dX10_cell_11 : decode cX10_cell 11 = .ok (.aload_n 0, 1) := by decide +kernel
theorem dX10_cell_12 : decode cX10_cell 12 = .ok (.getfield 192, 3) := by decide +kernel
theorem dX10_cell_15 : decode cX10_cell 15 = .ok (.if_icmp .ge 13, 3) := by decide +kernel
theorem dX10_cell_18 : decode cX10_cell 18 = .ok (.iload_n 3, 1) := by decide +kernel
theorem dX10_cell_19 : decode cX10_cell 19 = .ok (.ifCond .lt 9, 3) := by decide +kernel
theorem dX10_cell_22 : decode cX10_cell 22 = .ok (.iload_n 3, 1) := by decide +kernel
theorem dX10_cell_23 : decode cX10_cell 23 = .ok (.bipush 25, 2) := by decide +kernel
theorem dX10_cell_25 : decode cX10_cell 25 = .ok (.if_icmp .le 7, 3) := by decide +kernel
theorem dX10_cell_28 : decode cX10_cell 28 = .ok (.iconst 1, 1) := by decide +kernel
theorem dX10_cell_29 : decode cX10_cell 29 = .ok (.goto 4, 3) := by decide +kernel
theorem dX10_cell_32 : decode cX10_cell 32 = .ok (.iconst 0, 1) := by decide +kernel
theorem dX10_cell_33 : decode cX10_cell 33 = .ok (.putfield 106, 3) := by decide +kernel
theorem dX10_cell_36 : decode cX10_cell 36 = .ok (.aload_n 0, 1) := by decide +kernel
theorem dX10_cell_37 : decode cX10_cell 37 = .ok (.getfield 106, 3) := by decide +kernel
theorem dX10_cell_40 : decode cX10_cell 40 = .ok (.ifCond .le 7, 3) := by decide +kernel
theorem dX10_cell_43 : decode cX10_cell 43 = .ok (.lconst 0, 1) := by decide +kernel
theorem dX10_cell_44 : decode cX10_cell 44 = .ok (.goto 14, 3) := by decide +kernel
theorem dX10_cell_47 : decode cX10_cell 47 = .ok (.aload_n 0, 1) := by decide +kernel
theorem dX10_cell_48 : decode cX10_cell 48 = .ok (.getfield 80, 3) := by decide +kernel
theorem dX10_cell_51 : decode cX10_cell 51 = .ok (.iload_n 3, 1) := by decide +kernel
theorem dX10_cell_52 : decode cX10_cell 52 = .ok (.iload_n 1, 1) := by decide +kernel
theorem dX10_cell_53 : decode cX10_cell 53 = .ok (.iload_n 2, 1) := by decide +kernel
theorem dX10_cell_54 : decode cX10_cell 54 = .ok (.invokestatic 198, 3) := by decide +kernel
theorem dX10_cell_57 : decode cX10_cell 57 = .ok (.laload, 1) := by decide +kernel
theorem dX10_cell_58 : decode cX10_cell 58 = .ok (.lreturn, 1) := by decide +kernel
theorem dX10_told_0 : decode cX10_told 0 = .ok (.aload_n 0, 1) := by decide +kernel
theorem dX10_told_1 : decode cX10_told 1 = .ok (.iconst 0, 1) := by decide +kernel
theorem dX10_told_2 : decode cX10_told 2 = .ok (.putfield 106, 3) := by decide +kernel
theorem dX10_told_5 : decode cX10_told 5 = .ok (.iload_n 1, 1) := by decide +kernel
theorem dX10_told_6 : decode cX10_told 6 = .ok (.tableswitch 59 0 4 #[34, 39, 44, 49, 54], 34) := by decide +kernel
theorem dX10_told_40 : decode cX10_told 40 = .ok (.aload_n 0, 1) := by decide +kernel
theorem dX10_told_41 : decode cX10_told 41 = .ok (.getfield 175, 3) := by decide +kernel
theorem dX10_told_44 : decode cX10_told 44 = .ok (.ireturn, 1) := by decide +kernel
theorem dX10_told_45 : decode cX10_told 45 = .ok (.aload_n 0, 1) := by decide +kernel
theorem dX10_told_46 : decode cX10_told 46 = .ok (.getfield 172, 3) := by decide +kernel
theorem dX10_told_49 : decode cX10_told 49 = .ok (.ireturn, 1) := by decide +kernel
theorem dX10_told_50 : decode cX10_told 50 = .ok (.aload_n 0, 1) := by decide +kernel
theorem dX10_told_51 : decode cX10_told 51 = .ok (.getfield 117, 3) := by decide +kernel
theorem dX10_told_54 : decode cX10_told 54 = .ok (.ireturn, 1) := by decide +kernel
theorem dX10_told_55 : decode cX10_told 55 = .ok (.aload_n 0, 1) := by decide +kernel
theorem dX10_told_56 : decode cX10_told 56 = .ok (.invokevirtual 238, 3) := by decide +kernel
theorem dX10_told_59 : decode cX10_told 59 = .ok (.ireturn, 1) := by decide +kernel
theorem dX10_told_60 : decode cX10_told 60 = .ok (.aload_n 0, 1) := by decide +kernel
theorem dX10_told_61 : decode cX10_told 61 = .ok (.getfield 192, 3) := by decide +kernel
theorem dX10_told_64 : decode cX10_told 64 = .ok (.ireturn, 1) := by decide +kernel
theorem dX10_told_65 : decode cX10_told 65 = .ok (.iconst (-1), 1) := by decide +kernel
theorem dX10_told_66 : decode cX10_told 66 = .ok (.ireturn, 1) := by decide +kernel
theorem dJx00060_init_a7421_0 : decode cJx00060_init_a7421 0 = .ok (.aload_n 0, 1) := by decide +kernel
theorem dJx00060_init_a7421_1 : decode cJx00060_init_a7421 1 = .ok (.aload_n 1, 1) := by decide +kernel
theorem dJx00060_init_a7421_2 : decode cJx00060_init_a7421 2 = .ok (.invokespecial 7, 3) := by decide +kernel
theorem dJx00060_init_a7421_5 : decode cJx00060_init_a7421 5 = .ok (.return_, 1) := by decide +kernel
theorem dJ11_isValidCodePoint_9a6ad_0 : decode cJ11_isValidCodePoint_9a6ad 0 = .ok (.iload_n 0, 1) := by decide +kernel
theorem dJ11_isValidCodePoint_9a6ad_1 : decode cJ11_isValidCodePoint_9a6ad 1 = .ok (.bipush 16, 2) := by decide +kernel
theorem dJ11_isValidCodePoint_9a6ad_3 : decode cJ11_isValidCodePoint_9a6ad 3 = .ok (.iushr, 1) := by decide +kernel
theorem dJ11_isValidCodePoint_9a6ad_4 : decode cJ11_isValidCodePoint_9a6ad 4 = .ok (.istore_n 1, 1) := by decide +kernel
theorem dJ11_isValidCodePoint_9a6ad_5 : decode cJ11_isValidCodePoint_9a6ad 5 = .ok (.iload_n 1, 1) := by decide +kernel
theorem dJ11_isValidCodePoint_9a6ad_6 : decode cJ11_isValidCodePoint_9a6ad 6 = .ok (.bipush 17, 2) := by decide +kernel
theorem dJ11_isValidCodePoint_9a6ad_8 : decode cJ11_isValidCodePoint_9a6ad 8 = .ok (.if_icmp .ge 7, 3) := by decide +kernel
theorem dJ11_isValidCodePoint_9a6ad_11 : decode cJ11_isValidCodePoint_9a6ad 11 = .ok (.iconst 1, 1) := by decide +kernel
theorem dJ11_isValidCodePoint_9a6ad_12 : decode cJ11_isValidCodePoint_9a6ad 12 = .ok (.goto 4, 3) := by decide +kernel
theorem dJ11_isValidCodePoint_9a6ad_15 : decode cJ11_isValidCodePoint_9a6ad 15 = .ok (.iconst 0, 1) := by decide +kernel
theorem dJ11_isValidCodePoint_9a6ad_16 : decode cJ11_isValidCodePoint_9a6ad 16 = .ok (.ireturn, 1) := by decide +kernel
theorem dJ11_highSurrogate_5068e_0 : decode cJ11_highSurrogate_5068e 0 = .ok (.iload_n 0, 1) := by decide +kernel
theorem dJ11_highSurrogate_5068e_1 : decode cJ11_highSurrogate_5068e 1 = .ok (.bipush 10, 2) := by decide +kernel
theorem dJ11_highSurrogate_5068e_3 : decode cJ11_highSurrogate_5068e 3 = .ok (.iushr, 1) := by decide +kernel
theorem dJ11_highSurrogate_5068e_4 : decode cJ11_highSurrogate_5068e 4 = .ok (.ldc 110, 2) := by decide +kernel
theorem dJ11_highSurrogate_5068e_6 : decode cJ11_highSurrogate_5068e 6 = .ok (.iadd, 1) := by decide +kernel
theorem dJ11_highSurrogate_5068e_7 : decode cJ11_highSurrogate_5068e 7 = .ok (.i2c, 1) := by decide +kernel
theorem dJ11_highSurrogate_5068e_8 : decode cJ11_highSurrogate_5068e 8 = .ok (.ireturn, 1) := by decide +kernel
theorem dJ11_lowSurrogate_5068e_0 : decode cJ11_lowSurrogate_5068e 0 = .ok (.iload_n 0, 1) := by decide +kernel
theorem dJ11_lowSurrogate_5068e_1 : decode cJ11_lowSurrogate_5068e 1 = .ok (.sipush 1023, 3) := by decide +kernel
theorem dJ11_lowSurrogate_5068e_4 : decode cJ11_lowSurrogate_5068e 4 = .ok (.iand, 1) := by decide +kernel
theorem dJ11_lowSurrogate_5068e_5 : decode cJ11_lowSurrogate_5068e 5 = .ok (.ldc 76, 2) := by decide +kernel
theorem dJ11_lowSurrogate_5068e_7 : decode cJ11_lowSurrogate_5068e 7 = .ok (.iadd, 1) := by decide +kernel
theorem dJ11_lowSurrogate_5068e_8 : decode cJ11_lowSurrogate_5068e 8 = .ok (.i2c, 1) := by decide +kernel
theorem dJ11_lowSurrogate_5068e_9 : decode cJ11_lowSurrogate_5068e 9 = .ok (.ireturn, 1) := by decide +kernel
theorem dJ6_bitCount_0f7a4_0 : decode cJ6_bitCount_0f7a4 0 = .ok (.iload_n 0, 1) := by decide +kernel
theorem dJ6_bitCount_0f7a4_1 : decode cJ6_bitCount_0f7a4 1 = .ok (.iload_n 0, 1) := by decide +kernel
theorem dJ6_bitCount_0f7a4_2 : decode cJ6_bitCount_0f7a4 2 = .ok (.iconst 1, 1) := by decide +kernel
theorem dJ6_bitCount_0f7a4_3 : decode cJ6_bitCount_0f7a4 3 = .ok (.iushr, 1) := by decide +kernel
theorem dJ6_bitCount_0f7a4_4 : decode cJ6_bitCount_0f7a4 4 = .ok (.ldc_w 265, 3) := by decide +kernel
theorem dJ6_bitCount_0f7a4_7 : decode cJ6_bitCount_0f7a4 7 = .ok (.iand, 1) := by decide +kernel
theorem dJ6_bitCount_0f7a4_8 : decode cJ6_bitCount_0f7a4 8 = .ok (.isub, 1) := by decide +kernel
theorem dJ6_bitCount_0f7a4_9 : decode cJ6_bitCount_0f7a4 9 = .ok (.istore_n 0, 1) := by decide +kernel
theorem dJ6_bitCount_0f7a4_10 : decode cJ6_bitCount_0f7a4 10 = .ok (.iload_n 0, 1) := by decide +kernel
theorem dJ6_bitCount_0f7a4_11 : decode cJ6_bitCount_0f7a4 11 = .ok (.ldc_w 266, 3) := by decide +kernel
theorem dJ6_bitCount_0f7a4_14 : decode cJ6_bitCount_0f7a4 14 = .ok (.iand, 1) := by decide +kernel
theorem dJ6_bitCount_0f7a4_15 : decode cJ6_bitCount_0f7a4 15 = .ok (.iload_n 0, 1) := by decide +kernel
theorem dJ6_bitCount_0f7a4_16 : decode cJ6_bitCount_0f7a4 16 = .ok (.iconst 2, 1) := by decide +kernel
theorem dJ6_bitCount_0f7a4_17 : decode cJ6_bitCount_0f7a4 17 = .ok (.iushr, 1) := by decide +kernel
theorem dJ6_bitCount_0f7a4_18 : decode cJ6_bitCount_0f7a4 18 = .ok (.ldc_w 266, 3) := by decide +kernel
theorem dJ6_bitCount_0f7a4_21 : decode cJ6_bitCount_0f7a4 21 = .ok (.iand, 1) := by decide +kernel
theorem dJ6_bitCount_0f7a4_22 : decode cJ6_bitCount_0f7a4 22 = .ok (.iadd, 1) := by decide +kernel
theorem dJ6_bitCount_0f7a4_23 : decode cJ6_bitCount_0f7a4 23 = .ok (.istore_n 0, 1) := by decide +kernel
theorem dJ6_bitCount_0f7a4_24 : decode cJ6_bitCount_0f7a4 24 = .ok (.iload_n 0, 1) := by decide +kernel
theorem dJ6_bitCount_0f7a4_25 : decode cJ6_bitCount_0f7a4 25 = .ok (.iload_n 0, 1) := by decide +kernel
theorem dJ6_bitCount_0f7a4_26 : decode cJ6_bitCount_0f7a4 26 = .ok (.iconst 4, 1) := by decide +kernel
theorem dJ6_bitCount_0f7a4_27 : decode cJ6_bitCount_0f7a4 27 = .ok (.iushr, 1) := by decide +kernel
theorem dJ6_bitCount_0f7a4_28 : decode cJ6_bitCount_0f7a4 28 = .ok (.iadd, 1) := by decide +kernel
theorem dJ6_bitCount_0f7a4_29 : decode cJ6_bitCount_0f7a4 29 = .ok (.ldc_w 267, 3) := by decide +kernel
theorem dJ6_bitCount_0f7a4_32 : decode cJ6_bitCount_0f7a4 32 = .ok (.iand, 1) := by decide +kernel
theorem dJ6_bitCount_0f7a4_33 : decode cJ6_bitCount_0f7a4 33 = .ok (.istore_n 0, 1) := by decide +kernel
theorem dJ6_bitCount_0f7a4_34 : decode cJ6_bitCount_0f7a4 34 = .ok (.iload_n 0, 1) := by decide +kernel
theorem dJ6_bitCount_0f7a4_35 : decode cJ6_bitCount_0f7a4 35 = .ok (.iload_n 0, 1) := by decide +kernel
theorem dJ6_bitCount_0f7a4_36 : decode cJ6_bitCount_0f7a4 36 = .ok (.bipush 8, 2) := by decide +kernel
theorem dJ6_bitCount_0f7a4_38 : decode cJ6_bitCount_0f7a4 38 = .ok (.iushr, 1) := by decide +kernel
theorem dJ6_bitCount_0f7a4_39 : decode cJ6_bitCount_0f7a4 39 = .ok (.iadd, 1) := by decide +kernel
theorem dJ6_bitCount_0f7a4_40 : decode cJ6_bitCount_0f7a4 40 = .ok (.istore_n 0, 1) := by decide +kernel
theorem dJ6_bitCount_0f7a4_41 : decode cJ6_bitCount_0f7a4 41 = .ok (.iload_n 0, 1) := by decide +kernel
theorem dJ6_bitCount_0f7a4_42 : decode cJ6_bitCount_0f7a4 42 = .ok (.iload_n 0, 1) := by decide +kernel
theorem dJ6_bitCount_0f7a4_43 : decode cJ6_bitCount_0f7a4 43 = .ok (.bipush 16, 2) := by decide +kernel
theorem dJ6_bitCount_0f7a4_45 : decode cJ6_bitCount_0f7a4 45 = .ok (.iushr, 1) := by decide +kernel
theorem dJ6_bitCount_0f7a4_46 : decode cJ6_bitCount_0f7a4 46 = .ok (.iadd, 1) := by decide +kernel
theorem dJ6_bitCount_0f7a4_47 : decode cJ6_bitCount_0f7a4 47 = .ok (.istore_n 0, 1) := by decide +kernel
theorem dJ6_bitCount_0f7a4_48 : decode cJ6_bitCount_0f7a4 48 = .ok (.iload_n 0, 1) := by decide +kernel
theorem dJ6_bitCount_0f7a4_49 : decode cJ6_bitCount_0f7a4 49 = .ok (.bipush 63, 2) := by decide +kernel
theorem dJ6_bitCount_0f7a4_51 : decode cJ6_bitCount_0f7a4 51 = .ok (.iand, 1) := by decide +kernel
theorem dJ6_bitCount_0f7a4_52 : decode cJ6_bitCount_0f7a4 52 = .ok (.ireturn, 1) := by decide +kernel
theorem dJ9_max_7cf53_0 : decode cJ9_max_7cf53 0 = .ok (.iload_n 0, 1) := by decide +kernel
theorem dJ9_max_7cf53_1 : decode cJ9_max_7cf53 1 = .ok (.iload_n 1, 1) := by decide +kernel
theorem dJ9_max_7cf53_2 : decode cJ9_max_7cf53 2 = .ok (.if_icmp .lt 7, 3) := by decide +kernel
theorem dJ9_max_7cf53_5 : decode cJ9_max_7cf53 5 = .ok (.iload_n 0, 1) := by decide +kernel
theorem dJ9_max_7cf53_6 : decode cJ9_max_7cf53 6 = .ok (.goto 4, 3) := by decide +kernel
theorem dJ9_max_7cf53_9 : decode cJ9_max_7cf53 9 = .ok (.iload_n 1, 1) := by decide +kernel
theorem dJ9_max_7cf53_10 : decode cJ9_max_7cf53 10 = .ok (.ireturn, 1) := by decide +kernel
theorem dJ9_min_7cf53_0 : decode cJ9_min_7cf53 0 = .ok (.iload_n 0, 1) := by decide +kernel
theorem dJ9_min_7cf53_1 : decode cJ9_min_7cf53 1 = .ok (.iload_n 1, 1) := by decide +kernel
theorem dJ9_min_7cf53_2 : decode cJ9_min_7cf53 2 = .ok (.if_icmp .gt 7, 3) := by decide +kernel
theorem dJ9_min_7cf53_5 : decode cJ9_min_7cf53 5 = .ok (.iload_n 0, 1) := by decide +kernel
theorem dJ9_min_7cf53_6 : decode cJ9_min_7cf53 6 = .ok (.goto 4, 3) := by decide +kernel
theorem dJ9_min_7cf53_9 : decode cJ9_min_7cf53 9 = .ok (.iload_n 1, 1) := by decide +kernel
theorem dJ9_min_7cf53_10 : decode cJ9_min_7cf53 10 = .ok (.ireturn, 1) := by decide +kernel
theorem dJ0_length_8abf5_0 : decode cJ0_length_8abf5 0 = .ok (.aload_n 0, 1) := by decide +kernel
theorem dJ0_length_8abf5_1 : decode cJ0_length_8abf5 1 = .ok (.getfield 9, 3) := by decide +kernel
theorem dJ0_length_8abf5_4 : decode cJ0_length_8abf5 4 = .ok (.arraylength, 1) := by decide +kernel
theorem dJ0_length_8abf5_5 : decode cJ0_length_8abf5 5 = .ok (.aload_n 0, 1) := by decide +kernel
theorem dJ0_length_8abf5_6 : decode cJ0_length_8abf5 6 = .ok (.invokevirtual 335, 3) := by decide +kernel
theorem dJ0_length_8abf5_9 : decode cJ0_length_8abf5 9 = .ok (.ishr, 1) := by decide +kernel
theorem dJ0_length_8abf5_10 : decode cJ0_length_8abf5 10 = .ok (.ireturn, 1) := by decide +kernel
theorem dJ0_indexOf_0f7a4_0 : decode cJ0_indexOf_0f7a4 0 = .ok (.aload_n 0, 1) := by decide +kernel
theorem dJ0_indexOf_0f7a4_1 : decode cJ0_indexOf_0f7a4 1 = .ok (.iload_n 1, 1) := by decide +kernel
theorem dJ0_indexOf_0f7a4_2 : decode cJ0_indexOf_0f7a4 2 = .ok (.iconst 0, 1) := by decide +kernel
theorem dJ0_indexOf_0f7a4_3 : decode cJ0_indexOf_0f7a4 3 = .ok (.invokevirtual 633, 3) := by decide +kernel
theorem dJ0_indexOf_0f7a4_6 : decode cJ0_indexOf_0f7a4 6 = .ok (.ireturn, 1) := by decide +kernel
theorem dJ0_indexOf_7cf53_0 : decode cJ0_indexOf_7cf53 0 = .ok (.aload_n 0, 1) := by decide +kernel
theorem dJ0_indexOf_7cf53_1 : decode cJ0_indexOf_7cf53 1 = .ok (.invokevirtual 492, 3) := by decide +kernel
theorem dJ0_indexOf_7cf53_4 : decode cJ0_indexOf_7cf53 4 = .ok (.ifCond .eq 19, 3) := by decide +kernel
theorem dJ0_indexOf_7cf53_7 : decode cJ0_indexOf_7cf53 7 = .ok (.aload_n 0, 1) := by decide +kernel
theorem dJ0_indexOf_7cf53_8 : decode cJ0_indexOf_7cf53 8 = .ok (.getfield 9, 3) := by decide +kernel
theorem dJ0_indexOf_7cf53_11 : decode cJ0_indexOf_7cf53 11 = .ok (.iload_n 1, 1) := by decide +kernel
theorem dJ0_indexOf_7cf53_12 : decode cJ0_indexOf_7cf53 12 = .ok (.iload_n 2, 1) := by decide +kernel
theorem dJ0_indexOf_7cf53_13 : decode cJ0_indexOf_7cf53 13 = .ok (.aload_n 0, 1) := by decide +kernel
theorem dJ0_indexOf_7cf53_14 : decode cJ0_indexOf_7cf53 14 = .ok (.invokevirtual 505, 3) := by decide +kernel
theorem dJ0_indexOf_7cf53_17 : decode cJ0_indexOf_7cf53 17 = .ok (.invokestatic 637, 3) := by decide +kernel
theorem dJ0_indexOf_7cf53_20 : decode cJ0_indexOf_7cf53 20 = .ok (.goto 16, 3) := by decide +kernel
theorem dJ0_indexOf_7cf53_23 : decode cJ0_indexOf_7cf53 23 = .ok (.aload_n 0, 1) := by decide +kernel
theorem dJ0_indexOf_7cf53_24 : decode cJ0_indexOf_7cf53 24 = .ok (.getfield 9, 3) := by decide +kernel
theorem dJ0_indexOf_7cf53_27 : decode cJ0_indexOf_7cf53 27 = .ok (.iload_n 1, 1) := by decide +kernel
theorem dJ0_indexOf_7cf53_28 : decode cJ0_indexOf_7cf53 28 = .ok (.iload_n 2, 1) := by decide +kernel
theorem dJ0_indexOf_7cf53_29 : decode cJ0_indexOf_7cf53 29 = .ok (.aload_n 0, 1) := by decide +kernel
theorem dJ0_indexOf_7cf53_30 : decode cJ0_indexOf_7cf53 30 = .ok (.invokevirtual 505, 3) := by decide +kernel
theorem dJ0_indexOf_7cf53_33 : decode cJ0_indexOf_7cf53 33 = .ok (.invokestatic 640, 3) := by decide +kernel
theorem dJ0_indexOf_7cf53_36 : decode cJ0_indexOf_7cf53 36 = .ok (.ireturn, 1) := by decide +kernel
theorem dJ0_coder_7d493_0 : decode cJ0_coder_7d493 0 = .ok (.getstatic 38, 3) := by decide +kernel
theorem dJ0_coder_7d493_3 : decode cJ0_coder_7d493 3 = .ok (.ifCond .eq 10, 3) := by decide +kernel
theorem dJ0_coder_7d493_6 : decode cJ0_coder_7d493 6 = .ok (.aload_n 0, 1) := by decide +kernel
theorem dJ0_coder_7d493_7 : decode cJ0_coder_7d493 7 = .ok (.getfield 15, 3) := by decide +kernel
theorem dJ0_coder_7d493_10 : decode cJ0_coder_7d493 10 = .ok (.goto 4, 3) := by decide +kernel
theorem dJ0_coder_7d493_13 : decode cJ0_coder_7d493 13 = .ok (.iconst 1, 1) := by decide +kernel
theorem dJ0_coder_7d493_14 : decode cJ0_coder_7d493 14 = .ok (.ireturn, 1) := by decide +kernel
theorem dJ0_isLatin1_aae02_0 : decode cJ0_isLatin1_aae02 0 = .ok (.getstatic 38, 3) := by decide +kernel
theorem dJ0_isLatin1_aae02_3 : decode cJ0_isLatin1_aae02 3 = .ok (.ifCond .eq 14, 3) := by decide +kernel
theorem dJ0_isLatin1_aae02_6 : decode cJ0_isLatin1_aae02 6 = .ok (.aload_n 0, 1) := by decide +kernel
theorem dJ0_isLatin1_aae02_7 : decode cJ0_isLatin1_aae02 7 = .ok (.getfield 15, 3) := by decide +kernel
theorem dJ0_isLatin1_aae02_10 : decode cJ0_isLatin1_aae02 10 = .ok (.ifCond .ne 7, 3) := by decide +kernel
theorem dJ0_isLatin1_aae02_13 : decode cJ0_isLatin1_aae02 13 = .ok (.iconst 1, 1) := by decide +kernel
theorem dJ0_isLatin1_aae02_14 : decode cJ0_isLatin1_aae02 14 = .ok (.goto 4, 3) := by decide +kernel
theorem dJ0_isLatin1_aae02_17 : decode cJ0_isLatin1_aae02 17 = .ok (.iconst 0, 1) := by decide +kernel
theorem dJ0_isLatin1_aae02_18 : decode cJ0_isLatin1_aae02 18 = .ok (.ireturn, 1) := by decide +kernel
theorem dJ0_checkBoundsBeginEnd_23922_0 : decode cJ0_checkBoundsBeginEnd_23922 0 = .ok (.iload_n 0, 1) := by decide +kernel
theorem dJ0_checkBoundsBeginEnd_23922_1 : decode cJ0_checkBoundsBeginEnd_23922 1 = .ok (.iload_n 1, 1) := by decide +kernel
theorem dJ0_checkBoundsBeginEnd_23922_2 : decode cJ0_checkBoundsBeginEnd_23922 2 = .ok (.iload_n 2, 1) := by decide +kernel
theorem dJ0_checkBoundsBeginEnd_23922_3 : decode cJ0_checkBoundsBeginEnd_23922 3 = .ok (.getstatic 1053, 3) := by decide +kernel
theorem dJ0_checkBoundsBeginEnd_23922_6 : decode cJ0_checkBoundsBeginEnd_23922 6 = .ok (.invokestatic 1062, 3) := by decide +kernel
theorem dJ0_checkBoundsBeginEnd_23922_9 : decode cJ0_checkBoundsBeginEnd_23922 9 = .ok (.pop, 1) := by decide +kernel
theorem dJ0_checkBoundsBeginEnd_23922_10 : decode cJ0_checkBoundsBeginEnd_23922 10 = .ok (.return_, 1) := by decide +kernel
theorem dJ1_canEncode_9a6ad_0 : decode cJ1_canEncode_9a6ad 0 = .ok (.iload_n 0, 1) := by decide +kernel
theorem dJ1_canEncode_9a6ad_1 : decode cJ1_canEncode_9a6ad 1 = .ok (.ifCond .lt 14, 3) := by decide +kernel
theorem dJ1_canEncode_9a6ad_4 : decode cJ1_canEncode_9a6ad 4 = .ok (.iload_n 0, 1) := by decide +kernel
theorem dJ1_canEncode_9a6ad_5 : decode cJ1_canEncode_9a6ad 5 = .ok (.sipush 255, 3) := by decide +kernel
theorem dJ1_canEncode_9a6ad_8 : decode cJ1_canEncode_9a6ad 8 = .ok (.if_icmp .gt 7, 3) := by decide +kernel
theorem dJ1_canEncode_9a6ad_11 : decode cJ1_canEncode_9a6ad 11 = .ok (.iconst 1, 1) := by decide +kernel
theorem dJ1_canEncode_9a6ad_12 : decode cJ1_canEncode_9a6ad 12 = .ok (.goto 4, 3) := by decide +kernel
theorem dJ1_canEncode_9a6ad_15 : decode cJ1_canEncode_9a6ad 15 = .ok (.iconst 0, 1) := by decide +kernel
theorem dJ1_canEncode_9a6ad_16 : decode cJ1_canEncode_9a6ad 16 = .ok (.ireturn, 1) := by decide +kernel
theorem dJ1_indexOf_4cfef_0 : decode cJ1_indexOf_4cfef 0 = .ok (.iload_n 1, 1) := by decide +kernel
theorem dJ1_indexOf_4cfef_1 : decode cJ1_indexOf_4cfef 1 = .ok (.invokestatic 88, 3) := by decide +kernel
theorem dJ1_indexOf_4cfef_4 : decode cJ1_indexOf_4cfef 4 = .ok (.ifCond .ne 5, 3) := by decide +kernel
theorem dJ1_indexOf_4cfef_7 : decode cJ1_indexOf_4cfef 7 = .ok (.iconst (-1), 1) := by decide +kernel
theorem dJ1_indexOf_4cfef_8 : decode cJ1_indexOf_4cfef 8 = .ok (.ireturn, 1) := by decide +kernel
theorem dJ1_indexOf_4cfef_9 : decode cJ1_indexOf_4cfef 9 = .ok (.iload_n 2, 1) := by decide +kernel
theorem dJ1_indexOf_4cfef_10 : decode cJ1_indexOf_4cfef 10 = .ok (.iconst 0, 1) := by decide +kernel
theorem dJ1_indexOf_4cfef_11 : decode cJ1_indexOf_4cfef 11 = .ok (.invokestatic 92, 3) := by decide +kernel
theorem dJ1_indexOf_4cfef_14 : decode cJ1_indexOf_4cfef 14 = .ok (.istore_n 2, 1) := by decide +kernel
theorem dJ1_indexOf_4cfef_15 : decode cJ1_indexOf_4cfef 15 = .ok (.iload_n 3, 1) := by decide +kernel
theorem dJ1_indexOf_4cfef_16 : decode cJ1_indexOf_4cfef 16 = .ok (.aload_n 0, 1) := by decide +kernel
theorem dJ1_indexOf_4cfef_17 : decode cJ1_indexOf_4cfef 17 = .ok (.arraylength, 1) := by decide +kernel
theorem dJ1_indexOf_4cfef_18 : decode cJ1_indexOf_4cfef 18 = .ok (.invokestatic 38, 3) := by decide +kernel
theorem dJ1_indexOf_4cfef_21 : decode cJ1_indexOf_4cfef 21 = .ok (.istore_n 3, 1) := by decide +kernel
theorem dJ1_indexOf_4cfef_22 : decode cJ1_indexOf_4cfef 22 = .ok (.iload_n 2, 1) := by decide +kernel
theorem dJ1_indexOf_4cfef_23 : decode cJ1_indexOf_4cfef 23 = .ok (.iload_n 3, 1) := by decide +kernel
theorem dJ1_indexOf_4cfef_24 : decode cJ1_indexOf_4cfef 24 = .ok (.if_icmp .lt 5, 3) := by decide +kernel
theorem dJ1_indexOf_4cfef_27 : decode cJ1_indexOf_4cfef 27 = .ok (.iconst (-1), 1) := by decide +kernel
theorem dJ1_indexOf_4cfef_28 : decode cJ1_indexOf_4cfef 28 = .ok (.ireturn, 1) := by decide +kernel
theorem dJ1_indexOf_4cfef_29 : decode cJ1_indexOf_4cfef 29 = .ok (.aload_n 0, 1) := by decide +kernel
theorem dJ1_indexOf_4cfef_30 : decode cJ1_indexOf_4cfef 30 = .ok (.iload_n 1, 1) := by decide +kernel
theorem dJ1_indexOf_4cfef_31 : decode cJ1_indexOf_4cfef 31 = .ok (.iload_n 2, 1) := by decide +kernel
theorem dJ1_indexOf_4cfef_32 : decode cJ1_indexOf_4cfef 32 = .ok (.iload_n 3, 1) := by decide +kernel
theorem dJ1_indexOf_4cfef_33 : decode cJ1_indexOf_4cfef 33 = .ok (.invokestatic 95, 3) := by decide +kernel
theorem dJ1_indexOf_4cfef_36 : decode cJ1_indexOf_4cfef 36 = .ok (.ireturn, 1) := by decide +kernel
theorem dJ1_indexOfChar_4cfef_0 : decode cJ1_indexOfChar_4cfef 0 = .ok (.iload_n 1, 1) := by decide +kernel
theorem dJ1_indexOfChar_4cfef_1 : decode cJ1_indexOfChar_4cfef 1 = .ok (.i2b, 1) := by decide +kernel
theorem dJ1_indexOfChar_4cfef_2 : decode cJ1_indexOfChar_4cfef 2 = .ok (.istore 4, 2) := by decide +kernel
theorem dJ1_indexOfChar_4cfef_4 : decode cJ1_indexOfChar_4cfef 4 = .ok (.iload_n 2, 1) := by decide +kernel
theorem dJ1_indexOfChar_4cfef_5 : decode cJ1_indexOfChar_4cfef 5 = .ok (.istore 5, 2) := by decide +kernel
theorem dJ1_indexOfChar_4cfef_7 : decode cJ1_indexOfChar_4cfef 7 = .ok (.iload 5, 2) := by decide +kernel
theorem dJ1_indexOfChar_4cfef_9 : decode cJ1_indexOfChar_4cfef 9 = .ok (.iload_n 3, 1) := by decide +kernel
theorem dJ1_indexOfChar_4cfef_10 : decode cJ1_indexOfChar_4cfef 10 = .ok (.if_icmp .ge 21, 3) := by decide +kernel
theorem dJ1_indexOfChar_4cfef_13 : decode cJ1_indexOfChar_4cfef 13 = .ok (.aload_n 0, 1) := by decide +kernel
theorem dJ1_indexOfChar_4cfef_14 : decode cJ1_indexOfChar_4cfef 14 = .ok (.iload 5, 2) := by decide +kernel
theorem dJ1_indexOfChar_4cfef_16 : decode cJ1_indexOfChar_4cfef 16 = .ok (.baload, 1) := by decide +kernel
theorem dJ1_indexOfChar_4cfef_17 : decode cJ1_indexOfChar_4cfef 17 = .ok (.iload 4, 2) := by decide +kernel
theorem dJ1_indexOfChar_4cfef_19 : decode cJ1_indexOfChar_4cfef 19 = .ok (.if_icmp .ne 6, 3) := by decide +kernel
theorem dJ1_indexOfChar_4cfef_22 : decode cJ1_indexOfChar_4cfef 22 = .ok (.iload 5, 2) := by decide +kernel
theorem dJ1_indexOfChar_4cfef_24 : decode cJ1_indexOfChar_4cfef 24 = .ok (.ireturn, 1) := by decide +kernel
theorem dJ1_indexOfChar_4cfef_25 : decode cJ1_indexOfChar_4cfef 25 = .ok (.iinc 5 1, 3) := by decide +kernel
theorem dJ1_indexOfChar_4cfef_28 : decode cJ1_indexOfChar_4cfef 28 = .ok (.goto (-21), 3) := by decide +kernel
theorem dJ1_indexOfChar_4cfef_31 : decode cJ1_indexOfChar_4cfef 31 = .ok (.iconst (-1), 1) := by decide +kernel
theorem dJ1_indexOfChar_4cfef_32 : decode cJ1_indexOfChar_4cfef 32 = .ok (.ireturn, 1) := by decide +kernel
theorem dJ2_getChar_3b067_0 : decode cJ2_getChar_3b067 0 = .ok (.getstatic 44, 3) := by decide +kernel
theorem dJ2_getChar_3b067_3 : decode cJ2_getChar_3b067 3 = .ok (.ifCond .ne 25, 3) := by decide +kernel
theorem dJ2_getChar_3b067_6 : decode cJ2_getChar_3b067 6 = .ok (.iload_n 1, 1) := by decide +kernel
theorem dJ2_getChar_3b067_7 : decode cJ2_getChar_3b067 7 = .ok (.ifCond .lt 11, 3) := by decide +kernel
theorem dJ2_getChar_3b067_10 : decode cJ2_getChar_3b067 10 = .ok (.iload_n 1, 1) := by decide +kernel
theorem dJ2_getChar_3b067_11 : decode cJ2_getChar_3b067 11 = .ok (.aload_n 0, 1) := by decide +kernel
theorem dJ2_getChar_3b067_12 : decode cJ2_getChar_3b067 12 = .ok (.invokestatic 48, 3) := by decide +kernel
theorem dJ2_getChar_3b067_15 : decode cJ2_getChar_3b067 15 = .ok (.if_icmp .lt 13, 3) := by decide +kernel
theorem dJ2_getChar_3b067_18 : decode cJ2_getChar_3b067 18 = .ok (.new 52, 3) := by decide +kernel
theorem dJ2_getChar_3b067_21 : decode cJ2_getChar_3b067 21 = .ok (.dup, 1) := by decide +kernel
theorem dJ2_getChar_3b067_22 : decode cJ2_getChar_3b067 22 = .ok (.ldc 54, 2) := by decide +kernel
theorem dJ2_getChar_3b067_24 : decode cJ2_getChar_3b067 24 = .ok (.invokespecial 56, 3) := by decide +kernel
theorem dJ2_getChar_3b067_27 : decode cJ2_getChar_3b067 27 = .ok (.athrow, 1) := by decide +kernel
theorem dJ2_getChar_3b067_28 : decode cJ2_getChar_3b067 28 = .ok (.iload_n 1, 1) := by decide +kernel
theorem dJ2_getChar_3b067_29 : decode cJ2_getChar_3b067 29 = .ok (.iconst 1, 1) := by decide +kernel
theorem dJ2_getChar_3b067_30 : decode cJ2_getChar_3b067 30 = .ok (.ishl, 1) := by decide +kernel
theorem dJ2_getChar_3b067_31 : decode cJ2_getChar_3b067 31 = .ok (.istore_n 1, 1) := by decide +kernel
theorem dJ2_getChar_3b067_32 : decode cJ2_getChar_3b067 32 = .ok (.aload_n 0, 1) := by decide +kernel
theorem dJ2_getChar_3b067_33 : decode cJ2_getChar_3b067 33 = .ok (.iload_n 1, 1) := by decide +kernel
theorem dJ2_getChar_3b067_34 : decode cJ2_getChar_3b067 34 = .ok (.iinc 1 1, 3) := by decide +kernel
theorem dJ2_getChar_3b067_37 : decode cJ2_getChar_3b067 37 = .ok (.baload, 1) := by decide +kernel
theorem dJ2_getChar_3b067_38 : decode cJ2_getChar_3b067 38 = .ok (.sipush 255, 3) := by decide +kernel
theorem dJ2_getChar_3b067_41 : decode cJ2_getChar_3b067 41 = .ok (.iand, 1) := by decide +kernel
theorem dJ2_getChar_3b067_42 : decode cJ2_getChar_3b067 42 = .ok (.getstatic 59, 3) := by decide +kernel
theorem dJ2_getChar_3b067_45 : decode cJ2_getChar_3b067 45 = .ok (.ishl, 1) := by decide +kernel
theorem dJ2_getChar_3b067_46 : decode cJ2_getChar_3b067 46 = .ok (.aload_n 0, 1) := by decide +kernel
theorem dJ2_getChar_3b067_47 : decode cJ2_getChar_3b067 47 = .ok (.iload_n 1, 1) := by decide +kernel
theorem dJ2_getChar_3b067_48 : decode cJ2_getChar_3b067 48 = .ok (.baload, 1) := by decide +kernel
theorem dJ2_getChar_3b067_49 : decode cJ2_getChar_3b067 49 = .ok (.sipush 255, 3) := by decide +kernel
theorem dJ2_getChar_3b067_52 : decode cJ2_getChar_3b067 52 = .ok (.iand, 1) := by decide +kernel
theorem dJ2_getChar_3b067_53 : decode cJ2_getChar_3b067 53 = .ok (.getstatic 63, 3) := by decide +kernel
theorem dJ2_getChar_3b067_56 : decode cJ2_getChar_3b067 56 = .ok (.ishl, 1) := by decide +kernel
theorem dJ2_getChar_3b067_57 : decode cJ2_getChar_3b067 57 = .ok (.ior, 1) := by decide +kernel
theorem dJ2_getChar_3b067_58 : decode cJ2_getChar_3b067 58 = .ok (.i2c, 1) := by decide +kernel
theorem dJ2_getChar_3b067_59 : decode cJ2_getChar_3b067 59 = .ok (.ireturn, 1) := by decide +kernel
theorem dJ2_length_9d52b_0 : decode cJ2_length_9d52b 0 = .ok (.aload_n 0, 1) := by decide +kernel
theorem dJ2_length_9d52b_1 : decode cJ2_length_9d52b 1 = .ok (.arraylength, 1) := by decide +kernel
theorem dJ2_length_9d52b_2 : decode cJ2_length_9d52b 2 = .ok (.iconst 1, 1) := by decide +kernel
theorem dJ2_length_9d52b_3 : decode cJ2_length_9d52b 3 = .ok (.ishr, 1) := by decide +kernel
theorem dJ2_length_9d52b_4 : decode cJ2_length_9d52b 4 = .ok (.ireturn, 1) := by decide +kernel
theorem dJ2_indexOf_4cfef_0 : decode cJ2_indexOf_4cfef 0 = .ok (.iload_n 2, 1) := by decide +kernel
theorem dJ2_indexOf_4cfef_1 : decode cJ2_indexOf_4cfef 1 = .ok (.iconst 0, 1) := by decide +kernel
theorem dJ2_indexOf_4cfef_2 : decode cJ2_indexOf_4cfef 2 = .ok (.invokestatic 224, 3) := by decide +kernel
theorem dJ2_indexOf_4cfef_5 : decode cJ2_indexOf_4cfef 5 = .ok (.istore_n 2, 1) := by decide +kernel
theorem dJ2_indexOf_4cfef_6 : decode cJ2_indexOf_4cfef 6 = .ok (.iload_n 3, 1) := by decide +kernel
theorem dJ2_indexOf_4cfef_7 : decode cJ2_indexOf_4cfef 7 = .ok (.aload_n 0, 1) := by decide +kernel
theorem dJ2_indexOf_4cfef_8 : decode cJ2_indexOf_4cfef 8 = .ok (.arraylength, 1) := by decide +kernel
theorem dJ2_indexOf_4cfef_9 : decode cJ2_indexOf_4cfef 9 = .ok (.iconst 1, 1) := by decide +kernel
theorem dJ2_indexOf_4cfef_10 : decode cJ2_indexOf_4cfef 10 = .ok (.ishr, 1) := by decide +kernel
theorem dJ2_indexOf_4cfef_11 : decode cJ2_indexOf_4cfef 11 = .ok (.invokestatic 183, 3) := by decide +kernel
theorem dJ2_indexOf_4cfef_14 : decode cJ2_indexOf_4cfef 14 = .ok (.istore_n 3, 1) := by decide +kernel
theorem dJ2_indexOf_4cfef_15 : decode cJ2_indexOf_4cfef 15 = .ok (.iload_n 2, 1) := by decide +kernel
theorem dJ2_indexOf_4cfef_16 : decode cJ2_indexOf_4cfef 16 = .ok (.iload_n 3, 1) := by decide +kernel
theorem dJ2_indexOf_4cfef_17 : decode cJ2_indexOf_4cfef 17 = .ok (.if_icmp .lt 5, 3) := by decide +kernel
theorem dJ2_indexOf_4cfef_20 : decode cJ2_indexOf_4cfef 20 = .ok (.iconst (-1), 1) := by decide +kernel
theorem dJ2_indexOf_4cfef_21 : decode cJ2_indexOf_4cfef 21 = .ok (.ireturn, 1) := by decide +kernel
theorem dJ2_indexOf_4cfef_22 : decode cJ2_indexOf_4cfef 22 = .ok (.iload_n 1, 1) := by decide +kernel
theorem dJ2_indexOf_4cfef_23 : decode cJ2_indexOf_4cfef 23 = .ok (.ldc 227, 2) := by decide +kernel
theorem dJ2_indexOf_4cfef_25 : decode cJ2_indexOf_4cfef 25 = .ok (.if_icmp .ge 11, 3) := by decide +kernel
theorem dJ2_indexOf_4cfef_28 : decode cJ2_indexOf_4cfef 28 = .ok (.aload_n 0, 1) := by decide +kernel
theorem dJ2_indexOf_4cfef_29 : decode cJ2_indexOf_4cfef 29 = .ok (.iload_n 1, 1) := by decide +kernel
theorem dJ2_indexOf_4cfef_30 : decode cJ2_indexOf_4cfef 30 = .ok (.iload_n 2, 1) := by decide +kernel
theorem dJ2_indexOf_4cfef_31 : decode cJ2_indexOf_4cfef 31 = .ok (.iload_n 3, 1) := by decide +kernel
theorem dJ2_indexOf_4cfef_32 : decode cJ2_indexOf_4cfef 32 = .ok (.invokestatic 228, 3) := by decide +kernel
theorem dJ2_indexOf_4cfef_35 : decode cJ2_indexOf_4cfef 35 = .ok (.ireturn, 1) := by decide +kernel
theorem dJ2_indexOf_4cfef_36 : decode cJ2_indexOf_4cfef 36 = .ok (.aload_n 0, 1) := by decide +kernel
theorem dJ2_indexOf_4cfef_37 : decode cJ2_indexOf_4cfef 37 = .ok (.iload_n 1, 1) := by decide +kernel
theorem dJ2_indexOf_4cfef_38 : decode cJ2_indexOf_4cfef 38 = .ok (.iload_n 2, 1) := by decide +kernel
theorem dJ2_indexOf_4cfef_39 : decode cJ2_indexOf_4cfef 39 = .ok (.iload_n 3, 1) := by decide +kernel
theorem dJ2_indexOf_4cfef_40 : decode cJ2_indexOf_4cfef 40 = .ok (.invokestatic 232, 3) := by decide +kernel
theorem dJ2_indexOf_4cfef_43 : decode cJ2_indexOf_4cfef 43 = .ok (.ireturn, 1) := by decide +kernel
theorem dJ2_indexOfChar_4cfef_0 : decode cJ2_indexOfChar_4cfef 0 = .ok (.iload_n 2, 1) := by decide +kernel
theorem dJ2_indexOfChar_4cfef_1 : decode cJ2_indexOfChar_4cfef 1 = .ok (.iload_n 3, 1) := by decide +kernel
theorem dJ2_indexOfChar_4cfef_2 : decode cJ2_indexOfChar_4cfef 2 = .ok (.aload_n 0, 1) := by decide +kernel
theorem dJ2_indexOfChar_4cfef_3 : decode cJ2_indexOfChar_4cfef 3 = .ok (.invokestatic 96, 3) := by decide +kernel
theorem dJ2_indexOfChar_4cfef_6 : decode cJ2_indexOfChar_4cfef 6 = .ok (.aload_n 0, 1) := by decide +kernel
theorem dJ2_indexOfChar_4cfef_7 : decode cJ2_indexOfChar_4cfef 7 = .ok (.iload_n 1, 1) := by decide +kernel
theorem dJ2_indexOfChar_4cfef_8 : decode cJ2_indexOfChar_4cfef 8 = .ok (.iload_n 2, 1) := by decide +kernel
theorem dJ2_indexOfChar_4cfef_9 : decode cJ2_indexOfChar_4cfef 9 = .ok (.iload_n 3, 1) := by decide +kernel
theorem dJ2_indexOfChar_4cfef_10 : decode cJ2_indexOfChar_4cfef 10 = .ok (.invokestatic 244, 3) := by decide +kernel
theorem dJ2_indexOfChar_4cfef_13 : decode cJ2_indexOfChar_4cfef 13 = .ok (.ireturn, 1) := by decide +kernel
theorem dJ2_indexOfCharUnsafe_4cfef_0 : decode cJ2_indexOfCharUnsafe_4cfef 0 = .ok (.iload_n 2, 1) := by decide +kernel
theorem dJ2_indexOfCharUnsafe_4cfef_1 : decode cJ2_indexOfCharUnsafe_4cfef 1 = .ok (.istore 4, 2) := by decide +kernel
theorem dJ2_indexOfCharUnsafe_4cfef_3 : decode cJ2_indexOfCharUnsafe_4cfef 3 = .ok (.iload 4, 2) := by decide +kernel
theorem dJ2_indexOfCharUnsafe_4cfef_5 : decode cJ2_indexOfCharUnsafe_4cfef 5 = .ok (.iload_n 3, 1) := by decide +kernel
theorem dJ2_indexOfCharUnsafe_4cfef_6 : decode cJ2_indexOfCharUnsafe_4cfef 6 = .ok (.if_icmp .ge 22, 3) := by decide +kernel
theorem dJ2_indexOfCharUnsafe_4cfef_9 : decode cJ2_indexOfCharUnsafe_4cfef 9 = .ok (.aload_n 0, 1) := by decide +kernel
theorem dJ2_indexOfCharUnsafe_4cfef_10 : decode cJ2_indexOfCharUnsafe_4cfef 10 = .ok (.iload 4, 2) := by decide +kernel
theorem dJ2_indexOfCharUnsafe_4cfef_12 : decode cJ2_indexOfCharUnsafe_4cfef 12 = .ok (.invokestatic 71, 3) := by decide +kernel
theorem dJ2_indexOfCharUnsafe_4cfef_15 : decode cJ2_indexOfCharUnsafe_4cfef 15 = .ok (.iload_n 1, 1) := by decide +kernel
theorem dJ2_indexOfCharUnsafe_4cfef_16 : decode cJ2_indexOfCharUnsafe_4cfef 16 = .ok (.if_icmp .ne 6, 3) := by decide +kernel
theorem dJ2_indexOfCharUnsafe_4cfef_19 : decode cJ2_indexOfCharUnsafe_4cfef 19 = .ok (.iload 4, 2) := by decide +kernel
theorem dJ2_indexOfCharUnsafe_4cfef_21 : decode cJ2_indexOfCharUnsafe_4cfef 21 = .ok (.ireturn, 1) := by decide +kernel
theorem dJ2_indexOfCharUnsafe_4cfef_22 : decode cJ2_indexOfCharUnsafe_4cfef 22 = .ok (.iinc 4 1, 3) := by decide +kernel
theorem dJ2_indexOfCharUnsafe_4cfef_25 : decode cJ2_indexOfCharUnsafe_4cfef 25 = .ok (.goto (-22), 3) := by decide +kernel
theorem dJ2_indexOfCharUnsafe_4cfef_28 : decode cJ2_indexOfCharUnsafe_4cfef 28 = .ok (.iconst (-1), 1) := by decide +kernel
theorem dJ2_indexOfCharUnsafe_4cfef_29 : decode cJ2_indexOfCharUnsafe_4cfef 29 = .ok (.ireturn, 1) := by decide +kernel
theorem dJ2_indexOfSupplementary_4cfef_0 : decode cJ2_indexOfSupplementary_4cfef 0 = .ok (.iload_n 1, 1) := by decide +kernel
theorem dJ2_indexOfSupplementary_4cfef_1 : decode cJ2_indexOfSupplementary_4cfef 1 = .ok (.invokestatic 164, 3) := by decide +kernel
theorem dJ2_indexOfSupplementary_4cfef_4 : decode cJ2_indexOfSupplementary_4cfef 4 = .ok (.ifCond .eq 65, 3) := by decide +kernel
theorem dJ2_indexOfSupplementary_4cfef_7 : decode cJ2_indexOfSupplementary_4cfef 7 = .ok (.iload_n 1, 1) := by decide +kernel
theorem dJ2_indexOfSupplementary_4cfef_8 : decode cJ2_indexOfSupplementary_4cfef 8 = .ok (.invokestatic 157, 3) := by decide +kernel
theorem dJ2_indexOfSupplementary_4cfef_11 : decode cJ2_indexOfSupplementary_4cfef 11 = .ok (.istore 4, 2) := by decide +kernel
theorem dJ2_indexOfSupplementary_4cfef_13 : decode cJ2_indexOfSupplementary_4cfef 13 = .ok (.iload_n 1, 1) := by decide +kernel
theorem dJ2_indexOfSupplementary_4cfef_14 : decode cJ2_indexOfSupplementary_4cfef 14 = .ok (.invokestatic 161, 3) := by decide +kernel
theorem dJ2_indexOfSupplementary_4cfef_17 : decode cJ2_indexOfSupplementary_4cfef 17 = .ok (.istore 5, 2) := by decide +kernel
theorem dJ2_indexOfSupplementary_4cfef_19 : decode cJ2_indexOfSupplementary_4cfef 19 = .ok (.iload_n 2, 1) := by decide +kernel
theorem dJ2_indexOfSupplementary_4cfef_20 : decode cJ2_indexOfSupplementary_4cfef 20 = .ok (.iload_n 3, 1) := by decide +kernel
theorem dJ2_indexOfSupplementary_4cfef_21 : decode cJ2_indexOfSupplementary_4cfef 21 = .ok (.aload_n 0, 1) := by decide +kernel
theorem dJ2_indexOfSupplementary_4cfef_22 : decode cJ2_indexOfSupplementary_4cfef 22 = .ok (.invokestatic 96, 3) := by decide +kernel
theorem dJ2_indexOfSupplementary_4cfef_25 : decode cJ2_indexOfSupplementary_4cfef 25 = .ok (.iload_n 2, 1) := by decide +kernel
theorem dJ2_indexOfSupplementary_4cfef_26 : decode cJ2_indexOfSupplementary_4cfef 26 = .ok (.istore 6, 2) := by decide +kernel
theorem dJ2_indexOfSupplementary_4cfef_28 : decode cJ2_indexOfSupplementary_4cfef 28 = .ok (.iload 6, 2) := by decide +kernel
theorem dJ2_indexOfSupplementary_4cfef_30 : decode cJ2_indexOfSupplementary_4cfef 30 = .ok (.iload_n 3, 1) := by decide +kernel
theorem dJ2_indexOfSupplementary_4cfef_31 : decode cJ2_indexOfSupplementary_4cfef 31 = .ok (.iconst 1, 1) := by decide +kernel
theorem dJ2_indexOfSupplementary_4cfef_32 : decode cJ2_indexOfSupplementary_4cfef 32 = .ok (.isub, 1) := by decide +kernel
theorem dJ2_indexOfSupplementary_4cfef_33 : decode cJ2_indexOfSupplementary_4cfef 33 = .ok (.if_icmp .ge 36, 3) := by decide +kernel
theorem dJ2_indexOfSupplementary_4cfef_36 : decode cJ2_indexOfSupplementary_4cfef 36 = .ok (.aload_n 0, 1) := by decide +kernel
theorem dJ2_indexOfSupplementary_4cfef_37 : decode cJ2_indexOfSupplementary_4cfef 37 = .ok (.iload 6, 2) := by decide +kernel
theorem dJ2_indexOfSupplementary_4cfef_39 : decode cJ2_indexOfSupplementary_4cfef 39 = .ok (.invokestatic 71, 3) := by decide +kernel
theorem dJ2_indexOfSupplementary_4cfef_42 : decode cJ2_indexOfSupplementary_4cfef 42 = .ok (.iload 4, 2) := by decide +kernel
theorem dJ2_indexOfSupplementary_4cfef_44 : decode cJ2_indexOfSupplementary_4cfef 44 = .ok (.if_icmp .ne 19, 3) := by decide +kernel
theorem dJ2_indexOfSupplementary_4cfef_47 : decode cJ2_indexOfSupplementary_4cfef 47 = .ok (.aload_n 0, 1) := by decide +kernel
theorem dJ2_indexOfSupplementary_4cfef_48 : decode cJ2_indexOfSupplementary_4cfef 48 = .ok (.iload 6, 2) := by decide +kernel
theorem dJ2_indexOfSupplementary_4cfef_50 : decode cJ2_indexOfSupplementary_4cfef 50 = .ok (.iconst 1, 1) := by decide +kernel
theorem dJ2_indexOfSupplementary_4cfef_51 : decode cJ2_indexOfSupplementary_4cfef 51 = .ok (.iadd, 1) := by decide +kernel
theorem dJ2_indexOfSupplementary_4cfef_52 : decode cJ2_indexOfSupplementary_4cfef 52 = .ok (.invokestatic 71, 3) := by decide +kernel
theorem dJ2_indexOfSupplementary_4cfef_55 : decode cJ2_indexOfSupplementary_4cfef 55 = .ok (.iload 5, 2) := by decide +kernel
theorem dJ2_indexOfSupplementary_4cfef_57 : decode cJ2_indexOfSupplementary_4cfef 57 = .ok (.if_icmp .ne 6, 3) := by decide +kernel
theorem dJ2_indexOfSupplementary_4cfef_60 : decode cJ2_indexOfSupplementary_4cfef 60 = .ok (.iload 6, 2) := by decide +kernel
theorem dJ2_indexOfSupplementary_4cfef_62 : decode cJ2_indexOfSupplementary_4cfef 62 = .ok (.ireturn, 1) := by decide +kernel
theorem dJ2_indexOfSupplementary_4cfef_63 : decode cJ2_indexOfSupplementary_4cfef 63 = .ok (.iinc 6 1, 3) := by decide +kernel
theorem dJ2_indexOfSupplementary_4cfef_66 : decode cJ2_indexOfSupplementary_4cfef 66 = .ok (.goto (-38), 3) := by decide +kernel
theorem dJ2_indexOfSupplementary_4cfef_69 : decode cJ2_indexOfSupplementary_4cfef 69 = .ok (.iconst (-1), 1) := by decide +kernel
theorem dJ2_indexOfSupplementary_4cfef_70 : decode cJ2_indexOfSupplementary_4cfef 70 = .ok (.ireturn, 1) := by decide +kernel
theorem dJ2_checkBoundsBeginEnd_d044e_0 : decode cJ2_checkBoundsBeginEnd_d044e 0 = .ok (.iload_n 0, 1) := by decide +kernel
theorem dJ2_checkBoundsBeginEnd_d044e_1 : decode cJ2_checkBoundsBeginEnd_d044e 1 = .ok (.iload_n 1, 1) := by decide +kernel
theorem dJ2_checkBoundsBeginEnd_d044e_2 : decode cJ2_checkBoundsBeginEnd_d044e 2 = .ok (.aload_n 2, 1) := by decide +kernel
theorem dJ2_checkBoundsBeginEnd_d044e_3 : decode cJ2_checkBoundsBeginEnd_d044e 3 = .ok (.invokestatic 48, 3) := by decide +kernel
theorem dJ2_checkBoundsBeginEnd_d044e_6 : decode cJ2_checkBoundsBeginEnd_d044e 6 = .ok (.invokestatic 241, 3) := by decide +kernel
theorem dJ2_checkBoundsBeginEnd_d044e_9 : decode cJ2_checkBoundsBeginEnd_d044e 9 = .ok (.return_, 1) := by decide +kernel
theorem dJ3_checkFromToIndex_8c36e_0 : decode cJ3_checkFromToIndex_8c36e 0 = .ok (.iload_n 0, 1) := by decide +kernel
theorem dJ3_checkFromToIndex_8c36e_1 : decode cJ3_checkFromToIndex_8c36e 1 = .ok (.ifCond .lt 13, 3) := by decide +kernel
theorem dJ3_checkFromToIndex_8c36e_4 : decode cJ3_checkFromToIndex_8c36e 4 = .ok (.iload_n 0, 1) := by decide +kernel
theorem dJ3_checkFromToIndex_8c36e_5 : decode cJ3_checkFromToIndex_8c36e 5 = .ok (.iload_n 1, 1) := by decide +kernel
theorem dJ3_checkFromToIndex_8c36e_6 : decode cJ3_checkFromToIndex_8c36e 6 = .ok (.if_icmp .gt 8, 3) := by decide +kernel
theorem dJ3_checkFromToIndex_8c36e_9 : decode cJ3_checkFromToIndex_8c36e 9 = .ok (.iload_n 1, 1) := by decide +kernel
theorem dJ3_checkFromToIndex_8c36e_10 : decode cJ3_checkFromToIndex_8c36e 10 = .ok (.iload_n 2, 1) := by decide +kernel
theorem dJ3_checkFromToIndex_8c36e_11 : decode cJ3_checkFromToIndex_8c36e 11 = .ok (.if_icmp .le 11, 3) := by decide +kernel
theorem dJ3_checkFromToIndex_8c36e_14 : decode cJ3_checkFromToIndex_8c36e 14 = .ok (.aload_n 3, 1) := by decide +kernel
theorem dJ3_checkFromToIndex_8c36e_15 : decode cJ3_checkFromToIndex_8c36e 15 = .ok (.iload_n 0, 1) := by decide +kernel
theorem dJ3_checkFromToIndex_8c36e_16 : decode cJ3_checkFromToIndex_8c36e 16 = .ok (.iload_n 1, 1) := by decide +kernel
theorem dJ3_checkFromToIndex_8c36e_17 : decode cJ3_checkFromToIndex_8c36e 17 = .ok (.iload_n 2, 1) := by decide +kernel
theorem dJ3_checkFromToIndex_8c36e_18 : decode cJ3_checkFromToIndex_8c36e 18 = .ok (.invokestatic 99, 3) := by decide +kernel
theorem dJ3_checkFromToIndex_8c36e_21 : decode cJ3_checkFromToIndex_8c36e 21 = .ok (.athrow, 1) := by decide +kernel
theorem dJ3_checkFromToIndex_8c36e_22 : decode cJ3_checkFromToIndex_8c36e 22 = .ok (.iload_n 0, 1) := by decide +kernel
theorem dJ3_checkFromToIndex_8c36e_23 : decode cJ3_checkFromToIndex_8c36e 23 = .ok (.ireturn, 1) := by decide +kernel
theorem dL_cell_0 : decode cL_cell 0 = .ok (.aload 4, 2) := by decide +kernel
theorem dL_cell_2 : decode cL_cell 2 = .ok (.iconst 0, 1) := by decide +kernel
theorem dL_cell_3 : decode cL_cell 3 = .ok (.aload_n 0, 1) := by decide +kernel
theorem dL_cell_4 : decode cL_cell 4 = .ok (.iload_n 1, 1) := by decide +kernel
theorem dL_cell_5 : decode cL_cell 5 = .ok (.iload_n 2, 1) := by decide +kernel
theorem dL_cell_6 : decode cL_cell 6 = .ok (.iload_n 3, 1) := by decide +kernel
theorem dL_cell_7 : decode cL_cell 7 = .ok (.invokevirtual 7, 3) := by decide +kernel
theorem dL_cell_10 : decode cL_cell 10 = .ok (.lastore, 1) := by decide +kernel
theorem dL_cell_11 : decode cL_cell 11 = .ok (.goto 7, 3) := by decide +kernel
theorem dL_cell_14 : decode cL_cell 14 = .ok (.astore 5, 2) := by decide +kernel
theorem dL_cell_16 : decode cL_cell 16 = .ok (.iconst 1, 1) := by decide +kernel
theorem dL_cell_17 : decode cL_cell 17 = .ok (.ireturn, 1) := by decide +kernel
theorem dL_cell_18 : decode cL_cell 18 = .ok (.iconst 0, 1) := by decide +kernel
theorem dL_cell_19 : decode cL_cell 19 = .ok (.ireturn, 1) := by decide +kernel
theorem dL_law_0 : decode cL_law 0 = .ok (.new 8, 3) := by decide +kernel
theorem dL_law_3 : decode cL_law 3 = .ok (.dup, 1) := by decide +kernel
theorem dL_law_4 : decode cL_law 4 = .ok (.invokespecial 15, 3) := by decide +kernel
theorem dL_law_7 : decode cL_law 7 = .ok (.astore_n 1, 1) := by decide +kernel
theorem dL_law_8 : decode cL_law 8 = .ok (.new 16, 3) := by decide +kernel
theorem dL_law_11 : decode cL_law 11 = .ok (.dup, 1) := by decide +kernel
theorem dL_law_12 : decode cL_law 12 = .ok (.invokespecial 18, 3) := by decide +kernel
theorem dL_law_15 : decode cL_law 15 = .ok (.astore_n 2, 1) := by decide +kernel
theorem dL_law_16 : decode cL_law 16 = .ok (.iconst 1, 1) := by decide +kernel
theorem dL_law_17 : decode cL_law 17 = .ok (.newarray .long, 2) := by decide +kernel
theorem dL_law_19 : decode cL_law 19 = .ok (.astore_n 3, 1) := by decide +kernel
theorem dL_law_20 : decode cL_law 20 = .ok (.iconst 0, 1) := by decide +kernel
theorem dL_law_21 : decode cL_law 21 = .ok (.istore 4, 2) := by decide +kernel
theorem dL_law_23 : decode cL_law 23 = .ok (.iload 4, 2) := by decide +kernel
theorem dL_law_25 : decode cL_law 25 = .ok (.aload_n 0, 1) := by decide +kernel
theorem dL_law_26 : decode cL_law 26 = .ok (.arraylength, 1) := by decide +kernel
theorem dL_law_27 : decode cL_law 27 = .ok (.iconst 4, 1) := by decide +kernel
theorem dL_law_28 : decode cL_law 28 = .ok (.isub, 1) := by decide +kernel
theorem dL_law_29 : decode cL_law 29 = .ok (.if_icmp .gt 738, 3) := by decide +kernel
theorem dL_law_32 : decode cL_law 32 = .ok (.aload_n 0, 1) := by decide +kernel
theorem dL_law_33 : decode cL_law 33 = .ok (.iload 4, 2) := by decide +kernel
theorem dL_law_35 : decode cL_law 35 = .ok (.iaload, 1) := by decide +kernel
theorem dL_law_36 : decode cL_law 36 = .ok (.bipush 31, 2) := by decide +kernel
theorem dL_law_38 : decode cL_law 38 = .ok (.iand, 1) := by decide +kernel
theorem dL_law_39 : decode cL_law 39 = .ok (.tableswitch 722 0 17 #[85, 138, 175, 244, 257, 306, 319, 368, 393, 406, 420, 445, 494, 519, 556, 581, 618, 697], 85) := by decide +kernel
theorem dL_law_124 : decode cL_law 124 = .ok (.aload_n 1, 1) := by decide +kernel
theorem dL_law_125 : decode cL_law 125 = .ok (.aload_n 0, 1) := by decide +kernel
theorem dL_law_126 : decode cL_law 126 = .ok (.iload 4, 2) := by decide +kernel
theorem dL_law_128 : decode cL_law 128 = .ok (.iconst 1, 1) := by decide +kernel
theorem dL_law_129 : decode cL_law 129 = .ok (.iadd, 1) := by decide +kernel
theorem dL_law_130 : decode cL_law 130 = .ok (.iaload, 1) := by decide +kernel
theorem dL_law_131 : decode cL_law 131 = .ok (.aload_n 0, 1) := by decide +kernel
theorem dL_law_132 : decode cL_law 132 = .ok (.iload 4, 2) := by decide +kernel
theorem dL_law_134 : decode cL_law 134 = .ok (.iconst 2, 1) := by decide +kernel
theorem dL_law_135 : decode cL_law 135 = .ok (.iadd, 1) := by decide +kernel
theorem dL_law_136 : decode cL_law 136 = .ok (.iaload, 1) := by decide +kernel
theorem dL_law_137 : decode cL_law 137 = .ok (.ifCond .eq 7, 3) := by decide +kernel
theorem dL_law_140 : decode cL_law 140 = .ok (.iconst 1, 1) := by decide +kernel
theorem dL_law_141 : decode cL_law 141 = .ok (.goto 4, 3) := by decide +kernel
theorem dL_law_144 : decode cL_law 144 = .ok (.iconst 0, 1) := by decide +kernel
theorem dL_law_145 : decode cL_law 145 = .ok (.invokevirtual 19, 3) := by decide +kernel
theorem dL_law_148 : decode cL_law 148 = .ok (.aload_n 2, 1) := by decide +kernel
theorem dL_law_149 : decode cL_law 149 = .ok (.aload_n 0, 1) := by decide +kernel
theorem dL_law_150 : decode cL_law 150 = .ok (.iload 4, 2) := by decide +kernel
theorem dL_law_152 : decode cL_law 152 = .ok (.iconst 1, 1) := by decide +kernel
theorem dL_law_153 : decode cL_law 153 = .ok (.iadd, 1) := by decide +kernel
theorem dL_law_154 : decode cL_law 154 = .ok (.iaload, 1) := by decide +kernel
theorem dL_law_155 : decode cL_law 155 = .ok (.aload_n 0, 1) := by decide +kernel
theorem dL_law_156 : decode cL_law 156 = .ok (.iload 4, 2) := by decide +kernel
theorem dL_law_158 : decode cL_law 158 = .ok (.iconst 2, 1) := by decide +kernel
theorem dL_law_159 : decode cL_law 159 = .ok (.iadd, 1) := by decide +kernel
theorem dL_law_160 : decode cL_law 160 = .ok (.iaload, 1) := by decide +kernel
theorem dL_law_161 : decode cL_law 161 = .ok (.ifCond .eq 7, 3) := by decide +kernel
theorem dL_law_164 : decode cL_law 164 = .ok (.iconst 1, 1) := by decide +kernel
theorem dL_law_165 : decode cL_law 165 = .ok (.goto 4, 3) := by decide +kernel
theorem dL_law_168 : decode cL_law 168 = .ok (.iconst 0, 1) := by decide +kernel
theorem dL_law_169 : decode cL_law 169 = .ok (.invokevirtual 23, 3) := by decide +kernel
theorem dL_law_172 : decode cL_law 172 = .ok (.if_icmp .eq 589, 3) := by decide +kernel
theorem dL_law_175 : decode cL_law 175 = .ok (.iconst 0, 1) := by decide +kernel
theorem dL_law_176 : decode cL_law 176 = .ok (.ireturn, 1) := by decide +kernel
theorem dL_law_177 : decode cL_law 177 = .ok (.aload_n 1, 1) := by decide +kernel
theorem dL_law_178 : decode cL_law 178 = .ok (.aload_n 0, 1) := by decide +kernel
theorem dL_law_179 : decode cL_law 179 = .ok (.iload 4, 2) := by decide +kernel
theorem dL_law_181 : decode cL_law 181 = .ok (.iconst 1, 1) := by decide +kernel
theorem dL_law_182 : decode cL_law 182 = .ok (.iadd, 1) := by decide +kernel
theorem dL_law_183 : decode cL_law 183 = .ok (.iaload, 1) := by decide +kernel
theorem dL_law_184 : decode cL_law 184 = .ok (.aload_n 0, 1) := by decide +kernel
theorem dL_law_185 : decode cL_law 185 = .ok (.iload 4, 2) := by decide +kernel
theorem dL_law_187 : decode cL_law 187 = .ok (.iconst 2, 1) := by decide +kernel
theorem dL_law_188 : decode cL_law 188 = .ok (.iadd, 1) := by decide +kernel
theorem dL_law_189 : decode cL_law 189 = .ok (.iaload, 1) := by decide +kernel
theorem dL_law_190 : decode cL_law 190 = .ok (.invokevirtual 24, 3) := by decide +kernel
theorem dL_law_193 : decode cL_law 193 = .ok (.aload_n 2, 1) := by decide +kernel
theorem dL_law_194 : decode cL_law 194 = .ok (.aload_n 0, 1) := by decide +kernel
theorem dL_law_195 : decode cL_law 195 = .ok (.iload 4, 2) := by decide +kernel
theorem dL_law_197 : decode cL_law 197 = .ok (.iconst 1, 1) := by decide +kernel
theorem dL_law_198 : decode cL_law 198 = .ok (.iadd, 1) := by decide +kernel
theorem dL_law_199 : decode cL_law 199 = .ok (.iaload, 1) := by decide +kernel
theorem dL_law_200 : decode cL_law 200 = .ok (.aload_n 0, 1) := by decide +kernel
theorem dL_law_201 : decode cL_law 201 = .ok (.iload 4, 2) := by decide +kernel
theorem dL_law_203 : decode cL_law 203 = .ok (.iconst 2, 1) := by decide +kernel
theorem dL_law_204 : decode cL_law 204 = .ok (.iadd, 1) := by decide +kernel
theorem dL_law_205 : decode cL_law 205 = .ok (.iaload, 1) := by decide +kernel
theorem dL_law_206 : decode cL_law 206 = .ok (.invokevirtual 28, 3) := by decide +kernel
theorem dL_law_209 : decode cL_law 209 = .ok (.if_icmp .eq 552, 3) := by decide +kernel
theorem dL_law_212 : decode cL_law 212 = .ok (.iconst 0, 1) := by decide +kernel
theorem dL_law_213 : decode cL_law 213 = .ok (.ireturn, 1) := by decide +kernel
theorem dL_law_214 : decode cL_law 214 = .ok (.aload_n 1, 1) := by decide +kernel
theorem dL_law_215 : decode cL_law 215 = .ok (.aload_n 0, 1) := by decide +kernel
theorem dL_law_216 : decode cL_law 216 = .ok (.iload 4, 2) := by decide +kernel
theorem dL_law_218 : decode cL_law 218 = .ok (.iconst 1, 1) := by decide +kernel
theorem dL_law_219 : decode cL_law 219 = .ok (.iadd, 1) := by decide +kernel
theorem dL_law_220 : decode cL_law 220 = .ok (.iaload, 1) := by decide +kernel
theorem dL_law_221 : decode cL_law 221 = .ok (.aload_n 0, 1) := by decide +kernel
theorem dL_law_222 : decode cL_law 222 = .ok (.iload 4, 2) := by decide +kernel
theorem dL_law_224 : decode cL_law 224 = .ok (.iconst 2, 1) := by decide +kernel
theorem dL_law_225 : decode cL_law 225 = .ok (.iadd, 1) := by decide +kernel
theorem dL_law_226 : decode cL_law 226 = .ok (.iaload, 1) := by decide +kernel
theorem dL_law_227 : decode cL_law 227 = .ok (.i2l, 1) := by decide +kernel
theorem dL_law_228 : decode cL_law 228 = .ok (.bipush 32, 2) := by decide +kernel
theorem dL_law_230 : decode cL_law 230 = .ok (.lshl, 1) := by decide +kernel
theorem dL_law_231 : decode cL_law 231 = .ok (.aload_n 0, 1) := by decide +kernel
theorem dL_law_232 : decode cL_law 232 = .ok (.iload 4, 2) := by decide +kernel
theorem dL_law_234 : decode cL_law 234 = .ok (.iconst 3, 1) := by decide +kernel
theorem dL_law_235 : decode cL_law 235 = .ok (.iadd, 1) := by decide +kernel
theorem dL_law_236 : decode cL_law 236 = .ok (.iaload, 1) := by decide +kernel
theorem dL_law_237 : decode cL_law 237 = .ok (.i2l, 1) := by decide +kernel
theorem dL_law_238 : decode cL_law 238 = .ok (.ldc2_w 29, 3) := by decide +kernel
theorem dL_law_241 : decode cL_law 241 = .ok (.land, 1) := by decide +kernel
theorem dL_law_242 : decode cL_law 242 = .ok (.lor, 1) := by decide +kernel
theorem dL_law_243 : decode cL_law 243 = .ok (.invokevirtual 31, 3) := by decide +kernel
theorem dL_law_246 : decode cL_law 246 = .ok (.aload_n 2, 1) := by decide +kernel
theorem dL_law_247 : decode cL_law 247 = .ok (.aload_n 0, 1) := by decide +kernel
theorem dL_law_248 : decode cL_law 248 = .ok (.iload 4, 2) := by decide +kernel
theorem dL_law_250 : decode cL_law 250 = .ok (.iconst 1, 1) := by decide +kernel
theorem dL_law_251 : decode cL_law 251 = .ok (.iadd, 1) := by decide +kernel
theorem dL_law_252 : decode cL_law 252 = .ok (.iaload, 1) := by decide +kernel
theorem dL_law_253 : decode cL_law 253 = .ok (.aload_n 0, 1) := by decide +kernel
theorem dL_law_254 : decode cL_law 254 = .ok (.iload 4, 2) := by decide +kernel
theorem dL_law_256 : decode cL_law 256 = .ok (.iconst 2, 1) := by decide +kernel
theorem dL_law_257 : decode cL_law 257 = .ok (.iadd, 1) := by decide +kernel
theorem dL_law_258 : decode cL_law 258 = .ok (.iaload, 1) := by decide +kernel
theorem dL_law_259 : decode cL_law 259 = .ok (.i2l, 1) := by decide +kernel
theorem dL_law_260 : decode cL_law 260 = .ok (.bipush 32, 2) := by decide +kernel
theorem dL_law_262 : decode cL_law 262 = .ok (.lshl, 1) := by decide +kernel
theorem dL_law_263 : decode cL_law 263 = .ok (.aload_n 0, 1) := by decide +kernel
theorem dL_law_264 : decode cL_law 264 = .ok (.iload 4, 2) := by decide +kernel
theorem dL_law_266 : decode cL_law 266 = .ok (.iconst 3, 1) := by decide +kernel
theorem dL_law_267 : decode cL_law 267 = .ok (.iadd, 1) := by decide +kernel
theorem dL_law_268 : decode cL_law 268 = .ok (.iaload, 1) := by decide +kernel
theorem dL_law_269 : decode cL_law 269 = .ok (.i2l, 1) := by decide +kernel
theorem dL_law_270 : decode cL_law 270 = .ok (.ldc2_w 29, 3) := by decide +kernel
theorem dL_law_273 : decode cL_law 273 = .ok (.land, 1) := by decide +kernel
theorem dL_law_274 : decode cL_law 274 = .ok (.lor, 1) := by decide +kernel
theorem dL_law_275 : decode cL_law 275 = .ok (.invokevirtual 35, 3) := by decide +kernel
theorem dL_law_278 : decode cL_law 278 = .ok (.if_icmp .eq 483, 3) := by decide +kernel
theorem dL_law_281 : decode cL_law 281 = .ok (.iconst 0, 1) := by decide +kernel
theorem dL_law_282 : decode cL_law 282 = .ok (.ireturn, 1) := by decide +kernel
theorem dL_law_283 : decode cL_law 283 = .ok (.aload_n 1, 1) := by decide +kernel
theorem dL_law_284 : decode cL_law 284 = .ok (.invokevirtual 36, 3) := by decide +kernel
theorem dL_law_287 : decode cL_law 287 = .ok (.aload_n 2, 1) := by decide +kernel
theorem dL_law_288 : decode cL_law 288 = .ok (.invokevirtual 40, 3) := by decide +kernel
theorem dL_law_291 : decode cL_law 291 = .ok (.if_icmp .eq 470, 3) := by decide +kernel
theorem dL_law_294 : decode cL_law 294 = .ok (.iconst 0, 1) := by decide +kernel
theorem dL_law_295 : decode cL_law 295 = .ok (.ireturn, 1) := by decide +kernel
theorem dL_law_296 : decode cL_law 296 = .ok (.aload_n 1, 1) := by decide +kernel
theorem dL_law_297 : decode cL_law 297 = .ok (.aload_n 0, 1) := by decide +kernel
theorem dL_law_298 : decode cL_law 298 = .ok (.iload 4, 2) := by decide +kernel
theorem dL_law_300 : decode cL_law 300 = .ok (.iconst 1, 1) := by decide +kernel
theorem dL_law_301 : decode cL_law 301 = .ok (.iadd, 1) := by decide +kernel
theorem dL_law_302 : decode cL_law 302 = .ok (.iaload, 1) := by decide +kernel
theorem dL_law_303 : decode cL_law 303 = .ok (.aload_n 0, 1) := by decide +kernel
theorem dL_law_304 : decode cL_law 304 = .ok (.iload 4, 2) := by decide +kernel
theorem dL_law_306 : decode cL_law 306 = .ok (.iconst 2, 1) := by decide +kernel
theorem dL_law_307 : decode cL_law 307 = .ok (.iadd, 1) := by decide +kernel
theorem dL_law_308 : decode cL_law 308 = .ok (.iaload, 1) := by decide +kernel
theorem dL_law_309 : decode cL_law 309 = .ok (.aload_n 0, 1) := by decide +kernel
theorem dL_law_310 : decode cL_law 310 = .ok (.iload 4, 2) := by decide +kernel
theorem dL_law_312 : decode cL_law 312 = .ok (.iconst 3, 1) := by decide +kernel
theorem dL_law_313 : decode cL_law 313 = .ok (.iadd, 1) := by decide +kernel
theorem dL_law_314 : decode cL_law 314 = .ok (.iaload, 1) := by decide +kernel
theorem dL_law_315 : decode cL_law 315 = .ok (.invokevirtual 41, 3) := by decide +kernel
theorem dL_law_318 : decode cL_law 318 = .ok (.aload_n 2, 1) := by decide +kernel
theorem dL_law_319 : decode cL_law 319 = .ok (.aload_n 0, 1) := by decide +kernel
theorem dL_law_320 : decode cL_law 320 = .ok (.iload 4, 2) := by decide +kernel
theorem dL_law_322 : decode cL_law 322 = .ok (.iconst 1, 1) := by decide +kernel
theorem dL_law_323 : decode cL_law 323 = .ok (.iadd, 1) := by decide +kernel
theorem dL_law_324 : decode cL_law 324 = .ok (.iaload, 1) := by decide +kernel
theorem dL_law_325 : decode cL_law 325 = .ok (.aload_n 0, 1) := by decide +kernel
theorem dL_law_326 : decode cL_law 326 = .ok (.iload 4, 2) := by decide +kernel
theorem dL_law_328 : decode cL_law 328 = .ok (.iconst 2, 1) := by decide +kernel
theorem dL_law_329 : decode cL_law 329 = .ok (.iadd, 1) := by decide +kernel
theorem dL_law_330 : decode cL_law 330 = .ok (.iaload, 1) := by decide +kernel
theorem dL_law_331 : decode cL_law 331 = .ok (.aload_n 0, 1) := by decide +kernel
theorem dL_law_332 : decode cL_law 332 = .ok (.iload 4, 2) := by decide +kernel
theorem dL_law_334 : decode cL_law 334 = .ok (.iconst 3, 1) := by decide +kernel
theorem dL_law_335 : decode cL_law 335 = .ok (.iadd, 1) := by decide +kernel
theorem dL_law_336 : decode cL_law 336 = .ok (.iaload, 1) := by decide +kernel
theorem dL_law_337 : decode cL_law 337 = .ok (.invokevirtual 45, 3) := by decide +kernel
theorem dL_law_340 : decode cL_law 340 = .ok (.if_icmp .eq 421, 3) := by decide +kernel
theorem dL_law_343 : decode cL_law 343 = .ok (.iconst 0, 1) := by decide +kernel
theorem dL_law_344 : decode cL_law 344 = .ok (.ireturn, 1) := by decide +kernel
theorem dL_law_345 : decode cL_law 345 = .ok (.aload_n 1, 1) := by decide +kernel
theorem dL_law_346 : decode cL_law 346 = .ok (.invokevirtual 46, 3) := by decide +kernel
theorem dL_law_349 : decode cL_law 349 = .ok (.aload_n 2, 1) := by decide +kernel
theorem dL_law_350 : decode cL_law 350 = .ok (.invokevirtual 49, 3) := by decide +kernel
theorem dL_law_353 : decode cL_law 353 = .ok (.if_icmp .eq 408, 3) := by decide +kernel
theorem dL_law_356 : decode cL_law 356 = .ok (.iconst 0, 1) := by decide +kernel
theorem dL_law_357 : decode cL_law 357 = .ok (.ireturn, 1) := by decide +kernel
theorem dL_law_358 : decode cL_law 358 = .ok (.aload_n 1, 1) := by decide +kernel
theorem dL_law_359 : decode cL_law 359 = .ok (.aload_n 0, 1) := by decide +kernel
theorem dL_law_360 : decode cL_law 360 = .ok (.iload 4, 2) := by decide +kernel
theorem dL_law_362 : decode cL_law 362 = .ok (.iconst 1, 1) := by decide +kernel
theorem dL_law_363 : decode cL_law 363 = .ok (.iadd, 1) := by decide +kernel
theorem dL_law_364 : decode cL_law 364 = .ok (.iaload, 1) := by decide +kernel
theorem dL_law_365 : decode cL_law 365 = .ok (.aload_n 0, 1) := by decide +kernel
theorem dL_law_366 : decode cL_law 366 = .ok (.iload 4, 2) := by decide +kernel
theorem dL_law_368 : decode cL_law 368 = .ok (.iconst 2, 1) := by decide +kernel
theorem dL_law_369 : decode cL_law 369 = .ok (.iadd, 1) := by decide +kernel
theorem dL_law_370 : decode cL_law 370 = .ok (.iaload, 1) := by decide +kernel
theorem dL_law_371 : decode cL_law 371 = .ok (.aload_n 0, 1) := by decide +kernel
theorem dL_law_372 : decode cL_law 372 = .ok (.iload 4, 2) := by decide +kernel
theorem dL_law_374 : decode cL_law 374 = .ok (.iconst 3, 1) := by decide +kernel
theorem dL_law_375 : decode cL_law 375 = .ok (.iadd, 1) := by decide +kernel
theorem dL_law_376 : decode cL_law 376 = .ok (.iaload, 1) := by decide +kernel
theorem dL_law_377 : decode cL_law 377 = .ok (.invokevirtual 50, 3) := by decide +kernel
theorem dL_law_380 : decode cL_law 380 = .ok (.aload_n 2, 1) := by decide +kernel
theorem dL_law_381 : decode cL_law 381 = .ok (.aload_n 0, 1) := by decide +kernel
theorem dL_law_382 : decode cL_law 382 = .ok (.iload 4, 2) := by decide +kernel
theorem dL_law_384 : decode cL_law 384 = .ok (.iconst 1, 1) := by decide +kernel
theorem dL_law_385 : decode cL_law 385 = .ok (.iadd, 1) := by decide +kernel
theorem dL_law_386 : decode cL_law 386 = .ok (.iaload, 1) := by decide +kernel
theorem dL_law_387 : decode cL_law 387 = .ok (.aload_n 0, 1) := by decide +kernel
theorem dL_law_388 : decode cL_law 388 = .ok (.iload 4, 2) := by decide +kernel
theorem dL_law_390 : decode cL_law 390 = .ok (.iconst 2, 1) := by decide +kernel
theorem dL_law_391 : decode cL_law 391 = .ok (.iadd, 1) := by decide +kernel
theorem dL_law_392 : decode cL_law 392 = .ok (.iaload, 1) := by decide +kernel
theorem dL_law_393 : decode cL_law 393 = .ok (.aload_n 0, 1) := by decide +kernel
theorem dL_law_394 : decode cL_law 394 = .ok (.iload 4, 2) := by decide +kernel
theorem dL_law_396 : decode cL_law 396 = .ok (.iconst 3, 1) := by decide +kernel
theorem dL_law_397 : decode cL_law 397 = .ok (.iadd, 1) := by decide +kernel
theorem dL_law_398 : decode cL_law 398 = .ok (.iaload, 1) := by decide +kernel
theorem dL_law_399 : decode cL_law 399 = .ok (.invokevirtual 53, 3) := by decide +kernel
theorem dL_law_402 : decode cL_law 402 = .ok (.if_icmp .eq 359, 3) := by decide +kernel
theorem dL_law_405 : decode cL_law 405 = .ok (.iconst 0, 1) := by decide +kernel
theorem dL_law_406 : decode cL_law 406 = .ok (.ireturn, 1) := by decide +kernel
theorem dL_law_407 : decode cL_law 407 = .ok (.aload_n 1, 1) := by decide +kernel
theorem dL_law_408 : decode cL_law 408 = .ok (.aload_n 0, 1) := by decide +kernel
theorem dL_law_409 : decode cL_law 409 = .ok (.iload 4, 2) := by decide +kernel
theorem dL_law_411 : decode cL_law 411 = .ok (.iconst 1, 1) := by decide +kernel
theorem dL_law_412 : decode cL_law 412 = .ok (.iadd, 1) := by decide +kernel
theorem dL_law_413 : decode cL_law 413 = .ok (.iaload, 1) := by decide +kernel
theorem dL_law_414 : decode cL_law 414 = .ok (.invokevirtual 54, 3) := by decide +kernel
theorem dL_law_417 : decode cL_law 417 = .ok (.aload_n 2, 1) := by decide +kernel
theorem dL_law_418 : decode cL_law 418 = .ok (.aload_n 0, 1) := by decide +kernel
theorem dL_law_419 : decode cL_law 419 = .ok (.iload 4, 2) := by decide +kernel
theorem dL_law_421 : decode cL_law 421 = .ok (.iconst 1, 1) := by decide +kernel
theorem dL_law_422 : decode cL_law 422 = .ok (.iadd, 1) := by decide +kernel
theorem dL_law_423 : decode cL_law 423 = .ok (.iaload, 1) := by decide +kernel
theorem dL_law_424 : decode cL_law 424 = .ok (.invokevirtual 58, 3) := by decide +kernel
theorem dL_law_427 : decode cL_law 427 = .ok (.if_icmp .eq 334, 3) := by decide +kernel
theorem dL_law_430 : decode cL_law 430 = .ok (.iconst 0, 1) := by decide +kernel
theorem dL_law_431 : decode cL_law 431 = .ok (.ireturn, 1) := by decide +kernel
theorem dL_law_432 : decode cL_law 432 = .ok (.aload_n 1, 1) := by decide +kernel
theorem dL_law_433 : decode cL_law 433 = .ok (.invokevirtual 59, 3) := by decide +kernel
theorem dL_law_436 : decode cL_law 436 = .ok (.aload_n 2, 1) := by decide +kernel
theorem dL_law_437 : decode cL_law 437 = .ok (.invokevirtual 62, 3) := by decide +kernel
theorem dL_law_440 : decode cL_law 440 = .ok (.if_icmp .eq 321, 3) := by decide +kernel
theorem dL_law_443 : decode cL_law 443 = .ok (.iconst 0, 1) := by decide +kernel
theorem dL_law_444 : decode cL_law 444 = .ok (.ireturn, 1) := by decide +kernel
theorem dL_law_445 : decode cL_law 445 = .ok (.aload_n 1, 1) := by decide +kernel
theorem dL_law_446 : decode cL_law 446 = .ok (.invokevirtual 63, 3) := by decide +kernel
theorem dL_law_449 : decode cL_law 449 = .ok (.aload_n 2, 1) := by decide +kernel
theorem dL_law_450 : decode cL_law 450 = .ok (.invokevirtual 67, 3) := by decide +kernel
theorem dL_law_453 : decode cL_law 453 = .ok (.lcmp, 1) := by decide +kernel
theorem dL_law_454 : decode cL_law 454 = .ok (.ifCond .eq 307, 3) := by decide +kernel
theorem dL_law_457 : decode cL_law 457 = .ok (.iconst 0, 1) := by decide +kernel
theorem dL_law_458 : decode cL_law 458 = .ok (.ireturn, 1) := by decide +kernel
theorem dL_law_459 : decode cL_law 459 = .ok (.aload_n 1, 1) := by decide +kernel
theorem dL_law_460 : decode cL_law 460 = .ok (.aload_n 0, 1) := by decide +kernel
theorem dL_law_461 : decode cL_law 461 = .ok (.iload 4, 2) := by decide +kernel
theorem dL_law_463 : decode cL_law 463 = .ok (.iconst 1, 1) := by decide +kernel
theorem dL_law_464 : decode cL_law 464 = .ok (.iadd, 1) := by decide +kernel
theorem dL_law_465 : decode cL_law 465 = .ok (.iaload, 1) := by decide +kernel
theorem dL_law_466 : decode cL_law 466 = .ok (.invokevirtual 68, 3) := by decide +kernel
theorem dL_law_469 : decode cL_law 469 = .ok (.aload_n 2, 1) := by decide +kernel
theorem dL_law_470 : decode cL_law 470 = .ok (.aload_n 0, 1) := by decide +kernel
theorem dL_law_471 : decode cL_law 471 = .ok (.iload 4, 2) := by decide +kernel
theorem dL_law_473 : decode cL_law 473 = .ok (.iconst 1, 1) := by decide +kernel
theorem dL_law_474 : decode cL_law 474 = .ok (.iadd, 1) := by decide +kernel
theorem dL_law_475 : decode cL_law 475 = .ok (.iaload, 1) := by decide +kernel
theorem dL_law_476 : decode cL_law 476 = .ok (.invokevirtual 71, 3) := by decide +kernel
theorem dL_law_479 : decode cL_law 479 = .ok (.if_icmp .eq 282, 3) := by decide +kernel
theorem dL_law_482 : decode cL_law 482 = .ok (.iconst 0, 1) := by decide +kernel
theorem dL_law_483 : decode cL_law 483 = .ok (.ireturn, 1) := by decide +kernel
theorem dL_law_484 : decode cL_law 484 = .ok (.aload_n 1, 1) := by decide +kernel
theorem dL_law_485 : decode cL_law 485 = .ok (.aload_n 0, 1) := by decide +kernel
theorem dL_law_486 : decode cL_law 486 = .ok (.iload 4, 2) := by decide +kernel
theorem dL_law_488 : decode cL_law 488 = .ok (.iconst 1, 1) := by decide +kernel
theorem dL_law_489 : decode cL_law 489 = .ok (.iadd, 1) := by decide +kernel
theorem dL_law_490 : decode cL_law 490 = .ok (.iaload, 1) := by decide +kernel
theorem dL_law_491 : decode cL_law 491 = .ok (.aload_n 0, 1) := by decide +kernel
theorem dL_law_492 : decode cL_law 492 = .ok (.iload 4, 2) := by decide +kernel
theorem dL_law_494 : decode cL_law 494 = .ok (.iconst 2, 1) := by decide +kernel
theorem dL_law_495 : decode cL_law 495 = .ok (.iadd, 1) := by decide +kernel
theorem dL_law_496 : decode cL_law 496 = .ok (.iaload, 1) := by decide +kernel
theorem dL_law_497 : decode cL_law 497 = .ok (.aload_n 0, 1) := by decide +kernel
theorem dL_law_498 : decode cL_law 498 = .ok (.iload 4, 2) := by decide +kernel
theorem dL_law_500 : decode cL_law 500 = .ok (.iconst 3, 1) := by decide +kernel
theorem dL_law_501 : decode cL_law 501 = .ok (.iadd, 1) := by decide +kernel
theorem dL_law_502 : decode cL_law 502 = .ok (.iaload, 1) := by decide +kernel
theorem dL_law_503 : decode cL_law 503 = .ok (.invokevirtual 72, 3) := by decide +kernel
theorem dL_law_506 : decode cL_law 506 = .ok (.aload_n 2, 1) := by decide +kernel
theorem dL_law_507 : decode cL_law 507 = .ok (.aload_n 0, 1) := by decide +kernel
theorem dL_law_508 : decode cL_law 508 = .ok (.iload 4, 2) := by decide +kernel
theorem dL_law_510 : decode cL_law 510 = .ok (.iconst 1, 1) := by decide +kernel
theorem dL_law_511 : decode cL_law 511 = .ok (.iadd, 1) := by decide +kernel
theorem dL_law_512 : decode cL_law 512 = .ok (.iaload, 1) := by decide +kernel
theorem dL_law_513 : decode cL_law 513 = .ok (.aload_n 0, 1) := by decide +kernel
theorem dL_law_514 : decode cL_law 514 = .ok (.iload 4, 2) := by decide +kernel
theorem dL_law_516 : decode cL_law 516 = .ok (.iconst 2, 1) := by decide +kernel
theorem dL_law_517 : decode cL_law 517 = .ok (.iadd, 1) := by decide +kernel
theorem dL_law_518 : decode cL_law 518 = .ok (.iaload, 1) := by decide +kernel
theorem dL_law_519 : decode cL_law 519 = .ok (.aload_n 0, 1) := by decide +kernel
theorem dL_law_520 : decode cL_law 520 = .ok (.iload 4, 2) := by decide +kernel
theorem dL_law_522 : decode cL_law 522 = .ok (.iconst 3, 1) := by decide +kernel
theorem dL_law_523 : decode cL_law 523 = .ok (.iadd, 1) := by decide +kernel
theorem dL_law_524 : decode cL_law 524 = .ok (.iaload, 1) := by decide +kernel
theorem dL_law_525 : decode cL_law 525 = .ok (.invokevirtual 75, 3) := by decide +kernel
theorem dL_law_528 : decode cL_law 528 = .ok (.if_icmp .eq 233, 3) := by decide +kernel
theorem dL_law_531 : decode cL_law 531 = .ok (.iconst 0, 1) := by decide +kernel
theorem dL_law_532 : decode cL_law 532 = .ok (.ireturn, 1) := by decide +kernel
theorem dL_law_533 : decode cL_law 533 = .ok (.aload_n 1, 1) := by decide +kernel
theorem dL_law_534 : decode cL_law 534 = .ok (.aload_n 0, 1) := by decide +kernel
theorem dL_law_535 : decode cL_law 535 = .ok (.iload 4, 2) := by decide +kernel
theorem dL_law_537 : decode cL_law 537 = .ok (.iconst 1, 1) := by decide +kernel
theorem dL_law_538 : decode cL_law 538 = .ok (.iadd, 1) := by decide +kernel
theorem dL_law_539 : decode cL_law 539 = .ok (.iaload, 1) := by decide +kernel
theorem dL_law_540 : decode cL_law 540 = .ok (.invokevirtual 76, 3) := by decide +kernel
theorem dL_law_543 : decode cL_law 543 = .ok (.aload_n 2, 1) := by decide +kernel
theorem dL_law_544 : decode cL_law 544 = .ok (.aload_n 0, 1) := by decide +kernel
theorem dL_law_545 : decode cL_law 545 = .ok (.iload 4, 2) := by decide +kernel
theorem dL_law_547 : decode cL_law 547 = .ok (.iconst 1, 1) := by decide +kernel
theorem dL_law_548 : decode cL_law 548 = .ok (.iadd, 1) := by decide +kernel
theorem dL_law_549 : decode cL_law 549 = .ok (.iaload, 1) := by decide +kernel
theorem dL_law_550 : decode cL_law 550 = .ok (.invokevirtual 79, 3) := by decide +kernel
theorem dL_law_553 : decode cL_law 553 = .ok (.if_icmp .eq 208, 3) := by decide +kernel
theorem dL_law_556 : decode cL_law 556 = .ok (.iconst 0, 1) := by decide +kernel
theorem dL_law_557 : decode cL_law 557 = .ok (.ireturn, 1) := by decide +kernel
theorem dL_law_558 : decode cL_law 558 = .ok (.aload_n 1, 1) := by decide +kernel
theorem dL_law_559 : decode cL_law 559 = .ok (.aload_n 0, 1) := by decide +kernel
theorem dL_law_560 : decode cL_law 560 = .ok (.iload 4, 2) := by decide +kernel
theorem dL_law_562 : decode cL_law 562 = .ok (.iconst 1, 1) := by decide +kernel
theorem dL_law_563 : decode cL_law 563 = .ok (.iadd, 1) := by decide +kernel
theorem dL_law_564 : decode cL_law 564 = .ok (.iaload, 1) := by decide +kernel
theorem dL_law_565 : decode cL_law 565 = .ok (.aload_n 0, 1) := by decide +kernel
theorem dL_law_566 : decode cL_law 566 = .ok (.iload 4, 2) := by decide +kernel
theorem dL_law_568 : decode cL_law 568 = .ok (.iconst 2, 1) := by decide +kernel
theorem dL_law_569 : decode cL_law 569 = .ok (.iadd, 1) := by decide +kernel
theorem dL_law_570 : decode cL_law 570 = .ok (.iaload, 1) := by decide +kernel
theorem dL_law_571 : decode cL_law 571 = .ok (.invokevirtual 80, 3) := by decide +kernel
theorem dL_law_574 : decode cL_law 574 = .ok (.aload_n 2, 1) := by decide +kernel
theorem dL_law_575 : decode cL_law 575 = .ok (.aload_n 0, 1) := by decide +kernel
theorem dL_law_576 : decode cL_law 576 = .ok (.iload 4, 2) := by decide +kernel
theorem dL_law_578 : decode cL_law 578 = .ok (.iconst 1, 1) := by decide +kernel
theorem dL_law_579 : decode cL_law 579 = .ok (.iadd, 1) := by decide +kernel
theorem dL_law_580 : decode cL_law 580 = .ok (.iaload, 1) := by decide +kernel
theorem dL_law_581 : decode cL_law 581 = .ok (.aload_n 0, 1) := by decide +kernel
theorem dL_law_582 : decode cL_law 582 = .ok (.iload 4, 2) := by decide +kernel
theorem dL_law_584 : decode cL_law 584 = .ok (.iconst 2, 1) := by decide +kernel
theorem dL_law_585 : decode cL_law 585 = .ok (.iadd, 1) := by decide +kernel
theorem dL_law_586 : decode cL_law 586 = .ok (.iaload, 1) := by decide +kernel
theorem dL_law_587 : decode cL_law 587 = .ok (.invokevirtual 84, 3) := by decide +kernel
theorem dL_law_590 : decode cL_law 590 = .ok (.if_icmp .eq 171, 3) := by decide +kernel
theorem dL_law_593 : decode cL_law 593 = .ok (.iconst 0, 1) := by decide +kernel
theorem dL_law_594 : decode cL_law 594 = .ok (.ireturn, 1) := by decide +kernel
theorem dL_law_595 : decode cL_law 595 = .ok (.aload_n 1, 1) := by decide +kernel
theorem dL_law_596 : decode cL_law 596 = .ok (.aload_n 0, 1) := by decide +kernel
theorem dL_law_597 : decode cL_law 597 = .ok (.iload 4, 2) := by decide +kernel
theorem dL_law_599 : decode cL_law 599 = .ok (.iconst 1, 1) := by decide +kernel
