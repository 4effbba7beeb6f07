theorem dX6_spread_126 : decode cX6_spread 126 = .ok (.iastore, 1) := by decide +kernel
theorem dX6_spread_127 : decode cX6_spread 127 = .ok (.iinc 2 1, 3) := by decide +kernel
theorem dX6_spread_130 : decode cX6_spread 130 = .ok (.iinc 4 1, 3) := by decide +kernel
theorem dX6_spread_133 : decode cX6_spread 133 = .ok (.goto (-84), 3) := by decide +kernel
theorem dX6_spread_136 : decode cX6_spread 136 = .ok (.iinc 3 1, 3) := by decide +kernel
theorem dX6_spread_139 : decode cX6_spread 139 = .ok (.goto (-98), 3) := by decide +kernel
theorem dX6_spread_142 : decode cX6_spread 142 = .ok (.return_, 1) := by decide +kernel
theorem dX6_layClasses_0 : decode cX6_layClasses 0 = .ok (.aload_n 0, 1) := by decide +kernel
theorem dX6_layClasses_1 : decode cX6_layClasses 1 = .ok (.iconst 0, 1) := by decide +kernel
theorem dX6_layClasses_2 : decode cX6_layClasses 2 = .ok (.putfield 174, 3) := by decide +kernel
theorem dX6_layClasses_5 : decode cX6_layClasses 5 = .ok (.iconst 0, 1) := by decide +kernel
theorem dX6_layClasses_6 : decode cX6_layClasses 6 = .ok (.istore_n 1, 1) := by decide +kernel
theorem dX6_layClasses_7 : decode cX6_layClasses 7 = .ok (.iload_n 1, 1) := by decide +kernel
theorem dX6_layClasses_8 : decode cX6_layClasses 8 = .ok (.aload_n 0, 1) := by decide +kernel
theorem dX6_layClasses_9 : decode cX6_layClasses 9 = .ok (.getfield 150, 3) := by decide +kernel
theorem dX6_layClasses_12 : decode cX6_layClasses 12 = .ok (.if_icmp .ge 16, 3) := by decide +kernel
theorem dX6_layClasses_15 : decode cX6_layClasses 15 = .ok (.aload_n 0, 1) := by decide +kernel
theorem dX6_layClasses_16 : decode cX6_layClasses 16 = .ok (.getfield 64, 3) := by decide +kernel
theorem dX6_layClasses_19 : decode cX6_layClasses 19 = .ok (.iload_n 1, 1) := by decide +kernel
theorem dX6_layClasses_20 : decode cX6_layClasses 20 = .ok (.iconst (-1), 1) := by decide +kernel
theorem dX6_layClasses_21 : decode cX6_layClasses 21 = .ok (.iastore, 1) := by decide +kernel
theorem dX6_layClasses_22 : decode cX6_layClasses 22 = .ok (.iinc 1 1, 3) := by decide +kernel
theorem dX6_layClasses_25 : decode cX6_layClasses 25 = .ok (.goto (-18), 3) := by decide +kernel
theorem dX6_layClasses_28 : decode cX6_layClasses 28 = .ok (.iconst 0, 1) := by decide +kernel
theorem dX6_layClasses_29 : decode cX6_layClasses 29 = .ok (.istore_n 1, 1) := by decide +kernel
theorem dX6_layClasses_30 : decode cX6_layClasses 30 = .ok (.iload_n 1, 1) := by decide +kernel
theorem dX6_layClasses_31 : decode cX6_layClasses 31 = .ok (.aload_n 0, 1) := by decide +kernel
theorem dX6_layClasses_32 : decode cX6_layClasses 32 = .ok (.getfield 150, 3) := by decide +kernel
theorem dX6_layClasses_35 : decode cX6_layClasses 35 = .ok (.if_icmp .ge 79, 3) := by decide +kernel
theorem dX6_layClasses_38 : decode cX6_layClasses 38 = .ok (.aload_n 0, 1) := by decide +kernel
theorem dX6_layClasses_39 : decode cX6_layClasses 39 = .ok (.getfield 64, 3) := by decide +kernel
theorem dX6_layClasses_42 : decode cX6_layClasses 42 = .ok (.iload_n 1, 1) := by decide +kernel
theorem dX6_layClasses_43 : decode cX6_layClasses 43 = .ok (.iaload, 1) := by decide +kernel
theorem dX6_layClasses_44 : decode cX6_layClasses 44 = .ok (.iconst (-1), 1) := by decide +kernel
theorem dX6_layClasses_45 : decode cX6_layClasses 45 = .ok (.if_icmp .ne 63, 3) := by decide +kernel
theorem dX6_layClasses_48 : decode cX6_layClasses 48 = .ok (.aload_n 0, 1) := by decide +kernel
theorem dX6_layClasses_49 : decode cX6_layClasses 49 = .ok (.iload_n 1, 1) := by decide +kernel
theorem dX6_layClasses_50 : decode cX6_layClasses 50 = .ok (.invokevirtual 177, 3) := by decide +kernel
theorem dX6_layClasses_53 : decode cX6_layClasses 53 = .ok (.iconst 0, 1) := by decide +kernel
theorem dX6_layClasses_54 : decode cX6_layClasses 54 = .ok (.istore_n 2, 1) := by decide +kernel
theorem dX6_layClasses_55 : decode cX6_layClasses 55 = .ok (.iload_n 2, 1) := by decide +kernel
theorem dX6_layClasses_56 : decode cX6_layClasses 56 = .ok (.aload_n 0, 1) := by decide +kernel
theorem dX6_layClasses_57 : decode cX6_layClasses 57 = .ok (.getfield 150, 3) := by decide +kernel
theorem dX6_layClasses_60 : decode cX6_layClasses 60 = .ok (.if_icmp .ge 38, 3) := by decide +kernel
theorem dX6_layClasses_63 : decode cX6_layClasses 63 = .ok (.aload_n 0, 1) := by decide +kernel
theorem dX6_layClasses_64 : decode cX6_layClasses 64 = .ok (.getfield 64, 3) := by decide +kernel
theorem dX6_layClasses_67 : decode cX6_layClasses 67 = .ok (.iload_n 2, 1) := by decide +kernel
theorem dX6_layClasses_68 : decode cX6_layClasses 68 = .ok (.aload_n 0, 1) := by decide +kernel
theorem dX6_layClasses_69 : decode cX6_layClasses 69 = .ok (.getfield 67, 3) := by decide +kernel
theorem dX6_layClasses_72 : decode cX6_layClasses 72 = .ok (.iload_n 2, 1) := by decide +kernel
theorem dX6_layClasses_73 : decode cX6_layClasses 73 = .ok (.iaload, 1) := by decide +kernel
theorem dX6_layClasses_74 : decode cX6_layClasses 74 = .ok (.iconst (-1), 1) := by decide +kernel
theorem dX6_layClasses_75 : decode cX6_layClasses 75 = .ok (.if_icmp .eq 10, 3) := by decide +kernel
theorem dX6_layClasses_78 : decode cX6_layClasses 78 = .ok (.aload_n 0, 1) := by decide +kernel
theorem dX6_layClasses_79 : decode cX6_layClasses 79 = .ok (.getfield 174, 3) := by decide +kernel
theorem dX6_layClasses_82 : decode cX6_layClasses 82 = .ok (.goto 9, 3) := by decide +kernel
theorem dX6_layClasses_85 : decode cX6_layClasses 85 = .ok (.aload_n 0, 1) := by decide +kernel
theorem dX6_layClasses_86 : decode cX6_layClasses 86 = .ok (.getfield 64, 3) := by decide +kernel
theorem dX6_layClasses_89 : decode cX6_layClasses 89 = .ok (.iload_n 2, 1) := by decide +kernel
theorem dX6_layClasses_90 : decode cX6_layClasses 90 = .ok (.iaload, 1) := by decide +kernel
theorem dX6_layClasses_91 : decode cX6_layClasses 91 = .ok (.iastore, 1) := by decide +kernel
theorem dX6_layClasses_92 : decode cX6_layClasses 92 = .ok (.iinc 2 1, 3) := by decide +kernel
theorem dX6_layClasses_95 : decode cX6_layClasses 95 = .ok (.goto (-40), 3) := by decide +kernel
theorem dX6_layClasses_98 : decode cX6_layClasses 98 = .ok (.aload_n 0, 1) := by decide +kernel
theorem dX6_layClasses_99 : decode cX6_layClasses 99 = .ok (.dup, 1) := by decide +kernel
theorem dX6_layClasses_100 : decode cX6_layClasses 100 = .ok (.getfield 174, 3) := by decide +kernel
theorem dX6_layClasses_103 : decode cX6_layClasses 103 = .ok (.iconst 1, 1) := by decide +kernel
theorem dX6_layClasses_104 : decode cX6_layClasses 104 = .ok (.iadd, 1) := by decide +kernel
theorem dX6_layClasses_105 : decode cX6_layClasses 105 = .ok (.putfield 174, 3) := by decide +kernel
theorem dX6_layClasses_108 : decode cX6_layClasses 108 = .ok (.iinc 1 1, 3) := by decide +kernel
theorem dX6_layClasses_111 : decode cX6_layClasses 111 = .ok (.goto (-81), 3) := by decide +kernel
theorem dX6_layClasses_114 : decode cX6_layClasses 114 = .ok (.return_, 1) := by decide +kernel
theorem dX6_classSize_0 : decode cX6_classSize 0 = .ok (.iconst 0, 1) := by decide +kernel
theorem dX6_classSize_1 : decode cX6_classSize 1 = .ok (.istore_n 2, 1) := by decide +kernel
theorem dX6_classSize_2 : decode cX6_classSize 2 = .ok (.iconst 0, 1) := by decide +kernel
theorem dX6_classSize_3 : decode cX6_classSize 3 = .ok (.istore_n 3, 1) := by decide +kernel
theorem dX6_classSize_4 : decode cX6_classSize 4 = .ok (.iload_n 3, 1) := by decide +kernel
theorem dX6_classSize_5 : decode cX6_classSize 5 = .ok (.aload_n 0, 1) := by decide +kernel
theorem dX6_classSize_6 : decode cX6_classSize 6 = .ok (.getfield 150, 3) := by decide +kernel
theorem dX6_classSize_9 : decode cX6_classSize 9 = .ok (.if_icmp .ge 27, 3) := by decide +kernel
theorem dX6_classSize_12 : decode cX6_classSize 12 = .ok (.iload_n 2, 1) := by decide +kernel
theorem dX6_classSize_13 : decode cX6_classSize 13 = .ok (.aload_n 0, 1) := by decide +kernel
theorem dX6_classSize_14 : decode cX6_classSize 14 = .ok (.getfield 64, 3) := by decide +kernel
theorem dX6_classSize_17 : decode cX6_classSize 17 = .ok (.iload_n 3, 1) := by decide +kernel
theorem dX6_classSize_18 : decode cX6_classSize 18 = .ok (.iaload, 1) := by decide +kernel
theorem dX6_classSize_19 : decode cX6_classSize 19 = .ok (.iload_n 1, 1) := by decide +kernel
theorem dX6_classSize_20 : decode cX6_classSize 20 = .ok (.if_icmp .ne 7, 3) := by decide +kernel
theorem dX6_classSize_23 : decode cX6_classSize 23 = .ok (.iconst 1, 1) := by decide +kernel
theorem dX6_classSize_24 : decode cX6_classSize 24 = .ok (.goto 4, 3) := by decide +kernel
theorem dX6_classSize_27 : decode cX6_classSize 27 = .ok (.iconst 0, 1) := by decide +kernel
theorem dX6_classSize_28 : decode cX6_classSize 28 = .ok (.iadd, 1) := by decide +kernel
theorem dX6_classSize_29 : decode cX6_classSize 29 = .ok (.istore_n 2, 1) := by decide +kernel
theorem dX6_classSize_30 : decode cX6_classSize 30 = .ok (.iinc 3 1, 3) := by decide +kernel
theorem dX6_classSize_33 : decode cX6_classSize 33 = .ok (.goto (-29), 3) := by decide +kernel
theorem dX6_classSize_36 : decode cX6_classSize 36 = .ok (.iload_n 2, 1) := by decide +kernel
theorem dX6_classSize_37 : decode cX6_classSize 37 = .ok (.ireturn, 1) := by decide +kernel
theorem dX6_map_0 : decode cX6_map 0 = .ok (.aload_n 0, 1) := by decide +kernel
theorem dX6_map_1 : decode cX6_map 1 = .ok (.invokevirtual 180, 3) := by decide +kernel
theorem dX6_map_4 : decode cX6_map 4 = .ok (.iload_n 1, 1) := by decide +kernel
theorem dX6_map_5 : decode cX6_map 5 = .ok (.iconst (-1), 1) := by decide +kernel
theorem dX6_map_6 : decode cX6_map 6 = .ok (.if_icmp .ne 10, 3) := by decide +kernel
theorem dX6_map_9 : decode cX6_map 9 = .ok (.aload_n 0, 1) := by decide +kernel
theorem dX6_map_10 : decode cX6_map 10 = .ok (.getfield 150, 3) := by decide +kernel
theorem dX6_map_13 : decode cX6_map 13 = .ok (.goto 27, 3) := by decide +kernel
theorem dX6_map_16 : decode cX6_map 16 = .ok (.iload_n 1, 1) := by decide +kernel
theorem dX6_map_17 : decode cX6_map 17 = .ok (.iconst 0, 1) := by decide +kernel
theorem dX6_map_18 : decode cX6_map 18 = .ok (.aload_n 0, 1) := by decide +kernel
theorem dX6_map_19 : decode cX6_map 19 = .ok (.getfield 150, 3) := by decide +kernel
theorem dX6_map_22 : decode cX6_map 22 = .ok (.iconst 1, 1) := by decide +kernel
theorem dX6_map_23 : decode cX6_map 23 = .ok (.isub, 1) := by decide +kernel
theorem dX6_map_24 : decode cX6_map 24 = .ok (.invokestatic 38, 3) := by decide +kernel
theorem dX6_map_27 : decode cX6_map 27 = .ok (.ifCond .eq 12, 3) := by decide +kernel
theorem dX6_map_30 : decode cX6_map 30 = .ok (.aload_n 0, 1) := by decide +kernel
theorem dX6_map_31 : decode cX6_map 31 = .ok (.getfield 61, 3) := by decide +kernel
theorem dX6_map_34 : decode cX6_map 34 = .ok (.iload_n 1, 1) := by decide +kernel
theorem dX6_map_35 : decode cX6_map 35 = .ok (.iaload, 1) := by decide +kernel
theorem dX6_map_36 : decode cX6_map 36 = .ok (.goto 4, 3) := by decide +kernel
theorem dX6_map_39 : decode cX6_map 39 = .ok (.iconst (-1), 1) := by decide +kernel
theorem dX6_map_40 : decode cX6_map 40 = .ok (.ireturn, 1) := by decide +kernel
theorem dX6_row_0 : decode cX6_row 0 = .ok (.aload_n 0, 1) := by decide +kernel
theorem dX6_row_1 : decode cX6_row 1 = .ok (.iload_n 1, 1) := by decide +kernel
theorem dX6_row_2 : decode cX6_row 2 = .ok (.invokevirtual 153, 3) := by decide +kernel
theorem dX6_row_5 : decode cX6_row 5 = .ok (.ireturn, 1) := by decide +kernel
theorem dX6_genusOf_0 : decode cX6_genusOf 0 = .ok (.aload_n 0, 1) := by decide +kernel
theorem dX6_genusOf_1 : decode cX6_genusOf 1 = .ok (.getfield 14, 3) := by decide +kernel
theorem dX6_genusOf_4 : decode cX6_genusOf 4 = .ok (.iconst 2, 1) := by decide +kernel
theorem dX6_genusOf_5 : decode cX6_genusOf 5 = .ok (.aload_n 0, 1) := by decide +kernel
theorem dX6_genusOf_6 : decode cX6_genusOf 6 = .ok (.getfield 133, 3) := by decide +kernel
theorem dX6_genusOf_9 : decode cX6_genusOf 9 = .ok (.imul, 1) := by decide +kernel
theorem dX6_genusOf_10 : decode cX6_genusOf 10 = .ok (.iconst 2, 1) := by decide +kernel
theorem dX6_genusOf_11 : decode cX6_genusOf 11 = .ok (.isub, 1) := by decide +kernel
theorem dX6_genusOf_12 : decode cX6_genusOf 12 = .ok (.imul, 1) := by decide +kernel
theorem dX6_genusOf_13 : decode cX6_genusOf 13 = .ok (.iconst 2, 1) := by decide +kernel
theorem dX6_genusOf_14 : decode cX6_genusOf 14 = .ok (.iadd, 1) := by decide +kernel
theorem dX6_genusOf_15 : decode cX6_genusOf 15 = .ok (.istore_n 1, 1) := by decide +kernel
theorem dX6_genusOf_16 : decode cX6_genusOf 16 = .ok (.iconst 0, 1) := by decide +kernel
theorem dX6_genusOf_17 : decode cX6_genusOf 17 = .ok (.istore_n 2, 1) := by decide +kernel
theorem dX6_genusOf_18 : decode cX6_genusOf 18 = .ok (.iload_n 2, 1) := by decide +kernel
theorem dX6_genusOf_19 : decode cX6_genusOf 19 = .ok (.aload_n 0, 1) := by decide +kernel
theorem dX6_genusOf_20 : decode cX6_genusOf 20 = .ok (.getfield 130, 3) := by decide +kernel
theorem dX6_genusOf_23 : decode cX6_genusOf 23 = .ok (.if_icmp .ge 44, 3) := by decide +kernel
theorem dX6_genusOf_26 : decode cX6_genusOf 26 = .ok (.aload_n 0, 1) := by decide +kernel
theorem dX6_genusOf_27 : decode cX6_genusOf 27 = .ok (.getfield 14, 3) := by decide +kernel
theorem dX6_genusOf_30 : decode cX6_genusOf 30 = .ok (.aload_n 0, 1) := by decide +kernel
theorem dX6_genusOf_31 : decode cX6_genusOf 31 = .ok (.getfield 58, 3) := by decide +kernel
theorem dX6_genusOf_34 : decode cX6_genusOf 34 = .ok (.iload_n 2, 1) := by decide +kernel
theorem dX6_genusOf_35 : decode cX6_genusOf 35 = .ok (.iaload, 1) := by decide +kernel
theorem dX6_genusOf_36 : decode cX6_genusOf 36 = .ok (.irem, 1) := by decide +kernel
theorem dX6_genusOf_37 : decode cX6_genusOf 37 = .ok (.ifCond .eq 5, 3) := by decide +kernel
theorem dX6_genusOf_40 : decode cX6_genusOf 40 = .ok (.iconst (-1), 1) := by decide +kernel
theorem dX6_genusOf_41 : decode cX6_genusOf 41 = .ok (.ireturn, 1) := by decide +kernel
theorem dX6_genusOf_42 : decode cX6_genusOf 42 = .ok (.iload_n 1, 1) := by decide +kernel
theorem dX6_genusOf_43 : decode cX6_genusOf 43 = .ok (.aload_n 0, 1) := by decide +kernel
theorem dX6_genusOf_44 : decode cX6_genusOf 44 = .ok (.getfield 14, 3) := by decide +kernel
theorem dX6_genusOf_47 : decode cX6_genusOf 47 = .ok (.aload_n 0, 1) := by decide +kernel
theorem dX6_genusOf_48 : decode cX6_genusOf 48 = .ok (.getfield 14, 3) := by decide +kernel
theorem dX6_genusOf_51 : decode cX6_genusOf 51 = .ok (.aload_n 0, 1) := by decide +kernel
theorem dX6_genusOf_52 : decode cX6_genusOf 52 = .ok (.getfield 58, 3) := by decide +kernel
theorem dX6_genusOf_55 : decode cX6_genusOf 55 = .ok (.iload_n 2, 1) := by decide +kernel
theorem dX6_genusOf_56 : decode cX6_genusOf 56 = .ok (.iaload, 1) := by decide +kernel
theorem dX6_genusOf_57 : decode cX6_genusOf 57 = .ok (.idiv, 1) := by decide +kernel
theorem dX6_genusOf_58 : decode cX6_genusOf 58 = .ok (.isub, 1) := by decide +kernel
theorem dX6_genusOf_59 : decode cX6_genusOf 59 = .ok (.iadd, 1) := by decide +kernel
theorem dX6_genusOf_60 : decode cX6_genusOf 60 = .ok (.istore_n 1, 1) := by decide +kernel
theorem dX6_genusOf_61 : decode cX6_genusOf 61 = .ok (.iinc 2 1, 3) := by decide +kernel
theorem dX6_genusOf_64 : decode cX6_genusOf 64 = .ok (.goto (-46), 3) := by decide +kernel
theorem dX6_genusOf_67 : decode cX6_genusOf 67 = .ok (.iload_n 1, 1) := by decide +kernel
theorem dX6_genusOf_68 : decode cX6_genusOf 68 = .ok (.ifCond .lt 9, 3) := by decide +kernel
theorem dX6_genusOf_71 : decode cX6_genusOf 71 = .ok (.iload_n 1, 1) := by decide +kernel
theorem dX6_genusOf_72 : decode cX6_genusOf 72 = .ok (.iconst 2, 1) := by decide +kernel
theorem dX6_genusOf_73 : decode cX6_genusOf 73 = .ok (.irem, 1) := by decide +kernel
theorem dX6_genusOf_74 : decode cX6_genusOf 74 = .ok (.ifCond .eq 7, 3) := by decide +kernel
theorem dX6_genusOf_77 : decode cX6_genusOf 77 = .ok (.iconst (-1), 1) := by decide +kernel
theorem dX6_genusOf_78 : decode cX6_genusOf 78 = .ok (.goto 6, 3) := by decide +kernel
theorem dX6_genusOf_81 : decode cX6_genusOf 81 = .ok (.iload_n 1, 1) := by decide +kernel
theorem dX6_genusOf_82 : decode cX6_genusOf 82 = .ok (.iconst 2, 1) := by decide +kernel
theorem dX6_genusOf_83 : decode cX6_genusOf 83 = .ok (.idiv, 1) := by decide +kernel
theorem dX6_genusOf_84 : decode cX6_genusOf 84 = .ok (.ireturn, 1) := by decide +kernel
theorem dX6_genus_0 : decode cX6_genus 0 = .ok (.aload_n 0, 1) := by decide +kernel
theorem dX6_genus_1 : decode cX6_genus 1 = .ok (.invokevirtual 183, 3) := by decide +kernel
theorem dX6_genus_4 : decode cX6_genus 4 = .ok (.ireturn, 1) := by decide +kernel
theorem dX6_leftOf_0 : decode cX6_leftOf 0 = .ok (.iconst 0, 1) := by decide +kernel
theorem dX6_leftOf_1 : decode cX6_leftOf 1 = .ok (.istore_n 3, 1) := by decide +kernel
theorem dX6_leftOf_2 : decode cX6_leftOf 2 = .ok (.iconst 0, 1) := by decide +kernel
theorem dX6_leftOf_3 : decode cX6_leftOf 3 = .ok (.istore 4, 2) := by decide +kernel
theorem dX6_leftOf_5 : decode cX6_leftOf 5 = .ok (.iload 4, 2) := by decide +kernel
theorem dX6_leftOf_7 : decode cX6_leftOf 7 = .ok (.aload_n 0, 1) := by decide +kernel
theorem dX6_leftOf_8 : decode cX6_leftOf 8 = .ok (.getfield 14, 3) := by decide +kernel
theorem dX6_leftOf_11 : decode cX6_leftOf 11 = .ok (.if_icmp .ge 35, 3) := by decide +kernel
theorem dX6_leftOf_14 : decode cX6_leftOf 14 = .ok (.iload_n 3, 1) := by decide +kernel
theorem dX6_leftOf_15 : decode cX6_leftOf 15 = .ok (.iload_n 2, 1) := by decide +kernel
theorem dX6_leftOf_16 : decode cX6_leftOf 16 = .ok (.iload 4, 2) := by decide +kernel
theorem dX6_leftOf_18 : decode cX6_leftOf 18 = .ok (.ishr, 1) := by decide +kernel
theorem dX6_leftOf_19 : decode cX6_leftOf 19 = .ok (.iconst 1, 1) := by decide +kernel
theorem dX6_leftOf_20 : decode cX6_leftOf 20 = .ok (.iand, 1) := by decide +kernel
theorem dX6_leftOf_21 : decode cX6_leftOf 21 = .ok (.iconst 1, 1) := by decide +kernel
theorem dX6_leftOf_22 : decode cX6_leftOf 22 = .ok (.if_icmp .ne 15, 3) := by decide +kernel
theorem dX6_leftOf_25 : decode cX6_leftOf 25 = .ok (.iconst 1, 1) := by decide +kernel
theorem dX6_leftOf_26 : decode cX6_leftOf 26 = .ok (.aload_n 0, 1) := by decide +kernel
theorem dX6_leftOf_27 : decode cX6_leftOf 27 = .ok (.iload_n 1, 1) := by decide +kernel
theorem dX6_leftOf_28 : decode cX6_leftOf 28 = .ok (.iload 4, 2) := by decide +kernel
theorem dX6_leftOf_30 : decode cX6_leftOf 30 = .ok (.invokevirtual 31, 3) := by decide +kernel
theorem dX6_leftOf_33 : decode cX6_leftOf 33 = .ok (.ishl, 1) := by decide +kernel
theorem dX6_leftOf_34 : decode cX6_leftOf 34 = .ok (.goto 4, 3) := by decide +kernel
theorem dX6_leftOf_37 : decode cX6_leftOf 37 = .ok (.iconst 0, 1) := by decide +kernel
theorem dX6_leftOf_38 : decode cX6_leftOf 38 = .ok (.ior, 1) := by decide +kernel
theorem dX6_leftOf_39 : decode cX6_leftOf 39 = .ok (.istore_n 3, 1) := by decide +kernel
theorem dX6_leftOf_40 : decode cX6_leftOf 40 = .ok (.iinc 4 1, 3) := by decide +kernel
theorem dX6_leftOf_43 : decode cX6_leftOf 43 = .ok (.goto (-38), 3) := by decide +kernel
theorem dX6_leftOf_46 : decode cX6_leftOf 46 = .ok (.iload_n 3, 1) := by decide +kernel
theorem dX6_leftOf_47 : decode cX6_leftOf 47 = .ok (.ireturn, 1) := by decide +kernel
theorem dX6_fixed_0 : decode cX6_fixed 0 = .ok (.aload_n 0, 1) := by decide +kernel
theorem dX6_fixed_1 : decode cX6_fixed 1 = .ok (.invokevirtual 180, 3) := by decide +kernel
theorem dX6_fixed_4 : decode cX6_fixed 4 = .ok (.iload_n 1, 1) := by decide +kernel
theorem dX6_fixed_5 : decode cX6_fixed 5 = .ok (.iconst 0, 1) := by decide +kernel
theorem dX6_fixed_6 : decode cX6_fixed 6 = .ok (.aload_n 0, 1) := by decide +kernel
theorem dX6_fixed_7 : decode cX6_fixed 7 = .ok (.getfield 150, 3) := by decide +kernel
theorem dX6_fixed_10 : decode cX6_fixed 10 = .ok (.iconst 1, 1) := by decide +kernel
theorem dX6_fixed_11 : decode cX6_fixed 11 = .ok (.isub, 1) := by decide +kernel
theorem dX6_fixed_12 : decode cX6_fixed 12 = .ok (.invokestatic 38, 3) := by decide +kernel
theorem dX6_fixed_15 : decode cX6_fixed 15 = .ok (.ifCond .eq 17, 3) := by decide +kernel
theorem dX6_fixed_18 : decode cX6_fixed 18 = .ok (.iload_n 2, 1) := by decide +kernel
theorem dX6_fixed_19 : decode cX6_fixed 19 = .ok (.iconst 1, 1) := by decide +kernel
theorem dX6_fixed_20 : decode cX6_fixed 20 = .ok (.aload_n 0, 1) := by decide +kernel
theorem dX6_fixed_21 : decode cX6_fixed 21 = .ok (.getfield 14, 3) := by decide +kernel
theorem dX6_fixed_24 : decode cX6_fixed 24 = .ok (.iconst 1, 1) := by decide +kernel
theorem dX6_fixed_25 : decode cX6_fixed 25 = .ok (.isub, 1) := by decide +kernel
theorem dX6_fixed_26 : decode cX6_fixed 26 = .ok (.invokestatic 38, 3) := by decide +kernel
theorem dX6_fixed_29 : decode cX6_fixed 29 = .ok (.ifCond .ne 6, 3) := by decide +kernel
theorem dX6_fixed_32 : decode cX6_fixed 32 = .ok (.bipush (-2), 2) := by decide +kernel
theorem dX6_fixed_34 : decode cX6_fixed 34 = .ok (.ireturn, 1) := by decide +kernel
theorem dX6_fixed_35 : decode cX6_fixed 35 = .ok (.aload_n 0, 1) := by decide +kernel
theorem dX6_fixed_36 : decode cX6_fixed 36 = .ok (.aload_n 0, 1) := by decide +kernel
theorem dX6_fixed_37 : decode cX6_fixed 37 = .ok (.getfield 61, 3) := by decide +kernel
theorem dX6_fixed_40 : decode cX6_fixed 40 = .ok (.iload_n 1, 1) := by decide +kernel
theorem dX6_fixed_41 : decode cX6_fixed 41 = .ok (.iaload, 1) := by decide +kernel
theorem dX6_fixed_42 : decode cX6_fixed 42 = .ok (.invokevirtual 143, 3) := by decide +kernel
theorem dX6_fixed_45 : decode cX6_fixed 45 = .ok (.iconst 0, 1) := by decide +kernel
theorem dX6_fixed_46 : decode cX6_fixed 46 = .ok (.istore_n 3, 1) := by decide +kernel
theorem dX6_fixed_47 : decode cX6_fixed 47 = .ok (.iconst 0, 1) := by decide +kernel
theorem dX6_fixed_48 : decode cX6_fixed 48 = .ok (.istore 4, 2) := by decide +kernel
theorem dX6_fixed_50 : decode cX6_fixed 50 = .ok (.iload 4, 2) := by decide +kernel
theorem dX6_fixed_52 : decode cX6_fixed 52 = .ok (.aload_n 0, 1) := by decide +kernel
theorem dX6_fixed_53 : decode cX6_fixed 53 = .ok (.getfield 130, 3) := by decide +kernel
theorem dX6_fixed_56 : decode cX6_fixed 56 = .ok (.if_icmp .ge 99, 3) := by decide +kernel
theorem dX6_fixed_59 : decode cX6_fixed 59 = .ok (.aload_n 0, 1) := by decide +kernel
theorem dX6_fixed_60 : decode cX6_fixed 60 = .ok (.iconst 1, 1) := by decide +kernel
theorem dX6_fixed_61 : decode cX6_fixed 61 = .ok (.aload_n 0, 1) := by decide +kernel
theorem dX6_fixed_62 : decode cX6_fixed 62 = .ok (.getfield 109, 3) := by decide +kernel
theorem dX6_fixed_65 : decode cX6_fixed 65 = .ok (.iconst 2, 1) := by decide +kernel
theorem dX6_fixed_66 : decode cX6_fixed 66 = .ok (.aload_n 0, 1) := by decide +kernel
theorem dX6_fixed_67 : decode cX6_fixed 67 = .ok (.getfield 133, 3) := by decide +kernel
theorem dX6_fixed_70 : decode cX6_fixed 70 = .ok (.imul, 1) := by decide +kernel
theorem dX6_fixed_71 : decode cX6_fixed 71 = .ok (.iload 4, 2) := by decide +kernel
theorem dX6_fixed_73 : decode cX6_fixed 73 = .ok (.iadd, 1) := by decide +kernel
theorem dX6_fixed_74 : decode cX6_fixed 74 = .ok (.iaload, 1) := by decide +kernel
theorem dX6_fixed_75 : decode cX6_fixed 75 = .ok (.ishl, 1) := by decide +kernel
theorem dX6_fixed_76 : decode cX6_fixed 76 = .ok (.invokevirtual 46, 3) := by decide +kernel
theorem dX6_fixed_79 : decode cX6_fixed 79 = .ok (.istore 5, 2) := by decide +kernel
theorem dX6_fixed_81 : decode cX6_fixed 81 = .ok (.iconst 0, 1) := by decide +kernel
theorem dX6_fixed_82 : decode cX6_fixed 82 = .ok (.istore 6, 2) := by decide +kernel
theorem dX6_fixed_84 : decode cX6_fixed 84 = .ok (.iconst 0, 1) := by decide +kernel
theorem dX6_fixed_85 : decode cX6_fixed 85 = .ok (.istore 7, 2) := by decide +kernel
theorem dX6_fixed_87 : decode cX6_fixed 87 = .ok (.iload 7, 2) := by decide +kernel
theorem dX6_fixed_89 : decode cX6_fixed 89 = .ok (.aload_n 0, 1) := by decide +kernel
theorem dX6_fixed_90 : decode cX6_fixed 90 = .ok (.getfield 14, 3) := by decide +kernel
theorem dX6_fixed_93 : decode cX6_fixed 93 = .ok (.if_icmp .ge 56, 3) := by decide +kernel
theorem dX6_fixed_96 : decode cX6_fixed 96 = .ok (.iload 6, 2) := by decide +kernel
theorem dX6_fixed_98 : decode cX6_fixed 98 = .ok (.iload 7, 2) := by decide +kernel
theorem dX6_fixed_100 : decode cX6_fixed 100 = .ok (.ishr, 1) := by decide +kernel
theorem dX6_fixed_101 : decode cX6_fixed 101 = .ok (.iconst 1, 1) := by decide +kernel
theorem dX6_fixed_102 : decode cX6_fixed 102 = .ok (.iand, 1) := by decide +kernel
theorem dX6_fixed_103 : decode cX6_fixed 103 = .ok (.ifCond .ne 40, 3) := by decide +kernel
theorem dX6_fixed_106 : decode cX6_fixed 106 = .ok (.aload_n 0, 1) := by decide +kernel
theorem dX6_fixed_107 : decode cX6_fixed 107 = .ok (.iload 7, 2) := by decide +kernel
theorem dX6_fixed_109 : decode cX6_fixed 109 = .ok (.iload 5, 2) := by decide +kernel
theorem dX6_fixed_111 : decode cX6_fixed 111 = .ok (.invokevirtual 186, 3) := by decide +kernel
theorem dX6_fixed_114 : decode cX6_fixed 114 = .ok (.istore 8, 2) := by decide +kernel
theorem dX6_fixed_116 : decode cX6_fixed 116 = .ok (.iload 6, 2) := by decide +kernel
theorem dX6_fixed_118 : decode cX6_fixed 118 = .ok (.iload 8, 2) := by decide +kernel
theorem dX6_fixed_120 : decode cX6_fixed 120 = .ok (.ior, 1) := by decide +kernel
theorem dX6_fixed_121 : decode cX6_fixed 121 = .ok (.istore 6, 2) := by decide +kernel
theorem dX6_fixed_123 : decode cX6_fixed 123 = .ok (.iload_n 3, 1) := by decide +kernel
theorem dX6_fixed_124 : decode cX6_fixed 124 = .ok (.aload_n 0, 1) := by decide +kernel
theorem dX6_fixed_125 : decode cX6_fixed 125 = .ok (.iload_n 2, 1) := by decide +kernel
theorem dX6_fixed_126 : decode cX6_fixed 126 = .ok (.iload 8, 2) := by decide +kernel
theorem dX6_fixed_128 : decode cX6_fixed 128 = .ok (.invokevirtual 186, 3) := by decide +kernel
theorem dX6_fixed_131 : decode cX6_fixed 131 = .ok (.iload 8, 2) := by decide +kernel
theorem dX6_fixed_133 : decode cX6_fixed 133 = .ok (.if_icmp .ne 7, 3) := by decide +kernel
theorem dX6_fixed_136 : decode cX6_fixed 136 = .ok (.iconst 1, 1) := by decide +kernel
theorem dX6_fixed_137 : decode cX6_fixed 137 = .ok (.goto 4, 3) := by decide +kernel
theorem dX6_fixed_140 : decode cX6_fixed 140 = .ok (.iconst 0, 1) := by decide +kernel
theorem dX6_fixed_141 : decode cX6_fixed 141 = .ok (.iadd, 1) := by decide +kernel
theorem dX6_fixed_142 : decode cX6_fixed 142 = .ok (.istore_n 3, 1) := by decide +kernel
theorem dX6_fixed_143 : decode cX6_fixed 143 = .ok (.iinc 7 1, 3) := by decide +kernel
theorem dX6_fixed_146 : decode cX6_fixed 146 = .ok (.goto (-59), 3) := by decide +kernel
theorem dX6_fixed_149 : decode cX6_fixed 149 = .ok (.iinc 4 1, 3) := by decide +kernel
theorem dX6_fixed_152 : decode cX6_fixed 152 = .ok (.goto (-102), 3) := by decide +kernel
theorem dX6_fixed_155 : decode cX6_fixed 155 = .ok (.iload_n 3, 1) := by decide +kernel
theorem dX6_fixed_156 : decode cX6_fixed 156 = .ok (.ireturn, 1) := by decide +kernel
theorem dX6_left_0 : decode cX6_left 0 = .ok (.aload_n 0, 1) := by decide +kernel
theorem dX6_left_1 : decode cX6_left 1 = .ok (.invokevirtual 180, 3) := by decide +kernel
theorem dX6_left_4 : decode cX6_left 4 = .ok (.iload_n 1, 1) := by decide +kernel
theorem dX6_left_5 : decode cX6_left 5 = .ok (.iconst 0, 1) := by decide +kernel
theorem dX6_left_6 : decode cX6_left 6 = .ok (.aload_n 0, 1) := by decide +kernel
theorem dX6_left_7 : decode cX6_left 7 = .ok (.getfield 150, 3) := by decide +kernel
theorem dX6_left_10 : decode cX6_left 10 = .ok (.iconst 1, 1) := by decide +kernel
theorem dX6_left_11 : decode cX6_left 11 = .ok (.isub, 1) := by decide +kernel
theorem dX6_left_12 : decode cX6_left 12 = .ok (.invokestatic 38, 3) := by decide +kernel
theorem dX6_left_15 : decode cX6_left 15 = .ok (.ifCond .eq 11, 3) := by decide +kernel
theorem dX6_left_18 : decode cX6_left 18 = .ok (.aload_n 0, 1) := by decide +kernel
theorem dX6_left_19 : decode cX6_left 19 = .ok (.iload_n 2, 1) := by decide +kernel
theorem dX6_left_20 : decode cX6_left 20 = .ok (.invokevirtual 124, 3) := by decide +kernel
theorem dX6_left_23 : decode cX6_left 23 = .ok (.ifCond .ne 6, 3) := by decide +kernel
theorem dX6_left_26 : decode cX6_left 26 = .ok (.bipush (-2), 2) := by decide +kernel
theorem dX6_left_28 : decode cX6_left 28 = .ok (.ireturn, 1) := by decide +kernel
theorem dX6_left_29 : decode cX6_left 29 = .ok (.aload_n 0, 1) := by decide +kernel
theorem dX6_left_30 : decode cX6_left 30 = .ok (.aload_n 0, 1) := by decide +kernel
theorem dX6_left_31 : decode cX6_left 31 = .ok (.getfield 61, 3) := by decide +kernel
theorem dX6_left_34 : decode cX6_left 34 = .ok (.iload_n 1, 1) := by decide +kernel
theorem dX6_left_35 : decode cX6_left 35 = .ok (.iaload, 1) := by decide +kernel
theorem dX6_left_36 : decode cX6_left 36 = .ok (.invokevirtual 143, 3) := by decide +kernel
theorem dX6_left_39 : decode cX6_left 39 = .ok (.aload_n 0, 1) := by decide +kernel
theorem dX6_left_40 : decode cX6_left 40 = .ok (.getfield 14, 3) := by decide +kernel
theorem dX6_left_43 : decode cX6_left 43 = .ok (.iload_n 2, 1) := by decide +kernel
theorem dX6_left_44 : decode cX6_left 44 = .ok (.invokestatic 121, 3) := by decide +kernel
theorem dX6_left_47 : decode cX6_left 47 = .ok (.idiv, 1) := by decide +kernel
theorem dX6_left_48 : decode cX6_left 48 = .ok (.iconst 2, 1) := by decide +kernel
theorem dX6_left_49 : decode cX6_left 49 = .ok (.iconst 2, 1) := by decide +kernel
theorem dX6_left_50 : decode cX6_left 50 = .ok (.aload_n 0, 1) := by decide +kernel
theorem dX6_left_51 : decode cX6_left 51 = .ok (.getfield 133, 3) := by decide +kernel
theorem dX6_left_54 : decode cX6_left 54 = .ok (.imul, 1) := by decide +kernel
theorem dX6_left_55 : decode cX6_left 55 = .ok (.isub, 1) := by decide +kernel
theorem dX6_left_56 : decode cX6_left 56 = .ok (.aload_n 0, 1) := by decide +kernel
theorem dX6_left_57 : decode cX6_left 57 = .ok (.getfield 130, 3) := by decide +kernel
theorem dX6_left_60 : decode cX6_left 60 = .ok (.isub, 1) := by decide +kernel
theorem dX6_left_61 : decode cX6_left 61 = .ok (.imul, 1) := by decide +kernel
theorem dX6_left_62 : decode cX6_left 62 = .ok (.istore_n 3, 1) := by decide +kernel
theorem dX6_left_63 : decode cX6_left 63 = .ok (.iconst 0, 1) := by decide +kernel
theorem dX6_left_64 : decode cX6_left 64 = .ok (.istore 4, 2) := by decide +kernel
theorem dX6_left_66 : decode cX6_left 66 = .ok (.iload 4, 2) := by decide +kernel
theorem dX6_left_68 : decode cX6_left 68 = .ok (.aload_n 0, 1) := by decide +kernel
theorem dX6_left_69 : decode cX6_left 69 = .ok (.getfield 130, 3) := by decide +kernel
theorem dX6_left_72 : decode cX6_left 72 = .ok (.if_icmp .ge 120, 3) := by decide +kernel
theorem dX6_left_75 : decode cX6_left 75 = .ok (.aload_n 0, 1) := by decide +kernel
theorem dX6_left_76 : decode cX6_left 76 = .ok (.iconst 1, 1) := by decide +kernel
theorem dX6_left_77 : decode cX6_left 77 = .ok (.aload_n 0, 1) := by decide +kernel
theorem dX6_left_78 : decode cX6_left 78 = .ok (.getfield 109, 3) := by decide +kernel
theorem dX6_left_81 : decode cX6_left 81 = .ok (.iconst 2, 1) := by decide +kernel
theorem dX6_left_82 : decode cX6_left 82 = .ok (.aload_n 0, 1) := by decide +kernel
theorem dX6_left_83 : decode cX6_left 83 = .ok (.getfield 133, 3) := by decide +kernel
theorem dX6_left_86 : decode cX6_left 86 = .ok (.imul, 1) := by decide +kernel
theorem dX6_left_87 : decode cX6_left 87 = .ok (.iload 4, 2) := by decide +kernel
theorem dX6_left_89 : decode cX6_left 89 = .ok (.iadd, 1) := by decide +kernel
theorem dX6_left_90 : decode cX6_left 90 = .ok (.iaload, 1) := by decide +kernel
theorem dX6_left_91 : decode cX6_left 91 = .ok (.ishl, 1) := by decide +kernel
theorem dX6_left_92 : decode cX6_left 92 = .ok (.invokevirtual 46, 3) := by decide +kernel
theorem dX6_left_95 : decode cX6_left 95 = .ok (.istore 5, 2) := by decide +kernel
theorem dX6_left_97 : decode cX6_left 97 = .ok (.iconst 0, 1) := by decide +kernel
theorem dX6_left_98 : decode cX6_left 98 = .ok (.istore 6, 2) := by decide +kernel
theorem dX6_left_100 : decode cX6_left 100 = .ok (.iconst 0, 1) := by decide +kernel
theorem dX6_left_101 : decode cX6_left 101 = .ok (.istore 7, 2) := by decide +kernel
theorem dX6_left_103 : decode cX6_left 103 = .ok (.iload 7, 2) := by decide +kernel
theorem dX6_left_105 : decode cX6_left 105 = .ok (.aload_n 0, 1) := by decide +kernel
theorem dX6_left_106 : decode cX6_left 106 = .ok (.getfield 14, 3) := by decide +kernel
theorem dX6_left_109 : decode cX6_left 109 = .ok (.if_icmp .ge 77, 3) := by decide +kernel
theorem dX6_left_112 : decode cX6_left 112 = .ok (.iload 6, 2) := by decide +kernel
theorem dX6_left_114 : decode cX6_left 114 = .ok (.iload 7, 2) := by decide +kernel
theorem dX6_left_116 : decode cX6_left 116 = .ok (.ishr, 1) := by decide +kernel
theorem dX6_left_117 : decode cX6_left 117 = .ok (.iconst 1, 1) := by decide +kernel
theorem dX6_left_118 : decode cX6_left 118 = .ok (.iand, 1) := by decide +kernel
theorem dX6_left_119 : decode cX6_left 119 = .ok (.ifCond .ne 61, 3) := by decide +kernel
theorem dX6_left_122 : decode cX6_left 122 = .ok (.aload_n 0, 1) := by decide +kernel
theorem dX6_left_123 : decode cX6_left 123 = .ok (.iload 7, 2) := by decide +kernel
theorem dX6_left_125 : decode cX6_left 125 = .ok (.iload 5, 2) := by decide +kernel
theorem dX6_left_127 : decode cX6_left 127 = .ok (.invokevirtual 186, 3) := by decide +kernel
theorem dX6_left_130 : decode cX6_left 130 = .ok (.istore 8, 2) := by decide +kernel
theorem dX6_left_132 : decode cX6_left 132 = .ok (.iconst 0, 1) := by decide +kernel
theorem dX6_left_133 : decode cX6_left 133 = .ok (.istore 9, 2) := by decide +kernel
theorem dX6_left_135 : decode cX6_left 135 = .ok (.iload 9, 2) := by decide +kernel
theorem dX6_left_137 : decode cX6_left 137 = .ok (.aload_n 0, 1) := by decide +kernel
theorem dX6_left_138 : decode cX6_left 138 = .ok (.getfield 14, 3) := by decide +kernel
theorem dX6_left_141 : decode cX6_left 141 = .ok (.if_icmp .ge 36, 3) := by decide +kernel
theorem dX6_left_144 : decode cX6_left 144 = .ok (.iload 6, 2) := by decide +kernel
theorem dX6_left_146 : decode cX6_left 146 = .ok (.iload_n 2, 1) := by decide +kernel
theorem dX6_left_147 : decode cX6_left 147 = .ok (.iload 9, 2) := by decide +kernel
theorem dX6_left_149 : decode cX6_left 149 = .ok (.ishr, 1) := by decide +kernel
theorem dX6_left_150 : decode cX6_left 150 = .ok (.iconst 1, 1) := by decide +kernel
theorem dX6_left_151 : decode cX6_left 151 = .ok (.iand, 1) := by decide +kernel
theorem dX6_left_152 : decode cX6_left 152 = .ok (.iconst 1, 1) := by decide +kernel
theorem dX6_left_153 : decode cX6_left 153 = .ok (.if_icmp .ne 14, 3) := by decide +kernel
theorem dX6_left_156 : decode cX6_left 156 = .ok (.aload_n 0, 1) := by decide +kernel
theorem dX6_left_157 : decode cX6_left 157 = .ok (.iload 9, 2) := by decide +kernel
theorem dX6_left_159 : decode cX6_left 159 = .ok (.iload 8, 2) := by decide +kernel
theorem dX6_left_161 : decode cX6_left 161 = .ok (.invokevirtual 186, 3) := by decide +kernel
theorem dX6_left_164 : decode cX6_left 164 = .ok (.goto 4, 3) := by decide +kernel
theorem dX6_left_167 : decode cX6_left 167 = .ok (.iconst 0, 1) := by decide +kernel
theorem dX6_left_168 : decode cX6_left 168 = .ok (.ior, 1) := by decide +kernel
theorem dX6_left_169 : decode cX6_left 169 = .ok (.istore 6, 2) := by decide +kernel
theorem dX6_left_171 : decode cX6_left 171 = .ok (.iinc 9 1, 3) := by decide +kernel
theorem dX6_left_174 : decode cX6_left 174 = .ok (.goto (-39), 3) := by decide +kernel
theorem dX6_left_177 : decode cX6_left 177 = .ok (.iinc 3 1, 3) := by decide +kernel
theorem dX6_left_180 : decode cX6_left 180 = .ok (.iinc 7 1, 3) := by decide +kernel
theorem dX6_left_183 : decode cX6_left 183 = .ok (.goto (-80), 3) := by decide +kernel
theorem dX6_left_186 : decode cX6_left 186 = .ok (.iinc 4 1, 3) := by decide +kernel
theorem dX6_left_189 : decode cX6_left 189 = .ok (.goto (-123), 3) := by decide +kernel
theorem dX6_left_192 : decode cX6_left 192 = .ok (.iconst 2, 1) := by decide +kernel
theorem dX6_left_193 : decode cX6_left 193 = .ok (.iload_n 3, 1) := by decide +kernel
theorem dX6_left_194 : decode cX6_left 194 = .ok (.isub, 1) := by decide +kernel
theorem dX6_left_195 : decode cX6_left 195 = .ok (.iconst 2, 1) := by decide +kernel
theorem dX6_left_196 : decode cX6_left 196 = .ok (.idiv, 1) := by decide +kernel
theorem dX6_left_197 : decode cX6_left 197 = .ok (.ireturn, 1) := by decide +kernel
theorem dX6_behind_0 : decode cX6_behind 0 = .ok (.aload_n 0, 1) := by decide +kernel
theorem dX6_behind_1 : decode cX6_behind 1 = .ok (.invokevirtual 180, 3) := by decide +kernel
theorem dX6_behind_4 : decode cX6_behind 4 = .ok (.iload_n 1, 1) := by decide +kernel
theorem dX6_behind_5 : decode cX6_behind 5 = .ok (.iconst 0, 1) := by decide +kernel
theorem dX6_behind_6 : decode cX6_behind 6 = .ok (.aload_n 0, 1) := by decide +kernel
theorem dX6_behind_7 : decode cX6_behind 7 = .ok (.getfield 150, 3) := by decide +kernel
theorem dX6_behind_10 : decode cX6_behind 10 = .ok (.iconst 1, 1) := by decide +kernel
theorem dX6_behind_11 : decode cX6_behind 11 = .ok (.isub, 1) := by decide +kernel
theorem dX6_behind_12 : decode cX6_behind 12 = .ok (.invokestatic 38, 3) := by decide +kernel
theorem dX6_behind_15 : decode cX6_behind 15 = .ok (.ifCond .eq 25, 3) := by decide +kernel
theorem dX6_behind_18 : decode cX6_behind 18 = .ok (.aload_n 0, 1) := by decide +kernel
theorem dX6_behind_19 : decode cX6_behind 19 = .ok (.iload_n 2, 1) := by decide +kernel
theorem dX6_behind_20 : decode cX6_behind 20 = .ok (.invokevirtual 124, 3) := by decide +kernel
theorem dX6_behind_23 : decode cX6_behind 23 = .ok (.ifCond .eq 17, 3) := by decide +kernel
theorem dX6_behind_26 : decode cX6_behind 26 = .ok (.iload_n 3, 1) := by decide +kernel
theorem dX6_behind_27 : decode cX6_behind 27 = .ok (.iconst 0, 1) := by decide +kernel
theorem dX6_behind_28 : decode cX6_behind 28 = .ok (.aload_n 0, 1) := by decide +kernel
theorem dX6_behind_29 : decode cX6_behind 29 = .ok (.getfield 130, 3) := by decide +kernel
theorem dX6_behind_32 : decode cX6_behind 32 = .ok (.iconst 1, 1) := by decide +kernel
theorem dX6_behind_33 : decode cX6_behind 33 = .ok (.isub, 1) := by decide +kernel
theorem dX6_behind_34 : decode cX6_behind 34 = .ok (.invokestatic 38, 3) := by decide +kernel
theorem dX6_behind_37 : decode cX6_behind 37 = .ok (.ifCond .ne 6, 3) := by decide +kernel
theorem dX6_behind_40 : decode cX6_behind 40 = .ok (.bipush (-2), 2) := by decide +kernel
theorem dX6_behind_42 : decode cX6_behind 42 = .ok (.ireturn, 1) := by decide +kernel
theorem dX6_behind_43 : decode cX6_behind 43 = .ok (.aload_n 0, 1) := by decide +kernel
theorem dX6_behind_44 : decode cX6_behind 44 = .ok (.iload_n 2, 1) := by decide +kernel
theorem dX6_behind_45 : decode cX6_behind 45 = .ok (.invokevirtual 127, 3) := by decide +kernel
theorem dX6_behind_48 : decode cX6_behind 48 = .ok (.ifCond .ne 6, 3) := by decide +kernel
theorem dX6_behind_51 : decode cX6_behind 51 = .ok (.bipush (-3), 2) := by decide +kernel
theorem dX6_behind_53 : decode cX6_behind 53 = .ok (.ireturn, 1) := by decide +kernel
theorem dX6_behind_54 : decode cX6_behind 54 = .ok (.aload_n 0, 1) := by decide +kernel
theorem dX6_behind_55 : decode cX6_behind 55 = .ok (.aload_n 0, 1) := by decide +kernel
theorem dX6_behind_56 : decode cX6_behind 56 = .ok (.getfield 61, 3) := by decide +kernel
theorem dX6_behind_59 : decode cX6_behind 59 = .ok (.iload_n 1, 1) := by decide +kernel
theorem dX6_behind_60 : decode cX6_behind 60 = .ok (.iaload, 1) := by decide +kernel
theorem dX6_behind_61 : decode cX6_behind 61 = .ok (.invokevirtual 143, 3) := by decide +kernel
theorem dX6_behind_64 : decode cX6_behind 64 = .ok (.aload_n 0, 1) := by decide +kernel
theorem dX6_behind_65 : decode cX6_behind 65 = .ok (.getfield 109, 3) := by decide +kernel
theorem dX6_behind_68 : decode cX6_behind 68 = .ok (.iconst 2, 1) := by decide +kernel
theorem dX6_behind_69 : decode cX6_behind 69 = .ok (.aload_n 0, 1) := by decide +kernel
theorem dX6_behind_70 : decode cX6_behind 70 = .ok (.getfield 133, 3) := by decide +kernel
theorem dX6_behind_73 : decode cX6_behind 73 = .ok (.imul, 1) := by decide +kernel
theorem dX6_behind_74 : decode cX6_behind 74 = .ok (.iload_n 3, 1) := by decide +kernel
theorem dX6_behind_75 : decode cX6_behind 75 = .ok (.iadd, 1) := by decide +kernel
theorem dX6_behind_76 : decode cX6_behind 76 = .ok (.iaload, 1) := by decide +kernel
theorem dX6_behind_77 : decode cX6_behind 77 = .ok (.istore 4, 2) := by decide +kernel
theorem dX6_behind_79 : decode cX6_behind 79 = .ok (.iconst 1, 1) := by decide +kernel
theorem dX6_behind_80 : decode cX6_behind 80 = .ok (.istore 5, 2) := by decide +kernel
theorem dX6_behind_82 : decode cX6_behind 82 = .ok (.iload 4, 2) := by decide +kernel
theorem dX6_behind_84 : decode cX6_behind 84 = .ok (.istore 6, 2) := by decide +kernel
theorem dX6_behind_86 : decode cX6_behind 86 = .ok (.iload_n 2, 1) := by decide +kernel
theorem dX6_behind_87 : decode cX6_behind 87 = .ok (.iload 6, 2) := by decide +kernel
theorem dX6_behind_89 : decode cX6_behind 89 = .ok (.ishr, 1) := by decide +kernel
theorem dX6_behind_90 : decode cX6_behind 90 = .ok (.iconst 1, 1) := by decide +kernel
theorem dX6_behind_91 : decode cX6_behind 91 = .ok (.iand, 1) := by decide +kernel
theorem dX6_behind_92 : decode cX6_behind 92 = .ok (.ifCond .ne 19, 3) := by decide +kernel
theorem dX6_behind_95 : decode cX6_behind 95 = .ok (.iinc 5 1, 3) := by decide +kernel
theorem dX6_behind_98 : decode cX6_behind 98 = .ok (.aload_n 0, 1) := by decide +kernel
theorem dX6_behind_99 : decode cX6_behind 99 = .ok (.iload 6, 2) := by decide +kernel
theorem dX6_behind_101 : decode cX6_behind 101 = .ok (.iload 4, 2) := by decide +kernel
theorem dX6_behind_103 : decode cX6_behind 103 = .ok (.invokevirtual 31, 3) := by decide +kernel
theorem dX6_behind_106 : decode cX6_behind 106 = .ok (.istore 6, 2) := by decide +kernel
theorem dX6_behind_108 : decode cX6_behind 108 = .ok (.goto (-22), 3) := by decide +kernel
theorem dX6_behind_111 : decode cX6_behind 111 = .ok (.iload 5, 2) := by decide +kernel
theorem dX6_behind_113 : decode cX6_behind 113 = .ok (.ireturn, 1) := by decide +kernel
theorem dX6_move_0 : decode cX6_move 0 = .ok (.aload_n 0, 1) := by decide +kernel
theorem dX6_move_1 : decode cX6_move 1 = .ok (.iload_n 1, 1) := by decide +kernel
theorem dX6_move_2 : decode cX6_move 2 = .ok (.invokevirtual 153, 3) := by decide +kernel
theorem dX6_move_5 : decode cX6_move 5 = .ok (.ifCond .eq 11, 3) := by decide +kernel
theorem dX6_move_8 : decode cX6_move 8 = .ok (.aload_n 0, 1) := by decide +kernel
theorem dX6_move_9 : decode cX6_move 9 = .ok (.iload_n 2, 1) := by decide +kernel
theorem dX6_move_10 : decode cX6_move 10 = .ok (.invokevirtual 165, 3) := by decide +kernel
theorem dX6_move_13 : decode cX6_move 13 = .ok (.ifCond .ne 8, 3) := by decide +kernel
theorem dX6_move_16 : decode cX6_move 16 = .ok (.bipush (-2), 2) := by decide +kernel
theorem dX6_move_18 : decode cX6_move 18 = .ok (.goto 9, 3) := by decide +kernel
theorem dX6_move_21 : decode cX6_move 21 = .ok (.aload_n 0, 1) := by decide +kernel
theorem dX6_move_22 : decode cX6_move 22 = .ok (.iload_n 1, 1) := by decide +kernel
theorem dX6_move_23 : decode cX6_move 23 = .ok (.iload_n 2, 1) := by decide +kernel
theorem dX6_move_24 : decode cX6_move 24 = .ok (.invokevirtual 168, 3) := by decide +kernel
theorem dX6_move_27 : decode cX6_move 27 = .ok (.ireturn, 1) := by decide +kernel
theorem dX6_classes_0 : decode cX6_classes 0 = .ok (.iload_n 1, 1) := by decide +kernel
theorem dX6_classes_1 : decode cX6_classes 1 = .ok (.iconst 0, 1) := by decide +kernel
theorem dX6_classes_2 : decode cX6_classes 2 = .ok (.iconst 2, 1) := by decide +kernel
theorem dX6_classes_3 : decode cX6_classes 3 = .ok (.invokestatic 38, 3) := by decide +kernel
theorem dX6_classes_6 : decode cX6_classes 6 = .ok (.ifCond .ne 6, 3) := by decide +kernel
theorem dX6_classes_9 : decode cX6_classes 9 = .ok (.bipush (-2), 2) := by decide +kernel
theorem dX6_classes_11 : decode cX6_classes 11 = .ok (.ireturn, 1) := by decide +kernel
theorem dX6_classes_12 : decode cX6_classes 12 = .ok (.aload_n 0, 1) := by decide +kernel
theorem dX6_classes_13 : decode cX6_classes 13 = .ok (.invokevirtual 180, 3) := by decide +kernel
theorem dX6_classes_16 : decode cX6_classes 16 = .ok (.iconst (-1), 1) := by decide +kernel
theorem dX6_classes_17 : decode cX6_classes 17 = .ok (.istore_n 2, 1) := by decide +kernel
theorem dX6_classes_18 : decode cX6_classes 18 = .ok (.iconst 0, 1) := by decide +kernel
theorem dX6_classes_19 : decode cX6_classes 19 = .ok (.istore_n 3, 1) := by decide +kernel
theorem dX6_classes_20 : decode cX6_classes 20 = .ok (.iconst 0, 1) := by decide +kernel
theorem dX6_classes_21 : decode cX6_classes 21 = .ok (.istore 4, 2) := by decide +kernel
theorem dX6_classes_23 : decode cX6_classes 23 = .ok (.iload 4, 2) := by decide +kernel
theorem dX6_classes_25 : decode cX6_classes 25 = .ok (.aload_n 0, 1) := by decide +kernel
theorem dX6_classes_26 : decode cX6_classes 26 = .ok (.getfield 174, 3) := by decide +kernel
theorem dX6_classes_29 : decode cX6_classes 29 = .ok (.if_icmp .ge 43, 3) := by decide +kernel
theorem dX6_classes_32 : decode cX6_classes 32 = .ok (.aload_n 0, 1) := by decide +kernel
theorem dX6_classes_33 : decode cX6_classes 33 = .ok (.iload 4, 2) := by decide +kernel
theorem dX6_classes_35 : decode cX6_classes 35 = .ok (.invokevirtual 189, 3) := by decide +kernel
theorem dX6_classes_38 : decode cX6_classes 38 = .ok (.istore 5, 2) := by decide +kernel
theorem dX6_classes_40 : decode cX6_classes 40 = .ok (.iload 5, 2) := by decide +kernel
theorem dX6_classes_42 : decode cX6_classes 42 = .ok (.iload_n 3, 1) := by decide +kernel
theorem dX6_classes_43 : decode cX6_classes 43 = .ok (.if_icmp .le 8, 3) := by decide +kernel
theorem dX6_classes_46 : decode cX6_classes 46 = .ok (.iload 4, 2) := by decide +kernel
theorem dX6_classes_48 : decode cX6_classes 48 = .ok (.goto 4, 3) := by decide +kernel
theorem dX6_classes_51 : decode cX6_classes 51 = .ok (.iload_n 2, 1) := by decide +kernel
theorem dX6_classes_52 : decode cX6_classes 52 = .ok (.istore_n 2, 1) := by decide +kernel
theorem dX6_classes_53 : decode cX6_classes 53 = .ok (.iload 5, 2) := by decide +kernel
theorem dX6_classes_55 : decode cX6_classes 55 = .ok (.iload_n 3, 1) := by decide +kernel
theorem dX6_classes_56 : decode cX6_classes 56 = .ok (.if_icmp .le 8, 3) := by decide +kernel
theorem dX6_classes_59 : decode cX6_classes 59 = .ok (.iload 5, 2) := by decide +kernel
theorem dX6_classes_61 : decode cX6_classes 61 = .ok (.goto 4, 3) := by decide +kernel
theorem dX6_classes_64 : decode cX6_classes 64 = .ok (.iload_n 3, 1) := by decide +kernel
theorem dX6_classes_65 : decode cX6_classes 65 = .ok (.istore_n 3, 1) := by decide +kernel
theorem dX6_classes_66 : decode cX6_classes 66 = .ok (.iinc 4 1, 3) := by decide +kernel
theorem dX6_classes_69 : decode cX6_classes 69 = .ok (.goto (-46), 3) := by decide +kernel
theorem dX6_classes_72 : decode cX6_classes 72 = .ok (.iload_n 1, 1) := by decide +kernel
theorem dX6_classes_73 : decode cX6_classes 73 = .ok (.ifCond .ne 10, 3) := by decide +kernel
theorem dX6_classes_76 : decode cX6_classes 76 = .ok (.aload_n 0, 1) := by decide +kernel
theorem dX6_classes_77 : decode cX6_classes 77 = .ok (.getfield 174, 3) := by decide +kernel
theorem dX6_classes_80 : decode cX6_classes 80 = .ok (.goto 13, 3) := by decide +kernel
theorem dX6_classes_83 : decode cX6_classes 83 = .ok (.iload_n 1, 1) := by decide +kernel
theorem dX6_classes_84 : decode cX6_classes 84 = .ok (.iconst 1, 1) := by decide +kernel
theorem dX6_classes_85 : decode cX6_classes 85 = .ok (.if_icmp .ne 7, 3) := by decide +kernel
theorem dX6_classes_88 : decode cX6_classes 88 = .ok (.iload_n 3, 1) := by decide +kernel
theorem dX6_classes_89 : decode cX6_classes 89 = .ok (.goto 4, 3) := by decide +kernel
theorem dX6_classes_92 : decode cX6_classes 92 = .ok (.iload_n 2, 1) := by decide +kernel
theorem dX6_classes_93 : decode cX6_classes 93 = .ok (.ireturn, 1) := by decide +kernel
theorem dX6_classOf_0 : decode cX6_classOf 0 = .ok (.aload_n 0, 1) := by decide +kernel
theorem dX6_classOf_1 : decode cX6_classOf 1 = .ok (.invokevirtual 180, 3) := by decide +kernel
theorem dX6_classOf_4 : decode cX6_classOf 4 = .ok (.aload_n 0, 1) := by decide +kernel
theorem dX6_classOf_5 : decode cX6_classOf 5 = .ok (.iload_n 1, 1) := by decide +kernel
theorem dX6_classOf_6 : decode cX6_classOf 6 = .ok (.invokevirtual 171, 3) := by decide +kernel
theorem dX6_classOf_9 : decode cX6_classOf 9 = .ok (.istore_n 2, 1) := by decide +kernel
theorem dX6_classOf_10 : decode cX6_classOf 10 = .ok (.iload_n 2, 1) := by decide +kernel
theorem dX6_classOf_11 : decode cX6_classOf 11 = .ok (.iconst (-1), 1) := by decide +kernel
theorem dX6_classOf_12 : decode cX6_classOf 12 = .ok (.if_icmp .ne 7, 3) := by decide +kernel
theorem dX6_classOf_15 : decode cX6_classOf 15 = .ok (.iconst (-1), 1) := by decide +kernel
theorem dX6_classOf_16 : decode cX6_classOf 16 = .ok (.goto 9, 3) := by decide +kernel
theorem dX6_classOf_19 : decode cX6_classOf 19 = .ok (.aload_n 0, 1) := by decide +kernel
theorem dX6_classOf_20 : decode cX6_classOf 20 = .ok (.getfield 64, 3) := by decide +kernel
theorem dX6_classOf_23 : decode cX6_classOf 23 = .ok (.iload_n 2, 1) := by decide +kernel
theorem dX6_classOf_24 : decode cX6_classOf 24 = .ok (.iaload, 1) := by decide +kernel
theorem dX6_classOf_25 : decode cX6_classOf 25 = .ok (.ireturn, 1) := by decide +kernel
theorem dX6_member_0 : decode cX6_member 0 = .ok (.aload_n 0, 1) := by decide +kernel
theorem dX6_member_1 : decode cX6_member 1 = .ok (.invokevirtual 180, 3) := by decide +kernel
theorem dX6_member_4 : decode cX6_member 4 = .ok (.iload_n 1, 1) := by decide +kernel
theorem dX6_member_5 : decode cX6_member 5 = .ok (.iconst 0, 1) := by decide +kernel
theorem dX6_member_6 : decode cX6_member 6 = .ok (.aload_n 0, 1) := by decide +kernel
theorem dX6_member_7 : decode cX6_member 7 = .ok (.getfield 174, 3) := by decide +kernel
theorem dX6_member_10 : decode cX6_member 10 = .ok (.iconst 1, 1) := by decide +kernel
theorem dX6_member_11 : decode cX6_member 11 = .ok (.isub, 1) := by decide +kernel
theorem dX6_member_12 : decode cX6_member 12 = .ok (.invokestatic 38, 3) := by decide +kernel
theorem dX6_member_15 : decode cX6_member 15 = .ok (.ifCond .ne 6, 3) := by decide +kernel
theorem dX6_member_18 : decode cX6_member 18 = .ok (.bipush (-2), 2) := by decide +kernel
theorem dX6_member_20 : decode cX6_member 20 = .ok (.ireturn, 1) := by decide +kernel
theorem dX6_member_21 : decode cX6_member 21 = .ok (.iconst 0, 1) := by decide +kernel
theorem dX6_member_22 : decode cX6_member 22 = .ok (.istore_n 3, 1) := by decide +kernel
theorem dX6_member_23 : decode cX6_member 23 = .ok (.iconst 0, 1) := by decide +kernel
theorem dX6_member_24 : decode cX6_member 24 = .ok (.istore 4, 2) := by decide +kernel
theorem dX6_member_26 : decode cX6_member 26 = .ok (.iload 4, 2) := by decide +kernel
theorem dX6_member_28 : decode cX6_member 28 = .ok (.aload_n 0, 1) := by decide +kernel
theorem dX6_member_29 : decode cX6_member 29 = .ok (.getfield 150, 3) := by decide +kernel
theorem dX6_member_32 : decode cX6_member 32 = .ok (.if_icmp .ge 36, 3) := by decide +kernel
theorem dX6_member_35 : decode cX6_member 35 = .ok (.aload_n 0, 1) := by decide +kernel
theorem dX6_member_36 : decode cX6_member 36 = .ok (.getfield 64, 3) := by decide +kernel
theorem dX6_member_39 : decode cX6_member 39 = .ok (.iload 4, 2) := by decide +kernel
theorem dX6_member_41 : decode cX6_member 41 = .ok (.iaload, 1) := by decide +kernel
theorem dX6_member_42 : decode cX6_member 42 = .ok (.iload_n 1, 1) := by decide +kernel
theorem dX6_member_43 : decode cX6_member 43 = .ok (.if_icmp .ne 19, 3) := by decide +kernel
theorem dX6_member_46 : decode cX6_member 46 = .ok (.iload_n 3, 1) := by decide +kernel
theorem dX6_member_47 : decode cX6_member 47 = .ok (.iload_n 2, 1) := by decide +kernel
theorem dX6_member_48 : decode cX6_member 48 = .ok (.if_icmp .ne 11, 3) := by decide +kernel
theorem dX6_member_51 : decode cX6_member 51 = .ok (.aload_n 0, 1) := by decide +kernel
theorem dX6_member_52 : decode cX6_member 52 = .ok (.getfield 61, 3) := by decide +kernel
theorem dX6_member_55 : decode cX6_member 55 = .ok (.iload 4, 2) := by decide +kernel
theorem dX6_member_57 : decode cX6_member 57 = .ok (.iaload, 1) := by decide +kernel
theorem dX6_member_58 : decode cX6_member 58 = .ok (.ireturn, 1) := by decide +kernel
theorem dX6_member_59 : decode cX6_member 59 = .ok (.iinc 3 1, 3) := by decide +kernel
theorem dX6_member_62 : decode cX6_member 62 = .ok (.iinc 4 1, 3) := by decide +kernel
theorem dX6_member_65 : decode cX6_member 65 = .ok (.goto (-39), 3) := by decide +kernel
theorem dX6_member_68 : decode cX6_member 68 = .ok (.iload_n 2, 1) := by decide +kernel
theorem dX6_member_69 : decode cX6_member 69 = .ok (.iconst (-1), 1) := by decide +kernel
theorem dX6_member_70 : decode cX6_member 70 = .ok (.if_icmp .ne 7, 3) := by decide +kernel
theorem dX6_member_73 : decode cX6_member 73 = .ok (.iload_n 3, 1) := by decide +kernel
theorem dX6_member_74 : decode cX6_member 74 = .ok (.goto 4, 3) := by decide +kernel
theorem dX6_member_77 : decode cX6_member 77 = .ok (.iconst (-1), 1) := by decide +kernel
theorem dX6_member_78 : decode cX6_member 78 = .ok (.ireturn, 1) := by decide +kernel
theorem dX6_apart_0 : decode cX6_apart 0 = .ok (.aload_n 0, 1) := by decide +kernel
theorem dX6_apart_1 : decode cX6_apart 1 = .ok (.invokevirtual 180, 3) := by decide +kernel
theorem dX6_apart_4 : decode cX6_apart 4 = .ok (.aload_n 0, 1) := by decide +kernel
theorem dX6_apart_5 : decode cX6_apart 5 = .ok (.iload_n 1, 1) := by decide +kernel
theorem dX6_apart_6 : decode cX6_apart 6 = .ok (.invokevirtual 171, 3) := by decide +kernel
theorem dX6_apart_9 : decode cX6_apart 9 = .ok (.istore_n 3, 1) := by decide +kernel
theorem dX6_apart_10 : decode cX6_apart 10 = .ok (.aload_n 0, 1) := by decide +kernel
theorem dX6_apart_11 : decode cX6_apart 11 = .ok (.iload_n 2, 1) := by decide +kernel
theorem dX6_apart_12 : decode cX6_apart 12 = .ok (.invokevirtual 171, 3) := by decide +kernel
theorem dX6_apart_15 : decode cX6_apart 15 = .ok (.istore 4, 2) := by decide +kernel
theorem dX6_apart_17 : decode cX6_apart 17 = .ok (.iload_n 3, 1) := by decide +kernel
theorem dX6_apart_18 : decode cX6_apart 18 = .ok (.iconst (-1), 1) := by decide +kernel
theorem dX6_apart_19 : decode cX6_apart 19 = .ok (.if_icmp .eq 9, 3) := by decide +kernel
theorem dX6_apart_22 : decode cX6_apart 22 = .ok (.iload 4, 2) := by decide +kernel
theorem dX6_apart_24 : decode cX6_apart 24 = .ok (.iconst (-1), 1) := by decide +kernel
theorem dX6_apart_25 : decode cX6_apart 25 = .ok (.if_icmp .ne 6, 3) := by decide +kernel
theorem dX6_apart_28 : decode cX6_apart 28 = .ok (.bipush (-2), 2) := by decide +kernel
theorem dX6_apart_30 : decode cX6_apart 30 = .ok (.ireturn, 1) := by decide +kernel
theorem dX6_apart_31 : decode cX6_apart 31 = .ok (.aload_n 0, 1) := by decide +kernel
theorem dX6_apart_32 : decode cX6_apart 32 = .ok (.iload_n 3, 1) := by decide +kernel
theorem dX6_apart_33 : decode cX6_apart 33 = .ok (.invokevirtual 177, 3) := by decide +kernel
theorem dX6_apart_36 : decode cX6_apart 36 = .ok (.aload_n 0, 1) := by decide +kernel
theorem dX6_apart_37 : decode cX6_apart 37 = .ok (.getfield 67, 3) := by decide +kernel
theorem dX6_apart_40 : decode cX6_apart 40 = .ok (.iload 4, 2) := by decide +kernel
theorem dX6_apart_42 : decode cX6_apart 42 = .ok (.iaload, 1) := by decide +kernel
theorem dX6_apart_43 : decode cX6_apart 43 = .ok (.ireturn, 1) := by decide +kernel
theorem dX6_hasMaps_0 : decode cX6_hasMaps 0 = .ok (.iconst 0, 1) := by decide +kernel
theorem dX6_hasMaps_1 : decode cX6_hasMaps 1 = .ok (.istore_n 1, 1) := by decide +kernel
theorem dX6_hasMaps_2 : decode cX6_hasMaps 2 = .ok (.iload_n 1, 1) := by decide +kernel
theorem dX6_hasMaps_3 : decode cX6_hasMaps 3 = .ok (.aload_n 0, 1) := by decide +kernel
theorem dX6_hasMaps_4 : decode cX6_hasMaps 4 = .ok (.invokevirtual 136, 3) := by decide +kernel
theorem dX6_hasMaps_7 : decode cX6_hasMaps 7 = .ok (.invokestatic 140, 3) := by decide +kernel
theorem dX6_hasMaps_10 : decode cX6_hasMaps 10 = .ok (.if_icmp .ge 20, 3) := by decide +kernel
theorem dX6_hasMaps_13 : decode cX6_hasMaps 13 = .ok (.aload_n 0, 1) := by decide +kernel
theorem dX6_hasMaps_14 : decode cX6_hasMaps 14 = .ok (.iload_n 1, 1) := by decide +kernel
theorem dX6_hasMaps_15 : decode cX6_hasMaps 15 = .ok (.invokevirtual 153, 3) := by decide +kernel
theorem dX6_hasMaps_18 : decode cX6_hasMaps 18 = .ok (.iconst 2, 1) := by decide +kernel
theorem dX6_hasMaps_19 : decode cX6_hasMaps 19 = .ok (.if_icmp .ne 5, 3) := by decide +kernel
theorem dX6_hasMaps_22 : decode cX6_hasMaps 22 = .ok (.iconst 1, 1) := by decide +kernel
theorem dX6_hasMaps_23 : decode cX6_hasMaps 23 = .ok (.ireturn, 1) := by decide +kernel
theorem dX6_hasMaps_24 : decode cX6_hasMaps 24 = .ok (.iinc 1 1, 3) := by decide +kernel
theorem dX6_hasMaps_27 : decode cX6_hasMaps 27 = .ok (.goto (-25), 3) := by decide +kernel
theorem dX6_hasMaps_30 : decode cX6_hasMaps 30 = .ok (.iconst 0, 1) := by decide +kernel
theorem dX6_hasMaps_31 : decode cX6_hasMaps 31 = .ok (.ireturn, 1) := by decide +kernel
theorem dX6_divides_0 : decode cX6_divides 0 = .ok (.iconst 0, 1) := by decide +kernel
theorem dX6_divides_1 : decode cX6_divides 1 = .ok (.istore_n 1, 1) := by decide +kernel
theorem dX6_divides_2 : decode cX6_divides 2 = .ok (.iload_n 1, 1) := by decide +kernel
theorem dX6_divides_3 : decode cX6_divides 3 = .ok (.aload_n 0, 1) := by decide +kernel
theorem dX6_divides_4 : decode cX6_divides 4 = .ok (.getfield 130, 3) := by decide +kernel
theorem dX6_divides_7 : decode cX6_divides 7 = .ok (.if_icmp .ge 25, 3) := by decide +kernel
theorem dX6_divides_10 : decode cX6_divides 10 = .ok (.aload_n 0, 1) := by decide +kernel
theorem dX6_divides_11 : decode cX6_divides 11 = .ok (.getfield 14, 3) := by decide +kernel
theorem dX6_divides_14 : decode cX6_divides 14 = .ok (.aload_n 0, 1) := by decide +kernel
theorem dX6_divides_15 : decode cX6_divides 15 = .ok (.getfield 58, 3) := by decide +kernel
theorem dX6_divides_18 : decode cX6_divides 18 = .ok (.iload_n 1, 1) := by decide +kernel
theorem dX6_divides_19 : decode cX6_divides 19 = .ok (.iaload, 1) := by decide +kernel
theorem dX6_divides_20 : decode cX6_divides 20 = .ok (.irem, 1) := by decide +kernel
theorem dX6_divides_21 : decode cX6_divides 21 = .ok (.ifCond .eq 5, 3) := by decide +kernel
theorem dX6_divides_24 : decode cX6_divides 24 = .ok (.iconst 0, 1) := by decide +kernel
theorem dX6_divides_25 : decode cX6_divides 25 = .ok (.ireturn, 1) := by decide +kernel
theorem dX6_divides_26 : decode cX6_divides 26 = .ok (.iinc 1 1, 3) := by decide +kernel
theorem dX6_divides_29 : decode cX6_divides 29 = .ok (.goto (-27), 3) := by decide +kernel
theorem dX6_divides_32 : decode cX6_divides 32 = .ok (.iconst 1, 1) := by decide +kernel
theorem dX6_divides_33 : decode cX6_divides 33 = .ok (.ireturn, 1) := by decide +kernel
theorem dX6_look_0 : decode cX6_look 0 = .ok (.aload_n 0, 1) := by decide +kernel
theorem dX6_look_1 : decode cX6_look 1 = .ok (.invokevirtual 192, 3) := by decide +kernel
theorem dX6_look_4 : decode cX6_look 4 = .ok (.ifCond .eq 81, 3) := by decide +kernel
theorem dX6_look_7 : decode cX6_look 7 = .ok (.aload_n 0, 1) := by decide +kernel
theorem dX6_look_8 : decode cX6_look 8 = .ok (.invokevirtual 183, 3) := by decide +kernel
theorem dX6_look_11 : decode cX6_look 11 = .ok (.iload_n 1, 1) := by decide +kernel
theorem dX6_look_12 : decode cX6_look 12 = .ok (.if_icmp .ne 73, 3) := by decide +kernel
theorem dX6_look_15 : decode cX6_look 15 = .ok (.aload_n 0, 1) := by decide +kernel
theorem dX6_look_16 : decode cX6_look 16 = .ok (.invokevirtual 196, 3) := by decide +kernel
theorem dX6_look_19 : decode cX6_look 19 = .ok (.ifCond .eq 66, 3) := by decide +kernel
theorem dX6_look_22 : decode cX6_look 22 = .ok (.iconst 0, 1) := by decide +kernel
theorem dX6_look_23 : decode cX6_look 23 = .ok (.istore_n 3, 1) := by decide +kernel
theorem dX6_look_24 : decode cX6_look 24 = .ok (.iconst 0, 1) := by decide +kernel
theorem dX6_look_25 : decode cX6_look 25 = .ok (.istore 4, 2) := by decide +kernel
theorem dX6_look_27 : decode cX6_look 27 = .ok (.iload 4, 2) := by decide +kernel
theorem dX6_look_29 : decode cX6_look 29 = .ok (.aload_n 0, 1) := by decide +kernel
theorem dX6_look_30 : decode cX6_look 30 = .ok (.getfield 130, 3) := by decide +kernel
theorem dX6_look_33 : decode cX6_look 33 = .ok (.if_icmp .ge 22, 3) := by decide +kernel
theorem dX6_look_36 : decode cX6_look 36 = .ok (.bipush 10, 2) := by decide +kernel
theorem dX6_look_38 : decode cX6_look 38 = .ok (.iload_n 3, 1) := by decide +kernel
theorem dX6_look_39 : decode cX6_look 39 = .ok (.imul, 1) := by decide +kernel
theorem dX6_look_40 : decode cX6_look 40 = .ok (.aload_n 0, 1) := by decide +kernel
theorem dX6_look_41 : decode cX6_look 41 = .ok (.getfield 58, 3) := by decide +kernel
theorem dX6_look_44 : decode cX6_look 44 = .ok (.iload 4, 2) := by decide +kernel
theorem dX6_look_46 : decode cX6_look 46 = .ok (.iaload, 1) := by decide +kernel
theorem dX6_look_47 : decode cX6_look 47 = .ok (.iadd, 1) := by decide +kernel
theorem dX6_look_48 : decode cX6_look 48 = .ok (.istore_n 3, 1) := by decide +kernel
theorem dX6_look_49 : decode cX6_look 49 = .ok (.iinc 4 1, 3) := by decide +kernel
theorem dX6_look_52 : decode cX6_look 52 = .ok (.goto (-25), 3) := by decide +kernel
theorem dX6_look_55 : decode cX6_look 55 = .ok (.aload_n 0, 1) := by decide +kernel
theorem dX6_look_56 : decode cX6_look 56 = .ok (.aload_n 0, 1) := by decide +kernel
theorem dX6_look_57 : decode cX6_look 57 = .ok (.getfield 199, 3) := by decide +kernel
theorem dX6_look_60 : decode cX6_look 60 = .ok (.iload_n 2, 1) := by decide +kernel
theorem dX6_look_61 : decode cX6_look 61 = .ok (.if_icmp .ne 7, 3) := by decide +kernel
theorem dX6_look_64 : decode cX6_look 64 = .ok (.iload_n 3, 1) := by decide +kernel
theorem dX6_look_65 : decode cX6_look 65 = .ok (.goto 7, 3) := by decide +kernel
theorem dX6_look_68 : decode cX6_look 68 = .ok (.aload_n 0, 1) := by decide +kernel
theorem dX6_look_69 : decode cX6_look 69 = .ok (.getfield 202, 3) := by decide +kernel
theorem dX6_look_72 : decode cX6_look 72 = .ok (.putfield 202, 3) := by decide +kernel
theorem dX6_look_75 : decode cX6_look 75 = .ok (.aload_n 0, 1) := by decide +kernel
theorem dX6_look_76 : decode cX6_look 76 = .ok (.dup, 1) := by decide +kernel
theorem dX6_look_77 : decode cX6_look 77 = .ok (.getfield 199, 3) := by decide +kernel
theorem dX6_look_80 : decode cX6_look 80 = .ok (.iconst 1, 1) := by decide +kernel
theorem dX6_look_81 : decode cX6_look 81 = .ok (.iadd, 1) := by decide +kernel
theorem dX6_look_82 : decode cX6_look 82 = .ok (.putfield 199, 3) := by decide +kernel
theorem dX6_look_85 : decode cX6_look 85 = .ok (.return_, 1) := by decide +kernel
theorem dX6_goesOn_0 : decode cX6_goesOn 0 = .ok (.aload_n 0, 1) := by decide +kernel
theorem dX6_goesOn_1 : decode cX6_goesOn 1 = .ok (.getfield 130, 3) := by decide +kernel
theorem dX6_goesOn_4 : decode cX6_goesOn 4 = .ok (.iconst 1, 1) := by decide +kernel
theorem dX6_goesOn_5 : decode cX6_goesOn 5 = .ok (.isub, 1) := by decide +kernel
theorem dX6_goesOn_6 : decode cX6_goesOn 6 = .ok (.istore_n 1, 1) := by decide +kernel
theorem dX6_goesOn_7 : decode cX6_goesOn 7 = .ok (.iload_n 1, 1) := by decide +kernel
theorem dX6_goesOn_8 : decode cX6_goesOn 8 = .ok (.ifCond .lt 20, 3) := by decide +kernel
theorem dX6_goesOn_11 : decode cX6_goesOn 11 = .ok (.aload_n 0, 1) := by decide +kernel
theorem dX6_goesOn_12 : decode cX6_goesOn 12 = .ok (.getfield 58, 3) := by decide +kernel
theorem dX6_goesOn_15 : decode cX6_goesOn 15 = .ok (.iload_n 1, 1) := by decide +kernel
theorem dX6_goesOn_16 : decode cX6_goesOn 16 = .ok (.iaload, 1) := by decide +kernel
theorem dX6_goesOn_17 : decode cX6_goesOn 17 = .ok (.bipush 8, 2) := by decide +kernel
theorem dX6_goesOn_19 : decode cX6_goesOn 19 = .ok (.if_icmp .ne 9, 3) := by decide +kernel
theorem dX6_goesOn_22 : decode cX6_goesOn 22 = .ok (.iinc 1 (-1), 3) := by decide +kernel
theorem dX6_goesOn_25 : decode cX6_goesOn 25 = .ok (.goto (-18), 3) := by decide +kernel
theorem dX6_goesOn_28 : decode cX6_goesOn 28 = .ok (.iload_n 1, 1) := by decide +kernel
theorem dX6_goesOn_29 : decode cX6_goesOn 29 = .ok (.ifCond .ge 5, 3) := by decide +kernel
theorem dX6_goesOn_32 : decode cX6_goesOn 32 = .ok (.iconst 0, 1) := by decide +kernel
theorem dX6_goesOn_33 : decode cX6_goesOn 33 = .ok (.ireturn, 1) := by decide +kernel
theorem dX6_goesOn_34 : decode cX6_goesOn 34 = .ok (.aload_n 0, 1) := by decide +kernel
theorem dX6_goesOn_35 : decode cX6_goesOn 35 = .ok (.getfield 58, 3) := by decide +kernel
theorem dX6_goesOn_38 : decode cX6_goesOn 38 = .ok (.iload_n 1, 1) := by decide +kernel
theorem dX6_goesOn_39 : decode cX6_goesOn 39 = .ok (.iaload, 1) := by decide +kernel
theorem dX6_goesOn_40 : decode cX6_goesOn 40 = .ok (.iconst 1, 1) := by decide +kernel
theorem dX6_goesOn_41 : decode cX6_goesOn 41 = .ok (.iadd, 1) := by decide +kernel
theorem dX6_goesOn_42 : decode cX6_goesOn 42 = .ok (.istore_n 2, 1) := by decide +kernel
theorem dX6_goesOn_43 : decode cX6_goesOn 43 = .ok (.iload_n 1, 1) := by decide +kernel
theorem dX6_goesOn_44 : decode cX6_goesOn 44 = .ok (.istore_n 3, 1) := by decide +kernel
theorem dX6_goesOn_45 : decode cX6_goesOn 45 = .ok (.iload_n 3, 1) := by decide +kernel
theorem dX6_goesOn_46 : decode cX6_goesOn 46 = .ok (.aload_n 0, 1) := by decide +kernel
theorem dX6_goesOn_47 : decode cX6_goesOn 47 = .ok (.getfield 130, 3) := by decide +kernel
theorem dX6_goesOn_50 : decode cX6_goesOn 50 = .ok (.if_icmp .ge 16, 3) := by decide +kernel
theorem dX6_goesOn_53 : decode cX6_goesOn 53 = .ok (.aload_n 0, 1) := by decide +kernel
theorem dX6_goesOn_54 : decode cX6_goesOn 54 = .ok (.getfield 58, 3) := by decide +kernel
theorem dX6_goesOn_57 : decode cX6_goesOn 57 = .ok (.iload_n 3, 1) := by decide +kernel
theorem dX6_goesOn_58 : decode cX6_goesOn 58 = .ok (.iload_n 2, 1) := by decide +kernel
theorem dX6_goesOn_59 : decode cX6_goesOn 59 = .ok (.iastore, 1) := by decide +kernel
theorem dX6_goesOn_60 : decode cX6_goesOn 60 = .ok (.iinc 3 1, 3) := by decide +kernel
theorem dX6_goesOn_63 : decode cX6_goesOn 63 = .ok (.goto (-18), 3) := by decide +kernel
theorem dX6_goesOn_66 : decode cX6_goesOn 66 = .ok (.iconst 1, 1) := by decide +kernel
theorem dX6_goesOn_67 : decode cX6_goesOn 67 = .ok (.ireturn, 1) := by decide +kernel
theorem dX6_find_0 : decode cX6_find 0 = .ok (.aload_n 0, 1) := by decide +kernel
theorem dX6_find_1 : decode cX6_find 1 = .ok (.iload_n 1, 1) := by decide +kernel
theorem dX6_find_2 : decode cX6_find 2 = .ok (.putfield 130, 3) := by decide +kernel
theorem dX6_find_5 : decode cX6_find 5 = .ok (.iconst 0, 1) := by decide +kernel
theorem dX6_find_6 : decode cX6_find 6 = .ok (.istore 4, 2) := by decide +kernel
theorem dX6_find_8 : decode cX6_find 8 = .ok (.iload 4, 2) := by decide +kernel
theorem dX6_find_10 : decode cX6_find 10 = .ok (.iload_n 1, 1) := by decide +kernel
theorem dX6_find_11 : decode cX6_find 11 = .ok (.if_icmp .ge 17, 3) := by decide +kernel
theorem dX6_find_14 : decode cX6_find 14 = .ok (.aload_n 0, 1) := by decide +kernel
theorem dX6_find_15 : decode cX6_find 15 = .ok (.getfield 58, 3) := by decide +kernel
theorem dX6_find_18 : decode cX6_find 18 = .ok (.iload 4, 2) := by decide +kernel
theorem dX6_find_20 : decode cX6_find 20 = .ok (.iconst 2, 1) := by decide +kernel
theorem dX6_find_21 : decode cX6_find 21 = .ok (.iastore, 1) := by decide +kernel
theorem dX6_find_22 : decode cX6_find 22 = .ok (.iinc 4 1, 3) := by decide +kernel
theorem dX6_find_25 : decode cX6_find 25 = .ok (.goto (-17), 3) := by decide +kernel
theorem dX6_find_28 : decode cX6_find 28 = .ok (.aload_n 0, 1) := by decide +kernel
theorem dX6_find_29 : decode cX6_find 29 = .ok (.iload_n 2, 1) := by decide +kernel
theorem dX6_find_30 : decode cX6_find 30 = .ok (.iload_n 3, 1) := by decide +kernel
theorem dX6_find_31 : decode cX6_find 31 = .ok (.invokevirtual 205, 3) := by decide +kernel
theorem dX6_find_34 : decode cX6_find 34 = .ok (.aload_n 0, 1) := by decide +kernel
theorem dX6_find_35 : decode cX6_find 35 = .ok (.invokevirtual 209, 3) := by decide +kernel
theorem dX6_find_38 : decode cX6_find 38 = .ok (.ifCond .eq 12, 3) := by decide +kernel
theorem dX6_find_41 : decode cX6_find 41 = .ok (.aload_n 0, 1) := by decide +kernel
theorem dX6_find_42 : decode cX6_find 42 = .ok (.iload_n 2, 1) := by decide +kernel
theorem dX6_find_43 : decode cX6_find 43 = .ok (.iload_n 3, 1) := by decide +kernel
theorem dX6_find_44 : decode cX6_find 44 = .ok (.invokevirtual 205, 3) := by decide +kernel
theorem dX6_find_47 : decode cX6_find 47 = .ok (.goto (-13), 3) := by decide +kernel
theorem dX6_find_50 : decode cX6_find 50 = .ok (.return_, 1) := by decide +kernel
theorem dX6_found_0 : decode cX6_found 0 = .ok (.iload_n 1, 1) := by decide +kernel
theorem dX6_found_1 : decode cX6_found 1 = .ok (.iconst 0, 1) := by decide +kernel
theorem dX6_found_2 : decode cX6_found 2 = .ok (.iconst 1, 1) := by decide +kernel
theorem dX6_found_3 : decode cX6_found 3 = .ok (.invokestatic 38, 3) := by decide +kernel
theorem dX6_found_6 : decode cX6_found 6 = .ok (.ifCond .eq 31, 3) := by decide +kernel
theorem dX6_found_9 : decode cX6_found 9 = .ok (.iload_n 2, 1) := by decide +kernel
theorem dX6_found_10 : decode cX6_found 10 = .ok (.iconst 0, 1) := by decide +kernel
theorem dX6_found_11 : decode cX6_found 11 = .ok (.iconst 4, 1) := by decide +kernel
theorem dX6_found_12 : decode cX6_found 12 = .ok (.invokestatic 38, 3) := by decide +kernel
theorem dX6_found_15 : decode cX6_found 15 = .ok (.ifCond .eq 22, 3) := by decide +kernel
theorem dX6_found_18 : decode cX6_found 18 = .ok (.iconst 2, 1) := by decide +kernel
theorem dX6_found_19 : decode cX6_found 19 = .ok (.iload_n 1, 1) := by decide +kernel
theorem dX6_found_20 : decode cX6_found 20 = .ok (.imul, 1) := by decide +kernel
theorem dX6_found_21 : decode cX6_found 21 = .ok (.iload_n 2, 1) := by decide +kernel
theorem dX6_found_22 : decode cX6_found 22 = .ok (.iadd, 1) := by decide +kernel
theorem dX6_found_23 : decode cX6_found 23 = .ok (.iconst 4, 1) := by decide +kernel
theorem dX6_found_24 : decode cX6_found 24 = .ok (.if_icmp .gt 13, 3) := by decide +kernel
theorem dX6_found_27 : decode cX6_found 27 = .ok (.iload_n 3, 1) := by decide +kernel
theorem dX6_found_28 : decode cX6_found 28 = .ok (.iconst 0, 1) := by decide +kernel
theorem dX6_found_29 : decode cX6_found 29 = .ok (.bipush 9, 2) := by decide +kernel
theorem dX6_found_31 : decode cX6_found 31 = .ok (.invokestatic 38, 3) := by decide +kernel
theorem dX6_found_34 : decode cX6_found 34 = .ok (.ifCond .ne 6, 3) := by decide +kernel
theorem dX6_found_37 : decode cX6_found 37 = .ok (.bipush (-2), 2) := by decide +kernel
theorem dX6_found_39 : decode cX6_found 39 = .ok (.ireturn, 1) := by decide +kernel
theorem dX6_found_40 : decode cX6_found 40 = .ok (.aload_n 0, 1) := by decide +kernel
theorem dX6_found_41 : decode cX6_found 41 = .ok (.getfield 133, 3) := by decide +kernel
theorem dX6_found_44 : decode cX6_found 44 = .ok (.istore 5, 2) := by decide +kernel
theorem dX6_found_46 : decode cX6_found 46 = .ok (.aload_n 0, 1) := by decide +kernel
theorem dX6_found_47 : decode cX6_found 47 = .ok (.getfield 130, 3) := by decide +kernel
theorem dX6_found_50 : decode cX6_found 50 = .ok (.istore 6, 2) := by decide +kernel
theorem dX6_found_52 : decode cX6_found 52 = .ok (.aload_n 0, 1) := by decide +kernel
theorem dX6_found_53 : decode cX6_found 53 = .ok (.getfield 58, 3) := by decide +kernel
theorem dX6_found_56 : decode cX6_found 56 = .ok (.iconst 0, 1) := by decide +kernel
theorem dX6_found_57 : decode cX6_found 57 = .ok (.iaload, 1) := by decide +kernel
theorem dX6_found_58 : decode cX6_found 58 = .ok (.istore 7, 2) := by decide +kernel
theorem dX6_found_60 : decode cX6_found 60 = .ok (.aload_n 0, 1) := by decide +kernel
theorem dX6_found_61 : decode cX6_found 61 = .ok (.getfield 58, 3) := by decide +kernel
theorem dX6_found_64 : decode cX6_found 64 = .ok (.iconst 1, 1) := by decide +kernel
theorem dX6_found_65 : decode cX6_found 65 = .ok (.iaload, 1) := by decide +kernel
theorem dX6_found_66 : decode cX6_found 66 = .ok (.istore 8, 2) := by decide +kernel
theorem dX6_found_68 : decode cX6_found 68 = .ok (.aload_n 0, 1) := by decide +kernel
theorem dX6_found_69 : decode cX6_found 69 = .ok (.getfield 58, 3) := by decide +kernel
theorem dX6_found_72 : decode cX6_found 72 = .ok (.iconst 2, 1) := by decide +kernel
theorem dX6_found_73 : decode cX6_found 73 = .ok (.iaload, 1) := by decide +kernel
theorem dX6_found_74 : decode cX6_found 74 = .ok (.istore 9, 2) := by decide +kernel
theorem dX6_found_76 : decode cX6_found 76 = .ok (.aload_n 0, 1) := by decide +kernel
theorem dX6_found_77 : decode cX6_found 77 = .ok (.getfield 58, 3) := by decide +kernel
theorem dX6_found_80 : decode cX6_found 80 = .ok (.iconst 3, 1) := by decide +kernel
theorem dX6_found_81 : decode cX6_found 81 = .ok (.iaload, 1) := by decide +kernel
theorem dX6_found_82 : decode cX6_found 82 = .ok (.istore 10, 2) := by decide +kernel
theorem dX6_found_84 : decode cX6_found 84 = .ok (.aload_n 0, 1) := by decide +kernel
theorem dX6_found_85 : decode cX6_found 85 = .ok (.iload_n 1, 1) := by decide +kernel
theorem dX6_found_86 : decode cX6_found 86 = .ok (.putfield 133, 3) := by decide +kernel
theorem dX6_found_89 : decode cX6_found 89 = .ok (.aload_n 0, 1) := by decide +kernel
theorem dX6_found_90 : decode cX6_found 90 = .ok (.iconst 0, 1) := by decide +kernel
theorem dX6_found_91 : decode cX6_found 91 = .ok (.putfield 199, 3) := by decide +kernel
theorem dX6_found_94 : decode cX6_found 94 = .ok (.aload_n 0, 1) := by decide +kernel
theorem dX6_found_95 : decode cX6_found 95 = .ok (.iconst (-1), 1) := by decide +kernel
theorem dX6_found_96 : decode cX6_found 96 = .ok (.putfield 202, 3) := by decide +kernel
theorem dX6_found_99 : decode cX6_found 99 = .ok (.aload_n 0, 1) := by decide +kernel
theorem dX6_found_100 : decode cX6_found 100 = .ok (.iload_n 2, 1) := by decide +kernel
theorem dX6_found_101 : decode cX6_found 101 = .ok (.iload_n 3, 1) := by decide +kernel
theorem dX6_found_102 : decode cX6_found 102 = .ok (.iload 4, 2) := by decide +kernel
theorem dX6_found_104 : decode cX6_found 104 = .ok (.invokevirtual 212, 3) := by decide +kernel
theorem dX6_found_107 : decode cX6_found 107 = .ok (.aload_n 0, 1) := by decide +kernel
theorem dX6_found_108 : decode cX6_found 108 = .ok (.iload 5, 2) := by decide +kernel
theorem dX6_found_110 : decode cX6_found 110 = .ok (.putfield 133, 3) := by decide +kernel
theorem dX6_found_113 : decode cX6_found 113 = .ok (.aload_n 0, 1) := by decide +kernel
theorem dX6_found_114 : decode cX6_found 114 = .ok (.iload 6, 2) := by decide +kernel
theorem dX6_found_116 : decode cX6_found 116 = .ok (.putfield 130, 3) := by decide +kernel
theorem dX6_found_119 : decode cX6_found 119 = .ok (.aload_n 0, 1) := by decide +kernel
theorem dX6_found_120 : decode cX6_found 120 = .ok (.getfield 58, 3) := by decide +kernel
theorem dX6_found_123 : decode cX6_found 123 = .ok (.iconst 0, 1) := by decide +kernel
theorem dX6_found_124 : decode cX6_found 124 = .ok (.iload 7, 2) := by decide +kernel
theorem dX6_found_126 : decode cX6_found 126 = .ok (.iastore, 1) := by decide +kernel
theorem dX6_found_127 : decode cX6_found 127 = .ok (.aload_n 0, 1) := by decide +kernel
theorem dX6_found_128 : decode cX6_found 128 = .ok (.getfield 58, 3) := by decide +kernel
theorem dX6_found_131 : decode cX6_found 131 = .ok (.iconst 1, 1) := by decide +kernel
theorem dX6_found_132 : decode cX6_found 132 = .ok (.iload 8, 2) := by decide +kernel
theorem dX6_found_134 : decode cX6_found 134 = .ok (.iastore, 1) := by decide +kernel
theorem dX6_found_135 : decode cX6_found 135 = .ok (.aload_n 0, 1) := by decide +kernel
theorem dX6_found_136 : decode cX6_found 136 = .ok (.getfield 58, 3) := by decide +kernel
theorem dX6_found_139 : decode cX6_found 139 = .ok (.iconst 2, 1) := by decide +kernel
theorem dX6_found_140 : decode cX6_found 140 = .ok (.iload 9, 2) := by decide +kernel
theorem dX6_found_142 : decode cX6_found 142 = .ok (.iastore, 1) := by decide +kernel
theorem dX6_found_143 : decode cX6_found 143 = .ok (.aload_n 0, 1) := by decide +kernel
theorem dX6_found_144 : decode cX6_found 144 = .ok (.getfield 58, 3) := by decide +kernel
theorem dX6_found_147 : decode cX6_found 147 = .ok (.iconst 3, 1) := by decide +kernel
theorem dX6_found_148 : decode cX6_found 148 = .ok (.iload 10, 2) := by decide +kernel
theorem dX6_found_150 : decode cX6_found 150 = .ok (.iastore, 1) := by decide +kernel
theorem dX6_found_151 : decode cX6_found 151 = .ok (.iload 4, 2) := by decide +kernel
theorem dX6_found_153 : decode cX6_found 153 = .ok (.iconst (-1), 1) := by decide +kernel
theorem dX6_found_154 : decode cX6_found 154 = .ok (.if_icmp .ne 10, 3) := by decide +kernel
theorem dX6_found_157 : decode cX6_found 157 = .ok (.aload_n 0, 1) := by decide +kernel
theorem dX6_found_158 : decode cX6_found 158 = .ok (.getfield 199, 3) := by decide +kernel
theorem dX6_found_161 : decode cX6_found 161 = .ok (.goto 7, 3) := by decide +kernel
theorem dX6_found_164 : decode cX6_found 164 = .ok (.aload_n 0, 1) := by decide +kernel
theorem dX6_found_165 : decode cX6_found 165 = .ok (.getfield 202, 3) := by decide +kernel
theorem dX6_found_168 : decode cX6_found 168 = .ok (.ireturn, 1) := by decide +kernel
theorem dX6_shelvesMany_0 : decode cX6_shelvesMany 0 = .ok (.iconst 0, 1) := by decide +kernel
theorem dX6_shelvesMany_1 : decode cX6_shelvesMany 1 = .ok (.istore_n 1, 1) := by decide +kernel
theorem dX6_shelvesMany_2 : decode cX6_shelvesMany 2 = .ok (.iconst 0, 1) := by decide +kernel
theorem dX6_shelvesMany_3 : decode cX6_shelvesMany 3 = .ok (.istore_n 2, 1) := by decide +kernel
theorem dX6_shelvesMany_4 : decode cX6_shelvesMany 4 = .ok (.iload_n 2, 1) := by decide +kernel
theorem dX6_shelvesMany_5 : decode cX6_shelvesMany 5 = .ok (.iconst 4, 1) := by decide +kernel
theorem dX6_shelvesMany_6 : decode cX6_shelvesMany 6 = .ok (.if_icmp .ge 26, 3) := by decide +kernel
theorem dX6_shelvesMany_9 : decode cX6_shelvesMany 9 = .ok (.iload_n 1, 1) := by decide +kernel
theorem dX6_shelvesMany_10 : decode cX6_shelvesMany 10 = .ok (.aload_n 0, 1) := by decide +kernel
theorem dX6_shelvesMany_11 : decode cX6_shelvesMany 11 = .ok (.getfield 76, 3) := by decide +kernel
theorem dX6_shelvesMany_14 : decode cX6_shelvesMany 14 = .ok (.iload_n 2, 1) := by decide +kernel
theorem dX6_shelvesMany_15 : decode cX6_shelvesMany 15 = .ok (.iaload, 1) := by decide +kernel
theorem dX6_shelvesMany_16 : decode cX6_shelvesMany 16 = .ok (.ifCond .lt 7, 3) := by decide +kernel
theorem dX6_shelvesMany_19 : decode cX6_shelvesMany 19 = .ok (.iconst 1, 1) := by decide +kernel
theorem dX6_shelvesMany_20 : decode cX6_shelvesMany 20 = .ok (.goto 4, 3) := by decide +kernel
theorem dX6_shelvesMany_23 : decode cX6_shelvesMany 23 = .ok (.iconst 0, 1) := by decide +kernel
theorem dX6_shelvesMany_24 : decode cX6_shelvesMany 24 = .ok (.iadd, 1) := by decide +kernel
theorem dX6_shelvesMany_25 : decode cX6_shelvesMany 25 = .ok (.istore_n 1, 1) := by decide +kernel
theorem dX6_shelvesMany_26 : decode cX6_shelvesMany 26 = .ok (.iinc 2 1, 3) := by decide +kernel
theorem dX6_shelvesMany_29 : decode cX6_shelvesMany 29 = .ok (.goto (-25), 3) := by decide +kernel
theorem dX6_shelvesMany_32 : decode cX6_shelvesMany 32 = .ok (.iload_n 1, 1) := by decide +kernel
theorem dX6_shelvesMany_33 : decode cX6_shelvesMany 33 = .ok (.ireturn, 1) := by decide +kernel
theorem dX6_keep_0 : decode cX6_keep 0 = .ok (.iload_n 1, 1) := by decide +kernel
theorem dX6_keep_1 : decode cX6_keep 1 = .ok (.iconst 0, 1) := by decide +kernel
theorem dX6_keep_2 : decode cX6_keep 2 = .ok (.iconst 3, 1) := by decide +kernel
theorem dX6_keep_3 : decode cX6_keep 3 = .ok (.invokestatic 38, 3) := by decide +kernel
theorem dX6_keep_6 : decode cX6_keep 6 = .ok (.ifCond .ne 6, 3) := by decide +kernel
theorem dX6_keep_9 : decode cX6_keep 9 = .ok (.bipush (-2), 2) := by decide +kernel
theorem dX6_keep_11 : decode cX6_keep 11 = .ok (.ireturn, 1) := by decide +kernel
theorem dX6_keep_12 : decode cX6_keep 12 = .ok (.aload_n 0, 1) := by decide +kernel
theorem dX6_keep_13 : decode cX6_keep 13 = .ok (.getfield 76, 3) := by decide +kernel
theorem dX6_keep_16 : decode cX6_keep 16 = .ok (.iload_n 1, 1) := by decide +kernel
theorem dX6_keep_17 : decode cX6_keep 17 = .ok (.aload_n 0, 1) := by decide +kernel
theorem dX6_keep_18 : decode cX6_keep 18 = .ok (.getfield 7, 3) := by decide +kernel
theorem dX6_keep_21 : decode cX6_keep 21 = .ok (.iastore, 1) := by decide +kernel
theorem dX6_keep_22 : decode cX6_keep 22 = .ok (.aload_n 0, 1) := by decide +kernel
theorem dX6_keep_23 : decode cX6_keep 23 = .ok (.getfield 79, 3) := by decide +kernel
theorem dX6_keep_26 : decode cX6_keep 26 = .ok (.iload_n 1, 1) := by decide +kernel
theorem dX6_keep_27 : decode cX6_keep 27 = .ok (.aload_n 0, 1) := by decide +kernel
theorem dX6_keep_28 : decode cX6_keep 28 = .ok (.getfield 1, 3) := by decide +kernel
theorem dX6_keep_31 : decode cX6_keep 31 = .ok (.iastore, 1) := by decide +kernel
theorem dX6_keep_32 : decode cX6_keep 32 = .ok (.aload_n 0, 1) := by decide +kernel
theorem dX6_keep_33 : decode cX6_keep 33 = .ok (.getfield 82, 3) := by decide +kernel
theorem dX6_keep_36 : decode cX6_keep 36 = .ok (.iload_n 1, 1) := by decide +kernel
theorem dX6_keep_37 : decode cX6_keep 37 = .ok (.aload_n 0, 1) := by decide +kernel
theorem dX6_keep_38 : decode cX6_keep 38 = .ok (.getfield 133, 3) := by decide +kernel
theorem dX6_keep_41 : decode cX6_keep 41 = .ok (.iastore, 1) := by decide +kernel
theorem dX6_keep_42 : decode cX6_keep 42 = .ok (.aload_n 0, 1) := by decide +kernel
theorem dX6_keep_43 : decode cX6_keep 43 = .ok (.getfield 85, 3) := by decide +kernel
theorem dX6_keep_46 : decode cX6_keep 46 = .ok (.iload_n 1, 1) := by decide +kernel
theorem dX6_keep_47 : decode cX6_keep 47 = .ok (.aload_n 0, 1) := by decide +kernel
theorem dX6_keep_48 : decode cX6_keep 48 = .ok (.getfield 130, 3) := by decide +kernel
theorem dX6_keep_51 : decode cX6_keep 51 = .ok (.iastore, 1) := by decide +kernel
theorem dX6_keep_52 : decode cX6_keep 52 = .ok (.iconst 0, 1) := by decide +kernel
theorem dX6_keep_53 : decode cX6_keep 53 = .ok (.istore_n 2, 1) := by decide +kernel
theorem dX6_keep_54 : decode cX6_keep 54 = .ok (.iload_n 2, 1) := by decide +kernel
theorem dX6_keep_55 : decode cX6_keep 55 = .ok (.aload_n 0, 1) := by decide +kernel
theorem dX6_keep_56 : decode cX6_keep 56 = .ok (.getfield 130, 3) := by decide +kernel
theorem dX6_keep_59 : decode cX6_keep 59 = .ok (.if_icmp .ge 25, 3) := by decide +kernel
theorem dX6_keep_62 : decode cX6_keep 62 = .ok (.aload_n 0, 1) := by decide +kernel
theorem dX6_keep_63 : decode cX6_keep 63 = .ok (.getfield 88, 3) := by decide +kernel
theorem dX6_keep_66 : decode cX6_keep 66 = .ok (.iconst 4, 1) := by decide +kernel
theorem dX6_keep_67 : decode cX6_keep 67 = .ok (.iload_n 1, 1) := by decide +kernel
theorem dX6_keep_68 : decode cX6_keep 68 = .ok (.imul, 1) := by decide +kernel
theorem dX6_keep_69 : decode cX6_keep 69 = .ok (.iload_n 2, 1) := by decide +kernel
theorem dX6_keep_70 : decode cX6_keep 70 = .ok (.iadd, 1) := by decide +kernel
theorem dX6_keep_71 : decode cX6_keep 71 = .ok (.aload_n 0, 1) := by decide +kernel
theorem dX6_keep_72 : decode cX6_keep 72 = .ok (.getfield 58, 3) := by decide +kernel
theorem dX6_keep_75 : decode cX6_keep 75 = .ok (.iload_n 2, 1) := by decide +kernel
theorem dX6_keep_76 : decode cX6_keep 76 = .ok (.iaload, 1) := by decide +kernel
theorem dX6_keep_77 : decode cX6_keep 77 = .ok (.iastore, 1) := by decide +kernel
theorem dX6_keep_78 : decode cX6_keep 78 = .ok (.iinc 2 1, 3) := by decide +kernel
theorem dX6_keep_81 : decode cX6_keep 81 = .ok (.goto (-27), 3) := by decide +kernel
theorem dX6_keep_84 : decode cX6_keep 84 = .ok (.aload_n 0, 1) := by decide +kernel
theorem dX6_keep_85 : decode cX6_keep 85 = .ok (.invokevirtual 216, 3) := by decide +kernel
theorem dX6_keep_88 : decode cX6_keep 88 = .ok (.ireturn, 1) := by decide +kernel
theorem dX6_use_0 : decode cX6_use 0 = .ok (.iload_n 1, 1) := by decide +kernel
theorem dX6_use_1 : decode cX6_use 1 = .ok (.iconst 0, 1) := by decide +kernel
theorem dX6_use_2 : decode cX6_use 2 = .ok (.iconst 3, 1) := by decide +kernel
theorem dX6_use_3 : decode cX6_use 3 = .ok (.invokestatic 38, 3) := by decide +kernel
theorem dX6_use_6 : decode cX6_use 6 = .ok (.ifCond .ne 6, 3) := by decide +kernel
theorem dX6_use_9 : decode cX6_use 9 = .ok (.bipush (-2), 2) := by decide +kernel
theorem dX6_use_11 : decode cX6_use 11 = .ok (.ireturn, 1) := by decide +kernel
theorem dX6_use_12 : decode cX6_use 12 = .ok (.aload_n 0, 1) := by decide +kernel
theorem dX6_use_13 : decode cX6_use 13 = .ok (.getfield 76, 3) := by decide +kernel
theorem dX6_use_16 : decode cX6_use 16 = .ok (.iload_n 1, 1) := by decide +kernel
theorem dX6_use_17 : decode cX6_use 17 = .ok (.iaload, 1) := by decide +kernel
theorem dX6_use_18 : decode cX6_use 18 = .ok (.ifCond .ge 6, 3) := by decide +kernel
theorem dX6_use_21 : decode cX6_use 21 = .ok (.bipush (-3), 2) := by decide +kernel
theorem dX6_use_23 : decode cX6_use 23 = .ok (.ireturn, 1) := by decide +kernel
theorem dX6_use_24 : decode cX6_use 24 = .ok (.aload_n 0, 1) := by decide +kernel
theorem dX6_use_25 : decode cX6_use 25 = .ok (.aload_n 0, 1) := by decide +kernel
theorem dX6_use_26 : decode cX6_use 26 = .ok (.getfield 76, 3) := by decide +kernel
theorem dX6_use_29 : decode cX6_use 29 = .ok (.iload_n 1, 1) := by decide +kernel
theorem dX6_use_30 : decode cX6_use 30 = .ok (.iaload, 1) := by decide +kernel
theorem dX6_use_31 : decode cX6_use 31 = .ok (.putfield 7, 3) := by decide +kernel
theorem dX6_use_34 : decode cX6_use 34 = .ok (.aload_n 0, 1) := by decide +kernel
theorem dX6_use_35 : decode cX6_use 35 = .ok (.aload_n 0, 1) := by decide +kernel
theorem dX6_use_36 : decode cX6_use 36 = .ok (.getfield 79, 3) := by decide +kernel
theorem dX6_use_39 : decode cX6_use 39 = .ok (.iload_n 1, 1) := by decide +kernel
theorem dX6_use_40 : decode cX6_use 40 = .ok (.iaload, 1) := by decide +kernel
theorem dX6_use_41 : decode cX6_use 41 = .ok (.putfield 1, 3) := by decide +kernel
theorem dX6_use_44 : decode cX6_use 44 = .ok (.aload_n 0, 1) := by decide +kernel
theorem dX6_use_45 : decode cX6_use 45 = .ok (.aload_n 0, 1) := by decide +kernel
theorem dX6_use_46 : decode cX6_use 46 = .ok (.getfield 82, 3) := by decide +kernel
theorem dX6_use_49 : decode cX6_use 49 = .ok (.iload_n 1, 1) := by decide +kernel
theorem dX6_use_50 : decode cX6_use 50 = .ok (.iaload, 1) := by decide +kernel
theorem dX6_use_51 : decode cX6_use 51 = .ok (.putfield 133, 3) := by decide +kernel
theorem dX6_use_54 : decode cX6_use 54 = .ok (.aload_n 0, 1) := by decide +kernel
theorem dX6_use_55 : decode cX6_use 55 = .ok (.aload_n 0, 1) := by decide +kernel
theorem dX6_use_56 : decode cX6_use 56 = .ok (.getfield 85, 3) := by decide +kernel
theorem dX6_use_59 : decode cX6_use 59 = .ok (.iload_n 1, 1) := by decide +kernel
theorem dX6_use_60 : decode cX6_use 60 = .ok (.iaload, 1) := by decide +kernel
theorem dX6_use_61 : decode cX6_use 61 = .ok (.putfield 130, 3) := by decide +kernel
theorem dX6_use_64 : decode cX6_use 64 = .ok (.iconst 0, 1) := by decide +kernel
theorem dX6_use_65 : decode cX6_use 65 = .ok (.istore_n 2, 1) := by decide +kernel
theorem dX6_use_66 : decode cX6_use 66 = .ok (.iload_n 2, 1) := by decide +kernel
theorem dX6_use_67 : decode cX6_use 67 = .ok (.aload_n 0, 1) := by decide +kernel
theorem dX6_use_68 : decode cX6_use 68 = .ok (.getfield 130, 3) := by decide +kernel
theorem dX6_use_71 : decode cX6_use 71 = .ok (.if_icmp .ge 25, 3) := by decide +kernel
theorem dX6_use_74 : decode cX6_use 74 = .ok (.aload_n 0, 1) := by decide +kernel
theorem dX6_use_75 : decode cX6_use 75 = .ok (.getfield 58, 3) := by decide +kernel
theorem dX6_use_78 : decode cX6_use 78 = .ok (.iload_n 2, 1) := by decide +kernel
theorem dX6_use_79 : decode cX6_use 79 = .ok (.aload_n 0, 1) := by decide +kernel
theorem dX6_use_80 : decode cX6_use 80 = .ok (.getfield 88, 3) := by decide +kernel
theorem dX6_use_83 : decode cX6_use 83 = .ok (.iconst 4, 1) := by decide +kernel
theorem dX6_use_84 : decode cX6_use 84 = .ok (.iload_n 1, 1) := by decide +kernel
theorem dX6_use_85 : decode cX6_use 85 = .ok (.imul, 1) := by decide +kernel
theorem dX6_use_86 : decode cX6_use 86 = .ok (.iload_n 2, 1) := by decide +kernel
theorem dX6_use_87 : decode cX6_use 87 = .ok (.iadd, 1) := by decide +kernel
theorem dX6_use_88 : decode cX6_use 88 = .ok (.iaload, 1) := by decide +kernel
theorem dX6_use_89 : decode cX6_use 89 = .ok (.iastore, 1) := by decide +kernel
theorem dX6_use_90 : decode cX6_use 90 = .ok (.iinc 2 1, 3) := by decide +kernel
theorem dX6_use_93 : decode cX6_use 93 = .ok (.goto (-27), 3) := by decide +kernel
theorem dX6_use_96 : decode cX6_use 96 = .ok (.aload_n 0, 1) := by decide +kernel
theorem dX6_use_97 : decode cX6_use 97 = .ok (.invokevirtual 112, 3) := by decide +kernel
theorem dX6_use_100 : decode cX6_use 100 = .ok (.aload_n 0, 1) := by decide +kernel
theorem dX6_use_101 : decode cX6_use 101 = .ok (.getfield 14, 3) := by decide +kernel
theorem dX6_use_104 : decode cX6_use 104 = .ok (.ireturn, 1) := by decide +kernel
theorem dX6_empty_0 : decode cX6_empty 0 = .ok (.iload_n 1, 1) := by decide +kernel
theorem dX6_empty_1 : decode cX6_empty 1 = .ok (.iconst 0, 1) := by decide +kernel
theorem dX6_empty_2 : decode cX6_empty 2 = .ok (.iconst 3, 1) := by decide +kernel
theorem dX6_empty_3 : decode cX6_empty 3 = .ok (.invokestatic 38, 3) := by decide +kernel
theorem dX6_empty_6 : decode cX6_empty 6 = .ok (.ifCond .ne 6, 3) := by decide +kernel
theorem dX6_empty_9 : decode cX6_empty 9 = .ok (.bipush (-2), 2) := by decide +kernel
theorem dX6_empty_11 : decode cX6_empty 11 = .ok (.ireturn, 1) := by decide +kernel
theorem dX6_empty_12 : decode cX6_empty 12 = .ok (.aload_n 0, 1) := by decide +kernel
theorem dX6_empty_13 : decode cX6_empty 13 = .ok (.getfield 76, 3) := by decide +kernel
theorem dX6_empty_16 : decode cX6_empty 16 = .ok (.iload_n 1, 1) := by decide +kernel
theorem dX6_empty_17 : decode cX6_empty 17 = .ok (.iaload, 1) := by decide +kernel
theorem dX6_empty_18 : decode cX6_empty 18 = .ok (.ifCond .lt 7, 3) := by decide +kernel
theorem dX6_empty_21 : decode cX6_empty 21 = .ok (.iconst 1, 1) := by decide +kernel
theorem dX6_empty_22 : decode cX6_empty 22 = .ok (.goto 4, 3) := by decide +kernel
theorem dX6_empty_25 : decode cX6_empty 25 = .ok (.iconst 0, 1) := by decide +kernel
theorem dX6_empty_26 : decode cX6_empty 26 = .ok (.istore_n 2, 1) := by decide +kernel
theorem dX6_empty_27 : decode cX6_empty 27 = .ok (.aload_n 0, 1) := by decide +kernel
theorem dX6_empty_28 : decode cX6_empty 28 = .ok (.getfield 76, 3) := by decide +kernel
theorem dX6_empty_31 : decode cX6_empty 31 = .ok (.iload_n 1, 1) := by decide +kernel
theorem dX6_empty_32 : decode cX6_empty 32 = .ok (.iconst (-1), 1) := by decide +kernel
theorem dX6_empty_33 : decode cX6_empty 33 = .ok (.iastore, 1) := by decide +kernel
theorem dX6_empty_34 : decode cX6_empty 34 = .ok (.iload_n 2, 1) := by decide +kernel
theorem dX6_empty_35 : decode cX6_empty 35 = .ok (.ireturn, 1) := by decide +kernel
theorem dX6_areLike_0 : decode cX6_areLike 0 = .ok (.aload_n 0, 1) := by decide +kernel
theorem dX6_areLike_1 : decode cX6_areLike 1 = .ok (.getfield 76, 3) := by decide +kernel
theorem dX6_areLike_4 : decode cX6_areLike 4 = .ok (.iload_n 1, 1) := by decide +kernel
theorem dX6_areLike_5 : decode cX6_areLike 5 = .ok (.iaload, 1) := by decide +kernel
theorem dX6_areLike_6 : decode cX6_areLike 6 = .ok (.aload_n 0, 1) := by decide +kernel
theorem dX6_areLike_7 : decode cX6_areLike 7 = .ok (.getfield 76, 3) := by decide +kernel
theorem dX6_areLike_10 : decode cX6_areLike 10 = .ok (.iload_n 2, 1) := by decide +kernel
theorem dX6_areLike_11 : decode cX6_areLike 11 = .ok (.iaload, 1) := by decide +kernel
theorem dX6_areLike_12 : decode cX6_areLike 12 = .ok (.if_icmp .ne 52, 3) := by decide +kernel
theorem dX6_areLike_15 : decode cX6_areLike 15 = .ok (.aload_n 0, 1) := by decide +kernel
theorem dX6_areLike_16 : decode cX6_areLike 16 = .ok (.getfield 79, 3) := by decide +kernel
theorem dX6_areLike_19 : decode cX6_areLike 19 = .ok (.iload_n 1, 1) := by decide +kernel
theorem dX6_areLike_20 : decode cX6_areLike 20 = .ok (.iaload, 1) := by decide +kernel
theorem dX6_areLike_21 : decode cX6_areLike 21 = .ok (.aload_n 0, 1) := by decide +kernel
theorem dX6_areLike_22 : decode cX6_areLike 22 = .ok (.getfield 79, 3) := by decide +kernel
theorem dX6_areLike_25 : decode cX6_areLike 25 = .ok (.iload_n 2, 1) := by decide +kernel
theorem dX6_areLike_26 : decode cX6_areLike 26 = .ok (.iaload, 1) := by decide +kernel
theorem dX6_areLike_27 : decode cX6_areLike 27 = .ok (.if_icmp .ne 37, 3) := by decide +kernel
theorem dX6_areLike_30 : decode cX6_areLike 30 = .ok (.aload_n 0, 1) := by decide +kernel
theorem dX6_areLike_31 : decode cX6_areLike 31 = .ok (.getfield 82, 3) := by decide +kernel
theorem dX6_areLike_34 : decode cX6_areLike 34 = .ok (.iload_n 1, 1) := by decide +kernel
theorem dX6_areLike_35 : decode cX6_areLike 35 = .ok (.iaload, 1) := by decide +kernel
theorem dX6_areLike_36 : decode cX6_areLike 36 = .ok (.aload_n 0, 1) := by decide +kernel
theorem dX6_areLike_37 : decode cX6_areLike 37 = .ok (.getfield 82, 3) := by decide +kernel
theorem dX6_areLike_40 : decode cX6_areLike 40 = .ok (.iload_n 2, 1) := by decide +kernel
theorem dX6_areLike_41 : decode cX6_areLike 41 = .ok (.iaload, 1) := by decide +kernel
theorem dX6_areLike_42 : decode cX6_areLike 42 = .ok (.if_icmp .ne 22, 3) := by decide +kernel
theorem dX6_areLike_45 : decode cX6_areLike 45 = .ok (.aload_n 0, 1) := by decide +kernel
theorem dX6_areLike_46 : decode cX6_areLike 46 = .ok (.getfield 85, 3) := by decide +kernel
theorem dX6_areLike_49 : decode cX6_areLike 49 = .ok (.iload_n 1, 1) := by decide +kernel
theorem dX6_areLike_50 : decode cX6_areLike 50 = .ok (.iaload, 1) := by decide +kernel
theorem dX6_areLike_51 : decode cX6_areLike 51 = .ok (.aload_n 0, 1) := by decide +kernel
theorem dX6_areLike_52 : decode cX6_areLike 52 = .ok (.getfield 85, 3) := by decide +kernel
theorem dX6_areLike_55 : decode cX6_areLike 55 = .ok (.iload_n 2, 1) := by decide +kernel
theorem dX6_areLike_56 : decode cX6_areLike 56 = .ok (.iaload, 1) := by decide +kernel
theorem dX6_areLike_57 : decode cX6_areLike 57 = .ok (.if_icmp .ne 7, 3) := by decide +kernel
theorem dX6_areLike_60 : decode cX6_areLike 60 = .ok (.iconst 1, 1) := by decide +kernel
theorem dX6_areLike_61 : decode cX6_areLike 61 = .ok (.goto 4, 3) := by decide +kernel
theorem dX6_areLike_64 : decode cX6_areLike 64 = .ok (.iconst 0, 1) := by decide +kernel
theorem dX6_areLike_65 : decode cX6_areLike 65 = .ok (.istore_n 3, 1) := by decide +kernel
theorem dX6_areLike_66 : decode cX6_areLike 66 = .ok (.iconst 0, 1) := by decide +kernel
theorem dX6_areLike_67 : decode cX6_areLike 67 = .ok (.istore 4, 2) := by decide +kernel
theorem dX6_areLike_69 : decode cX6_areLike 69 = .ok (.iload 4, 2) := by decide +kernel
theorem dX6_areLike_71 : decode cX6_areLike 71 = .ok (.aload_n 0, 1) := by decide +kernel
theorem dX6_areLike_72 : decode cX6_areLike 72 = .ok (.getfield 85, 3) := by decide +kernel
theorem dX6_areLike_75 : decode cX6_areLike 75 = .ok (.iload_n 1, 1) := by decide +kernel
theorem dX6_areLike_76 : decode cX6_areLike 76 = .ok (.iaload, 1) := by decide +kernel
theorem dX6_areLike_77 : decode cX6_areLike 77 = .ok (.if_icmp .ge 44, 3) := by decide +kernel
theorem dX6_areLike_80 : decode cX6_areLike 80 = .ok (.iload_n 3, 1) := by decide +kernel
theorem dX6_areLike_81 : decode cX6_areLike 81 = .ok (.ifCond .eq 40, 3) := by decide +kernel
theorem dX6_areLike_84 : decode cX6_areLike 84 = .ok (.aload_n 0, 1) := by decide +kernel
theorem dX6_areLike_85 : decode cX6_areLike 85 = .ok (.getfield 88, 3) := by decide +kernel
theorem dX6_areLike_88 : decode cX6_areLike 88 = .ok (.iconst 4, 1) := by decide +kernel
theorem dX6_areLike_89 : decode cX6_areLike 89 = .ok (.iload_n 1, 1) := by decide +kernel
theorem dX6_areLike_90 : decode cX6_areLike 90 = .ok (.imul, 1) := by decide +kernel
theorem dX6_areLike_91 : decode cX6_areLike 91 = .ok (.iload 4, 2) := by decide +kernel
theorem dX6_areLike_93 : decode cX6_areLike 93 = .ok (.iadd, 1) := by decide +kernel
theorem dX6_areLike_94 : decode cX6_areLike 94 = .ok (.iaload, 1) := by decide +kernel
theorem dX6_areLike_95 : decode cX6_areLike 95 = .ok (.aload_n 0, 1) := by decide +kernel
theorem dX6_areLike_96 : decode cX6_areLike 96 = .ok (.getfield 88, 3) := by decide +kernel
theorem dX6_areLike_99 : decode cX6_areLike 99 = .ok (.iconst 4, 1) := by decide +kernel
theorem dX6_areLike_100 : decode cX6_areLike 100 = .ok (.iload_n 2, 1) := by decide +kernel
theorem dX6_areLike_101 : decode cX6_areLike 101 = .ok (.imul, 1) := by decide +kernel
theorem dX6_areLike_102 : decode cX6_areLike 102 = .ok (.iload 4, 2) := by decide +kernel
theorem dX6_areLike_104 : decode cX6_areLike 104 = .ok (.iadd, 1) := by decide +kernel
theorem dX6_areLike_105 : decode cX6_areLike 105 = .ok (.iaload, 1) := by decide +kernel
theorem dX6_areLike_106 : decode cX6_areLike 106 = .ok (.if_icmp .ne 7, 3) := by decide +kernel
theorem dX6_areLike_109 : decode cX6_areLike 109 = .ok (.iconst 1, 1) := by decide +kernel
theorem dX6_areLike_110 : decode cX6_areLike 110 = .ok (.goto 4, 3) := by decide +kernel
theorem dX6_areLike_113 : decode cX6_areLike 113 = .ok (.iconst 0, 1) := by decide +kernel
theorem dX6_areLike_114 : decode cX6_areLike 114 = .ok (.istore_n 3, 1) := by decide +kernel
theorem dX6_areLike_115 : decode cX6_areLike 115 = .ok (.iinc 4 1, 3) := by decide +kernel
theorem dX6_areLike_118 : decode cX6_areLike 118 = .ok (.goto (-49), 3) := by decide +kernel
theorem dX6_areLike_121 : decode cX6_areLike 121 = .ok (.iload_n 3, 1) := by decide +kernel
theorem dX6_areLike_122 : decode cX6_areLike 122 = .ok (.ireturn, 1) := by decide +kernel
theorem dX6_firstLike_0 : decode cX6_firstLike 0 = .ok (.iconst 0, 1) := by decide +kernel
theorem dX6_firstLike_1 : decode cX6_firstLike 1 = .ok (.istore_n 2, 1) := by decide +kernel
theorem dX6_firstLike_2 : decode cX6_firstLike 2 = .ok (.aload_n 0, 1) := by decide +kernel
theorem dX6_firstLike_3 : decode cX6_firstLike 3 = .ok (.getfield 76, 3) := by decide +kernel
theorem dX6_firstLike_6 : decode cX6_firstLike 6 = .ok (.iload_n 2, 1) := by decide +kernel
theorem dX6_firstLike_7 : decode cX6_firstLike 7 = .ok (.iaload, 1) := by decide +kernel
theorem dX6_firstLike_8 : decode cX6_firstLike 8 = .ok (.ifCond .lt 12, 3) := by decide +kernel
theorem dX6_firstLike_11 : decode cX6_firstLike 11 = .ok (.aload_n 0, 1) := by decide +kernel
theorem dX6_firstLike_12 : decode cX6_firstLike 12 = .ok (.iload_n 2, 1) := by decide +kernel
theorem dX6_firstLike_13 : decode cX6_firstLike 13 = .ok (.iload_n 1, 1) := by decide +kernel
theorem dX6_firstLike_14 : decode cX6_firstLike 14 = .ok (.invokevirtual 219, 3) := by decide +kernel
theorem dX6_firstLike_17 : decode cX6_firstLike 17 = .ok (.ifCond .ne 9, 3) := by decide +kernel
theorem dX6_firstLike_20 : decode cX6_firstLike 20 = .ok (.iinc 2 1, 3) := by decide +kernel
theorem dX6_firstLike_23 : decode cX6_firstLike 23 = .ok (.goto (-21), 3) := by decide +kernel
theorem dX6_firstLike_26 : decode cX6_firstLike 26 = .ok (.iload_n 2, 1) := by decide +kernel
theorem dX6_firstLike_27 : decode cX6_firstLike 27 = .ok (.ireturn, 1) := by decide +kernel
theorem dX6_like_0 : decode cX6_like 0 = .ok (.iload_n 1, 1) := by decide +kernel
theorem dX6_like_1 : decode cX6_like 1 = .ok (.iconst 0, 1) := by decide +kernel
theorem dX6_like_2 : decode cX6_like 2 = .ok (.iconst 3, 1) := by decide +kernel
theorem dX6_like_3 : decode cX6_like 3 = .ok (.invokestatic 38, 3) := by decide +kernel
theorem dX6_like_6 : decode cX6_like 6 = .ok (.ifCond .ne 6, 3) := by decide +kernel
theorem dX6_like_9 : decode cX6_like 9 = .ok (.bipush (-2), 2) := by decide +kernel
theorem dX6_like_11 : decode cX6_like 11 = .ok (.ireturn, 1) := by decide +kernel
theorem dX6_like_12 : decode cX6_like 12 = .ok (.aload_n 0, 1) := by decide +kernel
theorem dX6_like_13 : decode cX6_like 13 = .ok (.getfield 76, 3) := by decide +kernel
theorem dX6_like_16 : decode cX6_like 16 = .ok (.iload_n 1, 1) := by decide +kernel
theorem dX6_like_17 : decode cX6_like 17 = .ok (.iaload, 1) := by decide +kernel
theorem dX6_like_18 : decode cX6_like 18 = .ok (.ifCond .ge 8, 3) := by decide +kernel
theorem dX6_like_21 : decode cX6_like 21 = .ok (.bipush (-3), 2) := by decide +kernel
theorem dX6_like_23 : decode cX6_like 23 = .ok (.goto 8, 3) := by decide +kernel
theorem dX6_like_26 : decode cX6_like 26 = .ok (.aload_n 0, 1) := by decide +kernel
theorem dX6_like_27 : decode cX6_like 27 = .ok (.iload_n 1, 1) := by decide +kernel
theorem dX6_like_28 : decode cX6_like 28 = .ok (.invokevirtual 223, 3) := by decide +kernel
theorem dX6_like_31 : decode cX6_like 31 = .ok (.ireturn, 1) := by decide +kernel
theorem dX6_unlike_0 : decode cX6_unlike 0 = .ok (.iconst 0, 1) := by decide +kernel
theorem dX6_unlike_1 : decode cX6_unlike 1 = .ok (.istore_n 1, 1) := by decide +kernel
theorem dX6_unlike_2 : decode cX6_unlike 2 = .ok (.iconst 0, 1) := by decide +kernel
theorem dX6_unlike_3 : decode cX6_unlike 3 = .ok (.istore_n 2, 1) := by decide +kernel
theorem dX6_unlike_4 : decode cX6_unlike 4 = .ok (.iload_n 2, 1) := by decide +kernel
theorem dX6_unlike_5 : decode cX6_unlike 5 = .ok (.iconst 4, 1) := by decide +kernel
theorem dX6_unlike_6 : decode cX6_unlike 6 = .ok (.if_icmp .ge 35, 3) := by decide +kernel
theorem dX6_unlike_9 : decode cX6_unlike 9 = .ok (.iload_n 1, 1) := by decide +kernel
theorem dX6_unlike_10 : decode cX6_unlike 10 = .ok (.aload_n 0, 1) := by decide +kernel
theorem dX6_unlike_11 : decode cX6_unlike 11 = .ok (.getfield 76, 3) := by decide +kernel
theorem dX6_unlike_14 : decode cX6_unlike 14 = .ok (.iload_n 2, 1) := by decide +kernel
theorem dX6_unlike_15 : decode cX6_unlike 15 = .ok (.iaload, 1) := by decide +kernel
theorem dX6_unlike_16 : decode cX6_unlike 16 = .ok (.ifCond .lt 16, 3) := by decide +kernel
theorem dX6_unlike_19 : decode cX6_unlike 19 = .ok (.aload_n 0, 1) := by decide +kernel
theorem dX6_unlike_20 : decode cX6_unlike 20 = .ok (.iload_n 2, 1) := by decide +kernel
theorem dX6_unlike_21 : decode cX6_unlike 21 = .ok (.invokevirtual 223, 3) := by decide +kernel
theorem dX6_unlike_24 : decode cX6_unlike 24 = .ok (.iload_n 2, 1) := by decide +kernel
theorem dX6_unlike_25 : decode cX6_unlike 25 = .ok (.if_icmp .ne 7, 3) := by decide +kernel
theorem dX6_unlike_28 : decode cX6_unlike 28 = .ok (.iconst 1, 1) := by decide +kernel
theorem dX6_unlike_29 : decode cX6_unlike 29 = .ok (.goto 4, 3) := by decide +kernel
theorem dX6_unlike_32 : decode cX6_unlike 32 = .ok (.iconst 0, 1) := by decide +kernel
theorem dX6_unlike_33 : decode cX6_unlike 33 = .ok (.iadd, 1) := by decide +kernel
theorem dX6_unlike_34 : decode cX6_unlike 34 = .ok (.istore_n 1, 1) := by decide +kernel
theorem dX6_unlike_35 : decode cX6_unlike 35 = .ok (.iinc 2 1, 3) := by decide +kernel
theorem dX6_unlike_38 : decode cX6_unlike 38 = .ok (.goto (-34), 3) := by decide +kernel
theorem dX6_unlike_41 : decode cX6_unlike 41 = .ok (.iload_n 1, 1) := by decide +kernel
theorem dX6_unlike_42 : decode cX6_unlike 42 = .ok (.ireturn, 1) := by decide +kernel
theorem dX6_image_0 : decode cX6_image 0 = .ok (.aload_n 0, 1) := by decide +kernel
theorem dX6_image_1 : decode cX6_image 1 = .ok (.iconst 1, 1) := by decide +kernel
theorem dX6_image_2 : decode cX6_image 2 = .ok (.putfield 226, 3) := by decide +kernel
theorem dX6_image_5 : decode cX6_image 5 = .ok (.aload_n 0, 1) := by decide +kernel
theorem dX6_image_6 : decode cX6_image 6 = .ok (.aload_n 0, 1) := by decide +kernel
theorem dX6_image_7 : decode cX6_image 7 = .ok (.getfield 7, 3) := by decide +kernel
theorem dX6_image_10 : decode cX6_image 10 = .ok (.putfield 229, 3) := by decide +kernel
theorem dX6_image_13 : decode cX6_image 13 = .ok (.aload_n 0, 1) := by decide +kernel
theorem dX6_image_14 : decode cX6_image 14 = .ok (.aload_n 0, 1) := by decide +kernel
theorem dX6_image_15 : decode cX6_image 15 = .ok (.getfield 1, 3) := by decide +kernel
theorem dX6_image_18 : decode cX6_image 18 = .ok (.putfield 232, 3) := by decide +kernel
theorem dX6_image_21 : decode cX6_image 21 = .ok (.aload_n 0, 1) := by decide +kernel
theorem dX6_image_22 : decode cX6_image 22 = .ok (.aload_n 0, 1) := by decide +kernel
theorem dX6_image_23 : decode cX6_image 23 = .ok (.getfield 133, 3) := by decide +kernel
theorem dX6_image_26 : decode cX6_image 26 = .ok (.putfield 235, 3) := by decide +kernel
theorem dX6_image_29 : decode cX6_image 29 = .ok (.aload_n 0, 1) := by decide +kernel
theorem dX6_image_30 : decode cX6_image 30 = .ok (.aload_n 0, 1) := by decide +kernel
theorem dX6_image_31 : decode cX6_image 31 = .ok (.getfield 130, 3) := by decide +kernel
theorem dX6_image_34 : decode cX6_image 34 = .ok (.putfield 238, 3) := by decide +kernel
theorem dX6_image_37 : decode cX6_image 37 = .ok (.iconst 0, 1) := by decide +kernel
theorem dX6_image_38 : decode cX6_image 38 = .ok (.istore_n 1, 1) := by decide +kernel
theorem dX6_image_39 : decode cX6_image 39 = .ok (.iload_n 1, 1) := by decide +kernel
theorem dX6_image_40 : decode cX6_image 40 = .ok (.iconst 4, 1) := by decide +kernel
theorem dX6_image_41 : decode cX6_image 41 = .ok (.if_icmp .ge 102, 3) := by decide +kernel
theorem dX6_image_44 : decode cX6_image 44 = .ok (.aload_n 0, 1) := by decide +kernel
theorem dX6_image_45 : decode cX6_image 45 = .ok (.getfield 91, 3) := by decide +kernel
theorem dX6_image_48 : decode cX6_image 48 = .ok (.iload_n 1, 1) := by decide +kernel
theorem dX6_image_49 : decode cX6_image 49 = .ok (.aload_n 0, 1) := by decide +kernel
theorem dX6_image_50 : decode cX6_image 50 = .ok (.getfield 58, 3) := by decide +kernel
theorem dX6_image_53 : decode cX6_image 53 = .ok (.iload_n 1, 1) := by decide +kernel
theorem dX6_image_54 : decode cX6_image 54 = .ok (.iaload, 1) := by decide +kernel
theorem dX6_image_55 : decode cX6_image 55 = .ok (.iastore, 1) := by decide +kernel
theorem dX6_image_56 : decode cX6_image 56 = .ok (.aload_n 0, 1) := by decide +kernel
theorem dX6_image_57 : decode cX6_image 57 = .ok (.getfield 94, 3) := by decide +kernel
theorem dX6_image_60 : decode cX6_image 60 = .ok (.iload_n 1, 1) := by decide +kernel
theorem dX6_image_61 : decode cX6_image 61 = .ok (.aload_n 0, 1) := by decide +kernel
theorem dX6_image_62 : decode cX6_image 62 = .ok (.getfield 76, 3) := by decide +kernel
theorem dX6_image_65 : decode cX6_image 65 = .ok (.iload_n 1, 1) := by decide +kernel
theorem dX6_image_66 : decode cX6_image 66 = .ok (.iaload, 1) := by decide +kernel
theorem dX6_image_67 : decode cX6_image 67 = .ok (.iastore, 1) := by decide +kernel
theorem dX6_image_68 : decode cX6_image 68 = .ok (.aload_n 0, 1) := by decide +kernel
theorem dX6_image_69 : decode cX6_image 69 = .ok (.getfield 97, 3) := by decide +kernel
theorem dX6_image_72 : decode cX6_image 72 = .ok (.iload_n 1, 1) := by decide +kernel
theorem dX6_image_73 : decode cX6_image 73 = .ok (.aload_n 0, 1) := by decide +kernel
theorem dX6_image_74 : decode cX6_image 74 = .ok (.getfield 79, 3) := by decide +kernel
theorem dX6_image_77 : decode cX6_image 77 = .ok (.iload_n 1, 1) := by decide +kernel
theorem dX6_image_78 : decode cX6_image 78 = .ok (.iaload, 1) := by decide +kernel
theorem dX6_image_79 : decode cX6_image 79 = .ok (.iastore, 1) := by decide +kernel
theorem dX6_image_80 : decode cX6_image 80 = .ok (.aload_n 0, 1) := by decide +kernel
theorem dX6_image_81 : decode cX6_image 81 = .ok (.getfield 100, 3) := by decide +kernel
theorem dX6_image_84 : decode cX6_image 84 = .ok (.iload_n 1, 1) := by decide +kernel
theorem dX6_image_85 : decode cX6_image 85 = .ok (.aload_n 0, 1) := by decide +kernel
theorem dX6_image_86 : decode cX6_image 86 = .ok (.getfield 82, 3) := by decide +kernel
theorem dX6_image_89 : decode cX6_image 89 = .ok (.iload_n 1, 1) := by decide +kernel
theorem dX6_image_90 : decode cX6_image 90 = .ok (.iaload, 1) := by decide +kernel
theorem dX6_image_91 : decode cX6_image 91 = .ok (.iastore, 1) := by decide +kernel
theorem dX6_image_92 : decode cX6_image 92 = .ok (.aload_n 0, 1) := by decide +kernel
theorem dX6_image_93 : decode cX6_image 93 = .ok (.getfield 103, 3) := by decide +kernel
theorem dX6_image_96 : decode cX6_image 96 = .ok (.iload_n 1, 1) := by decide +kernel
theorem dX6_image_97 : decode cX6_image 97 = .ok (.aload_n 0, 1) := by decide +kernel
theorem dX6_image_98 : decode cX6_image 98 = .ok (.getfield 85, 3) := by decide +kernel
theorem dX6_image_101 : decode cX6_image 101 = .ok (.iload_n 1, 1) := by decide +kernel
theorem dX6_image_102 : decode cX6_image 102 = .ok (.iaload, 1) := by decide +kernel
theorem dX6_image_103 : decode cX6_image 103 = .ok (.iastore, 1) := by decide +kernel
theorem dX6_image_104 : decode cX6_image 104 = .ok (.iconst 0, 1) := by decide +kernel
theorem dX6_image_105 : decode cX6_image 105 = .ok (.istore_n 2, 1) := by decide +kernel
theorem dX6_image_106 : decode cX6_image 106 = .ok (.iload_n 2, 1) := by decide +kernel
theorem dX6_image_107 : decode cX6_image 107 = .ok (.iconst 4, 1) := by decide +kernel
theorem dX6_image_108 : decode cX6_image 108 = .ok (.if_icmp .ge 29, 3) := by decide +kernel
theorem dX6_image_111 : decode cX6_image 111 = .ok (.aload_n 0, 1) := by decide +kernel
theorem dX6_image_112 : decode cX6_image 112 = .ok (.getfield 106, 3) := by decide +kernel
theorem dX6_image_115 : decode cX6_image 115 = .ok (.iconst 4, 1) := by decide +kernel
theorem dX6_image_116 : decode cX6_image 116 = .ok (.iload_n 1, 1) := by decide +kernel
theorem dX6_image_117 : decode cX6_image 117 = .ok (.imul, 1) := by decide +kernel
theorem dX6_image_118 : decode cX6_image 118 = .ok (.iload_n 2, 1) := by decide +kernel
theorem dX6_image_119 : decode cX6_image 119 = .ok (.iadd, 1) := by decide +kernel
theorem dX6_image_120 : decode cX6_image 120 = .ok (.aload_n 0, 1) := by decide +kernel
theorem dX6_image_121 : decode cX6_image 121 = .ok (.getfield 88, 3) := by decide +kernel
theorem dX6_image_124 : decode cX6_image 124 = .ok (.iconst 4, 1) := by decide +kernel
theorem dX6_image_125 : decode cX6_image 125 = .ok (.iload_n 1, 1) := by decide +kernel
theorem dX6_image_126 : decode cX6_image 126 = .ok (.imul, 1) := by decide +kernel
theorem dX6_image_127 : decode cX6_image 127 = .ok (.iload_n 2, 1) := by decide +kernel
theorem dX6_image_128 : decode cX6_image 128 = .ok (.iadd, 1) := by decide +kernel
theorem dX6_image_129 : decode cX6_image 129 = .ok (.iaload, 1) := by decide +kernel
theorem dX6_image_130 : decode cX6_image 130 = .ok (.iastore, 1) := by decide +kernel
theorem dX6_image_131 : decode cX6_image 131 = .ok (.iinc 2 1, 3) := by decide +kernel
theorem dX6_image_134 : decode cX6_image 134 = .ok (.goto (-28), 3) := by decide +kernel
theorem dX6_image_137 : decode cX6_image 137 = .ok (.iinc 1 1, 3) := by decide +kernel
theorem dX6_image_140 : decode cX6_image 140 = .ok (.goto (-101), 3) := by decide +kernel
theorem dX6_image_143 : decode cX6_image 143 = .ok (.aload_n 0, 1) := by decide +kernel
theorem dX6_image_144 : decode cX6_image 144 = .ok (.getfield 14, 3) := by decide +kernel
theorem dX6_image_147 : decode cX6_image 147 = .ok (.ireturn, 1) := by decide +kernel
theorem dX6_back_0 : decode cX6_back 0 = .ok (.aload_n 0, 1) := by decide +kernel
theorem dX6_back_1 : decode cX6_back 1 = .ok (.getfield 226, 3) := by decide +kernel
theorem dX6_back_4 : decode cX6_back 4 = .ok (.ifCond .ne 6, 3) := by decide +kernel
theorem dX6_back_7 : decode cX6_back 7 = .ok (.bipush (-3), 2) := by decide +kernel
theorem dX6_back_9 : decode cX6_back 9 = .ok (.ireturn, 1) := by decide +kernel
theorem dX6_back_10 : decode cX6_back 10 = .ok (.aload_n 0, 1) := by decide +kernel
theorem dX6_back_11 : decode cX6_back 11 = .ok (.aload_n 0, 1) := by decide +kernel
theorem dX6_back_12 : decode cX6_back 12 = .ok (.getfield 229, 3) := by decide +kernel
theorem dX6_back_15 : decode cX6_back 15 = .ok (.putfield 7, 3) := by decide +kernel
theorem dX6_back_18 : decode cX6_back 18 = .ok (.aload_n 0, 1) := by decide +kernel
theorem dX6_back_19 : decode cX6_back 19 = .ok (.aload_n 0, 1) := by decide +kernel
theorem dX6_back_20 : decode cX6_back 20 = .ok (.getfield 232, 3) := by decide +kernel
theorem dX6_back_23 : decode cX6_back 23 = .ok (.putfield 1, 3) := by decide +kernel
theorem dX6_back_26 : decode cX6_back 26 = .ok (.aload_n 0, 1) := by decide +kernel
theorem dX6_back_27 : decode cX6_back 27 = .ok (.aload_n 0, 1) := by decide +kernel
theorem dX6_back_28 : decode cX6_back 28 = .ok (.getfield 235, 3) := by decide +kernel
theorem dX6_back_31 : decode cX6_back 31 = .ok (.putfield 133, 3) := by decide +kernel
theorem dX6_back_34 : decode cX6_back 34 = .ok (.aload_n 0, 1) := by decide +kernel
theorem dX6_back_35 : decode cX6_back 35 = .ok (.aload_n 0, 1) := by decide +kernel
theorem dX6_back_36 : decode cX6_back 36 = .ok (.getfield 238, 3) := by decide +kernel
theorem dX6_back_39 : decode cX6_back 39 = .ok (.putfield 130, 3) := by decide +kernel
theorem dX6_back_42 : decode cX6_back 42 = .ok (.iconst 0, 1) := by decide +kernel
theorem dX6_back_43 : decode cX6_back 43 = .ok (.istore_n 1, 1) := by decide +kernel
theorem dX6_back_44 : decode cX6_back 44 = .ok (.iload_n 1, 1) := by decide +kernel
theorem dX6_back_45 : decode cX6_back 45 = .ok (.iconst 4, 1) := by decide +kernel
theorem dX6_back_46 : decode cX6_back 46 = .ok (.if_icmp .ge 102, 3) := by decide +kernel
theorem dX6_back_49 : decode cX6_back 49 = .ok (.aload_n 0, 1) := by decide +kernel
theorem dX6_back_50 : decode cX6_back 50 = .ok (.getfield 58, 3) := by decide +kernel
theorem dX6_back_53 : decode cX6_back 53 = .ok (.iload_n 1, 1) := by decide +kernel
theorem dX6_back_54 : decode cX6_back 54 = .ok (.aload_n 0, 1) := by decide +kernel
theorem dX6_back_55 : decode cX6_back 55 = .ok (.getfield 91, 3) := by decide +kernel
theorem dX6_back_58 : decode cX6_back 58 = .ok (.iload_n 1, 1) := by decide +kernel
theorem dX6_back_59 : decode cX6_back 59 = .ok (.iaload, 1) := by decide +kernel
theorem dX6_back_60 : decode cX6_back 60 = .ok (.iastore, 1) := by decide +kernel
theorem dX6_back_61 : decode cX6_back 61 = .ok (.aload_n 0, 1) := by decide +kernel
theorem dX6_back_62 : decode cX6_back 62 = .ok (.getfield 76, 3) := by decide +kernel
theorem dX6_back_65 : decode cX6_back 65 = .ok (.iload_n 1, 1) := by decide +kernel
theorem dX6_back_66 : decode cX6_back 66 = .ok (.aload_n 0, 1) := by decide +kernel
theorem dX6_back_67 : decode cX6_back 67 = .ok (.getfield 94, 3) := by decide +kernel
theorem dX6_back_70 : decode cX6_back 70 = .ok (.iload_n 1, 1) := by decide +kernel
theorem dX6_back_71 : decode cX6_back 71 = .ok (.iaload, 1) := by decide +kernel
theorem dX6_back_72 : decode cX6_back 72 = .ok (.iastore, 1) := by decide +kernel
theorem dX6_back_73 : decode cX6_back 73 = .ok (.aload_n 0, 1) := by decide +kernel
theorem dX6_back_74 : decode cX6_back 74 = .ok (.getfield 79, 3) := by decide +kernel
theorem dX6_back_77 : decode cX6_back 77 = .ok (.iload_n 1, 1) := by decide +kernel
theorem dX6_back_78 : decode cX6_back 78 = .ok (.aload_n 0, 1) := by decide +kernel
theorem dX6_back_79 : decode cX6_back 79 = .ok (.getfield 97, 3) := by decide +kernel
theorem dX6_back_82 : decode cX6_back 82 = .ok (.iload_n 1, 1) := by decide +kernel
theorem dX6_back_83 : decode cX6_back 83 = .ok (.iaload, 1) := by decide +kernel
theorem dX6_back_84 : decode cX6_back 84 = .ok (.iastore, 1) := by decide +kernel
theorem dX6_back_85 : decode cX6_back 85 = .ok (.aload_n 0, 1) := by decide +kernel
theorem dX6_back_86 : decode cX6_back 86 = .ok (.getfield 82, 3) := by decide +kernel
theorem dX6_back_89 : decode cX6_back 89 = .ok (.iload_n 1, 1) := by decide +kernel
theorem dX6_back_90 : decode cX6_back 90 = .ok (.aload_n 0, 1) := by decide +kernel
theorem dX6_back_91 : decode cX6_back 91 = .ok (.getfield 100, 3) := by decide +kernel
theorem dX6_back_94 : decode cX6_back 94 = .ok (.iload_n 1, 1) := by decide +kernel
theorem dX6_back_95 : decode cX6_back 95 = .ok (.iaload, 1) := by decide +kernel
theorem dX6_back_96 : decode cX6_back 96 = .ok (.iastore, 1) := by decide +kernel
theorem dX6_back_97 : decode cX6_back 97 = .ok (.aload_n 0, 1) := by decide +kernel
theorem dX6_back_98 : decode cX6_back 98 = .ok (.getfield 85, 3) := by decide +kernel
theorem dX6_back_101 : decode cX6_back 101 = .ok (.iload_n 1, 1) := by decide +kernel
theorem dX6_back_102 : decode cX6_back 102 = .ok (.aload_n 0, 1) := by decide +kernel
theorem dX6_back_103 : decode cX6_back 103 = .ok (.getfield 103, 3) := by decide +kernel
theorem dX6_back_106 : decode cX6_back 106 = .ok (.iload_n 1, 1) := by decide +kernel
theorem dX6_back_107 : decode cX6_back 107 = .ok (.iaload, 1) := by decide +kernel
theorem dX6_back_108 : decode cX6_back 108 = .ok (.iastore, 1) := by decide +kernel
theorem dX6_back_109 : decode cX6_back 109 = .ok (.iconst 0, 1) := by decide +kernel
theorem dX6_back_110 : decode cX6_back 110 = .ok (.istore_n 2, 1) := by decide +kernel
theorem dX6_back_111 : decode cX6_back 111 = .ok (.iload_n 2, 1) := by decide +kernel
theorem dX6_back_112 : decode cX6_back 112 = .ok (.iconst 4, 1) := by decide +kernel
theorem dX6_back_113 : decode cX6_back 113 = .ok (.if_icmp .ge 29, 3) := by decide +kernel
theorem dX6_back_116 : decode cX6_back 116 = .ok (.aload_n 0, 1) := by decide +kernel
theorem dX6_back_117 : decode cX6_back 117 = .ok (.getfield 88, 3) := by decide +kernel
theorem dX6_back_120 : decode cX6_back 120 = .ok (.iconst 4, 1) := by decide +kernel
theorem dX6_back_121 : decode cX6_back 121 = .ok (.iload_n 1, 1) := by decide +kernel
theorem dX6_back_122 : decode cX6_back 122 = .ok (.imul, 1) := by decide +kernel
theorem dX6_back_123 : decode cX6_back 123 = .ok (.iload_n 2, 1) := by decide +kernel
theorem dX6_back_124 : decode cX6_back 124 = .ok (.iadd, 1) := by decide +kernel
theorem dX6_back_125 : decode cX6_back 125 = .ok (.aload_n 0, 1) := by decide +kernel
theorem dX6_back_126 : decode cX6_back 126 = .ok (.getfield 106, 3) := by decide +kernel
theorem dX6_back_129 : decode cX6_back 129 = .ok (.iconst 4, 1) := by decide +kernel
theorem dX6_back_130 : decode cX6_back 130 = .ok (.iload_n 1, 1) := by decide +kernel
theorem dX6_back_131 : decode cX6_back 131 = .ok (.imul, 1) := by decide +kernel
theorem dX6_back_132 : decode cX6_back 132 = .ok (.iload_n 2, 1) := by decide +kernel
theorem dX6_back_133 : decode cX6_back 133 = .ok (.iadd, 1) := by decide +kernel
theorem dX6_back_134 : decode cX6_back 134 = .ok (.iaload, 1) := by decide +kernel
theorem dX6_back_135 : decode cX6_back 135 = .ok (.iastore, 1) := by decide +kernel
theorem dX6_back_136 : decode cX6_back 136 = .ok (.iinc 2 1, 3) := by decide +kernel
theorem dX6_back_139 : decode cX6_back 139 = .ok (.goto (-28), 3) := by decide +kernel
theorem dX6_back_142 : decode cX6_back 142 = .ok (.iinc 1 1, 3) := by decide +kernel
theorem dX6_back_145 : decode cX6_back 145 = .ok (.goto (-101), 3) := by decide +kernel
theorem dX6_back_148 : decode cX6_back 148 = .ok (.aload_n 0, 1) := by decide +kernel
theorem dX6_back_149 : decode cX6_back 149 = .ok (.invokevirtual 112, 3) := by decide +kernel
theorem dX6_back_152 : decode cX6_back 152 = .ok (.aload_n 0, 1) := by decide +kernel
theorem dX6_back_153 : decode cX6_back 153 = .ok (.getfield 14, 3) := by decide +kernel
theorem dX6_back_156 : decode cX6_back 156 = .ok (.ireturn, 1) := by decide +kernel
theorem dX6_count_0 : decode cX6_count 0 = .ok (.iload_n 1, 1) := by decide +kernel
theorem dX6_count_1 : decode cX6_count 1 = .ok (.tableswitch 69 0 5 #[39, 44, 49, 54, 59, 64], 39) := by decide +kernel
theorem dX6_count_40 : decode cX6_count 40 = .ok (.aload_n 0, 1) := by decide +kernel
theorem dX6_count_41 : decode cX6_count 41 = .ok (.getfield 14, 3) := by decide +kernel
theorem dX6_count_44 : decode cX6_count 44 = .ok (.ireturn, 1) := by decide +kernel
theorem dX6_count_45 : decode cX6_count 45 = .ok (.aload_n 0, 1) := by decide +kernel
theorem dX6_count_46 : decode cX6_count 46 = .ok (.getfield 7, 3) := by decide +kernel
theorem dX6_count_49 : decode cX6_count 49 = .ok (.ireturn, 1) := by decide +kernel
theorem dX6_count_50 : decode cX6_count 50 = .ok (.aload_n 0, 1) := by decide +kernel
theorem dX6_count_51 : decode cX6_count 51 = .ok (.getfield 1, 3) := by decide +kernel
theorem dX6_count_54 : decode cX6_count 54 = .ok (.ireturn, 1) := by decide +kernel
theorem dX6_count_55 : decode cX6_count 55 = .ok (.aload_n 0, 1) := by decide +kernel
theorem dX6_count_56 : decode cX6_count 56 = .ok (.getfield 133, 3) := by decide +kernel
theorem dX6_count_59 : decode cX6_count 59 = .ok (.ireturn, 1) := by decide +kernel
theorem dX6_count_60 : decode cX6_count 60 = .ok (.aload_n 0, 1) := by decide +kernel
theorem dX6_count_61 : decode cX6_count 61 = .ok (.getfield 130, 3) := by decide +kernel
theorem dX6_count_64 : decode cX6_count 64 = .ok (.ireturn, 1) := by decide +kernel
theorem dX6_count_65 : decode cX6_count 65 = .ok (.aload_n 0, 1) := by decide +kernel
theorem dX6_count_66 : decode cX6_count 66 = .ok (.invokevirtual 216, 3) := by decide +kernel
theorem dX6_count_69 : decode cX6_count 69 = .ok (.ireturn, 1) := by decide +kernel
theorem dX6_count_70 : decode cX6_count 70 = .ok (.bipush (-2), 2) := by decide +kernel
theorem dX6_count_72 : decode cX6_count 72 = .ok (.ireturn, 1) := by decide +kernel
theorem dJ6_bitCount_0f7a4_0 : decode cJ6_bitCount_0f7a4 0 = .ok (.iload_n 0, 1) := by decide +kernel
theorem dJ6_bitCount_0f7a4_1 : decode cJ6_bitCount_0f7a4 1 = .ok (.iload_n 0, 1) := by decide +kernel
theorem dJ6_bitCount_0f7a4_2 : decode cJ6_bitCount_0f7a4 2 = .ok (.iconst 1, 1) := by decide +kernel
theorem dJ6_bitCount_0f7a4_3 : decode cJ6_bitCount_0f7a4 3 = .ok (.iushr, 1) := by decide +kernel
theorem dJ6_bitCount_0f7a4_4 : decode cJ6_bitCount_0f7a4 4 = .ok (.ldc_w 265, 3) := by decide +kernel
theorem dJ6_bitCount_0f7a4_7 : decode cJ6_bitCount_0f7a4 7 = .ok (.iand, 1) := by decide +kernel
theorem dJ6_bitCount_0f7a4_8 : decode cJ6_bitCount_0f7a4 8 = .ok (.isub, 1) := by decide +kernel
theorem dJ6_bitCount_0f7a4_9 : decode cJ6_bitCount_0f7a4 9 = .ok (.istore_n 0, 1) := by decide +kernel
theorem dJ6_bitCount_0f7a4_10 : decode cJ6_bitCount_0f7a4 10 = .ok (.iload_n 0, 1) := by decide +kernel
theorem dJ6_bitCount_0f7a4_11 : decode cJ6_bitCount_0f7a4 11 = .ok (.ldc_w 266, 3) := by decide +kernel
theorem dJ6_bitCount_0f7a4_14 : decode cJ6_bitCount_0f7a4 14 = .ok (.iand, 1) := by decide +kernel
theorem dJ6_bitCount_0f7a4_15 : decode cJ6_bitCount_0f7a4 15 = .ok (.iload_n 0, 1) := by decide +kernel
theorem dJ6_bitCount_0f7a4_16 : decode cJ6_bitCount_0f7a4 16 = .ok (.iconst 2, 1) := by decide +kernel
theorem dJ6_bitCount_0f7a4_17 : decode cJ6_bitCount_0f7a4 17 = .ok (.iushr, 1) := by decide +kernel
theorem dJ6_bitCount_0f7a4_18 : decode cJ6_bitCount_0f7a4 18 = .ok (.ldc_w 266, 3) := by decide +kernel
theorem dJ6_bitCount_0f7a4_21 : decode cJ6_bitCount_0f7a4 21 = .ok (.iand, 1) := by decide +kernel
theorem dJ6_bitCount_0f7a4_22 : decode cJ6_bitCount_0f7a4 22 = .ok (.iadd, 1) := by decide +kernel
theorem dJ6_bitCount_0f7a4_23 : decode cJ6_bitCount_0f7a4 23 = .ok (.istore_n 0, 1) := by decide +kernel
theorem dJ6_bitCount_0f7a4_24 : decode cJ6_bitCount_0f7a4 24 = .ok (.iload_n 0, 1) := by decide +kernel
theorem dJ6_bitCount_0f7a4_25 : decode cJ6_bitCount_0f7a4 25 = .ok (.iload_n 0, 1) := by decide +kernel
theorem dJ6_bitCount_0f7a4_26 : decode cJ6_bitCount_0f7a4 26 = .ok (.iconst 4, 1) := by decide +kernel
theorem dJ6_bitCount_0f7a4_27 : decode cJ6_bitCount_0f7a4 27 = .ok (.iushr, 1) := by decide +kernel
theorem dJ6_bitCount_0f7a4_28 : decode cJ6_bitCount_0f7a4 28 = .ok (.iadd, 1) := by decide +kernel
theorem dJ6_bitCount_0f7a4_29 : decode cJ6_bitCount_0f7a4 29 = .ok (.ldc_w 267, 3) := by decide +kernel
theorem dJ6_bitCount_0f7a4_32 : decode cJ6_bitCount_0f7a4 32 = .ok (.iand, 1) := by decide +kernel
theorem dJ6_bitCount_0f7a4_33 : decode cJ6_bitCount_0f7a4 33 = .ok (.istore_n 0, 1) := by decide +kernel
theorem dJ6_bitCount_0f7a4_34 : decode cJ6_bitCount_0f7a4 34 = .ok (.iload_n 0, 1) := by decide +kernel
theorem dJ6_bitCount_0f7a4_35 : decode cJ6_bitCount_0f7a4 35 = .ok (.iload_n 0, 1) := by decide +kernel
theorem dJ6_bitCount_0f7a4_36 : decode cJ6_bitCount_0f7a4 36 = .ok (.bipush 8, 2) := by decide +kernel
theorem dJ6_bitCount_0f7a4_38 : decode cJ6_bitCount_0f7a4 38 = .ok (.iushr, 1) := by decide +kernel
theorem dJ6_bitCount_0f7a4_39 : decode cJ6_bitCount_0f7a4 39 = .ok (.iadd, 1) := by decide +kernel
theorem dJ6_bitCount_0f7a4_40 : decode cJ6_bitCount_0f7a4 40 = .ok (.istore_n 0, 1) := by decide +kernel
theorem dJ6_bitCount_0f7a4_41 : decode cJ6_bitCount_0f7a4 41 = .ok (.iload_n 0, 1) := by decide +kernel
theorem dJ6_bitCount_0f7a4_42 : decode cJ6_bitCount_0f7a4 42 = .ok (.iload_n 0, 1) := by decide +kernel
theorem dJ6_bitCount_0f7a4_43 : decode cJ6_bitCount_0f7a4 43 = .ok (.bipush 16, 2) := by decide +kernel
theorem dJ6_bitCount_0f7a4_45 : decode cJ6_bitCount_0f7a4 45 = .ok (.iushr, 1) := by decide +kernel
theorem dJ6_bitCount_0f7a4_46 : decode cJ6_bitCount_0f7a4 46 = .ok (.iadd, 1) := by decide +kernel
theorem dJ6_bitCount_0f7a4_47 : decode cJ6_bitCount_0f7a4 47 = .ok (.istore_n 0, 1) := by decide +kernel
theorem dJ6_bitCount_0f7a4_48 : decode cJ6_bitCount_0f7a4 48 = .ok (.iload_n 0, 1) := by decide +kernel
theorem dJ6_bitCount_0f7a4_49 : decode cJ6_bitCount_0f7a4 49 = .ok (.bipush 63, 2) := by decide +kernel
theorem dJ6_bitCount_0f7a4_51 : decode cJ6_bitCount_0f7a4 51 = .ok (.iand, 1) := by decide +kernel
theorem dJ6_bitCount_0f7a4_52 : decode cJ6_bitCount_0f7a4 52 = .ok (.ireturn, 1) := by decide +kernel
theorem dJ9_max_7cf53_0 : decode cJ9_max_7cf53 0 = .ok (.iload_n 0, 1) := by decide +kernel
theorem dJ9_max_7cf53_1 : decode cJ9_max_7cf53 1 = .ok (.iload_n 1, 1) := by decide +kernel
theorem dJ9_max_7cf53_2 : decode cJ9_max_7cf53 2 = .ok (.if_icmp .lt 7, 3) := by decide +kernel
theorem dJ9_max_7cf53_5 : decode cJ9_max_7cf53 5 = .ok (.iload_n 0, 1) := by decide +kernel
theorem dJ9_max_7cf53_6 : decode cJ9_max_7cf53 6 = .ok (.goto 4, 3) := by decide +kernel
theorem dJ9_max_7cf53_9 : decode cJ9_max_7cf53 9 = .ok (.iload_n 1, 1) := by decide +kernel
theorem dJ9_max_7cf53_10 : decode cJ9_max_7cf53 10 = .ok (.ireturn, 1) := by decide +kernel
theorem dJ9_min_7cf53_0 : decode cJ9_min_7cf53 0 = .ok (.iload_n 0, 1) := by decide +kernel
theorem dJ9_min_7cf53_1 : decode cJ9_min_7cf53 1 = .ok (.iload_n 1, 1) := by decide +kernel
theorem dJ9_min_7cf53_2 : decode cJ9_min_7cf53 2 = .ok (.if_icmp .gt 7, 3) := by decide +kernel
theorem dJ9_min_7cf53_5 : decode cJ9_min_7cf53 5 = .ok (.iload_n 0, 1) := by decide +kernel
theorem dJ9_min_7cf53_6 : decode cJ9_min_7cf53 6 = .ok (.goto 4, 3) := by decide +kernel
theorem dJ9_min_7cf53_9 : decode cJ9_min_7cf53 9 = .ok (.iload_n 1, 1) := by decide +kernel
theorem dJ9_min_7cf53_10 : decode cJ9_min_7cf53 10 = .ok (.ireturn, 1) := by decide +kernel
theorem dJ7_fill_53178_0 : decode cJ7_fill_53178 0 = .ok (.iconst 0, 1) := by decide +kernel
theorem dJ7_fill_53178_1 : decode cJ7_fill_53178 1 = .ok (.istore_n 2, 1) := by decide +kernel
theorem dJ7_fill_53178_2 : decode cJ7_fill_53178 2 = .ok (.aload_n 0, 1) := by decide +kernel
theorem dJ7_fill_53178_3 : decode cJ7_fill_53178 3 = .ok (.arraylength, 1) := by decide +kernel
theorem dJ7_fill_53178_4 : decode cJ7_fill_53178 4 = .ok (.istore_n 3, 1) := by decide +kernel
theorem dJ7_fill_53178_5 : decode cJ7_fill_53178 5 = .ok (.iload_n 2, 1) := by decide +kernel
theorem dJ7_fill_53178_6 : decode cJ7_fill_53178 6 = .ok (.iload_n 3, 1) := by decide +kernel
theorem dJ7_fill_53178_7 : decode cJ7_fill_53178 7 = .ok (.if_icmp .ge 13, 3) := by decide +kernel
theorem dJ7_fill_53178_10 : decode cJ7_fill_53178 10 = .ok (.aload_n 0, 1) := by decide +kernel
theorem dJ7_fill_53178_11 : decode cJ7_fill_53178 11 = .ok (.iload_n 2, 1) := by decide +kernel
theorem dJ7_fill_53178_12 : decode cJ7_fill_53178 12 = .ok (.iload_n 1, 1) := by decide +kernel
theorem dJ7_fill_53178_13 : decode cJ7_fill_53178 13 = .ok (.iastore, 1) := by decide +kernel
theorem dJ7_fill_53178_14 : decode cJ7_fill_53178 14 = .ok (.iinc 2 1, 3) := by decide +kernel
theorem dJ7_fill_53178_17 : decode cJ7_fill_53178 17 = .ok (.goto (-12), 3) := by decide +kernel
theorem dJ7_fill_53178_20 : decode cJ7_fill_53178 20 = .ok (.return_, 1) := by decide +kernel
theorem dL_law_0 : decode cL_law 0 = .ok (.new 7, 3) := by decide +kernel
theorem dL_law_3 : decode cL_law 3 = .ok (.dup, 1) := by decide +kernel
theorem dL_law_4 : decode cL_law 4 = .ok (.invokespecial 9, 3) := by decide +kernel
theorem dL_law_7 : decode cL_law 7 = .ok (.astore_n 1, 1) := by decide +kernel
theorem dL_law_8 : decode cL_law 8 = .ok (.new 10, 3) := by decide +kernel
theorem dL_law_11 : decode cL_law 11 = .ok (.dup, 1) := by decide +kernel
theorem dL_law_12 : decode cL_law 12 = .ok (.invokespecial 12, 3) := by decide +kernel
theorem dL_law_15 : decode cL_law 15 = .ok (.astore_n 2, 1) := by decide +kernel
theorem dL_law_16 : decode cL_law 16 = .ok (.iconst 0, 1) := by decide +kernel
theorem dL_law_17 : decode cL_law 17 = .ok (.istore_n 3, 1) := by decide +kernel
theorem dL_law_18 : decode cL_law 18 = .ok (.iload_n 3, 1) := by decide +kernel
theorem dL_law_19 : decode cL_law 19 = .ok (.aload_n 0, 1) := by decide +kernel
theorem dL_law_20 : decode cL_law 20 = .ok (.arraylength, 1) := by decide +kernel
theorem dL_law_21 : decode cL_law 21 = .ok (.iconst 5, 1) := by decide +kernel
theorem dL_law_22 : decode cL_law 22 = .ok (.isub, 1) := by decide +kernel
theorem dL_law_23 : decode cL_law 23 = .ok (.if_icmp .gt 1022, 3) := by decide +kernel
theorem dL_law_26 : decode cL_law 26 = .ok (.aload_n 0, 1) := by decide +kernel
theorem dL_law_27 : decode cL_law 27 = .ok (.iload_n 3, 1) := by decide +kernel
theorem dL_law_28 : decode cL_law 28 = .ok (.iaload, 1) := by decide +kernel
theorem dL_law_29 : decode cL_law 29 = .ok (.bipush 63, 2) := by decide +kernel
theorem dL_law_31 : decode cL_law 31 = .ok (.iand, 1) := by decide +kernel
theorem dL_law_32 : decode cL_law 32 = .ok (.tableswitch 1007 0 32 #[148, 181, 214, 247, 280, 313, 336, 359, 382, 405, 428, 451, 464, 487, 510, 533, 546, 579, 612, 655, 688, 711, 734, 767, 800, 853, 876, 899, 922, 945, 958, 971, 984], 148) := by decide +kernel
theorem dL_law_180 : decode cL_law 180 = .ok (.aload_n 1, 1) := by decide +kernel
theorem dL_law_181 : decode cL_law 181 = .ok (.aload_n 0, 1) := by decide +kernel
theorem dL_law_182 : decode cL_law 182 = .ok (.iload_n 3, 1) := by decide +kernel
theorem dL_law_183 : decode cL_law 183 = .ok (.iconst 1, 1) := by decide +kernel
theorem dL_law_184 : decode cL_law 184 = .ok (.iadd, 1) := by decide +kernel
theorem dL_law_185 : decode cL_law 185 = .ok (.iaload, 1) := by decide +kernel
theorem dL_law_186 : decode cL_law 186 = .ok (.aload_n 0, 1) := by decide +kernel
theorem dL_law_187 : decode cL_law 187 = .ok (.iload_n 3, 1) := by decide +kernel
theorem dL_law_188 : decode cL_law 188 = .ok (.iconst 2, 1) := by decide +kernel
theorem dL_law_189 : decode cL_law 189 = .ok (.iadd, 1) := by decide +kernel
theorem dL_law_190 : decode cL_law 190 = .ok (.iaload, 1) := by decide +kernel
theorem dL_law_191 : decode cL_law 191 = .ok (.invokevirtual 13, 3) := by decide +kernel
theorem dL_law_194 : decode cL_law 194 = .ok (.aload_n 2, 1) := by decide +kernel
theorem dL_law_195 : decode cL_law 195 = .ok (.aload_n 0, 1) := by decide +kernel
theorem dL_law_196 : decode cL_law 196 = .ok (.iload_n 3, 1) := by decide +kernel
theorem dL_law_197 : decode cL_law 197 = .ok (.iconst 1, 1) := by decide +kernel
theorem dL_law_198 : decode cL_law 198 = .ok (.iadd, 1) := by decide +kernel
theorem dL_law_199 : decode cL_law 199 = .ok (.iaload, 1) := by decide +kernel
theorem dL_law_200 : decode cL_law 200 = .ok (.aload_n 0, 1) := by decide +kernel
theorem dL_law_201 : decode cL_law 201 = .ok (.iload_n 3, 1) := by decide +kernel
theorem dL_law_202 : decode cL_law 202 = .ok (.iconst 2, 1) := by decide +kernel
theorem dL_law_203 : decode cL_law 203 = .ok (.iadd, 1) := by decide +kernel
theorem dL_law_204 : decode cL_law 204 = .ok (.iaload, 1) := by decide +kernel
theorem dL_law_205 : decode cL_law 205 = .ok (.invokevirtual 17, 3) := by decide +kernel
theorem dL_law_208 : decode cL_law 208 = .ok (.if_icmp .eq 831, 3) := by decide +kernel
theorem dL_law_211 : decode cL_law 211 = .ok (.iconst 0, 1) := by decide +kernel
theorem dL_law_212 : decode cL_law 212 = .ok (.ireturn, 1) := by decide +kernel
theorem dL_law_213 : decode cL_law 213 = .ok (.aload_n 1, 1) := by decide +kernel
theorem dL_law_214 : decode cL_law 214 = .ok (.aload_n 0, 1) := by decide +kernel
theorem dL_law_215 : decode cL_law 215 = .ok (.iload_n 3, 1) := by decide +kernel
theorem dL_law_216 : decode cL_law 216 = .ok (.iconst 1, 1) := by decide +kernel
theorem dL_law_217 : decode cL_law 217 = .ok (.iadd, 1) := by decide +kernel
theorem dL_law_218 : decode cL_law 218 = .ok (.iaload, 1) := by decide +kernel
theorem dL_law_219 : decode cL_law 219 = .ok (.aload_n 0, 1) := by decide +kernel
theorem dL_law_220 : decode cL_law 220 = .ok (.iload_n 3, 1) := by decide +kernel
theorem dL_law_221 : decode cL_law 221 = .ok (.iconst 2, 1) := by decide +kernel
theorem dL_law_222 : decode cL_law 222 = .ok (.iadd, 1) := by decide +kernel
theorem dL_law_223 : decode cL_law 223 = .ok (.iaload, 1) := by decide +kernel
theorem dL_law_224 : decode cL_law 224 = .ok (.invokevirtual 18, 3) := by decide +kernel
theorem dL_law_227 : decode cL_law 227 = .ok (.aload_n 2, 1) := by decide +kernel
theorem dL_law_228 : decode cL_law 228 = .ok (.aload_n 0, 1) := by decide +kernel
theorem dL_law_229 : decode cL_law 229 = .ok (.iload_n 3, 1) := by decide +kernel
theorem dL_law_230 : decode cL_law 230 = .ok (.iconst 1, 1) := by decide +kernel
theorem dL_law_231 : decode cL_law 231 = .ok (.iadd, 1) := by decide +kernel
theorem dL_law_232 : decode cL_law 232 = .ok (.iaload, 1) := by decide +kernel
theorem dL_law_233 : decode cL_law 233 = .ok (.aload_n 0, 1) := by decide +kernel
theorem dL_law_234 : decode cL_law 234 = .ok (.iload_n 3, 1) := by decide +kernel
theorem dL_law_235 : decode cL_law 235 = .ok (.iconst 2, 1) := by decide +kernel
theorem dL_law_236 : decode cL_law 236 = .ok (.iadd, 1) := by decide +kernel
theorem dL_law_237 : decode cL_law 237 = .ok (.iaload, 1) := by decide +kernel
theorem dL_law_238 : decode cL_law 238 = .ok (.invokevirtual 21, 3) := by decide +kernel
theorem dL_law_241 : decode cL_law 241 = .ok (.if_icmp .eq 798, 3) := by decide +kernel
theorem dL_law_244 : decode cL_law 244 = .ok (.iconst 0, 1) := by decide +kernel
theorem dL_law_245 : decode cL_law 245 = .ok (.ireturn, 1) := by decide +kernel
theorem dL_law_246 : decode cL_law 246 = .ok (.aload_n 1, 1) := by decide +kernel
theorem dL_law_247 : decode cL_law 247 = .ok (.aload_n 0, 1) := by decide +kernel
theorem dL_law_248 : decode cL_law 248 = .ok (.iload_n 3, 1) := by decide +kernel
theorem dL_law_249 : decode cL_law 249 = .ok (.iconst 1, 1) := by decide +kernel
theorem dL_law_250 : decode cL_law 250 = .ok (.iadd, 1) := by decide +kernel
theorem dL_law_251 : decode cL_law 251 = .ok (.iaload, 1) := by decide +kernel
theorem dL_law_252 : decode cL_law 252 = .ok (.aload_n 0, 1) := by decide +kernel
theorem dL_law_253 : decode cL_law 253 = .ok (.iload_n 3, 1) := by decide +kernel
theorem dL_law_254 : decode cL_law 254 = .ok (.iconst 2, 1) := by decide +kernel
theorem dL_law_255 : decode cL_law 255 = .ok (.iadd, 1) := by decide +kernel
theorem dL_law_256 : decode cL_law 256 = .ok (.iaload, 1) := by decide +kernel
theorem dL_law_257 : decode cL_law 257 = .ok (.invokevirtual 22, 3) := by decide +kernel
theorem dL_law_260 : decode cL_law 260 = .ok (.aload_n 2, 1) := by decide +kernel
theorem dL_law_261 : decode cL_law 261 = .ok (.aload_n 0, 1) := by decide +kernel
theorem dL_law_262 : decode cL_law 262 = .ok (.iload_n 3, 1) := by decide +kernel
theorem dL_law_263 : decode cL_law 263 = .ok (.iconst 1, 1) := by decide +kernel
theorem dL_law_264 : decode cL_law 264 = .ok (.iadd, 1) := by decide +kernel
theorem dL_law_265 : decode cL_law 265 = .ok (.iaload, 1) := by decide +kernel
theorem dL_law_266 : decode cL_law 266 = .ok (.aload_n 0, 1) := by decide +kernel
theorem dL_law_267 : decode cL_law 267 = .ok (.iload_n 3, 1) := by decide +kernel
theorem dL_law_268 : decode cL_law 268 = .ok (.iconst 2, 1) := by decide +kernel
theorem dL_law_269 : decode cL_law 269 = .ok (.iadd, 1) := by decide +kernel
theorem dL_law_270 : decode cL_law 270 = .ok (.iaload, 1) := by decide +kernel
theorem dL_law_271 : decode cL_law 271 = .ok (.invokevirtual 25, 3) := by decide +kernel
theorem dL_law_274 : decode cL_law 274 = .ok (.if_icmp .eq 765, 3) := by decide +kernel
theorem dL_law_277 : decode cL_law 277 = .ok (.iconst 0, 1) := by decide +kernel
theorem dL_law_278 : decode cL_law 278 = .ok (.ireturn, 1) := by decide +kernel
theorem dL_law_279 : decode cL_law 279 = .ok (.aload_n 1, 1) := by decide +kernel
theorem dL_law_280 : decode cL_law 280 = .ok (.aload_n 0, 1) := by decide +kernel
theorem dL_law_281 : decode cL_law 281 = .ok (.iload_n 3, 1) := by decide +kernel
theorem dL_law_282 : decode cL_law 282 = .ok (.iconst 1, 1) := by decide +kernel
theorem dL_law_283 : decode cL_law 283 = .ok (.iadd, 1) := by decide +kernel
theorem dL_law_284 : decode cL_law 284 = .ok (.iaload, 1) := by decide +kernel
theorem dL_law_285 : decode cL_law 285 = .ok (.aload_n 0, 1) := by decide +kernel
theorem dL_law_286 : decode cL_law 286 = .ok (.iload_n 3, 1) := by decide +kernel
theorem dL_law_287 : decode cL_law 287 = .ok (.iconst 2, 1) := by decide +kernel
theorem dL_law_288 : decode cL_law 288 = .ok (.iadd, 1) := by decide +kernel
theorem dL_law_289 : decode cL_law 289 = .ok (.iaload, 1) := by decide +kernel
theorem dL_law_290 : decode cL_law 290 = .ok (.invokevirtual 26, 3) := by decide +kernel
theorem dL_law_293 : decode cL_law 293 = .ok (.aload_n 2, 1) := by decide +kernel
theorem dL_law_294 : decode cL_law 294 = .ok (.aload_n 0, 1) := by decide +kernel
theorem dL_law_295 : decode cL_law 295 = .ok (.iload_n 3, 1) := by decide +kernel
theorem dL_law_296 : decode cL_law 296 = .ok (.iconst 1, 1) := by decide +kernel
theorem dL_law_297 : decode cL_law 297 = .ok (.iadd, 1) := by decide +kernel
theorem dL_law_298 : decode cL_law 298 = .ok (.iaload, 1) := by decide +kernel
theorem dL_law_299 : decode cL_law 299 = .ok (.aload_n 0, 1) := by decide +kernel
theorem dL_law_300 : decode cL_law 300 = .ok (.iload_n 3, 1) := by decide +kernel
theorem dL_law_301 : decode cL_law 301 = .ok (.iconst 2, 1) := by decide +kernel
theorem dL_law_302 : decode cL_law 302 = .ok (.iadd, 1) := by decide +kernel
theorem dL_law_303 : decode cL_law 303 = .ok (.iaload, 1) := by decide +kernel
theorem dL_law_304 : decode cL_law 304 = .ok (.invokevirtual 29, 3) := by decide +kernel
theorem dL_law_307 : decode cL_law 307 = .ok (.if_icmp .eq 732, 3) := by decide +kernel
theorem dL_law_310 : decode cL_law 310 = .ok (.iconst 0, 1) := by decide +kernel
theorem dL_law_311 : decode cL_law 311 = .ok (.ireturn, 1) := by decide +kernel
theorem dL_law_312 : decode cL_law 312 = .ok (.aload_n 1, 1) := by decide +kernel
theorem dL_law_313 : decode cL_law 313 = .ok (.aload_n 0, 1) := by decide +kernel
theorem dL_law_314 : decode cL_law 314 = .ok (.iload_n 3, 1) := by decide +kernel
theorem dL_law_315 : decode cL_law 315 = .ok (.iconst 1, 1) := by decide +kernel
theorem dL_law_316 : decode cL_law 316 = .ok (.iadd, 1) := by decide +kernel
theorem dL_law_317 : decode cL_law 317 = .ok (.iaload, 1) := by decide +kernel
theorem dL_law_318 : decode cL_law 318 = .ok (.aload_n 0, 1) := by decide +kernel
theorem dL_law_319 : decode cL_law 319 = .ok (.iload_n 3, 1) := by decide +kernel
theorem dL_law_320 : decode cL_law 320 = .ok (.iconst 2, 1) := by decide +kernel
theorem dL_law_321 : decode cL_law 321 = .ok (.iadd, 1) := by decide +kernel
theorem dL_law_322 : decode cL_law 322 = .ok (.iaload, 1) := by decide +kernel
theorem dL_law_323 : decode cL_law 323 = .ok (.invokevirtual 30, 3) := by decide +kernel
theorem dL_law_326 : decode cL_law 326 = .ok (.aload_n 2, 1) := by decide +kernel
theorem dL_law_327 : decode cL_law 327 = .ok (.aload_n 0, 1) := by decide +kernel
theorem dL_law_328 : decode cL_law 328 = .ok (.iload_n 3, 1) := by decide +kernel
theorem dL_law_329 : decode cL_law 329 = .ok (.iconst 1, 1) := by decide +kernel
theorem dL_law_330 : decode cL_law 330 = .ok (.iadd, 1) := by decide +kernel
theorem dL_law_331 : decode cL_law 331 = .ok (.iaload, 1) := by decide +kernel
theorem dL_law_332 : decode cL_law 332 = .ok (.aload_n 0, 1) := by decide +kernel
theorem dL_law_333 : decode cL_law 333 = .ok (.iload_n 3, 1) := by decide +kernel
theorem dL_law_334 : decode cL_law 334 = .ok (.iconst 2, 1) := by decide +kernel
theorem dL_law_335 : decode cL_law 335 = .ok (.iadd, 1) := by decide +kernel
theorem dL_law_336 : decode cL_law 336 = .ok (.iaload, 1) := by decide +kernel
theorem dL_law_337 : decode cL_law 337 = .ok (.invokevirtual 33, 3) := by decide +kernel
theorem dL_law_340 : decode cL_law 340 = .ok (.if_icmp .eq 699, 3) := by decide +kernel
theorem dL_law_343 : decode cL_law 343 = .ok (.iconst 0, 1) := by decide +kernel
theorem dL_law_344 : decode cL_law 344 = .ok (.ireturn, 1) := by decide +kernel
theorem dL_law_345 : decode cL_law 345 = .ok (.aload_n 1, 1) := by decide +kernel
theorem dL_law_346 : decode cL_law 346 = .ok (.aload_n 0, 1) := by decide +kernel
theorem dL_law_347 : decode cL_law 347 = .ok (.iload_n 3, 1) := by decide +kernel
theorem dL_law_348 : decode cL_law 348 = .ok (.iconst 1, 1) := by decide +kernel
theorem dL_law_349 : decode cL_law 349 = .ok (.iadd, 1) := by decide +kernel
theorem dL_law_350 : decode cL_law 350 = .ok (.iaload, 1) := by decide +kernel
theorem dL_law_351 : decode cL_law 351 = .ok (.invokevirtual 34, 3) := by decide +kernel
theorem dL_law_354 : decode cL_law 354 = .ok (.aload_n 2, 1) := by decide +kernel
theorem dL_law_355 : decode cL_law 355 = .ok (.aload_n 0, 1) := by decide +kernel
theorem dL_law_356 : decode cL_law 356 = .ok (.iload_n 3, 1) := by decide +kernel
theorem dL_law_357 : decode cL_law 357 = .ok (.iconst 1, 1) := by decide +kernel
theorem dL_law_358 : decode cL_law 358 = .ok (.iadd, 1) := by decide +kernel
theorem dL_law_359 : decode cL_law 359 = .ok (.iaload, 1) := by decide +kernel
theorem dL_law_360 : decode cL_law 360 = .ok (.invokevirtual 38, 3) := by decide +kernel
theorem dL_law_363 : decode cL_law 363 = .ok (.if_icmp .eq 676, 3) := by decide +kernel
theorem dL_law_366 : decode cL_law 366 = .ok (.iconst 0, 1) := by decide +kernel
theorem dL_law_367 : decode cL_law 367 = .ok (.ireturn, 1) := by decide +kernel
theorem dL_law_368 : decode cL_law 368 = .ok (.aload_n 1, 1) := by decide +kernel
theorem dL_law_369 : decode cL_law 369 = .ok (.aload_n 0, 1) := by decide +kernel
theorem dL_law_370 : decode cL_law 370 = .ok (.iload_n 3, 1) := by decide +kernel
theorem dL_law_371 : decode cL_law 371 = .ok (.iconst 1, 1) := by decide +kernel
theorem dL_law_372 : decode cL_law 372 = .ok (.iadd, 1) := by decide +kernel
theorem dL_law_373 : decode cL_law 373 = .ok (.iaload, 1) := by decide +kernel
theorem dL_law_374 : decode cL_law 374 = .ok (.invokevirtual 39, 3) := by decide +kernel
theorem dL_law_377 : decode cL_law 377 = .ok (.aload_n 2, 1) := by decide +kernel
theorem dL_law_378 : decode cL_law 378 = .ok (.aload_n 0, 1) := by decide +kernel
theorem dL_law_379 : decode cL_law 379 = .ok (.iload_n 3, 1) := by decide +kernel
theorem dL_law_380 : decode cL_law 380 = .ok (.iconst 1, 1) := by decide +kernel
theorem dL_law_381 : decode cL_law 381 = .ok (.iadd, 1) := by decide +kernel
theorem dL_law_382 : decode cL_law 382 = .ok (.iaload, 1) := by decide +kernel
theorem dL_law_383 : decode cL_law 383 = .ok (.invokevirtual 42, 3) := by decide +kernel
theorem dL_law_386 : decode cL_law 386 = .ok (.if_icmp .eq 653, 3) := by decide +kernel
theorem dL_law_389 : decode cL_law 389 = .ok (.iconst 0, 1) := by decide +kernel
theorem dL_law_390 : decode cL_law 390 = .ok (.ireturn, 1) := by decide +kernel
theorem dL_law_391 : decode cL_law 391 = .ok (.aload_n 1, 1) := by decide +kernel
theorem dL_law_392 : decode cL_law 392 = .ok (.aload_n 0, 1) := by decide +kernel
theorem dL_law_393 : decode cL_law 393 = .ok (.iload_n 3, 1) := by decide +kernel
theorem dL_law_394 : decode cL_law 394 = .ok (.iconst 1, 1) := by decide +kernel
theorem dL_law_395 : decode cL_law 395 = .ok (.iadd, 1) := by decide +kernel
theorem dL_law_396 : decode cL_law 396 = .ok (.iaload, 1) := by decide +kernel
theorem dL_law_397 : decode cL_law 397 = .ok (.invokevirtual 43, 3) := by decide +kernel
theorem dL_law_400 : decode cL_law 400 = .ok (.aload_n 2, 1) := by decide +kernel
theorem dL_law_401 : decode cL_law 401 = .ok (.aload_n 0, 1) := by decide +kernel
theorem dL_law_402 : decode cL_law 402 = .ok (.iload_n 3, 1) := by decide +kernel
theorem dL_law_403 : decode cL_law 403 = .ok (.iconst 1, 1) := by decide +kernel
theorem dL_law_404 : decode cL_law 404 = .ok (.iadd, 1) := by decide +kernel
theorem dL_law_405 : decode cL_law 405 = .ok (.iaload, 1) := by decide +kernel
theorem dL_law_406 : decode cL_law 406 = .ok (.invokevirtual 46, 3) := by decide +kernel
theorem dL_law_409 : decode cL_law 409 = .ok (.if_icmp .eq 630, 3) := by decide +kernel
theorem dL_law_412 : decode cL_law 412 = .ok (.iconst 0, 1) := by decide +kernel
theorem dL_law_413 : decode cL_law 413 = .ok (.ireturn, 1) := by decide +kernel
theorem dL_law_414 : decode cL_law 414 = .ok (.aload_n 1, 1) := by decide +kernel
theorem dL_law_415 : decode cL_law 415 = .ok (.aload_n 0, 1) := by decide +kernel
theorem dL_law_416 : decode cL_law 416 = .ok (.iload_n 3, 1) := by decide +kernel
theorem dL_law_417 : decode cL_law 417 = .ok (.iconst 1, 1) := by decide +kernel
theorem dL_law_418 : decode cL_law 418 = .ok (.iadd, 1) := by decide +kernel
theorem dL_law_419 : decode cL_law 419 = .ok (.iaload, 1) := by decide +kernel
theorem dL_law_420 : decode cL_law 420 = .ok (.invokevirtual 47, 3) := by decide +kernel
theorem dL_law_423 : decode cL_law 423 = .ok (.aload_n 2, 1) := by decide +kernel
theorem dL_law_424 : decode cL_law 424 = .ok (.aload_n 0, 1) := by decide +kernel
theorem dL_law_425 : decode cL_law 425 = .ok (.iload_n 3, 1) := by decide +kernel
theorem dL_law_426 : decode cL_law 426 = .ok (.iconst 1, 1) := by decide +kernel
theorem dL_law_427 : decode cL_law 427 = .ok (.iadd, 1) := by decide +kernel
theorem dL_law_428 : decode cL_law 428 = .ok (.iaload, 1) := by decide +kernel
theorem dL_law_429 : decode cL_law 429 = .ok (.invokevirtual 50, 3) := by decide +kernel
theorem dL_law_432 : decode cL_law 432 = .ok (.if_icmp .eq 607, 3) := by decide +kernel
theorem dL_law_435 : decode cL_law 435 = .ok (.iconst 0, 1) := by decide +kernel
theorem dL_law_436 : decode cL_law 436 = .ok (.ireturn, 1) := by decide +kernel
theorem dL_law_437 : decode cL_law 437 = .ok (.aload_n 1, 1) := by decide +kernel
theorem dL_law_438 : decode cL_law 438 = .ok (.aload_n 0, 1) := by decide +kernel
theorem dL_law_439 : decode cL_law 439 = .ok (.iload_n 3, 1) := by decide +kernel
theorem dL_law_440 : decode cL_law 440 = .ok (.iconst 1, 1) := by decide +kernel
theorem dL_law_441 : decode cL_law 441 = .ok (.iadd, 1) := by decide +kernel
theorem dL_law_442 : decode cL_law 442 = .ok (.iaload, 1) := by decide +kernel
theorem dL_law_443 : decode cL_law 443 = .ok (.invokevirtual 51, 3) := by decide +kernel
theorem dL_law_446 : decode cL_law 446 = .ok (.aload_n 2, 1) := by decide +kernel
theorem dL_law_447 : decode cL_law 447 = .ok (.aload_n 0, 1) := by decide +kernel
theorem dL_law_448 : decode cL_law 448 = .ok (.iload_n 3, 1) := by decide +kernel
theorem dL_law_449 : decode cL_law 449 = .ok (.iconst 1, 1) := by decide +kernel
theorem dL_law_450 : decode cL_law 450 = .ok (.iadd, 1) := by decide +kernel
theorem dL_law_451 : decode cL_law 451 = .ok (.iaload, 1) := by decide +kernel
theorem dL_law_452 : decode cL_law 452 = .ok (.invokevirtual 54, 3) := by decide +kernel
theorem dL_law_455 : decode cL_law 455 = .ok (.if_icmp .eq 584, 3) := by decide +kernel
theorem dL_law_458 : decode cL_law 458 = .ok (.iconst 0, 1) := by decide +kernel
theorem dL_law_459 : decode cL_law 459 = .ok (.ireturn, 1) := by decide +kernel
theorem dL_law_460 : decode cL_law 460 = .ok (.aload_n 1, 1) := by decide +kernel
theorem dL_law_461 : decode cL_law 461 = .ok (.aload_n 0, 1) := by decide +kernel
theorem dL_law_462 : decode cL_law 462 = .ok (.iload_n 3, 1) := by decide +kernel
theorem dL_law_463 : decode cL_law 463 = .ok (.iconst 1, 1) := by decide +kernel
theorem dL_law_464 : decode cL_law 464 = .ok (.iadd, 1) := by decide +kernel
theorem dL_law_465 : decode cL_law 465 = .ok (.iaload, 1) := by decide +kernel
theorem dL_law_466 : decode cL_law 466 = .ok (.invokevirtual 55, 3) := by decide +kernel
theorem dL_law_469 : decode cL_law 469 = .ok (.aload_n 2, 1) := by decide +kernel
theorem dL_law_470 : decode cL_law 470 = .ok (.aload_n 0, 1) := by decide +kernel
theorem dL_law_471 : decode cL_law 471 = .ok (.iload_n 3, 1) := by decide +kernel
theorem dL_law_472 : decode cL_law 472 = .ok (.iconst 1, 1) := by decide +kernel
theorem dL_law_473 : decode cL_law 473 = .ok (.iadd, 1) := by decide +kernel
theorem dL_law_474 : decode cL_law 474 = .ok (.iaload, 1) := by decide +kernel
theorem dL_law_475 : decode cL_law 475 = .ok (.invokevirtual 58, 3) := by decide +kernel
theorem dL_law_478 : decode cL_law 478 = .ok (.if_icmp .eq 561, 3) := by decide +kernel
theorem dL_law_481 : decode cL_law 481 = .ok (.iconst 0, 1) := by decide +kernel
theorem dL_law_482 : decode cL_law 482 = .ok (.ireturn, 1) := by decide +kernel
theorem dL_law_483 : decode cL_law 483 = .ok (.aload_n 1, 1) := by decide +kernel
theorem dL_law_484 : decode cL_law 484 = .ok (.invokevirtual 59, 3) := by decide +kernel
theorem dL_law_487 : decode cL_law 487 = .ok (.aload_n 2, 1) := by decide +kernel
theorem dL_law_488 : decode cL_law 488 = .ok (.invokevirtual 63, 3) := by decide +kernel
theorem dL_law_491 : decode cL_law 491 = .ok (.if_icmp .eq 548, 3) := by decide +kernel
theorem dL_law_494 : decode cL_law 494 = .ok (.iconst 0, 1) := by decide +kernel
theorem dL_law_495 : decode cL_law 495 = .ok (.ireturn, 1) := by decide +kernel
theorem dL_law_496 : decode cL_law 496 = .ok (.aload_n 1, 1) := by decide +kernel
theorem dL_law_497 : decode cL_law 497 = .ok (.aload_n 0, 1) := by decide +kernel
theorem dL_law_498 : decode cL_law 498 = .ok (.iload_n 3, 1) := by decide +kernel
theorem dL_law_499 : decode cL_law 499 = .ok (.iconst 1, 1) := by decide +kernel
theorem dL_law_500 : decode cL_law 500 = .ok (.iadd, 1) := by decide +kernel
theorem dL_law_501 : decode cL_law 501 = .ok (.iaload, 1) := by decide +kernel
theorem dL_law_502 : decode cL_law 502 = .ok (.invokevirtual 64, 3) := by decide +kernel
theorem dL_law_505 : decode cL_law 505 = .ok (.aload_n 2, 1) := by decide +kernel
theorem dL_law_506 : decode cL_law 506 = .ok (.aload_n 0, 1) := by decide +kernel
theorem dL_law_507 : decode cL_law 507 = .ok (.iload_n 3, 1) := by decide +kernel
theorem dL_law_508 : decode cL_law 508 = .ok (.iconst 1, 1) := by decide +kernel
theorem dL_law_509 : decode cL_law 509 = .ok (.iadd, 1) := by decide +kernel
theorem dL_law_510 : decode cL_law 510 = .ok (.iaload, 1) := by decide +kernel
theorem dL_law_511 : decode cL_law 511 = .ok (.invokevirtual 67, 3) := by decide +kernel
theorem dL_law_514 : decode cL_law 514 = .ok (.if_icmp .eq 525, 3) := by decide +kernel
theorem dL_law_517 : decode cL_law 517 = .ok (.iconst 0, 1) := by decide +kernel
theorem dL_law_518 : decode cL_law 518 = .ok (.ireturn, 1) := by decide +kernel
theorem dL_law_519 : decode cL_law 519 = .ok (.aload_n 1, 1) := by decide +kernel
theorem dL_law_520 : decode cL_law 520 = .ok (.aload_n 0, 1) := by decide +kernel
theorem dL_law_521 : decode cL_law 521 = .ok (.iload_n 3, 1) := by decide +kernel
theorem dL_law_522 : decode cL_law 522 = .ok (.iconst 1, 1) := by decide +kernel
theorem dL_law_523 : decode cL_law 523 = .ok (.iadd, 1) := by decide +kernel
theorem dL_law_524 : decode cL_law 524 = .ok (.iaload, 1) := by decide +kernel
theorem dL_law_525 : decode cL_law 525 = .ok (.invokevirtual 68, 3) := by decide +kernel
theorem dL_law_528 : decode cL_law 528 = .ok (.aload_n 2, 1) := by decide +kernel
theorem dL_law_529 : decode cL_law 529 = .ok (.aload_n 0, 1) := by decide +kernel
theorem dL_law_530 : decode cL_law 530 = .ok (.iload_n 3, 1) := by decide +kernel
theorem dL_law_531 : decode cL_law 531 = .ok (.iconst 1, 1) := by decide +kernel
theorem dL_law_532 : decode cL_law 532 = .ok (.iadd, 1) := by decide +kernel
theorem dL_law_533 : decode cL_law 533 = .ok (.iaload, 1) := by decide +kernel
theorem dL_law_534 : decode cL_law 534 = .ok (.invokevirtual 71, 3) := by decide +kernel
theorem dL_law_537 : decode cL_law 537 = .ok (.if_icmp .eq 502, 3) := by decide +kernel
theorem dL_law_540 : decode cL_law 540 = .ok (.iconst 0, 1) := by decide +kernel
theorem dL_law_541 : decode cL_law 541 = .ok (.ireturn, 1) := by decide +kernel
theorem dL_law_542 : decode cL_law 542 = .ok (.aload_n 1, 1) := by decide +kernel
theorem dL_law_543 : decode cL_law 543 = .ok (.aload_n 0, 1) := by decide +kernel
theorem dL_law_544 : decode cL_law 544 = .ok (.iload_n 3, 1) := by decide +kernel
theorem dL_law_545 : decode cL_law 545 = .ok (.iconst 1, 1) := by decide +kernel
theorem dL_law_546 : decode cL_law 546 = .ok (.iadd, 1) := by decide +kernel
theorem dL_law_547 : decode cL_law 547 = .ok (.iaload, 1) := by decide +kernel
theorem dL_law_548 : decode cL_law 548 = .ok (.invokevirtual 72, 3) := by decide +kernel
theorem dL_law_551 : decode cL_law 551 = .ok (.aload_n 2, 1) := by decide +kernel
theorem dL_law_552 : decode cL_law 552 = .ok (.aload_n 0, 1) := by decide +kernel
theorem dL_law_553 : decode cL_law 553 = .ok (.iload_n 3, 1) := by decide +kernel
theorem dL_law_554 : decode cL_law 554 = .ok (.iconst 1, 1) := by decide +kernel
theorem dL_law_555 : decode cL_law 555 = .ok (.iadd, 1) := by decide +kernel
theorem dL_law_556 : decode cL_law 556 = .ok (.iaload, 1) := by decide +kernel
theorem dL_law_557 : decode cL_law 557 = .ok (.invokevirtual 75, 3) := by decide +kernel
theorem dL_law_560 : decode cL_law 560 = .ok (.if_icmp .eq 479, 3) := by decide +kernel
theorem dL_law_563 : decode cL_law 563 = .ok (.iconst 0, 1) := by decide +kernel
theorem dL_law_564 : decode cL_law 564 = .ok (.ireturn, 1) := by decide +kernel
theorem dL_law_565 : decode cL_law 565 = .ok (.aload_n 1, 1) := by decide +kernel
theorem dL_law_566 : decode cL_law 566 = .ok (.invokevirtual 76, 3) := by decide +kernel
theorem dL_law_569 : decode cL_law 569 = .ok (.aload_n 2, 1) := by decide +kernel
theorem dL_law_570 : decode cL_law 570 = .ok (.invokevirtual 79, 3) := by decide +kernel
theorem dL_law_573 : decode cL_law 573 = .ok (.if_icmp .eq 466, 3) := by decide +kernel
theorem dL_law_576 : decode cL_law 576 = .ok (.iconst 0, 1) := by decide +kernel
theorem dL_law_577 : decode cL_law 577 = .ok (.ireturn, 1) := by decide +kernel
theorem dL_law_578 : decode cL_law 578 = .ok (.aload_n 1, 1) := by decide +kernel
theorem dL_law_579 : decode cL_law 579 = .ok (.aload_n 0, 1) := by decide +kernel
theorem dL_law_580 : decode cL_law 580 = .ok (.iload_n 3, 1) := by decide +kernel
theorem dL_law_581 : decode cL_law 581 = .ok (.iconst 1, 1) := by decide +kernel
theorem dL_law_582 : decode cL_law 582 = .ok (.iadd, 1) := by decide +kernel
theorem dL_law_583 : decode cL_law 583 = .ok (.iaload, 1) := by decide +kernel
theorem dL_law_584 : decode cL_law 584 = .ok (.aload_n 0, 1) := by decide +kernel
theorem dL_law_585 : decode cL_law 585 = .ok (.iload_n 3, 1) := by decide +kernel
theorem dL_law_586 : decode cL_law 586 = .ok (.iconst 2, 1) := by decide +kernel
theorem dL_law_587 : decode cL_law 587 = .ok (.iadd, 1) := by decide +kernel
theorem dL_law_588 : decode cL_law 588 = .ok (.iaload, 1) := by decide +kernel
theorem dL_law_589 : decode cL_law 589 = .ok (.invokevirtual 80, 3) := by decide +kernel
theorem dL_law_592 : decode cL_law 592 = .ok (.aload_n 2, 1) := by decide +kernel
theorem dL_law_593 : decode cL_law 593 = .ok (.aload_n 0, 1) := by decide +kernel
theorem dL_law_594 : decode cL_law 594 = .ok (.iload_n 3, 1) := by decide +kernel
theorem dL_law_595 : decode cL_law 595 = .ok (.iconst 1, 1) := by decide +kernel
theorem dL_law_596 : decode cL_law 596 = .ok (.iadd, 1) := by decide +kernel
theorem dL_law_597 : decode cL_law 597 = .ok (.iaload, 1) := by decide +kernel
theorem dL_law_598 : decode cL_law 598 = .ok (.aload_n 0, 1) := by decide +kernel
theorem dL_law_599 : decode cL_law 599 = .ok (.iload_n 3, 1) := by decide +kernel
theorem dL_law_600 : decode cL_law 600 = .ok (.iconst 2, 1) := by decide +kernel
theorem dL_law_601 : decode cL_law 601 = .ok (.iadd, 1) := by decide +kernel
theorem dL_law_602 : decode cL_law 602 = .ok (.iaload, 1) := by decide +kernel
theorem dL_law_603 : decode cL_law 603 = .ok (.invokevirtual 83, 3) := by decide +kernel
theorem dL_law_606 : decode cL_law 606 = .ok (.if_icmp .eq 433, 3) := by decide +kernel
theorem dL_law_609 : decode cL_law 609 = .ok (.iconst 0, 1) := by decide +kernel
theorem dL_law_610 : decode cL_law 610 = .ok (.ireturn, 1) := by decide +kernel
theorem dL_law_611 : decode cL_law 611 = .ok (.aload_n 1, 1) := by decide +kernel
theorem dL_law_612 : decode cL_law 612 = .ok (.aload_n 0, 1) := by decide +kernel
theorem dL_law_613 : decode cL_law 613 = .ok (.iload_n 3, 1) := by decide +kernel
theorem dL_law_614 : decode cL_law 614 = .ok (.iconst 1, 1) := by decide +kernel
theorem dL_law_615 : decode cL_law 615 = .ok (.iadd, 1) := by decide +kernel
theorem dL_law_616 : decode cL_law 616 = .ok (.iaload, 1) := by decide +kernel
theorem dL_law_617 : decode cL_law 617 = .ok (.aload_n 0, 1) := by decide +kernel
theorem dL_law_618 : decode cL_law 618 = .ok (.iload_n 3, 1) := by decide +kernel
theorem dL_law_619 : decode cL_law 619 = .ok (.iconst 2, 1) := by decide +kernel
theorem dL_law_620 : decode cL_law 620 = .ok (.iadd, 1) := by decide +kernel
theorem dL_law_621 : decode cL_law 621 = .ok (.iaload, 1) := by decide +kernel
theorem dL_law_622 : decode cL_law 622 = .ok (.invokevirtual 84, 3) := by decide +kernel
theorem dL_law_625 : decode cL_law 625 = .ok (.aload_n 2, 1) := by decide +kernel
theorem dL_law_626 : decode cL_law 626 = .ok (.aload_n 0, 1) := by decide +kernel
theorem dL_law_627 : decode cL_law 627 = .ok (.iload_n 3, 1) := by decide +kernel
theorem dL_law_628 : decode cL_law 628 = .ok (.iconst 1, 1) := by decide +kernel
theorem dL_law_629 : decode cL_law 629 = .ok (.iadd, 1) := by decide +kernel
theorem dL_law_630 : decode cL_law 630 = .ok (.iaload, 1) := by decide +kernel
theorem dL_law_631 : decode cL_law 631 = .ok (.aload_n 0, 1) := by decide +kernel
theorem dL_law_632 : decode cL_law 632 = .ok (.iload_n 3, 1) := by decide +kernel
theorem dL_law_633 : decode cL_law 633 = .ok (.iconst 2, 1) := by decide +kernel
theorem dL_law_634 : decode cL_law 634 = .ok (.iadd, 1) := by decide +kernel
theorem dL_law_635 : decode cL_law 635 = .ok (.iaload, 1) := by decide +kernel
theorem dL_law_636 : decode cL_law 636 = .ok (.invokevirtual 87, 3) := by decide +kernel
theorem dL_law_639 : decode cL_law 639 = .ok (.if_icmp .eq 400, 3) := by decide +kernel
theorem dL_law_642 : decode cL_law 642 = .ok (.iconst 0, 1) := by decide +kernel
theorem dL_law_643 : decode cL_law 643 = .ok (.ireturn, 1) := by decide +kernel
theorem dL_law_644 : decode cL_law 644 = .ok (.aload_n 1, 1) := by decide +kernel
theorem dL_law_645 : decode cL_law 645 = .ok (.aload_n 0, 1) := by decide +kernel
theorem dL_law_646 : decode cL_law 646 = .ok (.iload_n 3, 1) := by decide +kernel
theorem dL_law_647 : decode cL_law 647 = .ok (.iconst 1, 1) := by decide +kernel
theorem dL_law_648 : decode cL_law 648 = .ok (.iadd, 1) := by decide +kernel
theorem dL_law_649 : decode cL_law 649 = .ok (.iaload, 1) := by decide +kernel
theorem dL_law_650 : decode cL_law 650 = .ok (.aload_n 0, 1) := by decide +kernel
theorem dL_law_651 : decode cL_law 651 = .ok (.iload_n 3, 1) := by decide +kernel
theorem dL_law_652 : decode cL_law 652 = .ok (.iconst 2, 1) := by decide +kernel
theorem dL_law_653 : decode cL_law 653 = .ok (.iadd, 1) := by decide +kernel
theorem dL_law_654 : decode cL_law 654 = .ok (.iaload, 1) := by decide +kernel
theorem dL_law_655 : decode cL_law 655 = .ok (.aload_n 0, 1) := by decide +kernel
theorem dL_law_656 : decode cL_law 656 = .ok (.iload_n 3, 1) := by decide +kernel
theorem dL_law_657 : decode cL_law 657 = .ok (.iconst 3, 1) := by decide +kernel
theorem dL_law_658 : decode cL_law 658 = .ok (.iadd, 1) := by decide +kernel
theorem dL_law_659 : decode cL_law 659 = .ok (.iaload, 1) := by decide +kernel
theorem dL_law_660 : decode cL_law 660 = .ok (.invokevirtual 88, 3) := by decide +kernel
theorem dL_law_663 : decode cL_law 663 = .ok (.aload_n 2, 1) := by decide +kernel
theorem dL_law_664 : decode cL_law 664 = .ok (.aload_n 0, 1) := by decide +kernel
theorem dL_law_665 : decode cL_law 665 = .ok (.iload_n 3, 1) := by decide +kernel
theorem dL_law_666 : decode cL_law 666 = .ok (.iconst 1, 1) := by decide +kernel
theorem dL_law_667 : decode cL_law 667 = .ok (.iadd, 1) := by decide +kernel
theorem dL_law_668 : decode cL_law 668 = .ok (.iaload, 1) := by decide +kernel
theorem dL_law_669 : decode cL_law 669 = .ok (.aload_n 0, 1) := by decide +kernel
theorem dL_law_670 : decode cL_law 670 = .ok (.iload_n 3, 1) := by decide +kernel
theorem dL_law_671 : decode cL_law 671 = .ok (.iconst 2, 1) := by decide +kernel
theorem dL_law_672 : decode cL_law 672 = .ok (.iadd, 1) := by decide +kernel
theorem dL_law_673 : decode cL_law 673 = .ok (.iaload, 1) := by decide +kernel
theorem dL_law_674 : decode cL_law 674 = .ok (.aload_n 0, 1) := by decide +kernel
theorem dL_law_675 : decode cL_law 675 = .ok (.iload_n 3, 1) := by decide +kernel
theorem dL_law_676 : decode cL_law 676 = .ok (.iconst 3, 1) := by decide +kernel
theorem dL_law_677 : decode cL_law 677 = .ok (.iadd, 1) := by decide +kernel
theorem dL_law_678 : decode cL_law 678 = .ok (.iaload, 1) := by decide +kernel
theorem dL_law_679 : decode cL_law 679 = .ok (.invokevirtual 92, 3) := by decide +kernel
theorem dL_law_682 : decode cL_law 682 = .ok (.if_icmp .eq 357, 3) := by decide +kernel
theorem dL_law_685 : decode cL_law 685 = .ok (.iconst 0, 1) := by decide +kernel
theorem dL_law_686 : decode cL_law 686 = .ok (.ireturn, 1) := by decide +kernel
theorem dL_law_687 : decode cL_law 687 = .ok (.aload_n 1, 1) := by decide +kernel
theorem dL_law_688 : decode cL_law 688 = .ok (.aload_n 0, 1) := by decide +kernel
theorem dL_law_689 : decode cL_law 689 = .ok (.iload_n 3, 1) := by decide +kernel
theorem dL_law_690 : decode cL_law 690 = .ok (.iconst 1, 1) := by decide +kernel
theorem dL_law_691 : decode cL_law 691 = .ok (.iadd, 1) := by decide +kernel
theorem dL_law_692 : decode cL_law 692 = .ok (.iaload, 1) := by decide +kernel
theorem dL_law_693 : decode cL_law 693 = .ok (.aload_n 0, 1) := by decide +kernel
theorem dL_law_694 : decode cL_law 694 = .ok (.iload_n 3, 1) := by decide +kernel
theorem dL_law_695 : decode cL_law 695 = .ok (.iconst 2, 1) := by decide +kernel
theorem dL_law_696 : decode cL_law 696 = .ok (.iadd, 1) := by decide +kernel
theorem dL_law_697 : decode cL_law 697 = .ok (.iaload, 1) := by decide +kernel
theorem dL_law_698 : decode cL_law 698 = .ok (.invokevirtual 93, 3) := by decide +kernel
theorem dL_law_701 : decode cL_law 701 = .ok (.aload_n 2, 1) := by decide +kernel
theorem dL_law_702 : decode cL_law 702 = .ok (.aload_n 0, 1) := by decide +kernel
theorem dL_law_703 : decode cL_law 703 = .ok (.iload_n 3, 1) := by decide +kernel
theorem dL_law_704 : decode cL_law 704 = .ok (.iconst 1, 1) := by decide +kernel
theorem dL_law_705 : decode cL_law 705 = .ok (.iadd, 1) := by decide +kernel
theorem dL_law_706 : decode cL_law 706 = .ok (.iaload, 1) := by decide +kernel
theorem dL_law_707 : decode cL_law 707 = .ok (.aload_n 0, 1) := by decide +kernel
theorem dL_law_708 : decode cL_law 708 = .ok (.iload_n 3, 1) := by decide +kernel
theorem dL_law_709 : decode cL_law 709 = .ok (.iconst 2, 1) := by decide +kernel
theorem dL_law_710 : decode cL_law 710 = .ok (.iadd, 1) := by decide +kernel
theorem dL_law_711 : decode cL_law 711 = .ok (.iaload, 1) := by decide +kernel
theorem dL_law_712 : decode cL_law 712 = .ok (.invokevirtual 96, 3) := by decide +kernel
theorem dL_law_715 : decode cL_law 715 = .ok (.if_icmp .eq 324, 3) := by decide +kernel
theorem dL_law_718 : decode cL_law 718 = .ok (.iconst 0, 1) := by decide +kernel
theorem dL_law_719 : decode cL_law 719 = .ok (.ireturn, 1) := by decide +kernel
theorem dL_law_720 : decode cL_law 720 = .ok (.aload_n 1, 1) := by decide +kernel
theorem dL_law_721 : decode cL_law 721 = .ok (.aload_n 0, 1) := by decide +kernel
theorem dL_law_722 : decode cL_law 722 = .ok (.iload_n 3, 1) := by decide +kernel
theorem dL_law_723 : decode cL_law 723 = .ok (.iconst 1, 1) := by decide +kernel
theorem dL_law_724 : decode cL_law 724 = .ok (.iadd, 1) := by decide +kernel
theorem dL_law_725 : decode cL_law 725 = .ok (.iaload, 1) := by decide +kernel
theorem dL_law_726 : decode cL_law 726 = .ok (.invokevirtual 97, 3) := by decide +kernel
theorem dL_law_729 : decode cL_law 729 = .ok (.aload_n 2, 1) := by decide +kernel
theorem dL_law_730 : decode cL_law 730 = .ok (.aload_n 0, 1) := by decide +kernel
theorem dL_law_731 : decode cL_law 731 = .ok (.iload_n 3, 1) := by decide +kernel
theorem dL_law_732 : decode cL_law 732 = .ok (.iconst 1, 1) := by decide +kernel
theorem dL_law_733 : decode cL_law 733 = .ok (.iadd, 1) := by decide +kernel
theorem dL_law_734 : decode cL_law 734 = .ok (.iaload, 1) := by decide +kernel
theorem dL_law_735 : decode cL_law 735 = .ok (.invokevirtual 100, 3) := by decide +kernel
theorem dL_law_738 : decode cL_law 738 = .ok (.if_icmp .eq 301, 3) := by decide +kernel
theorem dL_law_741 : decode cL_law 741 = .ok (.iconst 0, 1) := by decide +kernel
theorem dL_law_742 : decode cL_law 742 = .ok (.ireturn, 1) := by decide +kernel
theorem dL_law_743 : decode cL_law 743 = .ok (.aload_n 1, 1) := by decide +kernel
theorem dL_law_744 : decode cL_law 744 = .ok (.aload_n 0, 1) := by decide +kernel
theorem dL_law_745 : decode cL_law 745 = .ok (.iload_n 3, 1) := by decide +kernel
theorem dL_law_746 : decode cL_law 746 = .ok (.iconst 1, 1) := by decide +kernel
theorem dL_law_747 : decode cL_law 747 = .ok (.iadd, 1) := by decide +kernel
theorem dL_law_748 : decode cL_law 748 = .ok (.iaload, 1) := by decide +kernel
theorem dL_law_749 : decode cL_law 749 = .ok (.invokevirtual 101, 3) := by decide +kernel
theorem dL_law_752 : decode cL_law 752 = .ok (.aload_n 2, 1) := by decide +kernel
theorem dL_law_753 : decode cL_law 753 = .ok (.aload_n 0, 1) := by decide +kernel
theorem dL_law_754 : decode cL_law 754 = .ok (.iload_n 3, 1) := by decide +kernel
theorem dL_law_755 : decode cL_law 755 = .ok (.iconst 1, 1) := by decide +kernel
theorem dL_law_756 : decode cL_law 756 = .ok (.iadd, 1) := by decide +kernel
theorem dL_law_757 : decode cL_law 757 = .ok (.iaload, 1) := by decide +kernel
theorem dL_law_758 : decode cL_law 758 = .ok (.invokevirtual 104, 3) := by decide +kernel
theorem dL_law_761 : decode cL_law 761 = .ok (.if_icmp .eq 278, 3) := by decide +kernel
theorem dL_law_764 : decode cL_law 764 = .ok (.iconst 0, 1) := by decide +kernel
theorem dL_law_765 : decode cL_law 765 = .ok (.ireturn, 1) := by decide +kernel
theorem dL_law_766 : decode cL_law 766 = .ok (.aload_n 1, 1) := by decide +kernel
theorem dL_law_767 : decode cL_law 767 = .ok (.aload_n 0, 1) := by decide +kernel
theorem dL_law_768 : decode cL_law 768 = .ok (.iload_n 3, 1) := by decide +kernel
theorem dL_law_769 : decode cL_law 769 = .ok (.iconst 1, 1) := by decide +kernel
theorem dL_law_770 : decode cL_law 770 = .ok (.iadd, 1) := by decide +kernel
theorem dL_law_771 : decode cL_law 771 = .ok (.iaload, 1) := by decide +kernel
theorem dL_law_772 : decode cL_law 772 = .ok (.aload_n 0, 1) := by decide +kernel
theorem dL_law_773 : decode cL_law 773 = .ok (.iload_n 3, 1) := by decide +kernel
theorem dL_law_774 : decode cL_law 774 = .ok (.iconst 2, 1) := by decide +kernel
theorem dL_law_775 : decode cL_law 775 = .ok (.iadd, 1) := by decide +kernel
theorem dL_law_776 : decode cL_law 776 = .ok (.iaload, 1) := by decide +kernel
theorem dL_law_777 : decode cL_law 777 = .ok (.invokevirtual 105, 3) := by decide +kernel
theorem dL_law_780 : decode cL_law 780 = .ok (.aload_n 2, 1) := by decide +kernel
theorem dL_law_781 : decode cL_law 781 = .ok (.aload_n 0, 1) := by decide +kernel
theorem dL_law_782 : decode cL_law 782 = .ok (.iload_n 3, 1) := by decide +kernel
theorem dL_law_783 : decode cL_law 783 = .ok (.iconst 1, 1) := by decide +kernel
theorem dL_law_784 : decode cL_law 784 = .ok (.iadd, 1) := by decide +kernel
theorem dL_law_785 : decode cL_law 785 = .ok (.iaload, 1) := by decide +kernel
theorem dL_law_786 : decode cL_law 786 = .ok (.aload_n 0, 1) := by decide +kernel
theorem dL_law_787 : decode cL_law 787 = .ok (.iload_n 3, 1) := by decide +kernel
theorem dL_law_788 : decode cL_law 788 = .ok (.iconst 2, 1) := by decide +kernel
theorem dL_law_789 : decode cL_law 789 = .ok (.iadd, 1) := by decide +kernel
theorem dL_law_790 : decode cL_law 790 = .ok (.iaload, 1) := by decide +kernel
theorem dL_law_791 : decode cL_law 791 = .ok (.invokevirtual 108, 3) := by decide +kernel
theorem dL_law_794 : decode cL_law 794 = .ok (.if_icmp .eq 245, 3) := by decide +kernel
theorem dL_law_797 : decode cL_law 797 = .ok (.iconst 0, 1) := by decide +kernel
theorem dL_law_798 : decode cL_law 798 = .ok (.ireturn, 1) := by decide +kernel
theorem dL_law_799 : decode cL_law 799 = .ok (.aload_n 1, 1) := by decide +kernel
theorem dL_law_800 : decode cL_law 800 = .ok (.aload_n 0, 1) := by decide +kernel
theorem dL_law_801 : decode cL_law 801 = .ok (.iload_n 3, 1) := by decide +kernel
theorem dL_law_802 : decode cL_law 802 = .ok (.iconst 1, 1) := by decide +kernel
theorem dL_law_803 : decode cL_law 803 = .ok (.iadd, 1) := by decide +kernel
theorem dL_law_804 : decode cL_law 804 = .ok (.iaload, 1) := by decide +kernel
theorem dL_law_805 : decode cL_law 805 = .ok (.aload_n 0, 1) := by decide +kernel
theorem dL_law_806 : decode cL_law 806 = .ok (.iload_n 3, 1) := by decide +kernel
theorem dL_law_807 : decode cL_law 807 = .ok (.iconst 2, 1) := by decide +kernel
theorem dL_law_808 : decode cL_law 808 = .ok (.iadd, 1) := by decide +kernel
theorem dL_law_809 : decode cL_law 809 = .ok (.iaload, 1) := by decide +kernel
theorem dL_law_810 : decode cL_law 810 = .ok (.invokevirtual 109, 3) := by decide +kernel
theorem dL_law_813 : decode cL_law 813 = .ok (.aload_n 2, 1) := by decide +kernel
theorem dL_law_814 : decode cL_law 814 = .ok (.aload_n 0, 1) := by decide +kernel
theorem dL_law_815 : decode cL_law 815 = .ok (.iload_n 3, 1) := by decide +kernel
theorem dL_law_816 : decode cL_law 816 = .ok (.iconst 1, 1) := by decide +kernel
theorem dL_law_817 : decode cL_law 817 = .ok (.iadd, 1) := by decide +kernel
theorem dL_law_818 : decode cL_law 818 = .ok (.iaload, 1) := by decide +kernel
theorem dL_law_819 : decode cL_law 819 = .ok (.aload_n 0, 1) := by decide +kernel
theorem dL_law_820 : decode cL_law 820 = .ok (.iload_n 3, 1) := by decide +kernel
theorem dL_law_821 : decode cL_law 821 = .ok (.iconst 2, 1) := by decide +kernel
theorem dL_law_822 : decode cL_law 822 = .ok (.iadd, 1) := by decide +kernel
theorem dL_law_823 : decode cL_law 823 = .ok (.iaload, 1) := by decide +kernel
theorem dL_law_824 : decode cL_law 824 = .ok (.invokevirtual 112, 3) := by decide +kernel
theorem dL_law_827 : decode cL_law 827 = .ok (.if_icmp .eq 212, 3) := by decide +kernel
theorem dL_law_830 : decode cL_law 830 = .ok (.iconst 0, 1) := by decide +kernel
theorem dL_law_831 : decode cL_law 831 = .ok (.ireturn, 1) := by decide +kernel
theorem dL_law_832 : decode cL_law 832 = .ok (.aload_n 1, 1) := by decide +kernel
theorem dL_law_833 : decode cL_law 833 = .ok (.aload_n 0, 1) := by decide +kernel
theorem dL_law_834 : decode cL_law 834 = .ok (.iload_n 3, 1) := by decide +kernel
theorem dL_law_835 : decode cL_law 835 = .ok (.iconst 1, 1) := by decide +kernel
theorem dL_law_836 : decode cL_law 836 = .ok (.iadd, 1) := by decide +kernel
theorem dL_law_837 : decode cL_law 837 = .ok (.iaload, 1) := by decide +kernel
theorem dL_law_838 : decode cL_law 838 = .ok (.aload_n 0, 1) := by decide +kernel
theorem dL_law_839 : decode cL_law 839 = .ok (.iload_n 3, 1) := by decide +kernel
theorem dL_law_840 : decode cL_law 840 = .ok (.iconst 2, 1) := by decide +kernel
theorem dL_law_841 : decode cL_law 841 = .ok (.iadd, 1) := by decide +kernel
theorem dL_law_842 : decode cL_law 842 = .ok (.iaload, 1) := by decide +kernel
theorem dL_law_843 : decode cL_law 843 = .ok (.aload_n 0, 1) := by decide +kernel
theorem dL_law_844 : decode cL_law 844 = .ok (.iload_n 3, 1) := by decide +kernel
theorem dL_law_845 : decode cL_law 845 = .ok (.iconst 3, 1) := by decide +kernel
theorem dL_law_846 : decode cL_law 846 = .ok (.iadd, 1) := by decide +kernel
theorem dL_law_847 : decode cL_law 847 = .ok (.iaload, 1) := by decide +kernel
theorem dL_law_848 : decode cL_law 848 = .ok (.aload_n 0, 1) := by decide +kernel
theorem dL_law_849 : decode cL_law 849 = .ok (.iload_n 3, 1) := by decide +kernel
theorem dL_law_850 : decode cL_law 850 = .ok (.iconst 4, 1) := by decide +kernel
theorem dL_law_851 : decode cL_law 851 = .ok (.iadd, 1) := by decide +kernel
theorem dL_law_852 : decode cL_law 852 = .ok (.iaload, 1) := by decide +kernel
theorem dL_law_853 : decode cL_law 853 = .ok (.invokevirtual 113, 3) := by decide +kernel
theorem dL_law_856 : decode cL_law 856 = .ok (.aload_n 2, 1) := by decide +kernel
theorem dL_law_857 : decode cL_law 857 = .ok (.aload_n 0, 1) := by decide +kernel
theorem dL_law_858 : decode cL_law 858 = .ok (.iload_n 3, 1) := by decide +kernel
theorem dL_law_859 : decode cL_law 859 = .ok (.iconst 1, 1) := by decide +kernel
theorem dL_law_860 : decode cL_law 860 = .ok (.iadd, 1) := by decide +kernel
theorem dL_law_861 : decode cL_law 861 = .ok (.iaload, 1) := by decide +kernel
theorem dL_law_862 : decode cL_law 862 = .ok (.aload_n 0, 1) := by decide +kernel
theorem dL_law_863 : decode cL_law 863 = .ok (.iload_n 3, 1) := by decide +kernel
theorem dL_law_864 : decode cL_law 864 = .ok (.iconst 2, 1) := by decide +kernel
theorem dL_law_865 : decode cL_law 865 = .ok (.iadd, 1) := by decide +kernel
theorem dL_law_866 : decode cL_law 866 = .ok (.iaload, 1) := by decide +kernel
theorem dL_law_867 : decode cL_law 867 = .ok (.aload_n 0, 1) := by decide +kernel
theorem dL_law_868 : decode cL_law 868 = .ok (.iload_n 3, 1) := by decide +kernel
theorem dL_law_869 : decode cL_law 869 = .ok (.iconst 3, 1) := by decide +kernel
theorem dL_law_870 : decode cL_law 870 = .ok (.iadd, 1) := by decide +kernel
theorem dL_law_871 : decode cL_law 871 = .ok (.iaload, 1) := by decide +kernel
theorem dL_law_872 : decode cL_law 872 = .ok (.aload_n 0, 1) := by decide +kernel
theorem dL_law_873 : decode cL_law 873 = .ok (.iload_n 3, 1) := by decide +kernel
theorem dL_law_874 : decode cL_law 874 = .ok (.iconst 4, 1) := by decide +kernel
theorem dL_law_875 : decode cL_law 875 = .ok (.iadd, 1) := by decide +kernel
theorem dL_law_876 : decode cL_law 876 = .ok (.iaload, 1) := by decide +kernel
theorem dL_law_877 : decode cL_law 877 = .ok (.invokevirtual 117, 3) := by decide +kernel
theorem dL_law_880 : decode cL_law 880 = .ok (.if_icmp .eq 159, 3) := by decide +kernel
theorem dL_law_883 : decode cL_law 883 = .ok (.iconst 0, 1) := by decide +kernel
theorem dL_law_884 : decode cL_law 884 = .ok (.ireturn, 1) := by decide +kernel
theorem dL_law_885 : decode cL_law 885 = .ok (.aload_n 1, 1) := by decide +kernel
theorem dL_law_886 : decode cL_law 886 = .ok (.aload_n 0, 1) := by decide +kernel
theorem dL_law_887 : decode cL_law 887 = .ok (.iload_n 3, 1) := by decide +kernel
theorem dL_law_888 : decode cL_law 888 = .ok (.iconst 1, 1) := by decide +kernel
theorem dL_law_889 : decode cL_law 889 = .ok (.iadd, 1) := by decide +kernel
theorem dL_law_890 : decode cL_law 890 = .ok (.iaload, 1) := by decide +kernel
theorem dL_law_891 : decode cL_law 891 = .ok (.invokevirtual 118, 3) := by decide +kernel
theorem dL_law_894 : decode cL_law 894 = .ok (.aload_n 2, 1) := by decide +kernel
theorem dL_law_895 : decode cL_law 895 = .ok (.aload_n 0, 1) := by decide +kernel
theorem dL_law_896 : decode cL_law 896 = .ok (.iload_n 3, 1) := by decide +kernel
theorem dL_law_897 : decode cL_law 897 = .ok (.iconst 1, 1) := by decide +kernel
theorem dL_law_898 : decode cL_law 898 = .ok (.iadd, 1) := by decide +kernel
theorem dL_law_899 : decode cL_law 899 = .ok (.iaload, 1) := by decide +kernel
theorem dL_law_900 : decode cL_law 900 = .ok (.invokevirtual 121, 3) := by decide +kernel
theorem dL_law_903 : decode cL_law 903 = .ok (.if_icmp .eq 136, 3) := by decide +kernel
theorem dL_law_906 : decode cL_law 906 = .ok (.iconst 0, 1) := by decide +kernel
theorem dL_law_907 : decode cL_law 907 = .ok (.ireturn, 1) := by decide +kernel
theorem dL_law_908 : decode cL_law 908 = .ok (.aload_n 1, 1) := by decide +kernel
theorem dL_law_909 : decode cL_law 909 = .ok (.aload_n 0, 1) := by decide +kernel
theorem dL_law_910 : decode cL_law 910 = .ok (.iload_n 3, 1) := by decide +kernel
theorem dL_law_911 : decode cL_law 911 = .ok (.iconst 1, 1) := by decide +kernel
theorem dL_law_912 : decode cL_law 912 = .ok (.iadd, 1) := by decide +kernel
theorem dL_law_913 : decode cL_law 913 = .ok (.iaload, 1) := by decide +kernel
theorem dL_law_914 : decode cL_law 914 = .ok (.invokevirtual 122, 3) := by decide +kernel
theorem dL_law_917 : decode cL_law 917 = .ok (.aload_n 2, 1) := by decide +kernel
theorem dL_law_918 : decode cL_law 918 = .ok (.aload_n 0, 1) := by decide +kernel
theorem dL_law_919 : decode cL_law 919 = .ok (.iload_n 3, 1) := by decide +kernel
theorem dL_law_920 : decode cL_law 920 = .ok (.iconst 1, 1) := by decide +kernel
theorem dL_law_921 : decode cL_law 921 = .ok (.iadd, 1) := by decide +kernel
theorem dL_law_922 : decode cL_law 922 = .ok (.iaload, 1) := by decide +kernel
theorem dL_law_923 : decode cL_law 923 = .ok (.invokevirtual 125, 3) := by decide +kernel
theorem dL_law_926 : decode cL_law 926 = .ok (.if_icmp .eq 113, 3) := by decide +kernel
theorem dL_law_929 : decode cL_law 929 = .ok (.iconst 0, 1) := by decide +kernel
theorem dL_law_930 : decode cL_law 930 = .ok (.ireturn, 1) := by decide +kernel
theorem dL_law_931 : decode cL_law 931 = .ok (.aload_n 1, 1) := by decide +kernel
theorem dL_law_932 : decode cL_law 932 = .ok (.aload_n 0, 1) := by decide +kernel
theorem dL_law_933 : decode cL_law 933 = .ok (.iload_n 3, 1) := by decide +kernel
theorem dL_law_934 : decode cL_law 934 = .ok (.iconst 1, 1) := by decide +kernel
theorem dL_law_935 : decode cL_law 935 = .ok (.iadd, 1) := by decide +kernel
theorem dL_law_936 : decode cL_law 936 = .ok (.iaload, 1) := by decide +kernel
theorem dL_law_937 : decode cL_law 937 = .ok (.invokevirtual 126, 3) := by decide +kernel
theorem dL_law_940 : decode cL_law 940 = .ok (.aload_n 2, 1) := by decide +kernel
theorem dL_law_941 : decode cL_law 941 = .ok (.aload_n 0, 1) := by decide +kernel
theorem dL_law_942 : decode cL_law 942 = .ok (.iload_n 3, 1) := by decide +kernel
theorem dL_law_943 : decode cL_law 943 = .ok (.iconst 1, 1) := by decide +kernel
theorem dL_law_944 : decode cL_law 944 = .ok (.iadd, 1) := by decide +kernel
theorem dL_law_945 : decode cL_law 945 = .ok (.iaload, 1) := by decide +kernel
theorem dL_law_946 : decode cL_law 946 = .ok (.invokevirtual 129, 3) := by decide +kernel
theorem dL_law_949 : decode cL_law 949 = .ok (.if_icmp .eq 90, 3) := by decide +kernel
theorem dL_law_952 : decode cL_law 952 = .ok (.iconst 0, 1) := by decide +kernel
theorem dL_law_953 : decode cL_law 953 = .ok (.ireturn, 1) := by decide +kernel
theorem dL_law_954 : decode cL_law 954 = .ok (.aload_n 1, 1) := by decide +kernel
theorem dL_law_955 : decode cL_law 955 = .ok (.aload_n 0, 1) := by decide +kernel
theorem dL_law_956 : decode cL_law 956 = .ok (.iload_n 3, 1) := by decide +kernel
theorem dL_law_957 : decode cL_law 957 = .ok (.iconst 1, 1) := by decide +kernel
theorem dL_law_958 : decode cL_law 958 = .ok (.iadd, 1) := by decide +kernel
theorem dL_law_959 : decode cL_law 959 = .ok (.iaload, 1) := by decide +kernel
theorem dL_law_960 : decode cL_law 960 = .ok (.invokevirtual 130, 3) := by decide +kernel
theorem dL_law_963 : decode cL_law 963 = .ok (.aload_n 2, 1) := by decide +kernel
theorem dL_law_964 : decode cL_law 964 = .ok (.aload_n 0, 1) := by decide +kernel
theorem dL_law_965 : decode cL_law 965 = .ok (.iload_n 3, 1) := by decide +kernel
theorem dL_law_966 : decode cL_law 966 = .ok (.iconst 1, 1) := by decide +kernel
theorem dL_law_967 : decode cL_law 967 = .ok (.iadd, 1) := by decide +kernel
theorem dL_law_968 : decode cL_law 968 = .ok (.iaload, 1) := by decide +kernel
theorem dL_law_969 : decode cL_law 969 = .ok (.invokevirtual 133, 3) := by decide +kernel
theorem dL_law_972 : decode cL_law 972 = .ok (.if_icmp .eq 67, 3) := by decide +kernel
theorem dL_law_975 : decode cL_law 975 = .ok (.iconst 0, 1) := by decide +kernel
theorem dL_law_976 : decode cL_law 976 = .ok (.ireturn, 1) := by decide +kernel
theorem dL_law_977 : decode cL_law 977 = .ok (.aload_n 1, 1) := by decide +kernel
theorem dL_law_978 : decode cL_law 978 = .ok (.invokevirtual 134, 3) := by decide +kernel
theorem dL_law_981 : decode cL_law 981 = .ok (.aload_n 2, 1) := by decide +kernel
theorem dL_law_982 : decode cL_law 982 = .ok (.invokevirtual 137, 3) := by decide +kernel
theorem dL_law_985 : decode cL_law 985 = .ok (.if_icmp .eq 54, 3) := by decide +kernel
theorem dL_law_988 : decode cL_law 988 = .ok (.iconst 0, 1) := by decide +kernel
theorem dL_law_989 : decode cL_law 989 = .ok (.ireturn, 1) := by decide +kernel
theorem dL_law_990 : decode cL_law 990 = .ok (.aload_n 1, 1) := by decide +kernel
theorem dL_law_991 : decode cL_law 991 = .ok (.invokevirtual 138, 3) := by decide +kernel
theorem dL_law_994 : decode cL_law 994 = .ok (.aload_n 2, 1) := by decide +kernel
theorem dL_law_995 : decode cL_law 995 = .ok (.invokevirtual 141, 3) := by decide +kernel
theorem dL_law_998 : decode cL_law 998 = .ok (.if_icmp .eq 41, 3) := by decide +kernel
theorem dL_law_1001 : decode cL_law 1001 = .ok (.iconst 0, 1) := by decide +kernel
theorem dL_law_1002 : decode cL_law 1002 = .ok (.ireturn, 1) := by decide +kernel
theorem dL_law_1003 : decode cL_law 1003 = .ok (.aload_n 1, 1) := by decide +kernel
theorem dL_law_1004 : decode cL_law 1004 = .ok (.invokevirtual 142, 3) := by decide +kernel
theorem dL_law_1007 : decode cL_law 1007 = .ok (.aload_n 2, 1) := by decide +kernel
theorem dL_law_1008 : decode cL_law 1008 = .ok (.invokevirtual 145, 3) := by decide +kernel
theorem dL_law_1011 : decode cL_law 1011 = .ok (.if_icmp .eq 28, 3) := by decide +kernel
theorem dL_law_1014 : decode cL_law 1014 = .ok (.iconst 0, 1) := by decide +kernel
theorem dL_law_1015 : decode cL_law 1015 = .ok (.ireturn, 1) := by decide +kernel
theorem dL_law_1016 : decode cL_law 1016 = .ok (.aload_n 1, 1) := by decide +kernel
theorem dL_law_1017 : decode cL_law 1017 = .ok (.aload_n 0, 1) := by decide +kernel
theorem dL_law_1018 : decode cL_law 1018 = .ok (.iload_n 3, 1) := by decide +kernel
theorem dL_law_1019 : decode cL_law 1019 = .ok (.iconst 1, 1) := by decide +kernel
theorem dL_law_1020 : decode cL_law 1020 = .ok (.iadd, 1) := by decide +kernel
theorem dL_law_1021 : decode cL_law 1021 = .ok (.iaload, 1) := by decide +kernel
theorem dL_law_1022 : decode cL_law 1022 = .ok (.invokevirtual 146, 3) := by decide +kernel
theorem dL_law_1025 : decode cL_law 1025 = .ok (.aload_n 2, 1) := by decide +kernel
theorem dL_law_1026 : decode cL_law 1026 = .ok (.aload_n 0, 1) := by decide +kernel
theorem dL_law_1027 : decode cL_law 1027 = .ok (.iload_n 3, 1) := by decide +kernel
theorem dL_law_1028 : decode cL_law 1028 = .ok (.iconst 1, 1) := by decide +kernel
theorem dL_law_1029 : decode cL_law 1029 = .ok (.iadd, 1) := by decide +kernel
theorem dL_law_1030 : decode cL_law 1030 = .ok (.iaload, 1) := by decide +kernel
theorem dL_law_1031 : decode cL_law 1031 = .ok (.invokevirtual 149, 3) := by decide +kernel
theorem dL_law_1034 : decode cL_law 1034 = .ok (.if_icmp .eq 5, 3) := by decide +kernel
theorem dL_law_1037 : decode cL_law 1037 = .ok (.iconst 0, 1) := by decide +kernel
theorem dL_law_1038 : decode cL_law 1038 = .ok (.ireturn, 1) := by decide +kernel
theorem dL_law_1039 : decode cL_law 1039 = .ok (.iinc 3 5, 3) := by decide +kernel
theorem dL_law_1042 : decode cL_law 1042 = .ok (.goto (-1024), 3) := by decide +kernel
theorem dL_law_1045 : decode cL_law 1045 = .ok (.iconst 1, 1) := by decide +kernel
theorem dL_law_1046 : decode cL_law 1046 = .ok (.ireturn, 1) := by decide +kernel
