theorem dX0_init_0 : decode cX0_init 0 = .ok (.aload_n 0, 1) := by decide +kernel
theorem dX0_init_1 : decode cX0_init 1 = .ok (.invokespecial 3, 3) := by decide +kernel
theorem dX0_init_4 : decode cX0_init 4 = .ok (.aload_n 0, 1) := by decide +kernel
theorem dX0_init_5 : decode cX0_init 5 = .ok (.sipush 5632, 3) := by decide +kernel
theorem dX0_init_8 : decode cX0_init 8 = .ok (.newarray .int, 2) := by decide +kernel
theorem dX0_init_10 : decode cX0_init 10 = .ok (.putfield 9, 3) := by decide +kernel
theorem dX0_init_13 : decode cX0_init 13 = .ok (.aload_n 0, 1) := by decide +kernel
theorem dX0_init_14 : decode cX0_init 14 = .ok (.sipush 512, 3) := by decide +kernel
theorem dX0_init_17 : decode cX0_init 17 = .ok (.newarray .int, 2) := by decide +kernel
theorem dX0_init_19 : decode cX0_init 19 = .ok (.putfield 15, 3) := by decide +kernel
theorem dX0_init_22 : decode cX0_init 22 = .ok (.aload_n 0, 1) := by decide +kernel
theorem dX0_init_23 : decode cX0_init 23 = .ok (.sipush 512, 3) := by decide +kernel
theorem dX0_init_26 : decode cX0_init 26 = .ok (.newarray .int, 2) := by decide +kernel
theorem dX0_init_28 : decode cX0_init 28 = .ok (.putfield 18, 3) := by decide +kernel
theorem dX0_init_31 : decode cX0_init 31 = .ok (.aload_n 0, 1) := by decide +kernel
theorem dX0_init_32 : decode cX0_init 32 = .ok (.sipush 512, 3) := by decide +kernel
theorem dX0_init_35 : decode cX0_init 35 = .ok (.newarray .int, 2) := by decide +kernel
theorem dX0_init_37 : decode cX0_init 37 = .ok (.putfield 21, 3) := by decide +kernel
theorem dX0_init_40 : decode cX0_init 40 = .ok (.aload_n 0, 1) := by decide +kernel
theorem dX0_init_41 : decode cX0_init 41 = .ok (.sipush 512, 3) := by decide +kernel
theorem dX0_init_44 : decode cX0_init 44 = .ok (.newarray .int, 2) := by decide +kernel
theorem dX0_init_46 : decode cX0_init 46 = .ok (.putfield 24, 3) := by decide +kernel
theorem dX0_init_49 : decode cX0_init 49 = .ok (.aload_n 0, 1) := by decide +kernel
theorem dX0_init_50 : decode cX0_init 50 = .ok (.aload_n 1, 1) := by decide +kernel
theorem dX0_init_51 : decode cX0_init 51 = .ok (.putfield 27, 3) := by decide +kernel
theorem dX0_init_54 : decode cX0_init 54 = .ok (.aload_n 0, 1) := by decide +kernel
theorem dX0_init_55 : decode cX0_init 55 = .ok (.aload_n 1, 1) := by decide +kernel
theorem dX0_init_56 : decode cX0_init 56 = .ok (.getfield 31, 3) := by decide +kernel
theorem dX0_init_59 : decode cX0_init 59 = .ok (.putfield 37, 3) := by decide +kernel
theorem dX0_init_62 : decode cX0_init 62 = .ok (.return_, 1) := by decide +kernel
theorem dX0_prepare_0 : decode cX0_prepare 0 = .ok (.aload_n 0, 1) := by decide +kernel
theorem dX0_prepare_1 : decode cX0_prepare 1 = .ok (.getfield 38, 3) := by decide +kernel
theorem dX0_prepare_4 : decode cX0_prepare 4 = .ok (.ifCond .eq 4, 3) := by decide +kernel
theorem dX0_prepare_7 : decode cX0_prepare 7 = .ok (.return_, 1) := by decide +kernel
theorem dX0_prepare_8 : decode cX0_prepare 8 = .ok (.aload_n 0, 1) := by decide +kernel
theorem dX0_prepare_9 : decode cX0_prepare 9 = .ok (.getfield 27, 3) := by decide +kernel
theorem dX0_prepare_12 : decode cX0_prepare 12 = .ok (.invokevirtual 42, 3) := by decide +kernel
theorem dX0_prepare_15 : decode cX0_prepare 15 = .ok (.aload_n 0, 1) := by decide +kernel
theorem dX0_prepare_16 : decode cX0_prepare 16 = .ok (.bipush 11, 2) := by decide +kernel
theorem dX0_prepare_18 : decode cX0_prepare 18 = .ok (.aload_n 0, 1) := by decide +kernel
theorem dX0_prepare_19 : decode cX0_prepare 19 = .ok (.getfield 37, 3) := by decide +kernel
theorem dX0_prepare_22 : decode cX0_prepare 22 = .ok (.invokevirtual 45, 3) := by decide +kernel
theorem dX0_prepare_25 : decode cX0_prepare 25 = .ok (.invokestatic 51, 3) := by decide +kernel
theorem dX0_prepare_28 : decode cX0_prepare 28 = .ok (.putfield 57, 3) := by decide +kernel
theorem dX0_prepare_31 : decode cX0_prepare 31 = .ok (.iconst 0, 1) := by decide +kernel
theorem dX0_prepare_32 : decode cX0_prepare 32 = .ok (.istore_n 1, 1) := by decide +kernel
theorem dX0_prepare_33 : decode cX0_prepare 33 = .ok (.iload_n 1, 1) := by decide +kernel
theorem dX0_prepare_34 : decode cX0_prepare 34 = .ok (.aload_n 0, 1) := by decide +kernel
theorem dX0_prepare_35 : decode cX0_prepare 35 = .ok (.getfield 27, 3) := by decide +kernel
theorem dX0_prepare_38 : decode cX0_prepare 38 = .ok (.getfield 61, 3) := by decide +kernel
theorem dX0_prepare_41 : decode cX0_prepare 41 = .ok (.if_icmp .ge 14, 3) := by decide +kernel
theorem dX0_prepare_44 : decode cX0_prepare 44 = .ok (.aload_n 0, 1) := by decide +kernel
theorem dX0_prepare_45 : decode cX0_prepare 45 = .ok (.iload_n 1, 1) := by decide +kernel
theorem dX0_prepare_46 : decode cX0_prepare 46 = .ok (.invokevirtual 64, 3) := by decide +kernel
theorem dX0_prepare_49 : decode cX0_prepare 49 = .ok (.iinc 1 1, 3) := by decide +kernel
theorem dX0_prepare_52 : decode cX0_prepare 52 = .ok (.goto (-19), 3) := by decide +kernel
theorem dX0_prepare_55 : decode cX0_prepare 55 = .ok (.aload_n 0, 1) := by decide +kernel
theorem dX0_prepare_56 : decode cX0_prepare 56 = .ok (.invokevirtual 68, 3) := by decide +kernel
theorem dX0_prepare_59 : decode cX0_prepare 59 = .ok (.aload_n 0, 1) := by decide +kernel
theorem dX0_prepare_60 : decode cX0_prepare 60 = .ok (.iconst 1, 1) := by decide +kernel
theorem dX0_prepare_61 : decode cX0_prepare 61 = .ok (.putfield 38, 3) := by decide +kernel
theorem dX0_prepare_64 : decode cX0_prepare 64 = .ok (.return_, 1) := by decide +kernel
theorem dX0_findSteps_0 : decode cX0_findSteps 0 = .ok (.iconst 0, 1) := by decide +kernel
theorem dX0_findSteps_1 : decode cX0_findSteps 1 = .ok (.istore_n 2, 1) := by decide +kernel
theorem dX0_findSteps_2 : decode cX0_findSteps 2 = .ok (.iload_n 2, 1) := by decide +kernel
theorem dX0_findSteps_3 : decode cX0_findSteps 3 = .ok (.aload_n 0, 1) := by decide +kernel
theorem dX0_findSteps_4 : decode cX0_findSteps 4 = .ok (.getfield 57, 3) := by decide +kernel
theorem dX0_findSteps_7 : decode cX0_findSteps 7 = .ok (.if_icmp .ge 85, 3) := by decide +kernel
theorem dX0_findSteps_10 : decode cX0_findSteps 10 = .ok (.aload_n 0, 1) := by decide +kernel
theorem dX0_findSteps_11 : decode cX0_findSteps 11 = .ok (.getfield 37, 3) := by decide +kernel
theorem dX0_findSteps_14 : decode cX0_findSteps 14 = .ok (.aload_n 0, 1) := by decide +kernel
theorem dX0_findSteps_15 : decode cX0_findSteps 15 = .ok (.getfield 27, 3) := by decide +kernel
theorem dX0_findSteps_18 : decode cX0_findSteps 18 = .ok (.getfield 71, 3) := by decide +kernel
theorem dX0_findSteps_21 : decode cX0_findSteps 21 = .ok (.iload_n 1, 1) := by decide +kernel
theorem dX0_findSteps_22 : decode cX0_findSteps 22 = .ok (.iaload, 1) := by decide +kernel
theorem dX0_findSteps_23 : decode cX0_findSteps 23 = .ok (.invokevirtual 74, 3) := by decide +kernel
theorem dX0_findSteps_26 : decode cX0_findSteps 26 = .ok (.ifCond .eq 25, 3) := by decide +kernel
theorem dX0_findSteps_29 : decode cX0_findSteps 29 = .ok (.aload_n 0, 1) := by decide +kernel
theorem dX0_findSteps_30 : decode cX0_findSteps 30 = .ok (.getfield 37, 3) := by decide +kernel
theorem dX0_findSteps_33 : decode cX0_findSteps 33 = .ok (.aload_n 0, 1) := by decide +kernel
theorem dX0_findSteps_34 : decode cX0_findSteps 34 = .ok (.getfield 37, 3) := by decide +kernel
theorem dX0_findSteps_37 : decode cX0_findSteps 37 = .ok (.iload_n 2, 1) := by decide +kernel
theorem dX0_findSteps_38 : decode cX0_findSteps 38 = .ok (.invokevirtual 78, 3) := by decide +kernel
theorem dX0_findSteps_41 : decode cX0_findSteps 41 = .ok (.invokevirtual 82, 3) := by decide +kernel
theorem dX0_findSteps_44 : decode cX0_findSteps 44 = .ok (.ifCond .eq 7, 3) := by decide +kernel
theorem dX0_findSteps_47 : decode cX0_findSteps 47 = .ok (.iconst 1, 1) := by decide +kernel
theorem dX0_findSteps_48 : decode cX0_findSteps 48 = .ok (.goto 4, 3) := by decide +kernel
theorem dX0_findSteps_51 : decode cX0_findSteps 51 = .ok (.iconst 0, 1) := by decide +kernel
theorem dX0_findSteps_52 : decode cX0_findSteps 52 = .ok (.istore_n 3, 1) := by decide +kernel
theorem dX0_findSteps_53 : decode cX0_findSteps 53 = .ok (.aload_n 0, 1) := by decide +kernel
theorem dX0_findSteps_54 : decode cX0_findSteps 54 = .ok (.getfield 9, 3) := by decide +kernel
theorem dX0_findSteps_57 : decode cX0_findSteps 57 = .ok (.iload_n 1, 1) := by decide +kernel
theorem dX0_findSteps_58 : decode cX0_findSteps 58 = .ok (.bipush 11, 2) := by decide +kernel
theorem dX0_findSteps_60 : decode cX0_findSteps 60 = .ok (.imul, 1) := by decide +kernel
theorem dX0_findSteps_61 : decode cX0_findSteps 61 = .ok (.iload_n 2, 1) := by decide +kernel
theorem dX0_findSteps_62 : decode cX0_findSteps 62 = .ok (.iadd, 1) := by decide +kernel
theorem dX0_findSteps_63 : decode cX0_findSteps 63 = .ok (.iload_n 3, 1) := by decide +kernel
theorem dX0_findSteps_64 : decode cX0_findSteps 64 = .ok (.ifCond .eq 20, 3) := by decide +kernel
theorem dX0_findSteps_67 : decode cX0_findSteps 67 = .ok (.aload_n 0, 1) := by decide +kernel
theorem dX0_findSteps_68 : decode cX0_findSteps 68 = .ok (.getfield 27, 3) := by decide +kernel
theorem dX0_findSteps_71 : decode cX0_findSteps 71 = .ok (.aload_n 0, 1) := by decide +kernel
theorem dX0_findSteps_72 : decode cX0_findSteps 72 = .ok (.getfield 37, 3) := by decide +kernel
theorem dX0_findSteps_75 : decode cX0_findSteps 75 = .ok (.invokevirtual 85, 3) := by decide +kernel
theorem dX0_findSteps_78 : decode cX0_findSteps 78 = .ok (.invokevirtual 88, 3) := by decide +kernel
theorem dX0_findSteps_81 : decode cX0_findSteps 81 = .ok (.goto 4, 3) := by decide +kernel
theorem dX0_findSteps_84 : decode cX0_findSteps 84 = .ok (.iconst (-1), 1) := by decide +kernel
theorem dX0_findSteps_85 : decode cX0_findSteps 85 = .ok (.iastore, 1) := by decide +kernel
theorem dX0_findSteps_86 : decode cX0_findSteps 86 = .ok (.iinc 2 1, 3) := by decide +kernel
theorem dX0_findSteps_89 : decode cX0_findSteps 89 = .ok (.goto (-87), 3) := by decide +kernel
theorem dX0_findSteps_92 : decode cX0_findSteps 92 = .ok (.return_, 1) := by decide +kernel
theorem dX0_sort_0 : decode cX0_sort 0 = .ok (.aload_n 0, 1) := by decide +kernel
theorem dX0_sort_1 : decode cX0_sort 1 = .ok (.iconst 0, 1) := by decide +kernel
theorem dX0_sort_2 : decode cX0_sort 2 = .ok (.putfield 91, 3) := by decide +kernel
theorem dX0_sort_5 : decode cX0_sort 5 = .ok (.aload_n 0, 1) := by decide +kernel
theorem dX0_sort_6 : decode cX0_sort 6 = .ok (.getfield 24, 3) := by decide +kernel
theorem dX0_sort_9 : decode cX0_sort 9 = .ok (.iconst (-1), 1) := by decide +kernel
theorem dX0_sort_10 : decode cX0_sort 10 = .ok (.invokestatic 92, 3) := by decide +kernel
theorem dX0_sort_13 : decode cX0_sort 13 = .ok (.iconst 0, 1) := by decide +kernel
theorem dX0_sort_14 : decode cX0_sort 14 = .ok (.istore_n 1, 1) := by decide +kernel
theorem dX0_sort_15 : decode cX0_sort 15 = .ok (.iload_n 1, 1) := by decide +kernel
theorem dX0_sort_16 : decode cX0_sort 16 = .ok (.aload_n 0, 1) := by decide +kernel
theorem dX0_sort_17 : decode cX0_sort 17 = .ok (.getfield 27, 3) := by decide +kernel
theorem dX0_sort_20 : decode cX0_sort 20 = .ok (.getfield 61, 3) := by decide +kernel
theorem dX0_sort_23 : decode cX0_sort 23 = .ok (.if_icmp .ge 73, 3) := by decide +kernel
theorem dX0_sort_26 : decode cX0_sort 26 = .ok (.aload_n 0, 1) := by decide +kernel
theorem dX0_sort_27 : decode cX0_sort 27 = .ok (.getfield 24, 3) := by decide +kernel
theorem dX0_sort_30 : decode cX0_sort 30 = .ok (.iload_n 1, 1) := by decide +kernel
theorem dX0_sort_31 : decode cX0_sort 31 = .ok (.iaload, 1) := by decide +kernel
theorem dX0_sort_32 : decode cX0_sort 32 = .ok (.iconst (-1), 1) := by decide +kernel
theorem dX0_sort_33 : decode cX0_sort 33 = .ok (.if_icmp .ne 57, 3) := by decide +kernel
theorem dX0_sort_36 : decode cX0_sort 36 = .ok (.aload_n 0, 1) := by decide +kernel
theorem dX0_sort_37 : decode cX0_sort 37 = .ok (.iload_n 1, 1) := by decide +kernel
theorem dX0_sort_38 : decode cX0_sort 38 = .ok (.invokevirtual 98, 3) := by decide +kernel
theorem dX0_sort_41 : decode cX0_sort 41 = .ok (.istore_n 2, 1) := by decide +kernel
theorem dX0_sort_42 : decode cX0_sort 42 = .ok (.iconst 0, 1) := by decide +kernel
theorem dX0_sort_43 : decode cX0_sort 43 = .ok (.istore_n 3, 1) := by decide +kernel
theorem dX0_sort_44 : decode cX0_sort 44 = .ok (.iload_n 3, 1) := by decide +kernel
theorem dX0_sort_45 : decode cX0_sort 45 = .ok (.iload_n 2, 1) := by decide +kernel
theorem dX0_sort_46 : decode cX0_sort 46 = .ok (.if_icmp .ge 24, 3) := by decide +kernel
theorem dX0_sort_49 : decode cX0_sort 49 = .ok (.aload_n 0, 1) := by decide +kernel
theorem dX0_sort_50 : decode cX0_sort 50 = .ok (.getfield 15, 3) := by decide +kernel
theorem dX0_sort_53 : decode cX0_sort 53 = .ok (.aload_n 0, 1) := by decide +kernel
theorem dX0_sort_54 : decode cX0_sort 54 = .ok (.getfield 21, 3) := by decide +kernel
theorem dX0_sort_57 : decode cX0_sort 57 = .ok (.iload_n 3, 1) := by decide +kernel
theorem dX0_sort_58 : decode cX0_sort 58 = .ok (.iaload, 1) := by decide +kernel
theorem dX0_sort_59 : decode cX0_sort 59 = .ok (.aload_n 0, 1) := by decide +kernel
theorem dX0_sort_60 : decode cX0_sort 60 = .ok (.getfield 91, 3) := by decide +kernel
theorem dX0_sort_63 : decode cX0_sort 63 = .ok (.iastore, 1) := by decide +kernel
theorem dX0_sort_64 : decode cX0_sort 64 = .ok (.iinc 3 1, 3) := by decide +kernel
theorem dX0_sort_67 : decode cX0_sort 67 = .ok (.goto (-23), 3) := by decide +kernel
theorem dX0_sort_70 : decode cX0_sort 70 = .ok (.aload_n 0, 1) := by decide +kernel
theorem dX0_sort_71 : decode cX0_sort 71 = .ok (.getfield 18, 3) := by decide +kernel
theorem dX0_sort_74 : decode cX0_sort 74 = .ok (.aload_n 0, 1) := by decide +kernel
theorem dX0_sort_75 : decode cX0_sort 75 = .ok (.getfield 91, 3) := by decide +kernel
theorem dX0_sort_78 : decode cX0_sort 78 = .ok (.iload_n 2, 1) := by decide +kernel
theorem dX0_sort_79 : decode cX0_sort 79 = .ok (.iastore, 1) := by decide +kernel
theorem dX0_sort_80 : decode cX0_sort 80 = .ok (.aload_n 0, 1) := by decide +kernel
theorem dX0_sort_81 : decode cX0_sort 81 = .ok (.dup, 1) := by decide +kernel
theorem dX0_sort_82 : decode cX0_sort 82 = .ok (.getfield 91, 3) := by decide +kernel
theorem dX0_sort_85 : decode cX0_sort 85 = .ok (.iconst 1, 1) := by decide +kernel
theorem dX0_sort_86 : decode cX0_sort 86 = .ok (.iadd, 1) := by decide +kernel
theorem dX0_sort_87 : decode cX0_sort 87 = .ok (.putfield 91, 3) := by decide +kernel
theorem dX0_sort_90 : decode cX0_sort 90 = .ok (.iinc 1 1, 3) := by decide +kernel
theorem dX0_sort_93 : decode cX0_sort 93 = .ok (.goto (-78), 3) := by decide +kernel
theorem dX0_sort_96 : decode cX0_sort 96 = .ok (.return_, 1) := by decide +kernel
theorem dX0_spreadFrom_0 : decode cX0_spreadFrom 0 = .ok (.iconst 1, 1) := by decide +kernel
theorem dX0_spreadFrom_1 : decode cX0_spreadFrom 1 = .ok (.istore_n 2, 1) := by decide +kernel
theorem dX0_spreadFrom_2 : decode cX0_spreadFrom 2 = .ok (.aload_n 0, 1) := by decide +kernel
theorem dX0_spreadFrom_3 : decode cX0_spreadFrom 3 = .ok (.getfield 21, 3) := by decide +kernel
theorem dX0_spreadFrom_6 : decode cX0_spreadFrom 6 = .ok (.iconst 0, 1) := by decide +kernel
theorem dX0_spreadFrom_7 : decode cX0_spreadFrom 7 = .ok (.iload_n 1, 1) := by decide +kernel
theorem dX0_spreadFrom_8 : decode cX0_spreadFrom 8 = .ok (.iastore, 1) := by decide +kernel
theorem dX0_spreadFrom_9 : decode cX0_spreadFrom 9 = .ok (.aload_n 0, 1) := by decide +kernel
theorem dX0_spreadFrom_10 : decode cX0_spreadFrom 10 = .ok (.getfield 24, 3) := by decide +kernel
theorem dX0_spreadFrom_13 : decode cX0_spreadFrom 13 = .ok (.iload_n 1, 1) := by decide +kernel
theorem dX0_spreadFrom_14 : decode cX0_spreadFrom 14 = .ok (.iconst 0, 1) := by decide +kernel
theorem dX0_spreadFrom_15 : decode cX0_spreadFrom 15 = .ok (.iastore, 1) := by decide +kernel
theorem dX0_spreadFrom_16 : decode cX0_spreadFrom 16 = .ok (.iconst 0, 1) := by decide +kernel
theorem dX0_spreadFrom_17 : decode cX0_spreadFrom 17 = .ok (.istore_n 3, 1) := by decide +kernel
theorem dX0_spreadFrom_18 : decode cX0_spreadFrom 18 = .ok (.iload_n 3, 1) := by decide +kernel
theorem dX0_spreadFrom_19 : decode cX0_spreadFrom 19 = .ok (.iload_n 2, 1) := by decide +kernel
theorem dX0_spreadFrom_20 : decode cX0_spreadFrom 20 = .ok (.if_icmp .ge 108, 3) := by decide +kernel
theorem dX0_spreadFrom_23 : decode cX0_spreadFrom 23 = .ok (.iload_n 3, 1) := by decide +kernel
theorem dX0_spreadFrom_24 : decode cX0_spreadFrom 24 = .ok (.sipush 512, 3) := by decide +kernel
theorem dX0_spreadFrom_27 : decode cX0_spreadFrom 27 = .ok (.if_icmp .ge 101, 3) := by decide +kernel
theorem dX0_spreadFrom_30 : decode cX0_spreadFrom 30 = .ok (.aload_n 0, 1) := by decide +kernel
theorem dX0_spreadFrom_31 : decode cX0_spreadFrom 31 = .ok (.getfield 21, 3) := by decide +kernel
theorem dX0_spreadFrom_34 : decode cX0_spreadFrom 34 = .ok (.iload_n 3, 1) := by decide +kernel
theorem dX0_spreadFrom_35 : decode cX0_spreadFrom 35 = .ok (.iaload, 1) := by decide +kernel
theorem dX0_spreadFrom_36 : decode cX0_spreadFrom 36 = .ok (.istore 4, 2) := by decide +kernel
theorem dX0_spreadFrom_38 : decode cX0_spreadFrom 38 = .ok (.iconst 0, 1) := by decide +kernel
theorem dX0_spreadFrom_39 : decode cX0_spreadFrom 39 = .ok (.istore 5, 2) := by decide +kernel
theorem dX0_spreadFrom_41 : decode cX0_spreadFrom 41 = .ok (.iload 5, 2) := by decide +kernel
theorem dX0_spreadFrom_43 : decode cX0_spreadFrom 43 = .ok (.aload_n 0, 1) := by decide +kernel
theorem dX0_spreadFrom_44 : decode cX0_spreadFrom 44 = .ok (.getfield 57, 3) := by decide +kernel
theorem dX0_spreadFrom_47 : decode cX0_spreadFrom 47 = .ok (.if_icmp .ge 75, 3) := by decide +kernel
theorem dX0_spreadFrom_50 : decode cX0_spreadFrom 50 = .ok (.aload_n 0, 1) := by decide +kernel
theorem dX0_spreadFrom_51 : decode cX0_spreadFrom 51 = .ok (.getfield 9, 3) := by decide +kernel
theorem dX0_spreadFrom_54 : decode cX0_spreadFrom 54 = .ok (.iload 4, 2) := by decide +kernel
theorem dX0_spreadFrom_56 : decode cX0_spreadFrom 56 = .ok (.bipush 11, 2) := by decide +kernel
theorem dX0_spreadFrom_58 : decode cX0_spreadFrom 58 = .ok (.imul, 1) := by decide +kernel
theorem dX0_spreadFrom_59 : decode cX0_spreadFrom 59 = .ok (.iload 5, 2) := by decide +kernel
theorem dX0_spreadFrom_61 : decode cX0_spreadFrom 61 = .ok (.iadd, 1) := by decide +kernel
theorem dX0_spreadFrom_62 : decode cX0_spreadFrom 62 = .ok (.iaload, 1) := by decide +kernel
theorem dX0_spreadFrom_63 : decode cX0_spreadFrom 63 = .ok (.istore 6, 2) := by decide +kernel
theorem dX0_spreadFrom_65 : decode cX0_spreadFrom 65 = .ok (.iload 6, 2) := by decide +kernel
theorem dX0_spreadFrom_67 : decode cX0_spreadFrom 67 = .ok (.iconst (-1), 1) := by decide +kernel
theorem dX0_spreadFrom_68 : decode cX0_spreadFrom 68 = .ok (.if_icmp .eq 48, 3) := by decide +kernel
theorem dX0_spreadFrom_71 : decode cX0_spreadFrom 71 = .ok (.aload_n 0, 1) := by decide +kernel
theorem dX0_spreadFrom_72 : decode cX0_spreadFrom 72 = .ok (.getfield 24, 3) := by decide +kernel
theorem dX0_spreadFrom_75 : decode cX0_spreadFrom 75 = .ok (.iload 6, 2) := by decide +kernel
theorem dX0_spreadFrom_77 : decode cX0_spreadFrom 77 = .ok (.iaload, 1) := by decide +kernel
theorem dX0_spreadFrom_78 : decode cX0_spreadFrom 78 = .ok (.iconst (-1), 1) := by decide +kernel
theorem dX0_spreadFrom_79 : decode cX0_spreadFrom 79 = .ok (.if_icmp .ne 37, 3) := by decide +kernel
theorem dX0_spreadFrom_82 : decode cX0_spreadFrom 82 = .ok (.iload_n 2, 1) := by decide +kernel
theorem dX0_spreadFrom_83 : decode cX0_spreadFrom 83 = .ok (.sipush 512, 3) := by decide +kernel
theorem dX0_spreadFrom_86 : decode cX0_spreadFrom 86 = .ok (.if_icmp .ge 30, 3) := by decide +kernel
theorem dX0_spreadFrom_89 : decode cX0_spreadFrom 89 = .ok (.aload_n 0, 1) := by decide +kernel
theorem dX0_spreadFrom_90 : decode cX0_spreadFrom 90 = .ok (.getfield 24, 3) := by decide +kernel
theorem dX0_spreadFrom_93 : decode cX0_spreadFrom 93 = .ok (.iload 6, 2) := by decide +kernel
theorem dX0_spreadFrom_95 : decode cX0_spreadFrom 95 = .ok (.aload_n 0, 1) := by decide +kernel
theorem dX0_spreadFrom_96 : decode cX0_spreadFrom 96 = .ok (.getfield 24, 3) := by decide +kernel
theorem dX0_spreadFrom_99 : decode cX0_spreadFrom 99 = .ok (.iload 4, 2) := by decide +kernel
theorem dX0_spreadFrom_101 : decode cX0_spreadFrom 101 = .ok (.iaload, 1) := by decide +kernel
theorem dX0_spreadFrom_102 : decode cX0_spreadFrom 102 = .ok (.iconst 1, 1) := by decide +kernel
theorem dX0_spreadFrom_103 : decode cX0_spreadFrom 103 = .ok (.iadd, 1) := by decide +kernel
theorem dX0_spreadFrom_104 : decode cX0_spreadFrom 104 = .ok (.iastore, 1) := by decide +kernel
theorem dX0_spreadFrom_105 : decode cX0_spreadFrom 105 = .ok (.aload_n 0, 1) := by decide +kernel
theorem dX0_spreadFrom_106 : decode cX0_spreadFrom 106 = .ok (.getfield 21, 3) := by decide +kernel
theorem dX0_spreadFrom_109 : decode cX0_spreadFrom 109 = .ok (.iload_n 2, 1) := by decide +kernel
theorem dX0_spreadFrom_110 : decode cX0_spreadFrom 110 = .ok (.iload 6, 2) := by decide +kernel
theorem dX0_spreadFrom_112 : decode cX0_spreadFrom 112 = .ok (.iastore, 1) := by decide +kernel
theorem dX0_spreadFrom_113 : decode cX0_spreadFrom 113 = .ok (.iinc 2 1, 3) := by decide +kernel
theorem dX0_spreadFrom_116 : decode cX0_spreadFrom 116 = .ok (.iinc 5 1, 3) := by decide +kernel
theorem dX0_spreadFrom_119 : decode cX0_spreadFrom 119 = .ok (.goto (-78), 3) := by decide +kernel
theorem dX0_spreadFrom_122 : decode cX0_spreadFrom 122 = .ok (.iinc 3 1, 3) := by decide +kernel
theorem dX0_spreadFrom_125 : decode cX0_spreadFrom 125 = .ok (.goto (-107), 3) := by decide +kernel
theorem dX0_spreadFrom_128 : decode cX0_spreadFrom 128 = .ok (.iload_n 2, 1) := by decide +kernel
theorem dX0_spreadFrom_129 : decode cX0_spreadFrom 129 = .ok (.ireturn, 1) := by decide +kernel
theorem dX0_distance_0 : decode cX0_distance 0 = .ok (.aload_n 0, 1) := by decide +kernel
theorem dX0_distance_1 : decode cX0_distance 1 = .ok (.getfield 24, 3) := by decide +kernel
theorem dX0_distance_4 : decode cX0_distance 4 = .ok (.iconst (-1), 1) := by decide +kernel
theorem dX0_distance_5 : decode cX0_distance 5 = .ok (.invokestatic 92, 3) := by decide +kernel
theorem dX0_distance_8 : decode cX0_distance 8 = .ok (.aload_n 0, 1) := by decide +kernel
theorem dX0_distance_9 : decode cX0_distance 9 = .ok (.iload_n 1, 1) := by decide +kernel
theorem dX0_distance_10 : decode cX0_distance 10 = .ok (.invokevirtual 98, 3) := by decide +kernel
theorem dX0_distance_13 : decode cX0_distance 13 = .ok (.pop, 1) := by decide +kernel
theorem dX0_distance_14 : decode cX0_distance 14 = .ok (.aload_n 0, 1) := by decide +kernel
theorem dX0_distance_15 : decode cX0_distance 15 = .ok (.getfield 24, 3) := by decide +kernel
theorem dX0_distance_18 : decode cX0_distance 18 = .ok (.iload_n 2, 1) := by decide +kernel
theorem dX0_distance_19 : decode cX0_distance 19 = .ok (.iaload, 1) := by decide +kernel
theorem dX0_distance_20 : decode cX0_distance 20 = .ok (.ireturn, 1) := by decide +kernel
theorem dX0_sizeOf_0 : decode cX0_sizeOf 0 = .ok (.iload_n 1, 1) := by decide +kernel
theorem dX0_sizeOf_1 : decode cX0_sizeOf 1 = .ok (.ifCond .lt 20, 3) := by decide +kernel
theorem dX0_sizeOf_4 : decode cX0_sizeOf 4 = .ok (.iload_n 1, 1) := by decide +kernel
theorem dX0_sizeOf_5 : decode cX0_sizeOf 5 = .ok (.aload_n 0, 1) := by decide +kernel
theorem dX0_sizeOf_6 : decode cX0_sizeOf 6 = .ok (.getfield 91, 3) := by decide +kernel
theorem dX0_sizeOf_9 : decode cX0_sizeOf 9 = .ok (.if_icmp .ge 12, 3) := by decide +kernel
theorem dX0_sizeOf_12 : decode cX0_sizeOf 12 = .ok (.aload_n 0, 1) := by decide +kernel
theorem dX0_sizeOf_13 : decode cX0_sizeOf 13 = .ok (.getfield 18, 3) := by decide +kernel
theorem dX0_sizeOf_16 : decode cX0_sizeOf 16 = .ok (.iload_n 1, 1) := by decide +kernel
theorem dX0_sizeOf_17 : decode cX0_sizeOf 17 = .ok (.iaload, 1) := by decide +kernel
theorem dX0_sizeOf_18 : decode cX0_sizeOf 18 = .ok (.goto 4, 3) := by decide +kernel
theorem dX0_sizeOf_21 : decode cX0_sizeOf 21 = .ok (.iconst 0, 1) := by decide +kernel
theorem dX0_sizeOf_22 : decode cX0_sizeOf 22 = .ok (.ireturn, 1) := by decide +kernel
theorem dX0_greatest_0 : decode cX0_greatest 0 = .ok (.iconst (-1), 1) := by decide +kernel
theorem dX0_greatest_1 : decode cX0_greatest 1 = .ok (.istore_n 1, 1) := by decide +kernel
theorem dX0_greatest_2 : decode cX0_greatest 2 = .ok (.iconst 0, 1) := by decide +kernel
theorem dX0_greatest_3 : decode cX0_greatest 3 = .ok (.istore_n 2, 1) := by decide +kernel
theorem dX0_greatest_4 : decode cX0_greatest 4 = .ok (.iload_n 2, 1) := by decide +kernel
theorem dX0_greatest_5 : decode cX0_greatest 5 = .ok (.aload_n 0, 1) := by decide +kernel
theorem dX0_greatest_6 : decode cX0_greatest 6 = .ok (.getfield 91, 3) := by decide +kernel
theorem dX0_greatest_9 : decode cX0_greatest 9 = .ok (.if_icmp .ge 24, 3) := by decide +kernel
theorem dX0_greatest_12 : decode cX0_greatest 12 = .ok (.aload_n 0, 1) := by decide +kernel
theorem dX0_greatest_13 : decode cX0_greatest 13 = .ok (.iload_n 2, 1) := by decide +kernel
theorem dX0_greatest_14 : decode cX0_greatest 14 = .ok (.invokevirtual 101, 3) := by decide +kernel
theorem dX0_greatest_17 : decode cX0_greatest 17 = .ok (.aload_n 0, 1) := by decide +kernel
theorem dX0_greatest_18 : decode cX0_greatest 18 = .ok (.iload_n 1, 1) := by decide +kernel
theorem dX0_greatest_19 : decode cX0_greatest 19 = .ok (.invokevirtual 101, 3) := by decide +kernel
theorem dX0_greatest_22 : decode cX0_greatest 22 = .ok (.if_icmp .le 5, 3) := by decide +kernel
theorem dX0_greatest_25 : decode cX0_greatest 25 = .ok (.iload_n 2, 1) := by decide +kernel
theorem dX0_greatest_26 : decode cX0_greatest 26 = .ok (.istore_n 1, 1) := by decide +kernel
theorem dX0_greatest_27 : decode cX0_greatest 27 = .ok (.iinc 2 1, 3) := by decide +kernel
theorem dX0_greatest_30 : decode cX0_greatest 30 = .ok (.goto (-26), 3) := by decide +kernel
theorem dX0_greatest_33 : decode cX0_greatest 33 = .ok (.iload_n 1, 1) := by decide +kernel
theorem dX0_greatest_34 : decode cX0_greatest 34 = .ok (.ireturn, 1) := by decide +kernel
theorem dX0_codeOf_0 : decode cX0_codeOf 0 = .ok (.iconst 0, 1) := by decide +kernel
theorem dX0_codeOf_1 : decode cX0_codeOf 1 = .ok (.istore_n 3, 1) := by decide +kernel
theorem dX0_codeOf_2 : decode cX0_codeOf 2 = .ok (.iconst 0, 1) := by decide +kernel
theorem dX0_codeOf_3 : decode cX0_codeOf 3 = .ok (.istore 4, 2) := by decide +kernel
theorem dX0_codeOf_5 : decode cX0_codeOf 5 = .ok (.iload 4, 2) := by decide +kernel
theorem dX0_codeOf_7 : decode cX0_codeOf 7 = .ok (.aload_n 0, 1) := by decide +kernel
theorem dX0_codeOf_8 : decode cX0_codeOf 8 = .ok (.getfield 27, 3) := by decide +kernel
theorem dX0_codeOf_11 : decode cX0_codeOf 11 = .ok (.getfield 61, 3) := by decide +kernel
theorem dX0_codeOf_14 : decode cX0_codeOf 14 = .ok (.if_icmp .ge 39, 3) := by decide +kernel
theorem dX0_codeOf_17 : decode cX0_codeOf 17 = .ok (.aload_n 0, 1) := by decide +kernel
theorem dX0_codeOf_18 : decode cX0_codeOf 18 = .ok (.getfield 15, 3) := by decide +kernel
theorem dX0_codeOf_21 : decode cX0_codeOf 21 = .ok (.iload 4, 2) := by decide +kernel
theorem dX0_codeOf_23 : decode cX0_codeOf 23 = .ok (.iaload, 1) := by decide +kernel
theorem dX0_codeOf_24 : decode cX0_codeOf 24 = .ok (.iload_n 1, 1) := by decide +kernel
theorem dX0_codeOf_25 : decode cX0_codeOf 25 = .ok (.if_icmp .ne 22, 3) := by decide +kernel
theorem dX0_codeOf_28 : decode cX0_codeOf 28 = .ok (.iload_n 3, 1) := by decide +kernel
theorem dX0_codeOf_29 : decode cX0_codeOf 29 = .ok (.iload_n 2, 1) := by decide +kernel
theorem dX0_codeOf_30 : decode cX0_codeOf 30 = .ok (.if_icmp .ne 14, 3) := by decide +kernel
theorem dX0_codeOf_33 : decode cX0_codeOf 33 = .ok (.aload_n 0, 1) := by decide +kernel
theorem dX0_codeOf_34 : decode cX0_codeOf 34 = .ok (.getfield 27, 3) := by decide +kernel
theorem dX0_codeOf_37 : decode cX0_codeOf 37 = .ok (.getfield 71, 3) := by decide +kernel
theorem dX0_codeOf_40 : decode cX0_codeOf 40 = .ok (.iload 4, 2) := by decide +kernel
theorem dX0_codeOf_42 : decode cX0_codeOf 42 = .ok (.iaload, 1) := by decide +kernel
theorem dX0_codeOf_43 : decode cX0_codeOf 43 = .ok (.ireturn, 1) := by decide +kernel
theorem dX0_codeOf_44 : decode cX0_codeOf 44 = .ok (.iinc 3 1, 3) := by decide +kernel
theorem dX0_codeOf_47 : decode cX0_codeOf 47 = .ok (.iinc 4 1, 3) := by decide +kernel
theorem dX0_codeOf_50 : decode cX0_codeOf 50 = .ok (.goto (-45), 3) := by decide +kernel
theorem dX0_codeOf_53 : decode cX0_codeOf 53 = .ok (.iconst (-1), 1) := by decide +kernel
theorem dX0_codeOf_54 : decode cX0_codeOf 54 = .ok (.ireturn, 1) := by decide +kernel
theorem dX1_init_0 : decode cX1_init 0 = .ok (.aload_n 0, 1) := by decide +kernel
theorem dX1_init_1 : decode cX1_init 1 = .ok (.invokespecial 3, 3) := by decide +kernel
theorem dX1_init_4 : decode cX1_init 4 = .ok (.aload_n 0, 1) := by decide +kernel
theorem dX1_init_5 : decode cX1_init 5 = .ok (.bipush 64, 2) := by decide +kernel
theorem dX1_init_7 : decode cX1_init 7 = .ok (.newarray .int, 2) := by decide +kernel
theorem dX1_init_9 : decode cX1_init 9 = .ok (.putfield 9, 3) := by decide +kernel
theorem dX1_init_12 : decode cX1_init 12 = .ok (.aload_n 0, 1) := by decide +kernel
theorem dX1_init_13 : decode cX1_init 13 = .ok (.bipush 8, 2) := by decide +kernel
theorem dX1_init_15 : decode cX1_init 15 = .ok (.newarray .int, 2) := by decide +kernel
theorem dX1_init_17 : decode cX1_init 17 = .ok (.putfield 15, 3) := by decide +kernel
theorem dX1_init_20 : decode cX1_init 20 = .ok (.aload_n 0, 1) := by decide +kernel
theorem dX1_init_21 : decode cX1_init 21 = .ok (.bipush 8, 2) := by decide +kernel
theorem dX1_init_23 : decode cX1_init 23 = .ok (.newarray .int, 2) := by decide +kernel
theorem dX1_init_25 : decode cX1_init 25 = .ok (.putfield 18, 3) := by decide +kernel
theorem dX1_init_28 : decode cX1_init 28 = .ok (.aload_n 0, 1) := by decide +kernel
theorem dX1_init_29 : decode cX1_init 29 = .ok (.bipush 64, 2) := by decide +kernel
theorem dX1_init_31 : decode cX1_init 31 = .ok (.newarray .int, 2) := by decide +kernel
theorem dX1_init_33 : decode cX1_init 33 = .ok (.putfield 21, 3) := by decide +kernel
theorem dX1_init_36 : decode cX1_init 36 = .ok (.aload_n 0, 1) := by decide +kernel
theorem dX1_init_37 : decode cX1_init 37 = .ok (.sipush 256, 3) := by decide +kernel
theorem dX1_init_40 : decode cX1_init 40 = .ok (.newarray .int, 2) := by decide +kernel
theorem dX1_init_42 : decode cX1_init 42 = .ok (.putfield 24, 3) := by decide +kernel
theorem dX1_init_45 : decode cX1_init 45 = .ok (.aload_n 0, 1) := by decide +kernel
theorem dX1_init_46 : decode cX1_init 46 = .ok (.iconst 0, 1) := by decide +kernel
theorem dX1_init_47 : decode cX1_init 47 = .ok (.iconst 1, 1) := by decide +kernel
theorem dX1_init_48 : decode cX1_init 48 = .ok (.invokevirtual 27, 3) := by decide +kernel
theorem dX1_init_51 : decode cX1_init 51 = .ok (.return_, 1) := by decide +kernel
theorem dX1_exists_0 : decode cX1_exists 0 = .ok (.iload_n 0, 1) := by decide +kernel
theorem dX1_exists_1 : decode cX1_exists 1 = .ok (.ifCond .lt 29, 3) := by decide +kernel
theorem dX1_exists_4 : decode cX1_exists 4 = .ok (.iload_n 0, 1) := by decide +kernel
theorem dX1_exists_5 : decode cX1_exists 5 = .ok (.getstatic 31, 3) := by decide +kernel
theorem dX1_exists_8 : decode cX1_exists 8 = .ok (.arraylength, 1) := by decide +kernel
theorem dX1_exists_9 : decode cX1_exists 9 = .ok (.if_icmp .ge 21, 3) := by decide +kernel
theorem dX1_exists_12 : decode cX1_exists 12 = .ok (.iload_n 1, 1) := by decide +kernel
theorem dX1_exists_13 : decode cX1_exists 13 = .ok (.iconst 1, 1) := by decide +kernel
theorem dX1_exists_14 : decode cX1_exists 14 = .ok (.if_icmp .lt 16, 3) := by decide +kernel
theorem dX1_exists_17 : decode cX1_exists 17 = .ok (.iload_n 1, 1) := by decide +kernel
theorem dX1_exists_18 : decode cX1_exists 18 = .ok (.getstatic 31, 3) := by decide +kernel
theorem dX1_exists_21 : decode cX1_exists 21 = .ok (.iload_n 0, 1) := by decide +kernel
theorem dX1_exists_22 : decode cX1_exists 22 = .ok (.iaload, 1) := by decide +kernel
theorem dX1_exists_23 : decode cX1_exists 23 = .ok (.if_icmp .gt 7, 3) := by decide +kernel
theorem dX1_exists_26 : decode cX1_exists 26 = .ok (.iconst 1, 1) := by decide +kernel
theorem dX1_exists_27 : decode cX1_exists 27 = .ok (.goto 4, 3) := by decide +kernel
theorem dX1_exists_30 : decode cX1_exists 30 = .ok (.iconst 0, 1) := by decide +kernel
theorem dX1_exists_31 : decode cX1_exists 31 = .ok (.ireturn, 1) := by decide +kernel
theorem dX1_become_0 : decode cX1_become 0 = .ok (.aload_n 0, 1) := by decide +kernel
theorem dX1_become_1 : decode cX1_become 1 = .ok (.iload_n 1, 1) := by decide +kernel
theorem dX1_become_2 : decode cX1_become 2 = .ok (.putfield 34, 3) := by decide +kernel
theorem dX1_become_5 : decode cX1_become 5 = .ok (.aload_n 0, 1) := by decide +kernel
theorem dX1_become_6 : decode cX1_become 6 = .ok (.iload_n 2, 1) := by decide +kernel
theorem dX1_become_7 : decode cX1_become 7 = .ok (.putfield 38, 3) := by decide +kernel
theorem dX1_become_10 : decode cX1_become 10 = .ok (.aload_n 0, 1) := by decide +kernel
theorem dX1_become_11 : decode cX1_become 11 = .ok (.aload_n 0, 1) := by decide +kernel
theorem dX1_become_12 : decode cX1_become 12 = .ok (.invokevirtual 41, 3) := by decide +kernel
theorem dX1_become_15 : decode cX1_become 15 = .ok (.putfield 45, 3) := by decide +kernel
theorem dX1_become_18 : decode cX1_become 18 = .ok (.iconst 0, 1) := by decide +kernel
theorem dX1_become_19 : decode cX1_become 19 = .ok (.istore_n 3, 1) := by decide +kernel
theorem dX1_become_20 : decode cX1_become 20 = .ok (.iload_n 3, 1) := by decide +kernel
theorem dX1_become_21 : decode cX1_become 21 = .ok (.aload_n 0, 1) := by decide +kernel
theorem dX1_become_22 : decode cX1_become 22 = .ok (.getfield 45, 3) := by decide +kernel
theorem dX1_become_25 : decode cX1_become 25 = .ok (.if_icmp .ge 46, 3) := by decide +kernel
theorem dX1_become_28 : decode cX1_become 28 = .ok (.iconst 0, 1) := by decide +kernel
theorem dX1_become_29 : decode cX1_become 29 = .ok (.istore 4, 2) := by decide +kernel
theorem dX1_become_31 : decode cX1_become 31 = .ok (.iload 4, 2) := by decide +kernel
theorem dX1_become_33 : decode cX1_become 33 = .ok (.aload_n 0, 1) := by decide +kernel
theorem dX1_become_34 : decode cX1_become 34 = .ok (.getfield 45, 3) := by decide +kernel
theorem dX1_become_37 : decode cX1_become 37 = .ok (.if_icmp .ge 28, 3) := by decide +kernel
theorem dX1_become_40 : decode cX1_become 40 = .ok (.aload_n 0, 1) := by decide +kernel
theorem dX1_become_41 : decode cX1_become 41 = .ok (.getfield 9, 3) := by decide +kernel
theorem dX1_become_44 : decode cX1_become 44 = .ok (.iload_n 3, 1) := by decide +kernel
theorem dX1_become_45 : decode cX1_become 45 = .ok (.bipush 8, 2) := by decide +kernel
theorem dX1_become_47 : decode cX1_become 47 = .ok (.imul, 1) := by decide +kernel
theorem dX1_become_48 : decode cX1_become 48 = .ok (.iload 4, 2) := by decide +kernel
theorem dX1_become_50 : decode cX1_become 50 = .ok (.iadd, 1) := by decide +kernel
theorem dX1_become_51 : decode cX1_become 51 = .ok (.aload_n 0, 1) := by decide +kernel
theorem dX1_become_52 : decode cX1_become 52 = .ok (.iload_n 3, 1) := by decide +kernel
theorem dX1_become_53 : decode cX1_become 53 = .ok (.iload 4, 2) := by decide +kernel
theorem dX1_become_55 : decode cX1_become 55 = .ok (.invokevirtual 48, 3) := by decide +kernel
theorem dX1_become_58 : decode cX1_become 58 = .ok (.iastore, 1) := by decide +kernel
theorem dX1_become_59 : decode cX1_become 59 = .ok (.iinc 4 1, 3) := by decide +kernel
theorem dX1_become_62 : decode cX1_become 62 = .ok (.goto (-31), 3) := by decide +kernel
theorem dX1_become_65 : decode cX1_become 65 = .ok (.iinc 3 1, 3) := by decide +kernel
theorem dX1_become_68 : decode cX1_become 68 = .ok (.goto (-48), 3) := by decide +kernel
theorem dX1_become_71 : decode cX1_become 71 = .ok (.iconst 0, 1) := by decide +kernel
theorem dX1_become_72 : decode cX1_become 72 = .ok (.istore_n 3, 1) := by decide +kernel
theorem dX1_become_73 : decode cX1_become 73 = .ok (.iload_n 3, 1) := by decide +kernel
theorem dX1_become_74 : decode cX1_become 74 = .ok (.aload_n 0, 1) := by decide +kernel
theorem dX1_become_75 : decode cX1_become 75 = .ok (.getfield 45, 3) := by decide +kernel
theorem dX1_become_78 : decode cX1_become 78 = .ok (.if_icmp .ge 14, 3) := by decide +kernel
theorem dX1_become_81 : decode cX1_become 81 = .ok (.aload_n 0, 1) := by decide +kernel
theorem dX1_become_82 : decode cX1_become 82 = .ok (.iload_n 3, 1) := by decide +kernel
theorem dX1_become_83 : decode cX1_become 83 = .ok (.invokevirtual 52, 3) := by decide +kernel
theorem dX1_become_86 : decode cX1_become 86 = .ok (.iinc 3 1, 3) := by decide +kernel
theorem dX1_become_89 : decode cX1_become 89 = .ok (.goto (-16), 3) := by decide +kernel
theorem dX1_become_92 : decode cX1_become 92 = .ok (.aload_n 0, 1) := by decide +kernel
theorem dX1_become_93 : decode cX1_become 93 = .ok (.invokevirtual 56, 3) := by decide +kernel
theorem dX1_become_96 : decode cX1_become 96 = .ok (.aload_n 0, 1) := by decide +kernel
theorem dX1_become_97 : decode cX1_become 97 = .ok (.invokevirtual 59, 3) := by decide +kernel
theorem dX1_become_100 : decode cX1_become 100 = .ok (.return_, 1) := by decide +kernel
theorem dX1_sizeByFamily_0 : decode cX1_sizeByFamily 0 = .ok (.aload_n 0, 1) := by decide +kernel
theorem dX1_sizeByFamily_1 : decode cX1_sizeByFamily 1 = .ok (.getfield 34, 3) := by decide +kernel
theorem dX1_sizeByFamily_4 : decode cX1_sizeByFamily 4 = .ok (.tableswitch 47 0 2 #[28, 33, 40], 28) := by decide +kernel
theorem dX1_sizeByFamily_32 : decode cX1_sizeByFamily 32 = .ok (.aload_n 0, 1) := by decide +kernel
theorem dX1_sizeByFamily_33 : decode cX1_sizeByFamily 33 = .ok (.getfield 38, 3) := by decide +kernel
theorem dX1_sizeByFamily_36 : decode cX1_sizeByFamily 36 = .ok (.ireturn, 1) := by decide +kernel
theorem dX1_sizeByFamily_37 : decode cX1_sizeByFamily 37 = .ok (.iconst 2, 1) := by decide +kernel
theorem dX1_sizeByFamily_38 : decode cX1_sizeByFamily 38 = .ok (.aload_n 0, 1) := by decide +kernel
theorem dX1_sizeByFamily_39 : decode cX1_sizeByFamily 39 = .ok (.getfield 38, 3) := by decide +kernel
theorem dX1_sizeByFamily_42 : decode cX1_sizeByFamily 42 = .ok (.imul, 1) := by decide +kernel
theorem dX1_sizeByFamily_43 : decode cX1_sizeByFamily 43 = .ok (.ireturn, 1) := by decide +kernel
theorem dX1_sizeByFamily_44 : decode cX1_sizeByFamily 44 = .ok (.iconst 1, 1) := by decide +kernel
theorem dX1_sizeByFamily_45 : decode cX1_sizeByFamily 45 = .ok (.aload_n 0, 1) := by decide +kernel
theorem dX1_sizeByFamily_46 : decode cX1_sizeByFamily 46 = .ok (.getfield 38, 3) := by decide +kernel
theorem dX1_sizeByFamily_49 : decode cX1_sizeByFamily 49 = .ok (.ishl, 1) := by decide +kernel
theorem dX1_sizeByFamily_50 : decode cX1_sizeByFamily 50 = .ok (.ireturn, 1) := by decide +kernel
theorem dX1_sizeByFamily_51 : decode cX1_sizeByFamily 51 = .ok (.bipush 8, 2) := by decide +kernel
theorem dX1_sizeByFamily_53 : decode cX1_sizeByFamily 53 = .ok (.ireturn, 1) := by decide +kernel
theorem dX1_multiplied_0 : decode cX1_multiplied 0 = .ok (.aload_n 0, 1) := by decide +kernel
theorem dX1_multiplied_1 : decode cX1_multiplied 1 = .ok (.getfield 34, 3) := by decide +kernel
theorem dX1_multiplied_4 : decode cX1_multiplied 4 = .ok (.tableswitch 47 0 2 #[28, 36, 43], 28) := by decide +kernel
theorem dX1_multiplied_32 : decode cX1_multiplied 32 = .ok (.aload_n 0, 1) := by decide +kernel
theorem dX1_multiplied_33 : decode cX1_multiplied 33 = .ok (.iload_n 1, 1) := by decide +kernel
theorem dX1_multiplied_34 : decode cX1_multiplied 34 = .ok (.iload_n 2, 1) := by decide +kernel
theorem dX1_multiplied_35 : decode cX1_multiplied 35 = .ok (.iadd, 1) := by decide +kernel
theorem dX1_multiplied_36 : decode cX1_multiplied 36 = .ok (.invokevirtual 62, 3) := by decide +kernel
theorem dX1_multiplied_39 : decode cX1_multiplied 39 = .ok (.ireturn, 1) := by decide +kernel
theorem dX1_multiplied_40 : decode cX1_multiplied 40 = .ok (.aload_n 0, 1) := by decide +kernel
theorem dX1_multiplied_41 : decode cX1_multiplied 41 = .ok (.iload_n 1, 1) := by decide +kernel
theorem dX1_multiplied_42 : decode cX1_multiplied 42 = .ok (.iload_n 2, 1) := by decide +kernel
theorem dX1_multiplied_43 : decode cX1_multiplied 43 = .ok (.invokevirtual 66, 3) := by decide +kernel
theorem dX1_multiplied_46 : decode cX1_multiplied 46 = .ok (.ireturn, 1) := by decide +kernel
theorem dX1_multiplied_47 : decode cX1_multiplied 47 = .ok (.iload_n 1, 1) := by decide +kernel
theorem dX1_multiplied_48 : decode cX1_multiplied 48 = .ok (.iload_n 2, 1) := by decide +kernel
theorem dX1_multiplied_49 : decode cX1_multiplied 49 = .ok (.ixor, 1) := by decide +kernel
theorem dX1_multiplied_50 : decode cX1_multiplied 50 = .ok (.ireturn, 1) := by decide +kernel
theorem dX1_multiplied_51 : decode cX1_multiplied 51 = .ok (.aload_n 0, 1) := by decide +kernel
theorem dX1_multiplied_52 : decode cX1_multiplied 52 = .ok (.iload_n 1, 1) := by decide +kernel
theorem dX1_multiplied_53 : decode cX1_multiplied 53 = .ok (.iload_n 2, 1) := by decide +kernel
theorem dX1_multiplied_54 : decode cX1_multiplied 54 = .ok (.invokevirtual 69, 3) := by decide +kernel
theorem dX1_multiplied_57 : decode cX1_multiplied 57 = .ok (.ireturn, 1) := by decide +kernel
theorem dX1_intoRing_0 : decode cX1_intoRing 0 = .ok (.iload_n 1, 1) := by decide +kernel
theorem dX1_intoRing_1 : decode cX1_intoRing 1 = .ok (.ifCond .ge 10, 3) := by decide +kernel
theorem dX1_intoRing_4 : decode cX1_intoRing 4 = .ok (.iload_n 1, 1) := by decide +kernel
theorem dX1_intoRing_5 : decode cX1_intoRing 5 = .ok (.aload_n 0, 1) := by decide +kernel
theorem dX1_intoRing_6 : decode cX1_intoRing 6 = .ok (.getfield 38, 3) := by decide +kernel
theorem dX1_intoRing_9 : decode cX1_intoRing 9 = .ok (.iadd, 1) := by decide +kernel
theorem dX1_intoRing_10 : decode cX1_intoRing 10 = .ok (.ireturn, 1) := by decide +kernel
theorem dX1_intoRing_11 : decode cX1_intoRing 11 = .ok (.iload_n 1, 1) := by decide +kernel
theorem dX1_intoRing_12 : decode cX1_intoRing 12 = .ok (.aload_n 0, 1) := by decide +kernel
theorem dX1_intoRing_13 : decode cX1_intoRing 13 = .ok (.getfield 38, 3) := by decide +kernel
theorem dX1_intoRing_16 : decode cX1_intoRing 16 = .ok (.if_icmp .ge 7, 3) := by decide +kernel
theorem dX1_intoRing_19 : decode cX1_intoRing 19 = .ok (.iload_n 1, 1) := by decide +kernel
theorem dX1_intoRing_20 : decode cX1_intoRing 20 = .ok (.goto 9, 3) := by decide +kernel
theorem dX1_intoRing_23 : decode cX1_intoRing 23 = .ok (.iload_n 1, 1) := by decide +kernel
theorem dX1_intoRing_24 : decode cX1_intoRing 24 = .ok (.aload_n 0, 1) := by decide +kernel
theorem dX1_intoRing_25 : decode cX1_intoRing 25 = .ok (.getfield 38, 3) := by decide +kernel
theorem dX1_intoRing_28 : decode cX1_intoRing 28 = .ok (.isub, 1) := by decide +kernel
theorem dX1_intoRing_29 : decode cX1_intoRing 29 = .ok (.ireturn, 1) := by decide +kernel
theorem dX1_mirrored_0 : decode cX1_mirrored 0 = .ok (.iload_n 1, 1) := by decide +kernel
theorem dX1_mirrored_1 : decode cX1_mirrored 1 = .ok (.aload_n 0, 1) := by decide +kernel
theorem dX1_mirrored_2 : decode cX1_mirrored 2 = .ok (.getfield 38, 3) := by decide +kernel
theorem dX1_mirrored_5 : decode cX1_mirrored 5 = .ok (.if_icmp .ge 7, 3) := by decide +kernel
theorem dX1_mirrored_8 : decode cX1_mirrored 8 = .ok (.iconst 0, 1) := by decide +kernel
theorem dX1_mirrored_9 : decode cX1_mirrored 9 = .ok (.goto 4, 3) := by decide +kernel
theorem dX1_mirrored_12 : decode cX1_mirrored 12 = .ok (.iconst 1, 1) := by decide +kernel
theorem dX1_mirrored_13 : decode cX1_mirrored 13 = .ok (.istore_n 3, 1) := by decide +kernel
theorem dX1_mirrored_14 : decode cX1_mirrored 14 = .ok (.iload_n 2, 1) := by decide +kernel
theorem dX1_mirrored_15 : decode cX1_mirrored 15 = .ok (.aload_n 0, 1) := by decide +kernel
theorem dX1_mirrored_16 : decode cX1_mirrored 16 = .ok (.getfield 38, 3) := by decide +kernel
theorem dX1_mirrored_19 : decode cX1_mirrored 19 = .ok (.if_icmp .ge 7, 3) := by decide +kernel
theorem dX1_mirrored_22 : decode cX1_mirrored 22 = .ok (.iconst 0, 1) := by decide +kernel
theorem dX1_mirrored_23 : decode cX1_mirrored 23 = .ok (.goto 4, 3) := by decide +kernel
theorem dX1_mirrored_26 : decode cX1_mirrored 26 = .ok (.iconst 1, 1) := by decide +kernel
theorem dX1_mirrored_27 : decode cX1_mirrored 27 = .ok (.istore 4, 2) := by decide +kernel
theorem dX1_mirrored_29 : decode cX1_mirrored 29 = .ok (.iload_n 1, 1) := by decide +kernel
theorem dX1_mirrored_30 : decode cX1_mirrored 30 = .ok (.aload_n 0, 1) := by decide +kernel
theorem dX1_mirrored_31 : decode cX1_mirrored 31 = .ok (.getfield 38, 3) := by decide +kernel
theorem dX1_mirrored_34 : decode cX1_mirrored 34 = .ok (.iload_n 3, 1) := by decide +kernel
theorem dX1_mirrored_35 : decode cX1_mirrored 35 = .ok (.imul, 1) := by decide +kernel
theorem dX1_mirrored_36 : decode cX1_mirrored 36 = .ok (.isub, 1) := by decide +kernel
theorem dX1_mirrored_37 : decode cX1_mirrored 37 = .ok (.istore 5, 2) := by decide +kernel
theorem dX1_mirrored_39 : decode cX1_mirrored 39 = .ok (.iload_n 2, 1) := by decide +kernel
theorem dX1_mirrored_40 : decode cX1_mirrored 40 = .ok (.aload_n 0, 1) := by decide +kernel
theorem dX1_mirrored_41 : decode cX1_mirrored 41 = .ok (.getfield 38, 3) := by decide +kernel
theorem dX1_mirrored_44 : decode cX1_mirrored 44 = .ok (.iload 4, 2) := by decide +kernel
theorem dX1_mirrored_46 : decode cX1_mirrored 46 = .ok (.imul, 1) := by decide +kernel
theorem dX1_mirrored_47 : decode cX1_mirrored 47 = .ok (.isub, 1) := by decide +kernel
theorem dX1_mirrored_48 : decode cX1_mirrored 48 = .ok (.istore 6, 2) := by decide +kernel
theorem dX1_mirrored_50 : decode cX1_mirrored 50 = .ok (.aload_n 0, 1) := by decide +kernel
theorem dX1_mirrored_51 : decode cX1_mirrored 51 = .ok (.iload_n 3, 1) := by decide +kernel
theorem dX1_mirrored_52 : decode cX1_mirrored 52 = .ok (.ifCond .ne 11, 3) := by decide +kernel
theorem dX1_mirrored_55 : decode cX1_mirrored 55 = .ok (.iload 5, 2) := by decide +kernel
theorem dX1_mirrored_57 : decode cX1_mirrored 57 = .ok (.iload 6, 2) := by decide +kernel
theorem dX1_mirrored_59 : decode cX1_mirrored 59 = .ok (.iadd, 1) := by decide +kernel
theorem dX1_mirrored_60 : decode cX1_mirrored 60 = .ok (.goto 8, 3) := by decide +kernel
theorem dX1_mirrored_63 : decode cX1_mirrored 63 = .ok (.iload 5, 2) := by decide +kernel
theorem dX1_mirrored_65 : decode cX1_mirrored 65 = .ok (.iload 6, 2) := by decide +kernel
theorem dX1_mirrored_67 : decode cX1_mirrored 67 = .ok (.isub, 1) := by decide +kernel
theorem dX1_mirrored_68 : decode cX1_mirrored 68 = .ok (.invokevirtual 62, 3) := by decide +kernel
theorem dX1_mirrored_71 : decode cX1_mirrored 71 = .ok (.istore 7, 2) := by decide +kernel
theorem dX1_mirrored_73 : decode cX1_mirrored 73 = .ok (.iload 7, 2) := by decide +kernel
theorem dX1_mirrored_75 : decode cX1_mirrored 75 = .ok (.aload_n 0, 1) := by decide +kernel
theorem dX1_mirrored_76 : decode cX1_mirrored 76 = .ok (.getfield 38, 3) := by decide +kernel
theorem dX1_mirrored_79 : decode cX1_mirrored 79 = .ok (.iload_n 3, 1) := by decide +kernel
theorem dX1_mirrored_80 : decode cX1_mirrored 80 = .ok (.iload 4, 2) := by decide +kernel
theorem dX1_mirrored_82 : decode cX1_mirrored 82 = .ok (.ixor, 1) := by decide +kernel
theorem dX1_mirrored_83 : decode cX1_mirrored 83 = .ok (.imul, 1) := by decide +kernel
theorem dX1_mirrored_84 : decode cX1_mirrored 84 = .ok (.iadd, 1) := by decide +kernel
theorem dX1_mirrored_85 : decode cX1_mirrored 85 = .ok (.ireturn, 1) := by decide +kernel
theorem dX1_crossed_0 : decode cX1_crossed 0 = .ok (.iload_n 1, 1) := by decide +kernel
theorem dX1_crossed_1 : decode cX1_crossed 1 = .ok (.iconst 3, 1) := by decide +kernel
theorem dX1_crossed_2 : decode cX1_crossed 2 = .ok (.iand, 1) := by decide +kernel
theorem dX1_crossed_3 : decode cX1_crossed 3 = .ok (.istore_n 3, 1) := by decide +kernel
theorem dX1_crossed_4 : decode cX1_crossed 4 = .ok (.iload_n 2, 1) := by decide +kernel
theorem dX1_crossed_5 : decode cX1_crossed 5 = .ok (.iconst 3, 1) := by decide +kernel
theorem dX1_crossed_6 : decode cX1_crossed 6 = .ok (.iand, 1) := by decide +kernel
theorem dX1_crossed_7 : decode cX1_crossed 7 = .ok (.istore 4, 2) := by decide +kernel
theorem dX1_crossed_9 : decode cX1_crossed 9 = .ok (.iload_n 1, 1) := by decide +kernel
theorem dX1_crossed_10 : decode cX1_crossed 10 = .ok (.iconst 2, 1) := by decide +kernel
theorem dX1_crossed_11 : decode cX1_crossed 11 = .ok (.ishr, 1) := by decide +kernel
theorem dX1_crossed_12 : decode cX1_crossed 12 = .ok (.iload_n 2, 1) := by decide +kernel
theorem dX1_crossed_13 : decode cX1_crossed 13 = .ok (.iconst 2, 1) := by decide +kernel
theorem dX1_crossed_14 : decode cX1_crossed 14 = .ok (.ishr, 1) := by decide +kernel
theorem dX1_crossed_15 : decode cX1_crossed 15 = .ok (.ixor, 1) := by decide +kernel
theorem dX1_crossed_16 : decode cX1_crossed 16 = .ok (.istore 5, 2) := by decide +kernel
theorem dX1_crossed_18 : decode cX1_crossed 18 = .ok (.iload_n 3, 1) := by decide +kernel
theorem dX1_crossed_19 : decode cX1_crossed 19 = .ok (.ifCond .eq 8, 3) := by decide +kernel
theorem dX1_crossed_22 : decode cX1_crossed 22 = .ok (.iload 4, 2) := by decide +kernel
theorem dX1_crossed_24 : decode cX1_crossed 24 = .ok (.ifCond .ne 13, 3) := by decide +kernel
theorem dX1_crossed_27 : decode cX1_crossed 27 = .ok (.iload_n 3, 1) := by decide +kernel
theorem dX1_crossed_28 : decode cX1_crossed 28 = .ok (.iload 4, 2) := by decide +kernel
theorem dX1_crossed_30 : decode cX1_crossed 30 = .ok (.iadd, 1) := by decide +kernel
theorem dX1_crossed_31 : decode cX1_crossed 31 = .ok (.iconst 4, 1) := by decide +kernel
theorem dX1_crossed_32 : decode cX1_crossed 32 = .ok (.iload 5, 2) := by decide +kernel
theorem dX1_crossed_34 : decode cX1_crossed 34 = .ok (.imul, 1) := by decide +kernel
theorem dX1_crossed_35 : decode cX1_crossed 35 = .ok (.iadd, 1) := by decide +kernel
theorem dX1_crossed_36 : decode cX1_crossed 36 = .ok (.ireturn, 1) := by decide +kernel
theorem dX1_crossed_37 : decode cX1_crossed 37 = .ok (.iload_n 3, 1) := by decide +kernel
theorem dX1_crossed_38 : decode cX1_crossed 38 = .ok (.iload 4, 2) := by decide +kernel
theorem dX1_crossed_40 : decode cX1_crossed 40 = .ok (.if_icmp .ne 10, 3) := by decide +kernel
theorem dX1_crossed_43 : decode cX1_crossed 43 = .ok (.iconst 4, 1) := by decide +kernel
theorem dX1_crossed_44 : decode cX1_crossed 44 = .ok (.iconst 1, 1) := by decide +kernel
theorem dX1_crossed_45 : decode cX1_crossed 45 = .ok (.iload 5, 2) := by decide +kernel
theorem dX1_crossed_47 : decode cX1_crossed 47 = .ok (.isub, 1) := by decide +kernel
theorem dX1_crossed_48 : decode cX1_crossed 48 = .ok (.imul, 1) := by decide +kernel
theorem dX1_crossed_49 : decode cX1_crossed 49 = .ok (.ireturn, 1) := by decide +kernel
theorem dX1_crossed_50 : decode cX1_crossed 50 = .ok (.bipush 6, 2) := by decide +kernel
theorem dX1_crossed_52 : decode cX1_crossed 52 = .ok (.iload_n 3, 1) := by decide +kernel
theorem dX1_crossed_53 : decode cX1_crossed 53 = .ok (.isub, 1) := by decide +kernel
theorem dX1_crossed_54 : decode cX1_crossed 54 = .ok (.iload 4, 2) := by decide +kernel
theorem dX1_crossed_56 : decode cX1_crossed 56 = .ok (.isub, 1) := by decide +kernel
theorem dX1_crossed_57 : decode cX1_crossed 57 = .ok (.istore 6, 2) := by decide +kernel
theorem dX1_crossed_59 : decode cX1_crossed 59 = .ok (.iload_n 3, 1) := by decide +kernel
theorem dX1_crossed_60 : decode cX1_crossed 60 = .ok (.iconst 3, 1) := by decide +kernel
theorem dX1_crossed_61 : decode cX1_crossed 61 = .ok (.if_icmp .ne 7, 3) := by decide +kernel
theorem dX1_crossed_64 : decode cX1_crossed 64 = .ok (.iconst 1, 1) := by decide +kernel
theorem dX1_crossed_65 : decode cX1_crossed 65 = .ok (.goto 6, 3) := by decide +kernel
theorem dX1_crossed_68 : decode cX1_crossed 68 = .ok (.iload_n 3, 1) := by decide +kernel
theorem dX1_crossed_69 : decode cX1_crossed 69 = .ok (.iconst 1, 1) := by decide +kernel
theorem dX1_crossed_70 : decode cX1_crossed 70 = .ok (.iadd, 1) := by decide +kernel
theorem dX1_crossed_71 : decode cX1_crossed 71 = .ok (.istore 7, 2) := by decide +kernel
theorem dX1_crossed_73 : decode cX1_crossed 73 = .ok (.iload 6, 2) := by decide +kernel
theorem dX1_crossed_75 : decode cX1_crossed 75 = .ok (.iconst 4, 1) := by decide +kernel
theorem dX1_crossed_76 : decode cX1_crossed 76 = .ok (.iload 4, 2) := by decide +kernel
theorem dX1_crossed_78 : decode cX1_crossed 78 = .ok (.iload 7, 2) := by decide +kernel
theorem dX1_crossed_80 : decode cX1_crossed 80 = .ok (.if_icmp .ne 8, 3) := by decide +kernel
theorem dX1_crossed_83 : decode cX1_crossed 83 = .ok (.iload 5, 2) := by decide +kernel
theorem dX1_crossed_85 : decode cX1_crossed 85 = .ok (.goto 7, 3) := by decide +kernel
theorem dX1_crossed_88 : decode cX1_crossed 88 = .ok (.iconst 1, 1) := by decide +kernel
theorem dX1_crossed_89 : decode cX1_crossed 89 = .ok (.iload 5, 2) := by decide +kernel
theorem dX1_crossed_91 : decode cX1_crossed 91 = .ok (.isub, 1) := by decide +kernel
theorem dX1_crossed_92 : decode cX1_crossed 92 = .ok (.imul, 1) := by decide +kernel
theorem dX1_crossed_93 : decode cX1_crossed 93 = .ok (.iadd, 1) := by decide +kernel
theorem dX1_crossed_94 : decode cX1_crossed 94 = .ok (.ireturn, 1) := by decide +kernel
theorem dX1_findInverseAndOrder_0 : decode cX1_findInverseAndOrder 0 = .ok (.iload_n 1, 1) := by decide +kernel
theorem dX1_findInverseAndOrder_1 : decode cX1_findInverseAndOrder 1 = .ok (.istore_n 2, 1) := by decide +kernel
theorem dX1_findInverseAndOrder_2 : decode cX1_findInverseAndOrder 2 = .ok (.iconst 1, 1) := by decide +kernel
theorem dX1_findInverseAndOrder_3 : decode cX1_findInverseAndOrder 3 = .ok (.istore_n 3, 1) := by decide +kernel
theorem dX1_findInverseAndOrder_4 : decode cX1_findInverseAndOrder 4 = .ok (.aload_n 0, 1) := by decide +kernel
theorem dX1_findInverseAndOrder_5 : decode cX1_findInverseAndOrder 5 = .ok (.getfield 15, 3) := by decide +kernel
theorem dX1_findInverseAndOrder_8 : decode cX1_findInverseAndOrder 8 = .ok (.iload_n 1, 1) := by decide +kernel
theorem dX1_findInverseAndOrder_9 : decode cX1_findInverseAndOrder 9 = .ok (.iconst 0, 1) := by decide +kernel
theorem dX1_findInverseAndOrder_10 : decode cX1_findInverseAndOrder 10 = .ok (.iastore, 1) := by decide +kernel
theorem dX1_findInverseAndOrder_11 : decode cX1_findInverseAndOrder 11 = .ok (.iload_n 2, 1) := by decide +kernel
theorem dX1_findInverseAndOrder_12 : decode cX1_findInverseAndOrder 12 = .ok (.ifCond .eq 29, 3) := by decide +kernel
theorem dX1_findInverseAndOrder_15 : decode cX1_findInverseAndOrder 15 = .ok (.iload_n 3, 1) := by decide +kernel
theorem dX1_findInverseAndOrder_16 : decode cX1_findInverseAndOrder 16 = .ok (.bipush 8, 2) := by decide +kernel
theorem dX1_findInverseAndOrder_18 : decode cX1_findInverseAndOrder 18 = .ok (.if_icmp .ge 23, 3) := by decide +kernel
theorem dX1_findInverseAndOrder_21 : decode cX1_findInverseAndOrder 21 = .ok (.aload_n 0, 1) := by decide +kernel
theorem dX1_findInverseAndOrder_22 : decode cX1_findInverseAndOrder 22 = .ok (.getfield 15, 3) := by decide +kernel
theorem dX1_findInverseAndOrder_25 : decode cX1_findInverseAndOrder 25 = .ok (.iload_n 1, 1) := by decide +kernel
theorem dX1_findInverseAndOrder_26 : decode cX1_findInverseAndOrder 26 = .ok (.iload_n 2, 1) := by decide +kernel
theorem dX1_findInverseAndOrder_27 : decode cX1_findInverseAndOrder 27 = .ok (.iastore, 1) := by decide +kernel
theorem dX1_findInverseAndOrder_28 : decode cX1_findInverseAndOrder 28 = .ok (.aload_n 0, 1) := by decide +kernel
theorem dX1_findInverseAndOrder_29 : decode cX1_findInverseAndOrder 29 = .ok (.iload_n 2, 1) := by decide +kernel
theorem dX1_findInverseAndOrder_30 : decode cX1_findInverseAndOrder 30 = .ok (.iload_n 1, 1) := by decide +kernel
theorem dX1_findInverseAndOrder_31 : decode cX1_findInverseAndOrder 31 = .ok (.invokevirtual 72, 3) := by decide +kernel
theorem dX1_findInverseAndOrder_34 : decode cX1_findInverseAndOrder 34 = .ok (.istore_n 2, 1) := by decide +kernel
theorem dX1_findInverseAndOrder_35 : decode cX1_findInverseAndOrder 35 = .ok (.iinc 3 1, 3) := by decide +kernel
theorem dX1_findInverseAndOrder_38 : decode cX1_findInverseAndOrder 38 = .ok (.goto (-27), 3) := by decide +kernel
theorem dX1_findInverseAndOrder_41 : decode cX1_findInverseAndOrder 41 = .ok (.aload_n 0, 1) := by decide +kernel
theorem dX1_findInverseAndOrder_42 : decode cX1_findInverseAndOrder 42 = .ok (.getfield 18, 3) := by decide +kernel
theorem dX1_findInverseAndOrder_45 : decode cX1_findInverseAndOrder 45 = .ok (.iload_n 1, 1) := by decide +kernel
theorem dX1_findInverseAndOrder_46 : decode cX1_findInverseAndOrder 46 = .ok (.iload_n 3, 1) := by decide +kernel
theorem dX1_findInverseAndOrder_47 : decode cX1_findInverseAndOrder 47 = .ok (.iastore, 1) := by decide +kernel
theorem dX1_findInverseAndOrder_48 : decode cX1_findInverseAndOrder 48 = .ok (.return_, 1) := by decide +kernel
theorem dX1_findConjugates_0 : decode cX1_findConjugates 0 = .ok (.iconst 0, 1) := by decide +kernel
theorem dX1_findConjugates_1 : decode cX1_findConjugates 1 = .ok (.istore_n 1, 1) := by decide +kernel
theorem dX1_findConjugates_2 : decode cX1_findConjugates 2 = .ok (.iload_n 1, 1) := by decide +kernel
theorem dX1_findConjugates_3 : decode cX1_findConjugates 3 = .ok (.aload_n 0, 1) := by decide +kernel
theorem dX1_findConjugates_4 : decode cX1_findConjugates 4 = .ok (.getfield 45, 3) := by decide +kernel
theorem dX1_findConjugates_7 : decode cX1_findConjugates 7 = .ok (.if_icmp .ge 52, 3) := by decide +kernel
theorem dX1_findConjugates_10 : decode cX1_findConjugates 10 = .ok (.iconst 0, 1) := by decide +kernel
theorem dX1_findConjugates_11 : decode cX1_findConjugates 11 = .ok (.istore_n 2, 1) := by decide +kernel
theorem dX1_findConjugates_12 : decode cX1_findConjugates 12 = .ok (.iload_n 2, 1) := by decide +kernel
theorem dX1_findConjugates_13 : decode cX1_findConjugates 13 = .ok (.aload_n 0, 1) := by decide +kernel
theorem dX1_findConjugates_14 : decode cX1_findConjugates 14 = .ok (.getfield 45, 3) := by decide +kernel
theorem dX1_findConjugates_17 : decode cX1_findConjugates 17 = .ok (.if_icmp .ge 36, 3) := by decide +kernel
theorem dX1_findConjugates_20 : decode cX1_findConjugates 20 = .ok (.aload_n 0, 1) := by decide +kernel
theorem dX1_findConjugates_21 : decode cX1_findConjugates 21 = .ok (.getfield 21, 3) := by decide +kernel
theorem dX1_findConjugates_24 : decode cX1_findConjugates 24 = .ok (.iload_n 1, 1) := by decide +kernel
theorem dX1_findConjugates_25 : decode cX1_findConjugates 25 = .ok (.bipush 8, 2) := by decide +kernel
theorem dX1_findConjugates_27 : decode cX1_findConjugates 27 = .ok (.imul, 1) := by decide +kernel
theorem dX1_findConjugates_28 : decode cX1_findConjugates 28 = .ok (.iload_n 2, 1) := by decide +kernel
theorem dX1_findConjugates_29 : decode cX1_findConjugates 29 = .ok (.iadd, 1) := by decide +kernel
theorem dX1_findConjugates_30 : decode cX1_findConjugates 30 = .ok (.aload_n 0, 1) := by decide +kernel
theorem dX1_findConjugates_31 : decode cX1_findConjugates 31 = .ok (.aload_n 0, 1) := by decide +kernel
theorem dX1_findConjugates_32 : decode cX1_findConjugates 32 = .ok (.aload_n 0, 1) := by decide +kernel
theorem dX1_findConjugates_33 : decode cX1_findConjugates 33 = .ok (.getfield 15, 3) := by decide +kernel
theorem dX1_findConjugates_36 : decode cX1_findConjugates 36 = .ok (.iload_n 2, 1) := by decide +kernel
theorem dX1_findConjugates_37 : decode cX1_findConjugates 37 = .ok (.iaload, 1) := by decide +kernel
theorem dX1_findConjugates_38 : decode cX1_findConjugates 38 = .ok (.iload_n 1, 1) := by decide +kernel
theorem dX1_findConjugates_39 : decode cX1_findConjugates 39 = .ok (.invokevirtual 72, 3) := by decide +kernel
theorem dX1_findConjugates_42 : decode cX1_findConjugates 42 = .ok (.iload_n 2, 1) := by decide +kernel
theorem dX1_findConjugates_43 : decode cX1_findConjugates 43 = .ok (.invokevirtual 72, 3) := by decide +kernel
theorem dX1_findConjugates_46 : decode cX1_findConjugates 46 = .ok (.iastore, 1) := by decide +kernel
theorem dX1_findConjugates_47 : decode cX1_findConjugates 47 = .ok (.iinc 2 1, 3) := by decide +kernel
theorem dX1_findConjugates_50 : decode cX1_findConjugates 50 = .ok (.goto (-38), 3) := by decide +kernel
theorem dX1_findConjugates_53 : decode cX1_findConjugates 53 = .ok (.iinc 1 1, 3) := by decide +kernel
theorem dX1_findConjugates_56 : decode cX1_findConjugates 56 = .ok (.goto (-54), 3) := by decide +kernel
theorem dX1_findConjugates_59 : decode cX1_findConjugates 59 = .ok (.return_, 1) := by decide +kernel
theorem dX1_findSpans_0 : decode cX1_findSpans 0 = .ok (.aload_n 0, 1) := by decide +kernel
theorem dX1_findSpans_1 : decode cX1_findSpans 1 = .ok (.getfield 24, 3) := by decide +kernel
theorem dX1_findSpans_4 : decode cX1_findSpans 4 = .ok (.iconst 0, 1) := by decide +kernel
theorem dX1_findSpans_5 : decode cX1_findSpans 5 = .ok (.iconst 1, 1) := by decide +kernel
theorem dX1_findSpans_6 : decode cX1_findSpans 6 = .ok (.iastore, 1) := by decide +kernel
theorem dX1_findSpans_7 : decode cX1_findSpans 7 = .ok (.iconst 0, 1) := by decide +kernel
theorem dX1_findSpans_8 : decode cX1_findSpans 8 = .ok (.istore_n 1, 1) := by decide +kernel
theorem dX1_findSpans_9 : decode cX1_findSpans 9 = .ok (.iload_n 1, 1) := by decide +kernel
theorem dX1_findSpans_10 : decode cX1_findSpans 10 = .ok (.aload_n 0, 1) := by decide +kernel
theorem dX1_findSpans_11 : decode cX1_findSpans 11 = .ok (.getfield 45, 3) := by decide +kernel
theorem dX1_findSpans_14 : decode cX1_findSpans 14 = .ok (.if_icmp .ge 62, 3) := by decide +kernel
theorem dX1_findSpans_17 : decode cX1_findSpans 17 = .ok (.iconst 1, 1) := by decide +kernel
theorem dX1_findSpans_18 : decode cX1_findSpans 18 = .ok (.iload_n 1, 1) := by decide +kernel
theorem dX1_findSpans_19 : decode cX1_findSpans 19 = .ok (.ishl, 1) := by decide +kernel
theorem dX1_findSpans_20 : decode cX1_findSpans 20 = .ok (.istore_n 2, 1) := by decide +kernel
theorem dX1_findSpans_21 : decode cX1_findSpans 21 = .ok (.iconst 0, 1) := by decide +kernel
theorem dX1_findSpans_22 : decode cX1_findSpans 22 = .ok (.istore_n 3, 1) := by decide +kernel
theorem dX1_findSpans_23 : decode cX1_findSpans 23 = .ok (.iload_n 3, 1) := by decide +kernel
theorem dX1_findSpans_24 : decode cX1_findSpans 24 = .ok (.iload_n 2, 1) := by decide +kernel
theorem dX1_findSpans_25 : decode cX1_findSpans 25 = .ok (.if_icmp .ge 45, 3) := by decide +kernel
theorem dX1_findSpans_28 : decode cX1_findSpans 28 = .ok (.aload_n 0, 1) := by decide +kernel
theorem dX1_findSpans_29 : decode cX1_findSpans 29 = .ok (.getfield 24, 3) := by decide +kernel
theorem dX1_findSpans_32 : decode cX1_findSpans 32 = .ok (.iload_n 3, 1) := by decide +kernel
theorem dX1_findSpans_33 : decode cX1_findSpans 33 = .ok (.iaload, 1) := by decide +kernel
theorem dX1_findSpans_34 : decode cX1_findSpans 34 = .ok (.istore 4, 2) := by decide +kernel
theorem dX1_findSpans_36 : decode cX1_findSpans 36 = .ok (.aload_n 0, 1) := by decide +kernel
theorem dX1_findSpans_37 : decode cX1_findSpans 37 = .ok (.getfield 24, 3) := by decide +kernel
theorem dX1_findSpans_40 : decode cX1_findSpans 40 = .ok (.iload_n 3, 1) := by decide +kernel
theorem dX1_findSpans_41 : decode cX1_findSpans 41 = .ok (.iload_n 2, 1) := by decide +kernel
theorem dX1_findSpans_42 : decode cX1_findSpans 42 = .ok (.ior, 1) := by decide +kernel
theorem dX1_findSpans_43 : decode cX1_findSpans 43 = .ok (.iload 4, 2) := by decide +kernel
theorem dX1_findSpans_45 : decode cX1_findSpans 45 = .ok (.iload_n 2, 1) := by decide +kernel
theorem dX1_findSpans_46 : decode cX1_findSpans 46 = .ok (.iand, 1) := by decide +kernel
theorem dX1_findSpans_47 : decode cX1_findSpans 47 = .ok (.ifCond .ne 14, 3) := by decide +kernel
theorem dX1_findSpans_50 : decode cX1_findSpans 50 = .ok (.aload_n 0, 1) := by decide +kernel
theorem dX1_findSpans_51 : decode cX1_findSpans 51 = .ok (.iload 4, 2) := by decide +kernel
theorem dX1_findSpans_53 : decode cX1_findSpans 53 = .ok (.iload_n 2, 1) := by decide +kernel
theorem dX1_findSpans_54 : decode cX1_findSpans 54 = .ok (.ior, 1) := by decide +kernel
theorem dX1_findSpans_55 : decode cX1_findSpans 55 = .ok (.invokevirtual 75, 3) := by decide +kernel
theorem dX1_findSpans_58 : decode cX1_findSpans 58 = .ok (.goto 5, 3) := by decide +kernel
theorem dX1_findSpans_61 : decode cX1_findSpans 61 = .ok (.iload 4, 2) := by decide +kernel
theorem dX1_findSpans_63 : decode cX1_findSpans 63 = .ok (.iastore, 1) := by decide +kernel
theorem dX1_findSpans_64 : decode cX1_findSpans 64 = .ok (.iinc 3 1, 3) := by decide +kernel
theorem dX1_findSpans_67 : decode cX1_findSpans 67 = .ok (.goto (-44), 3) := by decide +kernel
theorem dX1_findSpans_70 : decode cX1_findSpans 70 = .ok (.iinc 1 1, 3) := by decide +kernel
theorem dX1_findSpans_73 : decode cX1_findSpans 73 = .ok (.goto (-64), 3) := by decide +kernel
theorem dX1_findSpans_76 : decode cX1_findSpans 76 = .ok (.return_, 1) := by decide +kernel
theorem dX1_grownToSpan_0 : decode cX1_grownToSpan 0 = .ok (.iload_n 1, 1) := by decide +kernel
theorem dX1_grownToSpan_1 : decode cX1_grownToSpan 1 = .ok (.istore_n 2, 1) := by decide +kernel
theorem dX1_grownToSpan_2 : decode cX1_grownToSpan 2 = .ok (.iconst 0, 1) := by decide +kernel
theorem dX1_grownToSpan_3 : decode cX1_grownToSpan 3 = .ok (.istore_n 3, 1) := by decide +kernel
theorem dX1_grownToSpan_4 : decode cX1_grownToSpan 4 = .ok (.iload_n 3, 1) := by decide +kernel
theorem dX1_grownToSpan_5 : decode cX1_grownToSpan 5 = .ok (.bipush 8, 2) := by decide +kernel
theorem dX1_grownToSpan_7 : decode cX1_grownToSpan 7 = .ok (.if_icmp .ge 29, 3) := by decide +kernel
theorem dX1_grownToSpan_10 : decode cX1_grownToSpan 10 = .ok (.aload_n 0, 1) := by decide +kernel
theorem dX1_grownToSpan_11 : decode cX1_grownToSpan 11 = .ok (.iload_n 2, 1) := by decide +kernel
theorem dX1_grownToSpan_12 : decode cX1_grownToSpan 12 = .ok (.iload_n 2, 1) := by decide +kernel
theorem dX1_grownToSpan_13 : decode cX1_grownToSpan 13 = .ok (.invokevirtual 78, 3) := by decide +kernel
theorem dX1_grownToSpan_16 : decode cX1_grownToSpan 16 = .ok (.istore 4, 2) := by decide +kernel
theorem dX1_grownToSpan_18 : decode cX1_grownToSpan 18 = .ok (.iload 4, 2) := by decide +kernel
theorem dX1_grownToSpan_20 : decode cX1_grownToSpan 20 = .ok (.iload_n 2, 1) := by decide +kernel
theorem dX1_grownToSpan_21 : decode cX1_grownToSpan 21 = .ok (.if_icmp .ne 6, 3) := by decide +kernel
theorem dX1_grownToSpan_24 : decode cX1_grownToSpan 24 = .ok (.goto 12, 3) := by decide +kernel
theorem dX1_grownToSpan_27 : decode cX1_grownToSpan 27 = .ok (.iload 4, 2) := by decide +kernel
theorem dX1_grownToSpan_29 : decode cX1_grownToSpan 29 = .ok (.istore_n 2, 1) := by decide +kernel
theorem dX1_grownToSpan_30 : decode cX1_grownToSpan 30 = .ok (.iinc 3 1, 3) := by decide +kernel
theorem dX1_grownToSpan_33 : decode cX1_grownToSpan 33 = .ok (.goto (-29), 3) := by decide +kernel
theorem dX1_grownToSpan_36 : decode cX1_grownToSpan 36 = .ok (.iload_n 2, 1) := by decide +kernel
theorem dX1_grownToSpan_37 : decode cX1_grownToSpan 37 = .ok (.ireturn, 1) := by decide +kernel
theorem dX1_isElement_0 : decode cX1_isElement 0 = .ok (.iload_n 1, 1) := by decide +kernel
theorem dX1_isElement_1 : decode cX1_isElement 1 = .ok (.ifCond .lt 15, 3) := by decide +kernel
theorem dX1_isElement_4 : decode cX1_isElement 4 = .ok (.iload_n 1, 1) := by decide +kernel
theorem dX1_isElement_5 : decode cX1_isElement 5 = .ok (.aload_n 0, 1) := by decide +kernel
theorem dX1_isElement_6 : decode cX1_isElement 6 = .ok (.getfield 45, 3) := by decide +kernel
theorem dX1_isElement_9 : decode cX1_isElement 9 = .ok (.if_icmp .ge 7, 3) := by decide +kernel
theorem dX1_isElement_12 : decode cX1_isElement 12 = .ok (.iconst 1, 1) := by decide +kernel
theorem dX1_isElement_13 : decode cX1_isElement 13 = .ok (.goto 4, 3) := by decide +kernel
theorem dX1_isElement_16 : decode cX1_isElement 16 = .ok (.iconst 0, 1) := by decide +kernel
theorem dX1_isElement_17 : decode cX1_isElement 17 = .ok (.ireturn, 1) := by decide +kernel
theorem dX1_isSet_0 : decode cX1_isSet 0 = .ok (.iload_n 1, 1) := by decide +kernel
theorem dX1_isSet_1 : decode cX1_isSet 1 = .ok (.ifCond .lt 15, 3) := by decide +kernel
theorem dX1_isSet_4 : decode cX1_isSet 4 = .ok (.iload_n 1, 1) := by decide +kernel
theorem dX1_isSet_5 : decode cX1_isSet 5 = .ok (.aload_n 0, 1) := by decide +kernel
theorem dX1_isSet_6 : decode cX1_isSet 6 = .ok (.invokevirtual 81, 3) := by decide +kernel
theorem dX1_isSet_9 : decode cX1_isSet 9 = .ok (.if_icmp .gt 7, 3) := by decide +kernel
theorem dX1_isSet_12 : decode cX1_isSet 12 = .ok (.iconst 1, 1) := by decide +kernel
theorem dX1_isSet_13 : decode cX1_isSet 13 = .ok (.goto 4, 3) := by decide +kernel
theorem dX1_isSet_16 : decode cX1_isSet 16 = .ok (.iconst 0, 1) := by decide +kernel
theorem dX1_isSet_17 : decode cX1_isSet 17 = .ok (.ireturn, 1) := by decide +kernel
theorem dX1_whole_0 : decode cX1_whole 0 = .ok (.iconst 1, 1) := by decide +kernel
theorem dX1_whole_1 : decode cX1_whole 1 = .ok (.aload_n 0, 1) := by decide +kernel
theorem dX1_whole_2 : decode cX1_whole 2 = .ok (.getfield 45, 3) := by decide +kernel
theorem dX1_whole_5 : decode cX1_whole 5 = .ok (.ishl, 1) := by decide +kernel
theorem dX1_whole_6 : decode cX1_whole 6 = .ok (.iconst 1, 1) := by decide +kernel
theorem dX1_whole_7 : decode cX1_whole 7 = .ok (.isub, 1) := by decide +kernel
theorem dX1_whole_8 : decode cX1_whole 8 = .ok (.ireturn, 1) := by decide +kernel
theorem dX1_product_0 : decode cX1_product 0 = .ok (.aload_n 0, 1) := by decide +kernel
theorem dX1_product_1 : decode cX1_product 1 = .ok (.getfield 9, 3) := by decide +kernel
theorem dX1_product_4 : decode cX1_product 4 = .ok (.iload_n 1, 1) := by decide +kernel
theorem dX1_product_5 : decode cX1_product 5 = .ok (.bipush 8, 2) := by decide +kernel
theorem dX1_product_7 : decode cX1_product 7 = .ok (.imul, 1) := by decide +kernel
theorem dX1_product_8 : decode cX1_product 8 = .ok (.iload_n 2, 1) := by decide +kernel
theorem dX1_product_9 : decode cX1_product 9 = .ok (.iadd, 1) := by decide +kernel
theorem dX1_product_10 : decode cX1_product 10 = .ok (.iaload, 1) := by decide +kernel
theorem dX1_product_11 : decode cX1_product 11 = .ok (.ireturn, 1) := by decide +kernel
theorem dX1_powerOf_0 : decode cX1_powerOf 0 = .ok (.iconst 0, 1) := by decide +kernel
theorem dX1_powerOf_1 : decode cX1_powerOf 1 = .ok (.istore_n 3, 1) := by decide +kernel
theorem dX1_powerOf_2 : decode cX1_powerOf 2 = .ok (.iconst 0, 1) := by decide +kernel
theorem dX1_powerOf_3 : decode cX1_powerOf 3 = .ok (.istore 4, 2) := by decide +kernel
theorem dX1_powerOf_5 : decode cX1_powerOf 5 = .ok (.iload 4, 2) := by decide +kernel
theorem dX1_powerOf_7 : decode cX1_powerOf 7 = .ok (.iload_n 2, 1) := by decide +kernel
theorem dX1_powerOf_8 : decode cX1_powerOf 8 = .ok (.if_icmp .ge 16, 3) := by decide +kernel
theorem dX1_powerOf_11 : decode cX1_powerOf 11 = .ok (.aload_n 0, 1) := by decide +kernel
theorem dX1_powerOf_12 : decode cX1_powerOf 12 = .ok (.iload_n 3, 1) := by decide +kernel
theorem dX1_powerOf_13 : decode cX1_powerOf 13 = .ok (.iload_n 1, 1) := by decide +kernel
theorem dX1_powerOf_14 : decode cX1_powerOf 14 = .ok (.invokevirtual 72, 3) := by decide +kernel
theorem dX1_powerOf_17 : decode cX1_powerOf 17 = .ok (.istore_n 3, 1) := by decide +kernel
theorem dX1_powerOf_18 : decode cX1_powerOf 18 = .ok (.iinc 4 1, 3) := by decide +kernel
theorem dX1_powerOf_21 : decode cX1_powerOf 21 = .ok (.goto (-16), 3) := by decide +kernel
theorem dX1_powerOf_24 : decode cX1_powerOf 24 = .ok (.iload_n 3, 1) := by decide +kernel
theorem dX1_powerOf_25 : decode cX1_powerOf 25 = .ok (.ireturn, 1) := by decide +kernel
theorem dX1_conjugated_0 : decode cX1_conjugated 0 = .ok (.aload_n 0, 1) := by decide +kernel
theorem dX1_conjugated_1 : decode cX1_conjugated 1 = .ok (.getfield 21, 3) := by decide +kernel
theorem dX1_conjugated_4 : decode cX1_conjugated 4 = .ok (.iload_n 1, 1) := by decide +kernel
theorem dX1_conjugated_5 : decode cX1_conjugated 5 = .ok (.bipush 8, 2) := by decide +kernel
theorem dX1_conjugated_7 : decode cX1_conjugated 7 = .ok (.imul, 1) := by decide +kernel
theorem dX1_conjugated_8 : decode cX1_conjugated 8 = .ok (.iload_n 2, 1) := by decide +kernel
theorem dX1_conjugated_9 : decode cX1_conjugated 9 = .ok (.iadd, 1) := by decide +kernel
theorem dX1_conjugated_10 : decode cX1_conjugated 10 = .ok (.iaload, 1) := by decide +kernel
theorem dX1_conjugated_11 : decode cX1_conjugated 11 = .ok (.ireturn, 1) := by decide +kernel
theorem dX1_conjugatesOf_0 : decode cX1_conjugatesOf 0 = .ok (.iconst 0, 1) := by decide +kernel
theorem dX1_conjugatesOf_1 : decode cX1_conjugatesOf 1 = .ok (.istore_n 2, 1) := by decide +kernel
theorem dX1_conjugatesOf_2 : decode cX1_conjugatesOf 2 = .ok (.iconst 0, 1) := by decide +kernel
theorem dX1_conjugatesOf_3 : decode cX1_conjugatesOf 3 = .ok (.istore_n 3, 1) := by decide +kernel
theorem dX1_conjugatesOf_4 : decode cX1_conjugatesOf 4 = .ok (.iload_n 3, 1) := by decide +kernel
theorem dX1_conjugatesOf_5 : decode cX1_conjugatesOf 5 = .ok (.aload_n 0, 1) := by decide +kernel
theorem dX1_conjugatesOf_6 : decode cX1_conjugatesOf 6 = .ok (.getfield 45, 3) := by decide +kernel
theorem dX1_conjugatesOf_9 : decode cX1_conjugatesOf 9 = .ok (.if_icmp .ge 20, 3) := by decide +kernel
theorem dX1_conjugatesOf_12 : decode cX1_conjugatesOf 12 = .ok (.iload_n 2, 1) := by decide +kernel
theorem dX1_conjugatesOf_13 : decode cX1_conjugatesOf 13 = .ok (.iconst 1, 1) := by decide +kernel
theorem dX1_conjugatesOf_14 : decode cX1_conjugatesOf 14 = .ok (.aload_n 0, 1) := by decide +kernel
theorem dX1_conjugatesOf_15 : decode cX1_conjugatesOf 15 = .ok (.iload_n 1, 1) := by decide +kernel
theorem dX1_conjugatesOf_16 : decode cX1_conjugatesOf 16 = .ok (.iload_n 3, 1) := by decide +kernel
theorem dX1_conjugatesOf_17 : decode cX1_conjugatesOf 17 = .ok (.invokevirtual 84, 3) := by decide +kernel
theorem dX1_conjugatesOf_20 : decode cX1_conjugatesOf 20 = .ok (.ishl, 1) := by decide +kernel
theorem dX1_conjugatesOf_21 : decode cX1_conjugatesOf 21 = .ok (.ior, 1) := by decide +kernel
theorem dX1_conjugatesOf_22 : decode cX1_conjugatesOf 22 = .ok (.istore_n 2, 1) := by decide +kernel
theorem dX1_conjugatesOf_23 : decode cX1_conjugatesOf 23 = .ok (.iinc 3 1, 3) := by decide +kernel
theorem dX1_conjugatesOf_26 : decode cX1_conjugatesOf 26 = .ok (.goto (-22), 3) := by decide +kernel
theorem dX1_conjugatesOf_29 : decode cX1_conjugatesOf 29 = .ok (.iload_n 2, 1) := by decide +kernel
theorem dX1_conjugatesOf_30 : decode cX1_conjugatesOf 30 = .ok (.ireturn, 1) := by decide +kernel
theorem dX1_centreSet_0 : decode cX1_centreSet 0 = .ok (.iconst 0, 1) := by decide +kernel
theorem dX1_centreSet_1 : decode cX1_centreSet 1 = .ok (.istore_n 1, 1) := by decide +kernel
theorem dX1_centreSet_2 : decode cX1_centreSet 2 = .ok (.iconst 0, 1) := by decide +kernel
theorem dX1_centreSet_3 : decode cX1_centreSet 3 = .ok (.istore_n 2, 1) := by decide +kernel
theorem dX1_centreSet_4 : decode cX1_centreSet 4 = .ok (.iload_n 2, 1) := by decide +kernel
theorem dX1_centreSet_5 : decode cX1_centreSet 5 = .ok (.aload_n 0, 1) := by decide +kernel
theorem dX1_centreSet_6 : decode cX1_centreSet 6 = .ok (.getfield 45, 3) := by decide +kernel
theorem dX1_centreSet_9 : decode cX1_centreSet 9 = .ok (.if_icmp .ge 26, 3) := by decide +kernel
theorem dX1_centreSet_12 : decode cX1_centreSet 12 = .ok (.aload_n 0, 1) := by decide +kernel
theorem dX1_centreSet_13 : decode cX1_centreSet 13 = .ok (.iload_n 2, 1) := by decide +kernel
theorem dX1_centreSet_14 : decode cX1_centreSet 14 = .ok (.invokevirtual 87, 3) := by decide +kernel
theorem dX1_centreSet_17 : decode cX1_centreSet 17 = .ok (.iconst 1, 1) := by decide +kernel
theorem dX1_centreSet_18 : decode cX1_centreSet 18 = .ok (.iload_n 2, 1) := by decide +kernel
theorem dX1_centreSet_19 : decode cX1_centreSet 19 = .ok (.ishl, 1) := by decide +kernel
theorem dX1_centreSet_20 : decode cX1_centreSet 20 = .ok (.if_icmp .ne 9, 3) := by decide +kernel
theorem dX1_centreSet_23 : decode cX1_centreSet 23 = .ok (.iload_n 1, 1) := by decide +kernel
theorem dX1_centreSet_24 : decode cX1_centreSet 24 = .ok (.iconst 1, 1) := by decide +kernel
theorem dX1_centreSet_25 : decode cX1_centreSet 25 = .ok (.iload_n 2, 1) := by decide +kernel
theorem dX1_centreSet_26 : decode cX1_centreSet 26 = .ok (.ishl, 1) := by decide +kernel
theorem dX1_centreSet_27 : decode cX1_centreSet 27 = .ok (.ior, 1) := by decide +kernel
theorem dX1_centreSet_28 : decode cX1_centreSet 28 = .ok (.istore_n 1, 1) := by decide +kernel
theorem dX1_centreSet_29 : decode cX1_centreSet 29 = .ok (.iinc 2 1, 3) := by decide +kernel
theorem dX1_centreSet_32 : decode cX1_centreSet 32 = .ok (.goto (-28), 3) := by decide +kernel
theorem dX1_centreSet_35 : decode cX1_centreSet 35 = .ok (.iload_n 1, 1) := by decide +kernel
theorem dX1_centreSet_36 : decode cX1_centreSet 36 = .ok (.ireturn, 1) := by decide +kernel
theorem dX1_countOfOrder_0 : decode cX1_countOfOrder 0 = .ok (.iconst 0, 1) := by decide +kernel
theorem dX1_countOfOrder_1 : decode cX1_countOfOrder 1 = .ok (.istore_n 2, 1) := by decide +kernel
theorem dX1_countOfOrder_2 : decode cX1_countOfOrder 2 = .ok (.iconst 0, 1) := by decide +kernel
theorem dX1_countOfOrder_3 : decode cX1_countOfOrder 3 = .ok (.istore_n 3, 1) := by decide +kernel
theorem dX1_countOfOrder_4 : decode cX1_countOfOrder 4 = .ok (.iload_n 3, 1) := by decide +kernel
theorem dX1_countOfOrder_5 : decode cX1_countOfOrder 5 = .ok (.aload_n 0, 1) := by decide +kernel
theorem dX1_countOfOrder_6 : decode cX1_countOfOrder 6 = .ok (.getfield 45, 3) := by decide +kernel
theorem dX1_countOfOrder_9 : decode cX1_countOfOrder 9 = .ok (.if_icmp .ge 22, 3) := by decide +kernel
theorem dX1_countOfOrder_12 : decode cX1_countOfOrder 12 = .ok (.aload_n 0, 1) := by decide +kernel
theorem dX1_countOfOrder_13 : decode cX1_countOfOrder 13 = .ok (.getfield 18, 3) := by decide +kernel
theorem dX1_countOfOrder_16 : decode cX1_countOfOrder 16 = .ok (.iload_n 3, 1) := by decide +kernel
theorem dX1_countOfOrder_17 : decode cX1_countOfOrder 17 = .ok (.iaload, 1) := by decide +kernel
theorem dX1_countOfOrder_18 : decode cX1_countOfOrder 18 = .ok (.iload_n 1, 1) := by decide +kernel
theorem dX1_countOfOrder_19 : decode cX1_countOfOrder 19 = .ok (.if_icmp .ne 6, 3) := by decide +kernel
theorem dX1_countOfOrder_22 : decode cX1_countOfOrder 22 = .ok (.iinc 2 1, 3) := by decide +kernel
theorem dX1_countOfOrder_25 : decode cX1_countOfOrder 25 = .ok (.iinc 3 1, 3) := by decide +kernel
theorem dX1_countOfOrder_28 : decode cX1_countOfOrder 28 = .ok (.goto (-24), 3) := by decide +kernel
theorem dX1_countOfOrder_31 : decode cX1_countOfOrder 31 = .ok (.iload_n 2, 1) := by decide +kernel
theorem dX1_countOfOrder_32 : decode cX1_countOfOrder 32 = .ok (.ireturn, 1) := by decide +kernel
theorem dX1_productOfSets_0 : decode cX1_productOfSets 0 = .ok (.iconst 0, 1) := by decide +kernel
theorem dX1_productOfSets_1 : decode cX1_productOfSets 1 = .ok (.istore_n 3, 1) := by decide +kernel
theorem dX1_productOfSets_2 : decode cX1_productOfSets 2 = .ok (.iconst 0, 1) := by decide +kernel
theorem dX1_productOfSets_3 : decode cX1_productOfSets 3 = .ok (.istore 4, 2) := by decide +kernel
theorem dX1_productOfSets_5 : decode cX1_productOfSets 5 = .ok (.iload 4, 2) := by decide +kernel
theorem dX1_productOfSets_7 : decode cX1_productOfSets 7 = .ok (.aload_n 0, 1) := by decide +kernel
theorem dX1_productOfSets_8 : decode cX1_productOfSets 8 = .ok (.getfield 45, 3) := by decide +kernel
theorem dX1_productOfSets_11 : decode cX1_productOfSets 11 = .ok (.if_icmp .ge 29, 3) := by decide +kernel
theorem dX1_productOfSets_14 : decode cX1_productOfSets 14 = .ok (.iload_n 1, 1) := by decide +kernel
theorem dX1_productOfSets_15 : decode cX1_productOfSets 15 = .ok (.iload 4, 2) := by decide +kernel
theorem dX1_productOfSets_17 : decode cX1_productOfSets 17 = .ok (.ishr, 1) := by decide +kernel
theorem dX1_productOfSets_18 : decode cX1_productOfSets 18 = .ok (.iconst 1, 1) := by decide +kernel
theorem dX1_productOfSets_19 : decode cX1_productOfSets 19 = .ok (.iand, 1) := by decide +kernel
theorem dX1_productOfSets_20 : decode cX1_productOfSets 20 = .ok (.iconst 1, 1) := by decide +kernel
theorem dX1_productOfSets_21 : decode cX1_productOfSets 21 = .ok (.if_icmp .ne 13, 3) := by decide +kernel
theorem dX1_productOfSets_24 : decode cX1_productOfSets 24 = .ok (.iload_n 3, 1) := by decide +kernel
theorem dX1_productOfSets_25 : decode cX1_productOfSets 25 = .ok (.aload_n 0, 1) := by decide +kernel
theorem dX1_productOfSets_26 : decode cX1_productOfSets 26 = .ok (.iload 4, 2) := by decide +kernel
theorem dX1_productOfSets_28 : decode cX1_productOfSets 28 = .ok (.iload_n 2, 1) := by decide +kernel
theorem dX1_productOfSets_29 : decode cX1_productOfSets 29 = .ok (.invokevirtual 90, 3) := by decide +kernel
theorem dX1_productOfSets_32 : decode cX1_productOfSets 32 = .ok (.ior, 1) := by decide +kernel
theorem dX1_productOfSets_33 : decode cX1_productOfSets 33 = .ok (.istore_n 3, 1) := by decide +kernel
theorem dX1_productOfSets_34 : decode cX1_productOfSets 34 = .ok (.iinc 4 1, 3) := by decide +kernel
theorem dX1_productOfSets_37 : decode cX1_productOfSets 37 = .ok (.goto (-32), 3) := by decide +kernel
theorem dX1_productOfSets_40 : decode cX1_productOfSets 40 = .ok (.iload_n 3, 1) := by decide +kernel
theorem dX1_productOfSets_41 : decode cX1_productOfSets 41 = .ok (.ireturn, 1) := by decide +kernel
theorem dX1_productWithSet_0 : decode cX1_productWithSet 0 = .ok (.iconst 0, 1) := by decide +kernel
theorem dX1_productWithSet_1 : decode cX1_productWithSet 1 = .ok (.istore_n 3, 1) := by decide +kernel
theorem dX1_productWithSet_2 : decode cX1_productWithSet 2 = .ok (.iconst 0, 1) := by decide +kernel
theorem dX1_productWithSet_3 : decode cX1_productWithSet 3 = .ok (.istore 4, 2) := by decide +kernel
theorem dX1_productWithSet_5 : decode cX1_productWithSet 5 = .ok (.iload 4, 2) := by decide +kernel
theorem dX1_productWithSet_7 : decode cX1_productWithSet 7 = .ok (.aload_n 0, 1) := by decide +kernel
theorem dX1_productWithSet_8 : decode cX1_productWithSet 8 = .ok (.getfield 45, 3) := by decide +kernel
theorem dX1_productWithSet_11 : decode cX1_productWithSet 11 = .ok (.if_icmp .ge 36, 3) := by decide +kernel
theorem dX1_productWithSet_14 : decode cX1_productWithSet 14 = .ok (.iload_n 2, 1) := by decide +kernel
theorem dX1_productWithSet_15 : decode cX1_productWithSet 15 = .ok (.iload 4, 2) := by decide +kernel
theorem dX1_productWithSet_17 : decode cX1_productWithSet 17 = .ok (.ishr, 1) := by decide +kernel
theorem dX1_productWithSet_18 : decode cX1_productWithSet 18 = .ok (.iconst 1, 1) := by decide +kernel
theorem dX1_productWithSet_19 : decode cX1_productWithSet 19 = .ok (.iand, 1) := by decide +kernel
theorem dX1_productWithSet_20 : decode cX1_productWithSet 20 = .ok (.iconst 1, 1) := by decide +kernel
theorem dX1_productWithSet_21 : decode cX1_productWithSet 21 = .ok (.if_icmp .ne 20, 3) := by decide +kernel
theorem dX1_productWithSet_24 : decode cX1_productWithSet 24 = .ok (.iload_n 3, 1) := by decide +kernel
theorem dX1_productWithSet_25 : decode cX1_productWithSet 25 = .ok (.iconst 1, 1) := by decide +kernel
theorem dX1_productWithSet_26 : decode cX1_productWithSet 26 = .ok (.aload_n 0, 1) := by decide +kernel
theorem dX1_productWithSet_27 : decode cX1_productWithSet 27 = .ok (.getfield 9, 3) := by decide +kernel
theorem dX1_productWithSet_30 : decode cX1_productWithSet 30 = .ok (.iload_n 1, 1) := by decide +kernel
theorem dX1_productWithSet_31 : decode cX1_productWithSet 31 = .ok (.bipush 8, 2) := by decide +kernel
theorem dX1_productWithSet_33 : decode cX1_productWithSet 33 = .ok (.imul, 1) := by decide +kernel
theorem dX1_productWithSet_34 : decode cX1_productWithSet 34 = .ok (.iload 4, 2) := by decide +kernel
theorem dX1_productWithSet_36 : decode cX1_productWithSet 36 = .ok (.iadd, 1) := by decide +kernel
theorem dX1_productWithSet_37 : decode cX1_productWithSet 37 = .ok (.iaload, 1) := by decide +kernel
theorem dX1_productWithSet_38 : decode cX1_productWithSet 38 = .ok (.ishl, 1) := by decide +kernel
theorem dX1_productWithSet_39 : decode cX1_productWithSet 39 = .ok (.ior, 1) := by decide +kernel
theorem dX1_productWithSet_40 : decode cX1_productWithSet 40 = .ok (.istore_n 3, 1) := by decide +kernel
theorem dX1_productWithSet_41 : decode cX1_productWithSet 41 = .ok (.iinc 4 1, 3) := by decide +kernel
theorem dX1_productWithSet_44 : decode cX1_productWithSet 44 = .ok (.goto (-39), 3) := by decide +kernel
theorem dX1_productWithSet_47 : decode cX1_productWithSet 47 = .ok (.iload_n 3, 1) := by decide +kernel
theorem dX1_productWithSet_48 : decode cX1_productWithSet 48 = .ok (.ireturn, 1) := by decide +kernel
theorem dX1_spanOf_0 : decode cX1_spanOf 0 = .ok (.aload_n 0, 1) := by decide +kernel
theorem dX1_spanOf_1 : decode cX1_spanOf 1 = .ok (.getfield 24, 3) := by decide +kernel
theorem dX1_spanOf_4 : decode cX1_spanOf 4 = .ok (.iload_n 1, 1) := by decide +kernel
theorem dX1_spanOf_5 : decode cX1_spanOf 5 = .ok (.iaload, 1) := by decide +kernel
theorem dX1_spanOf_6 : decode cX1_spanOf 6 = .ok (.ireturn, 1) := by decide +kernel
theorem dX1_isSubgroup_0 : decode cX1_isSubgroup 0 = .ok (.aload_n 0, 1) := by decide +kernel
theorem dX1_isSubgroup_1 : decode cX1_isSubgroup 1 = .ok (.iload_n 1, 1) := by decide +kernel
theorem dX1_isSubgroup_2 : decode cX1_isSubgroup 2 = .ok (.invokevirtual 93, 3) := by decide +kernel
theorem dX1_isSubgroup_5 : decode cX1_isSubgroup 5 = .ok (.ifCond .eq 16, 3) := by decide +kernel
theorem dX1_isSubgroup_8 : decode cX1_isSubgroup 8 = .ok (.aload_n 0, 1) := by decide +kernel
theorem dX1_isSubgroup_9 : decode cX1_isSubgroup 9 = .ok (.iload_n 1, 1) := by decide +kernel
theorem dX1_isSubgroup_10 : decode cX1_isSubgroup 10 = .ok (.invokevirtual 97, 3) := by decide +kernel
theorem dX1_isSubgroup_13 : decode cX1_isSubgroup 13 = .ok (.iload_n 1, 1) := by decide +kernel
theorem dX1_isSubgroup_14 : decode cX1_isSubgroup 14 = .ok (.if_icmp .ne 7, 3) := by decide +kernel
theorem dX1_isSubgroup_17 : decode cX1_isSubgroup 17 = .ok (.iconst 1, 1) := by decide +kernel
theorem dX1_isSubgroup_18 : decode cX1_isSubgroup 18 = .ok (.goto 4, 3) := by decide +kernel
theorem dX1_isSubgroup_21 : decode cX1_isSubgroup 21 = .ok (.iconst 0, 1) := by decide +kernel
theorem dX1_isSubgroup_22 : decode cX1_isSubgroup 22 = .ok (.ireturn, 1) := by decide +kernel
theorem dX1_isNormal_0 : decode cX1_isNormal 0 = .ok (.iconst 0, 1) := by decide +kernel
theorem dX1_isNormal_1 : decode cX1_isNormal 1 = .ok (.istore_n 2, 1) := by decide +kernel
theorem dX1_isNormal_2 : decode cX1_isNormal 2 = .ok (.iload_n 2, 1) := by decide +kernel
theorem dX1_isNormal_3 : decode cX1_isNormal 3 = .ok (.aload_n 0, 1) := by decide +kernel
theorem dX1_isNormal_4 : decode cX1_isNormal 4 = .ok (.getfield 45, 3) := by decide +kernel
theorem dX1_isNormal_7 : decode cX1_isNormal 7 = .ok (.if_icmp .ge 32, 3) := by decide +kernel
theorem dX1_isNormal_10 : decode cX1_isNormal 10 = .ok (.iload_n 1, 1) := by decide +kernel
theorem dX1_isNormal_11 : decode cX1_isNormal 11 = .ok (.iload_n 2, 1) := by decide +kernel
theorem dX1_isNormal_12 : decode cX1_isNormal 12 = .ok (.ishr, 1) := by decide +kernel
theorem dX1_isNormal_13 : decode cX1_isNormal 13 = .ok (.iconst 1, 1) := by decide +kernel
theorem dX1_isNormal_14 : decode cX1_isNormal 14 = .ok (.iand, 1) := by decide +kernel
theorem dX1_isNormal_15 : decode cX1_isNormal 15 = .ok (.iconst 1, 1) := by decide +kernel
theorem dX1_isNormal_16 : decode cX1_isNormal 16 = .ok (.if_icmp .ne 17, 3) := by decide +kernel
theorem dX1_isNormal_19 : decode cX1_isNormal 19 = .ok (.aload_n 0, 1) := by decide +kernel
theorem dX1_isNormal_20 : decode cX1_isNormal 20 = .ok (.iload_n 2, 1) := by decide +kernel
theorem dX1_isNormal_21 : decode cX1_isNormal 21 = .ok (.invokevirtual 87, 3) := by decide +kernel
theorem dX1_isNormal_24 : decode cX1_isNormal 24 = .ok (.iload_n 1, 1) := by decide +kernel
theorem dX1_isNormal_25 : decode cX1_isNormal 25 = .ok (.iconst (-1), 1) := by decide +kernel
theorem dX1_isNormal_26 : decode cX1_isNormal 26 = .ok (.ixor, 1) := by decide +kernel
theorem dX1_isNormal_27 : decode cX1_isNormal 27 = .ok (.iand, 1) := by decide +kernel
theorem dX1_isNormal_28 : decode cX1_isNormal 28 = .ok (.ifCond .eq 5, 3) := by decide +kernel
theorem dX1_isNormal_31 : decode cX1_isNormal 31 = .ok (.iconst 0, 1) := by decide +kernel
theorem dX1_isNormal_32 : decode cX1_isNormal 32 = .ok (.ireturn, 1) := by decide +kernel
theorem dX1_isNormal_33 : decode cX1_isNormal 33 = .ok (.iinc 2 1, 3) := by decide +kernel
theorem dX1_isNormal_36 : decode cX1_isNormal 36 = .ok (.goto (-34), 3) := by decide +kernel
theorem dX1_isNormal_39 : decode cX1_isNormal 39 = .ok (.iconst 1, 1) := by decide +kernel
theorem dX1_isNormal_40 : decode cX1_isNormal 40 = .ok (.ireturn, 1) := by decide +kernel
theorem dX1_indexOf_0 : decode cX1_indexOf 0 = .ok (.iload_n 1, 1) := by decide +kernel
theorem dX1_indexOf_1 : decode cX1_indexOf 1 = .ok (.invokestatic 100, 3) := by decide +kernel
theorem dX1_indexOf_4 : decode cX1_indexOf 4 = .ok (.istore_n 2, 1) := by decide +kernel
theorem dX1_indexOf_5 : decode cX1_indexOf 5 = .ok (.iload_n 2, 1) := by decide +kernel
theorem dX1_indexOf_6 : decode cX1_indexOf 6 = .ok (.ifCond .ne 7, 3) := by decide +kernel
theorem dX1_indexOf_9 : decode cX1_indexOf 9 = .ok (.iconst 0, 1) := by decide +kernel
theorem dX1_indexOf_10 : decode cX1_indexOf 10 = .ok (.goto 9, 3) := by decide +kernel
theorem dX1_indexOf_13 : decode cX1_indexOf 13 = .ok (.aload_n 0, 1) := by decide +kernel
theorem dX1_indexOf_14 : decode cX1_indexOf 14 = .ok (.getfield 45, 3) := by decide +kernel
theorem dX1_indexOf_17 : decode cX1_indexOf 17 = .ok (.iload_n 2, 1) := by decide +kernel
theorem dX1_indexOf_18 : decode cX1_indexOf 18 = .ok (.idiv, 1) := by decide +kernel
theorem dX1_indexOf_19 : decode cX1_indexOf 19 = .ok (.ireturn, 1) := by decide +kernel
theorem dX1_setsBetween_0 : decode cX1_setsBetween 0 = .ok (.iconst 0, 1) := by decide +kernel
theorem dX1_setsBetween_1 : decode cX1_setsBetween 1 = .ok (.istore_n 3, 1) := by decide +kernel
theorem dX1_setsBetween_2 : decode cX1_setsBetween 2 = .ok (.iconst 0, 1) := by decide +kernel
theorem dX1_setsBetween_3 : decode cX1_setsBetween 3 = .ok (.istore 4, 2) := by decide +kernel
theorem dX1_setsBetween_5 : decode cX1_setsBetween 5 = .ok (.iconst 0, 1) := by decide +kernel
theorem dX1_setsBetween_6 : decode cX1_setsBetween 6 = .ok (.istore 5, 2) := by decide +kernel
theorem dX1_setsBetween_8 : decode cX1_setsBetween 8 = .ok (.iload 5, 2) := by decide +kernel
theorem dX1_setsBetween_10 : decode cX1_setsBetween 10 = .ok (.aload_n 0, 1) := by decide +kernel
theorem dX1_setsBetween_11 : decode cX1_setsBetween 11 = .ok (.getfield 45, 3) := by decide +kernel
theorem dX1_setsBetween_14 : decode cX1_setsBetween 14 = .ok (.if_icmp .ge 36, 3) := by decide +kernel
theorem dX1_setsBetween_17 : decode cX1_setsBetween 17 = .ok (.iload_n 3, 1) := by decide +kernel
theorem dX1_setsBetween_18 : decode cX1_setsBetween 18 = .ok (.iload 5, 2) := by decide +kernel
theorem dX1_setsBetween_20 : decode cX1_setsBetween 20 = .ok (.ishr, 1) := by decide +kernel
theorem dX1_setsBetween_21 : decode cX1_setsBetween 21 = .ok (.iconst 1, 1) := by decide +kernel
theorem dX1_setsBetween_22 : decode cX1_setsBetween 22 = .ok (.iand, 1) := by decide +kernel
theorem dX1_setsBetween_23 : decode cX1_setsBetween 23 = .ok (.ifCond .ne 21, 3) := by decide +kernel
theorem dX1_setsBetween_26 : decode cX1_setsBetween 26 = .ok (.iload_n 3, 1) := by decide +kernel
theorem dX1_setsBetween_27 : decode cX1_setsBetween 27 = .ok (.aload_n 0, 1) := by decide +kernel
theorem dX1_setsBetween_28 : decode cX1_setsBetween 28 = .ok (.iload_n 1, 1) := by decide +kernel
theorem dX1_setsBetween_29 : decode cX1_setsBetween 29 = .ok (.aload_n 0, 1) := by decide +kernel
theorem dX1_setsBetween_30 : decode cX1_setsBetween 30 = .ok (.iload 5, 2) := by decide +kernel
theorem dX1_setsBetween_32 : decode cX1_setsBetween 32 = .ok (.iload_n 2, 1) := by decide +kernel
theorem dX1_setsBetween_33 : decode cX1_setsBetween 33 = .ok (.invokevirtual 90, 3) := by decide +kernel
theorem dX1_setsBetween_36 : decode cX1_setsBetween 36 = .ok (.invokevirtual 78, 3) := by decide +kernel
theorem dX1_setsBetween_39 : decode cX1_setsBetween 39 = .ok (.ior, 1) := by decide +kernel
theorem dX1_setsBetween_40 : decode cX1_setsBetween 40 = .ok (.istore_n 3, 1) := by decide +kernel
theorem dX1_setsBetween_41 : decode cX1_setsBetween 41 = .ok (.iinc 4 1, 3) := by decide +kernel
theorem dX1_setsBetween_44 : decode cX1_setsBetween 44 = .ok (.iinc 5 1, 3) := by decide +kernel
theorem dX1_setsBetween_47 : decode cX1_setsBetween 47 = .ok (.goto (-39), 3) := by decide +kernel
theorem dX1_setsBetween_50 : decode cX1_setsBetween 50 = .ok (.iload 4, 2) := by decide +kernel
theorem dX1_setsBetween_52 : decode cX1_setsBetween 52 = .ok (.ireturn, 1) := by decide +kernel
theorem dX1_fixedPlaces_0 : decode cX1_fixedPlaces 0 = .ok (.iconst 0, 1) := by decide +kernel
theorem dX1_fixedPlaces_1 : decode cX1_fixedPlaces 1 = .ok (.istore_n 3, 1) := by decide +kernel
theorem dX1_fixedPlaces_2 : decode cX1_fixedPlaces 2 = .ok (.iconst 0, 1) := by decide +kernel
theorem dX1_fixedPlaces_3 : decode cX1_fixedPlaces 3 = .ok (.istore 4, 2) := by decide +kernel
theorem dX1_fixedPlaces_5 : decode cX1_fixedPlaces 5 = .ok (.iconst 0, 1) := by decide +kernel
theorem dX1_fixedPlaces_6 : decode cX1_fixedPlaces 6 = .ok (.istore 5, 2) := by decide +kernel
theorem dX1_fixedPlaces_8 : decode cX1_fixedPlaces 8 = .ok (.iload 5, 2) := by decide +kernel
theorem dX1_fixedPlaces_10 : decode cX1_fixedPlaces 10 = .ok (.aload_n 0, 1) := by decide +kernel
theorem dX1_fixedPlaces_11 : decode cX1_fixedPlaces 11 = .ok (.getfield 45, 3) := by decide +kernel
theorem dX1_fixedPlaces_14 : decode cX1_fixedPlaces 14 = .ok (.if_icmp .ge 47, 3) := by decide +kernel
theorem dX1_fixedPlaces_17 : decode cX1_fixedPlaces 17 = .ok (.aload_n 0, 1) := by decide +kernel
theorem dX1_fixedPlaces_18 : decode cX1_fixedPlaces 18 = .ok (.iload 5, 2) := by decide +kernel
theorem dX1_fixedPlaces_20 : decode cX1_fixedPlaces 20 = .ok (.iload_n 1, 1) := by decide +kernel
theorem dX1_fixedPlaces_21 : decode cX1_fixedPlaces 21 = .ok (.invokevirtual 90, 3) := by decide +kernel
theorem dX1_fixedPlaces_24 : decode cX1_fixedPlaces 24 = .ok (.istore 6, 2) := by decide +kernel
theorem dX1_fixedPlaces_26 : decode cX1_fixedPlaces 26 = .ok (.iload_n 3, 1) := by decide +kernel
theorem dX1_fixedPlaces_27 : decode cX1_fixedPlaces 27 = .ok (.iload 5, 2) := by decide +kernel
theorem dX1_fixedPlaces_29 : decode cX1_fixedPlaces 29 = .ok (.ishr, 1) := by decide +kernel
theorem dX1_fixedPlaces_30 : decode cX1_fixedPlaces 30 = .ok (.iconst 1, 1) := by decide +kernel
theorem dX1_fixedPlaces_31 : decode cX1_fixedPlaces 31 = .ok (.iand, 1) := by decide +kernel
theorem dX1_fixedPlaces_32 : decode cX1_fixedPlaces 32 = .ok (.ifCond .ne 18, 3) := by decide +kernel
theorem dX1_fixedPlaces_35 : decode cX1_fixedPlaces 35 = .ok (.aload_n 0, 1) := by decide +kernel
theorem dX1_fixedPlaces_36 : decode cX1_fixedPlaces 36 = .ok (.iload_n 2, 1) := by decide +kernel
theorem dX1_fixedPlaces_37 : decode cX1_fixedPlaces 37 = .ok (.iload 6, 2) := by decide +kernel
theorem dX1_fixedPlaces_39 : decode cX1_fixedPlaces 39 = .ok (.invokevirtual 90, 3) := by decide +kernel
theorem dX1_fixedPlaces_42 : decode cX1_fixedPlaces 42 = .ok (.iload 6, 2) := by decide +kernel
theorem dX1_fixedPlaces_44 : decode cX1_fixedPlaces 44 = .ok (.if_icmp .ne 6, 3) := by decide +kernel
theorem dX1_fixedPlaces_47 : decode cX1_fixedPlaces 47 = .ok (.iinc 4 1, 3) := by decide +kernel
theorem dX1_fixedPlaces_50 : decode cX1_fixedPlaces 50 = .ok (.iload_n 3, 1) := by decide +kernel
theorem dX1_fixedPlaces_51 : decode cX1_fixedPlaces 51 = .ok (.iload 6, 2) := by decide +kernel
theorem dX1_fixedPlaces_53 : decode cX1_fixedPlaces 53 = .ok (.ior, 1) := by decide +kernel
theorem dX1_fixedPlaces_54 : decode cX1_fixedPlaces 54 = .ok (.istore_n 3, 1) := by decide +kernel
theorem dX1_fixedPlaces_55 : decode cX1_fixedPlaces 55 = .ok (.iinc 5 1, 3) := by decide +kernel
theorem dX1_fixedPlaces_58 : decode cX1_fixedPlaces 58 = .ok (.goto (-50), 3) := by decide +kernel
theorem dX1_fixedPlaces_61 : decode cX1_fixedPlaces 61 = .ok (.iload 4, 2) := by decide +kernel
theorem dX1_fixedPlaces_63 : decode cX1_fixedPlaces 63 = .ok (.ireturn, 1) := by decide +kernel
theorem dX1_orderBehind_0 : decode cX1_orderBehind 0 = .ok (.iload_n 2, 1) := by decide +kernel
theorem dX1_orderBehind_1 : decode cX1_orderBehind 1 = .ok (.istore_n 3, 1) := by decide +kernel
theorem dX1_orderBehind_2 : decode cX1_orderBehind 2 = .ok (.iconst 1, 1) := by decide +kernel
theorem dX1_orderBehind_3 : decode cX1_orderBehind 3 = .ok (.istore 4, 2) := by decide +kernel
theorem dX1_orderBehind_5 : decode cX1_orderBehind 5 = .ok (.iload_n 1, 1) := by decide +kernel
theorem dX1_orderBehind_6 : decode cX1_orderBehind 6 = .ok (.iload_n 3, 1) := by decide +kernel
theorem dX1_orderBehind_7 : decode cX1_orderBehind 7 = .ok (.ishr, 1) := by decide +kernel
theorem dX1_orderBehind_8 : decode cX1_orderBehind 8 = .ok (.iconst 1, 1) := by decide +kernel
theorem dX1_orderBehind_9 : decode cX1_orderBehind 9 = .ok (.iand, 1) := by decide +kernel
theorem dX1_orderBehind_10 : decode cX1_orderBehind 10 = .ok (.ifCond .ne 23, 3) := by decide +kernel
theorem dX1_orderBehind_13 : decode cX1_orderBehind 13 = .ok (.iload 4, 2) := by decide +kernel
theorem dX1_orderBehind_15 : decode cX1_orderBehind 15 = .ok (.bipush 8, 2) := by decide +kernel
theorem dX1_orderBehind_17 : decode cX1_orderBehind 17 = .ok (.if_icmp .ge 16, 3) := by decide +kernel
theorem dX1_orderBehind_20 : decode cX1_orderBehind 20 = .ok (.aload_n 0, 1) := by decide +kernel
theorem dX1_orderBehind_21 : decode cX1_orderBehind 21 = .ok (.iload_n 3, 1) := by decide +kernel
theorem dX1_orderBehind_22 : decode cX1_orderBehind 22 = .ok (.iload_n 2, 1) := by decide +kernel
theorem dX1_orderBehind_23 : decode cX1_orderBehind 23 = .ok (.invokevirtual 72, 3) := by decide +kernel
theorem dX1_orderBehind_26 : decode cX1_orderBehind 26 = .ok (.istore_n 3, 1) := by decide +kernel
theorem dX1_orderBehind_27 : decode cX1_orderBehind 27 = .ok (.iinc 4 1, 3) := by decide +kernel
theorem dX1_orderBehind_30 : decode cX1_orderBehind 30 = .ok (.goto (-25), 3) := by decide +kernel
theorem dX1_orderBehind_33 : decode cX1_orderBehind 33 = .ok (.iload 4, 2) := by decide +kernel
theorem dX1_orderBehind_35 : decode cX1_orderBehind 35 = .ok (.ireturn, 1) := by decide +kernel
theorem dX2_init_0 : decode cX2_init 0 = .ok (.aload_n 0, 1) := by decide +kernel
theorem dX2_init_1 : decode cX2_init 1 = .ok (.invokespecial 3, 3) := by decide +kernel
theorem dX2_init_4 : decode cX2_init 4 = .ok (.aload_n 0, 1) := by decide +kernel
theorem dX2_init_5 : decode cX2_init 5 = .ok (.aload_n 1, 1) := by decide +kernel
theorem dX2_init_6 : decode cX2_init 6 = .ok (.putfield 9, 3) := by decide +kernel
theorem dX2_init_9 : decode cX2_init 9 = .ok (.aload_n 0, 1) := by decide +kernel
theorem dX2_init_10 : decode cX2_init 10 = .ok (.iconst 0, 1) := by decide +kernel
theorem dX2_init_11 : decode cX2_init 11 = .ok (.iload_n 2, 1) := by decide +kernel
theorem dX2_init_12 : decode cX2_init 12 = .ok (.invokestatic 15, 3) := by decide +kernel
theorem dX2_init_15 : decode cX2_init 15 = .ok (.newarray .int, 2) := by decide +kernel
theorem dX2_init_17 : decode cX2_init 17 = .ok (.putfield 21, 3) := by decide +kernel
theorem dX2_init_20 : decode cX2_init 20 = .ok (.return_, 1) := by decide +kernel
theorem dX2_prepare_0 : decode cX2_prepare 0 = .ok (.aload_n 0, 1) := by decide +kernel
theorem dX2_prepare_1 : decode cX2_prepare 1 = .ok (.getfield 25, 3) := by decide +kernel
theorem dX2_prepare_4 : decode cX2_prepare 4 = .ok (.ifCond .ne 12, 3) := by decide +kernel
theorem dX2_prepare_7 : decode cX2_prepare 7 = .ok (.aload_n 0, 1) := by decide +kernel
theorem dX2_prepare_8 : decode cX2_prepare 8 = .ok (.invokevirtual 29, 3) := by decide +kernel
theorem dX2_prepare_11 : decode cX2_prepare 11 = .ok (.aload_n 0, 1) := by decide +kernel
theorem dX2_prepare_12 : decode cX2_prepare 12 = .ok (.iconst 1, 1) := by decide +kernel
theorem dX2_prepare_13 : decode cX2_prepare 13 = .ok (.putfield 25, 3) := by decide +kernel
theorem dX2_prepare_16 : decode cX2_prepare 16 = .ok (.return_, 1) := by decide +kernel
theorem dX2_find_0 : decode cX2_find 0 = .ok (.aload_n 0, 1) := by decide +kernel
theorem dX2_find_1 : decode cX2_find 1 = .ok (.iconst 0, 1) := by decide +kernel
theorem dX2_find_2 : decode cX2_find 2 = .ok (.putfield 32, 3) := by decide +kernel
theorem dX2_find_5 : decode cX2_find 5 = .ok (.aload_n 0, 1) := by decide +kernel
theorem dX2_find_6 : decode cX2_find 6 = .ok (.getfield 9, 3) := by decide +kernel
theorem dX2_find_9 : decode cX2_find 9 = .ok (.invokevirtual 36, 3) := by decide +kernel
theorem dX2_find_12 : decode cX2_find 12 = .ok (.iconst 1, 1) := by decide +kernel
theorem dX2_find_13 : decode cX2_find 13 = .ok (.istore_n 1, 1) := by decide +kernel
theorem dX2_find_14 : decode cX2_find 14 = .ok (.iconst 0, 1) := by decide +kernel
theorem dX2_find_15 : decode cX2_find 15 = .ok (.istore_n 2, 1) := by decide +kernel
theorem dX2_find_16 : decode cX2_find 16 = .ok (.iload_n 1, 1) := by decide +kernel
theorem dX2_find_17 : decode cX2_find 17 = .ok (.ifCond .eq 72, 3) := by decide +kernel
theorem dX2_find_20 : decode cX2_find 20 = .ok (.iload_n 2, 1) := by decide +kernel
theorem dX2_find_21 : decode cX2_find 21 = .ok (.sipush 512, 3) := by decide +kernel
theorem dX2_find_24 : decode cX2_find 24 = .ok (.if_icmp .ge 65, 3) := by decide +kernel
theorem dX2_find_27 : decode cX2_find 27 = .ok (.aload_n 0, 1) := by decide +kernel
theorem dX2_find_28 : decode cX2_find 28 = .ok (.getfield 32, 3) := by decide +kernel
theorem dX2_find_31 : decode cX2_find 31 = .ok (.aload_n 0, 1) := by decide +kernel
theorem dX2_find_32 : decode cX2_find 32 = .ok (.getfield 21, 3) := by decide +kernel
theorem dX2_find_35 : decode cX2_find 35 = .ok (.arraylength, 1) := by decide +kernel
theorem dX2_find_36 : decode cX2_find 36 = .ok (.if_icmp .ge 53, 3) := by decide +kernel
theorem dX2_find_39 : decode cX2_find 39 = .ok (.aload_n 0, 1) := by decide +kernel
theorem dX2_find_40 : decode cX2_find 40 = .ok (.getfield 9, 3) := by decide +kernel
theorem dX2_find_43 : decode cX2_find 43 = .ok (.invokevirtual 41, 3) := by decide +kernel
theorem dX2_find_46 : decode cX2_find 46 = .ok (.ifCond .eq 29, 3) := by decide +kernel
theorem dX2_find_49 : decode cX2_find 49 = .ok (.aload_n 0, 1) := by decide +kernel
theorem dX2_find_50 : decode cX2_find 50 = .ok (.getfield 21, 3) := by decide +kernel
theorem dX2_find_53 : decode cX2_find 53 = .ok (.aload_n 0, 1) := by decide +kernel
theorem dX2_find_54 : decode cX2_find 54 = .ok (.getfield 32, 3) := by decide +kernel
theorem dX2_find_57 : decode cX2_find 57 = .ok (.aload_n 0, 1) := by decide +kernel
theorem dX2_find_58 : decode cX2_find 58 = .ok (.getfield 9, 3) := by decide +kernel
theorem dX2_find_61 : decode cX2_find 61 = .ok (.invokevirtual 45, 3) := by decide +kernel
theorem dX2_find_64 : decode cX2_find 64 = .ok (.iastore, 1) := by decide +kernel
theorem dX2_find_65 : decode cX2_find 65 = .ok (.aload_n 0, 1) := by decide +kernel
theorem dX2_find_66 : decode cX2_find 66 = .ok (.dup, 1) := by decide +kernel
theorem dX2_find_67 : decode cX2_find 67 = .ok (.getfield 32, 3) := by decide +kernel
theorem dX2_find_70 : decode cX2_find 70 = .ok (.iconst 1, 1) := by decide +kernel
theorem dX2_find_71 : decode cX2_find 71 = .ok (.iadd, 1) := by decide +kernel
theorem dX2_find_72 : decode cX2_find 72 = .ok (.putfield 32, 3) := by decide +kernel
theorem dX2_find_75 : decode cX2_find 75 = .ok (.aload_n 0, 1) := by decide +kernel
theorem dX2_find_76 : decode cX2_find 76 = .ok (.getfield 9, 3) := by decide +kernel
theorem dX2_find_79 : decode cX2_find 79 = .ok (.invokevirtual 49, 3) := by decide +kernel
theorem dX2_find_82 : decode cX2_find 82 = .ok (.istore_n 1, 1) := by decide +kernel
theorem dX2_find_83 : decode cX2_find 83 = .ok (.iinc 2 1, 3) := by decide +kernel
theorem dX2_find_86 : decode cX2_find 86 = .ok (.goto (-70), 3) := by decide +kernel
theorem dX2_find_89 : decode cX2_find 89 = .ok (.return_, 1) := by decide +kernel
theorem dX2_has_0 : decode cX2_has 0 = .ok (.iload_n 1, 1) := by decide +kernel
theorem dX2_has_1 : decode cX2_has 1 = .ok (.ifCond .lt 15, 3) := by decide +kernel
theorem dX2_has_4 : decode cX2_has 4 = .ok (.iload_n 1, 1) := by decide +kernel
theorem dX2_has_5 : decode cX2_has 5 = .ok (.aload_n 0, 1) := by decide +kernel
theorem dX2_has_6 : decode cX2_has 6 = .ok (.getfield 32, 3) := by decide +kernel
theorem dX2_has_9 : decode cX2_has 9 = .ok (.if_icmp .ge 7, 3) := by decide +kernel
theorem dX2_has_12 : decode cX2_has 12 = .ok (.iconst 1, 1) := by decide +kernel
theorem dX2_has_13 : decode cX2_has 13 = .ok (.goto 4, 3) := by decide +kernel
theorem dX2_has_16 : decode cX2_has 16 = .ok (.iconst 0, 1) := by decide +kernel
theorem dX2_has_17 : decode cX2_has 17 = .ok (.ireturn, 1) := by decide +kernel
theorem dX2_indexOf_0 : decode cX2_indexOf 0 = .ok (.iconst 0, 1) := by decide +kernel
theorem dX2_indexOf_1 : decode cX2_indexOf 1 = .ok (.istore_n 2, 1) := by decide +kernel
theorem dX2_indexOf_2 : decode cX2_indexOf 2 = .ok (.aload_n 0, 1) := by decide +kernel
theorem dX2_indexOf_3 : decode cX2_indexOf 3 = .ok (.getfield 32, 3) := by decide +kernel
theorem dX2_indexOf_6 : decode cX2_indexOf 6 = .ok (.iconst 1, 1) := by decide +kernel
theorem dX2_indexOf_7 : decode cX2_indexOf 7 = .ok (.isub, 1) := by decide +kernel
theorem dX2_indexOf_8 : decode cX2_indexOf 8 = .ok (.istore_n 3, 1) := by decide +kernel
theorem dX2_indexOf_9 : decode cX2_indexOf 9 = .ok (.iconst 0, 1) := by decide +kernel
theorem dX2_indexOf_10 : decode cX2_indexOf 10 = .ok (.istore 4, 2) := by decide +kernel
theorem dX2_indexOf_12 : decode cX2_indexOf 12 = .ok (.iload_n 2, 1) := by decide +kernel
theorem dX2_indexOf_13 : decode cX2_indexOf 13 = .ok (.iload_n 3, 1) := by decide +kernel
theorem dX2_indexOf_14 : decode cX2_indexOf 14 = .ok (.if_icmp .gt 62, 3) := by decide +kernel
theorem dX2_indexOf_17 : decode cX2_indexOf 17 = .ok (.iload 4, 2) := by decide +kernel
theorem dX2_indexOf_19 : decode cX2_indexOf 19 = .ok (.sipush 512, 3) := by decide +kernel
theorem dX2_indexOf_22 : decode cX2_indexOf 22 = .ok (.if_icmp .ge 54, 3) := by decide +kernel
theorem dX2_indexOf_25 : decode cX2_indexOf 25 = .ok (.iload_n 2, 1) := by decide +kernel
theorem dX2_indexOf_26 : decode cX2_indexOf 26 = .ok (.iload_n 3, 1) := by decide +kernel
theorem dX2_indexOf_27 : decode cX2_indexOf 27 = .ok (.iadd, 1) := by decide +kernel
theorem dX2_indexOf_28 : decode cX2_indexOf 28 = .ok (.iconst 1, 1) := by decide +kernel
theorem dX2_indexOf_29 : decode cX2_indexOf 29 = .ok (.ishr, 1) := by decide +kernel
theorem dX2_indexOf_30 : decode cX2_indexOf 30 = .ok (.istore 5, 2) := by decide +kernel
theorem dX2_indexOf_32 : decode cX2_indexOf 32 = .ok (.aload_n 0, 1) := by decide +kernel
theorem dX2_indexOf_33 : decode cX2_indexOf 33 = .ok (.getfield 21, 3) := by decide +kernel
theorem dX2_indexOf_36 : decode cX2_indexOf 36 = .ok (.iload 5, 2) := by decide +kernel
theorem dX2_indexOf_38 : decode cX2_indexOf 38 = .ok (.iaload, 1) := by decide +kernel
theorem dX2_indexOf_39 : decode cX2_indexOf 39 = .ok (.iload_n 1, 1) := by decide +kernel
theorem dX2_indexOf_40 : decode cX2_indexOf 40 = .ok (.if_icmp .ne 6, 3) := by decide +kernel
theorem dX2_indexOf_43 : decode cX2_indexOf 43 = .ok (.iload 5, 2) := by decide +kernel
theorem dX2_indexOf_45 : decode cX2_indexOf 45 = .ok (.ireturn, 1) := by decide +kernel
theorem dX2_indexOf_46 : decode cX2_indexOf 46 = .ok (.aload_n 0, 1) := by decide +kernel
theorem dX2_indexOf_47 : decode cX2_indexOf 47 = .ok (.getfield 21, 3) := by decide +kernel
theorem dX2_indexOf_50 : decode cX2_indexOf 50 = .ok (.iload 5, 2) := by decide +kernel
theorem dX2_indexOf_52 : decode cX2_indexOf 52 = .ok (.iaload, 1) := by decide +kernel
theorem dX2_indexOf_53 : decode cX2_indexOf 53 = .ok (.iload_n 1, 1) := by decide +kernel
theorem dX2_indexOf_54 : decode cX2_indexOf 54 = .ok (.if_icmp .ge 11, 3) := by decide +kernel
theorem dX2_indexOf_57 : decode cX2_indexOf 57 = .ok (.iload 5, 2) := by decide +kernel
theorem dX2_indexOf_59 : decode cX2_indexOf 59 = .ok (.iconst 1, 1) := by decide +kernel
theorem dX2_indexOf_60 : decode cX2_indexOf 60 = .ok (.iadd, 1) := by decide +kernel
theorem dX2_indexOf_61 : decode cX2_indexOf 61 = .ok (.istore_n 2, 1) := by decide +kernel
theorem dX2_indexOf_62 : decode cX2_indexOf 62 = .ok (.goto 8, 3) := by decide +kernel
theorem dX2_indexOf_65 : decode cX2_indexOf 65 = .ok (.iload 5, 2) := by decide +kernel
theorem dX2_indexOf_67 : decode cX2_indexOf 67 = .ok (.iconst 1, 1) := by decide +kernel
theorem dX2_indexOf_68 : decode cX2_indexOf 68 = .ok (.isub, 1) := by decide +kernel
theorem dX2_indexOf_69 : decode cX2_indexOf 69 = .ok (.istore_n 3, 1) := by decide +kernel
theorem dX2_indexOf_70 : decode cX2_indexOf 70 = .ok (.iinc 4 1, 3) := by decide +kernel
theorem dX2_indexOf_73 : decode cX2_indexOf 73 = .ok (.goto (-61), 3) := by decide +kernel
theorem dX2_indexOf_76 : decode cX2_indexOf 76 = .ok (.iconst (-1), 1) := by decide +kernel
theorem dX2_indexOf_77 : decode cX2_indexOf 77 = .ok (.ireturn, 1) := by decide +kernel
theorem dX3_init_0 : decode cX3_init 0 = .ok (.aload_n 0, 1) := by decide +kernel
theorem dX3_init_1 : decode cX3_init 1 = .ok (.invokespecial 3, 3) := by decide +kernel
theorem dX3_init_4 : decode cX3_init 4 = .ok (.aload_n 0, 1) := by decide +kernel
theorem dX3_init_5 : decode cX3_init 5 = .ok (.iconst 4, 1) := by decide +kernel
theorem dX3_init_6 : decode cX3_init 6 = .ok (.newarray .int, 2) := by decide +kernel
theorem dX3_init_8 : decode cX3_init 8 = .ok (.putfield 9, 3) := by decide +kernel
theorem dX3_init_11 : decode cX3_init 11 = .ok (.aload_n 0, 1) := by decide +kernel
theorem dX3_init_12 : decode cX3_init 12 = .ok (.aload_n 1, 1) := by decide +kernel
theorem dX3_init_13 : decode cX3_init 13 = .ok (.putfield 15, 3) := by decide +kernel
theorem dX3_init_16 : decode cX3_init 16 = .ok (.aload_n 0, 1) := by decide +kernel
theorem dX3_init_17 : decode cX3_init 17 = .ok (.aload_n 2, 1) := by decide +kernel
theorem dX3_init_18 : decode cX3_init 18 = .ok (.putfield 19, 3) := by decide +kernel
theorem dX3_init_21 : decode cX3_init 21 = .ok (.return_, 1) := by decide +kernel
theorem dX3_read_0 : decode cX3_read 0 = .ok (.iload_n 1, 1) := by decide +kernel
theorem dX3_read_1 : decode cX3_read 1 = .ok (.istore_n 2, 1) := by decide +kernel
theorem dX3_read_2 : decode cX3_read 2 = .ok (.aload_n 0, 1) := by decide +kernel
theorem dX3_read_3 : decode cX3_read 3 = .ok (.getfield 19, 3) := by decide +kernel
theorem dX3_read_6 : decode cX3_read 6 = .ok (.invokevirtual 23, 3) := by decide +kernel
theorem dX3_read_9 : decode cX3_read 9 = .ok (.iconst 1, 1) := by decide +kernel
theorem dX3_read_10 : decode cX3_read 10 = .ok (.isub, 1) := by decide +kernel
theorem dX3_read_11 : decode cX3_read 11 = .ok (.istore_n 3, 1) := by decide +kernel
theorem dX3_read_12 : decode cX3_read 12 = .ok (.iload_n 3, 1) := by decide +kernel
theorem dX3_read_13 : decode cX3_read 13 = .ok (.ifCond .lt 42, 3) := by decide +kernel
theorem dX3_read_16 : decode cX3_read 16 = .ok (.iload_n 2, 1) := by decide +kernel
theorem dX3_read_17 : decode cX3_read 17 = .ok (.bipush 10, 2) := by decide +kernel
theorem dX3_read_19 : decode cX3_read 19 = .ok (.irem, 1) := by decide +kernel
theorem dX3_read_20 : decode cX3_read 20 = .ok (.istore 4, 2) := by decide +kernel
theorem dX3_read_22 : decode cX3_read 22 = .ok (.aload_n 0, 1) := by decide +kernel
theorem dX3_read_23 : decode cX3_read 23 = .ok (.getfield 15, 3) := by decide +kernel
theorem dX3_read_26 : decode cX3_read 26 = .ok (.iload 4, 2) := by decide +kernel
theorem dX3_read_28 : decode cX3_read 28 = .ok (.invokevirtual 29, 3) := by decide +kernel
theorem dX3_read_31 : decode cX3_read 31 = .ok (.ifCond .ne 5, 3) := by decide +kernel
theorem dX3_read_34 : decode cX3_read 34 = .ok (.iconst 0, 1) := by decide +kernel
theorem dX3_read_35 : decode cX3_read 35 = .ok (.ireturn, 1) := by decide +kernel
theorem dX3_read_36 : decode cX3_read 36 = .ok (.aload_n 0, 1) := by decide +kernel
theorem dX3_read_37 : decode cX3_read 37 = .ok (.getfield 9, 3) := by decide +kernel
theorem dX3_read_40 : decode cX3_read 40 = .ok (.iload_n 3, 1) := by decide +kernel
theorem dX3_read_41 : decode cX3_read 41 = .ok (.iload 4, 2) := by decide +kernel
theorem dX3_read_43 : decode cX3_read 43 = .ok (.iastore, 1) := by decide +kernel
theorem dX3_read_44 : decode cX3_read 44 = .ok (.iload_n 2, 1) := by decide +kernel
theorem dX3_read_45 : decode cX3_read 45 = .ok (.bipush 10, 2) := by decide +kernel
theorem dX3_read_47 : decode cX3_read 47 = .ok (.idiv, 1) := by decide +kernel
theorem dX3_read_48 : decode cX3_read 48 = .ok (.istore_n 2, 1) := by decide +kernel
theorem dX3_read_49 : decode cX3_read 49 = .ok (.iinc 3 (-1), 3) := by decide +kernel
theorem dX3_read_52 : decode cX3_read 52 = .ok (.goto (-40), 3) := by decide +kernel
theorem dX3_read_55 : decode cX3_read 55 = .ok (.iload_n 2, 1) := by decide +kernel
theorem dX3_read_56 : decode cX3_read 56 = .ok (.ifCond .ne 7, 3) := by decide +kernel
theorem dX3_read_59 : decode cX3_read 59 = .ok (.iconst 1, 1) := by decide +kernel
theorem dX3_read_60 : decode cX3_read 60 = .ok (.goto 4, 3) := by decide +kernel
theorem dX3_read_63 : decode cX3_read 63 = .ok (.iconst 0, 1) := by decide +kernel
theorem dX3_read_64 : decode cX3_read 64 = .ok (.ireturn, 1) := by decide +kernel
theorem dX3_code_0 : decode cX3_code 0 = .ok (.iconst 0, 1) := by decide +kernel
theorem dX3_code_1 : decode cX3_code 1 = .ok (.istore_n 1, 1) := by decide +kernel
theorem dX3_code_2 : decode cX3_code 2 = .ok (.iconst 0, 1) := by decide +kernel
theorem dX3_code_3 : decode cX3_code 3 = .ok (.istore_n 2, 1) := by decide +kernel
theorem dX3_code_4 : decode cX3_code 4 = .ok (.iload_n 2, 1) := by decide +kernel
theorem dX3_code_5 : decode cX3_code 5 = .ok (.aload_n 0, 1) := by decide +kernel
theorem dX3_code_6 : decode cX3_code 6 = .ok (.getfield 19, 3) := by decide +kernel
theorem dX3_code_9 : decode cX3_code 9 = .ok (.invokevirtual 23, 3) := by decide +kernel
theorem dX3_code_12 : decode cX3_code 12 = .ok (.if_icmp .ge 21, 3) := by decide +kernel
theorem dX3_code_15 : decode cX3_code 15 = .ok (.iload_n 1, 1) := by decide +kernel
theorem dX3_code_16 : decode cX3_code 16 = .ok (.bipush 10, 2) := by decide +kernel
theorem dX3_code_18 : decode cX3_code 18 = .ok (.imul, 1) := by decide +kernel
theorem dX3_code_19 : decode cX3_code 19 = .ok (.aload_n 0, 1) := by decide +kernel
theorem dX3_code_20 : decode cX3_code 20 = .ok (.getfield 9, 3) := by decide +kernel
theorem dX3_code_23 : decode cX3_code 23 = .ok (.iload_n 2, 1) := by decide +kernel
theorem dX3_code_24 : decode cX3_code 24 = .ok (.iaload, 1) := by decide +kernel
theorem dX3_code_25 : decode cX3_code 25 = .ok (.iadd, 1) := by decide +kernel
theorem dX3_code_26 : decode cX3_code 26 = .ok (.istore_n 1, 1) := by decide +kernel
theorem dX3_code_27 : decode cX3_code 27 = .ok (.iinc 2 1, 3) := by decide +kernel
theorem dX3_code_30 : decode cX3_code 30 = .ok (.goto (-26), 3) := by decide +kernel
theorem dX3_code_33 : decode cX3_code 33 = .ok (.iload_n 1, 1) := by decide +kernel
theorem dX3_code_34 : decode cX3_code 34 = .ok (.ireturn, 1) := by decide +kernel
theorem dX3_elementOfPeriod_0 : decode cX3_elementOfPeriod 0 = .ok (.aload_n 0, 1) := by decide +kernel
theorem dX3_elementOfPeriod_1 : decode cX3_elementOfPeriod 1 = .ok (.getfield 9, 3) := by decide +kernel
theorem dX3_elementOfPeriod_4 : decode cX3_elementOfPeriod 4 = .ok (.iconst 2, 1) := by decide +kernel
theorem dX3_elementOfPeriod_5 : decode cX3_elementOfPeriod 5 = .ok (.aload_n 0, 1) := by decide +kernel
theorem dX3_elementOfPeriod_6 : decode cX3_elementOfPeriod 6 = .ok (.getfield 19, 3) := by decide +kernel
theorem dX3_elementOfPeriod_9 : decode cX3_elementOfPeriod 9 = .ok (.getfield 35, 3) := by decide +kernel
theorem dX3_elementOfPeriod_12 : decode cX3_elementOfPeriod 12 = .ok (.imul, 1) := by decide +kernel
theorem dX3_elementOfPeriod_13 : decode cX3_elementOfPeriod 13 = .ok (.iload_n 1, 1) := by decide +kernel
theorem dX3_elementOfPeriod_14 : decode cX3_elementOfPeriod 14 = .ok (.iadd, 1) := by decide +kernel
theorem dX3_elementOfPeriod_15 : decode cX3_elementOfPeriod 15 = .ok (.iaload, 1) := by decide +kernel
theorem dX3_elementOfPeriod_16 : decode cX3_elementOfPeriod 16 = .ok (.ireturn, 1) := by decide +kernel
theorem dX3_kind_0 : decode cX3_kind 0 = .ok (.aload_n 0, 1) := by decide +kernel
theorem dX3_kind_1 : decode cX3_kind 1 = .ok (.aload_n 0, 1) := by decide +kernel
theorem dX3_kind_2 : decode cX3_kind 2 = .ok (.getfield 19, 3) := by decide +kernel
theorem dX3_kind_5 : decode cX3_kind 5 = .ok (.getfield 39, 3) := by decide +kernel
theorem dX3_kind_8 : decode cX3_kind 8 = .ok (.invokevirtual 42, 3) := by decide +kernel
theorem dX3_kind_11 : decode cX3_kind 11 = .ok (.ifCond .eq 17, 3) := by decide +kernel
theorem dX3_kind_14 : decode cX3_kind 14 = .ok (.aload_n 0, 1) := by decide +kernel
theorem dX3_kind_15 : decode cX3_kind 15 = .ok (.aload_n 0, 1) := by decide +kernel
theorem dX3_kind_16 : decode cX3_kind 16 = .ok (.getfield 19, 3) := by decide +kernel
theorem dX3_kind_19 : decode cX3_kind 19 = .ok (.getfield 39, 3) := by decide +kernel
theorem dX3_kind_22 : decode cX3_kind 22 = .ok (.invokevirtual 45, 3) := by decide +kernel
theorem dX3_kind_25 : decode cX3_kind 25 = .ok (.ifCond .eq 5, 3) := by decide +kernel
theorem dX3_kind_28 : decode cX3_kind 28 = .ok (.iconst 0, 1) := by decide +kernel
theorem dX3_kind_29 : decode cX3_kind 29 = .ok (.ireturn, 1) := by decide +kernel
theorem dX3_kind_30 : decode cX3_kind 30 = .ok (.aload_n 0, 1) := by decide +kernel
theorem dX3_kind_31 : decode cX3_kind 31 = .ok (.invokevirtual 49, 3) := by decide +kernel
theorem dX3_kind_34 : decode cX3_kind 34 = .ok (.ifCond .eq 7, 3) := by decide +kernel
theorem dX3_kind_37 : decode cX3_kind 37 = .ok (.iconst 2, 1) := by decide +kernel
theorem dX3_kind_38 : decode cX3_kind 38 = .ok (.goto 4, 3) := by decide +kernel
theorem dX3_kind_41 : decode cX3_kind 41 = .ok (.iconst 1, 1) := by decide +kernel
theorem dX3_kind_42 : decode cX3_kind 42 = .ok (.ireturn, 1) := by decide +kernel
theorem dX3_isWhole_0 : decode cX3_isWhole 0 = .ok (.iconst 0, 1) := by decide +kernel
theorem dX3_isWhole_1 : decode cX3_isWhole 1 = .ok (.istore_n 1, 1) := by decide +kernel
theorem dX3_isWhole_2 : decode cX3_isWhole 2 = .ok (.iconst 0, 1) := by decide +kernel
theorem dX3_isWhole_3 : decode cX3_isWhole 3 = .ok (.istore_n 2, 1) := by decide +kernel
theorem dX3_isWhole_4 : decode cX3_isWhole 4 = .ok (.iload_n 2, 1) := by decide +kernel
theorem dX3_isWhole_5 : decode cX3_isWhole 5 = .ok (.aload_n 0, 1) := by decide +kernel
theorem dX3_isWhole_6 : decode cX3_isWhole 6 = .ok (.getfield 19, 3) := by decide +kernel
theorem dX3_isWhole_9 : decode cX3_isWhole 9 = .ok (.invokevirtual 23, 3) := by decide +kernel
theorem dX3_isWhole_12 : decode cX3_isWhole 12 = .ok (.if_icmp .ge 20, 3) := by decide +kernel
theorem dX3_isWhole_15 : decode cX3_isWhole 15 = .ok (.iload_n 1, 1) := by decide +kernel
theorem dX3_isWhole_16 : decode cX3_isWhole 16 = .ok (.iconst 1, 1) := by decide +kernel
theorem dX3_isWhole_17 : decode cX3_isWhole 17 = .ok (.aload_n 0, 1) := by decide +kernel
theorem dX3_isWhole_18 : decode cX3_isWhole 18 = .ok (.getfield 9, 3) := by decide +kernel
theorem dX3_isWhole_21 : decode cX3_isWhole 21 = .ok (.iload_n 2, 1) := by decide +kernel
theorem dX3_isWhole_22 : decode cX3_isWhole 22 = .ok (.iaload, 1) := by decide +kernel
theorem dX3_isWhole_23 : decode cX3_isWhole 23 = .ok (.ishl, 1) := by decide +kernel
theorem dX3_isWhole_24 : decode cX3_isWhole 24 = .ok (.ior, 1) := by decide +kernel
theorem dX3_isWhole_25 : decode cX3_isWhole 25 = .ok (.istore_n 1, 1) := by decide +kernel
theorem dX3_isWhole_26 : decode cX3_isWhole 26 = .ok (.iinc 2 1, 3) := by decide +kernel
theorem dX3_isWhole_29 : decode cX3_isWhole 29 = .ok (.goto (-25), 3) := by decide +kernel
theorem dX3_isWhole_32 : decode cX3_isWhole 32 = .ok (.aload_n 0, 1) := by decide +kernel
theorem dX3_isWhole_33 : decode cX3_isWhole 33 = .ok (.getfield 15, 3) := by decide +kernel
theorem dX3_isWhole_36 : decode cX3_isWhole 36 = .ok (.iload_n 1, 1) := by decide +kernel
theorem dX3_isWhole_37 : decode cX3_isWhole 37 = .ok (.invokevirtual 53, 3) := by decide +kernel
theorem dX3_isWhole_40 : decode cX3_isWhole 40 = .ok (.aload_n 0, 1) := by decide +kernel
theorem dX3_isWhole_41 : decode cX3_isWhole 41 = .ok (.getfield 15, 3) := by decide +kernel
theorem dX3_isWhole_44 : decode cX3_isWhole 44 = .ok (.invokevirtual 56, 3) := by decide +kernel
theorem dX3_isWhole_47 : decode cX3_isWhole 47 = .ok (.if_icmp .ne 7, 3) := by decide +kernel
theorem dX3_isWhole_50 : decode cX3_isWhole 50 = .ok (.iconst 1, 1) := by decide +kernel
theorem dX3_isWhole_51 : decode cX3_isWhole 51 = .ok (.goto 4, 3) := by decide +kernel
theorem dX3_isWhole_54 : decode cX3_isWhole 54 = .ok (.iconst 0, 1) := by decide +kernel
theorem dX3_isWhole_55 : decode cX3_isWhole 55 = .ok (.ireturn, 1) := by decide +kernel
theorem dX3_hasOrders_0 : decode cX3_hasOrders 0 = .ok (.iconst 0, 1) := by decide +kernel
theorem dX3_hasOrders_1 : decode cX3_hasOrders 1 = .ok (.istore_n 2, 1) := by decide +kernel
theorem dX3_hasOrders_2 : decode cX3_hasOrders 2 = .ok (.iload_n 2, 1) := by decide +kernel
theorem dX3_hasOrders_3 : decode cX3_hasOrders 3 = .ok (.iload_n 1, 1) := by decide +kernel
theorem dX3_hasOrders_4 : decode cX3_hasOrders 4 = .ok (.if_icmp .ge 36, 3) := by decide +kernel
theorem dX3_hasOrders_7 : decode cX3_hasOrders 7 = .ok (.aload_n 0, 1) := by decide +kernel
theorem dX3_hasOrders_8 : decode cX3_hasOrders 8 = .ok (.getfield 15, 3) := by decide +kernel
theorem dX3_hasOrders_11 : decode cX3_hasOrders 11 = .ok (.getfield 59, 3) := by decide +kernel
theorem dX3_hasOrders_14 : decode cX3_hasOrders 14 = .ok (.aload_n 0, 1) := by decide +kernel
theorem dX3_hasOrders_15 : decode cX3_hasOrders 15 = .ok (.iload_n 2, 1) := by decide +kernel
theorem dX3_hasOrders_16 : decode cX3_hasOrders 16 = .ok (.invokevirtual 62, 3) := by decide +kernel
theorem dX3_hasOrders_19 : decode cX3_hasOrders 19 = .ok (.iaload, 1) := by decide +kernel
theorem dX3_hasOrders_20 : decode cX3_hasOrders 20 = .ok (.aload_n 0, 1) := by decide +kernel
theorem dX3_hasOrders_21 : decode cX3_hasOrders 21 = .ok (.getfield 19, 3) := by decide +kernel
theorem dX3_hasOrders_24 : decode cX3_hasOrders 24 = .ok (.getfield 65, 3) := by decide +kernel
theorem dX3_hasOrders_27 : decode cX3_hasOrders 27 = .ok (.iload_n 2, 1) := by decide +kernel
theorem dX3_hasOrders_28 : decode cX3_hasOrders 28 = .ok (.iaload, 1) := by decide +kernel
theorem dX3_hasOrders_29 : decode cX3_hasOrders 29 = .ok (.if_icmp .eq 5, 3) := by decide +kernel
theorem dX3_hasOrders_32 : decode cX3_hasOrders 32 = .ok (.iconst 0, 1) := by decide +kernel
theorem dX3_hasOrders_33 : decode cX3_hasOrders 33 = .ok (.ireturn, 1) := by decide +kernel
theorem dX3_hasOrders_34 : decode cX3_hasOrders 34 = .ok (.iinc 2 1, 3) := by decide +kernel
theorem dX3_hasOrders_37 : decode cX3_hasOrders 37 = .ok (.goto (-35), 3) := by decide +kernel
theorem dX3_hasOrders_40 : decode cX3_hasOrders 40 = .ok (.iconst 1, 1) := by decide +kernel
theorem dX3_hasOrders_41 : decode cX3_hasOrders 41 = .ok (.ireturn, 1) := by decide +kernel
theorem dX3_productOfFirst_0 : decode cX3_productOfFirst 0 = .ok (.iconst 0, 1) := by decide +kernel
theorem dX3_productOfFirst_1 : decode cX3_productOfFirst 1 = .ok (.istore_n 2, 1) := by decide +kernel
theorem dX3_productOfFirst_2 : decode cX3_productOfFirst 2 = .ok (.aload_n 0, 1) := by decide +kernel
theorem dX3_productOfFirst_3 : decode cX3_productOfFirst 3 = .ok (.getfield 19, 3) := by decide +kernel
theorem dX3_productOfFirst_6 : decode cX3_productOfFirst 6 = .ok (.getfield 35, 3) := by decide +kernel
theorem dX3_productOfFirst_9 : decode cX3_productOfFirst 9 = .ok (.iconst 1, 1) := by decide +kernel
theorem dX3_productOfFirst_10 : decode cX3_productOfFirst 10 = .ok (.if_icmp .ne 67, 3) := by decide +kernel
theorem dX3_productOfFirst_13 : decode cX3_productOfFirst 13 = .ok (.aload_n 0, 1) := by decide +kernel
theorem dX3_productOfFirst_14 : decode cX3_productOfFirst 14 = .ok (.getfield 15, 3) := by decide +kernel
theorem dX3_productOfFirst_17 : decode cX3_productOfFirst 17 = .ok (.aload_n 0, 1) := by decide +kernel
theorem dX3_productOfFirst_18 : decode cX3_productOfFirst 18 = .ok (.getfield 9, 3) := by decide +kernel
theorem dX3_productOfFirst_21 : decode cX3_productOfFirst 21 = .ok (.iconst 0, 1) := by decide +kernel
theorem dX3_productOfFirst_22 : decode cX3_productOfFirst 22 = .ok (.iaload, 1) := by decide +kernel
theorem dX3_productOfFirst_23 : decode cX3_productOfFirst 23 = .ok (.aload_n 0, 1) := by decide +kernel
theorem dX3_productOfFirst_24 : decode cX3_productOfFirst 24 = .ok (.getfield 9, 3) := by decide +kernel
theorem dX3_productOfFirst_27 : decode cX3_productOfFirst 27 = .ok (.iconst 1, 1) := by decide +kernel
theorem dX3_productOfFirst_28 : decode cX3_productOfFirst 28 = .ok (.iaload, 1) := by decide +kernel
theorem dX3_productOfFirst_29 : decode cX3_productOfFirst 29 = .ok (.invokevirtual 68, 3) := by decide +kernel
theorem dX3_productOfFirst_32 : decode cX3_productOfFirst 32 = .ok (.istore_n 3, 1) := by decide +kernel
theorem dX3_productOfFirst_33 : decode cX3_productOfFirst 33 = .ok (.aload_n 0, 1) := by decide +kernel
theorem dX3_productOfFirst_34 : decode cX3_productOfFirst 34 = .ok (.getfield 15, 3) := by decide +kernel
theorem dX3_productOfFirst_37 : decode cX3_productOfFirst 37 = .ok (.iload_n 3, 1) := by decide +kernel
theorem dX3_productOfFirst_38 : decode cX3_productOfFirst 38 = .ok (.aload_n 0, 1) := by decide +kernel
theorem dX3_productOfFirst_39 : decode cX3_productOfFirst 39 = .ok (.getfield 15, 3) := by decide +kernel
theorem dX3_productOfFirst_42 : decode cX3_productOfFirst 42 = .ok (.aload_n 0, 1) := by decide +kernel
theorem dX3_productOfFirst_43 : decode cX3_productOfFirst 43 = .ok (.getfield 15, 3) := by decide +kernel
theorem dX3_productOfFirst_46 : decode cX3_productOfFirst 46 = .ok (.getfield 72, 3) := by decide +kernel
theorem dX3_productOfFirst_49 : decode cX3_productOfFirst 49 = .ok (.aload_n 0, 1) := by decide +kernel
theorem dX3_productOfFirst_50 : decode cX3_productOfFirst 50 = .ok (.getfield 9, 3) := by decide +kernel
theorem dX3_productOfFirst_53 : decode cX3_productOfFirst 53 = .ok (.iconst 0, 1) := by decide +kernel
theorem dX3_productOfFirst_54 : decode cX3_productOfFirst 54 = .ok (.iaload, 1) := by decide +kernel
theorem dX3_productOfFirst_55 : decode cX3_productOfFirst 55 = .ok (.iaload, 1) := by decide +kernel
theorem dX3_productOfFirst_56 : decode cX3_productOfFirst 56 = .ok (.aload_n 0, 1) := by decide +kernel
theorem dX3_productOfFirst_57 : decode cX3_productOfFirst 57 = .ok (.getfield 15, 3) := by decide +kernel
theorem dX3_productOfFirst_60 : decode cX3_productOfFirst 60 = .ok (.getfield 72, 3) := by decide +kernel
theorem dX3_productOfFirst_63 : decode cX3_productOfFirst 63 = .ok (.aload_n 0, 1) := by decide +kernel
theorem dX3_productOfFirst_64 : decode cX3_productOfFirst 64 = .ok (.getfield 9, 3) := by decide +kernel
theorem dX3_productOfFirst_67 : decode cX3_productOfFirst 67 = .ok (.iconst 1, 1) := by decide +kernel
theorem dX3_productOfFirst_68 : decode cX3_productOfFirst 68 = .ok (.iaload, 1) := by decide +kernel
theorem dX3_productOfFirst_69 : decode cX3_productOfFirst 69 = .ok (.iaload, 1) := by decide +kernel
theorem dX3_productOfFirst_70 : decode cX3_productOfFirst 70 = .ok (.invokevirtual 68, 3) := by decide +kernel
theorem dX3_productOfFirst_73 : decode cX3_productOfFirst 73 = .ok (.invokevirtual 68, 3) := by decide +kernel
theorem dX3_productOfFirst_76 : decode cX3_productOfFirst 76 = .ok (.istore_n 2, 1) := by decide +kernel
theorem dX3_productOfFirst_77 : decode cX3_productOfFirst 77 = .ok (.iconst 0, 1) := by decide +kernel
theorem dX3_productOfFirst_78 : decode cX3_productOfFirst 78 = .ok (.istore_n 3, 1) := by decide +kernel
theorem dX3_productOfFirst_79 : decode cX3_productOfFirst 79 = .ok (.iload_n 3, 1) := by decide +kernel
theorem dX3_productOfFirst_80 : decode cX3_productOfFirst 80 = .ok (.iload_n 1, 1) := by decide +kernel
theorem dX3_productOfFirst_81 : decode cX3_productOfFirst 81 = .ok (.if_icmp .ge 23, 3) := by decide +kernel
theorem dX3_productOfFirst_84 : decode cX3_productOfFirst 84 = .ok (.aload_n 0, 1) := by decide +kernel
theorem dX3_productOfFirst_85 : decode cX3_productOfFirst 85 = .ok (.getfield 15, 3) := by decide +kernel
theorem dX3_productOfFirst_88 : decode cX3_productOfFirst 88 = .ok (.iload_n 2, 1) := by decide +kernel
theorem dX3_productOfFirst_89 : decode cX3_productOfFirst 89 = .ok (.aload_n 0, 1) := by decide +kernel
theorem dX3_productOfFirst_90 : decode cX3_productOfFirst 90 = .ok (.iload_n 3, 1) := by decide +kernel
theorem dX3_productOfFirst_91 : decode cX3_productOfFirst 91 = .ok (.invokevirtual 62, 3) := by decide +kernel
theorem dX3_productOfFirst_94 : decode cX3_productOfFirst 94 = .ok (.invokevirtual 68, 3) := by decide +kernel
theorem dX3_productOfFirst_97 : decode cX3_productOfFirst 97 = .ok (.istore_n 2, 1) := by decide +kernel
theorem dX3_productOfFirst_98 : decode cX3_productOfFirst 98 = .ok (.iinc 3 1, 3) := by decide +kernel
theorem dX3_productOfFirst_101 : decode cX3_productOfFirst 101 = .ok (.goto (-22), 3) := by decide +kernel
theorem dX3_productOfFirst_104 : decode cX3_productOfFirst 104 = .ok (.iload_n 2, 1) := by decide +kernel
theorem dX3_productOfFirst_105 : decode cX3_productOfFirst 105 = .ok (.ireturn, 1) := by decide +kernel
theorem dX3_freeDigits_0 : decode cX3_freeDigits 0 = .ok (.aload_n 0, 1) := by decide +kernel
theorem dX3_freeDigits_1 : decode cX3_freeDigits 1 = .ok (.getfield 19, 3) := by decide +kernel
theorem dX3_freeDigits_4 : decode cX3_freeDigits 4 = .ok (.getfield 39, 3) := by decide +kernel
theorem dX3_freeDigits_7 : decode cX3_freeDigits 7 = .ok (.ifCond .le 15, 3) := by decide +kernel
theorem dX3_freeDigits_10 : decode cX3_freeDigits 10 = .ok (.aload_n 0, 1) := by decide +kernel
theorem dX3_freeDigits_11 : decode cX3_freeDigits 11 = .ok (.getfield 19, 3) := by decide +kernel
theorem dX3_freeDigits_14 : decode cX3_freeDigits 14 = .ok (.invokevirtual 23, 3) := by decide +kernel
theorem dX3_freeDigits_17 : decode cX3_freeDigits 17 = .ok (.iconst 1, 1) := by decide +kernel
theorem dX3_freeDigits_18 : decode cX3_freeDigits 18 = .ok (.isub, 1) := by decide +kernel
theorem dX3_freeDigits_19 : decode cX3_freeDigits 19 = .ok (.goto 10, 3) := by decide +kernel
theorem dX3_freeDigits_22 : decode cX3_freeDigits 22 = .ok (.aload_n 0, 1) := by decide +kernel
theorem dX3_freeDigits_23 : decode cX3_freeDigits 23 = .ok (.getfield 19, 3) := by decide +kernel
theorem dX3_freeDigits_26 : decode cX3_freeDigits 26 = .ok (.invokevirtual 23, 3) := by decide +kernel
theorem dX3_freeDigits_29 : decode cX3_freeDigits 29 = .ok (.ireturn, 1) := by decide +kernel
theorem dX3_startFree_0 : decode cX3_startFree 0 = .ok (.aload_n 0, 1) := by decide +kernel
theorem dX3_startFree_1 : decode cX3_startFree 1 = .ok (.getfield 9, 3) := by decide +kernel
theorem dX3_startFree_4 : decode cX3_startFree 4 = .ok (.iconst 0, 1) := by decide +kernel
theorem dX3_startFree_5 : decode cX3_startFree 5 = .ok (.invokestatic 75, 3) := by decide +kernel
theorem dX3_startFree_8 : decode cX3_startFree 8 = .ok (.return_, 1) := by decide +kernel
theorem dX3_advanceFree_0 : decode cX3_advanceFree 0 = .ok (.aload_n 0, 1) := by decide +kernel
theorem dX3_advanceFree_1 : decode cX3_advanceFree 1 = .ok (.invokevirtual 81, 3) := by decide +kernel
theorem dX3_advanceFree_4 : decode cX3_advanceFree 4 = .ok (.iconst 1, 1) := by decide +kernel
theorem dX3_advanceFree_5 : decode cX3_advanceFree 5 = .ok (.isub, 1) := by decide +kernel
theorem dX3_advanceFree_6 : decode cX3_advanceFree 6 = .ok (.istore_n 1, 1) := by decide +kernel
theorem dX3_advanceFree_7 : decode cX3_advanceFree 7 = .ok (.iload_n 1, 1) := by decide +kernel
theorem dX3_advanceFree_8 : decode cX3_advanceFree 8 = .ok (.ifCond .lt 34, 3) := by decide +kernel
theorem dX3_advanceFree_11 : decode cX3_advanceFree 11 = .ok (.aload_n 0, 1) := by decide +kernel
theorem dX3_advanceFree_12 : decode cX3_advanceFree 12 = .ok (.getfield 9, 3) := by decide +kernel
theorem dX3_advanceFree_15 : decode cX3_advanceFree 15 = .ok (.iload_n 1, 1) := by decide +kernel
theorem dX3_advanceFree_16 : decode cX3_advanceFree 16 = .ok (.iaload, 1) := by decide +kernel
theorem dX3_advanceFree_17 : decode cX3_advanceFree 17 = .ok (.aload_n 0, 1) := by decide +kernel
theorem dX3_advanceFree_18 : decode cX3_advanceFree 18 = .ok (.getfield 15, 3) := by decide +kernel
theorem dX3_advanceFree_21 : decode cX3_advanceFree 21 = .ok (.getfield 84, 3) := by decide +kernel
theorem dX3_advanceFree_24 : decode cX3_advanceFree 24 = .ok (.iconst 1, 1) := by decide +kernel
theorem dX3_advanceFree_25 : decode cX3_advanceFree 25 = .ok (.isub, 1) := by decide +kernel
theorem dX3_advanceFree_26 : decode cX3_advanceFree 26 = .ok (.if_icmp .lt 16, 3) := by decide +kernel
theorem dX3_advanceFree_29 : decode cX3_advanceFree 29 = .ok (.aload_n 0, 1) := by decide +kernel
theorem dX3_advanceFree_30 : decode cX3_advanceFree 30 = .ok (.getfield 9, 3) := by decide +kernel
theorem dX3_advanceFree_33 : decode cX3_advanceFree 33 = .ok (.iload_n 1, 1) := by decide +kernel
theorem dX3_advanceFree_34 : decode cX3_advanceFree 34 = .ok (.iconst 0, 1) := by decide +kernel
theorem dX3_advanceFree_35 : decode cX3_advanceFree 35 = .ok (.iastore, 1) := by decide +kernel
theorem dX3_advanceFree_36 : decode cX3_advanceFree 36 = .ok (.iinc 1 (-1), 3) := by decide +kernel
theorem dX3_advanceFree_39 : decode cX3_advanceFree 39 = .ok (.goto (-32), 3) := by decide +kernel
theorem dX3_advanceFree_42 : decode cX3_advanceFree 42 = .ok (.iload_n 1, 1) := by decide +kernel
theorem dX3_advanceFree_43 : decode cX3_advanceFree 43 = .ok (.ifCond .ge 5, 3) := by decide +kernel
theorem dX3_advanceFree_46 : decode cX3_advanceFree 46 = .ok (.iconst 0, 1) := by decide +kernel
theorem dX3_advanceFree_47 : decode cX3_advanceFree 47 = .ok (.ireturn, 1) := by decide +kernel
theorem dX3_advanceFree_48 : decode cX3_advanceFree 48 = .ok (.aload_n 0, 1) := by decide +kernel
theorem dX3_advanceFree_49 : decode cX3_advanceFree 49 = .ok (.getfield 9, 3) := by decide +kernel
theorem dX3_advanceFree_52 : decode cX3_advanceFree 52 = .ok (.iload_n 1, 1) := by decide +kernel
theorem dX3_advanceFree_53 : decode cX3_advanceFree 53 = .ok (.dup2, 1) := by decide +kernel
theorem dX3_advanceFree_54 : decode cX3_advanceFree 54 = .ok (.iaload, 1) := by decide +kernel
theorem dX3_advanceFree_55 : decode cX3_advanceFree 55 = .ok (.iconst 1, 1) := by decide +kernel
theorem dX3_advanceFree_56 : decode cX3_advanceFree 56 = .ok (.iadd, 1) := by decide +kernel
theorem dX3_advanceFree_57 : decode cX3_advanceFree 57 = .ok (.iastore, 1) := by decide +kernel
theorem dX3_advanceFree_58 : decode cX3_advanceFree 58 = .ok (.iconst 1, 1) := by decide +kernel
theorem dX3_advanceFree_59 : decode cX3_advanceFree 59 = .ok (.ireturn, 1) := by decide +kernel
theorem dX3_completesMap_0 : decode cX3_completesMap 0 = .ok (.aload_n 0, 1) := by decide +kernel
theorem dX3_completesMap_1 : decode cX3_completesMap 1 = .ok (.getfield 19, 3) := by decide +kernel
theorem dX3_completesMap_4 : decode cX3_completesMap 4 = .ok (.getfield 39, 3) := by decide +kernel
theorem dX3_completesMap_7 : decode cX3_completesMap 7 = .ok (.iconst 1, 1) := by decide +kernel
theorem dX3_completesMap_8 : decode cX3_completesMap 8 = .ok (.isub, 1) := by decide +kernel
theorem dX3_completesMap_9 : decode cX3_completesMap 9 = .ok (.istore_n 1, 1) := by decide +kernel
theorem dX3_completesMap_10 : decode cX3_completesMap 10 = .ok (.iload_n 1, 1) := by decide +kernel
theorem dX3_completesMap_11 : decode cX3_completesMap 11 = .ok (.ifCond .ge 24, 3) := by decide +kernel
theorem dX3_completesMap_14 : decode cX3_completesMap 14 = .ok (.aload_n 0, 1) := by decide +kernel
theorem dX3_completesMap_15 : decode cX3_completesMap 15 = .ok (.iconst 0, 1) := by decide +kernel
theorem dX3_completesMap_16 : decode cX3_completesMap 16 = .ok (.invokevirtual 45, 3) := by decide +kernel
theorem dX3_completesMap_19 : decode cX3_completesMap 19 = .ok (.ifCond .ne 14, 3) := by decide +kernel
theorem dX3_completesMap_22 : decode cX3_completesMap 22 = .ok (.aload_n 0, 1) := by decide +kernel
theorem dX3_completesMap_23 : decode cX3_completesMap 23 = .ok (.invokevirtual 49, 3) := by decide +kernel
theorem dX3_completesMap_26 : decode cX3_completesMap 26 = .ok (.ifCond .eq 7, 3) := by decide +kernel
theorem dX3_completesMap_29 : decode cX3_completesMap 29 = .ok (.iconst 1, 1) := by decide +kernel
theorem dX3_completesMap_30 : decode cX3_completesMap 30 = .ok (.goto 4, 3) := by decide +kernel
theorem dX3_completesMap_33 : decode cX3_completesMap 33 = .ok (.iconst 0, 1) := by decide +kernel
theorem dX3_completesMap_34 : decode cX3_completesMap 34 = .ok (.ireturn, 1) := by decide +kernel
theorem dX3_completesMap_35 : decode cX3_completesMap 35 = .ok (.aload_n 0, 1) := by decide +kernel
theorem dX3_completesMap_36 : decode cX3_completesMap 36 = .ok (.iload_n 1, 1) := by decide +kernel
theorem dX3_completesMap_37 : decode cX3_completesMap 37 = .ok (.invokevirtual 42, 3) := by decide +kernel
theorem dX3_completesMap_40 : decode cX3_completesMap 40 = .ok (.ifCond .ne 5, 3) := by decide +kernel
theorem dX3_completesMap_43 : decode cX3_completesMap 43 = .ok (.iconst 0, 1) := by decide +kernel
theorem dX3_completesMap_44 : decode cX3_completesMap 44 = .ok (.ireturn, 1) := by decide +kernel
theorem dX3_completesMap_45 : decode cX3_completesMap 45 = .ok (.aload_n 0, 1) := by decide +kernel
theorem dX3_completesMap_46 : decode cX3_completesMap 46 = .ok (.getfield 9, 3) := by decide +kernel
theorem dX3_completesMap_49 : decode cX3_completesMap 49 = .ok (.iconst 2, 1) := by decide +kernel
theorem dX3_completesMap_50 : decode cX3_completesMap 50 = .ok (.aload_n 0, 1) := by decide +kernel
theorem dX3_completesMap_51 : decode cX3_completesMap 51 = .ok (.getfield 19, 3) := by decide +kernel
theorem dX3_completesMap_54 : decode cX3_completesMap 54 = .ok (.getfield 35, 3) := by decide +kernel
theorem dX3_completesMap_57 : decode cX3_completesMap 57 = .ok (.imul, 1) := by decide +kernel
theorem dX3_completesMap_58 : decode cX3_completesMap 58 = .ok (.iload_n 1, 1) := by decide +kernel
theorem dX3_completesMap_59 : decode cX3_completesMap 59 = .ok (.iadd, 1) := by decide +kernel
theorem dX3_completesMap_60 : decode cX3_completesMap 60 = .ok (.aload_n 0, 1) := by decide +kernel
theorem dX3_completesMap_61 : decode cX3_completesMap 61 = .ok (.getfield 15, 3) := by decide +kernel
theorem dX3_completesMap_64 : decode cX3_completesMap 64 = .ok (.getfield 72, 3) := by decide +kernel
theorem dX3_completesMap_67 : decode cX3_completesMap 67 = .ok (.aload_n 0, 1) := by decide +kernel
theorem dX3_completesMap_68 : decode cX3_completesMap 68 = .ok (.iload_n 1, 1) := by decide +kernel
theorem dX3_completesMap_69 : decode cX3_completesMap 69 = .ok (.invokevirtual 45, 3) := by decide +kernel
theorem dX3_completesMap_72 : decode cX3_completesMap 72 = .ok (.iaload, 1) := by decide +kernel
theorem dX3_completesMap_73 : decode cX3_completesMap 73 = .ok (.iastore, 1) := by decide +kernel
theorem dX3_completesMap_74 : decode cX3_completesMap 74 = .ok (.aload_n 0, 1) := by decide +kernel
theorem dX3_completesMap_75 : decode cX3_completesMap 75 = .ok (.aload_n 0, 1) := by decide +kernel
theorem dX3_completesMap_76 : decode cX3_completesMap 76 = .ok (.getfield 19, 3) := by decide +kernel
theorem dX3_completesMap_79 : decode cX3_completesMap 79 = .ok (.getfield 39, 3) := by decide +kernel
theorem dX3_completesMap_82 : decode cX3_completesMap 82 = .ok (.invokevirtual 42, 3) := by decide +kernel
theorem dX3_completesMap_85 : decode cX3_completesMap 85 = .ok (.ifCond .eq 14, 3) := by decide +kernel
theorem dX3_completesMap_88 : decode cX3_completesMap 88 = .ok (.aload_n 0, 1) := by decide +kernel
theorem dX3_completesMap_89 : decode cX3_completesMap 89 = .ok (.invokevirtual 49, 3) := by decide +kernel
theorem dX3_completesMap_92 : decode cX3_completesMap 92 = .ok (.ifCond .eq 7, 3) := by decide +kernel
theorem dX3_completesMap_95 : decode cX3_completesMap 95 = .ok (.iconst 1, 1) := by decide +kernel
theorem dX3_completesMap_96 : decode cX3_completesMap 96 = .ok (.goto 4, 3) := by decide +kernel
theorem dX3_completesMap_99 : decode cX3_completesMap 99 = .ok (.iconst 0, 1) := by decide +kernel
theorem dX3_completesMap_100 : decode cX3_completesMap 100 = .ok (.ireturn, 1) := by decide +kernel
theorem dX3_movesOfNeighbours_0 : decode cX3_movesOfNeighbours 0 = .ok (.iconst 0, 1) := by decide +kernel
theorem dX3_movesOfNeighbours_1 : decode cX3_movesOfNeighbours 1 = .ok (.aload_n 0, 1) := by decide +kernel
theorem dX3_movesOfNeighbours_2 : decode cX3_movesOfNeighbours 2 = .ok (.getfield 19, 3) := by decide +kernel
theorem dX3_movesOfNeighbours_5 : decode cX3_movesOfNeighbours 5 = .ok (.getfield 39, 3) := by decide +kernel
theorem dX3_movesOfNeighbours_8 : decode cX3_movesOfNeighbours 8 = .ok (.iconst 1, 1) := by decide +kernel
theorem dX3_movesOfNeighbours_9 : decode cX3_movesOfNeighbours 9 = .ok (.isub, 1) := by decide +kernel
theorem dX3_movesOfNeighbours_10 : decode cX3_movesOfNeighbours 10 = .ok (.invokestatic 87, 3) := by decide +kernel
theorem dX3_movesOfNeighbours_13 : decode cX3_movesOfNeighbours 13 = .ok (.ireturn, 1) := by decide +kernel
theorem dX3_moveCount_0 : decode cX3_moveCount 0 = .ok (.aload_n 0, 1) := by decide +kernel
theorem dX3_moveCount_1 : decode cX3_moveCount 1 = .ok (.invokevirtual 92, 3) := by decide +kernel
theorem dX3_moveCount_4 : decode cX3_moveCount 4 = .ok (.aload_n 0, 1) := by decide +kernel
theorem dX3_moveCount_5 : decode cX3_moveCount 5 = .ok (.getfield 15, 3) := by decide +kernel
theorem dX3_moveCount_8 : decode cX3_moveCount 8 = .ok (.getfield 84, 3) := by decide +kernel
theorem dX3_moveCount_11 : decode cX3_moveCount 11 = .ok (.iadd, 1) := by decide +kernel
theorem dX3_moveCount_12 : decode cX3_moveCount 12 = .ok (.iconst 2, 1) := by decide +kernel
theorem dX3_moveCount_13 : decode cX3_moveCount 13 = .ok (.aload_n 0, 1) := by decide +kernel
theorem dX3_moveCount_14 : decode cX3_moveCount 14 = .ok (.getfield 19, 3) := by decide +kernel
theorem dX3_moveCount_17 : decode cX3_moveCount 17 = .ok (.getfield 35, 3) := by decide +kernel
theorem dX3_moveCount_20 : decode cX3_moveCount 20 = .ok (.imul, 1) := by decide +kernel
theorem dX3_moveCount_21 : decode cX3_moveCount 21 = .ok (.iadd, 1) := by decide +kernel
theorem dX3_moveCount_22 : decode cX3_moveCount 22 = .ok (.ireturn, 1) := by decide +kernel
theorem dX3_moveAt_0 : decode cX3_moveAt 0 = .ok (.iload_n 1, 1) := by decide +kernel
theorem dX3_moveAt_1 : decode cX3_moveAt 1 = .ok (.aload_n 0, 1) := by decide +kernel
theorem dX3_moveAt_2 : decode cX3_moveAt 2 = .ok (.invokevirtual 92, 3) := by decide +kernel
theorem dX3_moveAt_5 : decode cX3_moveAt 5 = .ok (.isub, 1) := by decide +kernel
theorem dX3_moveAt_6 : decode cX3_moveAt 6 = .ok (.istore_n 2, 1) := by decide +kernel
theorem dX3_moveAt_7 : decode cX3_moveAt 7 = .ok (.iload_n 2, 1) := by decide +kernel
theorem dX3_moveAt_8 : decode cX3_moveAt 8 = .ok (.ifCond .ge 7, 3) := by decide +kernel
theorem dX3_moveAt_11 : decode cX3_moveAt 11 = .ok (.iload_n 1, 1) := by decide +kernel
theorem dX3_moveAt_12 : decode cX3_moveAt 12 = .ok (.iconst 1, 1) := by decide +kernel
theorem dX3_moveAt_13 : decode cX3_moveAt 13 = .ok (.iadd, 1) := by decide +kernel
theorem dX3_moveAt_14 : decode cX3_moveAt 14 = .ok (.ireturn, 1) := by decide +kernel
theorem dX3_moveAt_15 : decode cX3_moveAt 15 = .ok (.iload_n 2, 1) := by decide +kernel
theorem dX3_moveAt_16 : decode cX3_moveAt 16 = .ok (.aload_n 0, 1) := by decide +kernel
theorem dX3_moveAt_17 : decode cX3_moveAt 17 = .ok (.getfield 15, 3) := by decide +kernel
theorem dX3_moveAt_20 : decode cX3_moveAt 20 = .ok (.getfield 84, 3) := by decide +kernel
theorem dX3_moveAt_23 : decode cX3_moveAt 23 = .ok (.if_icmp .ge 10, 3) := by decide +kernel
theorem dX3_moveAt_26 : decode cX3_moveAt 26 = .ok (.bipush 10, 2) := by decide +kernel
theorem dX3_moveAt_28 : decode cX3_moveAt 28 = .ok (.iload_n 2, 1) := by decide +kernel
theorem dX3_moveAt_29 : decode cX3_moveAt 29 = .ok (.iadd, 1) := by decide +kernel
theorem dX3_moveAt_30 : decode cX3_moveAt 30 = .ok (.goto 15, 3) := by decide +kernel
theorem dX3_moveAt_33 : decode cX3_moveAt 33 = .ok (.bipush 20, 2) := by decide +kernel
theorem dX3_moveAt_35 : decode cX3_moveAt 35 = .ok (.iload_n 2, 1) := by decide +kernel
theorem dX3_moveAt_36 : decode cX3_moveAt 36 = .ok (.iadd, 1) := by decide +kernel
theorem dX3_moveAt_37 : decode cX3_moveAt 37 = .ok (.aload_n 0, 1) := by decide +kernel
theorem dX3_moveAt_38 : decode cX3_moveAt 38 = .ok (.getfield 15, 3) := by decide +kernel
theorem dX3_moveAt_41 : decode cX3_moveAt 41 = .ok (.getfield 84, 3) := by decide +kernel
theorem dX3_moveAt_44 : decode cX3_moveAt 44 = .ok (.isub, 1) := by decide +kernel
theorem dX3_moveAt_45 : decode cX3_moveAt 45 = .ok (.ireturn, 1) := by decide +kernel
theorem dX3_moveBy_0 : decode cX3_moveBy 0 = .ok (.iload_n 1, 1) := by decide +kernel
theorem dX3_moveBy_1 : decode cX3_moveBy 1 = .ok (.iconst 1, 1) := by decide +kernel
theorem dX3_moveBy_2 : decode cX3_moveBy 2 = .ok (.if_icmp .lt 22, 3) := by decide +kernel
theorem dX3_moveBy_5 : decode cX3_moveBy 5 = .ok (.iload_n 1, 1) := by decide +kernel
theorem dX3_moveBy_6 : decode cX3_moveBy 6 = .ok (.aload_n 0, 1) := by decide +kernel
theorem dX3_moveBy_7 : decode cX3_moveBy 7 = .ok (.getfield 19, 3) := by decide +kernel
theorem dX3_moveBy_10 : decode cX3_moveBy 10 = .ok (.getfield 39, 3) := by decide +kernel
theorem dX3_moveBy_13 : decode cX3_moveBy 13 = .ok (.if_icmp .ge 11, 3) := by decide +kernel
theorem dX3_moveBy_16 : decode cX3_moveBy 16 = .ok (.aload_n 0, 1) := by decide +kernel
theorem dX3_moveBy_17 : decode cX3_moveBy 17 = .ok (.iload_n 1, 1) := by decide +kernel
theorem dX3_moveBy_18 : decode cX3_moveBy 18 = .ok (.invokevirtual 95, 3) := by decide +kernel
theorem dX3_moveBy_21 : decode cX3_moveBy 21 = .ok (.goto 126, 3) := by decide +kernel
theorem dX3_moveBy_24 : decode cX3_moveBy 24 = .ok (.iload_n 1, 1) := by decide +kernel
theorem dX3_moveBy_25 : decode cX3_moveBy 25 = .ok (.bipush 10, 2) := by decide +kernel
theorem dX3_moveBy_27 : decode cX3_moveBy 27 = .ok (.if_icmp .lt 28, 3) := by decide +kernel
theorem dX3_moveBy_30 : decode cX3_moveBy 30 = .ok (.aload_n 0, 1) := by decide +kernel
theorem dX3_moveBy_31 : decode cX3_moveBy 31 = .ok (.getfield 15, 3) := by decide +kernel
theorem dX3_moveBy_34 : decode cX3_moveBy 34 = .ok (.iload_n 1, 1) := by decide +kernel
theorem dX3_moveBy_35 : decode cX3_moveBy 35 = .ok (.bipush 10, 2) := by decide +kernel
theorem dX3_moveBy_37 : decode cX3_moveBy 37 = .ok (.isub, 1) := by decide +kernel
theorem dX3_moveBy_38 : decode cX3_moveBy 38 = .ok (.invokevirtual 29, 3) := by decide +kernel
theorem dX3_moveBy_41 : decode cX3_moveBy 41 = .ok (.ifCond .eq 14, 3) := by decide +kernel
theorem dX3_moveBy_44 : decode cX3_moveBy 44 = .ok (.aload_n 0, 1) := by decide +kernel
theorem dX3_moveBy_45 : decode cX3_moveBy 45 = .ok (.iload_n 1, 1) := by decide +kernel
theorem dX3_moveBy_46 : decode cX3_moveBy 46 = .ok (.bipush 10, 2) := by decide +kernel
theorem dX3_moveBy_48 : decode cX3_moveBy 48 = .ok (.isub, 1) := by decide +kernel
theorem dX3_moveBy_49 : decode cX3_moveBy 49 = .ok (.invokevirtual 99, 3) := by decide +kernel
theorem dX3_moveBy_52 : decode cX3_moveBy 52 = .ok (.goto 95, 3) := by decide +kernel
theorem dX3_moveBy_55 : decode cX3_moveBy 55 = .ok (.iload_n 1, 1) := by decide +kernel
theorem dX3_moveBy_56 : decode cX3_moveBy 56 = .ok (.bipush 20, 2) := by decide +kernel
theorem dX3_moveBy_58 : decode cX3_moveBy 58 = .ok (.if_icmp .ne 42, 3) := by decide +kernel
theorem dX3_moveBy_61 : decode cX3_moveBy 61 = .ok (.aload_n 0, 1) := by decide +kernel
theorem dX3_moveBy_62 : decode cX3_moveBy 62 = .ok (.getfield 19, 3) := by decide +kernel
theorem dX3_moveBy_65 : decode cX3_moveBy 65 = .ok (.getfield 35, 3) := by decide +kernel
theorem dX3_moveBy_68 : decode cX3_moveBy 68 = .ok (.iconst 1, 1) := by decide +kernel
theorem dX3_moveBy_69 : decode cX3_moveBy 69 = .ok (.if_icmp .ne 31, 3) := by decide +kernel
theorem dX3_moveBy_72 : decode cX3_moveBy 72 = .ok (.aload_n 0, 1) := by decide +kernel
theorem dX3_moveBy_73 : decode cX3_moveBy 73 = .ok (.getfield 9, 3) := by decide +kernel
theorem dX3_moveBy_76 : decode cX3_moveBy 76 = .ok (.iconst 0, 1) := by decide +kernel
theorem dX3_moveBy_77 : decode cX3_moveBy 77 = .ok (.aload_n 0, 1) := by decide +kernel
theorem dX3_moveBy_78 : decode cX3_moveBy 78 = .ok (.getfield 15, 3) := by decide +kernel
theorem dX3_moveBy_81 : decode cX3_moveBy 81 = .ok (.aload_n 0, 1) := by decide +kernel
theorem dX3_moveBy_82 : decode cX3_moveBy 82 = .ok (.getfield 9, 3) := by decide +kernel
theorem dX3_moveBy_85 : decode cX3_moveBy 85 = .ok (.iconst 0, 1) := by decide +kernel
theorem dX3_moveBy_86 : decode cX3_moveBy 86 = .ok (.iaload, 1) := by decide +kernel
theorem dX3_moveBy_87 : decode cX3_moveBy 87 = .ok (.aload_n 0, 1) := by decide +kernel
theorem dX3_moveBy_88 : decode cX3_moveBy 88 = .ok (.getfield 9, 3) := by decide +kernel
theorem dX3_moveBy_91 : decode cX3_moveBy 91 = .ok (.iconst 1, 1) := by decide +kernel
theorem dX3_moveBy_92 : decode cX3_moveBy 92 = .ok (.iaload, 1) := by decide +kernel
theorem dX3_moveBy_93 : decode cX3_moveBy 93 = .ok (.invokevirtual 68, 3) := by decide +kernel
theorem dX3_moveBy_96 : decode cX3_moveBy 96 = .ok (.iastore, 1) := by decide +kernel
theorem dX3_moveBy_97 : decode cX3_moveBy 97 = .ok (.goto 50, 3) := by decide +kernel
theorem dX3_moveBy_100 : decode cX3_moveBy 100 = .ok (.iload_n 1, 1) := by decide +kernel
theorem dX3_moveBy_101 : decode cX3_moveBy 101 = .ok (.bipush 21, 2) := by decide +kernel
theorem dX3_moveBy_103 : decode cX3_moveBy 103 = .ok (.if_icmp .ne 42, 3) := by decide +kernel
theorem dX3_moveBy_106 : decode cX3_moveBy 106 = .ok (.aload_n 0, 1) := by decide +kernel
theorem dX3_moveBy_107 : decode cX3_moveBy 107 = .ok (.getfield 19, 3) := by decide +kernel
theorem dX3_moveBy_110 : decode cX3_moveBy 110 = .ok (.getfield 35, 3) := by decide +kernel
theorem dX3_moveBy_113 : decode cX3_moveBy 113 = .ok (.iconst 1, 1) := by decide +kernel
theorem dX3_moveBy_114 : decode cX3_moveBy 114 = .ok (.if_icmp .ne 31, 3) := by decide +kernel
theorem dX3_moveBy_117 : decode cX3_moveBy 117 = .ok (.aload_n 0, 1) := by decide +kernel
theorem dX3_moveBy_118 : decode cX3_moveBy 118 = .ok (.getfield 9, 3) := by decide +kernel
theorem dX3_moveBy_121 : decode cX3_moveBy 121 = .ok (.iconst 1, 1) := by decide +kernel
theorem dX3_moveBy_122 : decode cX3_moveBy 122 = .ok (.aload_n 0, 1) := by decide +kernel
theorem dX3_moveBy_123 : decode cX3_moveBy 123 = .ok (.getfield 15, 3) := by decide +kernel
theorem dX3_moveBy_126 : decode cX3_moveBy 126 = .ok (.aload_n 0, 1) := by decide +kernel
theorem dX3_moveBy_127 : decode cX3_moveBy 127 = .ok (.getfield 9, 3) := by decide +kernel
theorem dX3_moveBy_130 : decode cX3_moveBy 130 = .ok (.iconst 1, 1) := by decide +kernel
theorem dX3_moveBy_131 : decode cX3_moveBy 131 = .ok (.iaload, 1) := by decide +kernel
theorem dX3_moveBy_132 : decode cX3_moveBy 132 = .ok (.aload_n 0, 1) := by decide +kernel
theorem dX3_moveBy_133 : decode cX3_moveBy 133 = .ok (.getfield 9, 3) := by decide +kernel
theorem dX3_moveBy_136 : decode cX3_moveBy 136 = .ok (.iconst 0, 1) := by decide +kernel
theorem dX3_moveBy_137 : decode cX3_moveBy 137 = .ok (.iaload, 1) := by decide +kernel
theorem dX3_moveBy_138 : decode cX3_moveBy 138 = .ok (.invokevirtual 68, 3) := by decide +kernel
theorem dX3_moveBy_141 : decode cX3_moveBy 141 = .ok (.iastore, 1) := by decide +kernel
theorem dX3_moveBy_142 : decode cX3_moveBy 142 = .ok (.goto 5, 3) := by decide +kernel
theorem dX3_moveBy_145 : decode cX3_moveBy 145 = .ok (.iconst 0, 1) := by decide +kernel
theorem dX3_moveBy_146 : decode cX3_moveBy 146 = .ok (.ireturn, 1) := by decide +kernel
theorem dX3_moveBy_147 : decode cX3_moveBy 147 = .ok (.iconst 1, 1) := by decide +kernel
theorem dX3_moveBy_148 : decode cX3_moveBy 148 = .ok (.ireturn, 1) := by decide +kernel
theorem dX3_moveNeighbours_0 : decode cX3_moveNeighbours 0 = .ok (.aload_n 0, 1) := by decide +kernel
theorem dX3_moveNeighbours_1 : decode cX3_moveNeighbours 1 = .ok (.iconst 2, 1) := by decide +kernel
theorem dX3_moveNeighbours_2 : decode cX3_moveNeighbours 2 = .ok (.aload_n 0, 1) := by decide +kernel
theorem dX3_moveNeighbours_3 : decode cX3_moveNeighbours 3 = .ok (.getfield 19, 3) := by decide +kernel
theorem dX3_moveNeighbours_6 : decode cX3_moveNeighbours 6 = .ok (.getfield 35, 3) := by decide +kernel
theorem dX3_moveNeighbours_9 : decode cX3_moveNeighbours 9 = .ok (.imul, 1) := by decide +kernel
theorem dX3_moveNeighbours_10 : decode cX3_moveNeighbours 10 = .ok (.iload_n 1, 1) := by decide +kernel
theorem dX3_moveNeighbours_11 : decode cX3_moveNeighbours 11 = .ok (.iadd, 1) := by decide +kernel
theorem dX3_moveNeighbours_12 : decode cX3_moveNeighbours 12 = .ok (.invokevirtual 102, 3) := by decide +kernel
theorem dX3_moveNeighbours_15 : decode cX3_moveNeighbours 15 = .ok (.aload_n 0, 1) := by decide +kernel
theorem dX3_moveNeighbours_16 : decode cX3_moveNeighbours 16 = .ok (.getfield 19, 3) := by decide +kernel
theorem dX3_moveNeighbours_19 : decode cX3_moveNeighbours 19 = .ok (.getfield 65, 3) := by decide +kernel
theorem dX3_moveNeighbours_22 : decode cX3_moveNeighbours 22 = .ok (.iload_n 1, 1) := by decide +kernel
theorem dX3_moveNeighbours_23 : decode cX3_moveNeighbours 23 = .ok (.iconst 1, 1) := by decide +kernel
theorem dX3_moveNeighbours_24 : decode cX3_moveNeighbours 24 = .ok (.isub, 1) := by decide +kernel
theorem dX3_moveNeighbours_25 : decode cX3_moveNeighbours 25 = .ok (.iaload, 1) := by decide +kernel
theorem dX3_moveNeighbours_26 : decode cX3_moveNeighbours 26 = .ok (.aload_n 0, 1) := by decide +kernel
theorem dX3_moveNeighbours_27 : decode cX3_moveNeighbours 27 = .ok (.getfield 19, 3) := by decide +kernel
theorem dX3_moveNeighbours_30 : decode cX3_moveNeighbours 30 = .ok (.getfield 65, 3) := by decide +kernel
theorem dX3_moveNeighbours_33 : decode cX3_moveNeighbours 33 = .ok (.iload_n 1, 1) := by decide +kernel
theorem dX3_moveNeighbours_34 : decode cX3_moveNeighbours 34 = .ok (.iaload, 1) := by decide +kernel
theorem dX3_moveNeighbours_35 : decode cX3_moveNeighbours 35 = .ok (.if_icmp .eq 18, 3) := by decide +kernel
theorem dX3_moveNeighbours_38 : decode cX3_moveNeighbours 38 = .ok (.aload_n 0, 1) := by decide +kernel
theorem dX3_moveNeighbours_39 : decode cX3_moveNeighbours 39 = .ok (.iconst 2, 1) := by decide +kernel
theorem dX3_moveNeighbours_40 : decode cX3_moveNeighbours 40 = .ok (.aload_n 0, 1) := by decide +kernel
theorem dX3_moveNeighbours_41 : decode cX3_moveNeighbours 41 = .ok (.getfield 19, 3) := by decide +kernel
theorem dX3_moveNeighbours_44 : decode cX3_moveNeighbours 44 = .ok (.getfield 35, 3) := by decide +kernel
theorem dX3_moveNeighbours_47 : decode cX3_moveNeighbours 47 = .ok (.imul, 1) := by decide +kernel
theorem dX3_moveNeighbours_48 : decode cX3_moveNeighbours 48 = .ok (.iload_n 1, 1) := by decide +kernel
theorem dX3_moveNeighbours_49 : decode cX3_moveNeighbours 49 = .ok (.iadd, 1) := by decide +kernel
theorem dX3_moveNeighbours_50 : decode cX3_moveNeighbours 50 = .ok (.invokevirtual 102, 3) := by decide +kernel
theorem dX3_moveNeighbours_53 : decode cX3_moveNeighbours 53 = .ok (.return_, 1) := by decide +kernel
theorem dX3_swapNeighbours_0 : decode cX3_swapNeighbours 0 = .ok (.aload_n 0, 1) := by decide +kernel
theorem dX3_swapNeighbours_1 : decode cX3_swapNeighbours 1 = .ok (.getfield 9, 3) := by decide +kernel
theorem dX3_swapNeighbours_4 : decode cX3_swapNeighbours 4 = .ok (.iload_n 1, 1) := by decide +kernel
theorem dX3_swapNeighbours_5 : decode cX3_swapNeighbours 5 = .ok (.iconst 1, 1) := by decide +kernel
theorem dX3_swapNeighbours_6 : decode cX3_swapNeighbours 6 = .ok (.isub, 1) := by decide +kernel
theorem dX3_swapNeighbours_7 : decode cX3_swapNeighbours 7 = .ok (.iaload, 1) := by decide +kernel
theorem dX3_swapNeighbours_8 : decode cX3_swapNeighbours 8 = .ok (.istore_n 2, 1) := by decide +kernel
theorem dX3_swapNeighbours_9 : decode cX3_swapNeighbours 9 = .ok (.aload_n 0, 1) := by decide +kernel
theorem dX3_swapNeighbours_10 : decode cX3_swapNeighbours 10 = .ok (.getfield 9, 3) := by decide +kernel
theorem dX3_swapNeighbours_13 : decode cX3_swapNeighbours 13 = .ok (.iload_n 1, 1) := by decide +kernel
theorem dX3_swapNeighbours_14 : decode cX3_swapNeighbours 14 = .ok (.iconst 1, 1) := by decide +kernel
theorem dX3_swapNeighbours_15 : decode cX3_swapNeighbours 15 = .ok (.isub, 1) := by decide +kernel
theorem dX3_swapNeighbours_16 : decode cX3_swapNeighbours 16 = .ok (.aload_n 0, 1) := by decide +kernel
theorem dX3_swapNeighbours_17 : decode cX3_swapNeighbours 17 = .ok (.getfield 9, 3) := by decide +kernel
theorem dX3_swapNeighbours_20 : decode cX3_swapNeighbours 20 = .ok (.iload_n 1, 1) := by decide +kernel
theorem dX3_swapNeighbours_21 : decode cX3_swapNeighbours 21 = .ok (.iaload, 1) := by decide +kernel
theorem dX3_swapNeighbours_22 : decode cX3_swapNeighbours 22 = .ok (.iastore, 1) := by decide +kernel
theorem dX3_swapNeighbours_23 : decode cX3_swapNeighbours 23 = .ok (.aload_n 0, 1) := by decide +kernel
theorem dX3_swapNeighbours_24 : decode cX3_swapNeighbours 24 = .ok (.getfield 9, 3) := by decide +kernel
theorem dX3_swapNeighbours_27 : decode cX3_swapNeighbours 27 = .ok (.iload_n 1, 1) := by decide +kernel
theorem dX3_swapNeighbours_28 : decode cX3_swapNeighbours 28 = .ok (.aload_n 0, 1) := by decide +kernel
theorem dX3_swapNeighbours_29 : decode cX3_swapNeighbours 29 = .ok (.getfield 15, 3) := by decide +kernel
theorem dX3_swapNeighbours_32 : decode cX3_swapNeighbours 32 = .ok (.iload_n 2, 1) := by decide +kernel
theorem dX3_swapNeighbours_33 : decode cX3_swapNeighbours 33 = .ok (.aload_n 0, 1) := by decide +kernel
theorem dX3_swapNeighbours_34 : decode cX3_swapNeighbours 34 = .ok (.getfield 9, 3) := by decide +kernel
theorem dX3_swapNeighbours_37 : decode cX3_swapNeighbours 37 = .ok (.iload_n 1, 1) := by decide +kernel
theorem dX3_swapNeighbours_38 : decode cX3_swapNeighbours 38 = .ok (.iaload, 1) := by decide +kernel
theorem dX3_swapNeighbours_39 : decode cX3_swapNeighbours 39 = .ok (.invokevirtual 105, 3) := by decide +kernel
theorem dX3_swapNeighbours_42 : decode cX3_swapNeighbours 42 = .ok (.iastore, 1) := by decide +kernel
theorem dX3_swapNeighbours_43 : decode cX3_swapNeighbours 43 = .ok (.return_, 1) := by decide +kernel
theorem dX3_moveByElement_0 : decode cX3_moveByElement 0 = .ok (.iconst 0, 1) := by decide +kernel
theorem dX3_moveByElement_1 : decode cX3_moveByElement 1 = .ok (.istore_n 2, 1) := by decide +kernel
theorem dX3_moveByElement_2 : decode cX3_moveByElement 2 = .ok (.iload_n 2, 1) := by decide +kernel
theorem dX3_moveByElement_3 : decode cX3_moveByElement 3 = .ok (.aload_n 0, 1) := by decide +kernel
theorem dX3_moveByElement_4 : decode cX3_moveByElement 4 = .ok (.getfield 19, 3) := by decide +kernel
theorem dX3_moveByElement_7 : decode cX3_moveByElement 7 = .ok (.invokevirtual 23, 3) := by decide +kernel
theorem dX3_moveByElement_10 : decode cX3_moveByElement 10 = .ok (.if_icmp .ge 29, 3) := by decide +kernel
theorem dX3_moveByElement_13 : decode cX3_moveByElement 13 = .ok (.aload_n 0, 1) := by decide +kernel
theorem dX3_moveByElement_14 : decode cX3_moveByElement 14 = .ok (.getfield 9, 3) := by decide +kernel
theorem dX3_moveByElement_17 : decode cX3_moveByElement 17 = .ok (.iload_n 2, 1) := by decide +kernel
theorem dX3_moveByElement_18 : decode cX3_moveByElement 18 = .ok (.aload_n 0, 1) := by decide +kernel
theorem dX3_moveByElement_19 : decode cX3_moveByElement 19 = .ok (.getfield 15, 3) := by decide +kernel
theorem dX3_moveByElement_22 : decode cX3_moveByElement 22 = .ok (.aload_n 0, 1) := by decide +kernel
theorem dX3_moveByElement_23 : decode cX3_moveByElement 23 = .ok (.getfield 9, 3) := by decide +kernel
theorem dX3_moveByElement_26 : decode cX3_moveByElement 26 = .ok (.iload_n 2, 1) := by decide +kernel
theorem dX3_moveByElement_27 : decode cX3_moveByElement 27 = .ok (.iaload, 1) := by decide +kernel
theorem dX3_moveByElement_28 : decode cX3_moveByElement 28 = .ok (.iload_n 1, 1) := by decide +kernel
theorem dX3_moveByElement_29 : decode cX3_moveByElement 29 = .ok (.invokevirtual 105, 3) := by decide +kernel
theorem dX3_moveByElement_32 : decode cX3_moveByElement 32 = .ok (.iastore, 1) := by decide +kernel
theorem dX3_moveByElement_33 : decode cX3_moveByElement 33 = .ok (.iinc 2 1, 3) := by decide +kernel
theorem dX3_moveByElement_36 : decode cX3_moveByElement 36 = .ok (.goto (-34), 3) := by decide +kernel
theorem dX3_moveByElement_39 : decode cX3_moveByElement 39 = .ok (.return_, 1) := by decide +kernel
theorem dX4_init_0 : decode cX4_init 0 = .ok (.aload_n 0, 1) := by decide +kernel
theorem dX4_init_1 : decode cX4_init 1 = .ok (.invokespecial 3, 3) := by decide +kernel
theorem dX4_init_4 : decode cX4_init 4 = .ok (.aload_n 0, 1) := by decide +kernel
theorem dX4_init_5 : decode cX4_init 5 = .ok (.iconst 4, 1) := by decide +kernel
theorem dX4_init_6 : decode cX4_init 6 = .ok (.newarray .int, 2) := by decide +kernel
theorem dX4_init_8 : decode cX4_init 8 = .ok (.putfield 9, 3) := by decide +kernel
theorem dX4_init_11 : decode cX4_init 11 = .ok (.return_, 1) := by decide +kernel
theorem dX4_digits_0 : decode cX4_digits 0 = .ok (.iconst 2, 1) := by decide +kernel
theorem dX4_digits_1 : decode cX4_digits 1 = .ok (.aload_n 0, 1) := by decide +kernel
theorem dX4_digits_2 : decode cX4_digits 2 = .ok (.getfield 15, 3) := by decide +kernel
theorem dX4_digits_5 : decode cX4_digits 5 = .ok (.imul, 1) := by decide +kernel
theorem dX4_digits_6 : decode cX4_digits 6 = .ok (.aload_n 0, 1) := by decide +kernel
theorem dX4_digits_7 : decode cX4_digits 7 = .ok (.getfield 19, 3) := by decide +kernel
theorem dX4_digits_10 : decode cX4_digits 10 = .ok (.iadd, 1) := by decide +kernel
theorem dX4_digits_11 : decode cX4_digits 11 = .ok (.ireturn, 1) := by decide +kernel
theorem dX4_hasPeriod_0 : decode cX4_hasPeriod 0 = .ok (.iload_n 1, 1) := by decide +kernel
theorem dX4_hasPeriod_1 : decode cX4_hasPeriod 1 = .ok (.ifCond .lt 15, 3) := by decide +kernel
theorem dX4_hasPeriod_4 : decode cX4_hasPeriod 4 = .ok (.iload_n 1, 1) := by decide +kernel
theorem dX4_hasPeriod_5 : decode cX4_hasPeriod 5 = .ok (.aload_n 0, 1) := by decide +kernel
theorem dX4_hasPeriod_6 : decode cX4_hasPeriod 6 = .ok (.getfield 19, 3) := by decide +kernel
theorem dX4_hasPeriod_9 : decode cX4_hasPeriod 9 = .ok (.if_icmp .ge 7, 3) := by decide +kernel
theorem dX4_hasPeriod_12 : decode cX4_hasPeriod 12 = .ok (.iconst 1, 1) := by decide +kernel
theorem dX4_hasPeriod_13 : decode cX4_hasPeriod 13 = .ok (.goto 4, 3) := by decide +kernel
theorem dX4_hasPeriod_16 : decode cX4_hasPeriod 16 = .ok (.iconst 0, 1) := by decide +kernel
theorem dX4_hasPeriod_17 : decode cX4_hasPeriod 17 = .ok (.ireturn, 1) := by decide +kernel
theorem dX4_add_0 : decode cX4_add 0 = .ok (.aload_n 0, 1) := by decide +kernel
theorem dX4_add_1 : decode cX4_add 1 = .ok (.getfield 19, 3) := by decide +kernel
theorem dX4_add_4 : decode cX4_add 4 = .ok (.iconst 4, 1) := by decide +kernel
theorem dX4_add_5 : decode cX4_add 5 = .ok (.if_icmp .ge 23, 3) := by decide +kernel
theorem dX4_add_8 : decode cX4_add 8 = .ok (.aload_n 0, 1) := by decide +kernel
theorem dX4_add_9 : decode cX4_add 9 = .ok (.getfield 9, 3) := by decide +kernel
theorem dX4_add_12 : decode cX4_add 12 = .ok (.aload_n 0, 1) := by decide +kernel
theorem dX4_add_13 : decode cX4_add 13 = .ok (.getfield 19, 3) := by decide +kernel
theorem dX4_add_16 : decode cX4_add 16 = .ok (.iload_n 1, 1) := by decide +kernel
theorem dX4_add_17 : decode cX4_add 17 = .ok (.iastore, 1) := by decide +kernel
theorem dX4_add_18 : decode cX4_add 18 = .ok (.aload_n 0, 1) := by decide +kernel
theorem dX4_add_19 : decode cX4_add 19 = .ok (.dup, 1) := by decide +kernel
theorem dX4_add_20 : decode cX4_add 20 = .ok (.getfield 19, 3) := by decide +kernel
theorem dX4_add_23 : decode cX4_add 23 = .ok (.iconst 1, 1) := by decide +kernel
theorem dX4_add_24 : decode cX4_add 24 = .ok (.iadd, 1) := by decide +kernel
theorem dX4_add_25 : decode cX4_add 25 = .ok (.putfield 19, 3) := by decide +kernel
theorem dX4_add_28 : decode cX4_add 28 = .ok (.return_, 1) := by decide +kernel
theorem dX4_periodDigits_0 : decode cX4_periodDigits 0 = .ok (.iconst 0, 1) := by decide +kernel
theorem dX4_periodDigits_1 : decode cX4_periodDigits 1 = .ok (.istore_n 1, 1) := by decide +kernel
theorem dX4_periodDigits_2 : decode cX4_periodDigits 2 = .ok (.iconst 0, 1) := by decide +kernel
theorem dX4_periodDigits_3 : decode cX4_periodDigits 3 = .ok (.istore_n 2, 1) := by decide +kernel
theorem dX4_periodDigits_4 : decode cX4_periodDigits 4 = .ok (.iload_n 2, 1) := by decide +kernel
theorem dX4_periodDigits_5 : decode cX4_periodDigits 5 = .ok (.aload_n 0, 1) := by decide +kernel
theorem dX4_periodDigits_6 : decode cX4_periodDigits 6 = .ok (.getfield 19, 3) := by decide +kernel
theorem dX4_periodDigits_9 : decode cX4_periodDigits 9 = .ok (.if_icmp .ge 21, 3) := by decide +kernel
theorem dX4_periodDigits_12 : decode cX4_periodDigits 12 = .ok (.iload_n 1, 1) := by decide +kernel
theorem dX4_periodDigits_13 : decode cX4_periodDigits 13 = .ok (.bipush 10, 2) := by decide +kernel
theorem dX4_periodDigits_15 : decode cX4_periodDigits 15 = .ok (.imul, 1) := by decide +kernel
theorem dX4_periodDigits_16 : decode cX4_periodDigits 16 = .ok (.aload_n 0, 1) := by decide +kernel
theorem dX4_periodDigits_17 : decode cX4_periodDigits 17 = .ok (.getfield 9, 3) := by decide +kernel
theorem dX4_periodDigits_20 : decode cX4_periodDigits 20 = .ok (.iload_n 2, 1) := by decide +kernel
theorem dX4_periodDigits_21 : decode cX4_periodDigits 21 = .ok (.iaload, 1) := by decide +kernel
theorem dX4_periodDigits_22 : decode cX4_periodDigits 22 = .ok (.iadd, 1) := by decide +kernel
theorem dX4_periodDigits_23 : decode cX4_periodDigits 23 = .ok (.istore_n 1, 1) := by decide +kernel
theorem dX4_periodDigits_24 : decode cX4_periodDigits 24 = .ok (.iinc 2 1, 3) := by decide +kernel
theorem dX4_periodDigits_27 : decode cX4_periodDigits 27 = .ok (.goto (-23), 3) := by decide +kernel
theorem dX4_periodDigits_30 : decode cX4_periodDigits 30 = .ok (.iload_n 1, 1) := by decide +kernel
theorem dX4_periodDigits_31 : decode cX4_periodDigits 31 = .ok (.ireturn, 1) := by decide +kernel
theorem dX4_take_0 : decode cX4_take 0 = .ok (.aload_n 0, 1) := by decide +kernel
theorem dX4_take_1 : decode cX4_take 1 = .ok (.iload_n 1, 1) := by decide +kernel
theorem dX4_take_2 : decode cX4_take 2 = .ok (.putfield 15, 3) := by decide +kernel
theorem dX4_take_5 : decode cX4_take 5 = .ok (.aload_n 0, 1) := by decide +kernel
theorem dX4_take_6 : decode cX4_take 6 = .ok (.iconst 0, 1) := by decide +kernel
theorem dX4_take_7 : decode cX4_take 7 = .ok (.putfield 19, 3) := by decide +kernel
theorem dX4_take_10 : decode cX4_take 10 = .ok (.sipush 1000, 3) := by decide +kernel
theorem dX4_take_13 : decode cX4_take 13 = .ok (.istore_n 3, 1) := by decide +kernel
theorem dX4_take_14 : decode cX4_take 14 = .ok (.iload_n 3, 1) := by decide +kernel
theorem dX4_take_15 : decode cX4_take 15 = .ok (.iconst 1, 1) := by decide +kernel
theorem dX4_take_16 : decode cX4_take 16 = .ok (.if_icmp .lt 30, 3) := by decide +kernel
theorem dX4_take_19 : decode cX4_take 19 = .ok (.iload_n 2, 1) := by decide +kernel
theorem dX4_take_20 : decode cX4_take 20 = .ok (.iload_n 3, 1) := by decide +kernel
theorem dX4_take_21 : decode cX4_take 21 = .ok (.idiv, 1) := by decide +kernel
theorem dX4_take_22 : decode cX4_take 22 = .ok (.bipush 10, 2) := by decide +kernel
theorem dX4_take_24 : decode cX4_take 24 = .ok (.irem, 1) := by decide +kernel
theorem dX4_take_25 : decode cX4_take 25 = .ok (.istore 4, 2) := by decide +kernel
theorem dX4_take_27 : decode cX4_take 27 = .ok (.iload 4, 2) := by decide +kernel
theorem dX4_take_29 : decode cX4_take 29 = .ok (.ifCond .eq 9, 3) := by decide +kernel
theorem dX4_take_32 : decode cX4_take 32 = .ok (.aload_n 0, 1) := by decide +kernel
theorem dX4_take_33 : decode cX4_take 33 = .ok (.iload 4, 2) := by decide +kernel
theorem dX4_take_35 : decode cX4_take 35 = .ok (.invokevirtual 22, 3) := by decide +kernel
theorem dX4_take_38 : decode cX4_take 38 = .ok (.iload_n 3, 1) := by decide +kernel
theorem dX4_take_39 : decode cX4_take 39 = .ok (.bipush 10, 2) := by decide +kernel
theorem dX4_take_41 : decode cX4_take 41 = .ok (.idiv, 1) := by decide +kernel
theorem dX4_take_42 : decode cX4_take 42 = .ok (.istore_n 3, 1) := by decide +kernel
theorem dX4_take_43 : decode cX4_take 43 = .ok (.goto (-29), 3) := by decide +kernel
theorem dX4_take_46 : decode cX4_take 46 = .ok (.return_, 1) := by decide +kernel
theorem dX4_genusOver_0 : decode cX4_genusOver 0 = .ok (.iload_n 1, 1) := by decide +kernel
theorem dX4_genusOver_1 : decode cX4_genusOver 1 = .ok (.iconst 2, 1) := by decide +kernel
theorem dX4_genusOver_2 : decode cX4_genusOver 2 = .ok (.aload_n 0, 1) := by decide +kernel
theorem dX4_genusOver_3 : decode cX4_genusOver 3 = .ok (.getfield 15, 3) := by decide +kernel
theorem dX4_genusOver_6 : decode cX4_genusOver 6 = .ok (.imul, 1) := by decide +kernel
theorem dX4_genusOver_7 : decode cX4_genusOver 7 = .ok (.iconst 2, 1) := by decide +kernel
theorem dX4_genusOver_8 : decode cX4_genusOver 8 = .ok (.isub, 1) := by decide +kernel
theorem dX4_genusOver_9 : decode cX4_genusOver 9 = .ok (.imul, 1) := by decide +kernel
theorem dX4_genusOver_10 : decode cX4_genusOver 10 = .ok (.iconst 2, 1) := by decide +kernel
theorem dX4_genusOver_11 : decode cX4_genusOver 11 = .ok (.iadd, 1) := by decide +kernel
theorem dX4_genusOver_12 : decode cX4_genusOver 12 = .ok (.istore_n 2, 1) := by decide +kernel
theorem dX4_genusOver_13 : decode cX4_genusOver 13 = .ok (.iconst 0, 1) := by decide +kernel
theorem dX4_genusOver_14 : decode cX4_genusOver 14 = .ok (.istore_n 3, 1) := by decide +kernel
theorem dX4_genusOver_15 : decode cX4_genusOver 15 = .ok (.iload_n 3, 1) := by decide +kernel
theorem dX4_genusOver_16 : decode cX4_genusOver 16 = .ok (.aload_n 0, 1) := by decide +kernel
theorem dX4_genusOver_17 : decode cX4_genusOver 17 = .ok (.getfield 19, 3) := by decide +kernel
theorem dX4_genusOver_20 : decode cX4_genusOver 20 = .ok (.if_icmp .ge 41, 3) := by decide +kernel
theorem dX4_genusOver_23 : decode cX4_genusOver 23 = .ok (.aload_n 0, 1) := by decide +kernel
theorem dX4_genusOver_24 : decode cX4_genusOver 24 = .ok (.getfield 9, 3) := by decide +kernel
theorem dX4_genusOver_27 : decode cX4_genusOver 27 = .ok (.iload_n 3, 1) := by decide +kernel
theorem dX4_genusOver_28 : decode cX4_genusOver 28 = .ok (.iaload, 1) := by decide +kernel
theorem dX4_genusOver_29 : decode cX4_genusOver 29 = .ok (.istore 4, 2) := by decide +kernel
theorem dX4_genusOver_31 : decode cX4_genusOver 31 = .ok (.iload 4, 2) := by decide +kernel
theorem dX4_genusOver_33 : decode cX4_genusOver 33 = .ok (.iconst 2, 1) := by decide +kernel
theorem dX4_genusOver_34 : decode cX4_genusOver 34 = .ok (.if_icmp .lt 10, 3) := by decide +kernel
theorem dX4_genusOver_37 : decode cX4_genusOver 37 = .ok (.iload_n 1, 1) := by decide +kernel
theorem dX4_genusOver_38 : decode cX4_genusOver 38 = .ok (.iload 4, 2) := by decide +kernel
theorem dX4_genusOver_40 : decode cX4_genusOver 40 = .ok (.irem, 1) := by decide +kernel
theorem dX4_genusOver_41 : decode cX4_genusOver 41 = .ok (.ifCond .eq 5, 3) := by decide +kernel
theorem dX4_genusOver_44 : decode cX4_genusOver 44 = .ok (.iconst (-1), 1) := by decide +kernel
theorem dX4_genusOver_45 : decode cX4_genusOver 45 = .ok (.ireturn, 1) := by decide +kernel
theorem dX4_genusOver_46 : decode cX4_genusOver 46 = .ok (.iload_n 2, 1) := by decide +kernel
theorem dX4_genusOver_47 : decode cX4_genusOver 47 = .ok (.iload_n 1, 1) := by decide +kernel
theorem dX4_genusOver_48 : decode cX4_genusOver 48 = .ok (.iload_n 1, 1) := by decide +kernel
theorem dX4_genusOver_49 : decode cX4_genusOver 49 = .ok (.iload 4, 2) := by decide +kernel
theorem dX4_genusOver_51 : decode cX4_genusOver 51 = .ok (.idiv, 1) := by decide +kernel
theorem dX4_genusOver_52 : decode cX4_genusOver 52 = .ok (.isub, 1) := by decide +kernel
theorem dX4_genusOver_53 : decode cX4_genusOver 53 = .ok (.iadd, 1) := by decide +kernel
theorem dX4_genusOver_54 : decode cX4_genusOver 54 = .ok (.istore_n 2, 1) := by decide +kernel
theorem dX4_genusOver_55 : decode cX4_genusOver 55 = .ok (.iinc 3 1, 3) := by decide +kernel
theorem dX4_genusOver_58 : decode cX4_genusOver 58 = .ok (.goto (-43), 3) := by decide +kernel
theorem dX4_genusOver_61 : decode cX4_genusOver 61 = .ok (.iload_n 2, 1) := by decide +kernel
theorem dX4_genusOver_62 : decode cX4_genusOver 62 = .ok (.ifCond .lt 9, 3) := by decide +kernel
theorem dX4_genusOver_65 : decode cX4_genusOver 65 = .ok (.iload_n 2, 1) := by decide +kernel
theorem dX4_genusOver_66 : decode cX4_genusOver 66 = .ok (.iconst 2, 1) := by decide +kernel
theorem dX4_genusOver_67 : decode cX4_genusOver 67 = .ok (.irem, 1) := by decide +kernel
theorem dX4_genusOver_68 : decode cX4_genusOver 68 = .ok (.ifCond .eq 7, 3) := by decide +kernel
theorem dX4_genusOver_71 : decode cX4_genusOver 71 = .ok (.iconst (-1), 1) := by decide +kernel
theorem dX4_genusOver_72 : decode cX4_genusOver 72 = .ok (.goto 6, 3) := by decide +kernel
theorem dX4_genusOver_75 : decode cX4_genusOver 75 = .ok (.iload_n 2, 1) := by decide +kernel
theorem dX4_genusOver_76 : decode cX4_genusOver 76 = .ok (.iconst 2, 1) := by decide +kernel
theorem dX4_genusOver_77 : decode cX4_genusOver 77 = .ok (.idiv, 1) := by decide +kernel
theorem dX4_genusOver_78 : decode cX4_genusOver 78 = .ok (.ireturn, 1) := by decide +kernel
theorem dX4_start_0 : decode cX4_start 0 = .ok (.aload_n 0, 1) := by decide +kernel
theorem dX4_start_1 : decode cX4_start 1 = .ok (.iload_n 1, 1) := by decide +kernel
theorem dX4_start_2 : decode cX4_start 2 = .ok (.putfield 15, 3) := by decide +kernel
theorem dX4_start_5 : decode cX4_start 5 = .ok (.aload_n 0, 1) := by decide +kernel
theorem dX4_start_6 : decode cX4_start 6 = .ok (.iload_n 2, 1) := by decide +kernel
theorem dX4_start_7 : decode cX4_start 7 = .ok (.putfield 19, 3) := by decide +kernel
theorem dX4_start_10 : decode cX4_start 10 = .ok (.iconst 0, 1) := by decide +kernel
theorem dX4_start_11 : decode cX4_start 11 = .ok (.istore_n 3, 1) := by decide +kernel
theorem dX4_start_12 : decode cX4_start 12 = .ok (.iload_n 3, 1) := by decide +kernel
theorem dX4_start_13 : decode cX4_start 13 = .ok (.aload_n 0, 1) := by decide +kernel
theorem dX4_start_14 : decode cX4_start 14 = .ok (.getfield 19, 3) := by decide +kernel
theorem dX4_start_17 : decode cX4_start 17 = .ok (.if_icmp .ge 21, 3) := by decide +kernel
theorem dX4_start_20 : decode cX4_start 20 = .ok (.iload_n 3, 1) := by decide +kernel
theorem dX4_start_21 : decode cX4_start 21 = .ok (.iconst 4, 1) := by decide +kernel
theorem dX4_start_22 : decode cX4_start 22 = .ok (.if_icmp .ge 16, 3) := by decide +kernel
theorem dX4_start_25 : decode cX4_start 25 = .ok (.aload_n 0, 1) := by decide +kernel
theorem dX4_start_26 : decode cX4_start 26 = .ok (.getfield 9, 3) := by decide +kernel
theorem dX4_start_29 : decode cX4_start 29 = .ok (.iload_n 3, 1) := by decide +kernel
theorem dX4_start_30 : decode cX4_start 30 = .ok (.iconst 2, 1) := by decide +kernel
theorem dX4_start_31 : decode cX4_start 31 = .ok (.iastore, 1) := by decide +kernel
theorem dX4_start_32 : decode cX4_start 32 = .ok (.iinc 3 1, 3) := by decide +kernel
theorem dX4_start_35 : decode cX4_start 35 = .ok (.goto (-23), 3) := by decide +kernel
theorem dX4_start_38 : decode cX4_start 38 = .ok (.return_, 1) := by decide +kernel
theorem dX4_advance_0 : decode cX4_advance 0 = .ok (.aload_n 0, 1) := by decide +kernel
theorem dX4_advance_1 : decode cX4_advance 1 = .ok (.getfield 19, 3) := by decide +kernel
theorem dX4_advance_4 : decode cX4_advance 4 = .ok (.iconst 1, 1) := by decide +kernel
theorem dX4_advance_5 : decode cX4_advance 5 = .ok (.isub, 1) := by decide +kernel
theorem dX4_advance_6 : decode cX4_advance 6 = .ok (.istore_n 1, 1) := by decide +kernel
theorem dX4_advance_7 : decode cX4_advance 7 = .ok (.iload_n 1, 1) := by decide +kernel
theorem dX4_advance_8 : decode cX4_advance 8 = .ok (.ifCond .lt 20, 3) := by decide +kernel
theorem dX4_advance_11 : decode cX4_advance 11 = .ok (.aload_n 0, 1) := by decide +kernel
theorem dX4_advance_12 : decode cX4_advance 12 = .ok (.getfield 9, 3) := by decide +kernel
theorem dX4_advance_15 : decode cX4_advance 15 = .ok (.iload_n 1, 1) := by decide +kernel
theorem dX4_advance_16 : decode cX4_advance 16 = .ok (.iaload, 1) := by decide +kernel
theorem dX4_advance_17 : decode cX4_advance 17 = .ok (.bipush 8, 2) := by decide +kernel
theorem dX4_advance_19 : decode cX4_advance 19 = .ok (.if_icmp .lt 9, 3) := by decide +kernel
theorem dX4_advance_22 : decode cX4_advance 22 = .ok (.iinc 1 (-1), 3) := by decide +kernel
theorem dX4_advance_25 : decode cX4_advance 25 = .ok (.goto (-18), 3) := by decide +kernel
theorem dX4_advance_28 : decode cX4_advance 28 = .ok (.iload_n 1, 1) := by decide +kernel
theorem dX4_advance_29 : decode cX4_advance 29 = .ok (.ifCond .ge 5, 3) := by decide +kernel
theorem dX4_advance_32 : decode cX4_advance 32 = .ok (.iconst 0, 1) := by decide +kernel
theorem dX4_advance_33 : decode cX4_advance 33 = .ok (.ireturn, 1) := by decide +kernel
theorem dX4_advance_34 : decode cX4_advance 34 = .ok (.aload_n 0, 1) := by decide +kernel
theorem dX4_advance_35 : decode cX4_advance 35 = .ok (.getfield 9, 3) := by decide +kernel
theorem dX4_advance_38 : decode cX4_advance 38 = .ok (.iload_n 1, 1) := by decide +kernel
theorem dX4_advance_39 : decode cX4_advance 39 = .ok (.iaload, 1) := by decide +kernel
theorem dX4_advance_40 : decode cX4_advance 40 = .ok (.iconst 1, 1) := by decide +kernel
theorem dX4_advance_41 : decode cX4_advance 41 = .ok (.iadd, 1) := by decide +kernel
theorem dX4_advance_42 : decode cX4_advance 42 = .ok (.istore_n 2, 1) := by decide +kernel
theorem dX4_advance_43 : decode cX4_advance 43 = .ok (.iload_n 1, 1) := by decide +kernel
theorem dX4_advance_44 : decode cX4_advance 44 = .ok (.istore_n 3, 1) := by decide +kernel
theorem dX4_advance_45 : decode cX4_advance 45 = .ok (.iload_n 3, 1) := by decide +kernel
theorem dX4_advance_46 : decode cX4_advance 46 = .ok (.aload_n 0, 1) := by decide +kernel
theorem dX4_advance_47 : decode cX4_advance 47 = .ok (.getfield 19, 3) := by decide +kernel
theorem dX4_advance_50 : decode cX4_advance 50 = .ok (.if_icmp .ge 16, 3) := by decide +kernel
theorem dX4_advance_53 : decode cX4_advance 53 = .ok (.aload_n 0, 1) := by decide +kernel
theorem dX4_advance_54 : decode cX4_advance 54 = .ok (.getfield 9, 3) := by decide +kernel
theorem dX4_advance_57 : decode cX4_advance 57 = .ok (.iload_n 3, 1) := by decide +kernel
theorem dX4_advance_58 : decode cX4_advance 58 = .ok (.iload_n 2, 1) := by decide +kernel
theorem dX4_advance_59 : decode cX4_advance 59 = .ok (.iastore, 1) := by decide +kernel
theorem dX4_advance_60 : decode cX4_advance 60 = .ok (.iinc 3 1, 3) := by decide +kernel
theorem dX4_advance_63 : decode cX4_advance 63 = .ok (.goto (-18), 3) := by decide +kernel
theorem dX4_advance_66 : decode cX4_advance 66 = .ok (.iconst 1, 1) := by decide +kernel
theorem dX4_advance_67 : decode cX4_advance 67 = .ok (.ireturn, 1) := by decide +kernel
theorem dX5_init_0 : decode cX5_init 0 = .ok (.aload_n 0, 1) := by decide +kernel
theorem dX5_init_1 : decode cX5_init 1 = .ok (.invokespecial 1, 3) := by decide +kernel
theorem dX5_init_4 : decode cX5_init 4 = .ok (.aload_n 0, 1) := by decide +kernel
theorem dX5_init_5 : decode cX5_init 5 = .ok (.new 7, 3) := by decide +kernel
theorem dX5_init_8 : decode cX5_init 8 = .ok (.dup, 1) := by decide +kernel
theorem dX5_init_9 : decode cX5_init 9 = .ok (.invokespecial 9, 3) := by decide +kernel
theorem dX5_init_12 : decode cX5_init 12 = .ok (.putfield 10, 3) := by decide +kernel
theorem dX5_init_15 : decode cX5_init 15 = .ok (.aload_n 0, 1) := by decide +kernel
theorem dX5_init_16 : decode cX5_init 16 = .ok (.new 16, 3) := by decide +kernel
theorem dX5_init_19 : decode cX5_init 19 = .ok (.dup, 1) := by decide +kernel
theorem dX5_init_20 : decode cX5_init 20 = .ok (.invokespecial 18, 3) := by decide +kernel
theorem dX5_init_23 : decode cX5_init 23 = .ok (.putfield 19, 3) := by decide +kernel
theorem dX5_init_26 : decode cX5_init 26 = .ok (.aload_n 0, 1) := by decide +kernel
theorem dX5_init_27 : decode cX5_init 27 = .ok (.new 23, 3) := by decide +kernel
theorem dX5_init_30 : decode cX5_init 30 = .ok (.dup, 1) := by decide +kernel
theorem dX5_init_31 : decode cX5_init 31 = .ok (.aload_n 0, 1) := by decide +kernel
theorem dX5_init_32 : decode cX5_init 32 = .ok (.getfield 10, 3) := by decide +kernel
theorem dX5_init_35 : decode cX5_init 35 = .ok (.aload_n 0, 1) := by decide +kernel
theorem dX5_init_36 : decode cX5_init 36 = .ok (.getfield 19, 3) := by decide +kernel
theorem dX5_init_39 : decode cX5_init 39 = .ok (.invokespecial 25, 3) := by decide +kernel
theorem dX5_init_42 : decode cX5_init 42 = .ok (.putfield 28, 3) := by decide +kernel
theorem dX5_init_45 : decode cX5_init 45 = .ok (.aload_n 0, 1) := by decide +kernel
theorem dX5_init_46 : decode cX5_init 46 = .ok (.new 32, 3) := by decide +kernel
theorem dX5_init_49 : decode cX5_init 49 = .ok (.dup, 1) := by decide +kernel
theorem dX5_init_50 : decode cX5_init 50 = .ok (.aload_n 0, 1) := by decide +kernel
theorem dX5_init_51 : decode cX5_init 51 = .ok (.getfield 28, 3) := by decide +kernel
theorem dX5_init_54 : decode cX5_init 54 = .ok (.sipush 512, 3) := by decide +kernel
theorem dX5_init_57 : decode cX5_init 57 = .ok (.invokespecial 34, 3) := by decide +kernel
theorem dX5_init_60 : decode cX5_init 60 = .ok (.putfield 37, 3) := by decide +kernel
theorem dX5_init_63 : decode cX5_init 63 = .ok (.aload_n 0, 1) := by decide +kernel
theorem dX5_init_64 : decode cX5_init 64 = .ok (.new 41, 3) := by decide +kernel
theorem dX5_init_67 : decode cX5_init 67 = .ok (.dup, 1) := by decide +kernel
theorem dX5_init_68 : decode cX5_init 68 = .ok (.aload_n 0, 1) := by decide +kernel
theorem dX5_init_69 : decode cX5_init 69 = .ok (.getfield 37, 3) := by decide +kernel
theorem dX5_init_72 : decode cX5_init 72 = .ok (.invokespecial 43, 3) := by decide +kernel
theorem dX5_init_75 : decode cX5_init 75 = .ok (.putfield 46, 3) := by decide +kernel
theorem dX5_init_78 : decode cX5_init 78 = .ok (.aload_n 0, 1) := by decide +kernel
theorem dX5_init_79 : decode cX5_init 79 = .ok (.new 16, 3) := by decide +kernel
theorem dX5_init_82 : decode cX5_init 82 = .ok (.dup, 1) := by decide +kernel
theorem dX5_init_83 : decode cX5_init 83 = .ok (.invokespecial 18, 3) := by decide +kernel
theorem dX5_init_86 : decode cX5_init 86 = .ok (.putfield 50, 3) := by decide +kernel
theorem dX5_init_89 : decode cX5_init 89 = .ok (.aload_n 0, 1) := by decide +kernel
theorem dX5_init_90 : decode cX5_init 90 = .ok (.new 32, 3) := by decide +kernel
theorem dX5_init_93 : decode cX5_init 93 = .ok (.dup, 1) := by decide +kernel
theorem dX5_init_94 : decode cX5_init 94 = .ok (.new 23, 3) := by decide +kernel
theorem dX5_init_97 : decode cX5_init 97 = .ok (.dup, 1) := by decide +kernel
theorem dX5_init_98 : decode cX5_init 98 = .ok (.aload_n 0, 1) := by decide +kernel
theorem dX5_init_99 : decode cX5_init 99 = .ok (.getfield 10, 3) := by decide +kernel
theorem dX5_init_102 : decode cX5_init 102 = .ok (.aload_n 0, 1) := by decide +kernel
theorem dX5_init_103 : decode cX5_init 103 = .ok (.getfield 50, 3) := by decide +kernel
theorem dX5_init_106 : decode cX5_init 106 = .ok (.invokespecial 25, 3) := by decide +kernel
theorem dX5_init_109 : decode cX5_init 109 = .ok (.iconst 1, 1) := by decide +kernel
theorem dX5_init_110 : decode cX5_init 110 = .ok (.invokespecial 34, 3) := by decide +kernel
theorem dX5_init_113 : decode cX5_init 113 = .ok (.putfield 53, 3) := by decide +kernel
theorem dX5_init_116 : decode cX5_init 116 = .ok (.aload_n 0, 1) := by decide +kernel
theorem dX5_init_117 : decode cX5_init 117 = .ok (.iconst 4, 1) := by decide +kernel
theorem dX5_init_118 : decode cX5_init 118 = .ok (.newarray .int, 2) := by decide +kernel
theorem dX5_init_120 : decode cX5_init 120 = .ok (.putfield 56, 3) := by decide +kernel
theorem dX5_init_123 : decode cX5_init 123 = .ok (.aload_n 0, 1) := by decide +kernel
theorem dX5_init_124 : decode cX5_init 124 = .ok (.iconst 4, 1) := by decide +kernel
theorem dX5_init_125 : decode cX5_init 125 = .ok (.newarray .int, 2) := by decide +kernel
theorem dX5_init_127 : decode cX5_init 127 = .ok (.putfield 60, 3) := by decide +kernel
theorem dX5_init_130 : decode cX5_init 130 = .ok (.aload_n 0, 1) := by decide +kernel
theorem dX5_init_131 : decode cX5_init 131 = .ok (.iconst 0, 1) := by decide +kernel
theorem dX5_init_132 : decode cX5_init 132 = .ok (.putfield 63, 3) := by decide +kernel
theorem dX5_init_135 : decode cX5_init 135 = .ok (.return_, 1) := by decide +kernel
theorem dX5_group_0 : decode cX5_group 0 = .ok (.iload_n 1, 1) := by decide +kernel
theorem dX5_group_1 : decode cX5_group 1 = .ok (.iload_n 2, 1) := by decide +kernel
theorem dX5_group_2 : decode cX5_group 2 = .ok (.invokestatic 67, 3) := by decide +kernel
theorem dX5_group_5 : decode cX5_group 5 = .ok (.ifCond .ne 6, 3) := by decide +kernel
theorem dX5_group_8 : decode cX5_group 8 = .ok (.bipush (-2), 2) := by decide +kernel
theorem dX5_group_10 : decode cX5_group 10 = .ok (.ireturn, 1) := by decide +kernel
theorem dX5_group_11 : decode cX5_group 11 = .ok (.aload_n 0, 1) := by decide +kernel
theorem dX5_group_12 : decode cX5_group 12 = .ok (.getfield 10, 3) := by decide +kernel
theorem dX5_group_15 : decode cX5_group 15 = .ok (.iload_n 1, 1) := by decide +kernel
theorem dX5_group_16 : decode cX5_group 16 = .ok (.iload_n 2, 1) := by decide +kernel
theorem dX5_group_17 : decode cX5_group 17 = .ok (.invokevirtual 71, 3) := by decide +kernel
theorem dX5_group_20 : decode cX5_group 20 = .ok (.aload_n 0, 1) := by decide +kernel
theorem dX5_group_21 : decode cX5_group 21 = .ok (.invokevirtual 75, 3) := by decide +kernel
theorem dX5_group_24 : decode cX5_group 24 = .ok (.aload_n 0, 1) := by decide +kernel
theorem dX5_group_25 : decode cX5_group 25 = .ok (.getfield 10, 3) := by decide +kernel
theorem dX5_group_28 : decode cX5_group 28 = .ok (.getfield 78, 3) := by decide +kernel
theorem dX5_group_31 : decode cX5_group 31 = .ok (.ireturn, 1) := by decide +kernel
theorem dX5_of_0 : decode cX5_of 0 = .ok (.aload_n 0, 1) := by decide +kernel
theorem dX5_of_1 : decode cX5_of 1 = .ok (.getfield 10, 3) := by decide +kernel
theorem dX5_of_4 : decode cX5_of 4 = .ok (.iload_n 1, 1) := by decide +kernel
theorem dX5_of_5 : decode cX5_of 5 = .ok (.invokevirtual 81, 3) := by decide +kernel
theorem dX5_of_8 : decode cX5_of 8 = .ok (.ifCond .ne 6, 3) := by decide +kernel
theorem dX5_of_11 : decode cX5_of 11 = .ok (.bipush (-2), 2) := by decide +kernel
theorem dX5_of_13 : decode cX5_of 13 = .ok (.ireturn, 1) := by decide +kernel
theorem dX5_of_14 : decode cX5_of 14 = .ok (.iload_n 2, 1) := by decide +kernel
theorem dX5_of_15 : decode cX5_of 15 = .ok (.tableswitch 57 0 2 #[25, 35, 45], 25) := by decide +kernel
theorem dX5_of_40 : decode cX5_of 40 = .ok (.aload_n 0, 1) := by decide +kernel
theorem dX5_of_41 : decode cX5_of 41 = .ok (.getfield 10, 3) := by decide +kernel
theorem dX5_of_44 : decode cX5_of 44 = .ok (.getfield 85, 3) := by decide +kernel
theorem dX5_of_47 : decode cX5_of 47 = .ok (.iload_n 1, 1) := by decide +kernel
theorem dX5_of_48 : decode cX5_of 48 = .ok (.iaload, 1) := by decide +kernel
theorem dX5_of_49 : decode cX5_of 49 = .ok (.ireturn, 1) := by decide +kernel
theorem dX5_of_50 : decode cX5_of 50 = .ok (.aload_n 0, 1) := by decide +kernel
theorem dX5_of_51 : decode cX5_of 51 = .ok (.getfield 10, 3) := by decide +kernel
theorem dX5_of_54 : decode cX5_of 54 = .ok (.getfield 88, 3) := by decide +kernel
theorem dX5_of_57 : decode cX5_of 57 = .ok (.iload_n 1, 1) := by decide +kernel
theorem dX5_of_58 : decode cX5_of 58 = .ok (.iaload, 1) := by decide +kernel
theorem dX5_of_59 : decode cX5_of 59 = .ok (.ireturn, 1) := by decide +kernel
theorem dX5_of_60 : decode cX5_of 60 = .ok (.aload_n 0, 1) := by decide +kernel
theorem dX5_of_61 : decode cX5_of 61 = .ok (.getfield 10, 3) := by decide +kernel
theorem dX5_of_64 : decode cX5_of 64 = .ok (.iload_n 1, 1) := by decide +kernel
theorem dX5_of_65 : decode cX5_of 65 = .ok (.invokevirtual 91, 3) := by decide +kernel
theorem dX5_of_68 : decode cX5_of 68 = .ok (.invokestatic 95, 3) := by decide +kernel
theorem dX5_of_71 : decode cX5_of 71 = .ok (.ireturn, 1) := by decide +kernel
theorem dX5_of_72 : decode cX5_of 72 = .ok (.bipush (-2), 2) := by decide +kernel
theorem dX5_of_74 : decode cX5_of 74 = .ok (.ireturn, 1) := by decide +kernel
theorem dX5_times_0 : decode cX5_times 0 = .ok (.aload_n 0, 1) := by decide +kernel
theorem dX5_times_1 : decode cX5_times 1 = .ok (.getfield 10, 3) := by decide +kernel
theorem dX5_times_4 : decode cX5_times 4 = .ok (.iload_n 1, 1) := by decide +kernel
theorem dX5_times_5 : decode cX5_times 5 = .ok (.invokevirtual 81, 3) := by decide +kernel
theorem dX5_times_8 : decode cX5_times 8 = .ok (.ifCond .eq 26, 3) := by decide +kernel
theorem dX5_times_11 : decode cX5_times 11 = .ok (.aload_n 0, 1) := by decide +kernel
theorem dX5_times_12 : decode cX5_times 12 = .ok (.getfield 10, 3) := by decide +kernel
theorem dX5_times_15 : decode cX5_times 15 = .ok (.iload_n 2, 1) := by decide +kernel
theorem dX5_times_16 : decode cX5_times 16 = .ok (.invokevirtual 81, 3) := by decide +kernel
theorem dX5_times_19 : decode cX5_times 19 = .ok (.ifCond .eq 15, 3) := by decide +kernel
theorem dX5_times_22 : decode cX5_times 22 = .ok (.aload_n 0, 1) := by decide +kernel
theorem dX5_times_23 : decode cX5_times 23 = .ok (.getfield 10, 3) := by decide +kernel
theorem dX5_times_26 : decode cX5_times 26 = .ok (.iload_n 1, 1) := by decide +kernel
theorem dX5_times_27 : decode cX5_times 27 = .ok (.iload_n 2, 1) := by decide +kernel
theorem dX5_times_28 : decode cX5_times 28 = .ok (.invokevirtual 100, 3) := by decide +kernel
theorem dX5_times_31 : decode cX5_times 31 = .ok (.goto 5, 3) := by decide +kernel
theorem dX5_times_34 : decode cX5_times 34 = .ok (.bipush (-2), 2) := by decide +kernel
theorem dX5_times_36 : decode cX5_times 36 = .ok (.ireturn, 1) := by decide +kernel
theorem dX5_power_0 : decode cX5_power 0 = .ok (.aload_n 0, 1) := by decide +kernel
theorem dX5_power_1 : decode cX5_power 1 = .ok (.getfield 10, 3) := by decide +kernel
theorem dX5_power_4 : decode cX5_power 4 = .ok (.iload_n 1, 1) := by decide +kernel
theorem dX5_power_5 : decode cX5_power 5 = .ok (.invokevirtual 81, 3) := by decide +kernel
theorem dX5_power_8 : decode cX5_power 8 = .ok (.ifCond .eq 25, 3) := by decide +kernel
theorem dX5_power_11 : decode cX5_power 11 = .ok (.iload_n 2, 1) := by decide +kernel
theorem dX5_power_12 : decode cX5_power 12 = .ok (.ifCond .lt 21, 3) := by decide +kernel
theorem dX5_power_15 : decode cX5_power 15 = .ok (.iload_n 2, 1) := by decide +kernel
theorem dX5_power_16 : decode cX5_power 16 = .ok (.bipush 99, 2) := by decide +kernel
theorem dX5_power_18 : decode cX5_power 18 = .ok (.if_icmp .gt 15, 3) := by decide +kernel
theorem dX5_power_21 : decode cX5_power 21 = .ok (.aload_n 0, 1) := by decide +kernel
theorem dX5_power_22 : decode cX5_power 22 = .ok (.getfield 10, 3) := by decide +kernel
theorem dX5_power_25 : decode cX5_power 25 = .ok (.iload_n 1, 1) := by decide +kernel
theorem dX5_power_26 : decode cX5_power 26 = .ok (.iload_n 2, 1) := by decide +kernel
theorem dX5_power_27 : decode cX5_power 27 = .ok (.invokevirtual 104, 3) := by decide +kernel
theorem dX5_power_30 : decode cX5_power 30 = .ok (.goto 5, 3) := by decide +kernel
theorem dX5_power_33 : decode cX5_power 33 = .ok (.bipush (-2), 2) := by decide +kernel
theorem dX5_power_35 : decode cX5_power 35 = .ok (.ireturn, 1) := by decide +kernel
theorem dX5_conjugate_0 : decode cX5_conjugate 0 = .ok (.aload_n 0, 1) := by decide +kernel
theorem dX5_conjugate_1 : decode cX5_conjugate 1 = .ok (.getfield 10, 3) := by decide +kernel
theorem dX5_conjugate_4 : decode cX5_conjugate 4 = .ok (.iload_n 1, 1) := by decide +kernel
theorem dX5_conjugate_5 : decode cX5_conjugate 5 = .ok (.invokevirtual 81, 3) := by decide +kernel
theorem dX5_conjugate_8 : decode cX5_conjugate 8 = .ok (.ifCond .eq 26, 3) := by decide +kernel
theorem dX5_conjugate_11 : decode cX5_conjugate 11 = .ok (.aload_n 0, 1) := by decide +kernel
theorem dX5_conjugate_12 : decode cX5_conjugate 12 = .ok (.getfield 10, 3) := by decide +kernel
theorem dX5_conjugate_15 : decode cX5_conjugate 15 = .ok (.iload_n 2, 1) := by decide +kernel
theorem dX5_conjugate_16 : decode cX5_conjugate 16 = .ok (.invokevirtual 81, 3) := by decide +kernel
theorem dX5_conjugate_19 : decode cX5_conjugate 19 = .ok (.ifCond .eq 15, 3) := by decide +kernel
theorem dX5_conjugate_22 : decode cX5_conjugate 22 = .ok (.aload_n 0, 1) := by decide +kernel
theorem dX5_conjugate_23 : decode cX5_conjugate 23 = .ok (.getfield 10, 3) := by decide +kernel
theorem dX5_conjugate_26 : decode cX5_conjugate 26 = .ok (.iload_n 1, 1) := by decide +kernel
theorem dX5_conjugate_27 : decode cX5_conjugate 27 = .ok (.iload_n 2, 1) := by decide +kernel
theorem dX5_conjugate_28 : decode cX5_conjugate 28 = .ok (.invokevirtual 107, 3) := by decide +kernel
theorem dX5_conjugate_31 : decode cX5_conjugate 31 = .ok (.goto 5, 3) := by decide +kernel
theorem dX5_conjugate_34 : decode cX5_conjugate 34 = .ok (.bipush (-2), 2) := by decide +kernel
theorem dX5_conjugate_36 : decode cX5_conjugate 36 = .ok (.ireturn, 1) := by decide +kernel
theorem dX5_span_0 : decode cX5_span 0 = .ok (.aload_n 0, 1) := by decide +kernel
theorem dX5_span_1 : decode cX5_span 1 = .ok (.getfield 10, 3) := by decide +kernel
theorem dX5_span_4 : decode cX5_span 4 = .ok (.iload_n 1, 1) := by decide +kernel
theorem dX5_span_5 : decode cX5_span 5 = .ok (.invokevirtual 110, 3) := by decide +kernel
theorem dX5_span_8 : decode cX5_span 8 = .ok (.ifCond .eq 14, 3) := by decide +kernel
theorem dX5_span_11 : decode cX5_span 11 = .ok (.aload_n 0, 1) := by decide +kernel
theorem dX5_span_12 : decode cX5_span 12 = .ok (.getfield 10, 3) := by decide +kernel
theorem dX5_span_15 : decode cX5_span 15 = .ok (.iload_n 1, 1) := by decide +kernel
theorem dX5_span_16 : decode cX5_span 16 = .ok (.invokevirtual 113, 3) := by decide +kernel
theorem dX5_span_19 : decode cX5_span 19 = .ok (.goto 5, 3) := by decide +kernel
theorem dX5_span_22 : decode cX5_span 22 = .ok (.bipush (-2), 2) := by decide +kernel
theorem dX5_span_24 : decode cX5_span 24 = .ok (.ireturn, 1) := by decide +kernel
theorem dX5_subgroup_0 : decode cX5_subgroup 0 = .ok (.iconst 0, 1) := by decide +kernel
theorem dX5_subgroup_1 : decode cX5_subgroup 1 = .ok (.istore_n 2, 1) := by decide +kernel
theorem dX5_subgroup_2 : decode cX5_subgroup 2 = .ok (.iconst 0, 1) := by decide +kernel
theorem dX5_subgroup_3 : decode cX5_subgroup 3 = .ok (.istore_n 3, 1) := by decide +kernel
theorem dX5_subgroup_4 : decode cX5_subgroup 4 = .ok (.iload_n 3, 1) := by decide +kernel
theorem dX5_subgroup_5 : decode cX5_subgroup 5 = .ok (.aload_n 0, 1) := by decide +kernel
theorem dX5_subgroup_6 : decode cX5_subgroup 6 = .ok (.getfield 10, 3) := by decide +kernel
theorem dX5_subgroup_9 : decode cX5_subgroup 9 = .ok (.invokevirtual 116, 3) := by decide +kernel
theorem dX5_subgroup_12 : decode cX5_subgroup 12 = .ok (.if_icmp .gt 30, 3) := by decide +kernel
theorem dX5_subgroup_15 : decode cX5_subgroup 15 = .ok (.aload_n 0, 1) := by decide +kernel
theorem dX5_subgroup_16 : decode cX5_subgroup 16 = .ok (.getfield 10, 3) := by decide +kernel
theorem dX5_subgroup_19 : decode cX5_subgroup 19 = .ok (.iload_n 3, 1) := by decide +kernel
theorem dX5_subgroup_20 : decode cX5_subgroup 20 = .ok (.invokevirtual 120, 3) := by decide +kernel
theorem dX5_subgroup_23 : decode cX5_subgroup 23 = .ok (.ifCond .eq 13, 3) := by decide +kernel
theorem dX5_subgroup_26 : decode cX5_subgroup 26 = .ok (.iload_n 2, 1) := by decide +kernel
theorem dX5_subgroup_27 : decode cX5_subgroup 27 = .ok (.iload_n 1, 1) := by decide +kernel
theorem dX5_subgroup_28 : decode cX5_subgroup 28 = .ok (.if_icmp .ne 5, 3) := by decide +kernel
theorem dX5_subgroup_31 : decode cX5_subgroup 31 = .ok (.iload_n 3, 1) := by decide +kernel
theorem dX5_subgroup_32 : decode cX5_subgroup 32 = .ok (.ireturn, 1) := by decide +kernel
theorem dX5_subgroup_33 : decode cX5_subgroup 33 = .ok (.iinc 2 1, 3) := by decide +kernel
theorem dX5_subgroup_36 : decode cX5_subgroup 36 = .ok (.iinc 3 1, 3) := by decide +kernel
theorem dX5_subgroup_39 : decode cX5_subgroup 39 = .ok (.goto (-35), 3) := by decide +kernel
theorem dX5_subgroup_42 : decode cX5_subgroup 42 = .ok (.iload_n 1, 1) := by decide +kernel
theorem dX5_subgroup_43 : decode cX5_subgroup 43 = .ok (.iconst (-1), 1) := by decide +kernel
theorem dX5_subgroup_44 : decode cX5_subgroup 44 = .ok (.if_icmp .ne 7, 3) := by decide +kernel
theorem dX5_subgroup_47 : decode cX5_subgroup 47 = .ok (.iload_n 2, 1) := by decide +kernel
theorem dX5_subgroup_48 : decode cX5_subgroup 48 = .ok (.goto 4, 3) := by decide +kernel
theorem dX5_subgroup_51 : decode cX5_subgroup 51 = .ok (.iconst (-1), 1) := by decide +kernel
theorem dX5_subgroup_52 : decode cX5_subgroup 52 = .ok (.ireturn, 1) := by decide +kernel
theorem dX5_normal_0 : decode cX5_normal 0 = .ok (.aload_n 0, 1) := by decide +kernel
theorem dX5_normal_1 : decode cX5_normal 1 = .ok (.getfield 10, 3) := by decide +kernel
theorem dX5_normal_4 : decode cX5_normal 4 = .ok (.iload_n 1, 1) := by decide +kernel
theorem dX5_normal_5 : decode cX5_normal 5 = .ok (.invokevirtual 120, 3) := by decide +kernel
theorem dX5_normal_8 : decode cX5_normal 8 = .ok (.ifCond .ne 6, 3) := by decide +kernel
