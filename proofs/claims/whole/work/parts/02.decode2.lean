theorem dX5_normal_11 : decode cX5_normal 11 = .ok (.bipush (-2), 2) := by decide +kernel
theorem dX5_normal_13 : decode cX5_normal 13 = .ok (.ireturn, 1) := by decide +kernel
theorem dX5_normal_14 : decode cX5_normal 14 = .ok (.aload_n 0, 1) := by decide +kernel
theorem dX5_normal_15 : decode cX5_normal 15 = .ok (.getfield 10, 3) := by decide +kernel
theorem dX5_normal_18 : decode cX5_normal 18 = .ok (.iload_n 1, 1) := by decide +kernel
theorem dX5_normal_19 : decode cX5_normal 19 = .ok (.invokevirtual 123, 3) := by decide +kernel
theorem dX5_normal_22 : decode cX5_normal 22 = .ok (.ifCond .eq 7, 3) := by decide +kernel
theorem dX5_normal_25 : decode cX5_normal 25 = .ok (.iconst 1, 1) := by decide +kernel
theorem dX5_normal_26 : decode cX5_normal 26 = .ok (.goto 4, 3) := by decide +kernel
theorem dX5_normal_29 : decode cX5_normal 29 = .ok (.iconst 0, 1) := by decide +kernel
theorem dX5_normal_30 : decode cX5_normal 30 = .ok (.ireturn, 1) := by decide +kernel
theorem dX5_centre_0 : decode cX5_centre 0 = .ok (.iload_n 1, 1) := by decide +kernel
theorem dX5_centre_1 : decode cX5_centre 1 = .ok (.ifCond .lt 9, 3) := by decide +kernel
theorem dX5_centre_4 : decode cX5_centre 4 = .ok (.iload_n 1, 1) := by decide +kernel
theorem dX5_centre_5 : decode cX5_centre 5 = .ok (.bipush 8, 2) := by decide +kernel
theorem dX5_centre_7 : decode cX5_centre 7 = .ok (.if_icmp .le 6, 3) := by decide +kernel
theorem dX5_centre_10 : decode cX5_centre 10 = .ok (.bipush (-2), 2) := by decide +kernel
theorem dX5_centre_12 : decode cX5_centre 12 = .ok (.ireturn, 1) := by decide +kernel
theorem dX5_centre_13 : decode cX5_centre 13 = .ok (.iload_n 1, 1) := by decide +kernel
theorem dX5_centre_14 : decode cX5_centre 14 = .ok (.ifCond .ne 13, 3) := by decide +kernel
theorem dX5_centre_17 : decode cX5_centre 17 = .ok (.aload_n 0, 1) := by decide +kernel
theorem dX5_centre_18 : decode cX5_centre 18 = .ok (.getfield 10, 3) := by decide +kernel
theorem dX5_centre_21 : decode cX5_centre 21 = .ok (.invokevirtual 126, 3) := by decide +kernel
theorem dX5_centre_24 : decode cX5_centre 24 = .ok (.goto 11, 3) := by decide +kernel
theorem dX5_centre_27 : decode cX5_centre 27 = .ok (.aload_n 0, 1) := by decide +kernel
theorem dX5_centre_28 : decode cX5_centre 28 = .ok (.getfield 10, 3) := by decide +kernel
theorem dX5_centre_31 : decode cX5_centre 31 = .ok (.iload_n 1, 1) := by decide +kernel
theorem dX5_centre_32 : decode cX5_centre 32 = .ok (.invokevirtual 129, 3) := by decide +kernel
theorem dX5_centre_35 : decode cX5_centre 35 = .ok (.ireturn, 1) := by decide +kernel
theorem dX5_handles_0 : decode cX5_handles 0 = .ok (.iload_n 1, 1) := by decide +kernel
theorem dX5_handles_1 : decode cX5_handles 1 = .ok (.ifCond .lt 8, 3) := by decide +kernel
theorem dX5_handles_4 : decode cX5_handles 4 = .ok (.iload_n 1, 1) := by decide +kernel
theorem dX5_handles_5 : decode cX5_handles 5 = .ok (.iconst 1, 1) := by decide +kernel
theorem dX5_handles_6 : decode cX5_handles 6 = .ok (.if_icmp .le 6, 3) := by decide +kernel
theorem dX5_handles_9 : decode cX5_handles 9 = .ok (.bipush (-2), 2) := by decide +kernel
theorem dX5_handles_11 : decode cX5_handles 11 = .ok (.ireturn, 1) := by decide +kernel
theorem dX5_handles_12 : decode cX5_handles 12 = .ok (.iconst 2, 1) := by decide +kernel
theorem dX5_handles_13 : decode cX5_handles 13 = .ok (.iload_n 1, 1) := by decide +kernel
theorem dX5_handles_14 : decode cX5_handles 14 = .ok (.imul, 1) := by decide +kernel
theorem dX5_handles_15 : decode cX5_handles 15 = .ok (.aload_n 0, 1) := by decide +kernel
theorem dX5_handles_16 : decode cX5_handles 16 = .ok (.getfield 19, 3) := by decide +kernel
theorem dX5_handles_19 : decode cX5_handles 19 = .ok (.getfield 132, 3) := by decide +kernel
theorem dX5_handles_22 : decode cX5_handles 22 = .ok (.iadd, 1) := by decide +kernel
theorem dX5_handles_23 : decode cX5_handles 23 = .ok (.iconst 4, 1) := by decide +kernel
theorem dX5_handles_24 : decode cX5_handles 24 = .ok (.if_icmp .le 6, 3) := by decide +kernel
theorem dX5_handles_27 : decode cX5_handles 27 = .ok (.bipush (-4), 2) := by decide +kernel
theorem dX5_handles_29 : decode cX5_handles 29 = .ok (.ireturn, 1) := by decide +kernel
theorem dX5_handles_30 : decode cX5_handles 30 = .ok (.aload_n 0, 1) := by decide +kernel
theorem dX5_handles_31 : decode cX5_handles 31 = .ok (.getfield 19, 3) := by decide +kernel
theorem dX5_handles_34 : decode cX5_handles 34 = .ok (.getfield 135, 3) := by decide +kernel
theorem dX5_handles_37 : decode cX5_handles 37 = .ok (.istore_n 2, 1) := by decide +kernel
theorem dX5_handles_38 : decode cX5_handles 38 = .ok (.aload_n 0, 1) := by decide +kernel
theorem dX5_handles_39 : decode cX5_handles 39 = .ok (.getfield 19, 3) := by decide +kernel
theorem dX5_handles_42 : decode cX5_handles 42 = .ok (.iload_n 1, 1) := by decide +kernel
theorem dX5_handles_43 : decode cX5_handles 43 = .ok (.putfield 135, 3) := by decide +kernel
theorem dX5_handles_46 : decode cX5_handles 46 = .ok (.aload_n 0, 1) := by decide +kernel
theorem dX5_handles_47 : decode cX5_handles 47 = .ok (.invokevirtual 75, 3) := by decide +kernel
theorem dX5_handles_50 : decode cX5_handles 50 = .ok (.iload_n 2, 1) := by decide +kernel
theorem dX5_handles_51 : decode cX5_handles 51 = .ok (.ireturn, 1) := by decide +kernel
theorem dX5_period_0 : decode cX5_period 0 = .ok (.iload_n 1, 1) := by decide +kernel
theorem dX5_period_1 : decode cX5_period 1 = .ok (.iconst 2, 1) := by decide +kernel
theorem dX5_period_2 : decode cX5_period 2 = .ok (.if_icmp .lt 9, 3) := by decide +kernel
theorem dX5_period_5 : decode cX5_period 5 = .ok (.iload_n 1, 1) := by decide +kernel
theorem dX5_period_6 : decode cX5_period 6 = .ok (.bipush 8, 2) := by decide +kernel
theorem dX5_period_8 : decode cX5_period 8 = .ok (.if_icmp .le 6, 3) := by decide +kernel
theorem dX5_period_11 : decode cX5_period 11 = .ok (.bipush (-2), 2) := by decide +kernel
theorem dX5_period_13 : decode cX5_period 13 = .ok (.ireturn, 1) := by decide +kernel
theorem dX5_period_14 : decode cX5_period 14 = .ok (.aload_n 0, 1) := by decide +kernel
theorem dX5_period_15 : decode cX5_period 15 = .ok (.getfield 19, 3) := by decide +kernel
theorem dX5_period_18 : decode cX5_period 18 = .ok (.invokevirtual 138, 3) := by decide +kernel
theorem dX5_period_21 : decode cX5_period 21 = .ok (.iconst 4, 1) := by decide +kernel
theorem dX5_period_22 : decode cX5_period 22 = .ok (.if_icmp .lt 6, 3) := by decide +kernel
theorem dX5_period_25 : decode cX5_period 25 = .ok (.bipush (-4), 2) := by decide +kernel
theorem dX5_period_27 : decode cX5_period 27 = .ok (.ireturn, 1) := by decide +kernel
theorem dX5_period_28 : decode cX5_period 28 = .ok (.aload_n 0, 1) := by decide +kernel
theorem dX5_period_29 : decode cX5_period 29 = .ok (.getfield 19, 3) := by decide +kernel
theorem dX5_period_32 : decode cX5_period 32 = .ok (.iload_n 1, 1) := by decide +kernel
theorem dX5_period_33 : decode cX5_period 33 = .ok (.invokevirtual 141, 3) := by decide +kernel
theorem dX5_period_36 : decode cX5_period 36 = .ok (.aload_n 0, 1) := by decide +kernel
theorem dX5_period_37 : decode cX5_period 37 = .ok (.invokevirtual 75, 3) := by decide +kernel
theorem dX5_period_40 : decode cX5_period 40 = .ok (.aload_n 0, 1) := by decide +kernel
theorem dX5_period_41 : decode cX5_period 41 = .ok (.getfield 19, 3) := by decide +kernel
theorem dX5_period_44 : decode cX5_period 44 = .ok (.getfield 132, 3) := by decide +kernel
theorem dX5_period_47 : decode cX5_period 47 = .ok (.ireturn, 1) := by decide +kernel
theorem dX5_drop_0 : decode cX5_drop 0 = .ok (.aload_n 0, 1) := by decide +kernel
theorem dX5_drop_1 : decode cX5_drop 1 = .ok (.getfield 19, 3) := by decide +kernel
theorem dX5_drop_4 : decode cX5_drop 4 = .ok (.getfield 132, 3) := by decide +kernel
theorem dX5_drop_7 : decode cX5_drop 7 = .ok (.iconst 1, 1) := by decide +kernel
theorem dX5_drop_8 : decode cX5_drop 8 = .ok (.if_icmp .ge 6, 3) := by decide +kernel
theorem dX5_drop_11 : decode cX5_drop 11 = .ok (.bipush (-3), 2) := by decide +kernel
theorem dX5_drop_13 : decode cX5_drop 13 = .ok (.ireturn, 1) := by decide +kernel
theorem dX5_drop_14 : decode cX5_drop 14 = .ok (.aload_n 0, 1) := by decide +kernel
theorem dX5_drop_15 : decode cX5_drop 15 = .ok (.getfield 19, 3) := by decide +kernel
theorem dX5_drop_18 : decode cX5_drop 18 = .ok (.dup, 1) := by decide +kernel
theorem dX5_drop_19 : decode cX5_drop 19 = .ok (.getfield 132, 3) := by decide +kernel
theorem dX5_drop_22 : decode cX5_drop 22 = .ok (.iconst 1, 1) := by decide +kernel
theorem dX5_drop_23 : decode cX5_drop 23 = .ok (.isub, 1) := by decide +kernel
theorem dX5_drop_24 : decode cX5_drop 24 = .ok (.putfield 132, 3) := by decide +kernel
theorem dX5_drop_27 : decode cX5_drop 27 = .ok (.aload_n 0, 1) := by decide +kernel
theorem dX5_drop_28 : decode cX5_drop 28 = .ok (.invokevirtual 75, 3) := by decide +kernel
theorem dX5_drop_31 : decode cX5_drop 31 = .ok (.aload_n 0, 1) := by decide +kernel
theorem dX5_drop_32 : decode cX5_drop 32 = .ok (.getfield 19, 3) := by decide +kernel
theorem dX5_drop_35 : decode cX5_drop 35 = .ok (.getfield 132, 3) := by decide +kernel
theorem dX5_drop_38 : decode cX5_drop 38 = .ok (.ireturn, 1) := by decide +kernel
theorem dX5_periodOf_0 : decode cX5_periodOf 0 = .ok (.aload_n 0, 1) := by decide +kernel
theorem dX5_periodOf_1 : decode cX5_periodOf 1 = .ok (.getfield 19, 3) := by decide +kernel
theorem dX5_periodOf_4 : decode cX5_periodOf 4 = .ok (.iload_n 1, 1) := by decide +kernel
theorem dX5_periodOf_5 : decode cX5_periodOf 5 = .ok (.invokevirtual 145, 3) := by decide +kernel
theorem dX5_periodOf_8 : decode cX5_periodOf 8 = .ok (.ifCond .eq 15, 3) := by decide +kernel
theorem dX5_periodOf_11 : decode cX5_periodOf 11 = .ok (.aload_n 0, 1) := by decide +kernel
theorem dX5_periodOf_12 : decode cX5_periodOf 12 = .ok (.getfield 19, 3) := by decide +kernel
theorem dX5_periodOf_15 : decode cX5_periodOf 15 = .ok (.getfield 148, 3) := by decide +kernel
theorem dX5_periodOf_18 : decode cX5_periodOf 18 = .ok (.iload_n 1, 1) := by decide +kernel
theorem dX5_periodOf_19 : decode cX5_periodOf 19 = .ok (.iaload, 1) := by decide +kernel
theorem dX5_periodOf_20 : decode cX5_periodOf 20 = .ok (.goto 4, 3) := by decide +kernel
theorem dX5_periodOf_23 : decode cX5_periodOf 23 = .ok (.iconst (-1), 1) := by decide +kernel
theorem dX5_periodOf_24 : decode cX5_periodOf 24 = .ok (.ireturn, 1) := by decide +kernel
theorem dX5_map_0 : decode cX5_map 0 = .ok (.aload_n 0, 1) := by decide +kernel
theorem dX5_map_1 : decode cX5_map 1 = .ok (.getfield 37, 3) := by decide +kernel
theorem dX5_map_4 : decode cX5_map 4 = .ok (.invokevirtual 151, 3) := by decide +kernel
theorem dX5_map_7 : decode cX5_map 7 = .ok (.iload_n 1, 1) := by decide +kernel
theorem dX5_map_8 : decode cX5_map 8 = .ok (.iconst (-1), 1) := by decide +kernel
theorem dX5_map_9 : decode cX5_map 9 = .ok (.if_icmp .ne 11, 3) := by decide +kernel
theorem dX5_map_12 : decode cX5_map 12 = .ok (.aload_n 0, 1) := by decide +kernel
theorem dX5_map_13 : decode cX5_map 13 = .ok (.getfield 37, 3) := by decide +kernel
theorem dX5_map_16 : decode cX5_map 16 = .ok (.getfield 154, 3) := by decide +kernel
theorem dX5_map_19 : decode cX5_map 19 = .ok (.ireturn, 1) := by decide +kernel
theorem dX5_map_20 : decode cX5_map 20 = .ok (.aload_n 0, 1) := by decide +kernel
theorem dX5_map_21 : decode cX5_map 21 = .ok (.getfield 37, 3) := by decide +kernel
theorem dX5_map_24 : decode cX5_map 24 = .ok (.iload_n 1, 1) := by decide +kernel
theorem dX5_map_25 : decode cX5_map 25 = .ok (.invokevirtual 155, 3) := by decide +kernel
theorem dX5_map_28 : decode cX5_map 28 = .ok (.ifCond .eq 15, 3) := by decide +kernel
theorem dX5_map_31 : decode cX5_map 31 = .ok (.aload_n 0, 1) := by decide +kernel
theorem dX5_map_32 : decode cX5_map 32 = .ok (.getfield 37, 3) := by decide +kernel
theorem dX5_map_35 : decode cX5_map 35 = .ok (.getfield 158, 3) := by decide +kernel
theorem dX5_map_38 : decode cX5_map 38 = .ok (.iload_n 1, 1) := by decide +kernel
theorem dX5_map_39 : decode cX5_map 39 = .ok (.iaload, 1) := by decide +kernel
theorem dX5_map_40 : decode cX5_map 40 = .ok (.goto 4, 3) := by decide +kernel
theorem dX5_map_43 : decode cX5_map 43 = .ok (.iconst (-1), 1) := by decide +kernel
theorem dX5_map_44 : decode cX5_map 44 = .ok (.ireturn, 1) := by decide +kernel
theorem dX5_row_0 : decode cX5_row 0 = .ok (.aload_n 0, 1) := by decide +kernel
theorem dX5_row_1 : decode cX5_row 1 = .ok (.getfield 28, 3) := by decide +kernel
theorem dX5_row_4 : decode cX5_row 4 = .ok (.iload_n 1, 1) := by decide +kernel
theorem dX5_row_5 : decode cX5_row 5 = .ok (.invokevirtual 161, 3) := by decide +kernel
theorem dX5_row_8 : decode cX5_row 8 = .ok (.ifCond .eq 13, 3) := by decide +kernel
theorem dX5_row_11 : decode cX5_row 11 = .ok (.aload_n 0, 1) := by decide +kernel
theorem dX5_row_12 : decode cX5_row 12 = .ok (.getfield 28, 3) := by decide +kernel
theorem dX5_row_15 : decode cX5_row 15 = .ok (.invokevirtual 164, 3) := by decide +kernel
theorem dX5_row_18 : decode cX5_row 18 = .ok (.goto 4, 3) := by decide +kernel
theorem dX5_row_21 : decode cX5_row 21 = .ok (.iconst 0, 1) := by decide +kernel
theorem dX5_row_22 : decode cX5_row 22 = .ok (.ireturn, 1) := by decide +kernel
theorem dX5_genus_0 : decode cX5_genus 0 = .ok (.aload_n 0, 1) := by decide +kernel
theorem dX5_genus_1 : decode cX5_genus 1 = .ok (.getfield 19, 3) := by decide +kernel
theorem dX5_genus_4 : decode cX5_genus 4 = .ok (.aload_n 0, 1) := by decide +kernel
theorem dX5_genus_5 : decode cX5_genus 5 = .ok (.getfield 10, 3) := by decide +kernel
theorem dX5_genus_8 : decode cX5_genus 8 = .ok (.getfield 78, 3) := by decide +kernel
theorem dX5_genus_11 : decode cX5_genus 11 = .ok (.invokevirtual 167, 3) := by decide +kernel
theorem dX5_genus_14 : decode cX5_genus 14 = .ok (.ireturn, 1) := by decide +kernel
theorem dX5_fixed_0 : decode cX5_fixed 0 = .ok (.aload_n 0, 1) := by decide +kernel
theorem dX5_fixed_1 : decode cX5_fixed 1 = .ok (.getfield 37, 3) := by decide +kernel
theorem dX5_fixed_4 : decode cX5_fixed 4 = .ok (.invokevirtual 151, 3) := by decide +kernel
theorem dX5_fixed_7 : decode cX5_fixed 7 = .ok (.aload_n 0, 1) := by decide +kernel
theorem dX5_fixed_8 : decode cX5_fixed 8 = .ok (.iload_n 1, 1) := by decide +kernel
theorem dX5_fixed_9 : decode cX5_fixed 9 = .ok (.invokevirtual 170, 3) := by decide +kernel
theorem dX5_fixed_12 : decode cX5_fixed 12 = .ok (.ifCond .eq 19, 3) := by decide +kernel
theorem dX5_fixed_15 : decode cX5_fixed 15 = .ok (.iload_n 2, 1) := by decide +kernel
theorem dX5_fixed_16 : decode cX5_fixed 16 = .ok (.iconst 1, 1) := by decide +kernel
theorem dX5_fixed_17 : decode cX5_fixed 17 = .ok (.if_icmp .lt 14, 3) := by decide +kernel
theorem dX5_fixed_20 : decode cX5_fixed 20 = .ok (.aload_n 0, 1) := by decide +kernel
theorem dX5_fixed_21 : decode cX5_fixed 21 = .ok (.getfield 10, 3) := by decide +kernel
theorem dX5_fixed_24 : decode cX5_fixed 24 = .ok (.iload_n 2, 1) := by decide +kernel
theorem dX5_fixed_25 : decode cX5_fixed 25 = .ok (.invokevirtual 81, 3) := by decide +kernel
theorem dX5_fixed_28 : decode cX5_fixed 28 = .ok (.ifCond .ne 6, 3) := by decide +kernel
theorem dX5_fixed_31 : decode cX5_fixed 31 = .ok (.bipush (-2), 2) := by decide +kernel
theorem dX5_fixed_33 : decode cX5_fixed 33 = .ok (.ireturn, 1) := by decide +kernel
theorem dX5_fixed_34 : decode cX5_fixed 34 = .ok (.iconst 0, 1) := by decide +kernel
theorem dX5_fixed_35 : decode cX5_fixed 35 = .ok (.istore_n 3, 1) := by decide +kernel
theorem dX5_fixed_36 : decode cX5_fixed 36 = .ok (.iconst 0, 1) := by decide +kernel
theorem dX5_fixed_37 : decode cX5_fixed 37 = .ok (.istore 4, 2) := by decide +kernel
theorem dX5_fixed_39 : decode cX5_fixed 39 = .ok (.iload 4, 2) := by decide +kernel
theorem dX5_fixed_41 : decode cX5_fixed 41 = .ok (.aload_n 0, 1) := by decide +kernel
theorem dX5_fixed_42 : decode cX5_fixed 42 = .ok (.getfield 19, 3) := by decide +kernel
theorem dX5_fixed_45 : decode cX5_fixed 45 = .ok (.getfield 132, 3) := by decide +kernel
theorem dX5_fixed_48 : decode cX5_fixed 48 = .ok (.if_icmp .ge 38, 3) := by decide +kernel
theorem dX5_fixed_51 : decode cX5_fixed 51 = .ok (.iload_n 3, 1) := by decide +kernel
theorem dX5_fixed_52 : decode cX5_fixed 52 = .ok (.aload_n 0, 1) := by decide +kernel
theorem dX5_fixed_53 : decode cX5_fixed 53 = .ok (.getfield 10, 3) := by decide +kernel
theorem dX5_fixed_56 : decode cX5_fixed 56 = .ok (.aload_n 0, 1) := by decide +kernel
theorem dX5_fixed_57 : decode cX5_fixed 57 = .ok (.getfield 10, 3) := by decide +kernel
theorem dX5_fixed_60 : decode cX5_fixed 60 = .ok (.iconst 1, 1) := by decide +kernel
theorem dX5_fixed_61 : decode cX5_fixed 61 = .ok (.aload_n 0, 1) := by decide +kernel
theorem dX5_fixed_62 : decode cX5_fixed 62 = .ok (.getfield 28, 3) := by decide +kernel
theorem dX5_fixed_65 : decode cX5_fixed 65 = .ok (.iload 4, 2) := by decide +kernel
theorem dX5_fixed_67 : decode cX5_fixed 67 = .ok (.invokevirtual 173, 3) := by decide +kernel
theorem dX5_fixed_70 : decode cX5_fixed 70 = .ok (.ishl, 1) := by decide +kernel
theorem dX5_fixed_71 : decode cX5_fixed 71 = .ok (.invokevirtual 113, 3) := by decide +kernel
theorem dX5_fixed_74 : decode cX5_fixed 74 = .ok (.iload_n 2, 1) := by decide +kernel
theorem dX5_fixed_75 : decode cX5_fixed 75 = .ok (.invokevirtual 176, 3) := by decide +kernel
theorem dX5_fixed_78 : decode cX5_fixed 78 = .ok (.iadd, 1) := by decide +kernel
theorem dX5_fixed_79 : decode cX5_fixed 79 = .ok (.istore_n 3, 1) := by decide +kernel
theorem dX5_fixed_80 : decode cX5_fixed 80 = .ok (.iinc 4 1, 3) := by decide +kernel
theorem dX5_fixed_83 : decode cX5_fixed 83 = .ok (.goto (-44), 3) := by decide +kernel
theorem dX5_fixed_86 : decode cX5_fixed 86 = .ok (.iload_n 3, 1) := by decide +kernel
theorem dX5_fixed_87 : decode cX5_fixed 87 = .ok (.ireturn, 1) := by decide +kernel
theorem dX5_left_0 : decode cX5_left 0 = .ok (.aload_n 0, 1) := by decide +kernel
theorem dX5_left_1 : decode cX5_left 1 = .ok (.getfield 37, 3) := by decide +kernel
theorem dX5_left_4 : decode cX5_left 4 = .ok (.invokevirtual 151, 3) := by decide +kernel
theorem dX5_left_7 : decode cX5_left 7 = .ok (.aload_n 0, 1) := by decide +kernel
theorem dX5_left_8 : decode cX5_left 8 = .ok (.iload_n 1, 1) := by decide +kernel
theorem dX5_left_9 : decode cX5_left 9 = .ok (.invokevirtual 170, 3) := by decide +kernel
theorem dX5_left_12 : decode cX5_left 12 = .ok (.ifCond .eq 14, 3) := by decide +kernel
theorem dX5_left_15 : decode cX5_left 15 = .ok (.aload_n 0, 1) := by decide +kernel
theorem dX5_left_16 : decode cX5_left 16 = .ok (.getfield 10, 3) := by decide +kernel
theorem dX5_left_19 : decode cX5_left 19 = .ok (.iload_n 2, 1) := by decide +kernel
theorem dX5_left_20 : decode cX5_left 20 = .ok (.invokevirtual 120, 3) := by decide +kernel
theorem dX5_left_23 : decode cX5_left 23 = .ok (.ifCond .ne 6, 3) := by decide +kernel
theorem dX5_left_26 : decode cX5_left 26 = .ok (.bipush (-2), 2) := by decide +kernel
theorem dX5_left_28 : decode cX5_left 28 = .ok (.ireturn, 1) := by decide +kernel
theorem dX5_left_29 : decode cX5_left 29 = .ok (.aload_n 0, 1) := by decide +kernel
theorem dX5_left_30 : decode cX5_left 30 = .ok (.getfield 10, 3) := by decide +kernel
theorem dX5_left_33 : decode cX5_left 33 = .ok (.iload_n 2, 1) := by decide +kernel
theorem dX5_left_34 : decode cX5_left 34 = .ok (.invokevirtual 179, 3) := by decide +kernel
theorem dX5_left_37 : decode cX5_left 37 = .ok (.iconst 2, 1) := by decide +kernel
theorem dX5_left_38 : decode cX5_left 38 = .ok (.iconst 2, 1) := by decide +kernel
theorem dX5_left_39 : decode cX5_left 39 = .ok (.aload_n 0, 1) := by decide +kernel
theorem dX5_left_40 : decode cX5_left 40 = .ok (.getfield 19, 3) := by decide +kernel
theorem dX5_left_43 : decode cX5_left 43 = .ok (.getfield 135, 3) := by decide +kernel
theorem dX5_left_46 : decode cX5_left 46 = .ok (.imul, 1) := by decide +kernel
theorem dX5_left_47 : decode cX5_left 47 = .ok (.isub, 1) := by decide +kernel
theorem dX5_left_48 : decode cX5_left 48 = .ok (.aload_n 0, 1) := by decide +kernel
theorem dX5_left_49 : decode cX5_left 49 = .ok (.getfield 19, 3) := by decide +kernel
theorem dX5_left_52 : decode cX5_left 52 = .ok (.getfield 132, 3) := by decide +kernel
theorem dX5_left_55 : decode cX5_left 55 = .ok (.isub, 1) := by decide +kernel
theorem dX5_left_56 : decode cX5_left 56 = .ok (.imul, 1) := by decide +kernel
theorem dX5_left_57 : decode cX5_left 57 = .ok (.istore_n 3, 1) := by decide +kernel
theorem dX5_left_58 : decode cX5_left 58 = .ok (.iconst 0, 1) := by decide +kernel
theorem dX5_left_59 : decode cX5_left 59 = .ok (.istore 4, 2) := by decide +kernel
theorem dX5_left_61 : decode cX5_left 61 = .ok (.iload 4, 2) := by decide +kernel
theorem dX5_left_63 : decode cX5_left 63 = .ok (.aload_n 0, 1) := by decide +kernel
theorem dX5_left_64 : decode cX5_left 64 = .ok (.getfield 19, 3) := by decide +kernel
theorem dX5_left_67 : decode cX5_left 67 = .ok (.getfield 132, 3) := by decide +kernel
theorem dX5_left_70 : decode cX5_left 70 = .ok (.if_icmp .ge 38, 3) := by decide +kernel
theorem dX5_left_73 : decode cX5_left 73 = .ok (.iload_n 3, 1) := by decide +kernel
theorem dX5_left_74 : decode cX5_left 74 = .ok (.aload_n 0, 1) := by decide +kernel
theorem dX5_left_75 : decode cX5_left 75 = .ok (.getfield 10, 3) := by decide +kernel
theorem dX5_left_78 : decode cX5_left 78 = .ok (.iload_n 2, 1) := by decide +kernel
theorem dX5_left_79 : decode cX5_left 79 = .ok (.aload_n 0, 1) := by decide +kernel
theorem dX5_left_80 : decode cX5_left 80 = .ok (.getfield 10, 3) := by decide +kernel
theorem dX5_left_83 : decode cX5_left 83 = .ok (.iconst 1, 1) := by decide +kernel
theorem dX5_left_84 : decode cX5_left 84 = .ok (.aload_n 0, 1) := by decide +kernel
theorem dX5_left_85 : decode cX5_left 85 = .ok (.getfield 28, 3) := by decide +kernel
theorem dX5_left_88 : decode cX5_left 88 = .ok (.iload 4, 2) := by decide +kernel
theorem dX5_left_90 : decode cX5_left 90 = .ok (.invokevirtual 173, 3) := by decide +kernel
theorem dX5_left_93 : decode cX5_left 93 = .ok (.ishl, 1) := by decide +kernel
theorem dX5_left_94 : decode cX5_left 94 = .ok (.invokevirtual 113, 3) := by decide +kernel
theorem dX5_left_97 : decode cX5_left 97 = .ok (.invokevirtual 182, 3) := by decide +kernel
theorem dX5_left_100 : decode cX5_left 100 = .ok (.iadd, 1) := by decide +kernel
theorem dX5_left_101 : decode cX5_left 101 = .ok (.istore_n 3, 1) := by decide +kernel
theorem dX5_left_102 : decode cX5_left 102 = .ok (.iinc 4 1, 3) := by decide +kernel
theorem dX5_left_105 : decode cX5_left 105 = .ok (.goto (-44), 3) := by decide +kernel
theorem dX5_left_108 : decode cX5_left 108 = .ok (.iconst 2, 1) := by decide +kernel
theorem dX5_left_109 : decode cX5_left 109 = .ok (.iload_n 3, 1) := by decide +kernel
theorem dX5_left_110 : decode cX5_left 110 = .ok (.isub, 1) := by decide +kernel
theorem dX5_left_111 : decode cX5_left 111 = .ok (.iconst 2, 1) := by decide +kernel
theorem dX5_left_112 : decode cX5_left 112 = .ok (.idiv, 1) := by decide +kernel
theorem dX5_left_113 : decode cX5_left 113 = .ok (.ireturn, 1) := by decide +kernel
theorem dX5_behind_0 : decode cX5_behind 0 = .ok (.aload_n 0, 1) := by decide +kernel
theorem dX5_behind_1 : decode cX5_behind 1 = .ok (.getfield 37, 3) := by decide +kernel
theorem dX5_behind_4 : decode cX5_behind 4 = .ok (.invokevirtual 151, 3) := by decide +kernel
theorem dX5_behind_7 : decode cX5_behind 7 = .ok (.aload_n 0, 1) := by decide +kernel
theorem dX5_behind_8 : decode cX5_behind 8 = .ok (.iload_n 1, 1) := by decide +kernel
theorem dX5_behind_9 : decode cX5_behind 9 = .ok (.invokevirtual 170, 3) := by decide +kernel
theorem dX5_behind_12 : decode cX5_behind 12 = .ok (.ifCond .eq 25, 3) := by decide +kernel
theorem dX5_behind_15 : decode cX5_behind 15 = .ok (.aload_n 0, 1) := by decide +kernel
theorem dX5_behind_16 : decode cX5_behind 16 = .ok (.getfield 10, 3) := by decide +kernel
theorem dX5_behind_19 : decode cX5_behind 19 = .ok (.iload_n 2, 1) := by decide +kernel
theorem dX5_behind_20 : decode cX5_behind 20 = .ok (.invokevirtual 120, 3) := by decide +kernel
theorem dX5_behind_23 : decode cX5_behind 23 = .ok (.ifCond .eq 14, 3) := by decide +kernel
theorem dX5_behind_26 : decode cX5_behind 26 = .ok (.aload_n 0, 1) := by decide +kernel
theorem dX5_behind_27 : decode cX5_behind 27 = .ok (.getfield 19, 3) := by decide +kernel
theorem dX5_behind_30 : decode cX5_behind 30 = .ok (.iload_n 3, 1) := by decide +kernel
theorem dX5_behind_31 : decode cX5_behind 31 = .ok (.invokevirtual 145, 3) := by decide +kernel
theorem dX5_behind_34 : decode cX5_behind 34 = .ok (.ifCond .ne 6, 3) := by decide +kernel
theorem dX5_behind_37 : decode cX5_behind 37 = .ok (.bipush (-2), 2) := by decide +kernel
theorem dX5_behind_39 : decode cX5_behind 39 = .ok (.ireturn, 1) := by decide +kernel
theorem dX5_behind_40 : decode cX5_behind 40 = .ok (.aload_n 0, 1) := by decide +kernel
theorem dX5_behind_41 : decode cX5_behind 41 = .ok (.getfield 10, 3) := by decide +kernel
theorem dX5_behind_44 : decode cX5_behind 44 = .ok (.iload_n 2, 1) := by decide +kernel
theorem dX5_behind_45 : decode cX5_behind 45 = .ok (.invokevirtual 123, 3) := by decide +kernel
theorem dX5_behind_48 : decode cX5_behind 48 = .ok (.ifCond .ne 6, 3) := by decide +kernel
theorem dX5_behind_51 : decode cX5_behind 51 = .ok (.bipush (-3), 2) := by decide +kernel
theorem dX5_behind_53 : decode cX5_behind 53 = .ok (.ireturn, 1) := by decide +kernel
theorem dX5_behind_54 : decode cX5_behind 54 = .ok (.aload_n 0, 1) := by decide +kernel
theorem dX5_behind_55 : decode cX5_behind 55 = .ok (.getfield 10, 3) := by decide +kernel
theorem dX5_behind_58 : decode cX5_behind 58 = .ok (.iload_n 2, 1) := by decide +kernel
theorem dX5_behind_59 : decode cX5_behind 59 = .ok (.aload_n 0, 1) := by decide +kernel
theorem dX5_behind_60 : decode cX5_behind 60 = .ok (.getfield 28, 3) := by decide +kernel
theorem dX5_behind_63 : decode cX5_behind 63 = .ok (.iload_n 3, 1) := by decide +kernel
theorem dX5_behind_64 : decode cX5_behind 64 = .ok (.invokevirtual 173, 3) := by decide +kernel
theorem dX5_behind_67 : decode cX5_behind 67 = .ok (.invokevirtual 185, 3) := by decide +kernel
theorem dX5_behind_70 : decode cX5_behind 70 = .ok (.ireturn, 1) := by decide +kernel
theorem dX5_move_0 : decode cX5_move 0 = .ok (.aload_n 0, 1) := by decide +kernel
theorem dX5_move_1 : decode cX5_move 1 = .ok (.getfield 28, 3) := by decide +kernel
theorem dX5_move_4 : decode cX5_move 4 = .ok (.iload_n 1, 1) := by decide +kernel
theorem dX5_move_5 : decode cX5_move 5 = .ok (.invokevirtual 161, 3) := by decide +kernel
theorem dX5_move_8 : decode cX5_move 8 = .ok (.ifCond .eq 24, 3) := by decide +kernel
theorem dX5_move_11 : decode cX5_move 11 = .ok (.aload_n 0, 1) := by decide +kernel
theorem dX5_move_12 : decode cX5_move 12 = .ok (.getfield 28, 3) := by decide +kernel
theorem dX5_move_15 : decode cX5_move 15 = .ok (.invokevirtual 164, 3) := by decide +kernel
theorem dX5_move_18 : decode cX5_move 18 = .ok (.ifCond .eq 14, 3) := by decide +kernel
theorem dX5_move_21 : decode cX5_move 21 = .ok (.aload_n 0, 1) := by decide +kernel
theorem dX5_move_22 : decode cX5_move 22 = .ok (.getfield 28, 3) := by decide +kernel
theorem dX5_move_25 : decode cX5_move 25 = .ok (.iload_n 2, 1) := by decide +kernel
theorem dX5_move_26 : decode cX5_move 26 = .ok (.invokevirtual 188, 3) := by decide +kernel
theorem dX5_move_29 : decode cX5_move 29 = .ok (.ifCond .ne 6, 3) := by decide +kernel
theorem dX5_move_32 : decode cX5_move 32 = .ok (.bipush (-2), 2) := by decide +kernel
theorem dX5_move_34 : decode cX5_move 34 = .ok (.ireturn, 1) := by decide +kernel
theorem dX5_move_35 : decode cX5_move 35 = .ok (.aload_n 0, 1) := by decide +kernel
theorem dX5_move_36 : decode cX5_move 36 = .ok (.getfield 28, 3) := by decide +kernel
theorem dX5_move_39 : decode cX5_move 39 = .ok (.invokevirtual 191, 3) := by decide +kernel
theorem dX5_move_42 : decode cX5_move 42 = .ok (.ireturn, 1) := by decide +kernel
theorem dX5_classes_0 : decode cX5_classes 0 = .ok (.aload_n 0, 1) := by decide +kernel
theorem dX5_classes_1 : decode cX5_classes 1 = .ok (.getfield 46, 3) := by decide +kernel
theorem dX5_classes_4 : decode cX5_classes 4 = .ok (.invokevirtual 194, 3) := by decide +kernel
theorem dX5_classes_7 : decode cX5_classes 7 = .ok (.iload_n 1, 1) := by decide +kernel
theorem dX5_classes_8 : decode cX5_classes 8 = .ok (.tableswitch 59 0 2 #[28, 36, 51], 28) := by decide +kernel
theorem dX5_classes_36 : decode cX5_classes 36 = .ok (.aload_n 0, 1) := by decide +kernel
theorem dX5_classes_37 : decode cX5_classes 37 = .ok (.getfield 46, 3) := by decide +kernel
theorem dX5_classes_40 : decode cX5_classes 40 = .ok (.getfield 195, 3) := by decide +kernel
theorem dX5_classes_43 : decode cX5_classes 43 = .ok (.ireturn, 1) := by decide +kernel
theorem dX5_classes_44 : decode cX5_classes 44 = .ok (.aload_n 0, 1) := by decide +kernel
theorem dX5_classes_45 : decode cX5_classes 45 = .ok (.getfield 46, 3) := by decide +kernel
theorem dX5_classes_48 : decode cX5_classes 48 = .ok (.aload_n 0, 1) := by decide +kernel
theorem dX5_classes_49 : decode cX5_classes 49 = .ok (.getfield 46, 3) := by decide +kernel
theorem dX5_classes_52 : decode cX5_classes 52 = .ok (.invokevirtual 196, 3) := by decide +kernel
theorem dX5_classes_55 : decode cX5_classes 55 = .ok (.invokevirtual 199, 3) := by decide +kernel
theorem dX5_classes_58 : decode cX5_classes 58 = .ok (.ireturn, 1) := by decide +kernel
theorem dX5_classes_59 : decode cX5_classes 59 = .ok (.aload_n 0, 1) := by decide +kernel
theorem dX5_classes_60 : decode cX5_classes 60 = .ok (.getfield 46, 3) := by decide +kernel
theorem dX5_classes_63 : decode cX5_classes 63 = .ok (.invokevirtual 196, 3) := by decide +kernel
theorem dX5_classes_66 : decode cX5_classes 66 = .ok (.ireturn, 1) := by decide +kernel
theorem dX5_classes_67 : decode cX5_classes 67 = .ok (.bipush (-2), 2) := by decide +kernel
theorem dX5_classes_69 : decode cX5_classes 69 = .ok (.ireturn, 1) := by decide +kernel
theorem dX5_classOf_0 : decode cX5_classOf 0 = .ok (.aload_n 0, 1) := by decide +kernel
theorem dX5_classOf_1 : decode cX5_classOf 1 = .ok (.getfield 46, 3) := by decide +kernel
theorem dX5_classOf_4 : decode cX5_classOf 4 = .ok (.invokevirtual 194, 3) := by decide +kernel
theorem dX5_classOf_7 : decode cX5_classOf 7 = .ok (.aload_n 0, 1) := by decide +kernel
theorem dX5_classOf_8 : decode cX5_classOf 8 = .ok (.getfield 37, 3) := by decide +kernel
theorem dX5_classOf_11 : decode cX5_classOf 11 = .ok (.iload_n 1, 1) := by decide +kernel
theorem dX5_classOf_12 : decode cX5_classOf 12 = .ok (.invokevirtual 202, 3) := by decide +kernel
theorem dX5_classOf_15 : decode cX5_classOf 15 = .ok (.istore_n 2, 1) := by decide +kernel
theorem dX5_classOf_16 : decode cX5_classOf 16 = .ok (.aload_n 0, 1) := by decide +kernel
theorem dX5_classOf_17 : decode cX5_classOf 17 = .ok (.getfield 37, 3) := by decide +kernel
theorem dX5_classOf_20 : decode cX5_classOf 20 = .ok (.iload_n 2, 1) := by decide +kernel
theorem dX5_classOf_21 : decode cX5_classOf 21 = .ok (.invokevirtual 155, 3) := by decide +kernel
theorem dX5_classOf_24 : decode cX5_classOf 24 = .ok (.ifCond .eq 15, 3) := by decide +kernel
theorem dX5_classOf_27 : decode cX5_classOf 27 = .ok (.aload_n 0, 1) := by decide +kernel
theorem dX5_classOf_28 : decode cX5_classOf 28 = .ok (.getfield 46, 3) := by decide +kernel
theorem dX5_classOf_31 : decode cX5_classOf 31 = .ok (.getfield 203, 3) := by decide +kernel
theorem dX5_classOf_34 : decode cX5_classOf 34 = .ok (.iload_n 2, 1) := by decide +kernel
theorem dX5_classOf_35 : decode cX5_classOf 35 = .ok (.iaload, 1) := by decide +kernel
theorem dX5_classOf_36 : decode cX5_classOf 36 = .ok (.goto 4, 3) := by decide +kernel
theorem dX5_classOf_39 : decode cX5_classOf 39 = .ok (.iconst (-1), 1) := by decide +kernel
theorem dX5_classOf_40 : decode cX5_classOf 40 = .ok (.ireturn, 1) := by decide +kernel
theorem dX5_member_0 : decode cX5_member 0 = .ok (.aload_n 0, 1) := by decide +kernel
theorem dX5_member_1 : decode cX5_member 1 = .ok (.getfield 46, 3) := by decide +kernel
theorem dX5_member_4 : decode cX5_member 4 = .ok (.invokevirtual 194, 3) := by decide +kernel
theorem dX5_member_7 : decode cX5_member 7 = .ok (.iload_n 1, 1) := by decide +kernel
theorem dX5_member_8 : decode cX5_member 8 = .ok (.ifCond .lt 14, 3) := by decide +kernel
theorem dX5_member_11 : decode cX5_member 11 = .ok (.iload_n 1, 1) := by decide +kernel
theorem dX5_member_12 : decode cX5_member 12 = .ok (.aload_n 0, 1) := by decide +kernel
theorem dX5_member_13 : decode cX5_member 13 = .ok (.getfield 46, 3) := by decide +kernel
theorem dX5_member_16 : decode cX5_member 16 = .ok (.getfield 195, 3) := by decide +kernel
theorem dX5_member_19 : decode cX5_member 19 = .ok (.if_icmp .lt 6, 3) := by decide +kernel
theorem dX5_member_22 : decode cX5_member 22 = .ok (.bipush (-2), 2) := by decide +kernel
theorem dX5_member_24 : decode cX5_member 24 = .ok (.ireturn, 1) := by decide +kernel
theorem dX5_member_25 : decode cX5_member 25 = .ok (.iload_n 2, 1) := by decide +kernel
theorem dX5_member_26 : decode cX5_member 26 = .ok (.iconst (-1), 1) := by decide +kernel
theorem dX5_member_27 : decode cX5_member 27 = .ok (.if_icmp .ne 14, 3) := by decide +kernel
theorem dX5_member_30 : decode cX5_member 30 = .ok (.aload_n 0, 1) := by decide +kernel
theorem dX5_member_31 : decode cX5_member 31 = .ok (.getfield 46, 3) := by decide +kernel
theorem dX5_member_34 : decode cX5_member 34 = .ok (.iload_n 1, 1) := by decide +kernel
theorem dX5_member_35 : decode cX5_member 35 = .ok (.invokevirtual 199, 3) := by decide +kernel
theorem dX5_member_38 : decode cX5_member 38 = .ok (.goto 12, 3) := by decide +kernel
theorem dX5_member_41 : decode cX5_member 41 = .ok (.aload_n 0, 1) := by decide +kernel
theorem dX5_member_42 : decode cX5_member 42 = .ok (.getfield 46, 3) := by decide +kernel
theorem dX5_member_45 : decode cX5_member 45 = .ok (.iload_n 1, 1) := by decide +kernel
theorem dX5_member_46 : decode cX5_member 46 = .ok (.iload_n 2, 1) := by decide +kernel
theorem dX5_member_47 : decode cX5_member 47 = .ok (.invokevirtual 206, 3) := by decide +kernel
theorem dX5_member_50 : decode cX5_member 50 = .ok (.ireturn, 1) := by decide +kernel
theorem dX5_apart_0 : decode cX5_apart 0 = .ok (.aload_n 0, 1) := by decide +kernel
theorem dX5_apart_1 : decode cX5_apart 1 = .ok (.getfield 46, 3) := by decide +kernel
theorem dX5_apart_4 : decode cX5_apart 4 = .ok (.invokevirtual 194, 3) := by decide +kernel
theorem dX5_apart_7 : decode cX5_apart 7 = .ok (.aload_n 0, 1) := by decide +kernel
theorem dX5_apart_8 : decode cX5_apart 8 = .ok (.getfield 37, 3) := by decide +kernel
theorem dX5_apart_11 : decode cX5_apart 11 = .ok (.iload_n 1, 1) := by decide +kernel
theorem dX5_apart_12 : decode cX5_apart 12 = .ok (.invokevirtual 202, 3) := by decide +kernel
theorem dX5_apart_15 : decode cX5_apart 15 = .ok (.istore_n 3, 1) := by decide +kernel
theorem dX5_apart_16 : decode cX5_apart 16 = .ok (.aload_n 0, 1) := by decide +kernel
theorem dX5_apart_17 : decode cX5_apart 17 = .ok (.getfield 37, 3) := by decide +kernel
theorem dX5_apart_20 : decode cX5_apart 20 = .ok (.iload_n 2, 1) := by decide +kernel
theorem dX5_apart_21 : decode cX5_apart 21 = .ok (.invokevirtual 202, 3) := by decide +kernel
theorem dX5_apart_24 : decode cX5_apart 24 = .ok (.istore 4, 2) := by decide +kernel
theorem dX5_apart_26 : decode cX5_apart 26 = .ok (.aload_n 0, 1) := by decide +kernel
theorem dX5_apart_27 : decode cX5_apart 27 = .ok (.getfield 37, 3) := by decide +kernel
theorem dX5_apart_30 : decode cX5_apart 30 = .ok (.iload_n 3, 1) := by decide +kernel
theorem dX5_apart_31 : decode cX5_apart 31 = .ok (.invokevirtual 155, 3) := by decide +kernel
theorem dX5_apart_34 : decode cX5_apart 34 = .ok (.ifCond .eq 28, 3) := by decide +kernel
theorem dX5_apart_37 : decode cX5_apart 37 = .ok (.aload_n 0, 1) := by decide +kernel
theorem dX5_apart_38 : decode cX5_apart 38 = .ok (.getfield 37, 3) := by decide +kernel
theorem dX5_apart_41 : decode cX5_apart 41 = .ok (.iload 4, 2) := by decide +kernel
theorem dX5_apart_43 : decode cX5_apart 43 = .ok (.invokevirtual 155, 3) := by decide +kernel
theorem dX5_apart_46 : decode cX5_apart 46 = .ok (.ifCond .eq 16, 3) := by decide +kernel
theorem dX5_apart_49 : decode cX5_apart 49 = .ok (.aload_n 0, 1) := by decide +kernel
theorem dX5_apart_50 : decode cX5_apart 50 = .ok (.getfield 46, 3) := by decide +kernel
theorem dX5_apart_53 : decode cX5_apart 53 = .ok (.iload_n 3, 1) := by decide +kernel
theorem dX5_apart_54 : decode cX5_apart 54 = .ok (.iload 4, 2) := by decide +kernel
theorem dX5_apart_56 : decode cX5_apart 56 = .ok (.invokevirtual 209, 3) := by decide +kernel
theorem dX5_apart_59 : decode cX5_apart 59 = .ok (.goto 5, 3) := by decide +kernel
theorem dX5_apart_62 : decode cX5_apart 62 = .ok (.bipush (-2), 2) := by decide +kernel
theorem dX5_apart_64 : decode cX5_apart 64 = .ok (.ireturn, 1) := by decide +kernel
theorem dX5_found_0 : decode cX5_found 0 = .ok (.iload_n 1, 1) := by decide +kernel
theorem dX5_found_1 : decode cX5_found 1 = .ok (.ifCond .lt 31, 3) := by decide +kernel
theorem dX5_found_4 : decode cX5_found 4 = .ok (.iload_n 1, 1) := by decide +kernel
theorem dX5_found_5 : decode cX5_found 5 = .ok (.iconst 1, 1) := by decide +kernel
theorem dX5_found_6 : decode cX5_found 6 = .ok (.if_icmp .gt 26, 3) := by decide +kernel
theorem dX5_found_9 : decode cX5_found 9 = .ok (.iload_n 2, 1) := by decide +kernel
theorem dX5_found_10 : decode cX5_found 10 = .ok (.ifCond .lt 22, 3) := by decide +kernel
theorem dX5_found_13 : decode cX5_found 13 = .ok (.iconst 2, 1) := by decide +kernel
theorem dX5_found_14 : decode cX5_found 14 = .ok (.iload_n 1, 1) := by decide +kernel
theorem dX5_found_15 : decode cX5_found 15 = .ok (.imul, 1) := by decide +kernel
theorem dX5_found_16 : decode cX5_found 16 = .ok (.iconst 4, 1) := by decide +kernel
theorem dX5_found_17 : decode cX5_found 17 = .ok (.iload_n 2, 1) := by decide +kernel
theorem dX5_found_18 : decode cX5_found 18 = .ok (.isub, 1) := by decide +kernel
theorem dX5_found_19 : decode cX5_found 19 = .ok (.if_icmp .gt 13, 3) := by decide +kernel
theorem dX5_found_22 : decode cX5_found 22 = .ok (.iload_n 3, 1) := by decide +kernel
theorem dX5_found_23 : decode cX5_found 23 = .ok (.ifCond .lt 9, 3) := by decide +kernel
theorem dX5_found_26 : decode cX5_found 26 = .ok (.iload_n 3, 1) := by decide +kernel
theorem dX5_found_27 : decode cX5_found 27 = .ok (.bipush 9, 2) := by decide +kernel
theorem dX5_found_29 : decode cX5_found 29 = .ok (.if_icmp .le 6, 3) := by decide +kernel
theorem dX5_found_32 : decode cX5_found 32 = .ok (.bipush (-2), 2) := by decide +kernel
theorem dX5_found_34 : decode cX5_found 34 = .ok (.ireturn, 1) := by decide +kernel
theorem dX5_found_35 : decode cX5_found 35 = .ok (.aload_n 0, 1) := by decide +kernel
theorem dX5_found_36 : decode cX5_found 36 = .ok (.getfield 50, 3) := by decide +kernel
theorem dX5_found_39 : decode cX5_found 39 = .ok (.iload_n 1, 1) := by decide +kernel
theorem dX5_found_40 : decode cX5_found 40 = .ok (.iload_n 2, 1) := by decide +kernel
theorem dX5_found_41 : decode cX5_found 41 = .ok (.invokevirtual 212, 3) := by decide +kernel
theorem dX5_found_44 : decode cX5_found 44 = .ok (.iconst 0, 1) := by decide +kernel
theorem dX5_found_45 : decode cX5_found 45 = .ok (.istore 5, 2) := by decide +kernel
theorem dX5_found_47 : decode cX5_found 47 = .ok (.iconst 1, 1) := by decide +kernel
theorem dX5_found_48 : decode cX5_found 48 = .ok (.istore 6, 2) := by decide +kernel
theorem dX5_found_50 : decode cX5_found 50 = .ok (.iconst 0, 1) := by decide +kernel
theorem dX5_found_51 : decode cX5_found 51 = .ok (.istore 7, 2) := by decide +kernel
theorem dX5_found_53 : decode cX5_found 53 = .ok (.iload 6, 2) := by decide +kernel
theorem dX5_found_55 : decode cX5_found 55 = .ok (.ifCond .eq 89, 3) := by decide +kernel
theorem dX5_found_58 : decode cX5_found 58 = .ok (.iload 7, 2) := by decide +kernel
theorem dX5_found_60 : decode cX5_found 60 = .ok (.sipush 10000, 3) := by decide +kernel
theorem dX5_found_63 : decode cX5_found 63 = .ok (.if_icmp .ge 81, 3) := by decide +kernel
theorem dX5_found_66 : decode cX5_found 66 = .ok (.aload_n 0, 1) := by decide +kernel
theorem dX5_found_67 : decode cX5_found 67 = .ok (.getfield 50, 3) := by decide +kernel
theorem dX5_found_70 : decode cX5_found 70 = .ok (.aload_n 0, 1) := by decide +kernel
theorem dX5_found_71 : decode cX5_found 71 = .ok (.getfield 10, 3) := by decide +kernel
theorem dX5_found_74 : decode cX5_found 74 = .ok (.getfield 78, 3) := by decide +kernel
theorem dX5_found_77 : decode cX5_found 77 = .ok (.invokevirtual 167, 3) := by decide +kernel
theorem dX5_found_80 : decode cX5_found 80 = .ok (.iload_n 3, 1) := by decide +kernel
theorem dX5_found_81 : decode cX5_found 81 = .ok (.if_icmp .ne 48, 3) := by decide +kernel
theorem dX5_found_84 : decode cX5_found 84 = .ok (.aload_n 0, 1) := by decide +kernel
theorem dX5_found_85 : decode cX5_found 85 = .ok (.getfield 53, 3) := by decide +kernel
theorem dX5_found_88 : decode cX5_found 88 = .ok (.invokevirtual 215, 3) := by decide +kernel
theorem dX5_found_91 : decode cX5_found 91 = .ok (.aload_n 0, 1) := by decide +kernel
theorem dX5_found_92 : decode cX5_found 92 = .ok (.getfield 53, 3) := by decide +kernel
theorem dX5_found_95 : decode cX5_found 95 = .ok (.iconst 0, 1) := by decide +kernel
theorem dX5_found_96 : decode cX5_found 96 = .ok (.invokevirtual 155, 3) := by decide +kernel
theorem dX5_found_99 : decode cX5_found 99 = .ok (.ifCond .eq 18, 3) := by decide +kernel
theorem dX5_found_102 : decode cX5_found 102 = .ok (.iload 5, 2) := by decide +kernel
theorem dX5_found_104 : decode cX5_found 104 = .ok (.iload 4, 2) := by decide +kernel
theorem dX5_found_106 : decode cX5_found 106 = .ok (.if_icmp .ne 11, 3) := by decide +kernel
theorem dX5_found_109 : decode cX5_found 109 = .ok (.aload_n 0, 1) := by decide +kernel
theorem dX5_found_110 : decode cX5_found 110 = .ok (.getfield 50, 3) := by decide +kernel
theorem dX5_found_113 : decode cX5_found 113 = .ok (.invokevirtual 218, 3) := by decide +kernel
theorem dX5_found_116 : decode cX5_found 116 = .ok (.ireturn, 1) := by decide +kernel
theorem dX5_found_117 : decode cX5_found 117 = .ok (.iload 5, 2) := by decide +kernel
theorem dX5_found_119 : decode cX5_found 119 = .ok (.aload_n 0, 1) := by decide +kernel
theorem dX5_found_120 : decode cX5_found 120 = .ok (.getfield 53, 3) := by decide +kernel
theorem dX5_found_123 : decode cX5_found 123 = .ok (.getfield 154, 3) := by decide +kernel
theorem dX5_found_126 : decode cX5_found 126 = .ok (.iadd, 1) := by decide +kernel
theorem dX5_found_127 : decode cX5_found 127 = .ok (.istore 5, 2) := by decide +kernel
theorem dX5_found_129 : decode cX5_found 129 = .ok (.aload_n 0, 1) := by decide +kernel
theorem dX5_found_130 : decode cX5_found 130 = .ok (.getfield 50, 3) := by decide +kernel
theorem dX5_found_133 : decode cX5_found 133 = .ok (.invokevirtual 221, 3) := by decide +kernel
theorem dX5_found_136 : decode cX5_found 136 = .ok (.istore 6, 2) := by decide +kernel
theorem dX5_found_138 : decode cX5_found 138 = .ok (.iinc 7 1, 3) := by decide +kernel
theorem dX5_found_141 : decode cX5_found 141 = .ok (.goto (-88), 3) := by decide +kernel
theorem dX5_found_144 : decode cX5_found 144 = .ok (.iload 4, 2) := by decide +kernel
theorem dX5_found_146 : decode cX5_found 146 = .ok (.iconst (-1), 1) := by decide +kernel
theorem dX5_found_147 : decode cX5_found 147 = .ok (.if_icmp .ne 8, 3) := by decide +kernel
theorem dX5_found_150 : decode cX5_found 150 = .ok (.iload 5, 2) := by decide +kernel
theorem dX5_found_152 : decode cX5_found 152 = .ok (.goto 4, 3) := by decide +kernel
theorem dX5_found_155 : decode cX5_found 155 = .ok (.iconst (-1), 1) := by decide +kernel
theorem dX5_found_156 : decode cX5_found 156 = .ok (.ireturn, 1) := by decide +kernel
theorem dX5_keep_0 : decode cX5_keep 0 = .ok (.iload_n 1, 1) := by decide +kernel
theorem dX5_keep_1 : decode cX5_keep 1 = .ok (.invokestatic 225, 3) := by decide +kernel
theorem dX5_keep_4 : decode cX5_keep 4 = .ok (.ifCond .ne 6, 3) := by decide +kernel
theorem dX5_keep_7 : decode cX5_keep 7 = .ok (.bipush (-2), 2) := by decide +kernel
theorem dX5_keep_9 : decode cX5_keep 9 = .ok (.ireturn, 1) := by decide +kernel
theorem dX5_keep_10 : decode cX5_keep 10 = .ok (.aload_n 0, 1) := by decide +kernel
theorem dX5_keep_11 : decode cX5_keep 11 = .ok (.getfield 56, 3) := by decide +kernel
theorem dX5_keep_14 : decode cX5_keep 14 = .ok (.iload_n 1, 1) := by decide +kernel
theorem dX5_keep_15 : decode cX5_keep 15 = .ok (.aload_n 0, 1) := by decide +kernel
theorem dX5_keep_16 : decode cX5_keep 16 = .ok (.invokevirtual 228, 3) := by decide +kernel
theorem dX5_keep_19 : decode cX5_keep 19 = .ok (.iastore, 1) := by decide +kernel
theorem dX5_keep_20 : decode cX5_keep 20 = .ok (.aload_n 0, 1) := by decide +kernel
theorem dX5_keep_21 : decode cX5_keep 21 = .ok (.invokevirtual 231, 3) := by decide +kernel
theorem dX5_keep_24 : decode cX5_keep 24 = .ok (.ireturn, 1) := by decide +kernel
theorem dX5_use_0 : decode cX5_use 0 = .ok (.iload_n 1, 1) := by decide +kernel
theorem dX5_use_1 : decode cX5_use 1 = .ok (.invokestatic 225, 3) := by decide +kernel
theorem dX5_use_4 : decode cX5_use 4 = .ok (.ifCond .ne 6, 3) := by decide +kernel
theorem dX5_use_7 : decode cX5_use 7 = .ok (.bipush (-2), 2) := by decide +kernel
theorem dX5_use_9 : decode cX5_use 9 = .ok (.ireturn, 1) := by decide +kernel
theorem dX5_use_10 : decode cX5_use 10 = .ok (.aload_n 0, 1) := by decide +kernel
theorem dX5_use_11 : decode cX5_use 11 = .ok (.getfield 56, 3) := by decide +kernel
theorem dX5_use_14 : decode cX5_use 14 = .ok (.iload_n 1, 1) := by decide +kernel
theorem dX5_use_15 : decode cX5_use 15 = .ok (.iaload, 1) := by decide +kernel
theorem dX5_use_16 : decode cX5_use 16 = .ok (.ifCond .ne 6, 3) := by decide +kernel
theorem dX5_use_19 : decode cX5_use 19 = .ok (.bipush (-3), 2) := by decide +kernel
theorem dX5_use_21 : decode cX5_use 21 = .ok (.ireturn, 1) := by decide +kernel
theorem dX5_use_22 : decode cX5_use 22 = .ok (.aload_n 0, 1) := by decide +kernel
theorem dX5_use_23 : decode cX5_use 23 = .ok (.aload_n 0, 1) := by decide +kernel
theorem dX5_use_24 : decode cX5_use 24 = .ok (.getfield 56, 3) := by decide +kernel
theorem dX5_use_27 : decode cX5_use 27 = .ok (.iload_n 1, 1) := by decide +kernel
theorem dX5_use_28 : decode cX5_use 28 = .ok (.iaload, 1) := by decide +kernel
theorem dX5_use_29 : decode cX5_use 29 = .ok (.invokevirtual 234, 3) := by decide +kernel
theorem dX5_use_32 : decode cX5_use 32 = .ok (.aload_n 0, 1) := by decide +kernel
theorem dX5_use_33 : decode cX5_use 33 = .ok (.getfield 10, 3) := by decide +kernel
theorem dX5_use_36 : decode cX5_use 36 = .ok (.getfield 78, 3) := by decide +kernel
theorem dX5_use_39 : decode cX5_use 39 = .ok (.ireturn, 1) := by decide +kernel
theorem dX5_empty_0 : decode cX5_empty 0 = .ok (.iload_n 1, 1) := by decide +kernel
theorem dX5_empty_1 : decode cX5_empty 1 = .ok (.invokestatic 225, 3) := by decide +kernel
theorem dX5_empty_4 : decode cX5_empty 4 = .ok (.ifCond .ne 6, 3) := by decide +kernel
theorem dX5_empty_7 : decode cX5_empty 7 = .ok (.bipush (-2), 2) := by decide +kernel
theorem dX5_empty_9 : decode cX5_empty 9 = .ok (.ireturn, 1) := by decide +kernel
theorem dX5_empty_10 : decode cX5_empty 10 = .ok (.aload_n 0, 1) := by decide +kernel
theorem dX5_empty_11 : decode cX5_empty 11 = .ok (.getfield 56, 3) := by decide +kernel
theorem dX5_empty_14 : decode cX5_empty 14 = .ok (.iload_n 1, 1) := by decide +kernel
theorem dX5_empty_15 : decode cX5_empty 15 = .ok (.iaload, 1) := by decide +kernel
theorem dX5_empty_16 : decode cX5_empty 16 = .ok (.istore_n 2, 1) := by decide +kernel
theorem dX5_empty_17 : decode cX5_empty 17 = .ok (.aload_n 0, 1) := by decide +kernel
theorem dX5_empty_18 : decode cX5_empty 18 = .ok (.getfield 56, 3) := by decide +kernel
theorem dX5_empty_21 : decode cX5_empty 21 = .ok (.iload_n 1, 1) := by decide +kernel
theorem dX5_empty_22 : decode cX5_empty 22 = .ok (.iconst 0, 1) := by decide +kernel
theorem dX5_empty_23 : decode cX5_empty 23 = .ok (.iastore, 1) := by decide +kernel
theorem dX5_empty_24 : decode cX5_empty 24 = .ok (.iload_n 2, 1) := by decide +kernel
theorem dX5_empty_25 : decode cX5_empty 25 = .ok (.ifCond .ne 7, 3) := by decide +kernel
theorem dX5_empty_28 : decode cX5_empty 28 = .ok (.iconst 0, 1) := by decide +kernel
theorem dX5_empty_29 : decode cX5_empty 29 = .ok (.goto 4, 3) := by decide +kernel
theorem dX5_empty_32 : decode cX5_empty 32 = .ok (.iconst 1, 1) := by decide +kernel
theorem dX5_empty_33 : decode cX5_empty 33 = .ok (.ireturn, 1) := by decide +kernel
theorem dX5_like_0 : decode cX5_like 0 = .ok (.iload_n 1, 1) := by decide +kernel
theorem dX5_like_1 : decode cX5_like 1 = .ok (.invokestatic 225, 3) := by decide +kernel
theorem dX5_like_4 : decode cX5_like 4 = .ok (.ifCond .ne 6, 3) := by decide +kernel
theorem dX5_like_7 : decode cX5_like 7 = .ok (.bipush (-2), 2) := by decide +kernel
theorem dX5_like_9 : decode cX5_like 9 = .ok (.ireturn, 1) := by decide +kernel
theorem dX5_like_10 : decode cX5_like 10 = .ok (.aload_n 0, 1) := by decide +kernel
theorem dX5_like_11 : decode cX5_like 11 = .ok (.getfield 56, 3) := by decide +kernel
theorem dX5_like_14 : decode cX5_like 14 = .ok (.iload_n 1, 1) := by decide +kernel
theorem dX5_like_15 : decode cX5_like 15 = .ok (.iaload, 1) := by decide +kernel
theorem dX5_like_16 : decode cX5_like 16 = .ok (.ifCond .ne 8, 3) := by decide +kernel
theorem dX5_like_19 : decode cX5_like 19 = .ok (.bipush (-3), 2) := by decide +kernel
theorem dX5_like_21 : decode cX5_like 21 = .ok (.goto 8, 3) := by decide +kernel
theorem dX5_like_24 : decode cX5_like 24 = .ok (.aload_n 0, 1) := by decide +kernel
theorem dX5_like_25 : decode cX5_like 25 = .ok (.iload_n 1, 1) := by decide +kernel
theorem dX5_like_26 : decode cX5_like 26 = .ok (.invokevirtual 237, 3) := by decide +kernel
theorem dX5_like_29 : decode cX5_like 29 = .ok (.ireturn, 1) := by decide +kernel
theorem dX5_unlike_0 : decode cX5_unlike 0 = .ok (.iconst 0, 1) := by decide +kernel
theorem dX5_unlike_1 : decode cX5_unlike 1 = .ok (.istore_n 1, 1) := by decide +kernel
theorem dX5_unlike_2 : decode cX5_unlike 2 = .ok (.iconst 0, 1) := by decide +kernel
theorem dX5_unlike_3 : decode cX5_unlike 3 = .ok (.istore_n 2, 1) := by decide +kernel
theorem dX5_unlike_4 : decode cX5_unlike 4 = .ok (.iload_n 2, 1) := by decide +kernel
theorem dX5_unlike_5 : decode cX5_unlike 5 = .ok (.iconst 4, 1) := by decide +kernel
theorem dX5_unlike_6 : decode cX5_unlike 6 = .ok (.if_icmp .ge 30, 3) := by decide +kernel
theorem dX5_unlike_9 : decode cX5_unlike 9 = .ok (.aload_n 0, 1) := by decide +kernel
theorem dX5_unlike_10 : decode cX5_unlike 10 = .ok (.getfield 56, 3) := by decide +kernel
theorem dX5_unlike_13 : decode cX5_unlike 13 = .ok (.iload_n 2, 1) := by decide +kernel
theorem dX5_unlike_14 : decode cX5_unlike 14 = .ok (.iaload, 1) := by decide +kernel
theorem dX5_unlike_15 : decode cX5_unlike 15 = .ok (.ifCond .eq 15, 3) := by decide +kernel
theorem dX5_unlike_18 : decode cX5_unlike 18 = .ok (.aload_n 0, 1) := by decide +kernel
theorem dX5_unlike_19 : decode cX5_unlike 19 = .ok (.iload_n 2, 1) := by decide +kernel
theorem dX5_unlike_20 : decode cX5_unlike 20 = .ok (.invokevirtual 237, 3) := by decide +kernel
theorem dX5_unlike_23 : decode cX5_unlike 23 = .ok (.iload_n 2, 1) := by decide +kernel
theorem dX5_unlike_24 : decode cX5_unlike 24 = .ok (.if_icmp .ne 6, 3) := by decide +kernel
theorem dX5_unlike_27 : decode cX5_unlike 27 = .ok (.iinc 1 1, 3) := by decide +kernel
theorem dX5_unlike_30 : decode cX5_unlike 30 = .ok (.iinc 2 1, 3) := by decide +kernel
theorem dX5_unlike_33 : decode cX5_unlike 33 = .ok (.goto (-29), 3) := by decide +kernel
theorem dX5_unlike_36 : decode cX5_unlike 36 = .ok (.iload_n 1, 1) := by decide +kernel
theorem dX5_unlike_37 : decode cX5_unlike 37 = .ok (.ireturn, 1) := by decide +kernel
theorem dX5_image_0 : decode cX5_image 0 = .ok (.aload_n 0, 1) := by decide +kernel
theorem dX5_image_1 : decode cX5_image 1 = .ok (.aload_n 0, 1) := by decide +kernel
theorem dX5_image_2 : decode cX5_image 2 = .ok (.invokevirtual 228, 3) := by decide +kernel
theorem dX5_image_5 : decode cX5_image 5 = .ok (.putfield 63, 3) := by decide +kernel
theorem dX5_image_8 : decode cX5_image 8 = .ok (.aload_n 0, 1) := by decide +kernel
theorem dX5_image_9 : decode cX5_image 9 = .ok (.getfield 56, 3) := by decide +kernel
theorem dX5_image_12 : decode cX5_image 12 = .ok (.iconst 0, 1) := by decide +kernel
theorem dX5_image_13 : decode cX5_image 13 = .ok (.aload_n 0, 1) := by decide +kernel
theorem dX5_image_14 : decode cX5_image 14 = .ok (.getfield 60, 3) := by decide +kernel
theorem dX5_image_17 : decode cX5_image 17 = .ok (.iconst 0, 1) := by decide +kernel
theorem dX5_image_18 : decode cX5_image 18 = .ok (.iconst 4, 1) := by decide +kernel
theorem dX5_image_19 : decode cX5_image 19 = .ok (.invokestatic 240, 3) := by decide +kernel
theorem dX5_image_22 : decode cX5_image 22 = .ok (.aload_n 0, 1) := by decide +kernel
theorem dX5_image_23 : decode cX5_image 23 = .ok (.getfield 10, 3) := by decide +kernel
theorem dX5_image_26 : decode cX5_image 26 = .ok (.getfield 78, 3) := by decide +kernel
theorem dX5_image_29 : decode cX5_image 29 = .ok (.ireturn, 1) := by decide +kernel
theorem dX5_back_0 : decode cX5_back 0 = .ok (.aload_n 0, 1) := by decide +kernel
theorem dX5_back_1 : decode cX5_back 1 = .ok (.getfield 63, 3) := by decide +kernel
theorem dX5_back_4 : decode cX5_back 4 = .ok (.ifCond .ne 6, 3) := by decide +kernel
theorem dX5_back_7 : decode cX5_back 7 = .ok (.bipush (-3), 2) := by decide +kernel
theorem dX5_back_9 : decode cX5_back 9 = .ok (.ireturn, 1) := by decide +kernel
theorem dX5_back_10 : decode cX5_back 10 = .ok (.aload_n 0, 1) := by decide +kernel
theorem dX5_back_11 : decode cX5_back 11 = .ok (.aload_n 0, 1) := by decide +kernel
theorem dX5_back_12 : decode cX5_back 12 = .ok (.getfield 63, 3) := by decide +kernel
theorem dX5_back_15 : decode cX5_back 15 = .ok (.invokevirtual 234, 3) := by decide +kernel
theorem dX5_back_18 : decode cX5_back 18 = .ok (.aload_n 0, 1) := by decide +kernel
theorem dX5_back_19 : decode cX5_back 19 = .ok (.getfield 60, 3) := by decide +kernel
theorem dX5_back_22 : decode cX5_back 22 = .ok (.iconst 0, 1) := by decide +kernel
theorem dX5_back_23 : decode cX5_back 23 = .ok (.aload_n 0, 1) := by decide +kernel
theorem dX5_back_24 : decode cX5_back 24 = .ok (.getfield 56, 3) := by decide +kernel
theorem dX5_back_27 : decode cX5_back 27 = .ok (.iconst 0, 1) := by decide +kernel
theorem dX5_back_28 : decode cX5_back 28 = .ok (.iconst 4, 1) := by decide +kernel
theorem dX5_back_29 : decode cX5_back 29 = .ok (.invokestatic 240, 3) := by decide +kernel
theorem dX5_back_32 : decode cX5_back 32 = .ok (.aload_n 0, 1) := by decide +kernel
theorem dX5_back_33 : decode cX5_back 33 = .ok (.getfield 10, 3) := by decide +kernel
theorem dX5_back_36 : decode cX5_back 36 = .ok (.getfield 78, 3) := by decide +kernel
theorem dX5_back_39 : decode cX5_back 39 = .ok (.ireturn, 1) := by decide +kernel
theorem dX5_count_0 : decode cX5_count 0 = .ok (.iload_n 1, 1) := by decide +kernel
theorem dX5_count_1 : decode cX5_count 1 = .ok (.tableswitch 84 0 5 #[39, 47, 55, 63, 71, 79], 39) := by decide +kernel
theorem dX5_count_40 : decode cX5_count 40 = .ok (.aload_n 0, 1) := by decide +kernel
theorem dX5_count_41 : decode cX5_count 41 = .ok (.getfield 10, 3) := by decide +kernel
theorem dX5_count_44 : decode cX5_count 44 = .ok (.getfield 78, 3) := by decide +kernel
theorem dX5_count_47 : decode cX5_count 47 = .ok (.ireturn, 1) := by decide +kernel
theorem dX5_count_48 : decode cX5_count 48 = .ok (.aload_n 0, 1) := by decide +kernel
theorem dX5_count_49 : decode cX5_count 49 = .ok (.getfield 10, 3) := by decide +kernel
theorem dX5_count_52 : decode cX5_count 52 = .ok (.getfield 246, 3) := by decide +kernel
theorem dX5_count_55 : decode cX5_count 55 = .ok (.ireturn, 1) := by decide +kernel
theorem dX5_count_56 : decode cX5_count 56 = .ok (.aload_n 0, 1) := by decide +kernel
theorem dX5_count_57 : decode cX5_count 57 = .ok (.getfield 10, 3) := by decide +kernel
theorem dX5_count_60 : decode cX5_count 60 = .ok (.getfield 249, 3) := by decide +kernel
theorem dX5_count_63 : decode cX5_count 63 = .ok (.ireturn, 1) := by decide +kernel
theorem dX5_count_64 : decode cX5_count 64 = .ok (.aload_n 0, 1) := by decide +kernel
theorem dX5_count_65 : decode cX5_count 65 = .ok (.getfield 19, 3) := by decide +kernel
theorem dX5_count_68 : decode cX5_count 68 = .ok (.getfield 135, 3) := by decide +kernel
theorem dX5_count_71 : decode cX5_count 71 = .ok (.ireturn, 1) := by decide +kernel
theorem dX5_count_72 : decode cX5_count 72 = .ok (.aload_n 0, 1) := by decide +kernel
theorem dX5_count_73 : decode cX5_count 73 = .ok (.getfield 19, 3) := by decide +kernel
theorem dX5_count_76 : decode cX5_count 76 = .ok (.getfield 132, 3) := by decide +kernel
theorem dX5_count_79 : decode cX5_count 79 = .ok (.ireturn, 1) := by decide +kernel
theorem dX5_count_80 : decode cX5_count 80 = .ok (.aload_n 0, 1) := by decide +kernel
theorem dX5_count_81 : decode cX5_count 81 = .ok (.invokevirtual 231, 3) := by decide +kernel
theorem dX5_count_84 : decode cX5_count 84 = .ok (.ireturn, 1) := by decide +kernel
theorem dX5_count_85 : decode cX5_count 85 = .ok (.bipush (-2), 2) := by decide +kernel
theorem dX5_count_87 : decode cX5_count 87 = .ok (.ireturn, 1) := by decide +kernel
theorem dX5_forgetMaps_0 : decode cX5_forgetMaps 0 = .ok (.aload_n 0, 1) := by decide +kernel
theorem dX5_forgetMaps_1 : decode cX5_forgetMaps 1 = .ok (.getfield 37, 3) := by decide +kernel
theorem dX5_forgetMaps_4 : decode cX5_forgetMaps 4 = .ok (.iconst 0, 1) := by decide +kernel
theorem dX5_forgetMaps_5 : decode cX5_forgetMaps 5 = .ok (.putfield 252, 3) := by decide +kernel
theorem dX5_forgetMaps_8 : decode cX5_forgetMaps 8 = .ok (.aload_n 0, 1) := by decide +kernel
theorem dX5_forgetMaps_9 : decode cX5_forgetMaps 9 = .ok (.getfield 46, 3) := by decide +kernel
theorem dX5_forgetMaps_12 : decode cX5_forgetMaps 12 = .ok (.iconst 0, 1) := by decide +kernel
theorem dX5_forgetMaps_13 : decode cX5_forgetMaps 13 = .ok (.putfield 256, 3) := by decide +kernel
theorem dX5_forgetMaps_16 : decode cX5_forgetMaps 16 = .ok (.return_, 1) := by decide +kernel
theorem dX5_readsMap_0 : decode cX5_readsMap 0 = .ok (.aload_n 0, 1) := by decide +kernel
theorem dX5_readsMap_1 : decode cX5_readsMap 1 = .ok (.getfield 37, 3) := by decide +kernel
theorem dX5_readsMap_4 : decode cX5_readsMap 4 = .ok (.iload_n 1, 1) := by decide +kernel
theorem dX5_readsMap_5 : decode cX5_readsMap 5 = .ok (.invokevirtual 155, 3) := by decide +kernel
theorem dX5_readsMap_8 : decode cX5_readsMap 8 = .ok (.ifCond .eq 26, 3) := by decide +kernel
theorem dX5_readsMap_11 : decode cX5_readsMap 11 = .ok (.aload_n 0, 1) := by decide +kernel
theorem dX5_readsMap_12 : decode cX5_readsMap 12 = .ok (.getfield 28, 3) := by decide +kernel
theorem dX5_readsMap_15 : decode cX5_readsMap 15 = .ok (.aload_n 0, 1) := by decide +kernel
theorem dX5_readsMap_16 : decode cX5_readsMap 16 = .ok (.getfield 37, 3) := by decide +kernel
theorem dX5_readsMap_19 : decode cX5_readsMap 19 = .ok (.getfield 158, 3) := by decide +kernel
theorem dX5_readsMap_22 : decode cX5_readsMap 22 = .ok (.iload_n 1, 1) := by decide +kernel
theorem dX5_readsMap_23 : decode cX5_readsMap 23 = .ok (.iaload, 1) := by decide +kernel
theorem dX5_readsMap_24 : decode cX5_readsMap 24 = .ok (.invokevirtual 161, 3) := by decide +kernel
theorem dX5_readsMap_27 : decode cX5_readsMap 27 = .ok (.ifCond .eq 7, 3) := by decide +kernel
theorem dX5_readsMap_30 : decode cX5_readsMap 30 = .ok (.iconst 1, 1) := by decide +kernel
theorem dX5_readsMap_31 : decode cX5_readsMap 31 = .ok (.goto 4, 3) := by decide +kernel
theorem dX5_readsMap_34 : decode cX5_readsMap 34 = .ok (.iconst 0, 1) := by decide +kernel
theorem dX5_readsMap_35 : decode cX5_readsMap 35 = .ok (.ireturn, 1) := by decide +kernel
theorem dX5_isShelf_0 : decode cX5_isShelf 0 = .ok (.iload_n 0, 1) := by decide +kernel
theorem dX5_isShelf_1 : decode cX5_isShelf 1 = .ok (.ifCond .lt 12, 3) := by decide +kernel
theorem dX5_isShelf_4 : decode cX5_isShelf 4 = .ok (.iload_n 0, 1) := by decide +kernel
theorem dX5_isShelf_5 : decode cX5_isShelf 5 = .ok (.iconst 4, 1) := by decide +kernel
theorem dX5_isShelf_6 : decode cX5_isShelf 6 = .ok (.if_icmp .ge 7, 3) := by decide +kernel
theorem dX5_isShelf_9 : decode cX5_isShelf 9 = .ok (.iconst 1, 1) := by decide +kernel
theorem dX5_isShelf_10 : decode cX5_isShelf 10 = .ok (.goto 4, 3) := by decide +kernel
theorem dX5_isShelf_13 : decode cX5_isShelf 13 = .ok (.iconst 0, 1) := by decide +kernel
theorem dX5_isShelf_14 : decode cX5_isShelf 14 = .ok (.ireturn, 1) := by decide +kernel
theorem dX5_shelvesInUse_0 : decode cX5_shelvesInUse 0 = .ok (.iconst 0, 1) := by decide +kernel
theorem dX5_shelvesInUse_1 : decode cX5_shelvesInUse 1 = .ok (.istore_n 1, 1) := by decide +kernel
theorem dX5_shelvesInUse_2 : decode cX5_shelvesInUse 2 = .ok (.iconst 0, 1) := by decide +kernel
theorem dX5_shelvesInUse_3 : decode cX5_shelvesInUse 3 = .ok (.istore_n 2, 1) := by decide +kernel
theorem dX5_shelvesInUse_4 : decode cX5_shelvesInUse 4 = .ok (.iload_n 2, 1) := by decide +kernel
theorem dX5_shelvesInUse_5 : decode cX5_shelvesInUse 5 = .ok (.iconst 4, 1) := by decide +kernel
theorem dX5_shelvesInUse_6 : decode cX5_shelvesInUse 6 = .ok (.if_icmp .ge 21, 3) := by decide +kernel
theorem dX5_shelvesInUse_9 : decode cX5_shelvesInUse 9 = .ok (.aload_n 0, 1) := by decide +kernel
theorem dX5_shelvesInUse_10 : decode cX5_shelvesInUse 10 = .ok (.getfield 56, 3) := by decide +kernel
theorem dX5_shelvesInUse_13 : decode cX5_shelvesInUse 13 = .ok (.iload_n 2, 1) := by decide +kernel
theorem dX5_shelvesInUse_14 : decode cX5_shelvesInUse 14 = .ok (.iaload, 1) := by decide +kernel
theorem dX5_shelvesInUse_15 : decode cX5_shelvesInUse 15 = .ok (.ifCond .eq 6, 3) := by decide +kernel
theorem dX5_shelvesInUse_18 : decode cX5_shelvesInUse 18 = .ok (.iinc 1 1, 3) := by decide +kernel
theorem dX5_shelvesInUse_21 : decode cX5_shelvesInUse 21 = .ok (.iinc 2 1, 3) := by decide +kernel
theorem dX5_shelvesInUse_24 : decode cX5_shelvesInUse 24 = .ok (.goto (-20), 3) := by decide +kernel
theorem dX5_shelvesInUse_27 : decode cX5_shelvesInUse 27 = .ok (.iload_n 1, 1) := by decide +kernel
theorem dX5_shelvesInUse_28 : decode cX5_shelvesInUse 28 = .ok (.ireturn, 1) := by decide +kernel
theorem dX5_firstLike_0 : decode cX5_firstLike 0 = .ok (.iconst 0, 1) := by decide +kernel
theorem dX5_firstLike_1 : decode cX5_firstLike 1 = .ok (.istore_n 2, 1) := by decide +kernel
theorem dX5_firstLike_2 : decode cX5_firstLike 2 = .ok (.iload_n 2, 1) := by decide +kernel
theorem dX5_firstLike_3 : decode cX5_firstLike 3 = .ok (.iload_n 1, 1) := by decide +kernel
theorem dX5_firstLike_4 : decode cX5_firstLike 4 = .ok (.if_icmp .ge 26, 3) := by decide +kernel
theorem dX5_firstLike_7 : decode cX5_firstLike 7 = .ok (.aload_n 0, 1) := by decide +kernel
theorem dX5_firstLike_8 : decode cX5_firstLike 8 = .ok (.getfield 56, 3) := by decide +kernel
theorem dX5_firstLike_11 : decode cX5_firstLike 11 = .ok (.iload_n 2, 1) := by decide +kernel
theorem dX5_firstLike_12 : decode cX5_firstLike 12 = .ok (.iaload, 1) := by decide +kernel
theorem dX5_firstLike_13 : decode cX5_firstLike 13 = .ok (.aload_n 0, 1) := by decide +kernel
theorem dX5_firstLike_14 : decode cX5_firstLike 14 = .ok (.getfield 56, 3) := by decide +kernel
theorem dX5_firstLike_17 : decode cX5_firstLike 17 = .ok (.iload_n 1, 1) := by decide +kernel
theorem dX5_firstLike_18 : decode cX5_firstLike 18 = .ok (.iaload, 1) := by decide +kernel
theorem dX5_firstLike_19 : decode cX5_firstLike 19 = .ok (.if_icmp .ne 5, 3) := by decide +kernel
theorem dX5_firstLike_22 : decode cX5_firstLike 22 = .ok (.iload_n 2, 1) := by decide +kernel
theorem dX5_firstLike_23 : decode cX5_firstLike 23 = .ok (.ireturn, 1) := by decide +kernel
theorem dX5_firstLike_24 : decode cX5_firstLike 24 = .ok (.iinc 2 1, 3) := by decide +kernel
theorem dX5_firstLike_27 : decode cX5_firstLike 27 = .ok (.goto (-25), 3) := by decide +kernel
theorem dX5_firstLike_30 : decode cX5_firstLike 30 = .ok (.iload_n 1, 1) := by decide +kernel
theorem dX5_firstLike_31 : decode cX5_firstLike 31 = .ok (.ireturn, 1) := by decide +kernel
theorem dX5_packed_0 : decode cX5_packed 0 = .ok (.aload_n 0, 1) := by decide +kernel
theorem dX5_packed_1 : decode cX5_packed 1 = .ok (.getfield 10, 3) := by decide +kernel
theorem dX5_packed_4 : decode cX5_packed 4 = .ok (.getfield 246, 3) := by decide +kernel
theorem dX5_packed_7 : decode cX5_packed 7 = .ok (.bipush 100, 2) := by decide +kernel
theorem dX5_packed_9 : decode cX5_packed 9 = .ok (.imul, 1) := by decide +kernel
theorem dX5_packed_10 : decode cX5_packed 10 = .ok (.aload_n 0, 1) := by decide +kernel
theorem dX5_packed_11 : decode cX5_packed 11 = .ok (.getfield 10, 3) := by decide +kernel
theorem dX5_packed_14 : decode cX5_packed 14 = .ok (.getfield 249, 3) := by decide +kernel
theorem dX5_packed_17 : decode cX5_packed 17 = .ok (.bipush 10, 2) := by decide +kernel
theorem dX5_packed_19 : decode cX5_packed 19 = .ok (.imul, 1) := by decide +kernel
theorem dX5_packed_20 : decode cX5_packed 20 = .ok (.iadd, 1) := by decide +kernel
theorem dX5_packed_21 : decode cX5_packed 21 = .ok (.aload_n 0, 1) := by decide +kernel
theorem dX5_packed_22 : decode cX5_packed 22 = .ok (.getfield 19, 3) := by decide +kernel
theorem dX5_packed_25 : decode cX5_packed 25 = .ok (.getfield 135, 3) := by decide +kernel
theorem dX5_packed_28 : decode cX5_packed 28 = .ok (.iadd, 1) := by decide +kernel
theorem dX5_packed_29 : decode cX5_packed 29 = .ok (.istore_n 1, 1) := by decide +kernel
theorem dX5_packed_30 : decode cX5_packed 30 = .ok (.iload_n 1, 1) := by decide +kernel
theorem dX5_packed_31 : decode cX5_packed 31 = .ok (.sipush 10000, 3) := by decide +kernel
theorem dX5_packed_34 : decode cX5_packed 34 = .ok (.imul, 1) := by decide +kernel
theorem dX5_packed_35 : decode cX5_packed 35 = .ok (.aload_n 0, 1) := by decide +kernel
theorem dX5_packed_36 : decode cX5_packed 36 = .ok (.getfield 19, 3) := by decide +kernel
theorem dX5_packed_39 : decode cX5_packed 39 = .ok (.invokevirtual 218, 3) := by decide +kernel
theorem dX5_packed_42 : decode cX5_packed 42 = .ok (.iadd, 1) := by decide +kernel
theorem dX5_packed_43 : decode cX5_packed 43 = .ok (.ireturn, 1) := by decide +kernel
theorem dX5_unpack_0 : decode cX5_unpack 0 = .ok (.iload_n 1, 1) := by decide +kernel
theorem dX5_unpack_1 : decode cX5_unpack 1 = .ok (.sipush 10000, 3) := by decide +kernel
theorem dX5_unpack_4 : decode cX5_unpack 4 = .ok (.idiv, 1) := by decide +kernel
theorem dX5_unpack_5 : decode cX5_unpack 5 = .ok (.istore_n 2, 1) := by decide +kernel
theorem dX5_unpack_6 : decode cX5_unpack 6 = .ok (.aload_n 0, 1) := by decide +kernel
theorem dX5_unpack_7 : decode cX5_unpack 7 = .ok (.getfield 10, 3) := by decide +kernel
theorem dX5_unpack_10 : decode cX5_unpack 10 = .ok (.iload_n 2, 1) := by decide +kernel
theorem dX5_unpack_11 : decode cX5_unpack 11 = .ok (.bipush 100, 2) := by decide +kernel
theorem dX5_unpack_13 : decode cX5_unpack 13 = .ok (.idiv, 1) := by decide +kernel
theorem dX5_unpack_14 : decode cX5_unpack 14 = .ok (.iload_n 2, 1) := by decide +kernel
theorem dX5_unpack_15 : decode cX5_unpack 15 = .ok (.bipush 10, 2) := by decide +kernel
theorem dX5_unpack_17 : decode cX5_unpack 17 = .ok (.idiv, 1) := by decide +kernel
theorem dX5_unpack_18 : decode cX5_unpack 18 = .ok (.bipush 10, 2) := by decide +kernel
theorem dX5_unpack_20 : decode cX5_unpack 20 = .ok (.irem, 1) := by decide +kernel
theorem dX5_unpack_21 : decode cX5_unpack 21 = .ok (.invokevirtual 71, 3) := by decide +kernel
theorem dX5_unpack_24 : decode cX5_unpack 24 = .ok (.aload_n 0, 1) := by decide +kernel
theorem dX5_unpack_25 : decode cX5_unpack 25 = .ok (.getfield 19, 3) := by decide +kernel
theorem dX5_unpack_28 : decode cX5_unpack 28 = .ok (.iload_n 2, 1) := by decide +kernel
theorem dX5_unpack_29 : decode cX5_unpack 29 = .ok (.bipush 10, 2) := by decide +kernel
theorem dX5_unpack_31 : decode cX5_unpack 31 = .ok (.irem, 1) := by decide +kernel
theorem dX5_unpack_32 : decode cX5_unpack 32 = .ok (.iload_n 1, 1) := by decide +kernel
theorem dX5_unpack_33 : decode cX5_unpack 33 = .ok (.sipush 10000, 3) := by decide +kernel
theorem dX5_unpack_36 : decode cX5_unpack 36 = .ok (.irem, 1) := by decide +kernel
theorem dX5_unpack_37 : decode cX5_unpack 37 = .ok (.invokevirtual 257, 3) := by decide +kernel
theorem dX5_unpack_40 : decode cX5_unpack 40 = .ok (.aload_n 0, 1) := by decide +kernel
theorem dX5_unpack_41 : decode cX5_unpack 41 = .ok (.invokevirtual 75, 3) := by decide +kernel
theorem dX5_unpack_44 : decode cX5_unpack 44 = .ok (.return_, 1) := by decide +kernel
theorem dX6_in_0 : decode cX6_in 0 = .ok (.iload_n 0, 1) := by decide +kernel
theorem dX6_in_1 : decode cX6_in 1 = .ok (.iload_n 1, 1) := by decide +kernel
theorem dX6_in_2 : decode cX6_in 2 = .ok (.if_icmp .lt 12, 3) := by decide +kernel
theorem dX6_in_5 : decode cX6_in 5 = .ok (.iload_n 0, 1) := by decide +kernel
theorem dX6_in_6 : decode cX6_in 6 = .ok (.iload_n 2, 1) := by decide +kernel
theorem dX6_in_7 : decode cX6_in 7 = .ok (.if_icmp .gt 7, 3) := by decide +kernel
theorem dX6_in_10 : decode cX6_in 10 = .ok (.iconst 1, 1) := by decide +kernel
theorem dX6_in_11 : decode cX6_in 11 = .ok (.goto 4, 3) := by decide +kernel
theorem dX6_in_14 : decode cX6_in 14 = .ok (.iconst 0, 1) := by decide +kernel
theorem dX6_in_15 : decode cX6_in 15 = .ok (.ireturn, 1) := by decide +kernel
theorem dX6_sizeBy_0 : decode cX6_sizeBy 0 = .ok (.iload_n 0, 1) := by decide +kernel
theorem dX6_sizeBy_1 : decode cX6_sizeBy 1 = .ok (.ifCond .ne 7, 3) := by decide +kernel
theorem dX6_sizeBy_4 : decode cX6_sizeBy 4 = .ok (.iload_n 1, 1) := by decide +kernel
theorem dX6_sizeBy_5 : decode cX6_sizeBy 5 = .ok (.goto 27, 3) := by decide +kernel
theorem dX6_sizeBy_8 : decode cX6_sizeBy 8 = .ok (.iload_n 0, 1) := by decide +kernel
theorem dX6_sizeBy_9 : decode cX6_sizeBy 9 = .ok (.iconst 1, 1) := by decide +kernel
theorem dX6_sizeBy_10 : decode cX6_sizeBy 10 = .ok (.if_icmp .ne 9, 3) := by decide +kernel
theorem dX6_sizeBy_13 : decode cX6_sizeBy 13 = .ok (.iconst 2, 1) := by decide +kernel
theorem dX6_sizeBy_14 : decode cX6_sizeBy 14 = .ok (.iload_n 1, 1) := by decide +kernel
theorem dX6_sizeBy_15 : decode cX6_sizeBy 15 = .ok (.imul, 1) := by decide +kernel
theorem dX6_sizeBy_16 : decode cX6_sizeBy 16 = .ok (.goto 16, 3) := by decide +kernel
theorem dX6_sizeBy_19 : decode cX6_sizeBy 19 = .ok (.iload_n 0, 1) := by decide +kernel
theorem dX6_sizeBy_20 : decode cX6_sizeBy 20 = .ok (.iconst 2, 1) := by decide +kernel
theorem dX6_sizeBy_21 : decode cX6_sizeBy 21 = .ok (.if_icmp .ne 9, 3) := by decide +kernel
theorem dX6_sizeBy_24 : decode cX6_sizeBy 24 = .ok (.iconst 1, 1) := by decide +kernel
theorem dX6_sizeBy_25 : decode cX6_sizeBy 25 = .ok (.iload_n 1, 1) := by decide +kernel
theorem dX6_sizeBy_26 : decode cX6_sizeBy 26 = .ok (.ishl, 1) := by decide +kernel
theorem dX6_sizeBy_27 : decode cX6_sizeBy 27 = .ok (.goto 5, 3) := by decide +kernel
theorem dX6_sizeBy_30 : decode cX6_sizeBy 30 = .ok (.bipush 8, 2) := by decide +kernel
theorem dX6_sizeBy_32 : decode cX6_sizeBy 32 = .ok (.ireturn, 1) := by decide +kernel
theorem dX6_mirrored_0 : decode cX6_mirrored 0 = .ok (.iload_n 1, 1) := by decide +kernel
theorem dX6_mirrored_1 : decode cX6_mirrored 1 = .ok (.aload_n 0, 1) := by decide +kernel
theorem dX6_mirrored_2 : decode cX6_mirrored 2 = .ok (.getfield 1, 3) := by decide +kernel
theorem dX6_mirrored_5 : decode cX6_mirrored 5 = .ok (.idiv, 1) := by decide +kernel
theorem dX6_mirrored_6 : decode cX6_mirrored 6 = .ok (.ifCond .ne 24, 3) := by decide +kernel
theorem dX6_mirrored_9 : decode cX6_mirrored 9 = .ok (.iload_n 1, 1) := by decide +kernel
theorem dX6_mirrored_10 : decode cX6_mirrored 10 = .ok (.aload_n 0, 1) := by decide +kernel
theorem dX6_mirrored_11 : decode cX6_mirrored 11 = .ok (.getfield 1, 3) := by decide +kernel
theorem dX6_mirrored_14 : decode cX6_mirrored 14 = .ok (.irem, 1) := by decide +kernel
theorem dX6_mirrored_15 : decode cX6_mirrored 15 = .ok (.iload_n 2, 1) := by decide +kernel
theorem dX6_mirrored_16 : decode cX6_mirrored 16 = .ok (.aload_n 0, 1) := by decide +kernel
theorem dX6_mirrored_17 : decode cX6_mirrored 17 = .ok (.getfield 1, 3) := by decide +kernel
theorem dX6_mirrored_20 : decode cX6_mirrored 20 = .ok (.irem, 1) := by decide +kernel
theorem dX6_mirrored_21 : decode cX6_mirrored 21 = .ok (.iadd, 1) := by decide +kernel
theorem dX6_mirrored_22 : decode cX6_mirrored 22 = .ok (.aload_n 0, 1) := by decide +kernel
theorem dX6_mirrored_23 : decode cX6_mirrored 23 = .ok (.getfield 1, 3) := by decide +kernel
theorem dX6_mirrored_26 : decode cX6_mirrored 26 = .ok (.irem, 1) := by decide +kernel
theorem dX6_mirrored_27 : decode cX6_mirrored 27 = .ok (.goto 26, 3) := by decide +kernel
theorem dX6_mirrored_30 : decode cX6_mirrored 30 = .ok (.iload_n 1, 1) := by decide +kernel
theorem dX6_mirrored_31 : decode cX6_mirrored 31 = .ok (.aload_n 0, 1) := by decide +kernel
theorem dX6_mirrored_32 : decode cX6_mirrored 32 = .ok (.getfield 1, 3) := by decide +kernel
theorem dX6_mirrored_35 : decode cX6_mirrored 35 = .ok (.irem, 1) := by decide +kernel
theorem dX6_mirrored_36 : decode cX6_mirrored 36 = .ok (.iload_n 2, 1) := by decide +kernel
theorem dX6_mirrored_37 : decode cX6_mirrored 37 = .ok (.aload_n 0, 1) := by decide +kernel
theorem dX6_mirrored_38 : decode cX6_mirrored 38 = .ok (.getfield 1, 3) := by decide +kernel
theorem dX6_mirrored_41 : decode cX6_mirrored 41 = .ok (.irem, 1) := by decide +kernel
theorem dX6_mirrored_42 : decode cX6_mirrored 42 = .ok (.isub, 1) := by decide +kernel
theorem dX6_mirrored_43 : decode cX6_mirrored 43 = .ok (.aload_n 0, 1) := by decide +kernel
theorem dX6_mirrored_44 : decode cX6_mirrored 44 = .ok (.getfield 1, 3) := by decide +kernel
theorem dX6_mirrored_47 : decode cX6_mirrored 47 = .ok (.iadd, 1) := by decide +kernel
theorem dX6_mirrored_48 : decode cX6_mirrored 48 = .ok (.aload_n 0, 1) := by decide +kernel
theorem dX6_mirrored_49 : decode cX6_mirrored 49 = .ok (.getfield 1, 3) := by decide +kernel
theorem dX6_mirrored_52 : decode cX6_mirrored 52 = .ok (.irem, 1) := by decide +kernel
theorem dX6_mirrored_53 : decode cX6_mirrored 53 = .ok (.istore_n 3, 1) := by decide +kernel
theorem dX6_mirrored_54 : decode cX6_mirrored 54 = .ok (.iload_n 3, 1) := by decide +kernel
theorem dX6_mirrored_55 : decode cX6_mirrored 55 = .ok (.iload_n 1, 1) := by decide +kernel
theorem dX6_mirrored_56 : decode cX6_mirrored 56 = .ok (.aload_n 0, 1) := by decide +kernel
theorem dX6_mirrored_57 : decode cX6_mirrored 57 = .ok (.getfield 1, 3) := by decide +kernel
theorem dX6_mirrored_60 : decode cX6_mirrored 60 = .ok (.idiv, 1) := by decide +kernel
theorem dX6_mirrored_61 : decode cX6_mirrored 61 = .ok (.iload_n 2, 1) := by decide +kernel
theorem dX6_mirrored_62 : decode cX6_mirrored 62 = .ok (.aload_n 0, 1) := by decide +kernel
theorem dX6_mirrored_63 : decode cX6_mirrored 63 = .ok (.getfield 1, 3) := by decide +kernel
theorem dX6_mirrored_66 : decode cX6_mirrored 66 = .ok (.idiv, 1) := by decide +kernel
theorem dX6_mirrored_67 : decode cX6_mirrored 67 = .ok (.if_icmp .ne 7, 3) := by decide +kernel
theorem dX6_mirrored_70 : decode cX6_mirrored 70 = .ok (.iconst 0, 1) := by decide +kernel
theorem dX6_mirrored_71 : decode cX6_mirrored 71 = .ok (.goto 7, 3) := by decide +kernel
theorem dX6_mirrored_74 : decode cX6_mirrored 74 = .ok (.aload_n 0, 1) := by decide +kernel
theorem dX6_mirrored_75 : decode cX6_mirrored 75 = .ok (.getfield 1, 3) := by decide +kernel
theorem dX6_mirrored_78 : decode cX6_mirrored 78 = .ok (.iadd, 1) := by decide +kernel
theorem dX6_mirrored_79 : decode cX6_mirrored 79 = .ok (.ireturn, 1) := by decide +kernel
theorem dX6_crossed_0 : decode cX6_crossed 0 = .ok (.iload_n 0, 1) := by decide +kernel
theorem dX6_crossed_1 : decode cX6_crossed 1 = .ok (.iconst 4, 1) := by decide +kernel
theorem dX6_crossed_2 : decode cX6_crossed 2 = .ok (.irem, 1) := by decide +kernel
theorem dX6_crossed_3 : decode cX6_crossed 3 = .ok (.istore_n 2, 1) := by decide +kernel
theorem dX6_crossed_4 : decode cX6_crossed 4 = .ok (.iload_n 1, 1) := by decide +kernel
theorem dX6_crossed_5 : decode cX6_crossed 5 = .ok (.iconst 4, 1) := by decide +kernel
theorem dX6_crossed_6 : decode cX6_crossed 6 = .ok (.irem, 1) := by decide +kernel
theorem dX6_crossed_7 : decode cX6_crossed 7 = .ok (.istore_n 3, 1) := by decide +kernel
theorem dX6_crossed_8 : decode cX6_crossed 8 = .ok (.iload_n 2, 1) := by decide +kernel
theorem dX6_crossed_9 : decode cX6_crossed 9 = .ok (.ifCond .ne 7, 3) := by decide +kernel
theorem dX6_crossed_12 : decode cX6_crossed 12 = .ok (.iload_n 3, 1) := by decide +kernel
theorem dX6_crossed_13 : decode cX6_crossed 13 = .ok (.goto 4, 3) := by decide +kernel
theorem dX6_crossed_16 : decode cX6_crossed 16 = .ok (.iload_n 2, 1) := by decide +kernel
theorem dX6_crossed_17 : decode cX6_crossed 17 = .ok (.istore 4, 2) := by decide +kernel
theorem dX6_crossed_19 : decode cX6_crossed 19 = .ok (.iconst 0, 1) := by decide +kernel
theorem dX6_crossed_20 : decode cX6_crossed 20 = .ok (.istore 5, 2) := by decide +kernel
theorem dX6_crossed_22 : decode cX6_crossed 22 = .ok (.iload_n 2, 1) := by decide +kernel
theorem dX6_crossed_23 : decode cX6_crossed 23 = .ok (.ifCond .eq 45, 3) := by decide +kernel
theorem dX6_crossed_26 : decode cX6_crossed 26 = .ok (.iload_n 3, 1) := by decide +kernel
theorem dX6_crossed_27 : decode cX6_crossed 27 = .ok (.ifCond .eq 41, 3) := by decide +kernel
theorem dX6_crossed_30 : decode cX6_crossed 30 = .ok (.iload_n 2, 1) := by decide +kernel
theorem dX6_crossed_31 : decode cX6_crossed 31 = .ok (.iload_n 3, 1) := by decide +kernel
theorem dX6_crossed_32 : decode cX6_crossed 32 = .ok (.if_icmp .ne 7, 3) := by decide +kernel
theorem dX6_crossed_35 : decode cX6_crossed 35 = .ok (.iconst 0, 1) := by decide +kernel
theorem dX6_crossed_36 : decode cX6_crossed 36 = .ok (.goto 9, 3) := by decide +kernel
theorem dX6_crossed_39 : decode cX6_crossed 39 = .ok (.bipush 6, 2) := by decide +kernel
theorem dX6_crossed_41 : decode cX6_crossed 41 = .ok (.iload_n 2, 1) := by decide +kernel
theorem dX6_crossed_42 : decode cX6_crossed 42 = .ok (.isub, 1) := by decide +kernel
theorem dX6_crossed_43 : decode cX6_crossed 43 = .ok (.iload_n 3, 1) := by decide +kernel
theorem dX6_crossed_44 : decode cX6_crossed 44 = .ok (.isub, 1) := by decide +kernel
theorem dX6_crossed_45 : decode cX6_crossed 45 = .ok (.istore 4, 2) := by decide +kernel
theorem dX6_crossed_47 : decode cX6_crossed 47 = .ok (.iload_n 2, 1) := by decide +kernel
theorem dX6_crossed_48 : decode cX6_crossed 48 = .ok (.iload_n 3, 1) := by decide +kernel
theorem dX6_crossed_49 : decode cX6_crossed 49 = .ok (.if_icmp .eq 16, 3) := by decide +kernel
theorem dX6_crossed_52 : decode cX6_crossed 52 = .ok (.iload_n 3, 1) := by decide +kernel
theorem dX6_crossed_53 : decode cX6_crossed 53 = .ok (.iload_n 2, 1) := by decide +kernel
theorem dX6_crossed_54 : decode cX6_crossed 54 = .ok (.iconst 3, 1) := by decide +kernel
theorem dX6_crossed_55 : decode cX6_crossed 55 = .ok (.irem, 1) := by decide +kernel
theorem dX6_crossed_56 : decode cX6_crossed 56 = .ok (.iconst 1, 1) := by decide +kernel
theorem dX6_crossed_57 : decode cX6_crossed 57 = .ok (.iadd, 1) := by decide +kernel
theorem dX6_crossed_58 : decode cX6_crossed 58 = .ok (.if_icmp .ne 7, 3) := by decide +kernel
theorem dX6_crossed_61 : decode cX6_crossed 61 = .ok (.iconst 0, 1) := by decide +kernel
theorem dX6_crossed_62 : decode cX6_crossed 62 = .ok (.goto 4, 3) := by decide +kernel
theorem dX6_crossed_65 : decode cX6_crossed 65 = .ok (.iconst 1, 1) := by decide +kernel
theorem dX6_crossed_66 : decode cX6_crossed 66 = .ok (.istore 5, 2) := by decide +kernel
theorem dX6_crossed_68 : decode cX6_crossed 68 = .ok (.iload 4, 2) := by decide +kernel
theorem dX6_crossed_70 : decode cX6_crossed 70 = .ok (.iconst 4, 1) := by decide +kernel
theorem dX6_crossed_71 : decode cX6_crossed 71 = .ok (.iload_n 0, 1) := by decide +kernel
theorem dX6_crossed_72 : decode cX6_crossed 72 = .ok (.iconst 4, 1) := by decide +kernel
theorem dX6_crossed_73 : decode cX6_crossed 73 = .ok (.idiv, 1) := by decide +kernel
theorem dX6_crossed_74 : decode cX6_crossed 74 = .ok (.iload_n 1, 1) := by decide +kernel
theorem dX6_crossed_75 : decode cX6_crossed 75 = .ok (.iconst 4, 1) := by decide +kernel
theorem dX6_crossed_76 : decode cX6_crossed 76 = .ok (.idiv, 1) := by decide +kernel
theorem dX6_crossed_77 : decode cX6_crossed 77 = .ok (.iadd, 1) := by decide +kernel
theorem dX6_crossed_78 : decode cX6_crossed 78 = .ok (.iload 5, 2) := by decide +kernel
theorem dX6_crossed_80 : decode cX6_crossed 80 = .ok (.iadd, 1) := by decide +kernel
theorem dX6_crossed_81 : decode cX6_crossed 81 = .ok (.iconst 2, 1) := by decide +kernel
theorem dX6_crossed_82 : decode cX6_crossed 82 = .ok (.irem, 1) := by decide +kernel
theorem dX6_crossed_83 : decode cX6_crossed 83 = .ok (.imul, 1) := by decide +kernel
theorem dX6_crossed_84 : decode cX6_crossed 84 = .ok (.iadd, 1) := by decide +kernel
theorem dX6_crossed_85 : decode cX6_crossed 85 = .ok (.ireturn, 1) := by decide +kernel
theorem dX6_layTable_0 : decode cX6_layTable 0 = .ok (.aload_n 0, 1) := by decide +kernel
theorem dX6_layTable_1 : decode cX6_layTable 1 = .ok (.aload_n 0, 1) := by decide +kernel
theorem dX6_layTable_2 : decode cX6_layTable 2 = .ok (.getfield 7, 3) := by decide +kernel
theorem dX6_layTable_5 : decode cX6_layTable 5 = .ok (.aload_n 0, 1) := by decide +kernel
theorem dX6_layTable_6 : decode cX6_layTable 6 = .ok (.getfield 1, 3) := by decide +kernel
theorem dX6_layTable_9 : decode cX6_layTable 9 = .ok (.invokestatic 10, 3) := by decide +kernel
theorem dX6_layTable_12 : decode cX6_layTable 12 = .ok (.putfield 14, 3) := by decide +kernel
theorem dX6_layTable_15 : decode cX6_layTable 15 = .ok (.iconst 0, 1) := by decide +kernel
theorem dX6_layTable_16 : decode cX6_layTable 16 = .ok (.istore_n 1, 1) := by decide +kernel
theorem dX6_layTable_17 : decode cX6_layTable 17 = .ok (.iload_n 1, 1) := by decide +kernel
theorem dX6_layTable_18 : decode cX6_layTable 18 = .ok (.aload_n 0, 1) := by decide +kernel
theorem dX6_layTable_19 : decode cX6_layTable 19 = .ok (.getfield 14, 3) := by decide +kernel
theorem dX6_layTable_22 : decode cX6_layTable 22 = .ok (.if_icmp .ge 106, 3) := by decide +kernel
theorem dX6_layTable_25 : decode cX6_layTable 25 = .ok (.iconst 0, 1) := by decide +kernel
theorem dX6_layTable_26 : decode cX6_layTable 26 = .ok (.istore_n 2, 1) := by decide +kernel
theorem dX6_layTable_27 : decode cX6_layTable 27 = .ok (.iload_n 2, 1) := by decide +kernel
theorem dX6_layTable_28 : decode cX6_layTable 28 = .ok (.aload_n 0, 1) := by decide +kernel
theorem dX6_layTable_29 : decode cX6_layTable 29 = .ok (.getfield 14, 3) := by decide +kernel
theorem dX6_layTable_32 : decode cX6_layTable 32 = .ok (.if_icmp .ge 90, 3) := by decide +kernel
theorem dX6_layTable_35 : decode cX6_layTable 35 = .ok (.aload_n 0, 1) := by decide +kernel
theorem dX6_layTable_36 : decode cX6_layTable 36 = .ok (.getfield 7, 3) := by decide +kernel
theorem dX6_layTable_39 : decode cX6_layTable 39 = .ok (.ifCond .ne 14, 3) := by decide +kernel
theorem dX6_layTable_42 : decode cX6_layTable 42 = .ok (.iload_n 1, 1) := by decide +kernel
theorem dX6_layTable_43 : decode cX6_layTable 43 = .ok (.iload_n 2, 1) := by decide +kernel
theorem dX6_layTable_44 : decode cX6_layTable 44 = .ok (.iadd, 1) := by decide +kernel
theorem dX6_layTable_45 : decode cX6_layTable 45 = .ok (.aload_n 0, 1) := by decide +kernel
theorem dX6_layTable_46 : decode cX6_layTable 46 = .ok (.getfield 1, 3) := by decide +kernel
theorem dX6_layTable_49 : decode cX6_layTable 49 = .ok (.irem, 1) := by decide +kernel
theorem dX6_layTable_50 : decode cX6_layTable 50 = .ok (.goto 18, 3) := by decide +kernel
theorem dX6_layTable_53 : decode cX6_layTable 53 = .ok (.aload_n 0, 1) := by decide +kernel
theorem dX6_layTable_54 : decode cX6_layTable 54 = .ok (.getfield 7, 3) := by decide +kernel
theorem dX6_layTable_57 : decode cX6_layTable 57 = .ok (.iconst 2, 1) := by decide +kernel
theorem dX6_layTable_58 : decode cX6_layTable 58 = .ok (.if_icmp .ne 9, 3) := by decide +kernel
theorem dX6_layTable_61 : decode cX6_layTable 61 = .ok (.iload_n 1, 1) := by decide +kernel
theorem dX6_layTable_62 : decode cX6_layTable 62 = .ok (.iload_n 2, 1) := by decide +kernel
theorem dX6_layTable_63 : decode cX6_layTable 63 = .ok (.ixor, 1) := by decide +kernel
theorem dX6_layTable_64 : decode cX6_layTable 64 = .ok (.goto 4, 3) := by decide +kernel
theorem dX6_layTable_67 : decode cX6_layTable 67 = .ok (.iconst 0, 1) := by decide +kernel
theorem dX6_layTable_68 : decode cX6_layTable 68 = .ok (.istore_n 3, 1) := by decide +kernel
theorem dX6_layTable_69 : decode cX6_layTable 69 = .ok (.aload_n 0, 1) := by decide +kernel
theorem dX6_layTable_70 : decode cX6_layTable 70 = .ok (.getfield 7, 3) := by decide +kernel
theorem dX6_layTable_73 : decode cX6_layTable 73 = .ok (.iconst 1, 1) := by decide +kernel
theorem dX6_layTable_74 : decode cX6_layTable 74 = .ok (.if_icmp .ne 12, 3) := by decide +kernel
theorem dX6_layTable_77 : decode cX6_layTable 77 = .ok (.aload_n 0, 1) := by decide +kernel
theorem dX6_layTable_78 : decode cX6_layTable 78 = .ok (.iload_n 1, 1) := by decide +kernel
theorem dX6_layTable_79 : decode cX6_layTable 79 = .ok (.iload_n 2, 1) := by decide +kernel
theorem dX6_layTable_80 : decode cX6_layTable 80 = .ok (.invokevirtual 17, 3) := by decide +kernel
theorem dX6_layTable_83 : decode cX6_layTable 83 = .ok (.goto 20, 3) := by decide +kernel
theorem dX6_layTable_86 : decode cX6_layTable 86 = .ok (.aload_n 0, 1) := by decide +kernel
theorem dX6_layTable_87 : decode cX6_layTable 87 = .ok (.getfield 7, 3) := by decide +kernel
theorem dX6_layTable_90 : decode cX6_layTable 90 = .ok (.iconst 3, 1) := by decide +kernel
theorem dX6_layTable_91 : decode cX6_layTable 91 = .ok (.if_icmp .ne 11, 3) := by decide +kernel
theorem dX6_layTable_94 : decode cX6_layTable 94 = .ok (.iload_n 1, 1) := by decide +kernel
theorem dX6_layTable_95 : decode cX6_layTable 95 = .ok (.iload_n 2, 1) := by decide +kernel
theorem dX6_layTable_96 : decode cX6_layTable 96 = .ok (.invokestatic 20, 3) := by decide +kernel
theorem dX6_layTable_99 : decode cX6_layTable 99 = .ok (.goto 4, 3) := by decide +kernel
theorem dX6_layTable_102 : decode cX6_layTable 102 = .ok (.iload_n 3, 1) := by decide +kernel
theorem dX6_layTable_103 : decode cX6_layTable 103 = .ok (.istore_n 3, 1) := by decide +kernel
theorem dX6_layTable_104 : decode cX6_layTable 104 = .ok (.aload_n 0, 1) := by decide +kernel
theorem dX6_layTable_105 : decode cX6_layTable 105 = .ok (.getfield 23, 3) := by decide +kernel
theorem dX6_layTable_108 : decode cX6_layTable 108 = .ok (.bipush 8, 2) := by decide +kernel
theorem dX6_layTable_110 : decode cX6_layTable 110 = .ok (.iload_n 1, 1) := by decide +kernel
theorem dX6_layTable_111 : decode cX6_layTable 111 = .ok (.imul, 1) := by decide +kernel
theorem dX6_layTable_112 : decode cX6_layTable 112 = .ok (.iload_n 2, 1) := by decide +kernel
theorem dX6_layTable_113 : decode cX6_layTable 113 = .ok (.iadd, 1) := by decide +kernel
theorem dX6_layTable_114 : decode cX6_layTable 114 = .ok (.iload_n 3, 1) := by decide +kernel
theorem dX6_layTable_115 : decode cX6_layTable 115 = .ok (.iastore, 1) := by decide +kernel
theorem dX6_layTable_116 : decode cX6_layTable 116 = .ok (.iinc 2 1, 3) := by decide +kernel
theorem dX6_layTable_119 : decode cX6_layTable 119 = .ok (.goto (-92), 3) := by decide +kernel
theorem dX6_layTable_122 : decode cX6_layTable 122 = .ok (.iinc 1 1, 3) := by decide +kernel
theorem dX6_layTable_125 : decode cX6_layTable 125 = .ok (.goto (-108), 3) := by decide +kernel
theorem dX6_layTable_128 : decode cX6_layTable 128 = .ok (.aload_n 0, 1) := by decide +kernel
theorem dX6_layTable_129 : decode cX6_layTable 129 = .ok (.iconst 0, 1) := by decide +kernel
theorem dX6_layTable_130 : decode cX6_layTable 130 = .ok (.putfield 27, 3) := by decide +kernel
theorem dX6_layTable_133 : decode cX6_layTable 133 = .ok (.return_, 1) := by decide +kernel
theorem dX6_product_0 : decode cX6_product 0 = .ok (.aload_n 0, 1) := by decide +kernel
theorem dX6_product_1 : decode cX6_product 1 = .ok (.getfield 23, 3) := by decide +kernel
theorem dX6_product_4 : decode cX6_product 4 = .ok (.bipush 8, 2) := by decide +kernel
theorem dX6_product_6 : decode cX6_product 6 = .ok (.iload_n 1, 1) := by decide +kernel
theorem dX6_product_7 : decode cX6_product 7 = .ok (.imul, 1) := by decide +kernel
theorem dX6_product_8 : decode cX6_product 8 = .ok (.iload_n 2, 1) := by decide +kernel
theorem dX6_product_9 : decode cX6_product 9 = .ok (.iadd, 1) := by decide +kernel
theorem dX6_product_10 : decode cX6_product 10 = .ok (.iaload, 1) := by decide +kernel
theorem dX6_product_11 : decode cX6_product 11 = .ok (.ireturn, 1) := by decide +kernel
theorem dX6_inverse_0 : decode cX6_inverse 0 = .ok (.iconst 0, 1) := by decide +kernel
theorem dX6_inverse_1 : decode cX6_inverse 1 = .ok (.istore_n 2, 1) := by decide +kernel
theorem dX6_inverse_2 : decode cX6_inverse 2 = .ok (.aload_n 0, 1) := by decide +kernel
theorem dX6_inverse_3 : decode cX6_inverse 3 = .ok (.iload_n 1, 1) := by decide +kernel
theorem dX6_inverse_4 : decode cX6_inverse 4 = .ok (.iload_n 2, 1) := by decide +kernel
theorem dX6_inverse_5 : decode cX6_inverse 5 = .ok (.invokevirtual 31, 3) := by decide +kernel
theorem dX6_inverse_8 : decode cX6_inverse 8 = .ok (.ifCond .eq 9, 3) := by decide +kernel
theorem dX6_inverse_11 : decode cX6_inverse 11 = .ok (.iinc 2 1, 3) := by decide +kernel
theorem dX6_inverse_14 : decode cX6_inverse 14 = .ok (.goto (-12), 3) := by decide +kernel
theorem dX6_inverse_17 : decode cX6_inverse 17 = .ok (.iload_n 2, 1) := by decide +kernel
theorem dX6_inverse_18 : decode cX6_inverse 18 = .ok (.ireturn, 1) := by decide +kernel
theorem dX6_orderOf_0 : decode cX6_orderOf 0 = .ok (.iconst 1, 1) := by decide +kernel
theorem dX6_orderOf_1 : decode cX6_orderOf 1 = .ok (.istore_n 2, 1) := by decide +kernel
theorem dX6_orderOf_2 : decode cX6_orderOf 2 = .ok (.iload_n 1, 1) := by decide +kernel
theorem dX6_orderOf_3 : decode cX6_orderOf 3 = .ok (.istore_n 3, 1) := by decide +kernel
theorem dX6_orderOf_4 : decode cX6_orderOf 4 = .ok (.iload_n 3, 1) := by decide +kernel
theorem dX6_orderOf_5 : decode cX6_orderOf 5 = .ok (.ifCond .eq 16, 3) := by decide +kernel
theorem dX6_orderOf_8 : decode cX6_orderOf 8 = .ok (.iinc 2 1, 3) := by decide +kernel
theorem dX6_orderOf_11 : decode cX6_orderOf 11 = .ok (.aload_n 0, 1) := by decide +kernel
theorem dX6_orderOf_12 : decode cX6_orderOf 12 = .ok (.iload_n 3, 1) := by decide +kernel
theorem dX6_orderOf_13 : decode cX6_orderOf 13 = .ok (.iload_n 1, 1) := by decide +kernel
theorem dX6_orderOf_14 : decode cX6_orderOf 14 = .ok (.invokevirtual 31, 3) := by decide +kernel
theorem dX6_orderOf_17 : decode cX6_orderOf 17 = .ok (.istore_n 3, 1) := by decide +kernel
theorem dX6_orderOf_18 : decode cX6_orderOf 18 = .ok (.goto (-14), 3) := by decide +kernel
theorem dX6_orderOf_21 : decode cX6_orderOf 21 = .ok (.iload_n 2, 1) := by decide +kernel
theorem dX6_orderOf_22 : decode cX6_orderOf 22 = .ok (.ireturn, 1) := by decide +kernel
theorem dX6_turned_0 : decode cX6_turned 0 = .ok (.aload_n 0, 1) := by decide +kernel
theorem dX6_turned_1 : decode cX6_turned 1 = .ok (.aload_n 0, 1) := by decide +kernel
theorem dX6_turned_2 : decode cX6_turned 2 = .ok (.aload_n 0, 1) := by decide +kernel
theorem dX6_turned_3 : decode cX6_turned 3 = .ok (.iload_n 2, 1) := by decide +kernel
theorem dX6_turned_4 : decode cX6_turned 4 = .ok (.invokevirtual 34, 3) := by decide +kernel
theorem dX6_turned_7 : decode cX6_turned 7 = .ok (.iload_n 1, 1) := by decide +kernel
theorem dX6_turned_8 : decode cX6_turned 8 = .ok (.invokevirtual 31, 3) := by decide +kernel
theorem dX6_turned_11 : decode cX6_turned 11 = .ok (.iload_n 2, 1) := by decide +kernel
theorem dX6_turned_12 : decode cX6_turned 12 = .ok (.invokevirtual 31, 3) := by decide +kernel
theorem dX6_turned_15 : decode cX6_turned 15 = .ok (.ireturn, 1) := by decide +kernel
theorem dX6_spanOf_0 : decode cX6_spanOf 0 = .ok (.iload_n 1, 1) := by decide +kernel
theorem dX6_spanOf_1 : decode cX6_spanOf 1 = .ok (.iconst 1, 1) := by decide +kernel
theorem dX6_spanOf_2 : decode cX6_spanOf 2 = .ok (.ior, 1) := by decide +kernel
theorem dX6_spanOf_3 : decode cX6_spanOf 3 = .ok (.istore_n 2, 1) := by decide +kernel
theorem dX6_spanOf_4 : decode cX6_spanOf 4 = .ok (.iconst 0, 1) := by decide +kernel
theorem dX6_spanOf_5 : decode cX6_spanOf 5 = .ok (.istore_n 3, 1) := by decide +kernel
theorem dX6_spanOf_6 : decode cX6_spanOf 6 = .ok (.iload_n 2, 1) := by decide +kernel
theorem dX6_spanOf_7 : decode cX6_spanOf 7 = .ok (.iload_n 3, 1) := by decide +kernel
theorem dX6_spanOf_8 : decode cX6_spanOf 8 = .ok (.if_icmp .eq 76, 3) := by decide +kernel
theorem dX6_spanOf_11 : decode cX6_spanOf 11 = .ok (.iload_n 2, 1) := by decide +kernel
theorem dX6_spanOf_12 : decode cX6_spanOf 12 = .ok (.istore_n 3, 1) := by decide +kernel
theorem dX6_spanOf_13 : decode cX6_spanOf 13 = .ok (.iconst 0, 1) := by decide +kernel
theorem dX6_spanOf_14 : decode cX6_spanOf 14 = .ok (.istore 4, 2) := by decide +kernel
theorem dX6_spanOf_16 : decode cX6_spanOf 16 = .ok (.iload 4, 2) := by decide +kernel
theorem dX6_spanOf_18 : decode cX6_spanOf 18 = .ok (.aload_n 0, 1) := by decide +kernel
theorem dX6_spanOf_19 : decode cX6_spanOf 19 = .ok (.getfield 14, 3) := by decide +kernel
theorem dX6_spanOf_22 : decode cX6_spanOf 22 = .ok (.if_icmp .ge 59, 3) := by decide +kernel
theorem dX6_spanOf_25 : decode cX6_spanOf 25 = .ok (.iconst 0, 1) := by decide +kernel
theorem dX6_spanOf_26 : decode cX6_spanOf 26 = .ok (.istore 5, 2) := by decide +kernel
theorem dX6_spanOf_28 : decode cX6_spanOf 28 = .ok (.iload 5, 2) := by decide +kernel
theorem dX6_spanOf_30 : decode cX6_spanOf 30 = .ok (.aload_n 0, 1) := by decide +kernel
theorem dX6_spanOf_31 : decode cX6_spanOf 31 = .ok (.getfield 14, 3) := by decide +kernel
theorem dX6_spanOf_34 : decode cX6_spanOf 34 = .ok (.if_icmp .ge 41, 3) := by decide +kernel
theorem dX6_spanOf_37 : decode cX6_spanOf 37 = .ok (.iload_n 2, 1) := by decide +kernel
theorem dX6_spanOf_38 : decode cX6_spanOf 38 = .ok (.iload_n 3, 1) := by decide +kernel
theorem dX6_spanOf_39 : decode cX6_spanOf 39 = .ok (.iload 4, 2) := by decide +kernel
theorem dX6_spanOf_41 : decode cX6_spanOf 41 = .ok (.ishr, 1) := by decide +kernel
theorem dX6_spanOf_42 : decode cX6_spanOf 42 = .ok (.iload_n 3, 1) := by decide +kernel
theorem dX6_spanOf_43 : decode cX6_spanOf 43 = .ok (.iload 5, 2) := by decide +kernel
theorem dX6_spanOf_45 : decode cX6_spanOf 45 = .ok (.ishr, 1) := by decide +kernel
theorem dX6_spanOf_46 : decode cX6_spanOf 46 = .ok (.iand, 1) := by decide +kernel
theorem dX6_spanOf_47 : decode cX6_spanOf 47 = .ok (.iconst 1, 1) := by decide +kernel
theorem dX6_spanOf_48 : decode cX6_spanOf 48 = .ok (.iand, 1) := by decide +kernel
theorem dX6_spanOf_49 : decode cX6_spanOf 49 = .ok (.iconst 1, 1) := by decide +kernel
theorem dX6_spanOf_50 : decode cX6_spanOf 50 = .ok (.if_icmp .ne 16, 3) := by decide +kernel
theorem dX6_spanOf_53 : decode cX6_spanOf 53 = .ok (.iconst 1, 1) := by decide +kernel
theorem dX6_spanOf_54 : decode cX6_spanOf 54 = .ok (.aload_n 0, 1) := by decide +kernel
theorem dX6_spanOf_55 : decode cX6_spanOf 55 = .ok (.iload 4, 2) := by decide +kernel
theorem dX6_spanOf_57 : decode cX6_spanOf 57 = .ok (.iload 5, 2) := by decide +kernel
theorem dX6_spanOf_59 : decode cX6_spanOf 59 = .ok (.invokevirtual 31, 3) := by decide +kernel
theorem dX6_spanOf_62 : decode cX6_spanOf 62 = .ok (.ishl, 1) := by decide +kernel
theorem dX6_spanOf_63 : decode cX6_spanOf 63 = .ok (.goto 4, 3) := by decide +kernel
theorem dX6_spanOf_66 : decode cX6_spanOf 66 = .ok (.iconst 0, 1) := by decide +kernel
theorem dX6_spanOf_67 : decode cX6_spanOf 67 = .ok (.ior, 1) := by decide +kernel
theorem dX6_spanOf_68 : decode cX6_spanOf 68 = .ok (.istore_n 2, 1) := by decide +kernel
theorem dX6_spanOf_69 : decode cX6_spanOf 69 = .ok (.iinc 5 1, 3) := by decide +kernel
theorem dX6_spanOf_72 : decode cX6_spanOf 72 = .ok (.goto (-44), 3) := by decide +kernel
theorem dX6_spanOf_75 : decode cX6_spanOf 75 = .ok (.iinc 4 1, 3) := by decide +kernel
theorem dX6_spanOf_78 : decode cX6_spanOf 78 = .ok (.goto (-62), 3) := by decide +kernel
theorem dX6_spanOf_81 : decode cX6_spanOf 81 = .ok (.goto (-75), 3) := by decide +kernel
theorem dX6_spanOf_84 : decode cX6_spanOf 84 = .ok (.iload_n 2, 1) := by decide +kernel
theorem dX6_spanOf_85 : decode cX6_spanOf 85 = .ok (.ireturn, 1) := by decide +kernel
theorem dX6_isSet_0 : decode cX6_isSet 0 = .ok (.iload_n 1, 1) := by decide +kernel
theorem dX6_isSet_1 : decode cX6_isSet 1 = .ok (.iconst 0, 1) := by decide +kernel
theorem dX6_isSet_2 : decode cX6_isSet 2 = .ok (.iconst 1, 1) := by decide +kernel
theorem dX6_isSet_3 : decode cX6_isSet 3 = .ok (.aload_n 0, 1) := by decide +kernel
theorem dX6_isSet_4 : decode cX6_isSet 4 = .ok (.getfield 14, 3) := by decide +kernel
theorem dX6_isSet_7 : decode cX6_isSet 7 = .ok (.ishl, 1) := by decide +kernel
theorem dX6_isSet_8 : decode cX6_isSet 8 = .ok (.iconst 1, 1) := by decide +kernel
theorem dX6_isSet_9 : decode cX6_isSet 9 = .ok (.isub, 1) := by decide +kernel
theorem dX6_isSet_10 : decode cX6_isSet 10 = .ok (.invokestatic 38, 3) := by decide +kernel
theorem dX6_isSet_13 : decode cX6_isSet 13 = .ok (.ireturn, 1) := by decide +kernel
theorem dX6_isSubgroup_0 : decode cX6_isSubgroup 0 = .ok (.aload_n 0, 1) := by decide +kernel
theorem dX6_isSubgroup_1 : decode cX6_isSubgroup 1 = .ok (.iload_n 1, 1) := by decide +kernel
theorem dX6_isSubgroup_2 : decode cX6_isSubgroup 2 = .ok (.invokevirtual 42, 3) := by decide +kernel
theorem dX6_isSubgroup_5 : decode cX6_isSubgroup 5 = .ok (.ifCond .eq 16, 3) := by decide +kernel
theorem dX6_isSubgroup_8 : decode cX6_isSubgroup 8 = .ok (.aload_n 0, 1) := by decide +kernel
theorem dX6_isSubgroup_9 : decode cX6_isSubgroup 9 = .ok (.iload_n 1, 1) := by decide +kernel
theorem dX6_isSubgroup_10 : decode cX6_isSubgroup 10 = .ok (.invokevirtual 46, 3) := by decide +kernel
theorem dX6_isSubgroup_13 : decode cX6_isSubgroup 13 = .ok (.iload_n 1, 1) := by decide +kernel
theorem dX6_isSubgroup_14 : decode cX6_isSubgroup 14 = .ok (.if_icmp .ne 7, 3) := by decide +kernel
theorem dX6_isSubgroup_17 : decode cX6_isSubgroup 17 = .ok (.iconst 1, 1) := by decide +kernel
theorem dX6_isSubgroup_18 : decode cX6_isSubgroup 18 = .ok (.goto 4, 3) := by decide +kernel
theorem dX6_isSubgroup_21 : decode cX6_isSubgroup 21 = .ok (.iconst 0, 1) := by decide +kernel
theorem dX6_isSubgroup_22 : decode cX6_isSubgroup 22 = .ok (.ireturn, 1) := by decide +kernel
theorem dX6_isNormal_0 : decode cX6_isNormal 0 = .ok (.iconst 0, 1) := by decide +kernel
theorem dX6_isNormal_1 : decode cX6_isNormal 1 = .ok (.istore_n 2, 1) := by decide +kernel
theorem dX6_isNormal_2 : decode cX6_isNormal 2 = .ok (.iload_n 2, 1) := by decide +kernel
theorem dX6_isNormal_3 : decode cX6_isNormal 3 = .ok (.aload_n 0, 1) := by decide +kernel
theorem dX6_isNormal_4 : decode cX6_isNormal 4 = .ok (.getfield 14, 3) := by decide +kernel
theorem dX6_isNormal_7 : decode cX6_isNormal 7 = .ok (.if_icmp .ge 49, 3) := by decide +kernel
theorem dX6_isNormal_10 : decode cX6_isNormal 10 = .ok (.iconst 0, 1) := by decide +kernel
theorem dX6_isNormal_11 : decode cX6_isNormal 11 = .ok (.istore_n 3, 1) := by decide +kernel
theorem dX6_isNormal_12 : decode cX6_isNormal 12 = .ok (.iload_n 3, 1) := by decide +kernel
theorem dX6_isNormal_13 : decode cX6_isNormal 13 = .ok (.aload_n 0, 1) := by decide +kernel
theorem dX6_isNormal_14 : decode cX6_isNormal 14 = .ok (.getfield 14, 3) := by decide +kernel
theorem dX6_isNormal_17 : decode cX6_isNormal 17 = .ok (.if_icmp .ge 33, 3) := by decide +kernel
theorem dX6_isNormal_20 : decode cX6_isNormal 20 = .ok (.iload_n 1, 1) := by decide +kernel
theorem dX6_isNormal_21 : decode cX6_isNormal 21 = .ok (.iload_n 2, 1) := by decide +kernel
theorem dX6_isNormal_22 : decode cX6_isNormal 22 = .ok (.ishr, 1) := by decide +kernel
theorem dX6_isNormal_23 : decode cX6_isNormal 23 = .ok (.iconst 1, 1) := by decide +kernel
theorem dX6_isNormal_24 : decode cX6_isNormal 24 = .ok (.iand, 1) := by decide +kernel
theorem dX6_isNormal_25 : decode cX6_isNormal 25 = .ok (.iconst 1, 1) := by decide +kernel
theorem dX6_isNormal_26 : decode cX6_isNormal 26 = .ok (.if_icmp .ne 18, 3) := by decide +kernel
theorem dX6_isNormal_29 : decode cX6_isNormal 29 = .ok (.iload_n 1, 1) := by decide +kernel
theorem dX6_isNormal_30 : decode cX6_isNormal 30 = .ok (.aload_n 0, 1) := by decide +kernel
theorem dX6_isNormal_31 : decode cX6_isNormal 31 = .ok (.iload_n 2, 1) := by decide +kernel
theorem dX6_isNormal_32 : decode cX6_isNormal 32 = .ok (.iload_n 3, 1) := by decide +kernel
theorem dX6_isNormal_33 : decode cX6_isNormal 33 = .ok (.invokevirtual 49, 3) := by decide +kernel
theorem dX6_isNormal_36 : decode cX6_isNormal 36 = .ok (.ishr, 1) := by decide +kernel
theorem dX6_isNormal_37 : decode cX6_isNormal 37 = .ok (.iconst 1, 1) := by decide +kernel
theorem dX6_isNormal_38 : decode cX6_isNormal 38 = .ok (.iand, 1) := by decide +kernel
theorem dX6_isNormal_39 : decode cX6_isNormal 39 = .ok (.ifCond .ne 5, 3) := by decide +kernel
theorem dX6_isNormal_42 : decode cX6_isNormal 42 = .ok (.iconst 0, 1) := by decide +kernel
theorem dX6_isNormal_43 : decode cX6_isNormal 43 = .ok (.ireturn, 1) := by decide +kernel
theorem dX6_isNormal_44 : decode cX6_isNormal 44 = .ok (.iinc 3 1, 3) := by decide +kernel
theorem dX6_isNormal_47 : decode cX6_isNormal 47 = .ok (.goto (-35), 3) := by decide +kernel
theorem dX6_isNormal_50 : decode cX6_isNormal 50 = .ok (.iinc 2 1, 3) := by decide +kernel
theorem dX6_isNormal_53 : decode cX6_isNormal 53 = .ok (.goto (-51), 3) := by decide +kernel
theorem dX6_isNormal_56 : decode cX6_isNormal 56 = .ok (.iconst 1, 1) := by decide +kernel
theorem dX6_isNormal_57 : decode cX6_isNormal 57 = .ok (.ireturn, 1) := by decide +kernel
theorem dX6_ones_0 : decode cX6_ones 0 = .ok (.iconst 0, 1) := by decide +kernel
theorem dX6_ones_1 : decode cX6_ones 1 = .ok (.istore_n 1, 1) := by decide +kernel
theorem dX6_ones_2 : decode cX6_ones 2 = .ok (.iload_n 0, 1) := by decide +kernel
theorem dX6_ones_3 : decode cX6_ones 3 = .ok (.istore_n 2, 1) := by decide +kernel
theorem dX6_ones_4 : decode cX6_ones 4 = .ok (.iload_n 2, 1) := by decide +kernel
theorem dX6_ones_5 : decode cX6_ones 5 = .ok (.ifCond .le 16, 3) := by decide +kernel
theorem dX6_ones_8 : decode cX6_ones 8 = .ok (.iload_n 1, 1) := by decide +kernel
theorem dX6_ones_9 : decode cX6_ones 9 = .ok (.iload_n 2, 1) := by decide +kernel
theorem dX6_ones_10 : decode cX6_ones 10 = .ok (.iconst 2, 1) := by decide +kernel
theorem dX6_ones_11 : decode cX6_ones 11 = .ok (.irem, 1) := by decide +kernel
theorem dX6_ones_12 : decode cX6_ones 12 = .ok (.iadd, 1) := by decide +kernel
theorem dX6_ones_13 : decode cX6_ones 13 = .ok (.istore_n 1, 1) := by decide +kernel
theorem dX6_ones_14 : decode cX6_ones 14 = .ok (.iload_n 2, 1) := by decide +kernel
theorem dX6_ones_15 : decode cX6_ones 15 = .ok (.iconst 2, 1) := by decide +kernel
theorem dX6_ones_16 : decode cX6_ones 16 = .ok (.idiv, 1) := by decide +kernel
theorem dX6_ones_17 : decode cX6_ones 17 = .ok (.istore_n 2, 1) := by decide +kernel
theorem dX6_ones_18 : decode cX6_ones 18 = .ok (.goto (-14), 3) := by decide +kernel
theorem dX6_ones_21 : decode cX6_ones 21 = .ok (.iload_n 1, 1) := by decide +kernel
theorem dX6_ones_22 : decode cX6_ones 22 = .ok (.ireturn, 1) := by decide +kernel
theorem dX6_init_0 : decode cX6_init 0 = .ok (.aload_n 0, 1) := by decide +kernel
theorem dX6_init_1 : decode cX6_init 1 = .ok (.invokespecial 52, 3) := by decide +kernel
theorem dX6_init_4 : decode cX6_init 4 = .ok (.aload_n 0, 1) := by decide +kernel
theorem dX6_init_5 : decode cX6_init 5 = .ok (.iconst 1, 1) := by decide +kernel
theorem dX6_init_6 : decode cX6_init 6 = .ok (.putfield 1, 3) := by decide +kernel
theorem dX6_init_9 : decode cX6_init 9 = .ok (.aload_n 0, 1) := by decide +kernel
theorem dX6_init_10 : decode cX6_init 10 = .ok (.iconst 1, 1) := by decide +kernel
theorem dX6_init_11 : decode cX6_init 11 = .ok (.putfield 14, 3) := by decide +kernel
theorem dX6_init_14 : decode cX6_init 14 = .ok (.aload_n 0, 1) := by decide +kernel
theorem dX6_init_15 : decode cX6_init 15 = .ok (.bipush 64, 2) := by decide +kernel
theorem dX6_init_17 : decode cX6_init 17 = .ok (.newarray .int, 2) := by decide +kernel
theorem dX6_init_19 : decode cX6_init 19 = .ok (.putfield 23, 3) := by decide +kernel
theorem dX6_init_22 : decode cX6_init 22 = .ok (.aload_n 0, 1) := by decide +kernel
theorem dX6_init_23 : decode cX6_init 23 = .ok (.iconst 4, 1) := by decide +kernel
theorem dX6_init_24 : decode cX6_init 24 = .ok (.newarray .int, 2) := by decide +kernel
theorem dX6_init_26 : decode cX6_init 26 = .ok (.putfield 58, 3) := by decide +kernel
theorem dX6_init_29 : decode cX6_init 29 = .ok (.aload_n 0, 1) := by decide +kernel
theorem dX6_init_30 : decode cX6_init 30 = .ok (.sipush 10000, 3) := by decide +kernel
theorem dX6_init_33 : decode cX6_init 33 = .ok (.newarray .int, 2) := by decide +kernel
theorem dX6_init_35 : decode cX6_init 35 = .ok (.putfield 61, 3) := by decide +kernel
theorem dX6_init_38 : decode cX6_init 38 = .ok (.aload_n 0, 1) := by decide +kernel
theorem dX6_init_39 : decode cX6_init 39 = .ok (.sipush 10000, 3) := by decide +kernel
theorem dX6_init_42 : decode cX6_init 42 = .ok (.newarray .int, 2) := by decide +kernel
theorem dX6_init_44 : decode cX6_init 44 = .ok (.putfield 64, 3) := by decide +kernel
theorem dX6_init_47 : decode cX6_init 47 = .ok (.aload_n 0, 1) := by decide +kernel
theorem dX6_init_48 : decode cX6_init 48 = .ok (.sipush 10000, 3) := by decide +kernel
theorem dX6_init_51 : decode cX6_init 51 = .ok (.newarray .int, 2) := by decide +kernel
theorem dX6_init_53 : decode cX6_init 53 = .ok (.putfield 67, 3) := by decide +kernel
theorem dX6_init_56 : decode cX6_init 56 = .ok (.aload_n 0, 1) := by decide +kernel
theorem dX6_init_57 : decode cX6_init 57 = .ok (.sipush 10000, 3) := by decide +kernel
theorem dX6_init_60 : decode cX6_init 60 = .ok (.newarray .int, 2) := by decide +kernel
theorem dX6_init_62 : decode cX6_init 62 = .ok (.putfield 70, 3) := by decide +kernel
theorem dX6_init_65 : decode cX6_init 65 = .ok (.aload_n 0, 1) := by decide +kernel
theorem dX6_init_66 : decode cX6_init 66 = .ok (.sipush 10000, 3) := by decide +kernel
theorem dX6_init_69 : decode cX6_init 69 = .ok (.newarray .int, 2) := by decide +kernel
theorem dX6_init_71 : decode cX6_init 71 = .ok (.putfield 73, 3) := by decide +kernel
theorem dX6_init_74 : decode cX6_init 74 = .ok (.aload_n 0, 1) := by decide +kernel
theorem dX6_init_75 : decode cX6_init 75 = .ok (.iconst 4, 1) := by decide +kernel
theorem dX6_init_76 : decode cX6_init 76 = .ok (.newarray .int, 2) := by decide +kernel
theorem dX6_init_78 : decode cX6_init 78 = .ok (.dup, 1) := by decide +kernel
theorem dX6_init_79 : decode cX6_init 79 = .ok (.iconst 0, 1) := by decide +kernel
theorem dX6_init_80 : decode cX6_init 80 = .ok (.iconst (-1), 1) := by decide +kernel
theorem dX6_init_81 : decode cX6_init 81 = .ok (.iastore, 1) := by decide +kernel
theorem dX6_init_82 : decode cX6_init 82 = .ok (.dup, 1) := by decide +kernel
theorem dX6_init_83 : decode cX6_init 83 = .ok (.iconst 1, 1) := by decide +kernel
theorem dX6_init_84 : decode cX6_init 84 = .ok (.iconst (-1), 1) := by decide +kernel
theorem dX6_init_85 : decode cX6_init 85 = .ok (.iastore, 1) := by decide +kernel
theorem dX6_init_86 : decode cX6_init 86 = .ok (.dup, 1) := by decide +kernel
theorem dX6_init_87 : decode cX6_init 87 = .ok (.iconst 2, 1) := by decide +kernel
theorem dX6_init_88 : decode cX6_init 88 = .ok (.iconst (-1), 1) := by decide +kernel
theorem dX6_init_89 : decode cX6_init 89 = .ok (.iastore, 1) := by decide +kernel
theorem dX6_init_90 : decode cX6_init 90 = .ok (.dup, 1) := by decide +kernel
theorem dX6_init_91 : decode cX6_init 91 = .ok (.iconst 3, 1) := by decide +kernel
theorem dX6_init_92 : decode cX6_init 92 = .ok (.iconst (-1), 1) := by decide +kernel
theorem dX6_init_93 : decode cX6_init 93 = .ok (.iastore, 1) := by decide +kernel
theorem dX6_init_94 : decode cX6_init 94 = .ok (.putfield 76, 3) := by decide +kernel
theorem dX6_init_97 : decode cX6_init 97 = .ok (.aload_n 0, 1) := by decide +kernel
theorem dX6_init_98 : decode cX6_init 98 = .ok (.iconst 4, 1) := by decide +kernel
theorem dX6_init_99 : decode cX6_init 99 = .ok (.newarray .int, 2) := by decide +kernel
theorem dX6_init_101 : decode cX6_init 101 = .ok (.putfield 79, 3) := by decide +kernel
theorem dX6_init_104 : decode cX6_init 104 = .ok (.aload_n 0, 1) := by decide +kernel
theorem dX6_init_105 : decode cX6_init 105 = .ok (.iconst 4, 1) := by decide +kernel
theorem dX6_init_106 : decode cX6_init 106 = .ok (.newarray .int, 2) := by decide +kernel
theorem dX6_init_108 : decode cX6_init 108 = .ok (.putfield 82, 3) := by decide +kernel
theorem dX6_init_111 : decode cX6_init 111 = .ok (.aload_n 0, 1) := by decide +kernel
theorem dX6_init_112 : decode cX6_init 112 = .ok (.iconst 4, 1) := by decide +kernel
theorem dX6_init_113 : decode cX6_init 113 = .ok (.newarray .int, 2) := by decide +kernel
theorem dX6_init_115 : decode cX6_init 115 = .ok (.putfield 85, 3) := by decide +kernel
theorem dX6_init_118 : decode cX6_init 118 = .ok (.aload_n 0, 1) := by decide +kernel
theorem dX6_init_119 : decode cX6_init 119 = .ok (.bipush 16, 2) := by decide +kernel
theorem dX6_init_121 : decode cX6_init 121 = .ok (.newarray .int, 2) := by decide +kernel
theorem dX6_init_123 : decode cX6_init 123 = .ok (.putfield 88, 3) := by decide +kernel
theorem dX6_init_126 : decode cX6_init 126 = .ok (.aload_n 0, 1) := by decide +kernel
theorem dX6_init_127 : decode cX6_init 127 = .ok (.iconst 4, 1) := by decide +kernel
theorem dX6_init_128 : decode cX6_init 128 = .ok (.newarray .int, 2) := by decide +kernel
theorem dX6_init_130 : decode cX6_init 130 = .ok (.putfield 91, 3) := by decide +kernel
theorem dX6_init_133 : decode cX6_init 133 = .ok (.aload_n 0, 1) := by decide +kernel
theorem dX6_init_134 : decode cX6_init 134 = .ok (.iconst 4, 1) := by decide +kernel
theorem dX6_init_135 : decode cX6_init 135 = .ok (.newarray .int, 2) := by decide +kernel
theorem dX6_init_137 : decode cX6_init 137 = .ok (.putfield 94, 3) := by decide +kernel
theorem dX6_init_140 : decode cX6_init 140 = .ok (.aload_n 0, 1) := by decide +kernel
theorem dX6_init_141 : decode cX6_init 141 = .ok (.iconst 4, 1) := by decide +kernel
theorem dX6_init_142 : decode cX6_init 142 = .ok (.newarray .int, 2) := by decide +kernel
theorem dX6_init_144 : decode cX6_init 144 = .ok (.putfield 97, 3) := by decide +kernel
theorem dX6_init_147 : decode cX6_init 147 = .ok (.aload_n 0, 1) := by decide +kernel
theorem dX6_init_148 : decode cX6_init 148 = .ok (.iconst 4, 1) := by decide +kernel
theorem dX6_init_149 : decode cX6_init 149 = .ok (.newarray .int, 2) := by decide +kernel
theorem dX6_init_151 : decode cX6_init 151 = .ok (.putfield 100, 3) := by decide +kernel
theorem dX6_init_154 : decode cX6_init 154 = .ok (.aload_n 0, 1) := by decide +kernel
theorem dX6_init_155 : decode cX6_init 155 = .ok (.iconst 4, 1) := by decide +kernel
theorem dX6_init_156 : decode cX6_init 156 = .ok (.newarray .int, 2) := by decide +kernel
theorem dX6_init_158 : decode cX6_init 158 = .ok (.putfield 103, 3) := by decide +kernel
theorem dX6_init_161 : decode cX6_init 161 = .ok (.aload_n 0, 1) := by decide +kernel
theorem dX6_init_162 : decode cX6_init 162 = .ok (.bipush 16, 2) := by decide +kernel
theorem dX6_init_164 : decode cX6_init 164 = .ok (.newarray .int, 2) := by decide +kernel
theorem dX6_init_166 : decode cX6_init 166 = .ok (.putfield 106, 3) := by decide +kernel
theorem dX6_init_169 : decode cX6_init 169 = .ok (.aload_n 0, 1) := by decide +kernel
theorem dX6_init_170 : decode cX6_init 170 = .ok (.iconst 4, 1) := by decide +kernel
theorem dX6_init_171 : decode cX6_init 171 = .ok (.newarray .int, 2) := by decide +kernel
theorem dX6_init_173 : decode cX6_init 173 = .ok (.putfield 109, 3) := by decide +kernel
theorem dX6_init_176 : decode cX6_init 176 = .ok (.aload_n 0, 1) := by decide +kernel
theorem dX6_init_177 : decode cX6_init 177 = .ok (.invokevirtual 112, 3) := by decide +kernel
theorem dX6_init_180 : decode cX6_init 180 = .ok (.return_, 1) := by decide +kernel
theorem dX6_group_0 : decode cX6_group 0 = .ok (.iload_n 1, 1) := by decide +kernel
theorem dX6_group_1 : decode cX6_group 1 = .ok (.ifCond .ne 8, 3) := by decide +kernel
theorem dX6_group_4 : decode cX6_group 4 = .ok (.bipush 8, 2) := by decide +kernel
theorem dX6_group_6 : decode cX6_group 6 = .ok (.goto 22, 3) := by decide +kernel
theorem dX6_group_9 : decode cX6_group 9 = .ok (.iload_n 1, 1) := by decide +kernel
theorem dX6_group_10 : decode cX6_group 10 = .ok (.iconst 1, 1) := by decide +kernel
theorem dX6_group_11 : decode cX6_group 11 = .ok (.if_icmp .ne 7, 3) := by decide +kernel
theorem dX6_group_14 : decode cX6_group 14 = .ok (.iconst 4, 1) := by decide +kernel
theorem dX6_group_15 : decode cX6_group 15 = .ok (.goto 13, 3) := by decide +kernel
theorem dX6_group_18 : decode cX6_group 18 = .ok (.iload_n 1, 1) := by decide +kernel
theorem dX6_group_19 : decode cX6_group 19 = .ok (.iconst 2, 1) := by decide +kernel
theorem dX6_group_20 : decode cX6_group 20 = .ok (.if_icmp .ne 7, 3) := by decide +kernel
theorem dX6_group_23 : decode cX6_group 23 = .ok (.iconst 3, 1) := by decide +kernel
theorem dX6_group_24 : decode cX6_group 24 = .ok (.goto 4, 3) := by decide +kernel
theorem dX6_group_27 : decode cX6_group 27 = .ok (.iconst 1, 1) := by decide +kernel
theorem dX6_group_28 : decode cX6_group 28 = .ok (.istore_n 3, 1) := by decide +kernel
theorem dX6_group_29 : decode cX6_group 29 = .ok (.iload_n 1, 1) := by decide +kernel
theorem dX6_group_30 : decode cX6_group 30 = .ok (.iconst 0, 1) := by decide +kernel
theorem dX6_group_31 : decode cX6_group 31 = .ok (.iconst 3, 1) := by decide +kernel
theorem dX6_group_32 : decode cX6_group 32 = .ok (.invokestatic 38, 3) := by decide +kernel
theorem dX6_group_35 : decode cX6_group 35 = .ok (.ifCond .eq 12, 3) := by decide +kernel
theorem dX6_group_38 : decode cX6_group 38 = .ok (.iload_n 2, 1) := by decide +kernel
theorem dX6_group_39 : decode cX6_group 39 = .ok (.iconst 1, 1) := by decide +kernel
theorem dX6_group_40 : decode cX6_group 40 = .ok (.iload_n 3, 1) := by decide +kernel
theorem dX6_group_41 : decode cX6_group 41 = .ok (.invokestatic 38, 3) := by decide +kernel
theorem dX6_group_44 : decode cX6_group 44 = .ok (.ifCond .ne 6, 3) := by decide +kernel
theorem dX6_group_47 : decode cX6_group 47 = .ok (.bipush (-2), 2) := by decide +kernel
theorem dX6_group_49 : decode cX6_group 49 = .ok (.ireturn, 1) := by decide +kernel
theorem dX6_group_50 : decode cX6_group 50 = .ok (.aload_n 0, 1) := by decide +kernel
theorem dX6_group_51 : decode cX6_group 51 = .ok (.iload_n 1, 1) := by decide +kernel
theorem dX6_group_52 : decode cX6_group 52 = .ok (.putfield 7, 3) := by decide +kernel
theorem dX6_group_55 : decode cX6_group 55 = .ok (.aload_n 0, 1) := by decide +kernel
theorem dX6_group_56 : decode cX6_group 56 = .ok (.iload_n 2, 1) := by decide +kernel
theorem dX6_group_57 : decode cX6_group 57 = .ok (.putfield 1, 3) := by decide +kernel
theorem dX6_group_60 : decode cX6_group 60 = .ok (.aload_n 0, 1) := by decide +kernel
theorem dX6_group_61 : decode cX6_group 61 = .ok (.invokevirtual 112, 3) := by decide +kernel
theorem dX6_group_64 : decode cX6_group 64 = .ok (.aload_n 0, 1) := by decide +kernel
theorem dX6_group_65 : decode cX6_group 65 = .ok (.getfield 14, 3) := by decide +kernel
theorem dX6_group_68 : decode cX6_group 68 = .ok (.ireturn, 1) := by decide +kernel
theorem dX6_isElement_0 : decode cX6_isElement 0 = .ok (.iload_n 1, 1) := by decide +kernel
theorem dX6_isElement_1 : decode cX6_isElement 1 = .ok (.iconst 0, 1) := by decide +kernel
theorem dX6_isElement_2 : decode cX6_isElement 2 = .ok (.aload_n 0, 1) := by decide +kernel
theorem dX6_isElement_3 : decode cX6_isElement 3 = .ok (.getfield 14, 3) := by decide +kernel
theorem dX6_isElement_6 : decode cX6_isElement 6 = .ok (.iconst 1, 1) := by decide +kernel
theorem dX6_isElement_7 : decode cX6_isElement 7 = .ok (.isub, 1) := by decide +kernel
theorem dX6_isElement_8 : decode cX6_isElement 8 = .ok (.invokestatic 38, 3) := by decide +kernel
theorem dX6_isElement_11 : decode cX6_isElement 11 = .ok (.ireturn, 1) := by decide +kernel
theorem dX6_of_0 : decode cX6_of 0 = .ok (.aload_n 0, 1) := by decide +kernel
theorem dX6_of_1 : decode cX6_of 1 = .ok (.iload_n 1, 1) := by decide +kernel
theorem dX6_of_2 : decode cX6_of 2 = .ok (.invokevirtual 115, 3) := by decide +kernel
theorem dX6_of_5 : decode cX6_of 5 = .ok (.ifCond .eq 12, 3) := by decide +kernel
theorem dX6_of_8 : decode cX6_of 8 = .ok (.iload_n 2, 1) := by decide +kernel
theorem dX6_of_9 : decode cX6_of 9 = .ok (.iconst 0, 1) := by decide +kernel
theorem dX6_of_10 : decode cX6_of 10 = .ok (.iconst 2, 1) := by decide +kernel
theorem dX6_of_11 : decode cX6_of 11 = .ok (.invokestatic 38, 3) := by decide +kernel
theorem dX6_of_14 : decode cX6_of 14 = .ok (.ifCond .ne 6, 3) := by decide +kernel
theorem dX6_of_17 : decode cX6_of 17 = .ok (.bipush (-2), 2) := by decide +kernel
theorem dX6_of_19 : decode cX6_of 19 = .ok (.ireturn, 1) := by decide +kernel
theorem dX6_of_20 : decode cX6_of 20 = .ok (.iload_n 2, 1) := by decide +kernel
theorem dX6_of_21 : decode cX6_of 21 = .ok (.ifCond .ne 9, 3) := by decide +kernel
theorem dX6_of_24 : decode cX6_of 24 = .ok (.aload_n 0, 1) := by decide +kernel
theorem dX6_of_25 : decode cX6_of 25 = .ok (.iload_n 1, 1) := by decide +kernel
theorem dX6_of_26 : decode cX6_of 26 = .ok (.invokevirtual 118, 3) := by decide +kernel
theorem dX6_of_29 : decode cX6_of 29 = .ok (.ireturn, 1) := by decide +kernel
theorem dX6_of_30 : decode cX6_of 30 = .ok (.iload_n 2, 1) := by decide +kernel
theorem dX6_of_31 : decode cX6_of 31 = .ok (.iconst 1, 1) := by decide +kernel
theorem dX6_of_32 : decode cX6_of 32 = .ok (.if_icmp .ne 9, 3) := by decide +kernel
theorem dX6_of_35 : decode cX6_of 35 = .ok (.aload_n 0, 1) := by decide +kernel
theorem dX6_of_36 : decode cX6_of 36 = .ok (.iload_n 1, 1) := by decide +kernel
theorem dX6_of_37 : decode cX6_of 37 = .ok (.invokevirtual 34, 3) := by decide +kernel
theorem dX6_of_40 : decode cX6_of 40 = .ok (.ireturn, 1) := by decide +kernel
theorem dX6_of_41 : decode cX6_of 41 = .ok (.iconst 0, 1) := by decide +kernel
theorem dX6_of_42 : decode cX6_of 42 = .ok (.istore_n 3, 1) := by decide +kernel
theorem dX6_of_43 : decode cX6_of 43 = .ok (.iconst 0, 1) := by decide +kernel
theorem dX6_of_44 : decode cX6_of 44 = .ok (.istore 4, 2) := by decide +kernel
theorem dX6_of_46 : decode cX6_of 46 = .ok (.iload 4, 2) := by decide +kernel
theorem dX6_of_48 : decode cX6_of 48 = .ok (.aload_n 0, 1) := by decide +kernel
theorem dX6_of_49 : decode cX6_of 49 = .ok (.getfield 14, 3) := by decide +kernel
theorem dX6_of_52 : decode cX6_of 52 = .ok (.if_icmp .ge 21, 3) := by decide +kernel
theorem dX6_of_55 : decode cX6_of 55 = .ok (.iload_n 3, 1) := by decide +kernel
theorem dX6_of_56 : decode cX6_of 56 = .ok (.iconst 1, 1) := by decide +kernel
theorem dX6_of_57 : decode cX6_of 57 = .ok (.aload_n 0, 1) := by decide +kernel
theorem dX6_of_58 : decode cX6_of 58 = .ok (.iload_n 1, 1) := by decide +kernel
theorem dX6_of_59 : decode cX6_of 59 = .ok (.iload 4, 2) := by decide +kernel
theorem dX6_of_61 : decode cX6_of 61 = .ok (.invokevirtual 49, 3) := by decide +kernel
theorem dX6_of_64 : decode cX6_of 64 = .ok (.ishl, 1) := by decide +kernel
theorem dX6_of_65 : decode cX6_of 65 = .ok (.ior, 1) := by decide +kernel
theorem dX6_of_66 : decode cX6_of 66 = .ok (.istore_n 3, 1) := by decide +kernel
theorem dX6_of_67 : decode cX6_of 67 = .ok (.iinc 4 1, 3) := by decide +kernel
theorem dX6_of_70 : decode cX6_of 70 = .ok (.goto (-24), 3) := by decide +kernel
theorem dX6_of_73 : decode cX6_of 73 = .ok (.iload_n 3, 1) := by decide +kernel
theorem dX6_of_74 : decode cX6_of 74 = .ok (.invokestatic 121, 3) := by decide +kernel
theorem dX6_of_77 : decode cX6_of 77 = .ok (.ireturn, 1) := by decide +kernel
theorem dX6_times_0 : decode cX6_times 0 = .ok (.aload_n 0, 1) := by decide +kernel
theorem dX6_times_1 : decode cX6_times 1 = .ok (.iload_n 1, 1) := by decide +kernel
theorem dX6_times_2 : decode cX6_times 2 = .ok (.invokevirtual 115, 3) := by decide +kernel
theorem dX6_times_5 : decode cX6_times 5 = .ok (.ifCond .eq 20, 3) := by decide +kernel
theorem dX6_times_8 : decode cX6_times 8 = .ok (.aload_n 0, 1) := by decide +kernel
theorem dX6_times_9 : decode cX6_times 9 = .ok (.iload_n 2, 1) := by decide +kernel
theorem dX6_times_10 : decode cX6_times 10 = .ok (.invokevirtual 115, 3) := by decide +kernel
theorem dX6_times_13 : decode cX6_times 13 = .ok (.ifCond .eq 12, 3) := by decide +kernel
theorem dX6_times_16 : decode cX6_times 16 = .ok (.aload_n 0, 1) := by decide +kernel
theorem dX6_times_17 : decode cX6_times 17 = .ok (.iload_n 1, 1) := by decide +kernel
theorem dX6_times_18 : decode cX6_times 18 = .ok (.iload_n 2, 1) := by decide +kernel
theorem dX6_times_19 : decode cX6_times 19 = .ok (.invokevirtual 31, 3) := by decide +kernel
theorem dX6_times_22 : decode cX6_times 22 = .ok (.goto 5, 3) := by decide +kernel
theorem dX6_times_25 : decode cX6_times 25 = .ok (.bipush (-2), 2) := by decide +kernel
theorem dX6_times_27 : decode cX6_times 27 = .ok (.ireturn, 1) := by decide +kernel
theorem dX6_power_0 : decode cX6_power 0 = .ok (.aload_n 0, 1) := by decide +kernel
theorem dX6_power_1 : decode cX6_power 1 = .ok (.iload_n 1, 1) := by decide +kernel
theorem dX6_power_2 : decode cX6_power 2 = .ok (.invokevirtual 115, 3) := by decide +kernel
theorem dX6_power_5 : decode cX6_power 5 = .ok (.ifCond .eq 13, 3) := by decide +kernel
theorem dX6_power_8 : decode cX6_power 8 = .ok (.iload_n 2, 1) := by decide +kernel
theorem dX6_power_9 : decode cX6_power 9 = .ok (.iconst 0, 1) := by decide +kernel
theorem dX6_power_10 : decode cX6_power 10 = .ok (.bipush 99, 2) := by decide +kernel
theorem dX6_power_12 : decode cX6_power 12 = .ok (.invokestatic 38, 3) := by decide +kernel
theorem dX6_power_15 : decode cX6_power 15 = .ok (.ifCond .ne 6, 3) := by decide +kernel
theorem dX6_power_18 : decode cX6_power 18 = .ok (.bipush (-2), 2) := by decide +kernel
theorem dX6_power_20 : decode cX6_power 20 = .ok (.ireturn, 1) := by decide +kernel
theorem dX6_power_21 : decode cX6_power 21 = .ok (.iconst 0, 1) := by decide +kernel
theorem dX6_power_22 : decode cX6_power 22 = .ok (.istore_n 3, 1) := by decide +kernel
theorem dX6_power_23 : decode cX6_power 23 = .ok (.iconst 0, 1) := by decide +kernel
theorem dX6_power_24 : decode cX6_power 24 = .ok (.istore 4, 2) := by decide +kernel
theorem dX6_power_26 : decode cX6_power 26 = .ok (.iload 4, 2) := by decide +kernel
theorem dX6_power_28 : decode cX6_power 28 = .ok (.iload_n 2, 1) := by decide +kernel
theorem dX6_power_29 : decode cX6_power 29 = .ok (.if_icmp .ge 16, 3) := by decide +kernel
theorem dX6_power_32 : decode cX6_power 32 = .ok (.aload_n 0, 1) := by decide +kernel
theorem dX6_power_33 : decode cX6_power 33 = .ok (.iload_n 3, 1) := by decide +kernel
theorem dX6_power_34 : decode cX6_power 34 = .ok (.iload_n 1, 1) := by decide +kernel
theorem dX6_power_35 : decode cX6_power 35 = .ok (.invokevirtual 31, 3) := by decide +kernel
theorem dX6_power_38 : decode cX6_power 38 = .ok (.istore_n 3, 1) := by decide +kernel
theorem dX6_power_39 : decode cX6_power 39 = .ok (.iinc 4 1, 3) := by decide +kernel
theorem dX6_power_42 : decode cX6_power 42 = .ok (.goto (-16), 3) := by decide +kernel
theorem dX6_power_45 : decode cX6_power 45 = .ok (.iload_n 3, 1) := by decide +kernel
theorem dX6_power_46 : decode cX6_power 46 = .ok (.ireturn, 1) := by decide +kernel
theorem dX6_conjugate_0 : decode cX6_conjugate 0 = .ok (.aload_n 0, 1) := by decide +kernel
theorem dX6_conjugate_1 : decode cX6_conjugate 1 = .ok (.iload_n 1, 1) := by decide +kernel
theorem dX6_conjugate_2 : decode cX6_conjugate 2 = .ok (.invokevirtual 115, 3) := by decide +kernel
theorem dX6_conjugate_5 : decode cX6_conjugate 5 = .ok (.ifCond .eq 20, 3) := by decide +kernel
theorem dX6_conjugate_8 : decode cX6_conjugate 8 = .ok (.aload_n 0, 1) := by decide +kernel
theorem dX6_conjugate_9 : decode cX6_conjugate 9 = .ok (.iload_n 2, 1) := by decide +kernel
theorem dX6_conjugate_10 : decode cX6_conjugate 10 = .ok (.invokevirtual 115, 3) := by decide +kernel
theorem dX6_conjugate_13 : decode cX6_conjugate 13 = .ok (.ifCond .eq 12, 3) := by decide +kernel
theorem dX6_conjugate_16 : decode cX6_conjugate 16 = .ok (.aload_n 0, 1) := by decide +kernel
theorem dX6_conjugate_17 : decode cX6_conjugate 17 = .ok (.iload_n 1, 1) := by decide +kernel
theorem dX6_conjugate_18 : decode cX6_conjugate 18 = .ok (.iload_n 2, 1) := by decide +kernel
theorem dX6_conjugate_19 : decode cX6_conjugate 19 = .ok (.invokevirtual 49, 3) := by decide +kernel
theorem dX6_conjugate_22 : decode cX6_conjugate 22 = .ok (.goto 5, 3) := by decide +kernel
theorem dX6_conjugate_25 : decode cX6_conjugate 25 = .ok (.bipush (-2), 2) := by decide +kernel
theorem dX6_conjugate_27 : decode cX6_conjugate 27 = .ok (.ireturn, 1) := by decide +kernel
theorem dX6_span_0 : decode cX6_span 0 = .ok (.aload_n 0, 1) := by decide +kernel
theorem dX6_span_1 : decode cX6_span 1 = .ok (.iload_n 1, 1) := by decide +kernel
theorem dX6_span_2 : decode cX6_span 2 = .ok (.invokevirtual 42, 3) := by decide +kernel
theorem dX6_span_5 : decode cX6_span 5 = .ok (.ifCond .eq 11, 3) := by decide +kernel
theorem dX6_span_8 : decode cX6_span 8 = .ok (.aload_n 0, 1) := by decide +kernel
theorem dX6_span_9 : decode cX6_span 9 = .ok (.iload_n 1, 1) := by decide +kernel
theorem dX6_span_10 : decode cX6_span 10 = .ok (.invokevirtual 46, 3) := by decide +kernel
theorem dX6_span_13 : decode cX6_span 13 = .ok (.goto 5, 3) := by decide +kernel
theorem dX6_span_16 : decode cX6_span 16 = .ok (.bipush (-2), 2) := by decide +kernel
theorem dX6_span_18 : decode cX6_span 18 = .ok (.ireturn, 1) := by decide +kernel
theorem dX6_subgroup_0 : decode cX6_subgroup 0 = .ok (.iconst 0, 1) := by decide +kernel
theorem dX6_subgroup_1 : decode cX6_subgroup 1 = .ok (.istore_n 2, 1) := by decide +kernel
theorem dX6_subgroup_2 : decode cX6_subgroup 2 = .ok (.iconst 0, 1) := by decide +kernel
theorem dX6_subgroup_3 : decode cX6_subgroup 3 = .ok (.istore_n 3, 1) := by decide +kernel
theorem dX6_subgroup_4 : decode cX6_subgroup 4 = .ok (.iload_n 3, 1) := by decide +kernel
theorem dX6_subgroup_5 : decode cX6_subgroup 5 = .ok (.iconst 1, 1) := by decide +kernel
theorem dX6_subgroup_6 : decode cX6_subgroup 6 = .ok (.aload_n 0, 1) := by decide +kernel
theorem dX6_subgroup_7 : decode cX6_subgroup 7 = .ok (.getfield 14, 3) := by decide +kernel
theorem dX6_subgroup_10 : decode cX6_subgroup 10 = .ok (.ishl, 1) := by decide +kernel
theorem dX6_subgroup_11 : decode cX6_subgroup 11 = .ok (.if_icmp .ge 27, 3) := by decide +kernel
theorem dX6_subgroup_14 : decode cX6_subgroup 14 = .ok (.aload_n 0, 1) := by decide +kernel
theorem dX6_subgroup_15 : decode cX6_subgroup 15 = .ok (.iload_n 3, 1) := by decide +kernel
theorem dX6_subgroup_16 : decode cX6_subgroup 16 = .ok (.invokevirtual 124, 3) := by decide +kernel
theorem dX6_subgroup_19 : decode cX6_subgroup 19 = .ok (.ifCond .eq 13, 3) := by decide +kernel
theorem dX6_subgroup_22 : decode cX6_subgroup 22 = .ok (.iload_n 2, 1) := by decide +kernel
theorem dX6_subgroup_23 : decode cX6_subgroup 23 = .ok (.iload_n 1, 1) := by decide +kernel
theorem dX6_subgroup_24 : decode cX6_subgroup 24 = .ok (.if_icmp .ne 5, 3) := by decide +kernel
theorem dX6_subgroup_27 : decode cX6_subgroup 27 = .ok (.iload_n 3, 1) := by decide +kernel
theorem dX6_subgroup_28 : decode cX6_subgroup 28 = .ok (.ireturn, 1) := by decide +kernel
theorem dX6_subgroup_29 : decode cX6_subgroup 29 = .ok (.iinc 2 1, 3) := by decide +kernel
theorem dX6_subgroup_32 : decode cX6_subgroup 32 = .ok (.iinc 3 1, 3) := by decide +kernel
theorem dX6_subgroup_35 : decode cX6_subgroup 35 = .ok (.goto (-31), 3) := by decide +kernel
theorem dX6_subgroup_38 : decode cX6_subgroup 38 = .ok (.iload_n 1, 1) := by decide +kernel
theorem dX6_subgroup_39 : decode cX6_subgroup 39 = .ok (.iconst (-1), 1) := by decide +kernel
theorem dX6_subgroup_40 : decode cX6_subgroup 40 = .ok (.if_icmp .ne 7, 3) := by decide +kernel
theorem dX6_subgroup_43 : decode cX6_subgroup 43 = .ok (.iload_n 2, 1) := by decide +kernel
theorem dX6_subgroup_44 : decode cX6_subgroup 44 = .ok (.goto 4, 3) := by decide +kernel
theorem dX6_subgroup_47 : decode cX6_subgroup 47 = .ok (.iconst (-1), 1) := by decide +kernel
theorem dX6_subgroup_48 : decode cX6_subgroup 48 = .ok (.ireturn, 1) := by decide +kernel
theorem dX6_normal_0 : decode cX6_normal 0 = .ok (.aload_n 0, 1) := by decide +kernel
theorem dX6_normal_1 : decode cX6_normal 1 = .ok (.iload_n 1, 1) := by decide +kernel
theorem dX6_normal_2 : decode cX6_normal 2 = .ok (.invokevirtual 124, 3) := by decide +kernel
theorem dX6_normal_5 : decode cX6_normal 5 = .ok (.ifCond .ne 8, 3) := by decide +kernel
theorem dX6_normal_8 : decode cX6_normal 8 = .ok (.bipush (-2), 2) := by decide +kernel
theorem dX6_normal_10 : decode cX6_normal 10 = .ok (.goto 16, 3) := by decide +kernel
theorem dX6_normal_13 : decode cX6_normal 13 = .ok (.aload_n 0, 1) := by decide +kernel
theorem dX6_normal_14 : decode cX6_normal 14 = .ok (.iload_n 1, 1) := by decide +kernel
theorem dX6_normal_15 : decode cX6_normal 15 = .ok (.invokevirtual 127, 3) := by decide +kernel
theorem dX6_normal_18 : decode cX6_normal 18 = .ok (.ifCond .eq 7, 3) := by decide +kernel
theorem dX6_normal_21 : decode cX6_normal 21 = .ok (.iconst 1, 1) := by decide +kernel
theorem dX6_normal_22 : decode cX6_normal 22 = .ok (.goto 4, 3) := by decide +kernel
theorem dX6_normal_25 : decode cX6_normal 25 = .ok (.iconst 0, 1) := by decide +kernel
theorem dX6_normal_26 : decode cX6_normal 26 = .ok (.ireturn, 1) := by decide +kernel
theorem dX6_centre_0 : decode cX6_centre 0 = .ok (.iload_n 1, 1) := by decide +kernel
theorem dX6_centre_1 : decode cX6_centre 1 = .ok (.iconst 0, 1) := by decide +kernel
theorem dX6_centre_2 : decode cX6_centre 2 = .ok (.bipush 8, 2) := by decide +kernel
theorem dX6_centre_4 : decode cX6_centre 4 = .ok (.invokestatic 38, 3) := by decide +kernel
theorem dX6_centre_7 : decode cX6_centre 7 = .ok (.ifCond .ne 6, 3) := by decide +kernel
theorem dX6_centre_10 : decode cX6_centre 10 = .ok (.bipush (-2), 2) := by decide +kernel
theorem dX6_centre_12 : decode cX6_centre 12 = .ok (.ireturn, 1) := by decide +kernel
theorem dX6_centre_13 : decode cX6_centre 13 = .ok (.iconst 0, 1) := by decide +kernel
theorem dX6_centre_14 : decode cX6_centre 14 = .ok (.istore_n 2, 1) := by decide +kernel
theorem dX6_centre_15 : decode cX6_centre 15 = .ok (.iconst 0, 1) := by decide +kernel
theorem dX6_centre_16 : decode cX6_centre 16 = .ok (.istore_n 3, 1) := by decide +kernel
theorem dX6_centre_17 : decode cX6_centre 17 = .ok (.iconst 0, 1) := by decide +kernel
theorem dX6_centre_18 : decode cX6_centre 18 = .ok (.istore 4, 2) := by decide +kernel
theorem dX6_centre_20 : decode cX6_centre 20 = .ok (.iload 4, 2) := by decide +kernel
theorem dX6_centre_22 : decode cX6_centre 22 = .ok (.aload_n 0, 1) := by decide +kernel
theorem dX6_centre_23 : decode cX6_centre 23 = .ok (.getfield 14, 3) := by decide +kernel
theorem dX6_centre_26 : decode cX6_centre 26 = .ok (.if_icmp .ge 95, 3) := by decide +kernel
theorem dX6_centre_29 : decode cX6_centre 29 = .ok (.iconst 1, 1) := by decide +kernel
theorem dX6_centre_30 : decode cX6_centre 30 = .ok (.istore 5, 2) := by decide +kernel
theorem dX6_centre_32 : decode cX6_centre 32 = .ok (.iconst 0, 1) := by decide +kernel
theorem dX6_centre_33 : decode cX6_centre 33 = .ok (.istore 6, 2) := by decide +kernel
theorem dX6_centre_35 : decode cX6_centre 35 = .ok (.iload 6, 2) := by decide +kernel
theorem dX6_centre_37 : decode cX6_centre 37 = .ok (.aload_n 0, 1) := by decide +kernel
theorem dX6_centre_38 : decode cX6_centre 38 = .ok (.getfield 14, 3) := by decide +kernel
theorem dX6_centre_41 : decode cX6_centre 41 = .ok (.if_icmp .ge 40, 3) := by decide +kernel
theorem dX6_centre_44 : decode cX6_centre 44 = .ok (.iload 5, 2) := by decide +kernel
theorem dX6_centre_46 : decode cX6_centre 46 = .ok (.ifCond .eq 26, 3) := by decide +kernel
theorem dX6_centre_49 : decode cX6_centre 49 = .ok (.aload_n 0, 1) := by decide +kernel
theorem dX6_centre_50 : decode cX6_centre 50 = .ok (.iload 4, 2) := by decide +kernel
theorem dX6_centre_52 : decode cX6_centre 52 = .ok (.iload 6, 2) := by decide +kernel
theorem dX6_centre_54 : decode cX6_centre 54 = .ok (.invokevirtual 31, 3) := by decide +kernel
theorem dX6_centre_57 : decode cX6_centre 57 = .ok (.aload_n 0, 1) := by decide +kernel
theorem dX6_centre_58 : decode cX6_centre 58 = .ok (.iload 6, 2) := by decide +kernel
theorem dX6_centre_60 : decode cX6_centre 60 = .ok (.iload 4, 2) := by decide +kernel
theorem dX6_centre_62 : decode cX6_centre 62 = .ok (.invokevirtual 31, 3) := by decide +kernel
theorem dX6_centre_65 : decode cX6_centre 65 = .ok (.if_icmp .ne 7, 3) := by decide +kernel
theorem dX6_centre_68 : decode cX6_centre 68 = .ok (.iconst 1, 1) := by decide +kernel
theorem dX6_centre_69 : decode cX6_centre 69 = .ok (.goto 4, 3) := by decide +kernel
theorem dX6_centre_72 : decode cX6_centre 72 = .ok (.iconst 0, 1) := by decide +kernel
theorem dX6_centre_73 : decode cX6_centre 73 = .ok (.istore 5, 2) := by decide +kernel
theorem dX6_centre_75 : decode cX6_centre 75 = .ok (.iinc 6 1, 3) := by decide +kernel
theorem dX6_centre_78 : decode cX6_centre 78 = .ok (.goto (-43), 3) := by decide +kernel
theorem dX6_centre_81 : decode cX6_centre 81 = .ok (.iload_n 2, 1) := by decide +kernel
theorem dX6_centre_82 : decode cX6_centre 82 = .ok (.iload 5, 2) := by decide +kernel
theorem dX6_centre_84 : decode cX6_centre 84 = .ok (.ifCond .eq 10, 3) := by decide +kernel
theorem dX6_centre_87 : decode cX6_centre 87 = .ok (.iconst 1, 1) := by decide +kernel
theorem dX6_centre_88 : decode cX6_centre 88 = .ok (.iload 4, 2) := by decide +kernel
theorem dX6_centre_90 : decode cX6_centre 90 = .ok (.ishl, 1) := by decide +kernel
theorem dX6_centre_91 : decode cX6_centre 91 = .ok (.goto 4, 3) := by decide +kernel
theorem dX6_centre_94 : decode cX6_centre 94 = .ok (.iconst 0, 1) := by decide +kernel
theorem dX6_centre_95 : decode cX6_centre 95 = .ok (.ior, 1) := by decide +kernel
theorem dX6_centre_96 : decode cX6_centre 96 = .ok (.istore_n 2, 1) := by decide +kernel
theorem dX6_centre_97 : decode cX6_centre 97 = .ok (.iload_n 3, 1) := by decide +kernel
theorem dX6_centre_98 : decode cX6_centre 98 = .ok (.aload_n 0, 1) := by decide +kernel
theorem dX6_centre_99 : decode cX6_centre 99 = .ok (.iload 4, 2) := by decide +kernel
theorem dX6_centre_101 : decode cX6_centre 101 = .ok (.invokevirtual 118, 3) := by decide +kernel
theorem dX6_centre_104 : decode cX6_centre 104 = .ok (.iload_n 1, 1) := by decide +kernel
theorem dX6_centre_105 : decode cX6_centre 105 = .ok (.if_icmp .ne 7, 3) := by decide +kernel
theorem dX6_centre_108 : decode cX6_centre 108 = .ok (.iconst 1, 1) := by decide +kernel
theorem dX6_centre_109 : decode cX6_centre 109 = .ok (.goto 4, 3) := by decide +kernel
theorem dX6_centre_112 : decode cX6_centre 112 = .ok (.iconst 0, 1) := by decide +kernel
theorem dX6_centre_113 : decode cX6_centre 113 = .ok (.iadd, 1) := by decide +kernel
theorem dX6_centre_114 : decode cX6_centre 114 = .ok (.istore_n 3, 1) := by decide +kernel
theorem dX6_centre_115 : decode cX6_centre 115 = .ok (.iinc 4 1, 3) := by decide +kernel
theorem dX6_centre_118 : decode cX6_centre 118 = .ok (.goto (-98), 3) := by decide +kernel
theorem dX6_centre_121 : decode cX6_centre 121 = .ok (.iload_n 1, 1) := by decide +kernel
theorem dX6_centre_122 : decode cX6_centre 122 = .ok (.ifCond .ne 7, 3) := by decide +kernel
theorem dX6_centre_125 : decode cX6_centre 125 = .ok (.iload_n 2, 1) := by decide +kernel
theorem dX6_centre_126 : decode cX6_centre 126 = .ok (.goto 4, 3) := by decide +kernel
theorem dX6_centre_129 : decode cX6_centre 129 = .ok (.iload_n 3, 1) := by decide +kernel
theorem dX6_centre_130 : decode cX6_centre 130 = .ok (.ireturn, 1) := by decide +kernel
theorem dX6_handles_0 : decode cX6_handles 0 = .ok (.iload_n 1, 1) := by decide +kernel
theorem dX6_handles_1 : decode cX6_handles 1 = .ok (.iconst 0, 1) := by decide +kernel
theorem dX6_handles_2 : decode cX6_handles 2 = .ok (.iconst 1, 1) := by decide +kernel
theorem dX6_handles_3 : decode cX6_handles 3 = .ok (.invokestatic 38, 3) := by decide +kernel
theorem dX6_handles_6 : decode cX6_handles 6 = .ok (.ifCond .ne 6, 3) := by decide +kernel
theorem dX6_handles_9 : decode cX6_handles 9 = .ok (.bipush (-2), 2) := by decide +kernel
theorem dX6_handles_11 : decode cX6_handles 11 = .ok (.ireturn, 1) := by decide +kernel
theorem dX6_handles_12 : decode cX6_handles 12 = .ok (.iconst 2, 1) := by decide +kernel
theorem dX6_handles_13 : decode cX6_handles 13 = .ok (.iload_n 1, 1) := by decide +kernel
theorem dX6_handles_14 : decode cX6_handles 14 = .ok (.imul, 1) := by decide +kernel
theorem dX6_handles_15 : decode cX6_handles 15 = .ok (.aload_n 0, 1) := by decide +kernel
theorem dX6_handles_16 : decode cX6_handles 16 = .ok (.getfield 130, 3) := by decide +kernel
theorem dX6_handles_19 : decode cX6_handles 19 = .ok (.iadd, 1) := by decide +kernel
theorem dX6_handles_20 : decode cX6_handles 20 = .ok (.iconst 4, 1) := by decide +kernel
theorem dX6_handles_21 : decode cX6_handles 21 = .ok (.if_icmp .le 6, 3) := by decide +kernel
theorem dX6_handles_24 : decode cX6_handles 24 = .ok (.bipush (-4), 2) := by decide +kernel
theorem dX6_handles_26 : decode cX6_handles 26 = .ok (.ireturn, 1) := by decide +kernel
theorem dX6_handles_27 : decode cX6_handles 27 = .ok (.aload_n 0, 1) := by decide +kernel
theorem dX6_handles_28 : decode cX6_handles 28 = .ok (.getfield 133, 3) := by decide +kernel
theorem dX6_handles_31 : decode cX6_handles 31 = .ok (.istore_n 2, 1) := by decide +kernel
theorem dX6_handles_32 : decode cX6_handles 32 = .ok (.aload_n 0, 1) := by decide +kernel
theorem dX6_handles_33 : decode cX6_handles 33 = .ok (.iload_n 1, 1) := by decide +kernel
theorem dX6_handles_34 : decode cX6_handles 34 = .ok (.putfield 133, 3) := by decide +kernel
theorem dX6_handles_37 : decode cX6_handles 37 = .ok (.aload_n 0, 1) := by decide +kernel
theorem dX6_handles_38 : decode cX6_handles 38 = .ok (.iconst 0, 1) := by decide +kernel
theorem dX6_handles_39 : decode cX6_handles 39 = .ok (.putfield 27, 3) := by decide +kernel
theorem dX6_handles_42 : decode cX6_handles 42 = .ok (.iload_n 2, 1) := by decide +kernel
theorem dX6_handles_43 : decode cX6_handles 43 = .ok (.ireturn, 1) := by decide +kernel
theorem dX6_period_0 : decode cX6_period 0 = .ok (.iload_n 1, 1) := by decide +kernel
theorem dX6_period_1 : decode cX6_period 1 = .ok (.iconst 2, 1) := by decide +kernel
theorem dX6_period_2 : decode cX6_period 2 = .ok (.bipush 8, 2) := by decide +kernel
theorem dX6_period_4 : decode cX6_period 4 = .ok (.invokestatic 38, 3) := by decide +kernel
theorem dX6_period_7 : decode cX6_period 7 = .ok (.ifCond .ne 6, 3) := by decide +kernel
theorem dX6_period_10 : decode cX6_period 10 = .ok (.bipush (-2), 2) := by decide +kernel
theorem dX6_period_12 : decode cX6_period 12 = .ok (.ireturn, 1) := by decide +kernel
theorem dX6_period_13 : decode cX6_period 13 = .ok (.iconst 2, 1) := by decide +kernel
theorem dX6_period_14 : decode cX6_period 14 = .ok (.aload_n 0, 1) := by decide +kernel
theorem dX6_period_15 : decode cX6_period 15 = .ok (.getfield 133, 3) := by decide +kernel
theorem dX6_period_18 : decode cX6_period 18 = .ok (.imul, 1) := by decide +kernel
theorem dX6_period_19 : decode cX6_period 19 = .ok (.aload_n 0, 1) := by decide +kernel
theorem dX6_period_20 : decode cX6_period 20 = .ok (.getfield 130, 3) := by decide +kernel
theorem dX6_period_23 : decode cX6_period 23 = .ok (.iadd, 1) := by decide +kernel
theorem dX6_period_24 : decode cX6_period 24 = .ok (.iconst 1, 1) := by decide +kernel
theorem dX6_period_25 : decode cX6_period 25 = .ok (.iadd, 1) := by decide +kernel
theorem dX6_period_26 : decode cX6_period 26 = .ok (.iconst 4, 1) := by decide +kernel
theorem dX6_period_27 : decode cX6_period 27 = .ok (.if_icmp .le 6, 3) := by decide +kernel
theorem dX6_period_30 : decode cX6_period 30 = .ok (.bipush (-4), 2) := by decide +kernel
theorem dX6_period_32 : decode cX6_period 32 = .ok (.ireturn, 1) := by decide +kernel
theorem dX6_period_33 : decode cX6_period 33 = .ok (.aload_n 0, 1) := by decide +kernel
theorem dX6_period_34 : decode cX6_period 34 = .ok (.getfield 58, 3) := by decide +kernel
theorem dX6_period_37 : decode cX6_period 37 = .ok (.aload_n 0, 1) := by decide +kernel
theorem dX6_period_38 : decode cX6_period 38 = .ok (.getfield 130, 3) := by decide +kernel
theorem dX6_period_41 : decode cX6_period 41 = .ok (.iload_n 1, 1) := by decide +kernel
theorem dX6_period_42 : decode cX6_period 42 = .ok (.iastore, 1) := by decide +kernel
theorem dX6_period_43 : decode cX6_period 43 = .ok (.aload_n 0, 1) := by decide +kernel
theorem dX6_period_44 : decode cX6_period 44 = .ok (.dup, 1) := by decide +kernel
theorem dX6_period_45 : decode cX6_period 45 = .ok (.getfield 130, 3) := by decide +kernel
theorem dX6_period_48 : decode cX6_period 48 = .ok (.iconst 1, 1) := by decide +kernel
theorem dX6_period_49 : decode cX6_period 49 = .ok (.iadd, 1) := by decide +kernel
theorem dX6_period_50 : decode cX6_period 50 = .ok (.putfield 130, 3) := by decide +kernel
theorem dX6_period_53 : decode cX6_period 53 = .ok (.aload_n 0, 1) := by decide +kernel
theorem dX6_period_54 : decode cX6_period 54 = .ok (.iconst 0, 1) := by decide +kernel
theorem dX6_period_55 : decode cX6_period 55 = .ok (.putfield 27, 3) := by decide +kernel
theorem dX6_period_58 : decode cX6_period 58 = .ok (.aload_n 0, 1) := by decide +kernel
theorem dX6_period_59 : decode cX6_period 59 = .ok (.getfield 130, 3) := by decide +kernel
theorem dX6_period_62 : decode cX6_period 62 = .ok (.ireturn, 1) := by decide +kernel
theorem dX6_drop_0 : decode cX6_drop 0 = .ok (.aload_n 0, 1) := by decide +kernel
theorem dX6_drop_1 : decode cX6_drop 1 = .ok (.getfield 130, 3) := by decide +kernel
theorem dX6_drop_4 : decode cX6_drop 4 = .ok (.ifCond .ne 6, 3) := by decide +kernel
theorem dX6_drop_7 : decode cX6_drop 7 = .ok (.bipush (-3), 2) := by decide +kernel
theorem dX6_drop_9 : decode cX6_drop 9 = .ok (.ireturn, 1) := by decide +kernel
theorem dX6_drop_10 : decode cX6_drop 10 = .ok (.aload_n 0, 1) := by decide +kernel
theorem dX6_drop_11 : decode cX6_drop 11 = .ok (.dup, 1) := by decide +kernel
theorem dX6_drop_12 : decode cX6_drop 12 = .ok (.getfield 130, 3) := by decide +kernel
theorem dX6_drop_15 : decode cX6_drop 15 = .ok (.iconst 1, 1) := by decide +kernel
theorem dX6_drop_16 : decode cX6_drop 16 = .ok (.isub, 1) := by decide +kernel
theorem dX6_drop_17 : decode cX6_drop 17 = .ok (.putfield 130, 3) := by decide +kernel
theorem dX6_drop_20 : decode cX6_drop 20 = .ok (.aload_n 0, 1) := by decide +kernel
theorem dX6_drop_21 : decode cX6_drop 21 = .ok (.iconst 0, 1) := by decide +kernel
theorem dX6_drop_22 : decode cX6_drop 22 = .ok (.putfield 27, 3) := by decide +kernel
theorem dX6_drop_25 : decode cX6_drop 25 = .ok (.aload_n 0, 1) := by decide +kernel
theorem dX6_drop_26 : decode cX6_drop 26 = .ok (.getfield 130, 3) := by decide +kernel
theorem dX6_drop_29 : decode cX6_drop 29 = .ok (.ireturn, 1) := by decide +kernel
theorem dX6_periodOf_0 : decode cX6_periodOf 0 = .ok (.iload_n 1, 1) := by decide +kernel
theorem dX6_periodOf_1 : decode cX6_periodOf 1 = .ok (.iconst 0, 1) := by decide +kernel
theorem dX6_periodOf_2 : decode cX6_periodOf 2 = .ok (.aload_n 0, 1) := by decide +kernel
theorem dX6_periodOf_3 : decode cX6_periodOf 3 = .ok (.getfield 130, 3) := by decide +kernel
theorem dX6_periodOf_6 : decode cX6_periodOf 6 = .ok (.iconst 1, 1) := by decide +kernel
theorem dX6_periodOf_7 : decode cX6_periodOf 7 = .ok (.isub, 1) := by decide +kernel
theorem dX6_periodOf_8 : decode cX6_periodOf 8 = .ok (.invokestatic 38, 3) := by decide +kernel
theorem dX6_periodOf_11 : decode cX6_periodOf 11 = .ok (.ifCond .eq 12, 3) := by decide +kernel
theorem dX6_periodOf_14 : decode cX6_periodOf 14 = .ok (.aload_n 0, 1) := by decide +kernel
theorem dX6_periodOf_15 : decode cX6_periodOf 15 = .ok (.getfield 58, 3) := by decide +kernel
theorem dX6_periodOf_18 : decode cX6_periodOf 18 = .ok (.iload_n 1, 1) := by decide +kernel
theorem dX6_periodOf_19 : decode cX6_periodOf 19 = .ok (.iaload, 1) := by decide +kernel
theorem dX6_periodOf_20 : decode cX6_periodOf 20 = .ok (.goto 4, 3) := by decide +kernel
theorem dX6_periodOf_23 : decode cX6_periodOf 23 = .ok (.iconst (-1), 1) := by decide +kernel
theorem dX6_periodOf_24 : decode cX6_periodOf 24 = .ok (.ireturn, 1) := by decide +kernel
theorem dX6_length_0 : decode cX6_length 0 = .ok (.iconst 2, 1) := by decide +kernel
theorem dX6_length_1 : decode cX6_length 1 = .ok (.aload_n 0, 1) := by decide +kernel
theorem dX6_length_2 : decode cX6_length 2 = .ok (.getfield 133, 3) := by decide +kernel
theorem dX6_length_5 : decode cX6_length 5 = .ok (.imul, 1) := by decide +kernel
theorem dX6_length_6 : decode cX6_length 6 = .ok (.aload_n 0, 1) := by decide +kernel
theorem dX6_length_7 : decode cX6_length 7 = .ok (.getfield 130, 3) := by decide +kernel
theorem dX6_length_10 : decode cX6_length 10 = .ok (.iadd, 1) := by decide +kernel
theorem dX6_length_11 : decode cX6_length 11 = .ok (.ireturn, 1) := by decide +kernel
theorem dX6_tens_0 : decode cX6_tens 0 = .ok (.iconst 1, 1) := by decide +kernel
theorem dX6_tens_1 : decode cX6_tens 1 = .ok (.istore_n 1, 1) := by decide +kernel
theorem dX6_tens_2 : decode cX6_tens 2 = .ok (.iconst 0, 1) := by decide +kernel
theorem dX6_tens_3 : decode cX6_tens 3 = .ok (.istore_n 2, 1) := by decide +kernel
theorem dX6_tens_4 : decode cX6_tens 4 = .ok (.iload_n 2, 1) := by decide +kernel
theorem dX6_tens_5 : decode cX6_tens 5 = .ok (.iload_n 0, 1) := by decide +kernel
theorem dX6_tens_6 : decode cX6_tens 6 = .ok (.if_icmp .ge 14, 3) := by decide +kernel
theorem dX6_tens_9 : decode cX6_tens 9 = .ok (.iload_n 1, 1) := by decide +kernel
theorem dX6_tens_10 : decode cX6_tens 10 = .ok (.bipush 10, 2) := by decide +kernel
theorem dX6_tens_12 : decode cX6_tens 12 = .ok (.imul, 1) := by decide +kernel
theorem dX6_tens_13 : decode cX6_tens 13 = .ok (.istore_n 1, 1) := by decide +kernel
theorem dX6_tens_14 : decode cX6_tens 14 = .ok (.iinc 2 1, 3) := by decide +kernel
theorem dX6_tens_17 : decode cX6_tens 17 = .ok (.goto (-13), 3) := by decide +kernel
theorem dX6_tens_20 : decode cX6_tens 20 = .ok (.iload_n 1, 1) := by decide +kernel
theorem dX6_tens_21 : decode cX6_tens 21 = .ok (.ireturn, 1) := by decide +kernel
theorem dX6_read_0 : decode cX6_read 0 = .ok (.iload_n 1, 1) := by decide +kernel
theorem dX6_read_1 : decode cX6_read 1 = .ok (.istore_n 2, 1) := by decide +kernel
theorem dX6_read_2 : decode cX6_read 2 = .ok (.aload_n 0, 1) := by decide +kernel
theorem dX6_read_3 : decode cX6_read 3 = .ok (.invokevirtual 136, 3) := by decide +kernel
theorem dX6_read_6 : decode cX6_read 6 = .ok (.iconst 1, 1) := by decide +kernel
theorem dX6_read_7 : decode cX6_read 7 = .ok (.isub, 1) := by decide +kernel
theorem dX6_read_8 : decode cX6_read 8 = .ok (.istore_n 3, 1) := by decide +kernel
theorem dX6_read_9 : decode cX6_read 9 = .ok (.iload_n 3, 1) := by decide +kernel
theorem dX6_read_10 : decode cX6_read 10 = .ok (.ifCond .lt 24, 3) := by decide +kernel
theorem dX6_read_13 : decode cX6_read 13 = .ok (.aload_n 0, 1) := by decide +kernel
theorem dX6_read_14 : decode cX6_read 14 = .ok (.getfield 109, 3) := by decide +kernel
theorem dX6_read_17 : decode cX6_read 17 = .ok (.iload_n 3, 1) := by decide +kernel
theorem dX6_read_18 : decode cX6_read 18 = .ok (.iload_n 2, 1) := by decide +kernel
theorem dX6_read_19 : decode cX6_read 19 = .ok (.bipush 10, 2) := by decide +kernel
theorem dX6_read_21 : decode cX6_read 21 = .ok (.irem, 1) := by decide +kernel
theorem dX6_read_22 : decode cX6_read 22 = .ok (.iastore, 1) := by decide +kernel
theorem dX6_read_23 : decode cX6_read 23 = .ok (.iload_n 2, 1) := by decide +kernel
theorem dX6_read_24 : decode cX6_read 24 = .ok (.bipush 10, 2) := by decide +kernel
theorem dX6_read_26 : decode cX6_read 26 = .ok (.idiv, 1) := by decide +kernel
theorem dX6_read_27 : decode cX6_read 27 = .ok (.istore_n 2, 1) := by decide +kernel
theorem dX6_read_28 : decode cX6_read 28 = .ok (.iinc 3 (-1), 3) := by decide +kernel
theorem dX6_read_31 : decode cX6_read 31 = .ok (.goto (-22), 3) := by decide +kernel
theorem dX6_read_34 : decode cX6_read 34 = .ok (.return_, 1) := by decide +kernel
theorem dX6_written_0 : decode cX6_written 0 = .ok (.iconst 0, 1) := by decide +kernel
theorem dX6_written_1 : decode cX6_written 1 = .ok (.istore_n 1, 1) := by decide +kernel
theorem dX6_written_2 : decode cX6_written 2 = .ok (.iconst 0, 1) := by decide +kernel
theorem dX6_written_3 : decode cX6_written 3 = .ok (.istore_n 2, 1) := by decide +kernel
theorem dX6_written_4 : decode cX6_written 4 = .ok (.iload_n 2, 1) := by decide +kernel
theorem dX6_written_5 : decode cX6_written 5 = .ok (.aload_n 0, 1) := by decide +kernel
theorem dX6_written_6 : decode cX6_written 6 = .ok (.invokevirtual 136, 3) := by decide +kernel
theorem dX6_written_9 : decode cX6_written 9 = .ok (.if_icmp .ge 21, 3) := by decide +kernel
theorem dX6_written_12 : decode cX6_written 12 = .ok (.bipush 10, 2) := by decide +kernel
theorem dX6_written_14 : decode cX6_written 14 = .ok (.iload_n 1, 1) := by decide +kernel
theorem dX6_written_15 : decode cX6_written 15 = .ok (.imul, 1) := by decide +kernel
theorem dX6_written_16 : decode cX6_written 16 = .ok (.aload_n 0, 1) := by decide +kernel
theorem dX6_written_17 : decode cX6_written 17 = .ok (.getfield 109, 3) := by decide +kernel
theorem dX6_written_20 : decode cX6_written 20 = .ok (.iload_n 2, 1) := by decide +kernel
theorem dX6_written_21 : decode cX6_written 21 = .ok (.iaload, 1) := by decide +kernel
theorem dX6_written_22 : decode cX6_written 22 = .ok (.iadd, 1) := by decide +kernel
theorem dX6_written_23 : decode cX6_written 23 = .ok (.istore_n 1, 1) := by decide +kernel
theorem dX6_written_24 : decode cX6_written 24 = .ok (.iinc 2 1, 3) := by decide +kernel
theorem dX6_written_27 : decode cX6_written 27 = .ok (.goto (-23), 3) := by decide +kernel
theorem dX6_written_30 : decode cX6_written 30 = .ok (.iload_n 1, 1) := by decide +kernel
theorem dX6_written_31 : decode cX6_written 31 = .ok (.ireturn, 1) := by decide +kernel
theorem dX6_whatIs_0 : decode cX6_whatIs 0 = .ok (.iconst 0, 1) := by decide +kernel
theorem dX6_whatIs_1 : decode cX6_whatIs 1 = .ok (.istore_n 1, 1) := by decide +kernel
theorem dX6_whatIs_2 : decode cX6_whatIs 2 = .ok (.iconst 0, 1) := by decide +kernel
theorem dX6_whatIs_3 : decode cX6_whatIs 3 = .ok (.istore_n 2, 1) := by decide +kernel
theorem dX6_whatIs_4 : decode cX6_whatIs 4 = .ok (.iconst 0, 1) := by decide +kernel
theorem dX6_whatIs_5 : decode cX6_whatIs 5 = .ok (.istore_n 3, 1) := by decide +kernel
theorem dX6_whatIs_6 : decode cX6_whatIs 6 = .ok (.iload_n 3, 1) := by decide +kernel
theorem dX6_whatIs_7 : decode cX6_whatIs 7 = .ok (.aload_n 0, 1) := by decide +kernel
theorem dX6_whatIs_8 : decode cX6_whatIs 8 = .ok (.invokevirtual 136, 3) := by decide +kernel
theorem dX6_whatIs_11 : decode cX6_whatIs 11 = .ok (.if_icmp .ge 35, 3) := by decide +kernel
theorem dX6_whatIs_14 : decode cX6_whatIs 14 = .ok (.aload_n 0, 1) := by decide +kernel
theorem dX6_whatIs_15 : decode cX6_whatIs 15 = .ok (.getfield 109, 3) := by decide +kernel
theorem dX6_whatIs_18 : decode cX6_whatIs 18 = .ok (.iload_n 3, 1) := by decide +kernel
theorem dX6_whatIs_19 : decode cX6_whatIs 19 = .ok (.iaload, 1) := by decide +kernel
theorem dX6_whatIs_20 : decode cX6_whatIs 20 = .ok (.aload_n 0, 1) := by decide +kernel
theorem dX6_whatIs_21 : decode cX6_whatIs 21 = .ok (.getfield 14, 3) := by decide +kernel
theorem dX6_whatIs_24 : decode cX6_whatIs 24 = .ok (.if_icmp .lt 5, 3) := by decide +kernel
theorem dX6_whatIs_27 : decode cX6_whatIs 27 = .ok (.iconst 0, 1) := by decide +kernel
theorem dX6_whatIs_28 : decode cX6_whatIs 28 = .ok (.ireturn, 1) := by decide +kernel
theorem dX6_whatIs_29 : decode cX6_whatIs 29 = .ok (.iload_n 2, 1) := by decide +kernel
theorem dX6_whatIs_30 : decode cX6_whatIs 30 = .ok (.iconst 1, 1) := by decide +kernel
theorem dX6_whatIs_31 : decode cX6_whatIs 31 = .ok (.aload_n 0, 1) := by decide +kernel
theorem dX6_whatIs_32 : decode cX6_whatIs 32 = .ok (.getfield 109, 3) := by decide +kernel
theorem dX6_whatIs_35 : decode cX6_whatIs 35 = .ok (.iload_n 3, 1) := by decide +kernel
theorem dX6_whatIs_36 : decode cX6_whatIs 36 = .ok (.iaload, 1) := by decide +kernel
theorem dX6_whatIs_37 : decode cX6_whatIs 37 = .ok (.ishl, 1) := by decide +kernel
theorem dX6_whatIs_38 : decode cX6_whatIs 38 = .ok (.ior, 1) := by decide +kernel
theorem dX6_whatIs_39 : decode cX6_whatIs 39 = .ok (.istore_n 2, 1) := by decide +kernel
theorem dX6_whatIs_40 : decode cX6_whatIs 40 = .ok (.iinc 3 1, 3) := by decide +kernel
theorem dX6_whatIs_43 : decode cX6_whatIs 43 = .ok (.goto (-37), 3) := by decide +kernel
theorem dX6_whatIs_46 : decode cX6_whatIs 46 = .ok (.aload_n 0, 1) := by decide +kernel
theorem dX6_whatIs_47 : decode cX6_whatIs 47 = .ok (.getfield 133, 3) := by decide +kernel
theorem dX6_whatIs_50 : decode cX6_whatIs 50 = .ok (.iconst 1, 1) := by decide +kernel
theorem dX6_whatIs_51 : decode cX6_whatIs 51 = .ok (.if_icmp .ne 52, 3) := by decide +kernel
theorem dX6_whatIs_54 : decode cX6_whatIs 54 = .ok (.aload_n 0, 1) := by decide +kernel
theorem dX6_whatIs_55 : decode cX6_whatIs 55 = .ok (.aload_n 0, 1) := by decide +kernel
theorem dX6_whatIs_56 : decode cX6_whatIs 56 = .ok (.getfield 109, 3) := by decide +kernel
theorem dX6_whatIs_59 : decode cX6_whatIs 59 = .ok (.iconst 0, 1) := by decide +kernel
theorem dX6_whatIs_60 : decode cX6_whatIs 60 = .ok (.iaload, 1) := by decide +kernel
theorem dX6_whatIs_61 : decode cX6_whatIs 61 = .ok (.aload_n 0, 1) := by decide +kernel
theorem dX6_whatIs_62 : decode cX6_whatIs 62 = .ok (.getfield 109, 3) := by decide +kernel
theorem dX6_whatIs_65 : decode cX6_whatIs 65 = .ok (.iconst 1, 1) := by decide +kernel
theorem dX6_whatIs_66 : decode cX6_whatIs 66 = .ok (.iaload, 1) := by decide +kernel
theorem dX6_whatIs_67 : decode cX6_whatIs 67 = .ok (.invokevirtual 31, 3) := by decide +kernel
theorem dX6_whatIs_70 : decode cX6_whatIs 70 = .ok (.istore_n 1, 1) := by decide +kernel
theorem dX6_whatIs_71 : decode cX6_whatIs 71 = .ok (.aload_n 0, 1) := by decide +kernel
theorem dX6_whatIs_72 : decode cX6_whatIs 72 = .ok (.iload_n 1, 1) := by decide +kernel
theorem dX6_whatIs_73 : decode cX6_whatIs 73 = .ok (.aload_n 0, 1) := by decide +kernel
theorem dX6_whatIs_74 : decode cX6_whatIs 74 = .ok (.aload_n 0, 1) := by decide +kernel
theorem dX6_whatIs_75 : decode cX6_whatIs 75 = .ok (.getfield 109, 3) := by decide +kernel
theorem dX6_whatIs_78 : decode cX6_whatIs 78 = .ok (.iconst 0, 1) := by decide +kernel
theorem dX6_whatIs_79 : decode cX6_whatIs 79 = .ok (.iaload, 1) := by decide +kernel
theorem dX6_whatIs_80 : decode cX6_whatIs 80 = .ok (.invokevirtual 34, 3) := by decide +kernel
theorem dX6_whatIs_83 : decode cX6_whatIs 83 = .ok (.invokevirtual 31, 3) := by decide +kernel
theorem dX6_whatIs_86 : decode cX6_whatIs 86 = .ok (.istore_n 1, 1) := by decide +kernel
theorem dX6_whatIs_87 : decode cX6_whatIs 87 = .ok (.aload_n 0, 1) := by decide +kernel
theorem dX6_whatIs_88 : decode cX6_whatIs 88 = .ok (.iload_n 1, 1) := by decide +kernel
theorem dX6_whatIs_89 : decode cX6_whatIs 89 = .ok (.aload_n 0, 1) := by decide +kernel
theorem dX6_whatIs_90 : decode cX6_whatIs 90 = .ok (.aload_n 0, 1) := by decide +kernel
theorem dX6_whatIs_91 : decode cX6_whatIs 91 = .ok (.getfield 109, 3) := by decide +kernel
theorem dX6_whatIs_94 : decode cX6_whatIs 94 = .ok (.iconst 1, 1) := by decide +kernel
theorem dX6_whatIs_95 : decode cX6_whatIs 95 = .ok (.iaload, 1) := by decide +kernel
theorem dX6_whatIs_96 : decode cX6_whatIs 96 = .ok (.invokevirtual 34, 3) := by decide +kernel
theorem dX6_whatIs_99 : decode cX6_whatIs 99 = .ok (.invokevirtual 31, 3) := by decide +kernel
theorem dX6_whatIs_102 : decode cX6_whatIs 102 = .ok (.istore_n 1, 1) := by decide +kernel
theorem dX6_whatIs_103 : decode cX6_whatIs 103 = .ok (.iconst 0, 1) := by decide +kernel
theorem dX6_whatIs_104 : decode cX6_whatIs 104 = .ok (.istore_n 3, 1) := by decide +kernel
theorem dX6_whatIs_105 : decode cX6_whatIs 105 = .ok (.iload_n 3, 1) := by decide +kernel
theorem dX6_whatIs_106 : decode cX6_whatIs 106 = .ok (.aload_n 0, 1) := by decide +kernel
theorem dX6_whatIs_107 : decode cX6_whatIs 107 = .ok (.getfield 130, 3) := by decide +kernel
theorem dX6_whatIs_110 : decode cX6_whatIs 110 = .ok (.if_icmp .ge 49, 3) := by decide +kernel
theorem dX6_whatIs_113 : decode cX6_whatIs 113 = .ok (.aload_n 0, 1) := by decide +kernel
theorem dX6_whatIs_114 : decode cX6_whatIs 114 = .ok (.getfield 109, 3) := by decide +kernel
theorem dX6_whatIs_117 : decode cX6_whatIs 117 = .ok (.iconst 2, 1) := by decide +kernel
theorem dX6_whatIs_118 : decode cX6_whatIs 118 = .ok (.aload_n 0, 1) := by decide +kernel
theorem dX6_whatIs_119 : decode cX6_whatIs 119 = .ok (.getfield 133, 3) := by decide +kernel
theorem dX6_whatIs_122 : decode cX6_whatIs 122 = .ok (.imul, 1) := by decide +kernel
theorem dX6_whatIs_123 : decode cX6_whatIs 123 = .ok (.iload_n 3, 1) := by decide +kernel
theorem dX6_whatIs_124 : decode cX6_whatIs 124 = .ok (.iadd, 1) := by decide +kernel
theorem dX6_whatIs_125 : decode cX6_whatIs 125 = .ok (.iaload, 1) := by decide +kernel
theorem dX6_whatIs_126 : decode cX6_whatIs 126 = .ok (.istore 4, 2) := by decide +kernel
theorem dX6_whatIs_128 : decode cX6_whatIs 128 = .ok (.aload_n 0, 1) := by decide +kernel
theorem dX6_whatIs_129 : decode cX6_whatIs 129 = .ok (.iload 4, 2) := by decide +kernel
theorem dX6_whatIs_131 : decode cX6_whatIs 131 = .ok (.invokevirtual 118, 3) := by decide +kernel
theorem dX6_whatIs_134 : decode cX6_whatIs 134 = .ok (.aload_n 0, 1) := by decide +kernel
theorem dX6_whatIs_135 : decode cX6_whatIs 135 = .ok (.getfield 58, 3) := by decide +kernel
theorem dX6_whatIs_138 : decode cX6_whatIs 138 = .ok (.iload_n 3, 1) := by decide +kernel
theorem dX6_whatIs_139 : decode cX6_whatIs 139 = .ok (.iaload, 1) := by decide +kernel
theorem dX6_whatIs_140 : decode cX6_whatIs 140 = .ok (.if_icmp .eq 5, 3) := by decide +kernel
theorem dX6_whatIs_143 : decode cX6_whatIs 143 = .ok (.iconst 0, 1) := by decide +kernel
theorem dX6_whatIs_144 : decode cX6_whatIs 144 = .ok (.ireturn, 1) := by decide +kernel
theorem dX6_whatIs_145 : decode cX6_whatIs 145 = .ok (.aload_n 0, 1) := by decide +kernel
theorem dX6_whatIs_146 : decode cX6_whatIs 146 = .ok (.iload_n 1, 1) := by decide +kernel
theorem dX6_whatIs_147 : decode cX6_whatIs 147 = .ok (.iload 4, 2) := by decide +kernel
theorem dX6_whatIs_149 : decode cX6_whatIs 149 = .ok (.invokevirtual 31, 3) := by decide +kernel
theorem dX6_whatIs_152 : decode cX6_whatIs 152 = .ok (.istore_n 1, 1) := by decide +kernel
theorem dX6_whatIs_153 : decode cX6_whatIs 153 = .ok (.iinc 3 1, 3) := by decide +kernel
theorem dX6_whatIs_156 : decode cX6_whatIs 156 = .ok (.goto (-51), 3) := by decide +kernel
theorem dX6_whatIs_159 : decode cX6_whatIs 159 = .ok (.iload_n 1, 1) := by decide +kernel
theorem dX6_whatIs_160 : decode cX6_whatIs 160 = .ok (.ifCond .eq 7, 3) := by decide +kernel
theorem dX6_whatIs_163 : decode cX6_whatIs 163 = .ok (.iconst 0, 1) := by decide +kernel
theorem dX6_whatIs_164 : decode cX6_whatIs 164 = .ok (.goto 24, 3) := by decide +kernel
theorem dX6_whatIs_167 : decode cX6_whatIs 167 = .ok (.aload_n 0, 1) := by decide +kernel
theorem dX6_whatIs_168 : decode cX6_whatIs 168 = .ok (.iload_n 2, 1) := by decide +kernel
theorem dX6_whatIs_169 : decode cX6_whatIs 169 = .ok (.invokevirtual 46, 3) := by decide +kernel
theorem dX6_whatIs_172 : decode cX6_whatIs 172 = .ok (.iconst 1, 1) := by decide +kernel
theorem dX6_whatIs_173 : decode cX6_whatIs 173 = .ok (.aload_n 0, 1) := by decide +kernel
theorem dX6_whatIs_174 : decode cX6_whatIs 174 = .ok (.getfield 14, 3) := by decide +kernel
theorem dX6_whatIs_177 : decode cX6_whatIs 177 = .ok (.ishl, 1) := by decide +kernel
theorem dX6_whatIs_178 : decode cX6_whatIs 178 = .ok (.iconst 1, 1) := by decide +kernel
theorem dX6_whatIs_179 : decode cX6_whatIs 179 = .ok (.isub, 1) := by decide +kernel
theorem dX6_whatIs_180 : decode cX6_whatIs 180 = .ok (.if_icmp .ne 7, 3) := by decide +kernel
theorem dX6_whatIs_183 : decode cX6_whatIs 183 = .ok (.iconst 2, 1) := by decide +kernel
theorem dX6_whatIs_184 : decode cX6_whatIs 184 = .ok (.goto 4, 3) := by decide +kernel
theorem dX6_whatIs_187 : decode cX6_whatIs 187 = .ok (.iconst 1, 1) := by decide +kernel
theorem dX6_whatIs_188 : decode cX6_whatIs 188 = .ok (.ireturn, 1) := by decide +kernel
theorem dX6_codeIs_0 : decode cX6_codeIs 0 = .ok (.iload_n 1, 1) := by decide +kernel
theorem dX6_codeIs_1 : decode cX6_codeIs 1 = .ok (.iconst 0, 1) := by decide +kernel
theorem dX6_codeIs_2 : decode cX6_codeIs 2 = .ok (.aload_n 0, 1) := by decide +kernel
theorem dX6_codeIs_3 : decode cX6_codeIs 3 = .ok (.invokevirtual 136, 3) := by decide +kernel
theorem dX6_codeIs_6 : decode cX6_codeIs 6 = .ok (.invokestatic 140, 3) := by decide +kernel
theorem dX6_codeIs_9 : decode cX6_codeIs 9 = .ok (.iconst 1, 1) := by decide +kernel
theorem dX6_codeIs_10 : decode cX6_codeIs 10 = .ok (.isub, 1) := by decide +kernel
theorem dX6_codeIs_11 : decode cX6_codeIs 11 = .ok (.invokestatic 38, 3) := by decide +kernel
theorem dX6_codeIs_14 : decode cX6_codeIs 14 = .ok (.ifCond .ne 5, 3) := by decide +kernel
theorem dX6_codeIs_17 : decode cX6_codeIs 17 = .ok (.iconst 0, 1) := by decide +kernel
theorem dX6_codeIs_18 : decode cX6_codeIs 18 = .ok (.ireturn, 1) := by decide +kernel
theorem dX6_codeIs_19 : decode cX6_codeIs 19 = .ok (.aload_n 0, 1) := by decide +kernel
theorem dX6_codeIs_20 : decode cX6_codeIs 20 = .ok (.iload_n 1, 1) := by decide +kernel
theorem dX6_codeIs_21 : decode cX6_codeIs 21 = .ok (.invokevirtual 143, 3) := by decide +kernel
theorem dX6_codeIs_24 : decode cX6_codeIs 24 = .ok (.aload_n 0, 1) := by decide +kernel
theorem dX6_codeIs_25 : decode cX6_codeIs 25 = .ok (.invokevirtual 147, 3) := by decide +kernel
theorem dX6_codeIs_28 : decode cX6_codeIs 28 = .ok (.ireturn, 1) := by decide +kernel
theorem dX6_lay_0 : decode cX6_lay 0 = .ok (.aload_n 0, 1) := by decide +kernel
theorem dX6_lay_1 : decode cX6_lay 1 = .ok (.getfield 27, 3) := by decide +kernel
theorem dX6_lay_4 : decode cX6_lay 4 = .ok (.ifCond .eq 4, 3) := by decide +kernel
theorem dX6_lay_7 : decode cX6_lay 7 = .ok (.return_, 1) := by decide +kernel
theorem dX6_lay_8 : decode cX6_lay 8 = .ok (.aload_n 0, 1) := by decide +kernel
theorem dX6_lay_9 : decode cX6_lay 9 = .ok (.iconst 1, 1) := by decide +kernel
theorem dX6_lay_10 : decode cX6_lay 10 = .ok (.putfield 27, 3) := by decide +kernel
theorem dX6_lay_13 : decode cX6_lay 13 = .ok (.aload_n 0, 1) := by decide +kernel
theorem dX6_lay_14 : decode cX6_lay 14 = .ok (.iconst 0, 1) := by decide +kernel
theorem dX6_lay_15 : decode cX6_lay 15 = .ok (.putfield 150, 3) := by decide +kernel
theorem dX6_lay_18 : decode cX6_lay 18 = .ok (.iconst 0, 1) := by decide +kernel
theorem dX6_lay_19 : decode cX6_lay 19 = .ok (.istore_n 1, 1) := by decide +kernel
theorem dX6_lay_20 : decode cX6_lay 20 = .ok (.iload_n 1, 1) := by decide +kernel
theorem dX6_lay_21 : decode cX6_lay 21 = .ok (.sipush 10000, 3) := by decide +kernel
theorem dX6_lay_24 : decode cX6_lay 24 = .ok (.if_icmp .ge 77, 3) := by decide +kernel
theorem dX6_lay_27 : decode cX6_lay 27 = .ok (.iload_n 1, 1) := by decide +kernel
theorem dX6_lay_28 : decode cX6_lay 28 = .ok (.aload_n 0, 1) := by decide +kernel
theorem dX6_lay_29 : decode cX6_lay 29 = .ok (.invokevirtual 136, 3) := by decide +kernel
theorem dX6_lay_32 : decode cX6_lay 32 = .ok (.invokestatic 140, 3) := by decide +kernel
theorem dX6_lay_35 : decode cX6_lay 35 = .ok (.if_icmp .ge 16, 3) := by decide +kernel
theorem dX6_lay_38 : decode cX6_lay 38 = .ok (.aload_n 0, 1) := by decide +kernel
theorem dX6_lay_39 : decode cX6_lay 39 = .ok (.iload_n 1, 1) := by decide +kernel
theorem dX6_lay_40 : decode cX6_lay 40 = .ok (.invokevirtual 153, 3) := by decide +kernel
theorem dX6_lay_43 : decode cX6_lay 43 = .ok (.iconst 2, 1) := by decide +kernel
theorem dX6_lay_44 : decode cX6_lay 44 = .ok (.if_icmp .ne 7, 3) := by decide +kernel
theorem dX6_lay_47 : decode cX6_lay 47 = .ok (.iconst 1, 1) := by decide +kernel
theorem dX6_lay_48 : decode cX6_lay 48 = .ok (.goto 4, 3) := by decide +kernel
theorem dX6_lay_51 : decode cX6_lay 51 = .ok (.iconst 0, 1) := by decide +kernel
theorem dX6_lay_52 : decode cX6_lay 52 = .ok (.istore_n 2, 1) := by decide +kernel
theorem dX6_lay_53 : decode cX6_lay 53 = .ok (.aload_n 0, 1) := by decide +kernel
theorem dX6_lay_54 : decode cX6_lay 54 = .ok (.getfield 73, 3) := by decide +kernel
theorem dX6_lay_57 : decode cX6_lay 57 = .ok (.iload_n 1, 1) := by decide +kernel
theorem dX6_lay_58 : decode cX6_lay 58 = .ok (.iload_n 2, 1) := by decide +kernel
theorem dX6_lay_59 : decode cX6_lay 59 = .ok (.ifCond .eq 10, 3) := by decide +kernel
theorem dX6_lay_62 : decode cX6_lay 62 = .ok (.aload_n 0, 1) := by decide +kernel
theorem dX6_lay_63 : decode cX6_lay 63 = .ok (.getfield 150, 3) := by decide +kernel
theorem dX6_lay_66 : decode cX6_lay 66 = .ok (.goto 4, 3) := by decide +kernel
theorem dX6_lay_69 : decode cX6_lay 69 = .ok (.iconst (-1), 1) := by decide +kernel
theorem dX6_lay_70 : decode cX6_lay 70 = .ok (.iastore, 1) := by decide +kernel
theorem dX6_lay_71 : decode cX6_lay 71 = .ok (.iload_n 2, 1) := by decide +kernel
theorem dX6_lay_72 : decode cX6_lay 72 = .ok (.ifCond .eq 23, 3) := by decide +kernel
theorem dX6_lay_75 : decode cX6_lay 75 = .ok (.aload_n 0, 1) := by decide +kernel
theorem dX6_lay_76 : decode cX6_lay 76 = .ok (.getfield 61, 3) := by decide +kernel
theorem dX6_lay_79 : decode cX6_lay 79 = .ok (.aload_n 0, 1) := by decide +kernel
theorem dX6_lay_80 : decode cX6_lay 80 = .ok (.getfield 150, 3) := by decide +kernel
theorem dX6_lay_83 : decode cX6_lay 83 = .ok (.iload_n 1, 1) := by decide +kernel
theorem dX6_lay_84 : decode cX6_lay 84 = .ok (.iastore, 1) := by decide +kernel
theorem dX6_lay_85 : decode cX6_lay 85 = .ok (.aload_n 0, 1) := by decide +kernel
theorem dX6_lay_86 : decode cX6_lay 86 = .ok (.dup, 1) := by decide +kernel
theorem dX6_lay_87 : decode cX6_lay 87 = .ok (.getfield 150, 3) := by decide +kernel
theorem dX6_lay_90 : decode cX6_lay 90 = .ok (.iconst 1, 1) := by decide +kernel
theorem dX6_lay_91 : decode cX6_lay 91 = .ok (.iadd, 1) := by decide +kernel
theorem dX6_lay_92 : decode cX6_lay 92 = .ok (.putfield 150, 3) := by decide +kernel
theorem dX6_lay_95 : decode cX6_lay 95 = .ok (.iinc 1 1, 3) := by decide +kernel
theorem dX6_lay_98 : decode cX6_lay 98 = .ok (.goto (-78), 3) := by decide +kernel
theorem dX6_lay_101 : decode cX6_lay 101 = .ok (.aload_n 0, 1) := by decide +kernel
theorem dX6_lay_102 : decode cX6_lay 102 = .ok (.invokevirtual 156, 3) := by decide +kernel
theorem dX6_lay_105 : decode cX6_lay 105 = .ok (.return_, 1) := by decide +kernel
theorem dX6_placeOf_0 : decode cX6_placeOf 0 = .ok (.iload_n 1, 1) := by decide +kernel
theorem dX6_placeOf_1 : decode cX6_placeOf 1 = .ok (.iconst 0, 1) := by decide +kernel
theorem dX6_placeOf_2 : decode cX6_placeOf 2 = .ok (.sipush 9999, 3) := by decide +kernel
theorem dX6_placeOf_5 : decode cX6_placeOf 5 = .ok (.invokestatic 38, 3) := by decide +kernel
theorem dX6_placeOf_8 : decode cX6_placeOf 8 = .ok (.ifCond .eq 12, 3) := by decide +kernel
theorem dX6_placeOf_11 : decode cX6_placeOf 11 = .ok (.aload_n 0, 1) := by decide +kernel
theorem dX6_placeOf_12 : decode cX6_placeOf 12 = .ok (.getfield 73, 3) := by decide +kernel
theorem dX6_placeOf_15 : decode cX6_placeOf 15 = .ok (.iload_n 1, 1) := by decide +kernel
theorem dX6_placeOf_16 : decode cX6_placeOf 16 = .ok (.iaload, 1) := by decide +kernel
theorem dX6_placeOf_17 : decode cX6_placeOf 17 = .ok (.goto 4, 3) := by decide +kernel
theorem dX6_placeOf_20 : decode cX6_placeOf 20 = .ok (.iconst (-1), 1) := by decide +kernel
theorem dX6_placeOf_21 : decode cX6_placeOf 21 = .ok (.ireturn, 1) := by decide +kernel
theorem dX6_swap_0 : decode cX6_swap 0 = .ok (.iconst 2, 1) := by decide +kernel
theorem dX6_swap_1 : decode cX6_swap 1 = .ok (.aload_n 0, 1) := by decide +kernel
theorem dX6_swap_2 : decode cX6_swap 2 = .ok (.getfield 133, 3) := by decide +kernel
theorem dX6_swap_5 : decode cX6_swap 5 = .ok (.imul, 1) := by decide +kernel
theorem dX6_swap_6 : decode cX6_swap 6 = .ok (.iload_n 1, 1) := by decide +kernel
theorem dX6_swap_7 : decode cX6_swap 7 = .ok (.iadd, 1) := by decide +kernel
theorem dX6_swap_8 : decode cX6_swap 8 = .ok (.iconst 1, 1) := by decide +kernel
theorem dX6_swap_9 : decode cX6_swap 9 = .ok (.isub, 1) := by decide +kernel
theorem dX6_swap_10 : decode cX6_swap 10 = .ok (.istore_n 2, 1) := by decide +kernel
theorem dX6_swap_11 : decode cX6_swap 11 = .ok (.aload_n 0, 1) := by decide +kernel
theorem dX6_swap_12 : decode cX6_swap 12 = .ok (.getfield 109, 3) := by decide +kernel
theorem dX6_swap_15 : decode cX6_swap 15 = .ok (.iload_n 2, 1) := by decide +kernel
theorem dX6_swap_16 : decode cX6_swap 16 = .ok (.iaload, 1) := by decide +kernel
theorem dX6_swap_17 : decode cX6_swap 17 = .ok (.istore_n 3, 1) := by decide +kernel
theorem dX6_swap_18 : decode cX6_swap 18 = .ok (.aload_n 0, 1) := by decide +kernel
theorem dX6_swap_19 : decode cX6_swap 19 = .ok (.getfield 109, 3) := by decide +kernel
theorem dX6_swap_22 : decode cX6_swap 22 = .ok (.iload_n 2, 1) := by decide +kernel
theorem dX6_swap_23 : decode cX6_swap 23 = .ok (.aload_n 0, 1) := by decide +kernel
theorem dX6_swap_24 : decode cX6_swap 24 = .ok (.getfield 109, 3) := by decide +kernel
theorem dX6_swap_27 : decode cX6_swap 27 = .ok (.iload_n 2, 1) := by decide +kernel
theorem dX6_swap_28 : decode cX6_swap 28 = .ok (.iconst 1, 1) := by decide +kernel
theorem dX6_swap_29 : decode cX6_swap 29 = .ok (.iadd, 1) := by decide +kernel
theorem dX6_swap_30 : decode cX6_swap 30 = .ok (.iaload, 1) := by decide +kernel
theorem dX6_swap_31 : decode cX6_swap 31 = .ok (.iastore, 1) := by decide +kernel
theorem dX6_swap_32 : decode cX6_swap 32 = .ok (.aload_n 0, 1) := by decide +kernel
theorem dX6_swap_33 : decode cX6_swap 33 = .ok (.getfield 109, 3) := by decide +kernel
theorem dX6_swap_36 : decode cX6_swap 36 = .ok (.iload_n 2, 1) := by decide +kernel
theorem dX6_swap_37 : decode cX6_swap 37 = .ok (.iconst 1, 1) := by decide +kernel
theorem dX6_swap_38 : decode cX6_swap 38 = .ok (.iadd, 1) := by decide +kernel
theorem dX6_swap_39 : decode cX6_swap 39 = .ok (.aload_n 0, 1) := by decide +kernel
theorem dX6_swap_40 : decode cX6_swap 40 = .ok (.iload_n 3, 1) := by decide +kernel
theorem dX6_swap_41 : decode cX6_swap 41 = .ok (.aload_n 0, 1) := by decide +kernel
theorem dX6_swap_42 : decode cX6_swap 42 = .ok (.getfield 109, 3) := by decide +kernel
theorem dX6_swap_45 : decode cX6_swap 45 = .ok (.iload_n 2, 1) := by decide +kernel
theorem dX6_swap_46 : decode cX6_swap 46 = .ok (.iconst 1, 1) := by decide +kernel
theorem dX6_swap_47 : decode cX6_swap 47 = .ok (.iadd, 1) := by decide +kernel
theorem dX6_swap_48 : decode cX6_swap 48 = .ok (.iaload, 1) := by decide +kernel
theorem dX6_swap_49 : decode cX6_swap 49 = .ok (.invokevirtual 49, 3) := by decide +kernel
theorem dX6_swap_52 : decode cX6_swap 52 = .ok (.iastore, 1) := by decide +kernel
theorem dX6_swap_53 : decode cX6_swap 53 = .ok (.return_, 1) := by decide +kernel
theorem dX6_isMove_0 : decode cX6_isMove 0 = .ok (.iload_n 1, 1) := by decide +kernel
theorem dX6_isMove_1 : decode cX6_isMove 1 = .ok (.iconst 1, 1) := by decide +kernel
theorem dX6_isMove_2 : decode cX6_isMove 2 = .ok (.aload_n 0, 1) := by decide +kernel
theorem dX6_isMove_3 : decode cX6_isMove 3 = .ok (.getfield 130, 3) := by decide +kernel
theorem dX6_isMove_6 : decode cX6_isMove 6 = .ok (.iconst 1, 1) := by decide +kernel
theorem dX6_isMove_7 : decode cX6_isMove 7 = .ok (.isub, 1) := by decide +kernel
theorem dX6_isMove_8 : decode cX6_isMove 8 = .ok (.invokestatic 38, 3) := by decide +kernel
theorem dX6_isMove_11 : decode cX6_isMove 11 = .ok (.ifCond .ne 38, 3) := by decide +kernel
theorem dX6_isMove_14 : decode cX6_isMove 14 = .ok (.iload_n 1, 1) := by decide +kernel
theorem dX6_isMove_15 : decode cX6_isMove 15 = .ok (.bipush 10, 2) := by decide +kernel
theorem dX6_isMove_17 : decode cX6_isMove 17 = .ok (.bipush 9, 2) := by decide +kernel
theorem dX6_isMove_19 : decode cX6_isMove 19 = .ok (.aload_n 0, 1) := by decide +kernel
theorem dX6_isMove_20 : decode cX6_isMove 20 = .ok (.getfield 14, 3) := by decide +kernel
theorem dX6_isMove_23 : decode cX6_isMove 23 = .ok (.iadd, 1) := by decide +kernel
theorem dX6_isMove_24 : decode cX6_isMove 24 = .ok (.invokestatic 38, 3) := by decide +kernel
theorem dX6_isMove_27 : decode cX6_isMove 27 = .ok (.ifCond .ne 22, 3) := by decide +kernel
theorem dX6_isMove_30 : decode cX6_isMove 30 = .ok (.aload_n 0, 1) := by decide +kernel
theorem dX6_isMove_31 : decode cX6_isMove 31 = .ok (.getfield 133, 3) := by decide +kernel
theorem dX6_isMove_34 : decode cX6_isMove 34 = .ok (.iconst 1, 1) := by decide +kernel
theorem dX6_isMove_35 : decode cX6_isMove 35 = .ok (.if_icmp .ne 18, 3) := by decide +kernel
theorem dX6_isMove_38 : decode cX6_isMove 38 = .ok (.iload_n 1, 1) := by decide +kernel
theorem dX6_isMove_39 : decode cX6_isMove 39 = .ok (.bipush 20, 2) := by decide +kernel
theorem dX6_isMove_41 : decode cX6_isMove 41 = .ok (.bipush 21, 2) := by decide +kernel
theorem dX6_isMove_43 : decode cX6_isMove 43 = .ok (.invokestatic 38, 3) := by decide +kernel
theorem dX6_isMove_46 : decode cX6_isMove 46 = .ok (.ifCond .eq 7, 3) := by decide +kernel
theorem dX6_isMove_49 : decode cX6_isMove 49 = .ok (.iconst 1, 1) := by decide +kernel
theorem dX6_isMove_50 : decode cX6_isMove 50 = .ok (.goto 4, 3) := by decide +kernel
theorem dX6_isMove_53 : decode cX6_isMove 53 = .ok (.iconst 0, 1) := by decide +kernel
theorem dX6_isMove_54 : decode cX6_isMove 54 = .ok (.ireturn, 1) := by decide +kernel
theorem dX6_moved_0 : decode cX6_moved 0 = .ok (.aload_n 0, 1) := by decide +kernel
theorem dX6_moved_1 : decode cX6_moved 1 = .ok (.iload_n 1, 1) := by decide +kernel
theorem dX6_moved_2 : decode cX6_moved 2 = .ok (.invokevirtual 143, 3) := by decide +kernel
theorem dX6_moved_5 : decode cX6_moved 5 = .ok (.iload_n 2, 1) := by decide +kernel
theorem dX6_moved_6 : decode cX6_moved 6 = .ok (.bipush 10, 2) := by decide +kernel
theorem dX6_moved_8 : decode cX6_moved 8 = .ok (.if_icmp .ge 33, 3) := by decide +kernel
theorem dX6_moved_11 : decode cX6_moved 11 = .ok (.aload_n 0, 1) := by decide +kernel
theorem dX6_moved_12 : decode cX6_moved 12 = .ok (.iload_n 2, 1) := by decide +kernel
theorem dX6_moved_13 : decode cX6_moved 13 = .ok (.invokevirtual 159, 3) := by decide +kernel
theorem dX6_moved_16 : decode cX6_moved 16 = .ok (.aload_n 0, 1) := by decide +kernel
theorem dX6_moved_17 : decode cX6_moved 17 = .ok (.getfield 58, 3) := by decide +kernel
theorem dX6_moved_20 : decode cX6_moved 20 = .ok (.iload_n 2, 1) := by decide +kernel
theorem dX6_moved_21 : decode cX6_moved 21 = .ok (.iconst 1, 1) := by decide +kernel
theorem dX6_moved_22 : decode cX6_moved 22 = .ok (.isub, 1) := by decide +kernel
theorem dX6_moved_23 : decode cX6_moved 23 = .ok (.iaload, 1) := by decide +kernel
theorem dX6_moved_24 : decode cX6_moved 24 = .ok (.aload_n 0, 1) := by decide +kernel
theorem dX6_moved_25 : decode cX6_moved 25 = .ok (.getfield 58, 3) := by decide +kernel
theorem dX6_moved_28 : decode cX6_moved 28 = .ok (.iload_n 2, 1) := by decide +kernel
theorem dX6_moved_29 : decode cX6_moved 29 = .ok (.iaload, 1) := by decide +kernel
theorem dX6_moved_30 : decode cX6_moved 30 = .ok (.if_icmp .eq 109, 3) := by decide +kernel
theorem dX6_moved_33 : decode cX6_moved 33 = .ok (.aload_n 0, 1) := by decide +kernel
theorem dX6_moved_34 : decode cX6_moved 34 = .ok (.iload_n 2, 1) := by decide +kernel
theorem dX6_moved_35 : decode cX6_moved 35 = .ok (.invokevirtual 159, 3) := by decide +kernel
theorem dX6_moved_38 : decode cX6_moved 38 = .ok (.goto 101, 3) := by decide +kernel
theorem dX6_moved_41 : decode cX6_moved 41 = .ok (.iload_n 2, 1) := by decide +kernel
theorem dX6_moved_42 : decode cX6_moved 42 = .ok (.bipush 20, 2) := by decide +kernel
theorem dX6_moved_44 : decode cX6_moved 44 = .ok (.if_icmp .ge 42, 3) := by decide +kernel
theorem dX6_moved_47 : decode cX6_moved 47 = .ok (.iconst 0, 1) := by decide +kernel
theorem dX6_moved_48 : decode cX6_moved 48 = .ok (.istore_n 3, 1) := by decide +kernel
theorem dX6_moved_49 : decode cX6_moved 49 = .ok (.iload_n 3, 1) := by decide +kernel
theorem dX6_moved_50 : decode cX6_moved 50 = .ok (.aload_n 0, 1) := by decide +kernel
theorem dX6_moved_51 : decode cX6_moved 51 = .ok (.invokevirtual 136, 3) := by decide +kernel
theorem dX6_moved_54 : decode cX6_moved 54 = .ok (.if_icmp .ge 29, 3) := by decide +kernel
theorem dX6_moved_57 : decode cX6_moved 57 = .ok (.aload_n 0, 1) := by decide +kernel
theorem dX6_moved_58 : decode cX6_moved 58 = .ok (.getfield 109, 3) := by decide +kernel
theorem dX6_moved_61 : decode cX6_moved 61 = .ok (.iload_n 3, 1) := by decide +kernel
theorem dX6_moved_62 : decode cX6_moved 62 = .ok (.aload_n 0, 1) := by decide +kernel
theorem dX6_moved_63 : decode cX6_moved 63 = .ok (.aload_n 0, 1) := by decide +kernel
theorem dX6_moved_64 : decode cX6_moved 64 = .ok (.getfield 109, 3) := by decide +kernel
theorem dX6_moved_67 : decode cX6_moved 67 = .ok (.iload_n 3, 1) := by decide +kernel
theorem dX6_moved_68 : decode cX6_moved 68 = .ok (.iaload, 1) := by decide +kernel
theorem dX6_moved_69 : decode cX6_moved 69 = .ok (.iload_n 2, 1) := by decide +kernel
theorem dX6_moved_70 : decode cX6_moved 70 = .ok (.bipush 10, 2) := by decide +kernel
theorem dX6_moved_72 : decode cX6_moved 72 = .ok (.isub, 1) := by decide +kernel
theorem dX6_moved_73 : decode cX6_moved 73 = .ok (.invokevirtual 49, 3) := by decide +kernel
theorem dX6_moved_76 : decode cX6_moved 76 = .ok (.iastore, 1) := by decide +kernel
theorem dX6_moved_77 : decode cX6_moved 77 = .ok (.iinc 3 1, 3) := by decide +kernel
theorem dX6_moved_80 : decode cX6_moved 80 = .ok (.goto (-31), 3) := by decide +kernel
theorem dX6_moved_83 : decode cX6_moved 83 = .ok (.goto 56, 3) := by decide +kernel
theorem dX6_moved_86 : decode cX6_moved 86 = .ok (.iload_n 2, 1) := by decide +kernel
theorem dX6_moved_87 : decode cX6_moved 87 = .ok (.bipush 20, 2) := by decide +kernel
theorem dX6_moved_89 : decode cX6_moved 89 = .ok (.if_icmp .ne 28, 3) := by decide +kernel
theorem dX6_moved_92 : decode cX6_moved 92 = .ok (.aload_n 0, 1) := by decide +kernel
theorem dX6_moved_93 : decode cX6_moved 93 = .ok (.getfield 109, 3) := by decide +kernel
theorem dX6_moved_96 : decode cX6_moved 96 = .ok (.iconst 0, 1) := by decide +kernel
theorem dX6_moved_97 : decode cX6_moved 97 = .ok (.aload_n 0, 1) := by decide +kernel
theorem dX6_moved_98 : decode cX6_moved 98 = .ok (.aload_n 0, 1) := by decide +kernel
theorem dX6_moved_99 : decode cX6_moved 99 = .ok (.getfield 109, 3) := by decide +kernel
theorem dX6_moved_102 : decode cX6_moved 102 = .ok (.iconst 0, 1) := by decide +kernel
theorem dX6_moved_103 : decode cX6_moved 103 = .ok (.iaload, 1) := by decide +kernel
theorem dX6_moved_104 : decode cX6_moved 104 = .ok (.aload_n 0, 1) := by decide +kernel
theorem dX6_moved_105 : decode cX6_moved 105 = .ok (.getfield 109, 3) := by decide +kernel
theorem dX6_moved_108 : decode cX6_moved 108 = .ok (.iconst 1, 1) := by decide +kernel
theorem dX6_moved_109 : decode cX6_moved 109 = .ok (.iaload, 1) := by decide +kernel
theorem dX6_moved_110 : decode cX6_moved 110 = .ok (.invokevirtual 31, 3) := by decide +kernel
theorem dX6_moved_113 : decode cX6_moved 113 = .ok (.iastore, 1) := by decide +kernel
theorem dX6_moved_114 : decode cX6_moved 114 = .ok (.goto 25, 3) := by decide +kernel
theorem dX6_moved_117 : decode cX6_moved 117 = .ok (.aload_n 0, 1) := by decide +kernel
theorem dX6_moved_118 : decode cX6_moved 118 = .ok (.getfield 109, 3) := by decide +kernel
theorem dX6_moved_121 : decode cX6_moved 121 = .ok (.iconst 1, 1) := by decide +kernel
theorem dX6_moved_122 : decode cX6_moved 122 = .ok (.aload_n 0, 1) := by decide +kernel
theorem dX6_moved_123 : decode cX6_moved 123 = .ok (.aload_n 0, 1) := by decide +kernel
theorem dX6_moved_124 : decode cX6_moved 124 = .ok (.getfield 109, 3) := by decide +kernel
theorem dX6_moved_127 : decode cX6_moved 127 = .ok (.iconst 1, 1) := by decide +kernel
theorem dX6_moved_128 : decode cX6_moved 128 = .ok (.iaload, 1) := by decide +kernel
theorem dX6_moved_129 : decode cX6_moved 129 = .ok (.aload_n 0, 1) := by decide +kernel
theorem dX6_moved_130 : decode cX6_moved 130 = .ok (.getfield 109, 3) := by decide +kernel
theorem dX6_moved_133 : decode cX6_moved 133 = .ok (.iconst 0, 1) := by decide +kernel
theorem dX6_moved_134 : decode cX6_moved 134 = .ok (.iaload, 1) := by decide +kernel
theorem dX6_moved_135 : decode cX6_moved 135 = .ok (.invokevirtual 31, 3) := by decide +kernel
theorem dX6_moved_138 : decode cX6_moved 138 = .ok (.iastore, 1) := by decide +kernel
theorem dX6_moved_139 : decode cX6_moved 139 = .ok (.aload_n 0, 1) := by decide +kernel
theorem dX6_moved_140 : decode cX6_moved 140 = .ok (.invokevirtual 162, 3) := by decide +kernel
theorem dX6_moved_143 : decode cX6_moved 143 = .ok (.ireturn, 1) := by decide +kernel
theorem dX6_spread_0 : decode cX6_spread 0 = .ok (.iconst 0, 1) := by decide +kernel
theorem dX6_spread_1 : decode cX6_spread 1 = .ok (.istore_n 2, 1) := by decide +kernel
theorem dX6_spread_2 : decode cX6_spread 2 = .ok (.iload_n 2, 1) := by decide +kernel
theorem dX6_spread_3 : decode cX6_spread 3 = .ok (.aload_n 0, 1) := by decide +kernel
theorem dX6_spread_4 : decode cX6_spread 4 = .ok (.getfield 150, 3) := by decide +kernel
theorem dX6_spread_7 : decode cX6_spread 7 = .ok (.if_icmp .ge 16, 3) := by decide +kernel
theorem dX6_spread_10 : decode cX6_spread 10 = .ok (.aload_n 0, 1) := by decide +kernel
theorem dX6_spread_11 : decode cX6_spread 11 = .ok (.getfield 67, 3) := by decide +kernel
theorem dX6_spread_14 : decode cX6_spread 14 = .ok (.iload_n 2, 1) := by decide +kernel
theorem dX6_spread_15 : decode cX6_spread 15 = .ok (.iconst (-1), 1) := by decide +kernel
theorem dX6_spread_16 : decode cX6_spread 16 = .ok (.iastore, 1) := by decide +kernel
theorem dX6_spread_17 : decode cX6_spread 17 = .ok (.iinc 2 1, 3) := by decide +kernel
theorem dX6_spread_20 : decode cX6_spread 20 = .ok (.goto (-18), 3) := by decide +kernel
theorem dX6_spread_23 : decode cX6_spread 23 = .ok (.aload_n 0, 1) := by decide +kernel
theorem dX6_spread_24 : decode cX6_spread 24 = .ok (.getfield 67, 3) := by decide +kernel
theorem dX6_spread_27 : decode cX6_spread 27 = .ok (.iload_n 1, 1) := by decide +kernel
theorem dX6_spread_28 : decode cX6_spread 28 = .ok (.iconst 0, 1) := by decide +kernel
theorem dX6_spread_29 : decode cX6_spread 29 = .ok (.iastore, 1) := by decide +kernel
theorem dX6_spread_30 : decode cX6_spread 30 = .ok (.aload_n 0, 1) := by decide +kernel
theorem dX6_spread_31 : decode cX6_spread 31 = .ok (.getfield 70, 3) := by decide +kernel
theorem dX6_spread_34 : decode cX6_spread 34 = .ok (.iconst 0, 1) := by decide +kernel
theorem dX6_spread_35 : decode cX6_spread 35 = .ok (.iload_n 1, 1) := by decide +kernel
theorem dX6_spread_36 : decode cX6_spread 36 = .ok (.iastore, 1) := by decide +kernel
theorem dX6_spread_37 : decode cX6_spread 37 = .ok (.iconst 1, 1) := by decide +kernel
theorem dX6_spread_38 : decode cX6_spread 38 = .ok (.istore_n 2, 1) := by decide +kernel
theorem dX6_spread_39 : decode cX6_spread 39 = .ok (.iconst 0, 1) := by decide +kernel
theorem dX6_spread_40 : decode cX6_spread 40 = .ok (.istore_n 3, 1) := by decide +kernel
theorem dX6_spread_41 : decode cX6_spread 41 = .ok (.iload_n 3, 1) := by decide +kernel
theorem dX6_spread_42 : decode cX6_spread 42 = .ok (.iload_n 2, 1) := by decide +kernel
theorem dX6_spread_43 : decode cX6_spread 43 = .ok (.if_icmp .ge 99, 3) := by decide +kernel
theorem dX6_spread_46 : decode cX6_spread 46 = .ok (.iconst 1, 1) := by decide +kernel
theorem dX6_spread_47 : decode cX6_spread 47 = .ok (.istore 4, 2) := by decide +kernel
theorem dX6_spread_49 : decode cX6_spread 49 = .ok (.iload 4, 2) := by decide +kernel
theorem dX6_spread_51 : decode cX6_spread 51 = .ok (.bipush 22, 2) := by decide +kernel
theorem dX6_spread_53 : decode cX6_spread 53 = .ok (.if_icmp .ge 83, 3) := by decide +kernel
theorem dX6_spread_56 : decode cX6_spread 56 = .ok (.aload_n 0, 1) := by decide +kernel
theorem dX6_spread_57 : decode cX6_spread 57 = .ok (.iload 4, 2) := by decide +kernel
theorem dX6_spread_59 : decode cX6_spread 59 = .ok (.invokevirtual 165, 3) := by decide +kernel
theorem dX6_spread_62 : decode cX6_spread 62 = .ok (.ifCond .eq 68, 3) := by decide +kernel
theorem dX6_spread_65 : decode cX6_spread 65 = .ok (.aload_n 0, 1) := by decide +kernel
theorem dX6_spread_66 : decode cX6_spread 66 = .ok (.aload_n 0, 1) := by decide +kernel
theorem dX6_spread_67 : decode cX6_spread 67 = .ok (.aload_n 0, 1) := by decide +kernel
theorem dX6_spread_68 : decode cX6_spread 68 = .ok (.getfield 61, 3) := by decide +kernel
theorem dX6_spread_71 : decode cX6_spread 71 = .ok (.aload_n 0, 1) := by decide +kernel
theorem dX6_spread_72 : decode cX6_spread 72 = .ok (.getfield 70, 3) := by decide +kernel
theorem dX6_spread_75 : decode cX6_spread 75 = .ok (.iload_n 3, 1) := by decide +kernel
theorem dX6_spread_76 : decode cX6_spread 76 = .ok (.iaload, 1) := by decide +kernel
theorem dX6_spread_77 : decode cX6_spread 77 = .ok (.iaload, 1) := by decide +kernel
theorem dX6_spread_78 : decode cX6_spread 78 = .ok (.iload 4, 2) := by decide +kernel
theorem dX6_spread_80 : decode cX6_spread 80 = .ok (.invokevirtual 168, 3) := by decide +kernel
theorem dX6_spread_83 : decode cX6_spread 83 = .ok (.invokevirtual 171, 3) := by decide +kernel
theorem dX6_spread_86 : decode cX6_spread 86 = .ok (.istore 5, 2) := by decide +kernel
theorem dX6_spread_88 : decode cX6_spread 88 = .ok (.aload_n 0, 1) := by decide +kernel
theorem dX6_spread_89 : decode cX6_spread 89 = .ok (.getfield 67, 3) := by decide +kernel
theorem dX6_spread_92 : decode cX6_spread 92 = .ok (.iload 5, 2) := by decide +kernel
theorem dX6_spread_94 : decode cX6_spread 94 = .ok (.iaload, 1) := by decide +kernel
theorem dX6_spread_95 : decode cX6_spread 95 = .ok (.iconst (-1), 1) := by decide +kernel
theorem dX6_spread_96 : decode cX6_spread 96 = .ok (.if_icmp .ne 34, 3) := by decide +kernel
theorem dX6_spread_99 : decode cX6_spread 99 = .ok (.aload_n 0, 1) := by decide +kernel
theorem dX6_spread_100 : decode cX6_spread 100 = .ok (.getfield 67, 3) := by decide +kernel
theorem dX6_spread_103 : decode cX6_spread 103 = .ok (.iload 5, 2) := by decide +kernel
theorem dX6_spread_105 : decode cX6_spread 105 = .ok (.aload_n 0, 1) := by decide +kernel
theorem dX6_spread_106 : decode cX6_spread 106 = .ok (.getfield 67, 3) := by decide +kernel
theorem dX6_spread_109 : decode cX6_spread 109 = .ok (.aload_n 0, 1) := by decide +kernel
theorem dX6_spread_110 : decode cX6_spread 110 = .ok (.getfield 70, 3) := by decide +kernel
theorem dX6_spread_113 : decode cX6_spread 113 = .ok (.iload_n 3, 1) := by decide +kernel
theorem dX6_spread_114 : decode cX6_spread 114 = .ok (.iaload, 1) := by decide +kernel
theorem dX6_spread_115 : decode cX6_spread 115 = .ok (.iaload, 1) := by decide +kernel
theorem dX6_spread_116 : decode cX6_spread 116 = .ok (.iconst 1, 1) := by decide +kernel
theorem dX6_spread_117 : decode cX6_spread 117 = .ok (.iadd, 1) := by decide +kernel
theorem dX6_spread_118 : decode cX6_spread 118 = .ok (.iastore, 1) := by decide +kernel
theorem dX6_spread_119 : decode cX6_spread 119 = .ok (.aload_n 0, 1) := by decide +kernel
theorem dX6_spread_120 : decode cX6_spread 120 = .ok (.getfield 70, 3) := by decide +kernel
theorem dX6_spread_123 : decode cX6_spread 123 = .ok (.iload_n 2, 1) := by decide +kernel
theorem dX6_spread_124 : decode cX6_spread 124 = .ok (.iload 5, 2) := by decide +kernel
