theorem dX6_init_0 : decode cX6_init 0 = .ok (.aload_n 0, 1) := by decide +kernel
theorem dX6_init_1 : decode cX6_init 1 = .ok (.invokespecial 1, 3) := by decide +kernel
theorem dX6_init_4 : decode cX6_init 4 = .ok (.aload_n 0, 1) := by decide +kernel
theorem dX6_init_5 : decode cX6_init 5 = .ok (.new 7, 3) := by decide +kernel
theorem dX6_init_8 : decode cX6_init 8 = .ok (.dup, 1) := by decide +kernel
theorem dX6_init_9 : decode cX6_init 9 = .ok (.invokespecial 9, 3) := by decide +kernel
theorem dX6_init_12 : decode cX6_init 12 = .ok (.putfield 10, 3) := by decide +kernel
theorem dX6_init_15 : decode cX6_init 15 = .ok (.aload_n 0, 1) := by decide +kernel
theorem dX6_init_16 : decode cX6_init 16 = .ok (.new 7, 3) := by decide +kernel
theorem dX6_init_19 : decode cX6_init 19 = .ok (.dup, 1) := by decide +kernel
theorem dX6_init_20 : decode cX6_init 20 = .ok (.invokespecial 9, 3) := by decide +kernel
theorem dX6_init_23 : decode cX6_init 23 = .ok (.putfield 16, 3) := by decide +kernel
theorem dX6_init_26 : decode cX6_init 26 = .ok (.aload_n 0, 1) := by decide +kernel
theorem dX6_init_27 : decode cX6_init 27 = .ok (.iconst 0, 1) := by decide +kernel
theorem dX6_init_28 : decode cX6_init 28 = .ok (.putfield 19, 3) := by decide +kernel
theorem dX6_init_31 : decode cX6_init 31 = .ok (.aload_n 0, 1) := by decide +kernel
theorem dX6_init_32 : decode cX6_init 32 = .ok (.new 7, 3) := by decide +kernel
theorem dX6_init_35 : decode cX6_init 35 = .ok (.dup, 1) := by decide +kernel
theorem dX6_init_36 : decode cX6_init 36 = .ok (.invokespecial 9, 3) := by decide +kernel
theorem dX6_init_39 : decode cX6_init 39 = .ok (.putfield 23, 3) := by decide +kernel
theorem dX6_init_42 : decode cX6_init 42 = .ok (.aload_n 0, 1) := by decide +kernel
theorem dX6_init_43 : decode cX6_init 43 = .ok (.new 26, 3) := by decide +kernel
theorem dX6_init_46 : decode cX6_init 46 = .ok (.dup, 1) := by decide +kernel
theorem dX6_init_47 : decode cX6_init 47 = .ok (.invokespecial 28, 3) := by decide +kernel
theorem dX6_init_50 : decode cX6_init 50 = .ok (.putfield 29, 3) := by decide +kernel
theorem dX6_init_53 : decode cX6_init 53 = .ok (.aload_n 0, 1) := by decide +kernel
theorem dX6_init_54 : decode cX6_init 54 = .ok (.new 33, 3) := by decide +kernel
theorem dX6_init_57 : decode cX6_init 57 = .ok (.dup, 1) := by decide +kernel
theorem dX6_init_58 : decode cX6_init 58 = .ok (.aload_n 0, 1) := by decide +kernel
theorem dX6_init_59 : decode cX6_init 59 = .ok (.getfield 10, 3) := by decide +kernel
theorem dX6_init_62 : decode cX6_init 62 = .ok (.getfield 35, 3) := by decide +kernel
theorem dX6_init_65 : decode cX6_init 65 = .ok (.invokespecial 39, 3) := by decide +kernel
theorem dX6_init_68 : decode cX6_init 68 = .ok (.putfield 42, 3) := by decide +kernel
theorem dX6_init_71 : decode cX6_init 71 = .ok (.aload_n 0, 1) := by decide +kernel
theorem dX6_init_72 : decode cX6_init 72 = .ok (.bipush 120, 2) := by decide +kernel
theorem dX6_init_74 : decode cX6_init 74 = .ok (.newarray .int, 2) := by decide +kernel
theorem dX6_init_76 : decode cX6_init 76 = .ok (.putfield 46, 3) := by decide +kernel
theorem dX6_init_79 : decode cX6_init 79 = .ok (.aload_n 0, 1) := by decide +kernel
theorem dX6_init_80 : decode cX6_init 80 = .ok (.iconst 0, 1) := by decide +kernel
theorem dX6_init_81 : decode cX6_init 81 = .ok (.putfield 50, 3) := by decide +kernel
theorem dX6_init_84 : decode cX6_init 84 = .ok (.aload_n 0, 1) := by decide +kernel
theorem dX6_init_85 : decode cX6_init 85 = .ok (.new 54, 3) := by decide +kernel
theorem dX6_init_88 : decode cX6_init 88 = .ok (.dup, 1) := by decide +kernel
theorem dX6_init_89 : decode cX6_init 89 = .ok (.aload_n 0, 1) := by decide +kernel
theorem dX6_init_90 : decode cX6_init 90 = .ok (.getfield 46, 3) := by decide +kernel
theorem dX6_init_93 : decode cX6_init 93 = .ok (.aload_n 0, 1) := by decide +kernel
theorem dX6_init_94 : decode cX6_init 94 = .ok (.getfield 23, 3) := by decide +kernel
theorem dX6_init_97 : decode cX6_init 97 = .ok (.invokespecial 56, 3) := by decide +kernel
theorem dX6_init_100 : decode cX6_init 100 = .ok (.putfield 59, 3) := by decide +kernel
theorem dX6_init_103 : decode cX6_init 103 = .ok (.aload_n 0, 1) := by decide +kernel
theorem dX6_init_104 : decode cX6_init 104 = .ok (.bipush 7, 2) := by decide +kernel
theorem dX6_init_106 : decode cX6_init 106 = .ok (.newarray .int, 2) := by decide +kernel
theorem dX6_init_108 : decode cX6_init 108 = .ok (.putfield 63, 3) := by decide +kernel
theorem dX6_init_111 : decode cX6_init 111 = .ok (.aload_n 0, 1) := by decide +kernel
theorem dX6_init_112 : decode cX6_init 112 = .ok (.iconst 4, 1) := by decide +kernel
theorem dX6_init_113 : decode cX6_init 113 = .ok (.anewarray 66, 3) := by decide +kernel
theorem dX6_init_116 : decode cX6_init 116 = .ok (.putfield 68, 3) := by decide +kernel
theorem dX6_init_119 : decode cX6_init 119 = .ok (.iconst 0, 1) := by decide +kernel
theorem dX6_init_120 : decode cX6_init 120 = .ok (.istore_n 1, 1) := by decide +kernel
theorem dX6_init_121 : decode cX6_init 121 = .ok (.iload_n 1, 1) := by decide +kernel
theorem dX6_init_122 : decode cX6_init 122 = .ok (.iconst 4, 1) := by decide +kernel
theorem dX6_init_123 : decode cX6_init 123 = .ok (.if_icmp .ge 22, 3) := by decide +kernel
theorem dX6_init_126 : decode cX6_init 126 = .ok (.aload_n 0, 1) := by decide +kernel
theorem dX6_init_127 : decode cX6_init 127 = .ok (.getfield 68, 3) := by decide +kernel
theorem dX6_init_130 : decode cX6_init 130 = .ok (.iload_n 1, 1) := by decide +kernel
theorem dX6_init_131 : decode cX6_init 131 = .ok (.new 66, 3) := by decide +kernel
theorem dX6_init_134 : decode cX6_init 134 = .ok (.dup, 1) := by decide +kernel
theorem dX6_init_135 : decode cX6_init 135 = .ok (.invokespecial 72, 3) := by decide +kernel
theorem dX6_init_138 : decode cX6_init 138 = .ok (.aastore, 1) := by decide +kernel
theorem dX6_init_139 : decode cX6_init 139 = .ok (.iinc 1 1, 3) := by decide +kernel
theorem dX6_init_142 : decode cX6_init 142 = .ok (.goto (-21), 3) := by decide +kernel
theorem dX6_init_145 : decode cX6_init 145 = .ok (.return_, 1) := by decide +kernel
theorem dX6_friends_0 : decode cX6_friends 0 = .ok (.iload_n 1, 1) := by decide +kernel
theorem dX6_friends_1 : decode cX6_friends 1 = .ok (.iload_n 2, 1) := by decide +kernel
theorem dX6_friends_2 : decode cX6_friends 2 = .ok (.invokestatic 73, 3) := by decide +kernel
theorem dX6_friends_5 : decode cX6_friends 5 = .ok (.ifCond .eq 12, 3) := by decide +kernel
theorem dX6_friends_8 : decode cX6_friends 8 = .ok (.iload_n 3, 1) := by decide +kernel
theorem dX6_friends_9 : decode cX6_friends 9 = .ok (.ifCond .lt 8, 3) := by decide +kernel
theorem dX6_friends_12 : decode cX6_friends 12 = .ok (.iload_n 3, 1) := by decide +kernel
theorem dX6_friends_13 : decode cX6_friends 13 = .ok (.iconst 2, 1) := by decide +kernel
theorem dX6_friends_14 : decode cX6_friends 14 = .ok (.if_icmp .le 9, 3) := by decide +kernel
theorem dX6_friends_17 : decode cX6_friends 17 = .ok (.aload_n 0, 1) := by decide +kernel
theorem dX6_friends_18 : decode cX6_friends 18 = .ok (.iconst 0, 1) := by decide +kernel
theorem dX6_friends_19 : decode cX6_friends 19 = .ok (.invokevirtual 77, 3) := by decide +kernel
theorem dX6_friends_22 : decode cX6_friends 22 = .ok (.ireturn, 1) := by decide +kernel
theorem dX6_friends_23 : decode cX6_friends 23 = .ok (.aload_n 0, 1) := by decide +kernel
theorem dX6_friends_24 : decode cX6_friends 24 = .ok (.getfield 10, 3) := by decide +kernel
theorem dX6_friends_27 : decode cX6_friends 27 = .ok (.getfield 35, 3) := by decide +kernel
theorem dX6_friends_30 : decode cX6_friends 30 = .ok (.iload_n 1, 1) := by decide +kernel
theorem dX6_friends_31 : decode cX6_friends 31 = .ok (.iload_n 2, 1) := by decide +kernel
theorem dX6_friends_32 : decode cX6_friends 32 = .ok (.invokevirtual 81, 3) := by decide +kernel
theorem dX6_friends_35 : decode cX6_friends 35 = .ok (.istore 4, 2) := by decide +kernel
theorem dX6_friends_37 : decode cX6_friends 37 = .ok (.aload_n 0, 1) := by decide +kernel
theorem dX6_friends_38 : decode cX6_friends 38 = .ok (.getfield 10, 3) := by decide +kernel
theorem dX6_friends_41 : decode cX6_friends 41 = .ok (.getfield 35, 3) := by decide +kernel
theorem dX6_friends_44 : decode cX6_friends 44 = .ok (.iload_n 1, 1) := by decide +kernel
theorem dX6_friends_45 : decode cX6_friends 45 = .ok (.iload_n 2, 1) := by decide +kernel
theorem dX6_friends_46 : decode cX6_friends 46 = .ok (.iload_n 3, 1) := by decide +kernel
theorem dX6_friends_47 : decode cX6_friends 47 = .ok (.invokevirtual 87, 3) := by decide +kernel
theorem dX6_friends_50 : decode cX6_friends 50 = .ok (.iload 4, 2) := by decide +kernel
theorem dX6_friends_52 : decode cX6_friends 52 = .ok (.ireturn, 1) := by decide +kernel
theorem dX6_are_0 : decode cX6_are 0 = .ok (.iload_n 1, 1) := by decide +kernel
theorem dX6_are_1 : decode cX6_are 1 = .ok (.iload_n 2, 1) := by decide +kernel
theorem dX6_are_2 : decode cX6_are 2 = .ok (.invokestatic 73, 3) := by decide +kernel
theorem dX6_are_5 : decode cX6_are 5 = .ok (.ifCond .eq 18, 3) := by decide +kernel
theorem dX6_are_8 : decode cX6_are 8 = .ok (.aload_n 0, 1) := by decide +kernel
theorem dX6_are_9 : decode cX6_are 9 = .ok (.getfield 10, 3) := by decide +kernel
theorem dX6_are_12 : decode cX6_are 12 = .ok (.getfield 35, 3) := by decide +kernel
theorem dX6_are_15 : decode cX6_are 15 = .ok (.iload_n 1, 1) := by decide +kernel
theorem dX6_are_16 : decode cX6_are 16 = .ok (.iload_n 2, 1) := by decide +kernel
theorem dX6_are_17 : decode cX6_are 17 = .ok (.invokevirtual 81, 3) := by decide +kernel
theorem dX6_are_20 : decode cX6_are 20 = .ok (.goto 8, 3) := by decide +kernel
theorem dX6_are_23 : decode cX6_are 23 = .ok (.aload_n 0, 1) := by decide +kernel
theorem dX6_are_24 : decode cX6_are 24 = .ok (.iconst 0, 1) := by decide +kernel
theorem dX6_are_25 : decode cX6_are 25 = .ok (.invokevirtual 77, 3) := by decide +kernel
theorem dX6_are_28 : decode cX6_are 28 = .ok (.ireturn, 1) := by decide +kernel
theorem dX6_weight_0 : decode cX6_weight 0 = .ok (.iload_n 1, 1) := by decide +kernel
theorem dX6_weight_1 : decode cX6_weight 1 = .ok (.invokestatic 91, 3) := by decide +kernel
theorem dX6_weight_4 : decode cX6_weight 4 = .ok (.ifCond .eq 14, 3) := by decide +kernel
theorem dX6_weight_7 : decode cX6_weight 7 = .ok (.iload_n 2, 1) := by decide +kernel
theorem dX6_weight_8 : decode cX6_weight 8 = .ok (.iconst 1, 1) := by decide +kernel
theorem dX6_weight_9 : decode cX6_weight 9 = .ok (.if_icmp .lt 9, 3) := by decide +kernel
theorem dX6_weight_12 : decode cX6_weight 12 = .ok (.iload_n 2, 1) := by decide +kernel
theorem dX6_weight_13 : decode cX6_weight 13 = .ok (.bipush 99, 2) := by decide +kernel
theorem dX6_weight_15 : decode cX6_weight 15 = .ok (.if_icmp .le 9, 3) := by decide +kernel
theorem dX6_weight_18 : decode cX6_weight 18 = .ok (.aload_n 0, 1) := by decide +kernel
theorem dX6_weight_19 : decode cX6_weight 19 = .ok (.iconst 0, 1) := by decide +kernel
theorem dX6_weight_20 : decode cX6_weight 20 = .ok (.invokevirtual 77, 3) := by decide +kernel
theorem dX6_weight_23 : decode cX6_weight 23 = .ok (.ireturn, 1) := by decide +kernel
theorem dX6_weight_24 : decode cX6_weight 24 = .ok (.aload_n 0, 1) := by decide +kernel
theorem dX6_weight_25 : decode cX6_weight 25 = .ok (.getfield 10, 3) := by decide +kernel
theorem dX6_weight_28 : decode cX6_weight 28 = .ok (.getfield 35, 3) := by decide +kernel
theorem dX6_weight_31 : decode cX6_weight 31 = .ok (.getfield 95, 3) := by decide +kernel
theorem dX6_weight_34 : decode cX6_weight 34 = .ok (.iload_n 1, 1) := by decide +kernel
theorem dX6_weight_35 : decode cX6_weight 35 = .ok (.iaload, 1) := by decide +kernel
theorem dX6_weight_36 : decode cX6_weight 36 = .ok (.istore_n 3, 1) := by decide +kernel
theorem dX6_weight_37 : decode cX6_weight 37 = .ok (.aload_n 0, 1) := by decide +kernel
theorem dX6_weight_38 : decode cX6_weight 38 = .ok (.getfield 10, 3) := by decide +kernel
theorem dX6_weight_41 : decode cX6_weight 41 = .ok (.getfield 35, 3) := by decide +kernel
theorem dX6_weight_44 : decode cX6_weight 44 = .ok (.getfield 95, 3) := by decide +kernel
theorem dX6_weight_47 : decode cX6_weight 47 = .ok (.iload_n 1, 1) := by decide +kernel
theorem dX6_weight_48 : decode cX6_weight 48 = .ok (.iload_n 2, 1) := by decide +kernel
theorem dX6_weight_49 : decode cX6_weight 49 = .ok (.iastore, 1) := by decide +kernel
theorem dX6_weight_50 : decode cX6_weight 50 = .ok (.iload_n 3, 1) := by decide +kernel
theorem dX6_weight_51 : decode cX6_weight 51 = .ok (.ireturn, 1) := by decide +kernel
theorem dX6_over_0 : decode cX6_over 0 = .ok (.aload_n 0, 1) := by decide +kernel
theorem dX6_over_1 : decode cX6_over 1 = .ok (.getfield 10, 3) := by decide +kernel
theorem dX6_over_4 : decode cX6_over 4 = .ok (.getfield 35, 3) := by decide +kernel
theorem dX6_over_7 : decode cX6_over 7 = .ok (.getfield 98, 3) := by decide +kernel
theorem dX6_over_10 : decode cX6_over 10 = .ok (.ifCond .eq 7, 3) := by decide +kernel
theorem dX6_over_13 : decode cX6_over 13 = .ok (.iconst 1, 1) := by decide +kernel
theorem dX6_over_14 : decode cX6_over 14 = .ok (.goto 4, 3) := by decide +kernel
theorem dX6_over_17 : decode cX6_over 17 = .ok (.iconst 0, 1) := by decide +kernel
theorem dX6_over_18 : decode cX6_over 18 = .ok (.istore_n 2, 1) := by decide +kernel
theorem dX6_over_19 : decode cX6_over 19 = .ok (.aload_n 0, 1) := by decide +kernel
theorem dX6_over_20 : decode cX6_over 20 = .ok (.getfield 10, 3) := by decide +kernel
theorem dX6_over_23 : decode cX6_over 23 = .ok (.getfield 35, 3) := by decide +kernel
theorem dX6_over_26 : decode cX6_over 26 = .ok (.iload_n 1, 1) := by decide +kernel
theorem dX6_over_27 : decode cX6_over 27 = .ok (.putfield 98, 3) := by decide +kernel
theorem dX6_over_30 : decode cX6_over 30 = .ok (.iload_n 2, 1) := by decide +kernel
theorem dX6_over_31 : decode cX6_over 31 = .ok (.ireturn, 1) := by decide +kernel
theorem dX6_held_0 : decode cX6_held 0 = .ok (.iload_n 1, 1) := by decide +kernel
theorem dX6_held_1 : decode cX6_held 1 = .ok (.ifCond .lt 10, 3) := by decide +kernel
theorem dX6_held_4 : decode cX6_held 4 = .ok (.iload_n 1, 1) := by decide +kernel
theorem dX6_held_5 : decode cX6_held 5 = .ok (.sipush 999, 3) := by decide +kernel
theorem dX6_held_8 : decode cX6_held 8 = .ok (.if_icmp .le 9, 3) := by decide +kernel
theorem dX6_held_11 : decode cX6_held 11 = .ok (.aload_n 0, 1) := by decide +kernel
theorem dX6_held_12 : decode cX6_held 12 = .ok (.iconst 0, 1) := by decide +kernel
theorem dX6_held_13 : decode cX6_held 13 = .ok (.invokevirtual 77, 3) := by decide +kernel
theorem dX6_held_16 : decode cX6_held 16 = .ok (.ireturn, 1) := by decide +kernel
theorem dX6_held_17 : decode cX6_held 17 = .ok (.aload_n 0, 1) := by decide +kernel
theorem dX6_held_18 : decode cX6_held 18 = .ok (.getfield 10, 3) := by decide +kernel
theorem dX6_held_21 : decode cX6_held 21 = .ok (.getfield 35, 3) := by decide +kernel
theorem dX6_held_24 : decode cX6_held 24 = .ok (.getfield 101, 3) := by decide +kernel
theorem dX6_held_27 : decode cX6_held 27 = .ok (.istore_n 2, 1) := by decide +kernel
theorem dX6_held_28 : decode cX6_held 28 = .ok (.aload_n 0, 1) := by decide +kernel
theorem dX6_held_29 : decode cX6_held 29 = .ok (.getfield 10, 3) := by decide +kernel
theorem dX6_held_32 : decode cX6_held 32 = .ok (.getfield 35, 3) := by decide +kernel
theorem dX6_held_35 : decode cX6_held 35 = .ok (.iload_n 1, 1) := by decide +kernel
theorem dX6_held_36 : decode cX6_held 36 = .ok (.putfield 101, 3) := by decide +kernel
theorem dX6_held_39 : decode cX6_held 39 = .ok (.iload_n 2, 1) := by decide +kernel
theorem dX6_held_40 : decode cX6_held 40 = .ok (.ireturn, 1) := by decide +kernel
theorem dX6_circle_0 : decode cX6_circle 0 = .ok (.iload_n 1, 1) := by decide +kernel
theorem dX6_circle_1 : decode cX6_circle 1 = .ok (.invokestatic 91, 3) := by decide +kernel
theorem dX6_circle_4 : decode cX6_circle 4 = .ok (.ifCond .eq 17, 3) := by decide +kernel
theorem dX6_circle_7 : decode cX6_circle 7 = .ok (.aload_n 0, 1) := by decide +kernel
theorem dX6_circle_8 : decode cX6_circle 8 = .ok (.getfield 10, 3) := by decide +kernel
theorem dX6_circle_11 : decode cX6_circle 11 = .ok (.getfield 35, 3) := by decide +kernel
theorem dX6_circle_14 : decode cX6_circle 14 = .ok (.iload_n 1, 1) := by decide +kernel
theorem dX6_circle_15 : decode cX6_circle 15 = .ok (.invokevirtual 104, 3) := by decide +kernel
theorem dX6_circle_18 : decode cX6_circle 18 = .ok (.goto 8, 3) := by decide +kernel
theorem dX6_circle_21 : decode cX6_circle 21 = .ok (.aload_n 0, 1) := by decide +kernel
theorem dX6_circle_22 : decode cX6_circle 22 = .ok (.iconst 0, 1) := by decide +kernel
theorem dX6_circle_23 : decode cX6_circle 23 = .ok (.invokevirtual 77, 3) := by decide +kernel
theorem dX6_circle_26 : decode cX6_circle 26 = .ok (.ireturn, 1) := by decide +kernel
theorem dX6_bench_0 : decode cX6_bench 0 = .ok (.iload_n 1, 1) := by decide +kernel
theorem dX6_bench_1 : decode cX6_bench 1 = .ok (.invokestatic 107, 3) := by decide +kernel
theorem dX6_bench_4 : decode cX6_bench 4 = .ok (.ifCond .eq 14, 3) := by decide +kernel
theorem dX6_bench_7 : decode cX6_bench 7 = .ok (.iload_n 2, 1) := by decide +kernel
theorem dX6_bench_8 : decode cX6_bench 8 = .ok (.iconst 1, 1) := by decide +kernel
theorem dX6_bench_9 : decode cX6_bench 9 = .ok (.if_icmp .lt 9, 3) := by decide +kernel
theorem dX6_bench_12 : decode cX6_bench 12 = .ok (.iload_n 2, 1) := by decide +kernel
theorem dX6_bench_13 : decode cX6_bench 13 = .ok (.bipush 8, 2) := by decide +kernel
theorem dX6_bench_15 : decode cX6_bench 15 = .ok (.if_icmp .le 9, 3) := by decide +kernel
theorem dX6_bench_18 : decode cX6_bench 18 = .ok (.aload_n 0, 1) := by decide +kernel
theorem dX6_bench_19 : decode cX6_bench 19 = .ok (.iconst 0, 1) := by decide +kernel
theorem dX6_bench_20 : decode cX6_bench 20 = .ok (.invokevirtual 77, 3) := by decide +kernel
theorem dX6_bench_23 : decode cX6_bench 23 = .ok (.ireturn, 1) := by decide +kernel
theorem dX6_bench_24 : decode cX6_bench 24 = .ok (.aload_n 0, 1) := by decide +kernel
theorem dX6_bench_25 : decode cX6_bench 25 = .ok (.getfield 10, 3) := by decide +kernel
theorem dX6_bench_28 : decode cX6_bench 28 = .ok (.getfield 110, 3) := by decide +kernel
theorem dX6_bench_31 : decode cX6_bench 31 = .ok (.iconst 5, 1) := by decide +kernel
theorem dX6_bench_32 : decode cX6_bench 32 = .ok (.if_icmp .lt 9, 3) := by decide +kernel
theorem dX6_bench_35 : decode cX6_bench 35 = .ok (.aload_n 0, 1) := by decide +kernel
theorem dX6_bench_36 : decode cX6_bench 36 = .ok (.iconst 1, 1) := by decide +kernel
theorem dX6_bench_37 : decode cX6_bench 37 = .ok (.invokevirtual 77, 3) := by decide +kernel
theorem dX6_bench_40 : decode cX6_bench 40 = .ok (.ireturn, 1) := by decide +kernel
theorem dX6_bench_41 : decode cX6_bench 41 = .ok (.aload_n 0, 1) := by decide +kernel
theorem dX6_bench_42 : decode cX6_bench 42 = .ok (.getfield 10, 3) := by decide +kernel
theorem dX6_bench_45 : decode cX6_bench 45 = .ok (.iload_n 1, 1) := by decide +kernel
theorem dX6_bench_46 : decode cX6_bench 46 = .ok (.iload_n 2, 1) := by decide +kernel
theorem dX6_bench_47 : decode cX6_bench 47 = .ok (.invokevirtual 113, 3) := by decide +kernel
theorem dX6_bench_50 : decode cX6_bench 50 = .ok (.ireturn, 1) := by decide +kernel
theorem dX6_benchOf_0 : decode cX6_benchOf 0 = .ok (.aload_n 0, 1) := by decide +kernel
theorem dX6_benchOf_1 : decode cX6_benchOf 1 = .ok (.iload_n 1, 1) := by decide +kernel
theorem dX6_benchOf_2 : decode cX6_benchOf 2 = .ok (.invokevirtual 116, 3) := by decide +kernel
theorem dX6_benchOf_5 : decode cX6_benchOf 5 = .ok (.ifCond .ne 9, 3) := by decide +kernel
theorem dX6_benchOf_8 : decode cX6_benchOf 8 = .ok (.aload_n 0, 1) := by decide +kernel
theorem dX6_benchOf_9 : decode cX6_benchOf 9 = .ok (.iconst 0, 1) := by decide +kernel
theorem dX6_benchOf_10 : decode cX6_benchOf 10 = .ok (.invokevirtual 77, 3) := by decide +kernel
theorem dX6_benchOf_13 : decode cX6_benchOf 13 = .ok (.ireturn, 1) := by decide +kernel
theorem dX6_benchOf_14 : decode cX6_benchOf 14 = .ok (.aload_n 0, 1) := by decide +kernel
theorem dX6_benchOf_15 : decode cX6_benchOf 15 = .ok (.getfield 10, 3) := by decide +kernel
theorem dX6_benchOf_18 : decode cX6_benchOf 18 = .ok (.getfield 119, 3) := by decide +kernel
theorem dX6_benchOf_21 : decode cX6_benchOf 21 = .ok (.iload_n 1, 1) := by decide +kernel
theorem dX6_benchOf_22 : decode cX6_benchOf 22 = .ok (.aaload, 1) := by decide +kernel
theorem dX6_benchOf_23 : decode cX6_benchOf 23 = .ok (.astore_n 3, 1) := by decide +kernel
theorem dX6_benchOf_24 : decode cX6_benchOf 24 = .ok (.iload_n 2, 1) := by decide +kernel
theorem dX6_benchOf_25 : decode cX6_benchOf 25 = .ok (.tableswitch 82 0 4 #[35, 40, 45, 50, 62], 35) := by decide +kernel
theorem dX6_benchOf_60 : decode cX6_benchOf 60 = .ok (.aload_n 3, 1) := by decide +kernel
theorem dX6_benchOf_61 : decode cX6_benchOf 61 = .ok (.getfield 123, 3) := by decide +kernel
theorem dX6_benchOf_64 : decode cX6_benchOf 64 = .ok (.ireturn, 1) := by decide +kernel
theorem dX6_benchOf_65 : decode cX6_benchOf 65 = .ok (.aload_n 3, 1) := by decide +kernel
theorem dX6_benchOf_66 : decode cX6_benchOf 66 = .ok (.getfield 126, 3) := by decide +kernel
theorem dX6_benchOf_69 : decode cX6_benchOf 69 = .ok (.ireturn, 1) := by decide +kernel
theorem dX6_benchOf_70 : decode cX6_benchOf 70 = .ok (.aload_n 3, 1) := by decide +kernel
theorem dX6_benchOf_71 : decode cX6_benchOf 71 = .ok (.invokevirtual 129, 3) := by decide +kernel
theorem dX6_benchOf_74 : decode cX6_benchOf 74 = .ok (.ireturn, 1) := by decide +kernel
theorem dX6_benchOf_75 : decode cX6_benchOf 75 = .ok (.aload_n 0, 1) := by decide +kernel
theorem dX6_benchOf_76 : decode cX6_benchOf 76 = .ok (.getfield 10, 3) := by decide +kernel
theorem dX6_benchOf_79 : decode cX6_benchOf 79 = .ok (.getfield 35, 3) := by decide +kernel
theorem dX6_benchOf_82 : decode cX6_benchOf 82 = .ok (.aload_n 3, 1) := by decide +kernel
theorem dX6_benchOf_83 : decode cX6_benchOf 83 = .ok (.invokevirtual 133, 3) := by decide +kernel
theorem dX6_benchOf_86 : decode cX6_benchOf 86 = .ok (.ireturn, 1) := by decide +kernel
theorem dX6_benchOf_87 : decode cX6_benchOf 87 = .ok (.aload_n 0, 1) := by decide +kernel
theorem dX6_benchOf_88 : decode cX6_benchOf 88 = .ok (.getfield 10, 3) := by decide +kernel
theorem dX6_benchOf_91 : decode cX6_benchOf 91 = .ok (.getfield 35, 3) := by decide +kernel
theorem dX6_benchOf_94 : decode cX6_benchOf 94 = .ok (.aload_n 3, 1) := by decide +kernel
theorem dX6_benchOf_95 : decode cX6_benchOf 95 = .ok (.invokevirtual 137, 3) := by decide +kernel
theorem dX6_benchOf_98 : decode cX6_benchOf 98 = .ok (.ifCond .eq 7, 3) := by decide +kernel
theorem dX6_benchOf_101 : decode cX6_benchOf 101 = .ok (.iconst 1, 1) := by decide +kernel
theorem dX6_benchOf_102 : decode cX6_benchOf 102 = .ok (.goto 4, 3) := by decide +kernel
theorem dX6_benchOf_105 : decode cX6_benchOf 105 = .ok (.iconst 0, 1) := by decide +kernel
theorem dX6_benchOf_106 : decode cX6_benchOf 106 = .ok (.ireturn, 1) := by decide +kernel
theorem dX6_benchOf_107 : decode cX6_benchOf 107 = .ok (.aload_n 0, 1) := by decide +kernel
theorem dX6_benchOf_108 : decode cX6_benchOf 108 = .ok (.iconst 0, 1) := by decide +kernel
theorem dX6_benchOf_109 : decode cX6_benchOf 109 = .ok (.invokevirtual 77, 3) := by decide +kernel
theorem dX6_benchOf_112 : decode cX6_benchOf 112 = .ok (.ireturn, 1) := by decide +kernel
theorem dX6_turn_0 : decode cX6_turn 0 = .ok (.aload_n 0, 1) := by decide +kernel
theorem dX6_turn_1 : decode cX6_turn 1 = .ok (.iload_n 1, 1) := by decide +kernel
theorem dX6_turn_2 : decode cX6_turn 2 = .ok (.invokevirtual 116, 3) := by decide +kernel
theorem dX6_turn_5 : decode cX6_turn 5 = .ok (.ifCond .eq 10, 3) := by decide +kernel
theorem dX6_turn_8 : decode cX6_turn 8 = .ok (.iload_n 2, 1) := by decide +kernel
theorem dX6_turn_9 : decode cX6_turn 9 = .ok (.invokestatic 107, 3) := by decide +kernel
theorem dX6_turn_12 : decode cX6_turn 12 = .ok (.ifCond .ne 9, 3) := by decide +kernel
theorem dX6_turn_15 : decode cX6_turn 15 = .ok (.aload_n 0, 1) := by decide +kernel
theorem dX6_turn_16 : decode cX6_turn 16 = .ok (.iconst 0, 1) := by decide +kernel
theorem dX6_turn_17 : decode cX6_turn 17 = .ok (.invokevirtual 77, 3) := by decide +kernel
theorem dX6_turn_20 : decode cX6_turn 20 = .ok (.ireturn, 1) := by decide +kernel
theorem dX6_turn_21 : decode cX6_turn 21 = .ok (.aload_n 0, 1) := by decide +kernel
theorem dX6_turn_22 : decode cX6_turn 22 = .ok (.getfield 10, 3) := by decide +kernel
theorem dX6_turn_25 : decode cX6_turn 25 = .ok (.getfield 119, 3) := by decide +kernel
theorem dX6_turn_28 : decode cX6_turn 28 = .ok (.iload_n 1, 1) := by decide +kernel
theorem dX6_turn_29 : decode cX6_turn 29 = .ok (.aaload, 1) := by decide +kernel
theorem dX6_turn_30 : decode cX6_turn 30 = .ok (.getfield 123, 3) := by decide +kernel
theorem dX6_turn_33 : decode cX6_turn 33 = .ok (.istore_n 3, 1) := by decide +kernel
theorem dX6_turn_34 : decode cX6_turn 34 = .ok (.aload_n 0, 1) := by decide +kernel
theorem dX6_turn_35 : decode cX6_turn 35 = .ok (.getfield 10, 3) := by decide +kernel
theorem dX6_turn_38 : decode cX6_turn 38 = .ok (.getfield 119, 3) := by decide +kernel
theorem dX6_turn_41 : decode cX6_turn 41 = .ok (.iload_n 1, 1) := by decide +kernel
theorem dX6_turn_42 : decode cX6_turn 42 = .ok (.aaload, 1) := by decide +kernel
theorem dX6_turn_43 : decode cX6_turn 43 = .ok (.iload_n 2, 1) := by decide +kernel
theorem dX6_turn_44 : decode cX6_turn 44 = .ok (.putfield 123, 3) := by decide +kernel
theorem dX6_turn_47 : decode cX6_turn 47 = .ok (.iload_n 3, 1) := by decide +kernel
theorem dX6_turn_48 : decode cX6_turn 48 = .ok (.ireturn, 1) := by decide +kernel
theorem dX6_seat_0 : decode cX6_seat 0 = .ok (.aload_n 0, 1) := by decide +kernel
theorem dX6_seat_1 : decode cX6_seat 1 = .ok (.iload_n 1, 1) := by decide +kernel
theorem dX6_seat_2 : decode cX6_seat 2 = .ok (.iload_n 2, 1) := by decide +kernel
theorem dX6_seat_3 : decode cX6_seat 3 = .ok (.invokevirtual 141, 3) := by decide +kernel
theorem dX6_seat_6 : decode cX6_seat 6 = .ok (.ifCond .eq 20, 3) := by decide +kernel
theorem dX6_seat_9 : decode cX6_seat 9 = .ok (.aload_n 0, 1) := by decide +kernel
theorem dX6_seat_10 : decode cX6_seat 10 = .ok (.getfield 10, 3) := by decide +kernel
theorem dX6_seat_13 : decode cX6_seat 13 = .ok (.getfield 119, 3) := by decide +kernel
theorem dX6_seat_16 : decode cX6_seat 16 = .ok (.iload_n 1, 1) := by decide +kernel
theorem dX6_seat_17 : decode cX6_seat 17 = .ok (.aaload, 1) := by decide +kernel
theorem dX6_seat_18 : decode cX6_seat 18 = .ok (.getfield 144, 3) := by decide +kernel
theorem dX6_seat_21 : decode cX6_seat 21 = .ok (.iload_n 2, 1) := by decide +kernel
theorem dX6_seat_22 : decode cX6_seat 22 = .ok (.iaload, 1) := by decide +kernel
theorem dX6_seat_23 : decode cX6_seat 23 = .ok (.goto 8, 3) := by decide +kernel
theorem dX6_seat_26 : decode cX6_seat 26 = .ok (.aload_n 0, 1) := by decide +kernel
theorem dX6_seat_27 : decode cX6_seat 27 = .ok (.iconst 0, 1) := by decide +kernel
theorem dX6_seat_28 : decode cX6_seat 28 = .ok (.invokevirtual 77, 3) := by decide +kernel
theorem dX6_seat_31 : decode cX6_seat 31 = .ok (.ireturn, 1) := by decide +kernel
theorem dX6_beside_0 : decode cX6_beside 0 = .ok (.aload_n 0, 1) := by decide +kernel
theorem dX6_beside_1 : decode cX6_beside 1 = .ok (.iload_n 1, 1) := by decide +kernel
theorem dX6_beside_2 : decode cX6_beside 2 = .ok (.iload_n 2, 1) := by decide +kernel
theorem dX6_beside_3 : decode cX6_beside 3 = .ok (.invokevirtual 141, 3) := by decide +kernel
theorem dX6_beside_6 : decode cX6_beside 6 = .ok (.ifCond .eq 12, 3) := by decide +kernel
theorem dX6_beside_9 : decode cX6_beside 9 = .ok (.iload_n 3, 1) := by decide +kernel
theorem dX6_beside_10 : decode cX6_beside 10 = .ok (.ifCond .lt 8, 3) := by decide +kernel
theorem dX6_beside_13 : decode cX6_beside 13 = .ok (.iload_n 3, 1) := by decide +kernel
theorem dX6_beside_14 : decode cX6_beside 14 = .ok (.iconst 1, 1) := by decide +kernel
theorem dX6_beside_15 : decode cX6_beside 15 = .ok (.if_icmp .le 9, 3) := by decide +kernel
theorem dX6_beside_18 : decode cX6_beside 18 = .ok (.aload_n 0, 1) := by decide +kernel
theorem dX6_beside_19 : decode cX6_beside 19 = .ok (.iconst 0, 1) := by decide +kernel
theorem dX6_beside_20 : decode cX6_beside 20 = .ok (.invokevirtual 77, 3) := by decide +kernel
theorem dX6_beside_23 : decode cX6_beside 23 = .ok (.ireturn, 1) := by decide +kernel
theorem dX6_beside_24 : decode cX6_beside 24 = .ok (.aload_n 0, 1) := by decide +kernel
theorem dX6_beside_25 : decode cX6_beside 25 = .ok (.getfield 10, 3) := by decide +kernel
theorem dX6_beside_28 : decode cX6_beside 28 = .ok (.getfield 119, 3) := by decide +kernel
theorem dX6_beside_31 : decode cX6_beside 31 = .ok (.iload_n 1, 1) := by decide +kernel
theorem dX6_beside_32 : decode cX6_beside 32 = .ok (.aaload, 1) := by decide +kernel
theorem dX6_beside_33 : decode cX6_beside 33 = .ok (.iload_n 2, 1) := by decide +kernel
theorem dX6_beside_34 : decode cX6_beside 34 = .ok (.iload_n 3, 1) := by decide +kernel
theorem dX6_beside_35 : decode cX6_beside 35 = .ok (.ifCond .ne 7, 3) := by decide +kernel
theorem dX6_beside_38 : decode cX6_beside 38 = .ok (.iconst (-1), 1) := by decide +kernel
theorem dX6_beside_39 : decode cX6_beside 39 = .ok (.goto 4, 3) := by decide +kernel
theorem dX6_beside_42 : decode cX6_beside 42 = .ok (.iconst 1, 1) := by decide +kernel
theorem dX6_beside_43 : decode cX6_beside 43 = .ok (.invokevirtual 147, 3) := by decide +kernel
theorem dX6_beside_46 : decode cX6_beside 46 = .ok (.ireturn, 1) := by decide +kernel
theorem dX6_wrong_0 : decode cX6_wrong 0 = .ok (.aload_n 0, 1) := by decide +kernel
theorem dX6_wrong_1 : decode cX6_wrong 1 = .ok (.iload_n 1, 1) := by decide +kernel
theorem dX6_wrong_2 : decode cX6_wrong 2 = .ok (.invokevirtual 116, 3) := by decide +kernel
theorem dX6_wrong_5 : decode cX6_wrong 5 = .ok (.ifCond .ne 9, 3) := by decide +kernel
theorem dX6_wrong_8 : decode cX6_wrong 8 = .ok (.aload_n 0, 1) := by decide +kernel
theorem dX6_wrong_9 : decode cX6_wrong 9 = .ok (.iconst 0, 1) := by decide +kernel
theorem dX6_wrong_10 : decode cX6_wrong 10 = .ok (.invokevirtual 77, 3) := by decide +kernel
theorem dX6_wrong_13 : decode cX6_wrong 13 = .ok (.ireturn, 1) := by decide +kernel
theorem dX6_wrong_14 : decode cX6_wrong 14 = .ok (.aload_n 0, 1) := by decide +kernel
theorem dX6_wrong_15 : decode cX6_wrong 15 = .ok (.getfield 10, 3) := by decide +kernel
theorem dX6_wrong_18 : decode cX6_wrong 18 = .ok (.getfield 119, 3) := by decide +kernel
theorem dX6_wrong_21 : decode cX6_wrong 21 = .ok (.iload_n 1, 1) := by decide +kernel
theorem dX6_wrong_22 : decode cX6_wrong 22 = .ok (.aaload, 1) := by decide +kernel
theorem dX6_wrong_23 : decode cX6_wrong 23 = .ok (.astore_n 2, 1) := by decide +kernel
theorem dX6_wrong_24 : decode cX6_wrong 24 = .ok (.aload_n 0, 1) := by decide +kernel
theorem dX6_wrong_25 : decode cX6_wrong 25 = .ok (.getfield 10, 3) := by decide +kernel
theorem dX6_wrong_28 : decode cX6_wrong 28 = .ok (.getfield 35, 3) := by decide +kernel
theorem dX6_wrong_31 : decode cX6_wrong 31 = .ok (.aload_n 2, 1) := by decide +kernel
theorem dX6_wrong_32 : decode cX6_wrong 32 = .ok (.iconst 0, 1) := by decide +kernel
theorem dX6_wrong_33 : decode cX6_wrong 33 = .ok (.aload_n 2, 1) := by decide +kernel
theorem dX6_wrong_34 : decode cX6_wrong 34 = .ok (.getfield 126, 3) := by decide +kernel
theorem dX6_wrong_37 : decode cX6_wrong 37 = .ok (.invokevirtual 150, 3) := by decide +kernel
theorem dX6_wrong_40 : decode cX6_wrong 40 = .ok (.istore_n 3, 1) := by decide +kernel
theorem dX6_wrong_41 : decode cX6_wrong 41 = .ok (.iload_n 3, 1) := by decide +kernel
theorem dX6_wrong_42 : decode cX6_wrong 42 = .ok (.iconst (-1), 1) := by decide +kernel
theorem dX6_wrong_43 : decode cX6_wrong 43 = .ok (.if_icmp .ne 11, 3) := by decide +kernel
theorem dX6_wrong_46 : decode cX6_wrong 46 = .ok (.aload_n 0, 1) := by decide +kernel
theorem dX6_wrong_47 : decode cX6_wrong 47 = .ok (.iconst 3, 1) := by decide +kernel
theorem dX6_wrong_48 : decode cX6_wrong 48 = .ok (.invokevirtual 77, 3) := by decide +kernel
theorem dX6_wrong_51 : decode cX6_wrong 51 = .ok (.goto 4, 3) := by decide +kernel
theorem dX6_wrong_54 : decode cX6_wrong 54 = .ok (.iload_n 3, 1) := by decide +kernel
theorem dX6_wrong_55 : decode cX6_wrong 55 = .ok (.ireturn, 1) := by decide +kernel
theorem dX6_sit_0 : decode cX6_sit 0 = .ok (.iload_n 1, 1) := by decide +kernel
theorem dX6_sit_1 : decode cX6_sit 1 = .ok (.invokestatic 91, 3) := by decide +kernel
theorem dX6_sit_4 : decode cX6_sit 4 = .ok (.ifCond .eq 12, 3) := by decide +kernel
theorem dX6_sit_7 : decode cX6_sit 7 = .ok (.aload_n 0, 1) := by decide +kernel
theorem dX6_sit_8 : decode cX6_sit 8 = .ok (.iload_n 2, 1) := by decide +kernel
theorem dX6_sit_9 : decode cX6_sit 9 = .ok (.iload_n 3, 1) := by decide +kernel
theorem dX6_sit_10 : decode cX6_sit 10 = .ok (.invokevirtual 141, 3) := by decide +kernel
theorem dX6_sit_13 : decode cX6_sit 13 = .ok (.ifCond .ne 9, 3) := by decide +kernel
theorem dX6_sit_16 : decode cX6_sit 16 = .ok (.aload_n 0, 1) := by decide +kernel
theorem dX6_sit_17 : decode cX6_sit 17 = .ok (.iconst 0, 1) := by decide +kernel
theorem dX6_sit_18 : decode cX6_sit 18 = .ok (.invokevirtual 77, 3) := by decide +kernel
theorem dX6_sit_21 : decode cX6_sit 21 = .ok (.ireturn, 1) := by decide +kernel
theorem dX6_sit_22 : decode cX6_sit 22 = .ok (.aload_n 0, 1) := by decide +kernel
theorem dX6_sit_23 : decode cX6_sit 23 = .ok (.getfield 10, 3) := by decide +kernel
theorem dX6_sit_26 : decode cX6_sit 26 = .ok (.iload_n 2, 1) := by decide +kernel
theorem dX6_sit_27 : decode cX6_sit 27 = .ok (.iload_n 3, 1) := by decide +kernel
theorem dX6_sit_28 : decode cX6_sit 28 = .ok (.iload_n 1, 1) := by decide +kernel
theorem dX6_sit_29 : decode cX6_sit 29 = .ok (.invokevirtual 154, 3) := by decide +kernel
theorem dX6_sit_32 : decode cX6_sit 32 = .ok (.ifCond .eq 9, 3) := by decide +kernel
theorem dX6_sit_35 : decode cX6_sit 35 = .ok (.aload_n 0, 1) := by decide +kernel
theorem dX6_sit_36 : decode cX6_sit 36 = .ok (.iconst 4, 1) := by decide +kernel
theorem dX6_sit_37 : decode cX6_sit 37 = .ok (.invokevirtual 77, 3) := by decide +kernel
theorem dX6_sit_40 : decode cX6_sit 40 = .ok (.ireturn, 1) := by decide +kernel
theorem dX6_sit_41 : decode cX6_sit 41 = .ok (.aload_n 0, 1) := by decide +kernel
theorem dX6_sit_42 : decode cX6_sit 42 = .ok (.getfield 10, 3) := by decide +kernel
theorem dX6_sit_45 : decode cX6_sit 45 = .ok (.iload_n 1, 1) := by decide +kernel
theorem dX6_sit_46 : decode cX6_sit 46 = .ok (.iload_n 2, 1) := by decide +kernel
theorem dX6_sit_47 : decode cX6_sit 47 = .ok (.iload_n 3, 1) := by decide +kernel
theorem dX6_sit_48 : decode cX6_sit 48 = .ok (.invokevirtual 158, 3) := by decide +kernel
theorem dX6_sit_51 : decode cX6_sit 51 = .ok (.aload_n 0, 1) := by decide +kernel
theorem dX6_sit_52 : decode cX6_sit 52 = .ok (.getfield 10, 3) := by decide +kernel
theorem dX6_sit_55 : decode cX6_sit 55 = .ok (.getfield 35, 3) := by decide +kernel
theorem dX6_sit_58 : decode cX6_sit 58 = .ok (.aload_n 0, 1) := by decide +kernel
theorem dX6_sit_59 : decode cX6_sit 59 = .ok (.getfield 10, 3) := by decide +kernel
theorem dX6_sit_62 : decode cX6_sit 62 = .ok (.getfield 119, 3) := by decide +kernel
theorem dX6_sit_65 : decode cX6_sit 65 = .ok (.iload_n 2, 1) := by decide +kernel
theorem dX6_sit_66 : decode cX6_sit 66 = .ok (.aaload, 1) := by decide +kernel
theorem dX6_sit_67 : decode cX6_sit 67 = .ok (.invokevirtual 137, 3) := by decide +kernel
theorem dX6_sit_70 : decode cX6_sit 70 = .ok (.ifCond .eq 7, 3) := by decide +kernel
theorem dX6_sit_73 : decode cX6_sit 73 = .ok (.iconst 1, 1) := by decide +kernel
theorem dX6_sit_74 : decode cX6_sit 74 = .ok (.goto 4, 3) := by decide +kernel
theorem dX6_sit_77 : decode cX6_sit 77 = .ok (.iconst 0, 1) := by decide +kernel
theorem dX6_sit_78 : decode cX6_sit 78 = .ok (.ireturn, 1) := by decide +kernel
theorem dX6_rise_0 : decode cX6_rise 0 = .ok (.iload_n 1, 1) := by decide +kernel
theorem dX6_rise_1 : decode cX6_rise 1 = .ok (.invokestatic 91, 3) := by decide +kernel
theorem dX6_rise_4 : decode cX6_rise 4 = .ok (.ifCond .ne 9, 3) := by decide +kernel
theorem dX6_rise_7 : decode cX6_rise 7 = .ok (.aload_n 0, 1) := by decide +kernel
theorem dX6_rise_8 : decode cX6_rise 8 = .ok (.iconst 0, 1) := by decide +kernel
theorem dX6_rise_9 : decode cX6_rise 9 = .ok (.invokevirtual 77, 3) := by decide +kernel
theorem dX6_rise_12 : decode cX6_rise 12 = .ok (.ireturn, 1) := by decide +kernel
theorem dX6_rise_13 : decode cX6_rise 13 = .ok (.aload_n 0, 1) := by decide +kernel
theorem dX6_rise_14 : decode cX6_rise 14 = .ok (.getfield 10, 3) := by decide +kernel
theorem dX6_rise_17 : decode cX6_rise 17 = .ok (.iload_n 1, 1) := by decide +kernel
theorem dX6_rise_18 : decode cX6_rise 18 = .ok (.invokevirtual 161, 3) := by decide +kernel
theorem dX6_rise_21 : decode cX6_rise 21 = .ok (.ifCond .eq 7, 3) := by decide +kernel
theorem dX6_rise_24 : decode cX6_rise 24 = .ok (.iconst 1, 1) := by decide +kernel
theorem dX6_rise_25 : decode cX6_rise 25 = .ok (.goto 4, 3) := by decide +kernel
theorem dX6_rise_28 : decode cX6_rise 28 = .ok (.iconst 0, 1) := by decide +kernel
theorem dX6_rise_29 : decode cX6_rise 29 = .ok (.ireturn, 1) := by decide +kernel
theorem dX6_where_0 : decode cX6_where 0 = .ok (.iload_n 1, 1) := by decide +kernel
theorem dX6_where_1 : decode cX6_where 1 = .ok (.invokestatic 91, 3) := by decide +kernel
theorem dX6_where_4 : decode cX6_where 4 = .ok (.ifCond .ne 9, 3) := by decide +kernel
theorem dX6_where_7 : decode cX6_where 7 = .ok (.aload_n 0, 1) := by decide +kernel
theorem dX6_where_8 : decode cX6_where 8 = .ok (.iconst 0, 1) := by decide +kernel
theorem dX6_where_9 : decode cX6_where 9 = .ok (.invokevirtual 77, 3) := by decide +kernel
theorem dX6_where_12 : decode cX6_where 12 = .ok (.ireturn, 1) := by decide +kernel
theorem dX6_where_13 : decode cX6_where 13 = .ok (.aload_n 0, 1) := by decide +kernel
theorem dX6_where_14 : decode cX6_where 14 = .ok (.getfield 10, 3) := by decide +kernel
theorem dX6_where_17 : decode cX6_where 17 = .ok (.iload_n 1, 1) := by decide +kernel
theorem dX6_where_18 : decode cX6_where 18 = .ok (.invokevirtual 164, 3) := by decide +kernel
theorem dX6_where_21 : decode cX6_where 21 = .ok (.istore_n 2, 1) := by decide +kernel
theorem dX6_where_22 : decode cX6_where 22 = .ok (.iload_n 2, 1) := by decide +kernel
theorem dX6_where_23 : decode cX6_where 23 = .ok (.iconst (-1), 1) := by decide +kernel
theorem dX6_where_24 : decode cX6_where 24 = .ok (.if_icmp .ne 9, 3) := by decide +kernel
theorem dX6_where_27 : decode cX6_where 27 = .ok (.aload_n 0, 1) := by decide +kernel
theorem dX6_where_28 : decode cX6_where 28 = .ok (.iconst 3, 1) := by decide +kernel
theorem dX6_where_29 : decode cX6_where 29 = .ok (.invokevirtual 77, 3) := by decide +kernel
theorem dX6_where_32 : decode cX6_where 32 = .ok (.ireturn, 1) := by decide +kernel
theorem dX6_where_33 : decode cX6_where 33 = .ok (.bipush 10, 2) := by decide +kernel
theorem dX6_where_35 : decode cX6_where 35 = .ok (.iload_n 2, 1) := by decide +kernel
theorem dX6_where_36 : decode cX6_where 36 = .ok (.imul, 1) := by decide +kernel
theorem dX6_where_37 : decode cX6_where 37 = .ok (.aload_n 0, 1) := by decide +kernel
theorem dX6_where_38 : decode cX6_where 38 = .ok (.getfield 10, 3) := by decide +kernel
theorem dX6_where_41 : decode cX6_where 41 = .ok (.getfield 119, 3) := by decide +kernel
theorem dX6_where_44 : decode cX6_where 44 = .ok (.iload_n 2, 1) := by decide +kernel
theorem dX6_where_45 : decode cX6_where 45 = .ok (.aaload, 1) := by decide +kernel
theorem dX6_where_46 : decode cX6_where 46 = .ok (.iload_n 1, 1) := by decide +kernel
theorem dX6_where_47 : decode cX6_where 47 = .ok (.invokevirtual 167, 3) := by decide +kernel
theorem dX6_where_50 : decode cX6_where 50 = .ok (.iadd, 1) := by decide +kernel
theorem dX6_where_51 : decode cX6_where 51 = .ok (.ireturn, 1) := by decide +kernel
theorem dX6_may_0 : decode cX6_may 0 = .ok (.iload_n 1, 1) := by decide +kernel
theorem dX6_may_1 : decode cX6_may 1 = .ok (.invokestatic 91, 3) := by decide +kernel
theorem dX6_may_4 : decode cX6_may 4 = .ok (.ifCond .eq 11, 3) := by decide +kernel
theorem dX6_may_7 : decode cX6_may 7 = .ok (.aload_n 0, 1) := by decide +kernel
theorem dX6_may_8 : decode cX6_may 8 = .ok (.iload_n 2, 1) := by decide +kernel
theorem dX6_may_9 : decode cX6_may 9 = .ok (.invokevirtual 116, 3) := by decide +kernel
theorem dX6_may_12 : decode cX6_may 12 = .ok (.ifCond .ne 9, 3) := by decide +kernel
theorem dX6_may_15 : decode cX6_may 15 = .ok (.aload_n 0, 1) := by decide +kernel
theorem dX6_may_16 : decode cX6_may 16 = .ok (.iconst 0, 1) := by decide +kernel
theorem dX6_may_17 : decode cX6_may 17 = .ok (.invokevirtual 77, 3) := by decide +kernel
theorem dX6_may_20 : decode cX6_may 20 = .ok (.ireturn, 1) := by decide +kernel
theorem dX6_may_21 : decode cX6_may 21 = .ok (.aload_n 0, 1) := by decide +kernel
theorem dX6_may_22 : decode cX6_may 22 = .ok (.iload_n 1, 1) := by decide +kernel
theorem dX6_may_23 : decode cX6_may 23 = .ok (.iload_n 2, 1) := by decide +kernel
theorem dX6_may_24 : decode cX6_may 24 = .ok (.invokevirtual 170, 3) := by decide +kernel
theorem dX6_may_27 : decode cX6_may 27 = .ok (.ireturn, 1) := by decide +kernel
theorem dX6_kind_0 : decode cX6_kind 0 = .ok (.iload_n 1, 1) := by decide +kernel
theorem dX6_kind_1 : decode cX6_kind 1 = .ok (.invokestatic 91, 3) := by decide +kernel
theorem dX6_kind_4 : decode cX6_kind 4 = .ok (.ifCond .eq 11, 3) := by decide +kernel
theorem dX6_kind_7 : decode cX6_kind 7 = .ok (.aload_n 0, 1) := by decide +kernel
theorem dX6_kind_8 : decode cX6_kind 8 = .ok (.iload_n 2, 1) := by decide +kernel
theorem dX6_kind_9 : decode cX6_kind 9 = .ok (.invokevirtual 116, 3) := by decide +kernel
theorem dX6_kind_12 : decode cX6_kind 12 = .ok (.ifCond .ne 9, 3) := by decide +kernel
theorem dX6_kind_15 : decode cX6_kind 15 = .ok (.aload_n 0, 1) := by decide +kernel
theorem dX6_kind_16 : decode cX6_kind 16 = .ok (.iconst 0, 1) := by decide +kernel
theorem dX6_kind_17 : decode cX6_kind 17 = .ok (.invokevirtual 77, 3) := by decide +kernel
theorem dX6_kind_20 : decode cX6_kind 20 = .ok (.ireturn, 1) := by decide +kernel
theorem dX6_kind_21 : decode cX6_kind 21 = .ok (.aload_n 0, 1) := by decide +kernel
theorem dX6_kind_22 : decode cX6_kind 22 = .ok (.iload_n 1, 1) := by decide +kernel
theorem dX6_kind_23 : decode cX6_kind 23 = .ok (.iload_n 2, 1) := by decide +kernel
theorem dX6_kind_24 : decode cX6_kind 24 = .ok (.invokevirtual 170, 3) := by decide +kernel
theorem dX6_kind_27 : decode cX6_kind 27 = .ok (.istore_n 3, 1) := by decide +kernel
theorem dX6_kind_28 : decode cX6_kind 28 = .ok (.iconst (-1), 1) := by decide +kernel
theorem dX6_kind_29 : decode cX6_kind 29 = .ok (.istore 4, 2) := by decide +kernel
theorem dX6_kind_31 : decode cX6_kind 31 = .ok (.iconst (-1), 1) := by decide +kernel
theorem dX6_kind_32 : decode cX6_kind 32 = .ok (.istore 5, 2) := by decide +kernel
theorem dX6_kind_34 : decode cX6_kind 34 = .ok (.iconst 0, 1) := by decide +kernel
theorem dX6_kind_35 : decode cX6_kind 35 = .ok (.istore 6, 2) := by decide +kernel
theorem dX6_kind_37 : decode cX6_kind 37 = .ok (.iload 6, 2) := by decide +kernel
theorem dX6_kind_39 : decode cX6_kind 39 = .ok (.aload_n 0, 1) := by decide +kernel
theorem dX6_kind_40 : decode cX6_kind 40 = .ok (.getfield 29, 3) := by decide +kernel
theorem dX6_kind_43 : decode cX6_kind 43 = .ok (.getfield 126, 3) := by decide +kernel
theorem dX6_kind_46 : decode cX6_kind 46 = .ok (.if_icmp .ge 62, 3) := by decide +kernel
theorem dX6_kind_49 : decode cX6_kind 49 = .ok (.iload_n 3, 1) := by decide +kernel
theorem dX6_kind_50 : decode cX6_kind 50 = .ok (.iload 6, 2) := by decide +kernel
theorem dX6_kind_52 : decode cX6_kind 52 = .ok (.invokestatic 173, 3) := by decide +kernel
theorem dX6_kind_55 : decode cX6_kind 55 = .ok (.ifCond .eq 47, 3) := by decide +kernel
theorem dX6_kind_58 : decode cX6_kind 58 = .ok (.aload_n 0, 1) := by decide +kernel
theorem dX6_kind_59 : decode cX6_kind 59 = .ok (.getfield 29, 3) := by decide +kernel
theorem dX6_kind_62 : decode cX6_kind 62 = .ok (.getfield 144, 3) := by decide +kernel
theorem dX6_kind_65 : decode cX6_kind 65 = .ok (.iload 6, 2) := by decide +kernel
theorem dX6_kind_67 : decode cX6_kind 67 = .ok (.iload_n 1, 1) := by decide +kernel
theorem dX6_kind_68 : decode cX6_kind 68 = .ok (.iastore, 1) := by decide +kernel
theorem dX6_kind_69 : decode cX6_kind 69 = .ok (.aload_n 0, 1) := by decide +kernel
theorem dX6_kind_70 : decode cX6_kind 70 = .ok (.iload_n 1, 1) := by decide +kernel
theorem dX6_kind_71 : decode cX6_kind 71 = .ok (.invokevirtual 176, 3) := by decide +kernel
theorem dX6_kind_74 : decode cX6_kind 74 = .ok (.istore 7, 2) := by decide +kernel
theorem dX6_kind_76 : decode cX6_kind 76 = .ok (.aload_n 0, 1) := by decide +kernel
theorem dX6_kind_77 : decode cX6_kind 77 = .ok (.getfield 29, 3) := by decide +kernel
theorem dX6_kind_80 : decode cX6_kind 80 = .ok (.getfield 144, 3) := by decide +kernel
theorem dX6_kind_83 : decode cX6_kind 83 = .ok (.iload 6, 2) := by decide +kernel
theorem dX6_kind_85 : decode cX6_kind 85 = .ok (.iconst (-1), 1) := by decide +kernel
theorem dX6_kind_86 : decode cX6_kind 86 = .ok (.iastore, 1) := by decide +kernel
theorem dX6_kind_87 : decode cX6_kind 87 = .ok (.iload 7, 2) := by decide +kernel
theorem dX6_kind_89 : decode cX6_kind 89 = .ok (.iload 5, 2) := by decide +kernel
theorem dX6_kind_91 : decode cX6_kind 91 = .ok (.if_icmp .le 11, 3) := by decide +kernel
theorem dX6_kind_94 : decode cX6_kind 94 = .ok (.iload 6, 2) := by decide +kernel
theorem dX6_kind_96 : decode cX6_kind 96 = .ok (.istore 4, 2) := by decide +kernel
theorem dX6_kind_98 : decode cX6_kind 98 = .ok (.iload 7, 2) := by decide +kernel
theorem dX6_kind_100 : decode cX6_kind 100 = .ok (.istore 5, 2) := by decide +kernel
theorem dX6_kind_102 : decode cX6_kind 102 = .ok (.iinc 6 1, 3) := by decide +kernel
theorem dX6_kind_105 : decode cX6_kind 105 = .ok (.goto (-68), 3) := by decide +kernel
theorem dX6_kind_108 : decode cX6_kind 108 = .ok (.iload 4, 2) := by decide +kernel
theorem dX6_kind_110 : decode cX6_kind 110 = .ok (.iconst (-1), 1) := by decide +kernel
theorem dX6_kind_111 : decode cX6_kind 111 = .ok (.if_icmp .ne 11, 3) := by decide +kernel
theorem dX6_kind_114 : decode cX6_kind 114 = .ok (.aload_n 0, 1) := by decide +kernel
theorem dX6_kind_115 : decode cX6_kind 115 = .ok (.iconst 3, 1) := by decide +kernel
theorem dX6_kind_116 : decode cX6_kind 116 = .ok (.invokevirtual 77, 3) := by decide +kernel
theorem dX6_kind_119 : decode cX6_kind 119 = .ok (.goto 5, 3) := by decide +kernel
theorem dX6_kind_122 : decode cX6_kind 122 = .ok (.iload 4, 2) := by decide +kernel
theorem dX6_kind_124 : decode cX6_kind 124 = .ok (.ireturn, 1) := by decide +kernel
theorem dX6_come_0 : decode cX6_come 0 = .ok (.aload_n 0, 1) := by decide +kernel
theorem dX6_come_1 : decode cX6_come 1 = .ok (.iload_n 1, 1) := by decide +kernel
theorem dX6_come_2 : decode cX6_come 2 = .ok (.invokevirtual 116, 3) := by decide +kernel
theorem dX6_come_5 : decode cX6_come 5 = .ok (.ifCond .eq 14, 3) := by decide +kernel
theorem dX6_come_8 : decode cX6_come 8 = .ok (.iload_n 2, 1) := by decide +kernel
theorem dX6_come_9 : decode cX6_come 9 = .ok (.iconst 1, 1) := by decide +kernel
theorem dX6_come_10 : decode cX6_come 10 = .ok (.if_icmp .lt 9, 3) := by decide +kernel
theorem dX6_come_13 : decode cX6_come 13 = .ok (.iload_n 2, 1) := by decide +kernel
theorem dX6_come_14 : decode cX6_come 14 = .ok (.bipush 20, 2) := by decide +kernel
theorem dX6_come_16 : decode cX6_come 16 = .ok (.if_icmp .le 9, 3) := by decide +kernel
theorem dX6_come_19 : decode cX6_come 19 = .ok (.aload_n 0, 1) := by decide +kernel
theorem dX6_come_20 : decode cX6_come 20 = .ok (.iconst 0, 1) := by decide +kernel
theorem dX6_come_21 : decode cX6_come 21 = .ok (.invokevirtual 77, 3) := by decide +kernel
theorem dX6_come_24 : decode cX6_come 24 = .ok (.ireturn, 1) := by decide +kernel
theorem dX6_come_25 : decode cX6_come 25 = .ok (.iconst 0, 1) := by decide +kernel
theorem dX6_come_26 : decode cX6_come 26 = .ok (.istore_n 3, 1) := by decide +kernel
theorem dX6_come_27 : decode cX6_come 27 = .ok (.iconst 0, 1) := by decide +kernel
theorem dX6_come_28 : decode cX6_come 28 = .ok (.istore 4, 2) := by decide +kernel
theorem dX6_come_30 : decode cX6_come 30 = .ok (.iload 4, 2) := by decide +kernel
theorem dX6_come_32 : decode cX6_come 32 = .ok (.iload_n 2, 1) := by decide +kernel
theorem dX6_come_33 : decode cX6_come 33 = .ok (.if_icmp .ge 66, 3) := by decide +kernel
theorem dX6_come_36 : decode cX6_come 36 = .ok (.aload_n 0, 1) := by decide +kernel
theorem dX6_come_37 : decode cX6_come 37 = .ok (.getfield 10, 3) := by decide +kernel
theorem dX6_come_40 : decode cX6_come 40 = .ok (.invokevirtual 179, 3) := by decide +kernel
theorem dX6_come_43 : decode cX6_come 43 = .ok (.bipush 8, 2) := by decide +kernel
theorem dX6_come_45 : decode cX6_come 45 = .ok (.irem, 1) := by decide +kernel
theorem dX6_come_46 : decode cX6_come 46 = .ok (.istore 5, 2) := by decide +kernel
theorem dX6_come_48 : decode cX6_come 48 = .ok (.aload_n 0, 1) := by decide +kernel
theorem dX6_come_49 : decode cX6_come 49 = .ok (.getfield 10, 3) := by decide +kernel
theorem dX6_come_52 : decode cX6_come 52 = .ok (.iload 5, 2) := by decide +kernel
theorem dX6_come_54 : decode cX6_come 54 = .ok (.invokevirtual 182, 3) := by decide +kernel
theorem dX6_come_57 : decode cX6_come 57 = .ok (.ifCond .ne 36, 3) := by decide +kernel
theorem dX6_come_60 : decode cX6_come 60 = .ok (.aload_n 0, 1) := by decide +kernel
theorem dX6_come_61 : decode cX6_come 61 = .ok (.iload 5, 2) := by decide +kernel
theorem dX6_come_63 : decode cX6_come 63 = .ok (.iload_n 1, 1) := by decide +kernel
theorem dX6_come_64 : decode cX6_come 64 = .ok (.invokevirtual 170, 3) := by decide +kernel
theorem dX6_come_67 : decode cX6_come 67 = .ok (.invokestatic 185, 3) := by decide +kernel
theorem dX6_come_70 : decode cX6_come 70 = .ok (.istore 6, 2) := by decide +kernel
theorem dX6_come_72 : decode cX6_come 72 = .ok (.iload 6, 2) := by decide +kernel
theorem dX6_come_74 : decode cX6_come 74 = .ok (.iconst (-1), 1) := by decide +kernel
theorem dX6_come_75 : decode cX6_come 75 = .ok (.if_icmp .eq 18, 3) := by decide +kernel
theorem dX6_come_78 : decode cX6_come 78 = .ok (.aload_n 0, 1) := by decide +kernel
theorem dX6_come_79 : decode cX6_come 79 = .ok (.getfield 10, 3) := by decide +kernel
theorem dX6_come_82 : decode cX6_come 82 = .ok (.iload 5, 2) := by decide +kernel
theorem dX6_come_84 : decode cX6_come 84 = .ok (.iload_n 1, 1) := by decide +kernel
theorem dX6_come_85 : decode cX6_come 85 = .ok (.iload 6, 2) := by decide +kernel
theorem dX6_come_87 : decode cX6_come 87 = .ok (.invokevirtual 158, 3) := by decide +kernel
theorem dX6_come_90 : decode cX6_come 90 = .ok (.iinc 3 1, 3) := by decide +kernel
theorem dX6_come_93 : decode cX6_come 93 = .ok (.iinc 4 1, 3) := by decide +kernel
theorem dX6_come_96 : decode cX6_come 96 = .ok (.goto (-66), 3) := by decide +kernel
theorem dX6_come_99 : decode cX6_come 99 = .ok (.iload_n 3, 1) := by decide +kernel
theorem dX6_come_100 : decode cX6_come 100 = .ok (.ireturn, 1) := by decide +kernel
theorem dX6_seatings_0 : decode cX6_seatings 0 = .ok (.aload_n 0, 1) := by decide +kernel
theorem dX6_seatings_1 : decode cX6_seatings 1 = .ok (.iload_n 1, 1) := by decide +kernel
theorem dX6_seatings_2 : decode cX6_seatings 2 = .ok (.invokevirtual 116, 3) := by decide +kernel
theorem dX6_seatings_5 : decode cX6_seatings 5 = .ok (.ifCond .eq 10, 3) := by decide +kernel
theorem dX6_seatings_8 : decode cX6_seatings 8 = .ok (.iload_n 2, 1) := by decide +kernel
theorem dX6_seatings_9 : decode cX6_seatings 9 = .ok (.invokestatic 188, 3) := by decide +kernel
theorem dX6_seatings_12 : decode cX6_seatings 12 = .ok (.ifCond .ne 9, 3) := by decide +kernel
theorem dX6_seatings_15 : decode cX6_seatings 15 = .ok (.aload_n 0, 1) := by decide +kernel
theorem dX6_seatings_16 : decode cX6_seatings 16 = .ok (.iconst 0, 1) := by decide +kernel
theorem dX6_seatings_17 : decode cX6_seatings 17 = .ok (.invokevirtual 77, 3) := by decide +kernel
theorem dX6_seatings_20 : decode cX6_seatings 20 = .ok (.ireturn, 1) := by decide +kernel
theorem dX6_seatings_21 : decode cX6_seatings 21 = .ok (.aload_n 0, 1) := by decide +kernel
theorem dX6_seatings_22 : decode cX6_seatings 22 = .ok (.iload_n 1, 1) := by decide +kernel
theorem dX6_seatings_23 : decode cX6_seatings 23 = .ok (.iload_n 2, 1) := by decide +kernel
theorem dX6_seatings_24 : decode cX6_seatings 24 = .ok (.invokevirtual 191, 3) := by decide +kernel
theorem dX6_seatings_27 : decode cX6_seatings 27 = .ok (.ifCond .ne 10, 3) := by decide +kernel
theorem dX6_seatings_30 : decode cX6_seatings 30 = .ok (.aload_n 0, 1) := by decide +kernel
theorem dX6_seatings_31 : decode cX6_seatings 31 = .ok (.bipush 6, 2) := by decide +kernel
theorem dX6_seatings_33 : decode cX6_seatings 33 = .ok (.invokevirtual 77, 3) := by decide +kernel
theorem dX6_seatings_36 : decode cX6_seatings 36 = .ok (.ireturn, 1) := by decide +kernel
theorem dX6_seatings_37 : decode cX6_seatings 37 = .ok (.aload_n 0, 1) := by decide +kernel
theorem dX6_seatings_38 : decode cX6_seatings 38 = .ok (.getfield 42, 3) := by decide +kernel
theorem dX6_seatings_41 : decode cX6_seatings 41 = .ok (.ldc 194, 2) := by decide +kernel
theorem dX6_seatings_43 : decode cX6_seatings 43 = .ok (.aload_n 0, 1) := by decide +kernel
theorem dX6_seatings_44 : decode cX6_seatings 44 = .ok (.getfield 10, 3) := by decide +kernel
theorem dX6_seatings_47 : decode cX6_seatings 47 = .ok (.getfield 119, 3) := by decide +kernel
theorem dX6_seatings_50 : decode cX6_seatings 50 = .ok (.iload_n 1, 1) := by decide +kernel
theorem dX6_seatings_51 : decode cX6_seatings 51 = .ok (.aaload, 1) := by decide +kernel
theorem dX6_seatings_52 : decode cX6_seatings 52 = .ok (.iload_n 2, 1) := by decide +kernel
theorem dX6_seatings_53 : decode cX6_seatings 53 = .ok (.invokevirtual 195, 3) := by decide +kernel
theorem dX6_seatings_56 : decode cX6_seatings 56 = .ok (.ireturn, 1) := by decide +kernel
theorem dX6_lay_0 : decode cX6_lay 0 = .ok (.aload_n 0, 1) := by decide +kernel
theorem dX6_lay_1 : decode cX6_lay 1 = .ok (.iload_n 1, 1) := by decide +kernel
theorem dX6_lay_2 : decode cX6_lay 2 = .ok (.invokevirtual 116, 3) := by decide +kernel
theorem dX6_lay_5 : decode cX6_lay 5 = .ok (.ifCond .eq 14, 3) := by decide +kernel
theorem dX6_lay_8 : decode cX6_lay 8 = .ok (.iload_n 2, 1) := by decide +kernel
theorem dX6_lay_9 : decode cX6_lay 9 = .ok (.invokestatic 188, 3) := by decide +kernel
theorem dX6_lay_12 : decode cX6_lay 12 = .ok (.ifCond .eq 7, 3) := by decide +kernel
theorem dX6_lay_15 : decode cX6_lay 15 = .ok (.iload_n 3, 1) := by decide +kernel
theorem dX6_lay_16 : decode cX6_lay 16 = .ok (.ifCond .ge 9, 3) := by decide +kernel
theorem dX6_lay_19 : decode cX6_lay 19 = .ok (.aload_n 0, 1) := by decide +kernel
theorem dX6_lay_20 : decode cX6_lay 20 = .ok (.iconst 0, 1) := by decide +kernel
theorem dX6_lay_21 : decode cX6_lay 21 = .ok (.invokevirtual 77, 3) := by decide +kernel
theorem dX6_lay_24 : decode cX6_lay 24 = .ok (.ireturn, 1) := by decide +kernel
theorem dX6_lay_25 : decode cX6_lay 25 = .ok (.aload_n 0, 1) := by decide +kernel
theorem dX6_lay_26 : decode cX6_lay 26 = .ok (.iload_n 1, 1) := by decide +kernel
theorem dX6_lay_27 : decode cX6_lay 27 = .ok (.iload_n 2, 1) := by decide +kernel
theorem dX6_lay_28 : decode cX6_lay 28 = .ok (.invokevirtual 191, 3) := by decide +kernel
theorem dX6_lay_31 : decode cX6_lay 31 = .ok (.ifCond .ne 10, 3) := by decide +kernel
theorem dX6_lay_34 : decode cX6_lay 34 = .ok (.aload_n 0, 1) := by decide +kernel
theorem dX6_lay_35 : decode cX6_lay 35 = .ok (.bipush 6, 2) := by decide +kernel
theorem dX6_lay_37 : decode cX6_lay 37 = .ok (.invokevirtual 77, 3) := by decide +kernel
theorem dX6_lay_40 : decode cX6_lay 40 = .ok (.ireturn, 1) := by decide +kernel
theorem dX6_lay_41 : decode cX6_lay 41 = .ok (.aload_n 0, 1) := by decide +kernel
theorem dX6_lay_42 : decode cX6_lay 42 = .ok (.getfield 42, 3) := by decide +kernel
theorem dX6_lay_45 : decode cX6_lay 45 = .ok (.iload_n 3, 1) := by decide +kernel
theorem dX6_lay_46 : decode cX6_lay 46 = .ok (.aload_n 0, 1) := by decide +kernel
theorem dX6_lay_47 : decode cX6_lay 47 = .ok (.getfield 10, 3) := by decide +kernel
theorem dX6_lay_50 : decode cX6_lay 50 = .ok (.getfield 119, 3) := by decide +kernel
theorem dX6_lay_53 : decode cX6_lay 53 = .ok (.iload_n 1, 1) := by decide +kernel
theorem dX6_lay_54 : decode cX6_lay 54 = .ok (.aaload, 1) := by decide +kernel
theorem dX6_lay_55 : decode cX6_lay 55 = .ok (.iload_n 2, 1) := by decide +kernel
theorem dX6_lay_56 : decode cX6_lay 56 = .ok (.invokevirtual 199, 3) := by decide +kernel
theorem dX6_lay_59 : decode cX6_lay 59 = .ok (.ifCond .ne 9, 3) := by decide +kernel
theorem dX6_lay_62 : decode cX6_lay 62 = .ok (.aload_n 0, 1) := by decide +kernel
theorem dX6_lay_63 : decode cX6_lay 63 = .ok (.iconst 3, 1) := by decide +kernel
theorem dX6_lay_64 : decode cX6_lay 64 = .ok (.invokevirtual 77, 3) := by decide +kernel
theorem dX6_lay_67 : decode cX6_lay 67 = .ok (.ireturn, 1) := by decide +kernel
theorem dX6_lay_68 : decode cX6_lay 68 = .ok (.aload_n 0, 1) := by decide +kernel
theorem dX6_lay_69 : decode cX6_lay 69 = .ok (.getfield 10, 3) := by decide +kernel
theorem dX6_lay_72 : decode cX6_lay 72 = .ok (.iload_n 1, 1) := by decide +kernel
theorem dX6_lay_73 : decode cX6_lay 73 = .ok (.iload_n 2, 1) := by decide +kernel
theorem dX6_lay_74 : decode cX6_lay 74 = .ok (.aload_n 0, 1) := by decide +kernel
theorem dX6_lay_75 : decode cX6_lay 75 = .ok (.getfield 42, 3) := by decide +kernel
theorem dX6_lay_78 : decode cX6_lay 78 = .ok (.getfield 203, 3) := by decide +kernel
theorem dX6_lay_81 : decode cX6_lay 81 = .ok (.getfield 144, 3) := by decide +kernel
theorem dX6_lay_84 : decode cX6_lay 84 = .ok (.invokevirtual 206, 3) := by decide +kernel
theorem dX6_lay_87 : decode cX6_lay 87 = .ok (.iconst 1, 1) := by decide +kernel
theorem dX6_lay_88 : decode cX6_lay 88 = .ok (.ireturn, 1) := by decide +kernel
theorem dX6_most_0 : decode cX6_most 0 = .ok (.aload_n 0, 1) := by decide +kernel
theorem dX6_most_1 : decode cX6_most 1 = .ok (.iload_n 1, 1) := by decide +kernel
theorem dX6_most_2 : decode cX6_most 2 = .ok (.invokevirtual 116, 3) := by decide +kernel
theorem dX6_most_5 : decode cX6_most 5 = .ok (.ifCond .eq 10, 3) := by decide +kernel
theorem dX6_most_8 : decode cX6_most 8 = .ok (.iload_n 2, 1) := by decide +kernel
theorem dX6_most_9 : decode cX6_most 9 = .ok (.invokestatic 188, 3) := by decide +kernel
theorem dX6_most_12 : decode cX6_most 12 = .ok (.ifCond .ne 9, 3) := by decide +kernel
theorem dX6_most_15 : decode cX6_most 15 = .ok (.aload_n 0, 1) := by decide +kernel
theorem dX6_most_16 : decode cX6_most 16 = .ok (.iconst 0, 1) := by decide +kernel
theorem dX6_most_17 : decode cX6_most 17 = .ok (.invokevirtual 77, 3) := by decide +kernel
theorem dX6_most_20 : decode cX6_most 20 = .ok (.ireturn, 1) := by decide +kernel
theorem dX6_most_21 : decode cX6_most 21 = .ok (.iload_n 2, 1) := by decide +kernel
theorem dX6_most_22 : decode cX6_most 22 = .ok (.invokestatic 210, 3) := by decide +kernel
theorem dX6_most_25 : decode cX6_most 25 = .ok (.bipush 6, 2) := by decide +kernel
theorem dX6_most_27 : decode cX6_most 27 = .ok (.if_icmp .le 10, 3) := by decide +kernel
theorem dX6_most_30 : decode cX6_most 30 = .ok (.aload_n 0, 1) := by decide +kernel
theorem dX6_most_31 : decode cX6_most 31 = .ok (.bipush 6, 2) := by decide +kernel
theorem dX6_most_33 : decode cX6_most 33 = .ok (.invokevirtual 77, 3) := by decide +kernel
theorem dX6_most_36 : decode cX6_most 36 = .ok (.ireturn, 1) := by decide +kernel
theorem dX6_most_37 : decode cX6_most 37 = .ok (.iload_n 2, 1) := by decide +kernel
theorem dX6_most_38 : decode cX6_most 38 = .ok (.invokestatic 210, 3) := by decide +kernel
theorem dX6_most_41 : decode cX6_most 41 = .ok (.istore_n 3, 1) := by decide +kernel
theorem dX6_most_42 : decode cX6_most 42 = .ok (.iload_n 3, 1) := by decide +kernel
theorem dX6_most_43 : decode cX6_most 43 = .ok (.ifCond .le 67, 3) := by decide +kernel
theorem dX6_most_46 : decode cX6_most 46 = .ok (.iconst 1, 1) := by decide +kernel
theorem dX6_most_47 : decode cX6_most 47 = .ok (.istore 4, 2) := by decide +kernel
theorem dX6_most_49 : decode cX6_most 49 = .ok (.iload 4, 2) := by decide +kernel
theorem dX6_most_51 : decode cX6_most 51 = .ok (.iload_n 2, 1) := by decide +kernel
theorem dX6_most_52 : decode cX6_most 52 = .ok (.if_icmp .gt 52, 3) := by decide +kernel
theorem dX6_most_55 : decode cX6_most 55 = .ok (.iload 4, 2) := by decide +kernel
theorem dX6_most_57 : decode cX6_most 57 = .ok (.iload_n 2, 1) := by decide +kernel
theorem dX6_most_58 : decode cX6_most 58 = .ok (.iconst (-1), 1) := by decide +kernel
theorem dX6_most_59 : decode cX6_most 59 = .ok (.ixor, 1) := by decide +kernel
theorem dX6_most_60 : decode cX6_most 60 = .ok (.iand, 1) := by decide +kernel
theorem dX6_most_61 : decode cX6_most 61 = .ok (.ifCond .ne 37, 3) := by decide +kernel
theorem dX6_most_64 : decode cX6_most 64 = .ok (.iload 4, 2) := by decide +kernel
theorem dX6_most_66 : decode cX6_most 66 = .ok (.invokestatic 210, 3) := by decide +kernel
theorem dX6_most_69 : decode cX6_most 69 = .ok (.iload_n 3, 1) := by decide +kernel
theorem dX6_most_70 : decode cX6_most 70 = .ok (.if_icmp .ne 28, 3) := by decide +kernel
theorem dX6_most_73 : decode cX6_most 73 = .ok (.aload_n 0, 1) := by decide +kernel
theorem dX6_most_74 : decode cX6_most 74 = .ok (.getfield 42, 3) := by decide +kernel
theorem dX6_most_77 : decode cX6_most 77 = .ok (.iconst 0, 1) := by decide +kernel
theorem dX6_most_78 : decode cX6_most 78 = .ok (.aload_n 0, 1) := by decide +kernel
theorem dX6_most_79 : decode cX6_most 79 = .ok (.getfield 10, 3) := by decide +kernel
theorem dX6_most_82 : decode cX6_most 82 = .ok (.getfield 119, 3) := by decide +kernel
theorem dX6_most_85 : decode cX6_most 85 = .ok (.iload_n 1, 1) := by decide +kernel
theorem dX6_most_86 : decode cX6_most 86 = .ok (.aaload, 1) := by decide +kernel
theorem dX6_most_87 : decode cX6_most 87 = .ok (.iload 4, 2) := by decide +kernel
theorem dX6_most_89 : decode cX6_most 89 = .ok (.invokevirtual 199, 3) := by decide +kernel
theorem dX6_most_92 : decode cX6_most 92 = .ok (.ifCond .eq 6, 3) := by decide +kernel
theorem dX6_most_95 : decode cX6_most 95 = .ok (.iload 4, 2) := by decide +kernel
theorem dX6_most_97 : decode cX6_most 97 = .ok (.ireturn, 1) := by decide +kernel
theorem dX6_most_98 : decode cX6_most 98 = .ok (.iinc 4 1, 3) := by decide +kernel
theorem dX6_most_101 : decode cX6_most 101 = .ok (.goto (-52), 3) := by decide +kernel
theorem dX6_most_104 : decode cX6_most 104 = .ok (.iinc 3 (-1), 3) := by decide +kernel
theorem dX6_most_107 : decode cX6_most 107 = .ok (.goto (-65), 3) := by decide +kernel
theorem dX6_most_110 : decode cX6_most 110 = .ok (.iconst 0, 1) := by decide +kernel
theorem dX6_most_111 : decode cX6_most 111 = .ok (.ireturn, 1) := by decide +kernel
theorem dX6_frees_0 : decode cX6_frees 0 = .ok (.aload_n 0, 1) := by decide +kernel
theorem dX6_frees_1 : decode cX6_frees 1 = .ok (.iload_n 1, 1) := by decide +kernel
theorem dX6_frees_2 : decode cX6_frees 2 = .ok (.invokevirtual 116, 3) := by decide +kernel
theorem dX6_frees_5 : decode cX6_frees 5 = .ok (.ifCond .eq 10, 3) := by decide +kernel
theorem dX6_frees_8 : decode cX6_frees 8 = .ok (.iload_n 2, 1) := by decide +kernel
theorem dX6_frees_9 : decode cX6_frees 9 = .ok (.invokestatic 188, 3) := by decide +kernel
theorem dX6_frees_12 : decode cX6_frees 12 = .ok (.ifCond .ne 9, 3) := by decide +kernel
theorem dX6_frees_15 : decode cX6_frees 15 = .ok (.aload_n 0, 1) := by decide +kernel
theorem dX6_frees_16 : decode cX6_frees 16 = .ok (.iconst 0, 1) := by decide +kernel
theorem dX6_frees_17 : decode cX6_frees 17 = .ok (.invokevirtual 77, 3) := by decide +kernel
theorem dX6_frees_20 : decode cX6_frees 20 = .ok (.ireturn, 1) := by decide +kernel
theorem dX6_frees_21 : decode cX6_frees 21 = .ok (.aload_n 0, 1) := by decide +kernel
theorem dX6_frees_22 : decode cX6_frees 22 = .ok (.iload_n 1, 1) := by decide +kernel
theorem dX6_frees_23 : decode cX6_frees 23 = .ok (.iload_n 2, 1) := by decide +kernel
theorem dX6_frees_24 : decode cX6_frees 24 = .ok (.invokevirtual 191, 3) := by decide +kernel
theorem dX6_frees_27 : decode cX6_frees 27 = .ok (.ifCond .ne 10, 3) := by decide +kernel
theorem dX6_frees_30 : decode cX6_frees 30 = .ok (.aload_n 0, 1) := by decide +kernel
theorem dX6_frees_31 : decode cX6_frees 31 = .ok (.bipush 6, 2) := by decide +kernel
theorem dX6_frees_33 : decode cX6_frees 33 = .ok (.invokevirtual 77, 3) := by decide +kernel
theorem dX6_frees_36 : decode cX6_frees 36 = .ok (.ireturn, 1) := by decide +kernel
theorem dX6_frees_37 : decode cX6_frees 37 = .ok (.iconst (-1), 1) := by decide +kernel
theorem dX6_frees_38 : decode cX6_frees 38 = .ok (.istore_n 3, 1) := by decide +kernel
theorem dX6_frees_39 : decode cX6_frees 39 = .ok (.iconst (-1), 1) := by decide +kernel
theorem dX6_frees_40 : decode cX6_frees 40 = .ok (.istore 4, 2) := by decide +kernel
theorem dX6_frees_42 : decode cX6_frees 42 = .ok (.iconst 0, 1) := by decide +kernel
theorem dX6_frees_43 : decode cX6_frees 43 = .ok (.istore 5, 2) := by decide +kernel
theorem dX6_frees_45 : decode cX6_frees 45 = .ok (.iload 5, 2) := by decide +kernel
theorem dX6_frees_47 : decode cX6_frees 47 = .ok (.bipush 8, 2) := by decide +kernel
theorem dX6_frees_49 : decode cX6_frees 49 = .ok (.if_icmp .ge 95, 3) := by decide +kernel
theorem dX6_frees_52 : decode cX6_frees 52 = .ok (.iload 5, 2) := by decide +kernel
theorem dX6_frees_54 : decode cX6_frees 54 = .ok (.iconst 1, 1) := by decide +kernel
theorem dX6_frees_55 : decode cX6_frees 55 = .ok (.iadd, 1) := by decide +kernel
theorem dX6_frees_56 : decode cX6_frees 56 = .ok (.istore 6, 2) := by decide +kernel
theorem dX6_frees_58 : decode cX6_frees 58 = .ok (.iload 6, 2) := by decide +kernel
theorem dX6_frees_60 : decode cX6_frees 60 = .ok (.bipush 8, 2) := by decide +kernel
theorem dX6_frees_62 : decode cX6_frees 62 = .ok (.if_icmp .ge 76, 3) := by decide +kernel
theorem dX6_frees_65 : decode cX6_frees 65 = .ok (.iload_n 2, 1) := by decide +kernel
theorem dX6_frees_66 : decode cX6_frees 66 = .ok (.iload 5, 2) := by decide +kernel
theorem dX6_frees_68 : decode cX6_frees 68 = .ok (.invokestatic 173, 3) := by decide +kernel
theorem dX6_frees_71 : decode cX6_frees 71 = .ok (.ifCond .eq 61, 3) := by decide +kernel
theorem dX6_frees_74 : decode cX6_frees 74 = .ok (.iload_n 2, 1) := by decide +kernel
theorem dX6_frees_75 : decode cX6_frees 75 = .ok (.iload 6, 2) := by decide +kernel
theorem dX6_frees_77 : decode cX6_frees 77 = .ok (.invokestatic 173, 3) := by decide +kernel
theorem dX6_frees_80 : decode cX6_frees 80 = .ok (.ifCond .eq 52, 3) := by decide +kernel
theorem dX6_frees_83 : decode cX6_frees 83 = .ok (.aload_n 0, 1) := by decide +kernel
theorem dX6_frees_84 : decode cX6_frees 84 = .ok (.getfield 10, 3) := by decide +kernel
theorem dX6_frees_87 : decode cX6_frees 87 = .ok (.getfield 35, 3) := by decide +kernel
theorem dX6_frees_90 : decode cX6_frees 90 = .ok (.iload 5, 2) := by decide +kernel
theorem dX6_frees_92 : decode cX6_frees 92 = .ok (.iload 6, 2) := by decide +kernel
theorem dX6_frees_94 : decode cX6_frees 94 = .ok (.invokevirtual 215, 3) := by decide +kernel
theorem dX6_frees_97 : decode cX6_frees 97 = .ok (.ifCond .eq 35, 3) := by decide +kernel
theorem dX6_frees_100 : decode cX6_frees 100 = .ok (.aload_n 0, 1) := by decide +kernel
theorem dX6_frees_101 : decode cX6_frees 101 = .ok (.iload_n 1, 1) := by decide +kernel
theorem dX6_frees_102 : decode cX6_frees 102 = .ok (.iload_n 2, 1) := by decide +kernel
theorem dX6_frees_103 : decode cX6_frees 103 = .ok (.iload 5, 2) := by decide +kernel
theorem dX6_frees_105 : decode cX6_frees 105 = .ok (.iload 6, 2) := by decide +kernel
theorem dX6_frees_107 : decode cX6_frees 107 = .ok (.invokevirtual 218, 3) := by decide +kernel
theorem dX6_frees_110 : decode cX6_frees 110 = .ok (.istore 7, 2) := by decide +kernel
theorem dX6_frees_112 : decode cX6_frees 112 = .ok (.iload 7, 2) := by decide +kernel
theorem dX6_frees_114 : decode cX6_frees 114 = .ok (.iload 4, 2) := by decide +kernel
theorem dX6_frees_116 : decode cX6_frees 116 = .ok (.if_icmp .le 16, 3) := by decide +kernel
theorem dX6_frees_119 : decode cX6_frees 119 = .ok (.bipush 10, 2) := by decide +kernel
theorem dX6_frees_121 : decode cX6_frees 121 = .ok (.iload 5, 2) := by decide +kernel
theorem dX6_frees_123 : decode cX6_frees 123 = .ok (.imul, 1) := by decide +kernel
theorem dX6_frees_124 : decode cX6_frees 124 = .ok (.iload 6, 2) := by decide +kernel
theorem dX6_frees_126 : decode cX6_frees 126 = .ok (.iadd, 1) := by decide +kernel
theorem dX6_frees_127 : decode cX6_frees 127 = .ok (.istore_n 3, 1) := by decide +kernel
theorem dX6_frees_128 : decode cX6_frees 128 = .ok (.iload 7, 2) := by decide +kernel
theorem dX6_frees_130 : decode cX6_frees 130 = .ok (.istore 4, 2) := by decide +kernel
theorem dX6_frees_132 : decode cX6_frees 132 = .ok (.iinc 6 1, 3) := by decide +kernel
theorem dX6_frees_135 : decode cX6_frees 135 = .ok (.goto (-77), 3) := by decide +kernel
theorem dX6_frees_138 : decode cX6_frees 138 = .ok (.iinc 5 1, 3) := by decide +kernel
theorem dX6_frees_141 : decode cX6_frees 141 = .ok (.goto (-96), 3) := by decide +kernel
theorem dX6_frees_144 : decode cX6_frees 144 = .ok (.iload_n 3, 1) := by decide +kernel
theorem dX6_frees_145 : decode cX6_frees 145 = .ok (.iconst (-1), 1) := by decide +kernel
theorem dX6_frees_146 : decode cX6_frees 146 = .ok (.if_icmp .ne 11, 3) := by decide +kernel
theorem dX6_frees_149 : decode cX6_frees 149 = .ok (.aload_n 0, 1) := by decide +kernel
theorem dX6_frees_150 : decode cX6_frees 150 = .ok (.iconst 3, 1) := by decide +kernel
theorem dX6_frees_151 : decode cX6_frees 151 = .ok (.invokevirtual 77, 3) := by decide +kernel
theorem dX6_frees_154 : decode cX6_frees 154 = .ok (.goto 4, 3) := by decide +kernel
theorem dX6_frees_157 : decode cX6_frees 157 = .ok (.iload_n 3, 1) := by decide +kernel
theorem dX6_frees_158 : decode cX6_frees 158 = .ok (.ireturn, 1) := by decide +kernel
theorem dX6_often_0 : decode cX6_often 0 = .ok (.aload_n 0, 1) := by decide +kernel
theorem dX6_often_1 : decode cX6_often 1 = .ok (.iload_n 1, 1) := by decide +kernel
theorem dX6_often_2 : decode cX6_often 2 = .ok (.iload 4, 2) := by decide +kernel
theorem dX6_often_4 : decode cX6_often 4 = .ok (.invokevirtual 141, 3) := by decide +kernel
theorem dX6_often_7 : decode cX6_often 7 = .ok (.ifCond .eq 25, 3) := by decide +kernel
theorem dX6_often_10 : decode cX6_often 10 = .ok (.iload_n 2, 1) := by decide +kernel
theorem dX6_often_11 : decode cX6_often 11 = .ok (.invokestatic 188, 3) := by decide +kernel
theorem dX6_often_14 : decode cX6_often 14 = .ok (.ifCond .eq 18, 3) := by decide +kernel
theorem dX6_often_17 : decode cX6_often 17 = .ok (.iload_n 3, 1) := by decide +kernel
theorem dX6_often_18 : decode cX6_often 18 = .ok (.invokestatic 91, 3) := by decide +kernel
theorem dX6_often_21 : decode cX6_often 21 = .ok (.ifCond .eq 11, 3) := by decide +kernel
theorem dX6_often_24 : decode cX6_often 24 = .ok (.iload_n 2, 1) := by decide +kernel
theorem dX6_often_25 : decode cX6_often 25 = .ok (.iload_n 3, 1) := by decide +kernel
theorem dX6_often_26 : decode cX6_often 26 = .ok (.invokestatic 173, 3) := by decide +kernel
theorem dX6_often_29 : decode cX6_often 29 = .ok (.ifCond .ne 9, 3) := by decide +kernel
theorem dX6_often_32 : decode cX6_often 32 = .ok (.aload_n 0, 1) := by decide +kernel
theorem dX6_often_33 : decode cX6_often 33 = .ok (.iconst 0, 1) := by decide +kernel
theorem dX6_often_34 : decode cX6_often 34 = .ok (.invokevirtual 77, 3) := by decide +kernel
theorem dX6_often_37 : decode cX6_often 37 = .ok (.ireturn, 1) := by decide +kernel
theorem dX6_often_38 : decode cX6_often 38 = .ok (.aload_n 0, 1) := by decide +kernel
theorem dX6_often_39 : decode cX6_often 39 = .ok (.iload_n 1, 1) := by decide +kernel
theorem dX6_often_40 : decode cX6_often 40 = .ok (.iload_n 2, 1) := by decide +kernel
theorem dX6_often_41 : decode cX6_often 41 = .ok (.invokevirtual 191, 3) := by decide +kernel
theorem dX6_often_44 : decode cX6_often 44 = .ok (.ifCond .ne 10, 3) := by decide +kernel
theorem dX6_often_47 : decode cX6_often 47 = .ok (.aload_n 0, 1) := by decide +kernel
theorem dX6_often_48 : decode cX6_often 48 = .ok (.bipush 6, 2) := by decide +kernel
theorem dX6_often_50 : decode cX6_often 50 = .ok (.invokevirtual 77, 3) := by decide +kernel
theorem dX6_often_53 : decode cX6_often 53 = .ok (.ireturn, 1) := by decide +kernel
theorem dX6_often_54 : decode cX6_often 54 = .ok (.aload_n 0, 1) := by decide +kernel
theorem dX6_often_55 : decode cX6_often 55 = .ok (.getfield 42, 3) := by decide +kernel
theorem dX6_often_58 : decode cX6_often 58 = .ok (.iload_n 3, 1) := by decide +kernel
theorem dX6_often_59 : decode cX6_often 59 = .ok (.iload 4, 2) := by decide +kernel
theorem dX6_often_61 : decode cX6_often 61 = .ok (.aload_n 0, 1) := by decide +kernel
theorem dX6_often_62 : decode cX6_often 62 = .ok (.getfield 10, 3) := by decide +kernel
theorem dX6_often_65 : decode cX6_often 65 = .ok (.getfield 119, 3) := by decide +kernel
theorem dX6_often_68 : decode cX6_often 68 = .ok (.iload_n 1, 1) := by decide +kernel
theorem dX6_often_69 : decode cX6_often 69 = .ok (.aaload, 1) := by decide +kernel
theorem dX6_often_70 : decode cX6_often 70 = .ok (.iload_n 2, 1) := by decide +kernel
theorem dX6_often_71 : decode cX6_often 71 = .ok (.invokevirtual 222, 3) := by decide +kernel
theorem dX6_often_74 : decode cX6_often 74 = .ok (.ireturn, 1) := by decide +kernel
theorem dX6_needs_0 : decode cX6_needs 0 = .ok (.aload_n 0, 1) := by decide +kernel
theorem dX6_needs_1 : decode cX6_needs 1 = .ok (.iload_n 1, 1) := by decide +kernel
theorem dX6_needs_2 : decode cX6_needs 2 = .ok (.invokevirtual 116, 3) := by decide +kernel
theorem dX6_needs_5 : decode cX6_needs 5 = .ok (.ifCond .eq 10, 3) := by decide +kernel
theorem dX6_needs_8 : decode cX6_needs 8 = .ok (.iload_n 2, 1) := by decide +kernel
theorem dX6_needs_9 : decode cX6_needs 9 = .ok (.invokestatic 188, 3) := by decide +kernel
theorem dX6_needs_12 : decode cX6_needs 12 = .ok (.ifCond .ne 9, 3) := by decide +kernel
theorem dX6_needs_15 : decode cX6_needs 15 = .ok (.aload_n 0, 1) := by decide +kernel
theorem dX6_needs_16 : decode cX6_needs 16 = .ok (.iconst 0, 1) := by decide +kernel
theorem dX6_needs_17 : decode cX6_needs 17 = .ok (.invokevirtual 77, 3) := by decide +kernel
theorem dX6_needs_20 : decode cX6_needs 20 = .ok (.ireturn, 1) := by decide +kernel
theorem dX6_needs_21 : decode cX6_needs 21 = .ok (.iload_n 2, 1) := by decide +kernel
theorem dX6_needs_22 : decode cX6_needs 22 = .ok (.invokestatic 210, 3) := by decide +kernel
theorem dX6_needs_25 : decode cX6_needs 25 = .ok (.bipush 6, 2) := by decide +kernel
theorem dX6_needs_27 : decode cX6_needs 27 = .ok (.if_icmp .le 10, 3) := by decide +kernel
theorem dX6_needs_30 : decode cX6_needs 30 = .ok (.aload_n 0, 1) := by decide +kernel
theorem dX6_needs_31 : decode cX6_needs 31 = .ok (.bipush 6, 2) := by decide +kernel
theorem dX6_needs_33 : decode cX6_needs 33 = .ok (.invokevirtual 77, 3) := by decide +kernel
theorem dX6_needs_36 : decode cX6_needs 36 = .ok (.ireturn, 1) := by decide +kernel
theorem dX6_needs_37 : decode cX6_needs 37 = .ok (.iconst 1, 1) := by decide +kernel
theorem dX6_needs_38 : decode cX6_needs 38 = .ok (.istore_n 3, 1) := by decide +kernel
theorem dX6_needs_39 : decode cX6_needs 39 = .ok (.iload_n 3, 1) := by decide +kernel
theorem dX6_needs_40 : decode cX6_needs 40 = .ok (.bipush 8, 2) := by decide +kernel
theorem dX6_needs_42 : decode cX6_needs 42 = .ok (.if_icmp .gt 47, 3) := by decide +kernel
theorem dX6_needs_45 : decode cX6_needs 45 = .ok (.aload_n 0, 1) := by decide +kernel
theorem dX6_needs_46 : decode cX6_needs 46 = .ok (.getfield 29, 3) := by decide +kernel
theorem dX6_needs_49 : decode cX6_needs 49 = .ok (.aload_n 0, 1) := by decide +kernel
theorem dX6_needs_50 : decode cX6_needs 50 = .ok (.getfield 10, 3) := by decide +kernel
theorem dX6_needs_53 : decode cX6_needs 53 = .ok (.getfield 119, 3) := by decide +kernel
theorem dX6_needs_56 : decode cX6_needs 56 = .ok (.iload_n 1, 1) := by decide +kernel
theorem dX6_needs_57 : decode cX6_needs 57 = .ok (.aaload, 1) := by decide +kernel
theorem dX6_needs_58 : decode cX6_needs 58 = .ok (.getfield 123, 3) := by decide +kernel
theorem dX6_needs_61 : decode cX6_needs 61 = .ok (.iload_n 3, 1) := by decide +kernel
theorem dX6_needs_62 : decode cX6_needs 62 = .ok (.invokevirtual 226, 3) := by decide +kernel
theorem dX6_needs_65 : decode cX6_needs 65 = .ok (.aload_n 0, 1) := by decide +kernel
theorem dX6_needs_66 : decode cX6_needs 66 = .ok (.getfield 42, 3) := by decide +kernel
theorem dX6_needs_69 : decode cX6_needs 69 = .ok (.iconst 0, 1) := by decide +kernel
theorem dX6_needs_70 : decode cX6_needs 70 = .ok (.aload_n 0, 1) := by decide +kernel
theorem dX6_needs_71 : decode cX6_needs 71 = .ok (.getfield 29, 3) := by decide +kernel
theorem dX6_needs_74 : decode cX6_needs 74 = .ok (.iload_n 2, 1) := by decide +kernel
theorem dX6_needs_75 : decode cX6_needs 75 = .ok (.invokevirtual 199, 3) := by decide +kernel
theorem dX6_needs_78 : decode cX6_needs 78 = .ok (.ifCond .eq 5, 3) := by decide +kernel
theorem dX6_needs_81 : decode cX6_needs 81 = .ok (.iload_n 3, 1) := by decide +kernel
theorem dX6_needs_82 : decode cX6_needs 82 = .ok (.ireturn, 1) := by decide +kernel
theorem dX6_needs_83 : decode cX6_needs 83 = .ok (.iinc 3 1, 3) := by decide +kernel
theorem dX6_needs_86 : decode cX6_needs 86 = .ok (.goto (-47), 3) := by decide +kernel
theorem dX6_needs_89 : decode cX6_needs 89 = .ok (.aload_n 0, 1) := by decide +kernel
theorem dX6_needs_90 : decode cX6_needs 90 = .ok (.iconst 3, 1) := by decide +kernel
theorem dX6_needs_91 : decode cX6_needs 91 = .ok (.invokevirtual 77, 3) := by decide +kernel
theorem dX6_needs_94 : decode cX6_needs 94 = .ok (.ireturn, 1) := by decide +kernel
theorem dX6_gain_0 : decode cX6_gain 0 = .ok (.iload_n 1, 1) := by decide +kernel
theorem dX6_gain_1 : decode cX6_gain 1 = .ok (.invokestatic 91, 3) := by decide +kernel
theorem dX6_gain_4 : decode cX6_gain 4 = .ok (.ifCond .ne 9, 3) := by decide +kernel
theorem dX6_gain_7 : decode cX6_gain 7 = .ok (.aload_n 0, 1) := by decide +kernel
theorem dX6_gain_8 : decode cX6_gain 8 = .ok (.iconst 0, 1) := by decide +kernel
theorem dX6_gain_9 : decode cX6_gain 9 = .ok (.invokevirtual 77, 3) := by decide +kernel
theorem dX6_gain_12 : decode cX6_gain 12 = .ok (.ireturn, 1) := by decide +kernel
theorem dX6_gain_13 : decode cX6_gain 13 = .ok (.aload_n 0, 1) := by decide +kernel
theorem dX6_gain_14 : decode cX6_gain 14 = .ok (.getfield 10, 3) := by decide +kernel
theorem dX6_gain_17 : decode cX6_gain 17 = .ok (.iload_n 1, 1) := by decide +kernel
theorem dX6_gain_18 : decode cX6_gain 18 = .ok (.invokevirtual 164, 3) := by decide +kernel
theorem dX6_gain_21 : decode cX6_gain 21 = .ok (.istore_n 2, 1) := by decide +kernel
theorem dX6_gain_22 : decode cX6_gain 22 = .ok (.iload_n 2, 1) := by decide +kernel
theorem dX6_gain_23 : decode cX6_gain 23 = .ok (.iconst (-1), 1) := by decide +kernel
theorem dX6_gain_24 : decode cX6_gain 24 = .ok (.if_icmp .ne 9, 3) := by decide +kernel
theorem dX6_gain_27 : decode cX6_gain 27 = .ok (.aload_n 0, 1) := by decide +kernel
theorem dX6_gain_28 : decode cX6_gain 28 = .ok (.iconst 4, 1) := by decide +kernel
theorem dX6_gain_29 : decode cX6_gain 29 = .ok (.invokevirtual 77, 3) := by decide +kernel
theorem dX6_gain_32 : decode cX6_gain 32 = .ok (.ireturn, 1) := by decide +kernel
theorem dX6_gain_33 : decode cX6_gain 33 = .ok (.aload_n 0, 1) := by decide +kernel
theorem dX6_gain_34 : decode cX6_gain 34 = .ok (.getfield 10, 3) := by decide +kernel
theorem dX6_gain_37 : decode cX6_gain 37 = .ok (.getfield 35, 3) := by decide +kernel
theorem dX6_gain_40 : decode cX6_gain 40 = .ok (.iload_n 1, 1) := by decide +kernel
theorem dX6_gain_41 : decode cX6_gain 41 = .ok (.aload_n 0, 1) := by decide +kernel
theorem dX6_gain_42 : decode cX6_gain 42 = .ok (.getfield 10, 3) := by decide +kernel
theorem dX6_gain_45 : decode cX6_gain 45 = .ok (.getfield 119, 3) := by decide +kernel
theorem dX6_gain_48 : decode cX6_gain 48 = .ok (.iload_n 2, 1) := by decide +kernel
theorem dX6_gain_49 : decode cX6_gain 49 = .ok (.aaload, 1) := by decide +kernel
theorem dX6_gain_50 : decode cX6_gain 50 = .ok (.invokevirtual 230, 3) := by decide +kernel
theorem dX6_gain_53 : decode cX6_gain 53 = .ok (.ireturn, 1) := by decide +kernel
theorem dX6_worth_0 : decode cX6_worth 0 = .ok (.aload_n 0, 1) := by decide +kernel
theorem dX6_worth_1 : decode cX6_worth 1 = .ok (.iload_n 1, 1) := by decide +kernel
theorem dX6_worth_2 : decode cX6_worth 2 = .ok (.invokevirtual 116, 3) := by decide +kernel
theorem dX6_worth_5 : decode cX6_worth 5 = .ok (.ifCond .ne 9, 3) := by decide +kernel
theorem dX6_worth_8 : decode cX6_worth 8 = .ok (.aload_n 0, 1) := by decide +kernel
theorem dX6_worth_9 : decode cX6_worth 9 = .ok (.iconst 0, 1) := by decide +kernel
theorem dX6_worth_10 : decode cX6_worth 10 = .ok (.invokevirtual 77, 3) := by decide +kernel
theorem dX6_worth_13 : decode cX6_worth 13 = .ok (.ireturn, 1) := by decide +kernel
theorem dX6_worth_14 : decode cX6_worth 14 = .ok (.iconst 0, 1) := by decide +kernel
theorem dX6_worth_15 : decode cX6_worth 15 = .ok (.istore_n 2, 1) := by decide +kernel
theorem dX6_worth_16 : decode cX6_worth 16 = .ok (.iconst 0, 1) := by decide +kernel
theorem dX6_worth_17 : decode cX6_worth 17 = .ok (.istore_n 3, 1) := by decide +kernel
theorem dX6_worth_18 : decode cX6_worth 18 = .ok (.iload_n 3, 1) := by decide +kernel
theorem dX6_worth_19 : decode cX6_worth 19 = .ok (.bipush 8, 2) := by decide +kernel
theorem dX6_worth_21 : decode cX6_worth 21 = .ok (.if_icmp .ge 32, 3) := by decide +kernel
theorem dX6_worth_24 : decode cX6_worth 24 = .ok (.iload_n 2, 1) := by decide +kernel
theorem dX6_worth_25 : decode cX6_worth 25 = .ok (.aload_n 0, 1) := by decide +kernel
theorem dX6_worth_26 : decode cX6_worth 26 = .ok (.getfield 10, 3) := by decide +kernel
theorem dX6_worth_29 : decode cX6_worth 29 = .ok (.getfield 35, 3) := by decide +kernel
theorem dX6_worth_32 : decode cX6_worth 32 = .ok (.iload_n 3, 1) := by decide +kernel
theorem dX6_worth_33 : decode cX6_worth 33 = .ok (.aload_n 0, 1) := by decide +kernel
theorem dX6_worth_34 : decode cX6_worth 34 = .ok (.getfield 10, 3) := by decide +kernel
theorem dX6_worth_37 : decode cX6_worth 37 = .ok (.getfield 119, 3) := by decide +kernel
theorem dX6_worth_40 : decode cX6_worth 40 = .ok (.iload_n 1, 1) := by decide +kernel
theorem dX6_worth_41 : decode cX6_worth 41 = .ok (.aaload, 1) := by decide +kernel
theorem dX6_worth_42 : decode cX6_worth 42 = .ok (.invokevirtual 230, 3) := by decide +kernel
theorem dX6_worth_45 : decode cX6_worth 45 = .ok (.iadd, 1) := by decide +kernel
theorem dX6_worth_46 : decode cX6_worth 46 = .ok (.istore_n 2, 1) := by decide +kernel
theorem dX6_worth_47 : decode cX6_worth 47 = .ok (.iinc 3 1, 3) := by decide +kernel
theorem dX6_worth_50 : decode cX6_worth 50 = .ok (.goto (-32), 3) := by decide +kernel
theorem dX6_worth_53 : decode cX6_worth 53 = .ok (.iload_n 2, 1) := by decide +kernel
theorem dX6_worth_54 : decode cX6_worth 54 = .ok (.ireturn, 1) := by decide +kernel
theorem dX6_exchange_0 : decode cX6_exchange 0 = .ok (.aload_n 0, 1) := by decide +kernel
theorem dX6_exchange_1 : decode cX6_exchange 1 = .ok (.iload_n 1, 1) := by decide +kernel
theorem dX6_exchange_2 : decode cX6_exchange 2 = .ok (.invokevirtual 116, 3) := by decide +kernel
theorem dX6_exchange_5 : decode cX6_exchange 5 = .ok (.ifCond .ne 9, 3) := by decide +kernel
theorem dX6_exchange_8 : decode cX6_exchange 8 = .ok (.aload_n 0, 1) := by decide +kernel
theorem dX6_exchange_9 : decode cX6_exchange 9 = .ok (.iconst 0, 1) := by decide +kernel
theorem dX6_exchange_10 : decode cX6_exchange 10 = .ok (.invokevirtual 77, 3) := by decide +kernel
theorem dX6_exchange_13 : decode cX6_exchange 13 = .ok (.ireturn, 1) := by decide +kernel
theorem dX6_exchange_14 : decode cX6_exchange 14 = .ok (.iconst 0, 1) := by decide +kernel
theorem dX6_exchange_15 : decode cX6_exchange 15 = .ok (.istore_n 2, 1) := by decide +kernel
theorem dX6_exchange_16 : decode cX6_exchange 16 = .ok (.iload_n 2, 1) := by decide +kernel
theorem dX6_exchange_17 : decode cX6_exchange 17 = .ok (.bipush 8, 2) := by decide +kernel
theorem dX6_exchange_19 : decode cX6_exchange 19 = .ok (.if_icmp .ge 66, 3) := by decide +kernel
theorem dX6_exchange_22 : decode cX6_exchange 22 = .ok (.iload_n 2, 1) := by decide +kernel
theorem dX6_exchange_23 : decode cX6_exchange 23 = .ok (.iconst 1, 1) := by decide +kernel
theorem dX6_exchange_24 : decode cX6_exchange 24 = .ok (.iadd, 1) := by decide +kernel
theorem dX6_exchange_25 : decode cX6_exchange 25 = .ok (.istore_n 3, 1) := by decide +kernel
theorem dX6_exchange_26 : decode cX6_exchange 26 = .ok (.iload_n 3, 1) := by decide +kernel
theorem dX6_exchange_27 : decode cX6_exchange 27 = .ok (.bipush 8, 2) := by decide +kernel
theorem dX6_exchange_29 : decode cX6_exchange 29 = .ok (.if_icmp .ge 50, 3) := by decide +kernel
theorem dX6_exchange_32 : decode cX6_exchange 32 = .ok (.aload_n 0, 1) := by decide +kernel
theorem dX6_exchange_33 : decode cX6_exchange 33 = .ok (.aload_n 0, 1) := by decide +kernel
theorem dX6_exchange_34 : decode cX6_exchange 34 = .ok (.getfield 10, 3) := by decide +kernel
theorem dX6_exchange_37 : decode cX6_exchange 37 = .ok (.getfield 119, 3) := by decide +kernel
theorem dX6_exchange_40 : decode cX6_exchange 40 = .ok (.iload_n 1, 1) := by decide +kernel
theorem dX6_exchange_41 : decode cX6_exchange 41 = .ok (.aaload, 1) := by decide +kernel
theorem dX6_exchange_42 : decode cX6_exchange 42 = .ok (.iload_n 2, 1) := by decide +kernel
theorem dX6_exchange_43 : decode cX6_exchange 43 = .ok (.iload_n 3, 1) := by decide +kernel
theorem dX6_exchange_44 : decode cX6_exchange 44 = .ok (.invokevirtual 234, 3) := by decide +kernel
theorem dX6_exchange_47 : decode cX6_exchange 47 = .ok (.ifCond .eq 26, 3) := by decide +kernel
theorem dX6_exchange_50 : decode cX6_exchange 50 = .ok (.aload_n 0, 1) := by decide +kernel
theorem dX6_exchange_51 : decode cX6_exchange 51 = .ok (.getfield 10, 3) := by decide +kernel
theorem dX6_exchange_54 : decode cX6_exchange 54 = .ok (.getfield 119, 3) := by decide +kernel
theorem dX6_exchange_57 : decode cX6_exchange 57 = .ok (.iload_n 1, 1) := by decide +kernel
theorem dX6_exchange_58 : decode cX6_exchange 58 = .ok (.aaload, 1) := by decide +kernel
theorem dX6_exchange_59 : decode cX6_exchange 59 = .ok (.aload_n 0, 1) := by decide +kernel
theorem dX6_exchange_60 : decode cX6_exchange 60 = .ok (.getfield 29, 3) := by decide +kernel
theorem dX6_exchange_63 : decode cX6_exchange 63 = .ok (.invokevirtual 238, 3) := by decide +kernel
theorem dX6_exchange_66 : decode cX6_exchange 66 = .ok (.bipush 10, 2) := by decide +kernel
theorem dX6_exchange_68 : decode cX6_exchange 68 = .ok (.iload_n 2, 1) := by decide +kernel
theorem dX6_exchange_69 : decode cX6_exchange 69 = .ok (.imul, 1) := by decide +kernel
theorem dX6_exchange_70 : decode cX6_exchange 70 = .ok (.iload_n 3, 1) := by decide +kernel
theorem dX6_exchange_71 : decode cX6_exchange 71 = .ok (.iadd, 1) := by decide +kernel
theorem dX6_exchange_72 : decode cX6_exchange 72 = .ok (.ireturn, 1) := by decide +kernel
theorem dX6_exchange_73 : decode cX6_exchange 73 = .ok (.iinc 3 1, 3) := by decide +kernel
theorem dX6_exchange_76 : decode cX6_exchange 76 = .ok (.goto (-50), 3) := by decide +kernel
theorem dX6_exchange_79 : decode cX6_exchange 79 = .ok (.iinc 2 1, 3) := by decide +kernel
theorem dX6_exchange_82 : decode cX6_exchange 82 = .ok (.goto (-66), 3) := by decide +kernel
theorem dX6_exchange_85 : decode cX6_exchange 85 = .ok (.aload_n 0, 1) := by decide +kernel
theorem dX6_exchange_86 : decode cX6_exchange 86 = .ok (.iconst 3, 1) := by decide +kernel
theorem dX6_exchange_87 : decode cX6_exchange 87 = .ok (.invokevirtual 77, 3) := by decide +kernel
theorem dX6_exchange_90 : decode cX6_exchange 90 = .ok (.ireturn, 1) := by decide +kernel
theorem dX6_shows_0 : decode cX6_shows 0 = .ok (.aload_n 0, 1) := by decide +kernel
theorem dX6_shows_1 : decode cX6_shows 1 = .ok (.iload_n 1, 1) := by decide +kernel
theorem dX6_shows_2 : decode cX6_shows 2 = .ok (.invokevirtual 116, 3) := by decide +kernel
theorem dX6_shows_5 : decode cX6_shows 5 = .ok (.ifCond .ne 9, 3) := by decide +kernel
theorem dX6_shows_8 : decode cX6_shows 8 = .ok (.aload_n 0, 1) := by decide +kernel
theorem dX6_shows_9 : decode cX6_shows 9 = .ok (.iconst 0, 1) := by decide +kernel
theorem dX6_shows_10 : decode cX6_shows 10 = .ok (.invokevirtual 77, 3) := by decide +kernel
theorem dX6_shows_13 : decode cX6_shows 13 = .ok (.ireturn, 1) := by decide +kernel
theorem dX6_shows_14 : decode cX6_shows 14 = .ok (.aload_n 0, 1) := by decide +kernel
theorem dX6_shows_15 : decode cX6_shows 15 = .ok (.getfield 10, 3) := by decide +kernel
theorem dX6_shows_18 : decode cX6_shows 18 = .ok (.getfield 119, 3) := by decide +kernel
theorem dX6_shows_21 : decode cX6_shows 21 = .ok (.iload_n 1, 1) := by decide +kernel
theorem dX6_shows_22 : decode cX6_shows 22 = .ok (.aaload, 1) := by decide +kernel
theorem dX6_shows_23 : decode cX6_shows 23 = .ok (.astore_n 2, 1) := by decide +kernel
theorem dX6_shows_24 : decode cX6_shows 24 = .ok (.aload_n 0, 1) := by decide +kernel
theorem dX6_shows_25 : decode cX6_shows 25 = .ok (.getfield 10, 3) := by decide +kernel
theorem dX6_shows_28 : decode cX6_shows 28 = .ok (.getfield 35, 3) := by decide +kernel
theorem dX6_shows_31 : decode cX6_shows 31 = .ok (.aload_n 2, 1) := by decide +kernel
theorem dX6_shows_32 : decode cX6_shows 32 = .ok (.invokevirtual 137, 3) := by decide +kernel
theorem dX6_shows_35 : decode cX6_shows 35 = .ok (.ifCond .ne 9, 3) := by decide +kernel
theorem dX6_shows_38 : decode cX6_shows 38 = .ok (.aload_n 0, 1) := by decide +kernel
theorem dX6_shows_39 : decode cX6_shows 39 = .ok (.iconst 4, 1) := by decide +kernel
theorem dX6_shows_40 : decode cX6_shows 40 = .ok (.invokevirtual 77, 3) := by decide +kernel
theorem dX6_shows_43 : decode cX6_shows 43 = .ok (.ireturn, 1) := by decide +kernel
theorem dX6_shows_44 : decode cX6_shows 44 = .ok (.iconst 0, 1) := by decide +kernel
theorem dX6_shows_45 : decode cX6_shows 45 = .ok (.istore_n 3, 1) := by decide +kernel
theorem dX6_shows_46 : decode cX6_shows 46 = .ok (.iconst 0, 1) := by decide +kernel
theorem dX6_shows_47 : decode cX6_shows 47 = .ok (.istore 4, 2) := by decide +kernel
theorem dX6_shows_49 : decode cX6_shows 49 = .ok (.iload 4, 2) := by decide +kernel
theorem dX6_shows_51 : decode cX6_shows 51 = .ok (.bipush 8, 2) := by decide +kernel
theorem dX6_shows_53 : decode cX6_shows 53 = .ok (.if_icmp .ge 42, 3) := by decide +kernel
theorem dX6_shows_56 : decode cX6_shows 56 = .ok (.iload 4, 2) := by decide +kernel
theorem dX6_shows_58 : decode cX6_shows 58 = .ok (.iconst 1, 1) := by decide +kernel
theorem dX6_shows_59 : decode cX6_shows 59 = .ok (.iadd, 1) := by decide +kernel
theorem dX6_shows_60 : decode cX6_shows 60 = .ok (.istore 5, 2) := by decide +kernel
theorem dX6_shows_62 : decode cX6_shows 62 = .ok (.iload 5, 2) := by decide +kernel
theorem dX6_shows_64 : decode cX6_shows 64 = .ok (.bipush 8, 2) := by decide +kernel
theorem dX6_shows_66 : decode cX6_shows 66 = .ok (.if_icmp .ge 23, 3) := by decide +kernel
theorem dX6_shows_69 : decode cX6_shows 69 = .ok (.aload_n 2, 1) := by decide +kernel
theorem dX6_shows_70 : decode cX6_shows 70 = .ok (.iload 4, 2) := by decide +kernel
theorem dX6_shows_72 : decode cX6_shows 72 = .ok (.iload 5, 2) := by decide +kernel
theorem dX6_shows_74 : decode cX6_shows 74 = .ok (.invokevirtual 242, 3) := by decide +kernel
theorem dX6_shows_77 : decode cX6_shows 77 = .ok (.ifCond .eq 6, 3) := by decide +kernel
theorem dX6_shows_80 : decode cX6_shows 80 = .ok (.iinc 3 1, 3) := by decide +kernel
theorem dX6_shows_83 : decode cX6_shows 83 = .ok (.iinc 5 1, 3) := by decide +kernel
theorem dX6_shows_86 : decode cX6_shows 86 = .ok (.goto (-24), 3) := by decide +kernel
theorem dX6_shows_89 : decode cX6_shows 89 = .ok (.iinc 4 1, 3) := by decide +kernel
theorem dX6_shows_92 : decode cX6_shows 92 = .ok (.goto (-43), 3) := by decide +kernel
theorem dX6_shows_95 : decode cX6_shows 95 = .ok (.iload_n 3, 1) := by decide +kernel
theorem dX6_shows_96 : decode cX6_shows 96 = .ok (.ireturn, 1) := by decide +kernel
theorem dX6_course_0 : decode cX6_course 0 = .ok (.aload_n 0, 1) := by decide +kernel
theorem dX6_course_1 : decode cX6_course 1 = .ok (.iload_n 1, 1) := by decide +kernel
theorem dX6_course_2 : decode cX6_course 2 = .ok (.invokevirtual 116, 3) := by decide +kernel
theorem dX6_course_5 : decode cX6_course 5 = .ok (.ifCond .eq 14, 3) := by decide +kernel
theorem dX6_course_8 : decode cX6_course 8 = .ok (.iload_n 2, 1) := by decide +kernel
theorem dX6_course_9 : decode cX6_course 9 = .ok (.iconst 1, 1) := by decide +kernel
theorem dX6_course_10 : decode cX6_course 10 = .ok (.if_icmp .lt 9, 3) := by decide +kernel
theorem dX6_course_13 : decode cX6_course 13 = .ok (.iload_n 2, 1) := by decide +kernel
theorem dX6_course_14 : decode cX6_course 14 = .ok (.bipush 7, 2) := by decide +kernel
theorem dX6_course_16 : decode cX6_course 16 = .ok (.if_icmp .le 9, 3) := by decide +kernel
theorem dX6_course_19 : decode cX6_course 19 = .ok (.aload_n 0, 1) := by decide +kernel
theorem dX6_course_20 : decode cX6_course 20 = .ok (.iconst 0, 1) := by decide +kernel
theorem dX6_course_21 : decode cX6_course 21 = .ok (.invokevirtual 77, 3) := by decide +kernel
theorem dX6_course_24 : decode cX6_course 24 = .ok (.ireturn, 1) := by decide +kernel
theorem dX6_course_25 : decode cX6_course 25 = .ok (.aload_n 0, 1) := by decide +kernel
theorem dX6_course_26 : decode cX6_course 26 = .ok (.getfield 29, 3) := by decide +kernel
theorem dX6_course_29 : decode cX6_course 29 = .ok (.aload_n 0, 1) := by decide +kernel
theorem dX6_course_30 : decode cX6_course 30 = .ok (.getfield 10, 3) := by decide +kernel
theorem dX6_course_33 : decode cX6_course 33 = .ok (.getfield 119, 3) := by decide +kernel
theorem dX6_course_36 : decode cX6_course 36 = .ok (.iload_n 1, 1) := by decide +kernel
theorem dX6_course_37 : decode cX6_course 37 = .ok (.aaload, 1) := by decide +kernel
theorem dX6_course_38 : decode cX6_course 38 = .ok (.iload_n 2, 1) := by decide +kernel
theorem dX6_course_39 : decode cX6_course 39 = .ok (.invokevirtual 245, 3) := by decide +kernel
theorem dX6_course_42 : decode cX6_course 42 = .ok (.aload_n 0, 1) := by decide +kernel
theorem dX6_course_43 : decode cX6_course 43 = .ok (.getfield 10, 3) := by decide +kernel
theorem dX6_course_46 : decode cX6_course 46 = .ok (.getfield 119, 3) := by decide +kernel
theorem dX6_course_49 : decode cX6_course 49 = .ok (.iload_n 1, 1) := by decide +kernel
theorem dX6_course_50 : decode cX6_course 50 = .ok (.aaload, 1) := by decide +kernel
theorem dX6_course_51 : decode cX6_course 51 = .ok (.aload_n 0, 1) := by decide +kernel
theorem dX6_course_52 : decode cX6_course 52 = .ok (.getfield 29, 3) := by decide +kernel
theorem dX6_course_55 : decode cX6_course 55 = .ok (.invokevirtual 238, 3) := by decide +kernel
theorem dX6_course_58 : decode cX6_course 58 = .ok (.aload_n 0, 1) := by decide +kernel
theorem dX6_course_59 : decode cX6_course 59 = .ok (.getfield 10, 3) := by decide +kernel
theorem dX6_course_62 : decode cX6_course 62 = .ok (.getfield 35, 3) := by decide +kernel
theorem dX6_course_65 : decode cX6_course 65 = .ok (.aload_n 0, 1) := by decide +kernel
theorem dX6_course_66 : decode cX6_course 66 = .ok (.getfield 29, 3) := by decide +kernel
theorem dX6_course_69 : decode cX6_course 69 = .ok (.invokevirtual 137, 3) := by decide +kernel
theorem dX6_course_72 : decode cX6_course 72 = .ok (.ifCond .eq 7, 3) := by decide +kernel
theorem dX6_course_75 : decode cX6_course 75 = .ok (.iconst 1, 1) := by decide +kernel
theorem dX6_course_76 : decode cX6_course 76 = .ok (.goto 4, 3) := by decide +kernel
theorem dX6_course_79 : decode cX6_course 79 = .ok (.iconst 0, 1) := by decide +kernel
theorem dX6_course_80 : decode cX6_course 80 = .ok (.ireturn, 1) := by decide +kernel
theorem dX6_turns_0 : decode cX6_turns 0 = .ok (.aload_n 0, 1) := by decide +kernel
theorem dX6_turns_1 : decode cX6_turns 1 = .ok (.iload_n 1, 1) := by decide +kernel
theorem dX6_turns_2 : decode cX6_turns 2 = .ok (.invokevirtual 116, 3) := by decide +kernel
theorem dX6_turns_5 : decode cX6_turns 5 = .ok (.ifCond .ne 9, 3) := by decide +kernel
theorem dX6_turns_8 : decode cX6_turns 8 = .ok (.aload_n 0, 1) := by decide +kernel
theorem dX6_turns_9 : decode cX6_turns 9 = .ok (.iconst 0, 1) := by decide +kernel
theorem dX6_turns_10 : decode cX6_turns 10 = .ok (.invokevirtual 77, 3) := by decide +kernel
theorem dX6_turns_13 : decode cX6_turns 13 = .ok (.ireturn, 1) := by decide +kernel
theorem dX6_turns_14 : decode cX6_turns 14 = .ok (.aload_n 0, 1) := by decide +kernel
theorem dX6_turns_15 : decode cX6_turns 15 = .ok (.getfield 10, 3) := by decide +kernel
theorem dX6_turns_18 : decode cX6_turns 18 = .ok (.getfield 119, 3) := by decide +kernel
theorem dX6_turns_21 : decode cX6_turns 21 = .ok (.iload_n 1, 1) := by decide +kernel
theorem dX6_turns_22 : decode cX6_turns 22 = .ok (.aaload, 1) := by decide +kernel
theorem dX6_turns_23 : decode cX6_turns 23 = .ok (.astore_n 2, 1) := by decide +kernel
theorem dX6_turns_24 : decode cX6_turns 24 = .ok (.iconst 0, 1) := by decide +kernel
theorem dX6_turns_25 : decode cX6_turns 25 = .ok (.istore_n 3, 1) := by decide +kernel
theorem dX6_turns_26 : decode cX6_turns 26 = .ok (.iconst 0, 1) := by decide +kernel
theorem dX6_turns_27 : decode cX6_turns 27 = .ok (.istore 4, 2) := by decide +kernel
theorem dX6_turns_29 : decode cX6_turns 29 = .ok (.iload 4, 2) := by decide +kernel
theorem dX6_turns_31 : decode cX6_turns 31 = .ok (.aload_n 2, 1) := by decide +kernel
theorem dX6_turns_32 : decode cX6_turns 32 = .ok (.getfield 126, 3) := by decide +kernel
theorem dX6_turns_35 : decode cX6_turns 35 = .ok (.if_icmp .ge 39, 3) := by decide +kernel
theorem dX6_turns_38 : decode cX6_turns 38 = .ok (.aload_n 0, 1) := by decide +kernel
theorem dX6_turns_39 : decode cX6_turns 39 = .ok (.getfield 29, 3) := by decide +kernel
theorem dX6_turns_42 : decode cX6_turns 42 = .ok (.aload_n 2, 1) := by decide +kernel
theorem dX6_turns_43 : decode cX6_turns 43 = .ok (.iload 4, 2) := by decide +kernel
theorem dX6_turns_45 : decode cX6_turns 45 = .ok (.invokevirtual 245, 3) := by decide +kernel
theorem dX6_turns_48 : decode cX6_turns 48 = .ok (.aload_n 0, 1) := by decide +kernel
theorem dX6_turns_49 : decode cX6_turns 49 = .ok (.getfield 10, 3) := by decide +kernel
theorem dX6_turns_52 : decode cX6_turns 52 = .ok (.getfield 35, 3) := by decide +kernel
theorem dX6_turns_55 : decode cX6_turns 55 = .ok (.aload_n 0, 1) := by decide +kernel
theorem dX6_turns_56 : decode cX6_turns 56 = .ok (.getfield 29, 3) := by decide +kernel
theorem dX6_turns_59 : decode cX6_turns 59 = .ok (.invokevirtual 137, 3) := by decide +kernel
theorem dX6_turns_62 : decode cX6_turns 62 = .ok (.ifCond .eq 6, 3) := by decide +kernel
theorem dX6_turns_65 : decode cX6_turns 65 = .ok (.iinc 3 1, 3) := by decide +kernel
theorem dX6_turns_68 : decode cX6_turns 68 = .ok (.iinc 4 1, 3) := by decide +kernel
theorem dX6_turns_71 : decode cX6_turns 71 = .ok (.goto (-42), 3) := by decide +kernel
theorem dX6_turns_74 : decode cX6_turns 74 = .ok (.iload_n 3, 1) := by decide +kernel
theorem dX6_turns_75 : decode cX6_turns 75 = .ok (.ireturn, 1) := by decide +kernel
theorem dX6_seed_0 : decode cX6_seed 0 = .ok (.aload_n 0, 1) := by decide +kernel
theorem dX6_seed_1 : decode cX6_seed 1 = .ok (.getfield 10, 3) := by decide +kernel
theorem dX6_seed_4 : decode cX6_seed 4 = .ok (.getfield 249, 3) := by decide +kernel
theorem dX6_seed_7 : decode cX6_seed 7 = .ok (.istore_n 2, 1) := by decide +kernel
theorem dX6_seed_8 : decode cX6_seed 8 = .ok (.aload_n 0, 1) := by decide +kernel
theorem dX6_seed_9 : decode cX6_seed 9 = .ok (.getfield 10, 3) := by decide +kernel
theorem dX6_seed_12 : decode cX6_seed 12 = .ok (.iload_n 1, 1) := by decide +kernel
theorem dX6_seed_13 : decode cX6_seed 13 = .ok (.putfield 249, 3) := by decide +kernel
theorem dX6_seed_16 : decode cX6_seed 16 = .ok (.iload_n 2, 1) := by decide +kernel
theorem dX6_seed_17 : decode cX6_seed 17 = .ok (.ireturn, 1) := by decide +kernel
theorem dX6_feed_0 : decode cX6_feed 0 = .ok (.iload_n 2, 1) := by decide +kernel
theorem dX6_feed_1 : decode cX6_feed 1 = .ok (.iconst 1, 1) := by decide +kernel
theorem dX6_feed_2 : decode cX6_feed 2 = .ok (.if_icmp .lt 8, 3) := by decide +kernel
theorem dX6_feed_5 : decode cX6_feed 5 = .ok (.iload_n 2, 1) := by decide +kernel
theorem dX6_feed_6 : decode cX6_feed 6 = .ok (.iconst 4, 1) := by decide +kernel
theorem dX6_feed_7 : decode cX6_feed 7 = .ok (.if_icmp .le 9, 3) := by decide +kernel
theorem dX6_feed_10 : decode cX6_feed 10 = .ok (.aload_n 0, 1) := by decide +kernel
theorem dX6_feed_11 : decode cX6_feed 11 = .ok (.iconst 0, 1) := by decide +kernel
theorem dX6_feed_12 : decode cX6_feed 12 = .ok (.invokevirtual 77, 3) := by decide +kernel
theorem dX6_feed_15 : decode cX6_feed 15 = .ok (.ireturn, 1) := by decide +kernel
theorem dX6_feed_16 : decode cX6_feed 16 = .ok (.aload_n 0, 1) := by decide +kernel
theorem dX6_feed_17 : decode cX6_feed 17 = .ok (.getfield 50, 3) := by decide +kernel
theorem dX6_feed_20 : decode cX6_feed 20 = .ok (.bipush 120, 2) := by decide +kernel
theorem dX6_feed_22 : decode cX6_feed 22 = .ok (.iload_n 2, 1) := by decide +kernel
theorem dX6_feed_23 : decode cX6_feed 23 = .ok (.isub, 1) := by decide +kernel
theorem dX6_feed_24 : decode cX6_feed 24 = .ok (.if_icmp .le 9, 3) := by decide +kernel
theorem dX6_feed_27 : decode cX6_feed 27 = .ok (.aload_n 0, 1) := by decide +kernel
theorem dX6_feed_28 : decode cX6_feed 28 = .ok (.iconst 1, 1) := by decide +kernel
theorem dX6_feed_29 : decode cX6_feed 29 = .ok (.invokevirtual 77, 3) := by decide +kernel
theorem dX6_feed_32 : decode cX6_feed 32 = .ok (.ireturn, 1) := by decide +kernel
theorem dX6_feed_33 : decode cX6_feed 33 = .ok (.iload_n 2, 1) := by decide +kernel
theorem dX6_feed_34 : decode cX6_feed 34 = .ok (.iconst 1, 1) := by decide +kernel
theorem dX6_feed_35 : decode cX6_feed 35 = .ok (.isub, 1) := by decide +kernel
theorem dX6_feed_36 : decode cX6_feed 36 = .ok (.istore_n 3, 1) := by decide +kernel
theorem dX6_feed_37 : decode cX6_feed 37 = .ok (.iload_n 3, 1) := by decide +kernel
theorem dX6_feed_38 : decode cX6_feed 38 = .ok (.ifCond .lt 38, 3) := by decide +kernel
theorem dX6_feed_41 : decode cX6_feed 41 = .ok (.aload_n 0, 1) := by decide +kernel
theorem dX6_feed_42 : decode cX6_feed 42 = .ok (.getfield 46, 3) := by decide +kernel
theorem dX6_feed_45 : decode cX6_feed 45 = .ok (.aload_n 0, 1) := by decide +kernel
theorem dX6_feed_46 : decode cX6_feed 46 = .ok (.getfield 50, 3) := by decide +kernel
theorem dX6_feed_49 : decode cX6_feed 49 = .ok (.iload_n 1, 1) := by decide +kernel
theorem dX6_feed_50 : decode cX6_feed 50 = .ok (.bipush 8, 2) := by decide +kernel
theorem dX6_feed_52 : decode cX6_feed 52 = .ok (.iload_n 3, 1) := by decide +kernel
theorem dX6_feed_53 : decode cX6_feed 53 = .ok (.imul, 1) := by decide +kernel
theorem dX6_feed_54 : decode cX6_feed 54 = .ok (.iushr, 1) := by decide +kernel
theorem dX6_feed_55 : decode cX6_feed 55 = .ok (.sipush 255, 3) := by decide +kernel
theorem dX6_feed_58 : decode cX6_feed 58 = .ok (.iand, 1) := by decide +kernel
theorem dX6_feed_59 : decode cX6_feed 59 = .ok (.iastore, 1) := by decide +kernel
theorem dX6_feed_60 : decode cX6_feed 60 = .ok (.aload_n 0, 1) := by decide +kernel
theorem dX6_feed_61 : decode cX6_feed 61 = .ok (.dup, 1) := by decide +kernel
theorem dX6_feed_62 : decode cX6_feed 62 = .ok (.getfield 50, 3) := by decide +kernel
theorem dX6_feed_65 : decode cX6_feed 65 = .ok (.iconst 1, 1) := by decide +kernel
theorem dX6_feed_66 : decode cX6_feed 66 = .ok (.iadd, 1) := by decide +kernel
theorem dX6_feed_67 : decode cX6_feed 67 = .ok (.putfield 50, 3) := by decide +kernel
theorem dX6_feed_70 : decode cX6_feed 70 = .ok (.iinc 3 (-1), 3) := by decide +kernel
theorem dX6_feed_73 : decode cX6_feed 73 = .ok (.goto (-36), 3) := by decide +kernel
theorem dX6_feed_76 : decode cX6_feed 76 = .ok (.aload_n 0, 1) := by decide +kernel
theorem dX6_feed_77 : decode cX6_feed 77 = .ok (.getfield 50, 3) := by decide +kernel
theorem dX6_feed_80 : decode cX6_feed 80 = .ok (.ireturn, 1) := by decide +kernel
theorem dX6_wipe_0 : decode cX6_wipe 0 = .ok (.aload_n 0, 1) := by decide +kernel
theorem dX6_wipe_1 : decode cX6_wipe 1 = .ok (.getfield 50, 3) := by decide +kernel
theorem dX6_wipe_4 : decode cX6_wipe 4 = .ok (.istore_n 1, 1) := by decide +kernel
theorem dX6_wipe_5 : decode cX6_wipe 5 = .ok (.aload_n 0, 1) := by decide +kernel
theorem dX6_wipe_6 : decode cX6_wipe 6 = .ok (.iconst 0, 1) := by decide +kernel
theorem dX6_wipe_7 : decode cX6_wipe 7 = .ok (.putfield 50, 3) := by decide +kernel
theorem dX6_wipe_10 : decode cX6_wipe 10 = .ok (.iload_n 1, 1) := by decide +kernel
theorem dX6_wipe_11 : decode cX6_wipe 11 = .ok (.ireturn, 1) := by decide +kernel
theorem dX6_text_0 : decode cX6_text 0 = .ok (.aload_n 0, 1) := by decide +kernel
theorem dX6_text_1 : decode cX6_text 1 = .ok (.getfield 23, 3) := by decide +kernel
theorem dX6_text_4 : decode cX6_text 4 = .ok (.aload_n 0, 1) := by decide +kernel
theorem dX6_text_5 : decode cX6_text 5 = .ok (.getfield 10, 3) := by decide +kernel
theorem dX6_text_8 : decode cX6_text 8 = .ok (.invokevirtual 252, 3) := by decide +kernel
theorem dX6_text_11 : decode cX6_text 11 = .ok (.aload_n 0, 1) := by decide +kernel
theorem dX6_text_12 : decode cX6_text 12 = .ok (.getfield 59, 3) := by decide +kernel
theorem dX6_text_15 : decode cX6_text 15 = .ok (.aload_n 0, 1) := by decide +kernel
theorem dX6_text_16 : decode cX6_text 16 = .ok (.getfield 50, 3) := by decide +kernel
theorem dX6_text_19 : decode cX6_text 19 = .ok (.invokevirtual 255, 3) := by decide +kernel
theorem dX6_text_22 : decode cX6_text 22 = .ok (.istore_n 1, 1) := by decide +kernel
theorem dX6_text_23 : decode cX6_text 23 = .ok (.aload_n 0, 1) := by decide +kernel
theorem dX6_text_24 : decode cX6_text 24 = .ok (.iconst 0, 1) := by decide +kernel
theorem dX6_text_25 : decode cX6_text 25 = .ok (.putfield 50, 3) := by decide +kernel
theorem dX6_text_28 : decode cX6_text 28 = .ok (.iload_n 1, 1) := by decide +kernel
theorem dX6_text_29 : decode cX6_text 29 = .ok (.ifCond .lt 14, 3) := by decide +kernel
theorem dX6_text_32 : decode cX6_text 32 = .ok (.aload_n 0, 1) := by decide +kernel
theorem dX6_text_33 : decode cX6_text 33 = .ok (.getfield 10, 3) := by decide +kernel
theorem dX6_text_36 : decode cX6_text 36 = .ok (.aload_n 0, 1) := by decide +kernel
theorem dX6_text_37 : decode cX6_text 37 = .ok (.getfield 23, 3) := by decide +kernel
theorem dX6_text_40 : decode cX6_text 40 = .ok (.invokevirtual 252, 3) := by decide +kernel
theorem dX6_text_43 : decode cX6_text 43 = .ok (.iload_n 1, 1) := by decide +kernel
theorem dX6_text_44 : decode cX6_text 44 = .ok (.ireturn, 1) := by decide +kernel
theorem dX6_hold_0 : decode cX6_hold 0 = .ok (.iload_n 1, 1) := by decide +kernel
theorem dX6_hold_1 : decode cX6_hold 1 = .ok (.invokestatic 258, 3) := by decide +kernel
theorem dX6_hold_4 : decode cX6_hold 4 = .ok (.ifCond .eq 16, 3) := by decide +kernel
theorem dX6_hold_7 : decode cX6_hold 7 = .ok (.iload_n 2, 1) := by decide +kernel
theorem dX6_hold_8 : decode cX6_hold 8 = .ok (.iconst (-1), 1) := by decide +kernel
theorem dX6_hold_9 : decode cX6_hold 9 = .ok (.if_icmp .eq 17, 3) := by decide +kernel
theorem dX6_hold_12 : decode cX6_hold 12 = .ok (.aload_n 0, 1) := by decide +kernel
theorem dX6_hold_13 : decode cX6_hold 13 = .ok (.iload_n 2, 1) := by decide +kernel
theorem dX6_hold_14 : decode cX6_hold 14 = .ok (.invokevirtual 116, 3) := by decide +kernel
theorem dX6_hold_17 : decode cX6_hold 17 = .ok (.ifCond .ne 9, 3) := by decide +kernel
theorem dX6_hold_20 : decode cX6_hold 20 = .ok (.aload_n 0, 1) := by decide +kernel
theorem dX6_hold_21 : decode cX6_hold 21 = .ok (.iconst 0, 1) := by decide +kernel
theorem dX6_hold_22 : decode cX6_hold 22 = .ok (.invokevirtual 77, 3) := by decide +kernel
theorem dX6_hold_25 : decode cX6_hold 25 = .ok (.ireturn, 1) := by decide +kernel
theorem dX6_hold_26 : decode cX6_hold 26 = .ok (.aload_n 0, 1) := by decide +kernel
theorem dX6_hold_27 : decode cX6_hold 27 = .ok (.getfield 10, 3) := by decide +kernel
theorem dX6_hold_30 : decode cX6_hold 30 = .ok (.getfield 261, 3) := by decide +kernel
theorem dX6_hold_33 : decode cX6_hold 33 = .ok (.iload_n 1, 1) := by decide +kernel
theorem dX6_hold_34 : decode cX6_hold 34 = .ok (.iload_n 2, 1) := by decide +kernel
theorem dX6_hold_35 : decode cX6_hold 35 = .ok (.iastore, 1) := by decide +kernel
theorem dX6_hold_36 : decode cX6_hold 36 = .ok (.iconst 1, 1) := by decide +kernel
theorem dX6_hold_37 : decode cX6_hold 37 = .ok (.ireturn, 1) := by decide +kernel
theorem dX6_as_0 : decode cX6_as 0 = .ok (.iload_n 1, 1) := by decide +kernel
theorem dX6_as_1 : decode cX6_as 1 = .ok (.invokestatic 258, 3) := by decide +kernel
theorem dX6_as_4 : decode cX6_as 4 = .ok (.ifCond .eq 10, 3) := by decide +kernel
theorem dX6_as_7 : decode cX6_as 7 = .ok (.iload_n 2, 1) := by decide +kernel
theorem dX6_as_8 : decode cX6_as 8 = .ok (.invokestatic 107, 3) := by decide +kernel
theorem dX6_as_11 : decode cX6_as 11 = .ok (.ifCond .ne 9, 3) := by decide +kernel
theorem dX6_as_14 : decode cX6_as 14 = .ok (.aload_n 0, 1) := by decide +kernel
theorem dX6_as_15 : decode cX6_as 15 = .ok (.iconst 0, 1) := by decide +kernel
theorem dX6_as_16 : decode cX6_as 16 = .ok (.invokevirtual 77, 3) := by decide +kernel
theorem dX6_as_19 : decode cX6_as 19 = .ok (.ireturn, 1) := by decide +kernel
theorem dX6_as_20 : decode cX6_as 20 = .ok (.aload_n 0, 1) := by decide +kernel
theorem dX6_as_21 : decode cX6_as 21 = .ok (.getfield 10, 3) := by decide +kernel
theorem dX6_as_24 : decode cX6_as 24 = .ok (.getfield 261, 3) := by decide +kernel
theorem dX6_as_27 : decode cX6_as 27 = .ok (.iload_n 1, 1) := by decide +kernel
theorem dX6_as_28 : decode cX6_as 28 = .ok (.iaload, 1) := by decide +kernel
theorem dX6_as_29 : decode cX6_as 29 = .ok (.istore_n 3, 1) := by decide +kernel
theorem dX6_as_30 : decode cX6_as 30 = .ok (.aload_n 0, 1) := by decide +kernel
theorem dX6_as_31 : decode cX6_as 31 = .ok (.iload_n 3, 1) := by decide +kernel
theorem dX6_as_32 : decode cX6_as 32 = .ok (.invokevirtual 116, 3) := by decide +kernel
theorem dX6_as_35 : decode cX6_as 35 = .ok (.ifCond .ne 9, 3) := by decide +kernel
theorem dX6_as_38 : decode cX6_as 38 = .ok (.aload_n 0, 1) := by decide +kernel
theorem dX6_as_39 : decode cX6_as 39 = .ok (.iconst 5, 1) := by decide +kernel
theorem dX6_as_40 : decode cX6_as 40 = .ok (.invokevirtual 77, 3) := by decide +kernel
theorem dX6_as_43 : decode cX6_as 43 = .ok (.ireturn, 1) := by decide +kernel
theorem dX6_as_44 : decode cX6_as 44 = .ok (.aload_n 0, 1) := by decide +kernel
theorem dX6_as_45 : decode cX6_as 45 = .ok (.getfield 10, 3) := by decide +kernel
theorem dX6_as_48 : decode cX6_as 48 = .ok (.getfield 119, 3) := by decide +kernel
theorem dX6_as_51 : decode cX6_as 51 = .ok (.iload_n 3, 1) := by decide +kernel
theorem dX6_as_52 : decode cX6_as 52 = .ok (.aaload, 1) := by decide +kernel
theorem dX6_as_53 : decode cX6_as 53 = .ok (.getfield 123, 3) := by decide +kernel
theorem dX6_as_56 : decode cX6_as 56 = .ok (.iload_n 2, 1) := by decide +kernel
theorem dX6_as_57 : decode cX6_as 57 = .ok (.invokestatic 264, 3) := by decide +kernel
theorem dX6_as_60 : decode cX6_as 60 = .ok (.ifCond .eq 7, 3) := by decide +kernel
theorem dX6_as_63 : decode cX6_as 63 = .ok (.iload_n 3, 1) := by decide +kernel
theorem dX6_as_64 : decode cX6_as 64 = .ok (.goto 8, 3) := by decide +kernel
theorem dX6_as_67 : decode cX6_as 67 = .ok (.aload_n 0, 1) := by decide +kernel
theorem dX6_as_68 : decode cX6_as 68 = .ok (.iconst 2, 1) := by decide +kernel
theorem dX6_as_69 : decode cX6_as 69 = .ok (.invokevirtual 77, 3) := by decide +kernel
theorem dX6_as_72 : decode cX6_as 72 = .ok (.ireturn, 1) := by decide +kernel
theorem dX6_sheet_0 : decode cX6_sheet 0 = .ok (.iload_n 1, 1) := by decide +kernel
theorem dX6_sheet_1 : decode cX6_sheet 1 = .ok (.invokestatic 267, 3) := by decide +kernel
theorem dX6_sheet_4 : decode cX6_sheet 4 = .ok (.ifCond .eq 25, 3) := by decide +kernel
theorem dX6_sheet_7 : decode cX6_sheet 7 = .ok (.iload_n 2, 1) := by decide +kernel
theorem dX6_sheet_8 : decode cX6_sheet 8 = .ok (.ifCond .eq 27, 3) := by decide +kernel
theorem dX6_sheet_11 : decode cX6_sheet 11 = .ok (.iload_n 2, 1) := by decide +kernel
theorem dX6_sheet_12 : decode cX6_sheet 12 = .ok (.bipush 8, 2) := by decide +kernel
theorem dX6_sheet_14 : decode cX6_sheet 14 = .ok (.if_icmp .eq 21, 3) := by decide +kernel
theorem dX6_sheet_17 : decode cX6_sheet 17 = .ok (.iload_n 2, 1) := by decide +kernel
theorem dX6_sheet_18 : decode cX6_sheet 18 = .ok (.bipush 16, 2) := by decide +kernel
theorem dX6_sheet_20 : decode cX6_sheet 20 = .ok (.if_icmp .eq 15, 3) := by decide +kernel
theorem dX6_sheet_23 : decode cX6_sheet 23 = .ok (.iload_n 2, 1) := by decide +kernel
theorem dX6_sheet_24 : decode cX6_sheet 24 = .ok (.bipush 32, 2) := by decide +kernel
theorem dX6_sheet_26 : decode cX6_sheet 26 = .ok (.if_icmp .eq 9, 3) := by decide +kernel
theorem dX6_sheet_29 : decode cX6_sheet 29 = .ok (.aload_n 0, 1) := by decide +kernel
theorem dX6_sheet_30 : decode cX6_sheet 30 = .ok (.iconst 0, 1) := by decide +kernel
theorem dX6_sheet_31 : decode cX6_sheet 31 = .ok (.invokevirtual 77, 3) := by decide +kernel
theorem dX6_sheet_34 : decode cX6_sheet 34 = .ok (.ireturn, 1) := by decide +kernel
theorem dX6_sheet_35 : decode cX6_sheet 35 = .ok (.iload_n 3, 1) := by decide +kernel
theorem dX6_sheet_36 : decode cX6_sheet 36 = .ok (.ifCond .ge 10, 3) := by decide +kernel
theorem dX6_sheet_39 : decode cX6_sheet 39 = .ok (.aload_n 0, 1) := by decide +kernel
theorem dX6_sheet_40 : decode cX6_sheet 40 = .ok (.bipush 6, 2) := by decide +kernel
theorem dX6_sheet_42 : decode cX6_sheet 42 = .ok (.invokevirtual 77, 3) := by decide +kernel
theorem dX6_sheet_45 : decode cX6_sheet 45 = .ok (.ireturn, 1) := by decide +kernel
theorem dX6_sheet_46 : decode cX6_sheet 46 = .ok (.iload_n 3, 1) := by decide +kernel
theorem dX6_sheet_47 : decode cX6_sheet 47 = .ok (.bipush 40, 2) := by decide +kernel
theorem dX6_sheet_49 : decode cX6_sheet 49 = .ok (.if_icmp .le 9, 3) := by decide +kernel
theorem dX6_sheet_52 : decode cX6_sheet 52 = .ok (.aload_n 0, 1) := by decide +kernel
theorem dX6_sheet_53 : decode cX6_sheet 53 = .ok (.iconst 0, 1) := by decide +kernel
theorem dX6_sheet_54 : decode cX6_sheet 54 = .ok (.invokevirtual 77, 3) := by decide +kernel
theorem dX6_sheet_57 : decode cX6_sheet 57 = .ok (.ireturn, 1) := by decide +kernel
theorem dX6_sheet_58 : decode cX6_sheet 58 = .ok (.aload_n 0, 1) := by decide +kernel
theorem dX6_sheet_59 : decode cX6_sheet 59 = .ok (.getfield 68, 3) := by decide +kernel
theorem dX6_sheet_62 : decode cX6_sheet 62 = .ok (.iload_n 1, 1) := by decide +kernel
theorem dX6_sheet_63 : decode cX6_sheet 63 = .ok (.aaload, 1) := by decide +kernel
theorem dX6_sheet_64 : decode cX6_sheet 64 = .ok (.iload_n 2, 1) := by decide +kernel
theorem dX6_sheet_65 : decode cX6_sheet 65 = .ok (.iload_n 2, 1) := by decide +kernel
theorem dX6_sheet_66 : decode cX6_sheet 66 = .ok (.ifCond .ne 7, 3) := by decide +kernel
theorem dX6_sheet_69 : decode cX6_sheet 69 = .ok (.iconst 0, 1) := by decide +kernel
theorem dX6_sheet_70 : decode cX6_sheet 70 = .ok (.goto 4, 3) := by decide +kernel
theorem dX6_sheet_73 : decode cX6_sheet 73 = .ok (.iload_n 3, 1) := by decide +kernel
theorem dX6_sheet_74 : decode cX6_sheet 74 = .ok (.invokevirtual 270, 3) := by decide +kernel
theorem dX6_sheet_77 : decode cX6_sheet 77 = .ok (.aload_n 0, 1) := by decide +kernel
theorem dX6_sheet_78 : decode cX6_sheet 78 = .ok (.getfield 68, 3) := by decide +kernel
theorem dX6_sheet_81 : decode cX6_sheet 81 = .ok (.iload_n 1, 1) := by decide +kernel
theorem dX6_sheet_82 : decode cX6_sheet 82 = .ok (.aaload, 1) := by decide +kernel
theorem dX6_sheet_83 : decode cX6_sheet 83 = .ok (.getfield 271, 3) := by decide +kernel
theorem dX6_sheet_86 : decode cX6_sheet 86 = .ok (.ireturn, 1) := by decide +kernel
theorem dX6_write_0 : decode cX6_write 0 = .ok (.iload_n 1, 1) := by decide +kernel
theorem dX6_write_1 : decode cX6_write 1 = .ok (.invokestatic 267, 3) := by decide +kernel
theorem dX6_write_4 : decode cX6_write 4 = .ok (.ifCond .ne 9, 3) := by decide +kernel
theorem dX6_write_7 : decode cX6_write 7 = .ok (.aload_n 0, 1) := by decide +kernel
theorem dX6_write_8 : decode cX6_write 8 = .ok (.iconst 0, 1) := by decide +kernel
theorem dX6_write_9 : decode cX6_write 9 = .ok (.invokevirtual 77, 3) := by decide +kernel
theorem dX6_write_12 : decode cX6_write 12 = .ok (.ireturn, 1) := by decide +kernel
theorem dX6_write_13 : decode cX6_write 13 = .ok (.aload_n 0, 1) := by decide +kernel
theorem dX6_write_14 : decode cX6_write 14 = .ok (.getfield 68, 3) := by decide +kernel
theorem dX6_write_17 : decode cX6_write 17 = .ok (.iload_n 1, 1) := by decide +kernel
theorem dX6_write_18 : decode cX6_write 18 = .ok (.aaload, 1) := by decide +kernel
theorem dX6_write_19 : decode cX6_write 19 = .ok (.invokevirtual 274, 3) := by decide +kernel
theorem dX6_write_22 : decode cX6_write 22 = .ok (.ifCond .eq 9, 3) := by decide +kernel
theorem dX6_write_25 : decode cX6_write 25 = .ok (.aload_n 0, 1) := by decide +kernel
theorem dX6_write_26 : decode cX6_write 26 = .ok (.iconst 5, 1) := by decide +kernel
theorem dX6_write_27 : decode cX6_write 27 = .ok (.invokevirtual 77, 3) := by decide +kernel
theorem dX6_write_30 : decode cX6_write 30 = .ok (.ireturn, 1) := by decide +kernel
theorem dX6_write_31 : decode cX6_write 31 = .ok (.iload_n 2, 1) := by decide +kernel
theorem dX6_write_32 : decode cX6_write 32 = .ok (.ifCond .lt 16, 3) := by decide +kernel
theorem dX6_write_35 : decode cX6_write 35 = .ok (.iload_n 2, 1) := by decide +kernel
theorem dX6_write_36 : decode cX6_write 36 = .ok (.aload_n 0, 1) := by decide +kernel
theorem dX6_write_37 : decode cX6_write 37 = .ok (.getfield 68, 3) := by decide +kernel
theorem dX6_write_40 : decode cX6_write 40 = .ok (.iload_n 1, 1) := by decide +kernel
theorem dX6_write_41 : decode cX6_write 41 = .ok (.aaload, 1) := by decide +kernel
theorem dX6_write_42 : decode cX6_write 42 = .ok (.getfield 271, 3) := by decide +kernel
theorem dX6_write_45 : decode cX6_write 45 = .ok (.if_icmp .lt 9, 3) := by decide +kernel
theorem dX6_write_48 : decode cX6_write 48 = .ok (.aload_n 0, 1) := by decide +kernel
theorem dX6_write_49 : decode cX6_write 49 = .ok (.iconst 0, 1) := by decide +kernel
theorem dX6_write_50 : decode cX6_write 50 = .ok (.invokevirtual 77, 3) := by decide +kernel
theorem dX6_write_53 : decode cX6_write 53 = .ok (.ireturn, 1) := by decide +kernel
theorem dX6_write_54 : decode cX6_write 54 = .ok (.aload_n 0, 1) := by decide +kernel
theorem dX6_write_55 : decode cX6_write 55 = .ok (.getfield 68, 3) := by decide +kernel
theorem dX6_write_58 : decode cX6_write 58 = .ok (.iload_n 1, 1) := by decide +kernel
theorem dX6_write_59 : decode cX6_write 59 = .ok (.aaload, 1) := by decide +kernel
theorem dX6_write_60 : decode cX6_write 60 = .ok (.iload_n 2, 1) := by decide +kernel
theorem dX6_write_61 : decode cX6_write 61 = .ok (.iload_n 3, 1) := by decide +kernel
theorem dX6_write_62 : decode cX6_write 62 = .ok (.invokevirtual 278, 3) := by decide +kernel
theorem dX6_write_65 : decode cX6_write 65 = .ok (.iconst 1, 1) := by decide +kernel
theorem dX6_write_66 : decode cX6_write 66 = .ok (.ireturn, 1) := by decide +kernel
theorem dX6_copy_0 : decode cX6_copy 0 = .ok (.iload_n 1, 1) := by decide +kernel
theorem dX6_copy_1 : decode cX6_copy 1 = .ok (.invokestatic 267, 3) := by decide +kernel
theorem dX6_copy_4 : decode cX6_copy 4 = .ok (.ifCond .eq 10, 3) := by decide +kernel
theorem dX6_copy_7 : decode cX6_copy 7 = .ok (.iload_n 3, 1) := by decide +kernel
theorem dX6_copy_8 : decode cX6_copy 8 = .ok (.invokestatic 267, 3) := by decide +kernel
theorem dX6_copy_11 : decode cX6_copy 11 = .ok (.ifCond .ne 9, 3) := by decide +kernel
theorem dX6_copy_14 : decode cX6_copy 14 = .ok (.aload_n 0, 1) := by decide +kernel
theorem dX6_copy_15 : decode cX6_copy 15 = .ok (.iconst 0, 1) := by decide +kernel
theorem dX6_copy_16 : decode cX6_copy 16 = .ok (.invokevirtual 77, 3) := by decide +kernel
theorem dX6_copy_19 : decode cX6_copy 19 = .ok (.ireturn, 1) := by decide +kernel
theorem dX6_copy_20 : decode cX6_copy 20 = .ok (.aload_n 0, 1) := by decide +kernel
theorem dX6_copy_21 : decode cX6_copy 21 = .ok (.getfield 68, 3) := by decide +kernel
theorem dX6_copy_24 : decode cX6_copy 24 = .ok (.iload_n 1, 1) := by decide +kernel
theorem dX6_copy_25 : decode cX6_copy 25 = .ok (.aaload, 1) := by decide +kernel
theorem dX6_copy_26 : decode cX6_copy 26 = .ok (.astore 6, 2) := by decide +kernel
theorem dX6_copy_28 : decode cX6_copy 28 = .ok (.aload_n 0, 1) := by decide +kernel
theorem dX6_copy_29 : decode cX6_copy 29 = .ok (.getfield 68, 3) := by decide +kernel
theorem dX6_copy_32 : decode cX6_copy 32 = .ok (.iload_n 3, 1) := by decide +kernel
theorem dX6_copy_33 : decode cX6_copy 33 = .ok (.aaload, 1) := by decide +kernel
theorem dX6_copy_34 : decode cX6_copy 34 = .ok (.astore 7, 2) := by decide +kernel
theorem dX6_copy_36 : decode cX6_copy 36 = .ok (.aload 6, 2) := by decide +kernel
theorem dX6_copy_38 : decode cX6_copy 38 = .ok (.invokevirtual 274, 3) := by decide +kernel
theorem dX6_copy_41 : decode cX6_copy 41 = .ok (.ifCond .ne 11, 3) := by decide +kernel
theorem dX6_copy_44 : decode cX6_copy 44 = .ok (.aload 7, 2) := by decide +kernel
theorem dX6_copy_46 : decode cX6_copy 46 = .ok (.invokevirtual 274, 3) := by decide +kernel
theorem dX6_copy_49 : decode cX6_copy 49 = .ok (.ifCond .eq 9, 3) := by decide +kernel
theorem dX6_copy_52 : decode cX6_copy 52 = .ok (.aload_n 0, 1) := by decide +kernel
theorem dX6_copy_53 : decode cX6_copy 53 = .ok (.iconst 5, 1) := by decide +kernel
theorem dX6_copy_54 : decode cX6_copy 54 = .ok (.invokevirtual 77, 3) := by decide +kernel
theorem dX6_copy_57 : decode cX6_copy 57 = .ok (.ireturn, 1) := by decide +kernel
theorem dX6_copy_58 : decode cX6_copy 58 = .ok (.aload 6, 2) := by decide +kernel
theorem dX6_copy_60 : decode cX6_copy 60 = .ok (.getfield 281, 3) := by decide +kernel
theorem dX6_copy_63 : decode cX6_copy 63 = .ok (.aload 7, 2) := by decide +kernel
theorem dX6_copy_65 : decode cX6_copy 65 = .ok (.getfield 281, 3) := by decide +kernel
theorem dX6_copy_68 : decode cX6_copy 68 = .ok (.if_icmp .eq 9, 3) := by decide +kernel
theorem dX6_copy_71 : decode cX6_copy 71 = .ok (.aload_n 0, 1) := by decide +kernel
theorem dX6_copy_72 : decode cX6_copy 72 = .ok (.iconst 2, 1) := by decide +kernel
theorem dX6_copy_73 : decode cX6_copy 73 = .ok (.invokevirtual 77, 3) := by decide +kernel
theorem dX6_copy_76 : decode cX6_copy 76 = .ok (.ireturn, 1) := by decide +kernel
theorem dX6_copy_77 : decode cX6_copy 77 = .ok (.aload 6, 2) := by decide +kernel
theorem dX6_copy_79 : decode cX6_copy 79 = .ok (.iload_n 2, 1) := by decide +kernel
theorem dX6_copy_80 : decode cX6_copy 80 = .ok (.iload 5, 2) := by decide +kernel
theorem dX6_copy_82 : decode cX6_copy 82 = .ok (.invokevirtual 284, 3) := by decide +kernel
theorem dX6_copy_85 : decode cX6_copy 85 = .ok (.ifCond .eq 15, 3) := by decide +kernel
theorem dX6_copy_88 : decode cX6_copy 88 = .ok (.aload 7, 2) := by decide +kernel
theorem dX6_copy_90 : decode cX6_copy 90 = .ok (.iload 4, 2) := by decide +kernel
theorem dX6_copy_92 : decode cX6_copy 92 = .ok (.iload 5, 2) := by decide +kernel
theorem dX6_copy_94 : decode cX6_copy 94 = .ok (.invokevirtual 284, 3) := by decide +kernel
theorem dX6_copy_97 : decode cX6_copy 97 = .ok (.ifCond .ne 9, 3) := by decide +kernel
theorem dX6_copy_100 : decode cX6_copy 100 = .ok (.aload_n 0, 1) := by decide +kernel
theorem dX6_copy_101 : decode cX6_copy 101 = .ok (.iconst 0, 1) := by decide +kernel
theorem dX6_copy_102 : decode cX6_copy 102 = .ok (.invokevirtual 77, 3) := by decide +kernel
theorem dX6_copy_105 : decode cX6_copy 105 = .ok (.ireturn, 1) := by decide +kernel
theorem dX6_copy_106 : decode cX6_copy 106 = .ok (.aload 6, 2) := by decide +kernel
theorem dX6_copy_108 : decode cX6_copy 108 = .ok (.getfield 287, 3) := by decide +kernel
theorem dX6_copy_111 : decode cX6_copy 111 = .ok (.iload_n 2, 1) := by decide +kernel
theorem dX6_copy_112 : decode cX6_copy 112 = .ok (.aload 7, 2) := by decide +kernel
theorem dX6_copy_114 : decode cX6_copy 114 = .ok (.getfield 287, 3) := by decide +kernel
theorem dX6_copy_117 : decode cX6_copy 117 = .ok (.iload 4, 2) := by decide +kernel
theorem dX6_copy_119 : decode cX6_copy 119 = .ok (.iload 5, 2) := by decide +kernel
theorem dX6_copy_121 : decode cX6_copy 121 = .ok (.invokestatic 290, 3) := by decide +kernel
theorem dX6_copy_124 : decode cX6_copy 124 = .ok (.iload 5, 2) := by decide +kernel
theorem dX6_copy_126 : decode cX6_copy 126 = .ok (.ireturn, 1) := by decide +kernel
theorem dX6_load_0 : decode cX6_load 0 = .ok (.iload_n 1, 1) := by decide +kernel
theorem dX6_load_1 : decode cX6_load 1 = .ok (.invokestatic 267, 3) := by decide +kernel
theorem dX6_load_4 : decode cX6_load 4 = .ok (.ifCond .ne 9, 3) := by decide +kernel
theorem dX6_load_7 : decode cX6_load 7 = .ok (.aload_n 0, 1) := by decide +kernel
theorem dX6_load_8 : decode cX6_load 8 = .ok (.iconst 0, 1) := by decide +kernel
theorem dX6_load_9 : decode cX6_load 9 = .ok (.invokevirtual 77, 3) := by decide +kernel
theorem dX6_load_12 : decode cX6_load 12 = .ok (.ireturn, 1) := by decide +kernel
theorem dX6_load_13 : decode cX6_load 13 = .ok (.aload_n 0, 1) := by decide +kernel
theorem dX6_load_14 : decode cX6_load 14 = .ok (.getfield 68, 3) := by decide +kernel
theorem dX6_load_17 : decode cX6_load 17 = .ok (.iload_n 1, 1) := by decide +kernel
theorem dX6_load_18 : decode cX6_load 18 = .ok (.aaload, 1) := by decide +kernel
theorem dX6_load_19 : decode cX6_load 19 = .ok (.invokevirtual 274, 3) := by decide +kernel
theorem dX6_load_22 : decode cX6_load 22 = .ok (.ifCond .eq 9, 3) := by decide +kernel
theorem dX6_load_25 : decode cX6_load 25 = .ok (.aload_n 0, 1) := by decide +kernel
theorem dX6_load_26 : decode cX6_load 26 = .ok (.iconst 5, 1) := by decide +kernel
theorem dX6_load_27 : decode cX6_load 27 = .ok (.invokevirtual 77, 3) := by decide +kernel
theorem dX6_load_30 : decode cX6_load 30 = .ok (.ireturn, 1) := by decide +kernel
theorem dX6_load_31 : decode cX6_load 31 = .ok (.aload_n 0, 1) := by decide +kernel
theorem dX6_load_32 : decode cX6_load 32 = .ok (.iload_n 2, 1) := by decide +kernel
theorem dX6_load_33 : decode cX6_load 33 = .ok (.invokevirtual 116, 3) := by decide +kernel
theorem dX6_load_36 : decode cX6_load 36 = .ok (.ifCond .ne 9, 3) := by decide +kernel
theorem dX6_load_39 : decode cX6_load 39 = .ok (.aload_n 0, 1) := by decide +kernel
theorem dX6_load_40 : decode cX6_load 40 = .ok (.iconst 0, 1) := by decide +kernel
theorem dX6_load_41 : decode cX6_load 41 = .ok (.invokevirtual 77, 3) := by decide +kernel
theorem dX6_load_44 : decode cX6_load 44 = .ok (.ireturn, 1) := by decide +kernel
theorem dX6_load_45 : decode cX6_load 45 = .ok (.aload_n 0, 1) := by decide +kernel
theorem dX6_load_46 : decode cX6_load 46 = .ok (.getfield 68, 3) := by decide +kernel
theorem dX6_load_49 : decode cX6_load 49 = .ok (.iload_n 1, 1) := by decide +kernel
theorem dX6_load_50 : decode cX6_load 50 = .ok (.aaload, 1) := by decide +kernel
theorem dX6_load_51 : decode cX6_load 51 = .ok (.getfield 271, 3) := by decide +kernel
theorem dX6_load_54 : decode cX6_load 54 = .ok (.aload_n 0, 1) := by decide +kernel
theorem dX6_load_55 : decode cX6_load 55 = .ok (.getfield 10, 3) := by decide +kernel
theorem dX6_load_58 : decode cX6_load 58 = .ok (.getfield 119, 3) := by decide +kernel
theorem dX6_load_61 : decode cX6_load 61 = .ok (.iload_n 2, 1) := by decide +kernel
theorem dX6_load_62 : decode cX6_load 62 = .ok (.aaload, 1) := by decide +kernel
theorem dX6_load_63 : decode cX6_load 63 = .ok (.getfield 126, 3) := by decide +kernel
theorem dX6_load_66 : decode cX6_load 66 = .ok (.invokestatic 296, 3) := by decide +kernel
theorem dX6_load_69 : decode cX6_load 69 = .ok (.istore_n 3, 1) := by decide +kernel
theorem dX6_load_70 : decode cX6_load 70 = .ok (.iconst 0, 1) := by decide +kernel
theorem dX6_load_71 : decode cX6_load 71 = .ok (.istore 4, 2) := by decide +kernel
theorem dX6_load_73 : decode cX6_load 73 = .ok (.iload 4, 2) := by decide +kernel
theorem dX6_load_75 : decode cX6_load 75 = .ok (.iload_n 3, 1) := by decide +kernel
theorem dX6_load_76 : decode cX6_load 76 = .ok (.if_icmp .ge 31, 3) := by decide +kernel
theorem dX6_load_79 : decode cX6_load 79 = .ok (.aload_n 0, 1) := by decide +kernel
theorem dX6_load_80 : decode cX6_load 80 = .ok (.iload_n 2, 1) := by decide +kernel
theorem dX6_load_81 : decode cX6_load 81 = .ok (.iload 4, 2) := by decide +kernel
theorem dX6_load_83 : decode cX6_load 83 = .ok (.aload_n 0, 1) := by decide +kernel
theorem dX6_load_84 : decode cX6_load 84 = .ok (.getfield 68, 3) := by decide +kernel
theorem dX6_load_87 : decode cX6_load 87 = .ok (.iload_n 1, 1) := by decide +kernel
theorem dX6_load_88 : decode cX6_load 88 = .ok (.aaload, 1) := by decide +kernel
theorem dX6_load_89 : decode cX6_load 89 = .ok (.getfield 287, 3) := by decide +kernel
theorem dX6_load_92 : decode cX6_load 92 = .ok (.iload 4, 2) := by decide +kernel
theorem dX6_load_94 : decode cX6_load 94 = .ok (.iaload, 1) := by decide +kernel
theorem dX6_load_95 : decode cX6_load 95 = .ok (.invokevirtual 301, 3) := by decide +kernel
theorem dX6_load_98 : decode cX6_load 98 = .ok (.ifCond .eq 9, 3) := by decide +kernel
theorem dX6_load_101 : decode cX6_load 101 = .ok (.iinc 4 1, 3) := by decide +kernel
theorem dX6_load_104 : decode cX6_load 104 = .ok (.goto (-31), 3) := by decide +kernel
theorem dX6_load_107 : decode cX6_load 107 = .ok (.iload 4, 2) := by decide +kernel
theorem dX6_load_109 : decode cX6_load 109 = .ok (.ireturn, 1) := by decide +kernel
theorem dX6_judge_0 : decode cX6_judge 0 = .ok (.iload_n 1, 1) := by decide +kernel
theorem dX6_judge_1 : decode cX6_judge 1 = .ok (.invokestatic 267, 3) := by decide +kernel
theorem dX6_judge_4 : decode cX6_judge 4 = .ok (.ifCond .ne 9, 3) := by decide +kernel
theorem dX6_judge_7 : decode cX6_judge 7 = .ok (.aload_n 0, 1) := by decide +kernel
theorem dX6_judge_8 : decode cX6_judge 8 = .ok (.iconst 0, 1) := by decide +kernel
theorem dX6_judge_9 : decode cX6_judge 9 = .ok (.invokevirtual 77, 3) := by decide +kernel
theorem dX6_judge_12 : decode cX6_judge 12 = .ok (.ireturn, 1) := by decide +kernel
theorem dX6_judge_13 : decode cX6_judge 13 = .ok (.aload_n 0, 1) := by decide +kernel
theorem dX6_judge_14 : decode cX6_judge 14 = .ok (.getfield 68, 3) := by decide +kernel
theorem dX6_judge_17 : decode cX6_judge 17 = .ok (.iload_n 1, 1) := by decide +kernel
theorem dX6_judge_18 : decode cX6_judge 18 = .ok (.aaload, 1) := by decide +kernel
theorem dX6_judge_19 : decode cX6_judge 19 = .ok (.invokevirtual 274, 3) := by decide +kernel
theorem dX6_judge_22 : decode cX6_judge 22 = .ok (.ifCond .eq 9, 3) := by decide +kernel
theorem dX6_judge_25 : decode cX6_judge 25 = .ok (.aload_n 0, 1) := by decide +kernel
theorem dX6_judge_26 : decode cX6_judge 26 = .ok (.iconst 5, 1) := by decide +kernel
theorem dX6_judge_27 : decode cX6_judge 27 = .ok (.invokevirtual 77, 3) := by decide +kernel
theorem dX6_judge_30 : decode cX6_judge 30 = .ok (.ireturn, 1) := by decide +kernel
theorem dX6_judge_31 : decode cX6_judge 31 = .ok (.aload_n 0, 1) := by decide +kernel
theorem dX6_judge_32 : decode cX6_judge 32 = .ok (.iload_n 2, 1) := by decide +kernel
theorem dX6_judge_33 : decode cX6_judge 33 = .ok (.invokevirtual 116, 3) := by decide +kernel
theorem dX6_judge_36 : decode cX6_judge 36 = .ok (.ifCond .ne 9, 3) := by decide +kernel
theorem dX6_judge_39 : decode cX6_judge 39 = .ok (.aload_n 0, 1) := by decide +kernel
theorem dX6_judge_40 : decode cX6_judge 40 = .ok (.iconst 0, 1) := by decide +kernel
theorem dX6_judge_41 : decode cX6_judge 41 = .ok (.invokevirtual 77, 3) := by decide +kernel
theorem dX6_judge_44 : decode cX6_judge 44 = .ok (.ireturn, 1) := by decide +kernel
theorem dX6_judge_45 : decode cX6_judge 45 = .ok (.aload_n 0, 1) := by decide +kernel
theorem dX6_judge_46 : decode cX6_judge 46 = .ok (.getfield 68, 3) := by decide +kernel
theorem dX6_judge_49 : decode cX6_judge 49 = .ok (.iload_n 1, 1) := by decide +kernel
theorem dX6_judge_50 : decode cX6_judge 50 = .ok (.aaload, 1) := by decide +kernel
theorem dX6_judge_51 : decode cX6_judge 51 = .ok (.invokevirtual 304, 3) := by decide +kernel
theorem dX6_judge_54 : decode cX6_judge 54 = .ok (.istore_n 3, 1) := by decide +kernel
theorem dX6_judge_55 : decode cX6_judge 55 = .ok (.iload_n 3, 1) := by decide +kernel
theorem dX6_judge_56 : decode cX6_judge 56 = .ok (.ifCond .lt 7, 3) := by decide +kernel
theorem dX6_judge_59 : decode cX6_judge 59 = .ok (.iconst 1, 1) := by decide +kernel
theorem dX6_judge_60 : decode cX6_judge 60 = .ok (.iload_n 3, 1) := by decide +kernel
theorem dX6_judge_61 : decode cX6_judge 61 = .ok (.iadd, 1) := by decide +kernel
theorem dX6_judge_62 : decode cX6_judge 62 = .ok (.ireturn, 1) := by decide +kernel
theorem dX6_judge_63 : decode cX6_judge 63 = .ok (.aload_n 0, 1) := by decide +kernel
theorem dX6_judge_64 : decode cX6_judge 64 = .ok (.getfield 10, 3) := by decide +kernel
theorem dX6_judge_67 : decode cX6_judge 67 = .ok (.getfield 119, 3) := by decide +kernel
theorem dX6_judge_70 : decode cX6_judge 70 = .ok (.iload_n 2, 1) := by decide +kernel
theorem dX6_judge_71 : decode cX6_judge 71 = .ok (.aaload, 1) := by decide +kernel
theorem dX6_judge_72 : decode cX6_judge 72 = .ok (.astore 4, 2) := by decide +kernel
theorem dX6_judge_74 : decode cX6_judge 74 = .ok (.aload_n 0, 1) := by decide +kernel
theorem dX6_judge_75 : decode cX6_judge 75 = .ok (.getfield 68, 3) := by decide +kernel
theorem dX6_judge_78 : decode cX6_judge 78 = .ok (.iload_n 1, 1) := by decide +kernel
theorem dX6_judge_79 : decode cX6_judge 79 = .ok (.aaload, 1) := by decide +kernel
theorem dX6_judge_80 : decode cX6_judge 80 = .ok (.getfield 271, 3) := by decide +kernel
theorem dX6_judge_83 : decode cX6_judge 83 = .ok (.aload 4, 2) := by decide +kernel
theorem dX6_judge_85 : decode cX6_judge 85 = .ok (.getfield 126, 3) := by decide +kernel
theorem dX6_judge_88 : decode cX6_judge 88 = .ok (.if_icmp .eq 6, 3) := by decide +kernel
theorem dX6_judge_91 : decode cX6_judge 91 = .ok (.bipush 41, 2) := by decide +kernel
theorem dX6_judge_93 : decode cX6_judge 93 = .ok (.ireturn, 1) := by decide +kernel
theorem dX6_judge_94 : decode cX6_judge 94 = .ok (.aload_n 0, 1) := by decide +kernel
theorem dX6_judge_95 : decode cX6_judge 95 = .ok (.getfield 29, 3) := by decide +kernel
theorem dX6_judge_98 : decode cX6_judge 98 = .ok (.aload 4, 2) := by decide +kernel
theorem dX6_judge_100 : decode cX6_judge 100 = .ok (.getfield 123, 3) := by decide +kernel
theorem dX6_judge_103 : decode cX6_judge 103 = .ok (.aload 4, 2) := by decide +kernel
theorem dX6_judge_105 : decode cX6_judge 105 = .ok (.getfield 126, 3) := by decide +kernel
theorem dX6_judge_108 : decode cX6_judge 108 = .ok (.invokevirtual 226, 3) := by decide +kernel
theorem dX6_judge_111 : decode cX6_judge 111 = .ok (.iconst 0, 1) := by decide +kernel
theorem dX6_judge_112 : decode cX6_judge 112 = .ok (.istore 5, 2) := by decide +kernel
theorem dX6_judge_114 : decode cX6_judge 114 = .ok (.iload 5, 2) := by decide +kernel
theorem dX6_judge_116 : decode cX6_judge 116 = .ok (.aload 4, 2) := by decide +kernel
theorem dX6_judge_118 : decode cX6_judge 118 = .ok (.getfield 126, 3) := by decide +kernel
theorem dX6_judge_121 : decode cX6_judge 121 = .ok (.if_icmp .ge 46, 3) := by decide +kernel
theorem dX6_judge_124 : decode cX6_judge 124 = .ok (.aload_n 0, 1) := by decide +kernel
theorem dX6_judge_125 : decode cX6_judge 125 = .ok (.getfield 68, 3) := by decide +kernel
theorem dX6_judge_128 : decode cX6_judge 128 = .ok (.iload_n 1, 1) := by decide +kernel
theorem dX6_judge_129 : decode cX6_judge 129 = .ok (.aaload, 1) := by decide +kernel
theorem dX6_judge_130 : decode cX6_judge 130 = .ok (.getfield 287, 3) := by decide +kernel
theorem dX6_judge_133 : decode cX6_judge 133 = .ok (.iload 5, 2) := by decide +kernel
theorem dX6_judge_135 : decode cX6_judge 135 = .ok (.iaload, 1) := by decide +kernel
theorem dX6_judge_136 : decode cX6_judge 136 = .ok (.istore 6, 2) := by decide +kernel
theorem dX6_judge_138 : decode cX6_judge 138 = .ok (.aload_n 0, 1) := by decide +kernel
theorem dX6_judge_139 : decode cX6_judge 139 = .ok (.getfield 29, 3) := by decide +kernel
theorem dX6_judge_142 : decode cX6_judge 142 = .ok (.getfield 144, 3) := by decide +kernel
theorem dX6_judge_145 : decode cX6_judge 145 = .ok (.iload 5, 2) := by decide +kernel
theorem dX6_judge_147 : decode cX6_judge 147 = .ok (.iload 6, 2) := by decide +kernel
theorem dX6_judge_149 : decode cX6_judge 149 = .ok (.bipush 8, 2) := by decide +kernel
theorem dX6_judge_151 : decode cX6_judge 151 = .ok (.if_icmp .ne 7, 3) := by decide +kernel
theorem dX6_judge_154 : decode cX6_judge 154 = .ok (.iconst (-1), 1) := by decide +kernel
theorem dX6_judge_155 : decode cX6_judge 155 = .ok (.goto 5, 3) := by decide +kernel
theorem dX6_judge_158 : decode cX6_judge 158 = .ok (.iload 6, 2) := by decide +kernel
theorem dX6_judge_160 : decode cX6_judge 160 = .ok (.iastore, 1) := by decide +kernel
theorem dX6_judge_161 : decode cX6_judge 161 = .ok (.iinc 5 1, 3) := by decide +kernel
theorem dX6_judge_164 : decode cX6_judge 164 = .ok (.goto (-50), 3) := by decide +kernel
theorem dX6_judge_167 : decode cX6_judge 167 = .ok (.aload_n 0, 1) := by decide +kernel
theorem dX6_judge_168 : decode cX6_judge 168 = .ok (.getfield 10, 3) := by decide +kernel
theorem dX6_judge_171 : decode cX6_judge 171 = .ok (.getfield 35, 3) := by decide +kernel
theorem dX6_judge_174 : decode cX6_judge 174 = .ok (.aload_n 0, 1) := by decide +kernel
theorem dX6_judge_175 : decode cX6_judge 175 = .ok (.getfield 29, 3) := by decide +kernel
theorem dX6_judge_178 : decode cX6_judge 178 = .ok (.invokevirtual 137, 3) := by decide +kernel
theorem dX6_judge_181 : decode cX6_judge 181 = .ok (.ifCond .eq 7, 3) := by decide +kernel
theorem dX6_judge_184 : decode cX6_judge 184 = .ok (.iconst 0, 1) := by decide +kernel
theorem dX6_judge_185 : decode cX6_judge 185 = .ok (.goto 5, 3) := by decide +kernel
theorem dX6_judge_188 : decode cX6_judge 188 = .ok (.bipush 42, 2) := by decide +kernel
theorem dX6_judge_190 : decode cX6_judge 190 = .ok (.ireturn, 1) := by decide +kernel
theorem dX6_image_0 : decode cX6_image 0 = .ok (.aload_n 0, 1) := by decide +kernel
theorem dX6_image_1 : decode cX6_image 1 = .ok (.getfield 16, 3) := by decide +kernel
theorem dX6_image_4 : decode cX6_image 4 = .ok (.aload_n 0, 1) := by decide +kernel
theorem dX6_image_5 : decode cX6_image 5 = .ok (.getfield 10, 3) := by decide +kernel
theorem dX6_image_8 : decode cX6_image 8 = .ok (.invokevirtual 252, 3) := by decide +kernel
theorem dX6_image_11 : decode cX6_image 11 = .ok (.aload_n 0, 1) := by decide +kernel
theorem dX6_image_12 : decode cX6_image 12 = .ok (.iconst 1, 1) := by decide +kernel
theorem dX6_image_13 : decode cX6_image 13 = .ok (.putfield 19, 3) := by decide +kernel
theorem dX6_image_16 : decode cX6_image 16 = .ok (.iconst 1, 1) := by decide +kernel
theorem dX6_image_17 : decode cX6_image 17 = .ok (.ireturn, 1) := by decide +kernel
theorem dX6_undo_0 : decode cX6_undo 0 = .ok (.aload_n 0, 1) := by decide +kernel
theorem dX6_undo_1 : decode cX6_undo 1 = .ok (.getfield 19, 3) := by decide +kernel
theorem dX6_undo_4 : decode cX6_undo 4 = .ok (.ifCond .ne 9, 3) := by decide +kernel
theorem dX6_undo_7 : decode cX6_undo 7 = .ok (.aload_n 0, 1) := by decide +kernel
theorem dX6_undo_8 : decode cX6_undo 8 = .ok (.iconst 3, 1) := by decide +kernel
theorem dX6_undo_9 : decode cX6_undo 9 = .ok (.invokevirtual 77, 3) := by decide +kernel
theorem dX6_undo_12 : decode cX6_undo 12 = .ok (.ireturn, 1) := by decide +kernel
theorem dX6_undo_13 : decode cX6_undo 13 = .ok (.aload_n 0, 1) := by decide +kernel
theorem dX6_undo_14 : decode cX6_undo 14 = .ok (.getfield 10, 3) := by decide +kernel
theorem dX6_undo_17 : decode cX6_undo 17 = .ok (.aload_n 0, 1) := by decide +kernel
theorem dX6_undo_18 : decode cX6_undo 18 = .ok (.getfield 16, 3) := by decide +kernel
theorem dX6_undo_21 : decode cX6_undo 21 = .ok (.invokevirtual 252, 3) := by decide +kernel
theorem dX6_undo_24 : decode cX6_undo 24 = .ok (.aload_n 0, 1) := by decide +kernel
theorem dX6_undo_25 : decode cX6_undo 25 = .ok (.getfield 10, 3) := by decide +kernel
theorem dX6_undo_28 : decode cX6_undo 28 = .ok (.getfield 110, 3) := by decide +kernel
theorem dX6_undo_31 : decode cX6_undo 31 = .ok (.ireturn, 1) := by decide +kernel
theorem dX6_tear_0 : decode cX6_tear 0 = .ok (.aload_n 0, 1) := by decide +kernel
theorem dX6_tear_1 : decode cX6_tear 1 = .ok (.getfield 19, 3) := by decide +kernel
theorem dX6_tear_4 : decode cX6_tear 4 = .ok (.ifCond .eq 7, 3) := by decide +kernel
theorem dX6_tear_7 : decode cX6_tear 7 = .ok (.iconst 1, 1) := by decide +kernel
theorem dX6_tear_8 : decode cX6_tear 8 = .ok (.goto 4, 3) := by decide +kernel
theorem dX6_tear_11 : decode cX6_tear 11 = .ok (.iconst 0, 1) := by decide +kernel
theorem dX6_tear_12 : decode cX6_tear 12 = .ok (.istore_n 1, 1) := by decide +kernel
theorem dX6_tear_13 : decode cX6_tear 13 = .ok (.aload_n 0, 1) := by decide +kernel
theorem dX6_tear_14 : decode cX6_tear 14 = .ok (.iconst 0, 1) := by decide +kernel
theorem dX6_tear_15 : decode cX6_tear 15 = .ok (.putfield 19, 3) := by decide +kernel
theorem dX6_tear_18 : decode cX6_tear 18 = .ok (.iload_n 1, 1) := by decide +kernel
theorem dX6_tear_19 : decode cX6_tear 19 = .ok (.ireturn, 1) := by decide +kernel
theorem dX6_count_0 : decode cX6_count 0 = .ok (.iload_n 1, 1) := by decide +kernel
theorem dX6_count_1 : decode cX6_count 1 = .ok (.tableswitch 117 0 7 #[47, 55, 63, 74, 85, 96, 101, 109], 47) := by decide +kernel
theorem dX6_count_48 : decode cX6_count 48 = .ok (.aload_n 0, 1) := by decide +kernel
theorem dX6_count_49 : decode cX6_count 49 = .ok (.getfield 10, 3) := by decide +kernel
theorem dX6_count_52 : decode cX6_count 52 = .ok (.getfield 110, 3) := by decide +kernel
theorem dX6_count_55 : decode cX6_count 55 = .ok (.ireturn, 1) := by decide +kernel
theorem dX6_count_56 : decode cX6_count 56 = .ok (.aload_n 0, 1) := by decide +kernel
theorem dX6_count_57 : decode cX6_count 57 = .ok (.getfield 10, 3) := by decide +kernel
theorem dX6_count_60 : decode cX6_count 60 = .ok (.invokevirtual 307, 3) := by decide +kernel
theorem dX6_count_63 : decode cX6_count 63 = .ok (.ireturn, 1) := by decide +kernel
theorem dX6_count_64 : decode cX6_count 64 = .ok (.aload_n 0, 1) := by decide +kernel
theorem dX6_count_65 : decode cX6_count 65 = .ok (.getfield 10, 3) := by decide +kernel
theorem dX6_count_68 : decode cX6_count 68 = .ok (.getfield 35, 3) := by decide +kernel
theorem dX6_count_71 : decode cX6_count 71 = .ok (.invokevirtual 308, 3) := by decide +kernel
theorem dX6_count_74 : decode cX6_count 74 = .ok (.ireturn, 1) := by decide +kernel
theorem dX6_count_75 : decode cX6_count 75 = .ok (.aload_n 0, 1) := by decide +kernel
theorem dX6_count_76 : decode cX6_count 76 = .ok (.getfield 10, 3) := by decide +kernel
theorem dX6_count_79 : decode cX6_count 79 = .ok (.getfield 35, 3) := by decide +kernel
theorem dX6_count_82 : decode cX6_count 82 = .ok (.invokevirtual 311, 3) := by decide +kernel
theorem dX6_count_85 : decode cX6_count 85 = .ok (.ireturn, 1) := by decide +kernel
theorem dX6_count_86 : decode cX6_count 86 = .ok (.aload_n 0, 1) := by decide +kernel
theorem dX6_count_87 : decode cX6_count 87 = .ok (.getfield 10, 3) := by decide +kernel
theorem dX6_count_90 : decode cX6_count 90 = .ok (.getfield 35, 3) := by decide +kernel
theorem dX6_count_93 : decode cX6_count 93 = .ok (.getfield 101, 3) := by decide +kernel
theorem dX6_count_96 : decode cX6_count 96 = .ok (.ireturn, 1) := by decide +kernel
theorem dX6_count_97 : decode cX6_count 97 = .ok (.aload_n 0, 1) := by decide +kernel
theorem dX6_count_98 : decode cX6_count 98 = .ok (.getfield 50, 3) := by decide +kernel
theorem dX6_count_101 : decode cX6_count 101 = .ok (.ireturn, 1) := by decide +kernel
theorem dX6_count_102 : decode cX6_count 102 = .ok (.aload_n 0, 1) := by decide +kernel
theorem dX6_count_103 : decode cX6_count 103 = .ok (.getfield 10, 3) := by decide +kernel
theorem dX6_count_106 : decode cX6_count 106 = .ok (.getfield 249, 3) := by decide +kernel
theorem dX6_count_109 : decode cX6_count 109 = .ok (.ireturn, 1) := by decide +kernel
theorem dX6_count_110 : decode cX6_count 110 = .ok (.aload_n 0, 1) := by decide +kernel
theorem dX6_count_111 : decode cX6_count 111 = .ok (.getfield 10, 3) := by decide +kernel
theorem dX6_count_114 : decode cX6_count 114 = .ok (.invokevirtual 314, 3) := by decide +kernel
theorem dX6_count_117 : decode cX6_count 117 = .ok (.ireturn, 1) := by decide +kernel
theorem dX6_count_118 : decode cX6_count 118 = .ok (.aload_n 0, 1) := by decide +kernel
theorem dX6_count_119 : decode cX6_count 119 = .ok (.iconst 0, 1) := by decide +kernel
theorem dX6_count_120 : decode cX6_count 120 = .ok (.invokevirtual 77, 3) := by decide +kernel
theorem dX6_count_123 : decode cX6_count 123 = .ok (.ireturn, 1) := by decide +kernel
theorem dX6_status_0 : decode cX6_status 0 = .ok (.iload_n 1, 1) := by decide +kernel
theorem dX6_status_1 : decode cX6_status 1 = .ok (.iconst (-1), 1) := by decide +kernel
theorem dX6_status_2 : decode cX6_status 2 = .ok (.if_icmp .lt 9, 3) := by decide +kernel
theorem dX6_status_5 : decode cX6_status 5 = .ok (.iload_n 1, 1) := by decide +kernel
theorem dX6_status_6 : decode cX6_status 6 = .ok (.bipush 7, 2) := by decide +kernel
theorem dX6_status_8 : decode cX6_status 8 = .ok (.if_icmp .lt 9, 3) := by decide +kernel
theorem dX6_status_11 : decode cX6_status 11 = .ok (.aload_n 0, 1) := by decide +kernel
theorem dX6_status_12 : decode cX6_status 12 = .ok (.iconst 0, 1) := by decide +kernel
theorem dX6_status_13 : decode cX6_status 13 = .ok (.invokevirtual 77, 3) := by decide +kernel
theorem dX6_status_16 : decode cX6_status 16 = .ok (.ireturn, 1) := by decide +kernel
theorem dX6_status_17 : decode cX6_status 17 = .ok (.iload_n 1, 1) := by decide +kernel
theorem dX6_status_18 : decode cX6_status 18 = .ok (.ifCond .lt 10, 3) := by decide +kernel
theorem dX6_status_21 : decode cX6_status 21 = .ok (.aload_n 0, 1) := by decide +kernel
theorem dX6_status_22 : decode cX6_status 22 = .ok (.getfield 63, 3) := by decide +kernel
theorem dX6_status_25 : decode cX6_status 25 = .ok (.iload_n 1, 1) := by decide +kernel
theorem dX6_status_26 : decode cX6_status 26 = .ok (.iaload, 1) := by decide +kernel
theorem dX6_status_27 : decode cX6_status 27 = .ok (.ireturn, 1) := by decide +kernel
theorem dX6_status_28 : decode cX6_status 28 = .ok (.iconst 0, 1) := by decide +kernel
theorem dX6_status_29 : decode cX6_status 29 = .ok (.istore_n 2, 1) := by decide +kernel
theorem dX6_status_30 : decode cX6_status 30 = .ok (.iconst 0, 1) := by decide +kernel
theorem dX6_status_31 : decode cX6_status 31 = .ok (.istore_n 3, 1) := by decide +kernel
theorem dX6_status_32 : decode cX6_status 32 = .ok (.iload_n 3, 1) := by decide +kernel
theorem dX6_status_33 : decode cX6_status 33 = .ok (.bipush 7, 2) := by decide +kernel
theorem dX6_status_35 : decode cX6_status 35 = .ok (.if_icmp .ge 18, 3) := by decide +kernel
theorem dX6_status_38 : decode cX6_status 38 = .ok (.iload_n 2, 1) := by decide +kernel
theorem dX6_status_39 : decode cX6_status 39 = .ok (.aload_n 0, 1) := by decide +kernel
theorem dX6_status_40 : decode cX6_status 40 = .ok (.getfield 63, 3) := by decide +kernel
theorem dX6_status_43 : decode cX6_status 43 = .ok (.iload_n 3, 1) := by decide +kernel
theorem dX6_status_44 : decode cX6_status 44 = .ok (.iaload, 1) := by decide +kernel
theorem dX6_status_45 : decode cX6_status 45 = .ok (.iadd, 1) := by decide +kernel
theorem dX6_status_46 : decode cX6_status 46 = .ok (.istore_n 2, 1) := by decide +kernel
theorem dX6_status_47 : decode cX6_status 47 = .ok (.iinc 3 1, 3) := by decide +kernel
theorem dX6_status_50 : decode cX6_status 50 = .ok (.goto (-18), 3) := by decide +kernel
theorem dX6_status_53 : decode cX6_status 53 = .ok (.iload_n 2, 1) := by decide +kernel
theorem dX6_status_54 : decode cX6_status 54 = .ok (.ireturn, 1) := by decide +kernel
theorem dX6_finding_0 : decode cX6_finding 0 = .ok (.aload_n 0, 1) := by decide +kernel
theorem dX6_finding_1 : decode cX6_finding 1 = .ok (.getfield 63, 3) := by decide +kernel
theorem dX6_finding_4 : decode cX6_finding 4 = .ok (.iload_n 1, 1) := by decide +kernel
theorem dX6_finding_5 : decode cX6_finding 5 = .ok (.dup2, 1) := by decide +kernel
theorem dX6_finding_6 : decode cX6_finding 6 = .ok (.iaload, 1) := by decide +kernel
theorem dX6_finding_7 : decode cX6_finding 7 = .ok (.iconst 1, 1) := by decide +kernel
theorem dX6_finding_8 : decode cX6_finding 8 = .ok (.iadd, 1) := by decide +kernel
theorem dX6_finding_9 : decode cX6_finding 9 = .ok (.iastore, 1) := by decide +kernel
theorem dX6_finding_10 : decode cX6_finding 10 = .ok (.ldc_w 317, 3) := by decide +kernel
theorem dX6_finding_13 : decode cX6_finding 13 = .ok (.iload_n 1, 1) := by decide +kernel
theorem dX6_finding_14 : decode cX6_finding 14 = .ok (.isub, 1) := by decide +kernel
theorem dX6_finding_15 : decode cX6_finding 15 = .ok (.ireturn, 1) := by decide +kernel
theorem dX6_isPerson_0 : decode cX6_isPerson 0 = .ok (.iload_n 0, 1) := by decide +kernel
theorem dX6_isPerson_1 : decode cX6_isPerson 1 = .ok (.ifCond .lt 13, 3) := by decide +kernel
theorem dX6_isPerson_4 : decode cX6_isPerson 4 = .ok (.iload_n 0, 1) := by decide +kernel
theorem dX6_isPerson_5 : decode cX6_isPerson 5 = .ok (.bipush 8, 2) := by decide +kernel
theorem dX6_isPerson_7 : decode cX6_isPerson 7 = .ok (.if_icmp .ge 7, 3) := by decide +kernel
theorem dX6_isPerson_10 : decode cX6_isPerson 10 = .ok (.iconst 1, 1) := by decide +kernel
theorem dX6_isPerson_11 : decode cX6_isPerson 11 = .ok (.goto 4, 3) := by decide +kernel
theorem dX6_isPerson_14 : decode cX6_isPerson 14 = .ok (.iconst 0, 1) := by decide +kernel
theorem dX6_isPerson_15 : decode cX6_isPerson 15 = .ok (.ireturn, 1) := by decide +kernel
theorem dX6_arePair_0 : decode cX6_arePair 0 = .ok (.iload_n 0, 1) := by decide +kernel
theorem dX6_arePair_1 : decode cX6_arePair 1 = .ok (.invokestatic 91, 3) := by decide +kernel
theorem dX6_arePair_4 : decode cX6_arePair 4 = .ok (.ifCond .eq 19, 3) := by decide +kernel
theorem dX6_arePair_7 : decode cX6_arePair 7 = .ok (.iload_n 1, 1) := by decide +kernel
theorem dX6_arePair_8 : decode cX6_arePair 8 = .ok (.invokestatic 91, 3) := by decide +kernel
theorem dX6_arePair_11 : decode cX6_arePair 11 = .ok (.ifCond .eq 12, 3) := by decide +kernel
theorem dX6_arePair_14 : decode cX6_arePair 14 = .ok (.iload_n 0, 1) := by decide +kernel
theorem dX6_arePair_15 : decode cX6_arePair 15 = .ok (.iload_n 1, 1) := by decide +kernel
theorem dX6_arePair_16 : decode cX6_arePair 16 = .ok (.if_icmp .eq 7, 3) := by decide +kernel
theorem dX6_arePair_19 : decode cX6_arePair 19 = .ok (.iconst 1, 1) := by decide +kernel
theorem dX6_arePair_20 : decode cX6_arePair 20 = .ok (.goto 4, 3) := by decide +kernel
theorem dX6_arePair_23 : decode cX6_arePair 23 = .ok (.iconst 0, 1) := by decide +kernel
theorem dX6_arePair_24 : decode cX6_arePair 24 = .ok (.ireturn, 1) := by decide +kernel
theorem dX6_isKind_0 : decode cX6_isKind 0 = .ok (.iload_n 0, 1) := by decide +kernel
theorem dX6_isKind_1 : decode cX6_isKind 1 = .ok (.ifCond .lt 13, 3) := by decide +kernel
theorem dX6_isKind_4 : decode cX6_isKind 4 = .ok (.iload_n 0, 1) := by decide +kernel
theorem dX6_isKind_5 : decode cX6_isKind 5 = .ok (.bipush 7, 2) := by decide +kernel
theorem dX6_isKind_7 : decode cX6_isKind 7 = .ok (.if_icmp .ge 7, 3) := by decide +kernel
theorem dX6_isKind_10 : decode cX6_isKind 10 = .ok (.iconst 1, 1) := by decide +kernel
theorem dX6_isKind_11 : decode cX6_isKind 11 = .ok (.goto 4, 3) := by decide +kernel
theorem dX6_isKind_14 : decode cX6_isKind 14 = .ok (.iconst 0, 1) := by decide +kernel
theorem dX6_isKind_15 : decode cX6_isKind 15 = .ok (.ireturn, 1) := by decide +kernel
theorem dX6_isSet_0 : decode cX6_isSet 0 = .ok (.iload_n 0, 1) := by decide +kernel
theorem dX6_isSet_1 : decode cX6_isSet 1 = .ok (.ifCond .lt 14, 3) := by decide +kernel
theorem dX6_isSet_4 : decode cX6_isSet 4 = .ok (.iload_n 0, 1) := by decide +kernel
theorem dX6_isSet_5 : decode cX6_isSet 5 = .ok (.sipush 255, 3) := by decide +kernel
theorem dX6_isSet_8 : decode cX6_isSet 8 = .ok (.if_icmp .gt 7, 3) := by decide +kernel
theorem dX6_isSet_11 : decode cX6_isSet 11 = .ok (.iconst 1, 1) := by decide +kernel
theorem dX6_isSet_12 : decode cX6_isSet 12 = .ok (.goto 4, 3) := by decide +kernel
theorem dX6_isSet_15 : decode cX6_isSet 15 = .ok (.iconst 0, 1) := by decide +kernel
theorem dX6_isSet_16 : decode cX6_isSet 16 = .ok (.ireturn, 1) := by decide +kernel
theorem dX6_isSpot_0 : decode cX6_isSpot 0 = .ok (.iload_n 0, 1) := by decide +kernel
theorem dX6_isSpot_1 : decode cX6_isSpot 1 = .ok (.ifCond .lt 13, 3) := by decide +kernel
theorem dX6_isSpot_4 : decode cX6_isSpot 4 = .ok (.iload_n 0, 1) := by decide +kernel
theorem dX6_isSpot_5 : decode cX6_isSpot 5 = .ok (.bipush 10, 2) := by decide +kernel
theorem dX6_isSpot_7 : decode cX6_isSpot 7 = .ok (.if_icmp .ge 7, 3) := by decide +kernel
theorem dX6_isSpot_10 : decode cX6_isSpot 10 = .ok (.iconst 1, 1) := by decide +kernel
theorem dX6_isSpot_11 : decode cX6_isSpot 11 = .ok (.goto 4, 3) := by decide +kernel
theorem dX6_isSpot_14 : decode cX6_isSpot 14 = .ok (.iconst 0, 1) := by decide +kernel
theorem dX6_isSpot_15 : decode cX6_isSpot 15 = .ok (.ireturn, 1) := by decide +kernel
theorem dX6_isSheet_0 : decode cX6_isSheet 0 = .ok (.iload_n 0, 1) := by decide +kernel
theorem dX6_isSheet_1 : decode cX6_isSheet 1 = .ok (.ifCond .lt 12, 3) := by decide +kernel
theorem dX6_isSheet_4 : decode cX6_isSheet 4 = .ok (.iload_n 0, 1) := by decide +kernel
theorem dX6_isSheet_5 : decode cX6_isSheet 5 = .ok (.iconst 4, 1) := by decide +kernel
theorem dX6_isSheet_6 : decode cX6_isSheet 6 = .ok (.if_icmp .ge 7, 3) := by decide +kernel
theorem dX6_isSheet_9 : decode cX6_isSheet 9 = .ok (.iconst 1, 1) := by decide +kernel
theorem dX6_isSheet_10 : decode cX6_isSheet 10 = .ok (.goto 4, 3) := by decide +kernel
theorem dX6_isSheet_13 : decode cX6_isSheet 13 = .ok (.iconst 0, 1) := by decide +kernel
theorem dX6_isSheet_14 : decode cX6_isSheet 14 = .ok (.ireturn, 1) := by decide +kernel
theorem dX6_isBench_0 : decode cX6_isBench 0 = .ok (.iload_n 1, 1) := by decide +kernel
theorem dX6_isBench_1 : decode cX6_isBench 1 = .ok (.ifCond .lt 18, 3) := by decide +kernel
theorem dX6_isBench_4 : decode cX6_isBench 4 = .ok (.iload_n 1, 1) := by decide +kernel
theorem dX6_isBench_5 : decode cX6_isBench 5 = .ok (.aload_n 0, 1) := by decide +kernel
theorem dX6_isBench_6 : decode cX6_isBench 6 = .ok (.getfield 10, 3) := by decide +kernel
theorem dX6_isBench_9 : decode cX6_isBench 9 = .ok (.getfield 110, 3) := by decide +kernel
theorem dX6_isBench_12 : decode cX6_isBench 12 = .ok (.if_icmp .ge 7, 3) := by decide +kernel
theorem dX6_isBench_15 : decode cX6_isBench 15 = .ok (.iconst 1, 1) := by decide +kernel
theorem dX6_isBench_16 : decode cX6_isBench 16 = .ok (.goto 4, 3) := by decide +kernel
theorem dX6_isBench_19 : decode cX6_isBench 19 = .ok (.iconst 0, 1) := by decide +kernel
theorem dX6_isBench_20 : decode cX6_isBench 20 = .ok (.ireturn, 1) := by decide +kernel
theorem dX6_isSeat_0 : decode cX6_isSeat 0 = .ok (.aload_n 0, 1) := by decide +kernel
theorem dX6_isSeat_1 : decode cX6_isSeat 1 = .ok (.iload_n 1, 1) := by decide +kernel
theorem dX6_isSeat_2 : decode cX6_isSeat 2 = .ok (.invokevirtual 116, 3) := by decide +kernel
theorem dX6_isSeat_5 : decode cX6_isSeat 5 = .ok (.ifCond .eq 27, 3) := by decide +kernel
theorem dX6_isSeat_8 : decode cX6_isSeat 8 = .ok (.iload_n 2, 1) := by decide +kernel
theorem dX6_isSeat_9 : decode cX6_isSeat 9 = .ok (.ifCond .lt 23, 3) := by decide +kernel
theorem dX6_isSeat_12 : decode cX6_isSeat 12 = .ok (.iload_n 2, 1) := by decide +kernel
theorem dX6_isSeat_13 : decode cX6_isSeat 13 = .ok (.aload_n 0, 1) := by decide +kernel
theorem dX6_isSeat_14 : decode cX6_isSeat 14 = .ok (.getfield 10, 3) := by decide +kernel
theorem dX6_isSeat_17 : decode cX6_isSeat 17 = .ok (.getfield 119, 3) := by decide +kernel
theorem dX6_isSeat_20 : decode cX6_isSeat 20 = .ok (.iload_n 1, 1) := by decide +kernel
theorem dX6_isSeat_21 : decode cX6_isSeat 21 = .ok (.aaload, 1) := by decide +kernel
theorem dX6_isSeat_22 : decode cX6_isSeat 22 = .ok (.getfield 126, 3) := by decide +kernel
theorem dX6_isSeat_25 : decode cX6_isSeat 25 = .ok (.if_icmp .ge 7, 3) := by decide +kernel
theorem dX6_isSeat_28 : decode cX6_isSeat 28 = .ok (.iconst 1, 1) := by decide +kernel
theorem dX6_isSeat_29 : decode cX6_isSeat 29 = .ok (.goto 4, 3) := by decide +kernel
theorem dX6_isSeat_32 : decode cX6_isSeat 32 = .ok (.iconst 0, 1) := by decide +kernel
theorem dX6_isSeat_33 : decode cX6_isSeat 33 = .ok (.ireturn, 1) := by decide +kernel
theorem dX6_has_0 : decode cX6_has 0 = .ok (.iload_n 0, 1) := by decide +kernel
theorem dX6_has_1 : decode cX6_has 1 = .ok (.iload_n 1, 1) := by decide +kernel
theorem dX6_has_2 : decode cX6_has 2 = .ok (.ishr, 1) := by decide +kernel
theorem dX6_has_3 : decode cX6_has 3 = .ok (.iconst 1, 1) := by decide +kernel
theorem dX6_has_4 : decode cX6_has 4 = .ok (.iand, 1) := by decide +kernel
theorem dX6_has_5 : decode cX6_has 5 = .ok (.ifCond .eq 7, 3) := by decide +kernel
theorem dX6_has_8 : decode cX6_has 8 = .ok (.iconst 1, 1) := by decide +kernel
theorem dX6_has_9 : decode cX6_has 9 = .ok (.goto 4, 3) := by decide +kernel
theorem dX6_has_12 : decode cX6_has 12 = .ok (.iconst 0, 1) := by decide +kernel
theorem dX6_has_13 : decode cX6_has 13 = .ok (.ireturn, 1) := by decide +kernel
theorem dX6_leastOf_0 : decode cX6_leastOf 0 = .ok (.iconst 0, 1) := by decide +kernel
theorem dX6_leastOf_1 : decode cX6_leastOf 1 = .ok (.istore_n 1, 1) := by decide +kernel
theorem dX6_leastOf_2 : decode cX6_leastOf 2 = .ok (.iload_n 1, 1) := by decide +kernel
theorem dX6_leastOf_3 : decode cX6_leastOf 3 = .ok (.bipush 8, 2) := by decide +kernel
theorem dX6_leastOf_5 : decode cX6_leastOf 5 = .ok (.if_icmp .ge 19, 3) := by decide +kernel
theorem dX6_leastOf_8 : decode cX6_leastOf 8 = .ok (.iload_n 0, 1) := by decide +kernel
theorem dX6_leastOf_9 : decode cX6_leastOf 9 = .ok (.iload_n 1, 1) := by decide +kernel
theorem dX6_leastOf_10 : decode cX6_leastOf 10 = .ok (.invokestatic 173, 3) := by decide +kernel
theorem dX6_leastOf_13 : decode cX6_leastOf 13 = .ok (.ifCond .eq 5, 3) := by decide +kernel
theorem dX6_leastOf_16 : decode cX6_leastOf 16 = .ok (.iload_n 1, 1) := by decide +kernel
theorem dX6_leastOf_17 : decode cX6_leastOf 17 = .ok (.ireturn, 1) := by decide +kernel
theorem dX6_leastOf_18 : decode cX6_leastOf 18 = .ok (.iinc 1 1, 3) := by decide +kernel
theorem dX6_leastOf_21 : decode cX6_leastOf 21 = .ok (.goto (-19), 3) := by decide +kernel
theorem dX6_leastOf_24 : decode cX6_leastOf 24 = .ok (.iconst (-1), 1) := by decide +kernel
theorem dX6_leastOf_25 : decode cX6_leastOf 25 = .ok (.ireturn, 1) := by decide +kernel
theorem dX6_isUnder_0 : decode cX6_isUnder 0 = .ok (.iload_n 0, 1) := by decide +kernel
theorem dX6_isUnder_1 : decode cX6_isUnder 1 = .ok (.istore_n 2, 1) := by decide +kernel
theorem dX6_isUnder_2 : decode cX6_isUnder 2 = .ok (.iconst 0, 1) := by decide +kernel
theorem dX6_isUnder_3 : decode cX6_isUnder 3 = .ok (.istore_n 3, 1) := by decide +kernel
theorem dX6_isUnder_4 : decode cX6_isUnder 4 = .ok (.iload_n 3, 1) := by decide +kernel
theorem dX6_isUnder_5 : decode cX6_isUnder 5 = .ok (.bipush 7, 2) := by decide +kernel
theorem dX6_isUnder_7 : decode cX6_isUnder 7 = .ok (.if_icmp .ge 29, 3) := by decide +kernel
theorem dX6_isUnder_10 : decode cX6_isUnder 10 = .ok (.iload_n 2, 1) := by decide +kernel
theorem dX6_isUnder_11 : decode cX6_isUnder 11 = .ok (.invokestatic 107, 3) := by decide +kernel
theorem dX6_isUnder_14 : decode cX6_isUnder 14 = .ok (.ifCond .eq 22, 3) := by decide +kernel
theorem dX6_isUnder_17 : decode cX6_isUnder 17 = .ok (.iload_n 2, 1) := by decide +kernel
theorem dX6_isUnder_18 : decode cX6_isUnder 18 = .ok (.iload_n 1, 1) := by decide +kernel
theorem dX6_isUnder_19 : decode cX6_isUnder 19 = .ok (.if_icmp .ne 5, 3) := by decide +kernel
theorem dX6_isUnder_22 : decode cX6_isUnder 22 = .ok (.iconst 1, 1) := by decide +kernel
theorem dX6_isUnder_23 : decode cX6_isUnder 23 = .ok (.ireturn, 1) := by decide +kernel
theorem dX6_isUnder_24 : decode cX6_isUnder 24 = .ok (.getstatic 318, 3) := by decide +kernel
theorem dX6_isUnder_27 : decode cX6_isUnder 27 = .ok (.iload_n 2, 1) := by decide +kernel
theorem dX6_isUnder_28 : decode cX6_isUnder 28 = .ok (.iaload, 1) := by decide +kernel
theorem dX6_isUnder_29 : decode cX6_isUnder 29 = .ok (.istore_n 2, 1) := by decide +kernel
theorem dX6_isUnder_30 : decode cX6_isUnder 30 = .ok (.iinc 3 1, 3) := by decide +kernel
theorem dX6_isUnder_33 : decode cX6_isUnder 33 = .ok (.goto (-29), 3) := by decide +kernel
theorem dX6_isUnder_36 : decode cX6_isUnder 36 = .ok (.iconst 0, 1) := by decide +kernel
theorem dX6_isUnder_37 : decode cX6_isUnder 37 = .ok (.ireturn, 1) := by decide +kernel
theorem dX6_fitsOn_0 : decode cX6_fitsOn 0 = .ok (.iload_n 2, 1) := by decide +kernel
theorem dX6_fitsOn_1 : decode cX6_fitsOn 1 = .ok (.invokestatic 210, 3) := by decide +kernel
theorem dX6_fitsOn_4 : decode cX6_fitsOn 4 = .ok (.istore_n 3, 1) := by decide +kernel
theorem dX6_fitsOn_5 : decode cX6_fitsOn 5 = .ok (.iload_n 3, 1) := by decide +kernel
theorem dX6_fitsOn_6 : decode cX6_fitsOn 6 = .ok (.aload_n 0, 1) := by decide +kernel
theorem dX6_fitsOn_7 : decode cX6_fitsOn 7 = .ok (.getfield 10, 3) := by decide +kernel
theorem dX6_fitsOn_10 : decode cX6_fitsOn 10 = .ok (.getfield 119, 3) := by decide +kernel
theorem dX6_fitsOn_13 : decode cX6_fitsOn 13 = .ok (.iload_n 1, 1) := by decide +kernel
theorem dX6_fitsOn_14 : decode cX6_fitsOn 14 = .ok (.aaload, 1) := by decide +kernel
theorem dX6_fitsOn_15 : decode cX6_fitsOn 15 = .ok (.getfield 126, 3) := by decide +kernel
theorem dX6_fitsOn_18 : decode cX6_fitsOn 18 = .ok (.if_icmp .gt 13, 3) := by decide +kernel
theorem dX6_fitsOn_21 : decode cX6_fitsOn 21 = .ok (.iload_n 3, 1) := by decide +kernel
theorem dX6_fitsOn_22 : decode cX6_fitsOn 22 = .ok (.bipush 6, 2) := by decide +kernel
theorem dX6_fitsOn_24 : decode cX6_fitsOn 24 = .ok (.if_icmp .gt 7, 3) := by decide +kernel
theorem dX6_fitsOn_27 : decode cX6_fitsOn 27 = .ok (.iconst 1, 1) := by decide +kernel
theorem dX6_fitsOn_28 : decode cX6_fitsOn 28 = .ok (.goto 4, 3) := by decide +kernel
theorem dX6_fitsOn_31 : decode cX6_fitsOn 31 = .ok (.iconst 0, 1) := by decide +kernel
theorem dX6_fitsOn_32 : decode cX6_fitsOn 32 = .ok (.ireturn, 1) := by decide +kernel
theorem dX6_seatsToAskFor_0 : decode cX6_seatsToAskFor 0 = .ok (.aload_n 0, 1) := by decide +kernel
theorem dX6_seatsToAskFor_1 : decode cX6_seatsToAskFor 1 = .ok (.getfield 29, 3) := by decide +kernel
theorem dX6_seatsToAskFor_4 : decode cX6_seatsToAskFor 4 = .ok (.aload_n 0, 1) := by decide +kernel
theorem dX6_seatsToAskFor_5 : decode cX6_seatsToAskFor 5 = .ok (.getfield 10, 3) := by decide +kernel
theorem dX6_seatsToAskFor_8 : decode cX6_seatsToAskFor 8 = .ok (.getfield 119, 3) := by decide +kernel
theorem dX6_seatsToAskFor_11 : decode cX6_seatsToAskFor 11 = .ok (.iload_n 2, 1) := by decide +kernel
theorem dX6_seatsToAskFor_12 : decode cX6_seatsToAskFor 12 = .ok (.aaload, 1) := by decide +kernel
theorem dX6_seatsToAskFor_13 : decode cX6_seatsToAskFor 13 = .ok (.invokevirtual 238, 3) := by decide +kernel
theorem dX6_seatsToAskFor_16 : decode cX6_seatsToAskFor 16 = .ok (.aload_n 0, 1) := by decide +kernel
theorem dX6_seatsToAskFor_17 : decode cX6_seatsToAskFor 17 = .ok (.getfield 29, 3) := by decide +kernel
theorem dX6_seatsToAskFor_20 : decode cX6_seatsToAskFor 20 = .ok (.iload_n 1, 1) := by decide +kernel
theorem dX6_seatsToAskFor_21 : decode cX6_seatsToAskFor 21 = .ok (.invokevirtual 321, 3) := by decide +kernel
theorem dX6_seatsToAskFor_24 : decode cX6_seatsToAskFor 24 = .ok (.aload_n 0, 1) := by decide +kernel
theorem dX6_seatsToAskFor_25 : decode cX6_seatsToAskFor 25 = .ok (.getfield 10, 3) := by decide +kernel
theorem dX6_seatsToAskFor_28 : decode cX6_seatsToAskFor 28 = .ok (.getfield 35, 3) := by decide +kernel
theorem dX6_seatsToAskFor_31 : decode cX6_seatsToAskFor 31 = .ok (.iload_n 1, 1) := by decide +kernel
theorem dX6_seatsToAskFor_32 : decode cX6_seatsToAskFor 32 = .ok (.aload_n 0, 1) := by decide +kernel
theorem dX6_seatsToAskFor_33 : decode cX6_seatsToAskFor 33 = .ok (.getfield 29, 3) := by decide +kernel
theorem dX6_seatsToAskFor_36 : decode cX6_seatsToAskFor 36 = .ok (.invokevirtual 325, 3) := by decide +kernel
theorem dX6_seatsToAskFor_39 : decode cX6_seatsToAskFor 39 = .ok (.ireturn, 1) := by decide +kernel
theorem dX6_othersWithSeat_0 : decode cX6_othersWithSeat 0 = .ok (.iconst 0, 1) := by decide +kernel
theorem dX6_othersWithSeat_1 : decode cX6_othersWithSeat 1 = .ok (.istore_n 2, 1) := by decide +kernel
theorem dX6_othersWithSeat_2 : decode cX6_othersWithSeat 2 = .ok (.iconst 0, 1) := by decide +kernel
theorem dX6_othersWithSeat_3 : decode cX6_othersWithSeat 3 = .ok (.istore_n 3, 1) := by decide +kernel
theorem dX6_othersWithSeat_4 : decode cX6_othersWithSeat 4 = .ok (.iload_n 3, 1) := by decide +kernel
theorem dX6_othersWithSeat_5 : decode cX6_othersWithSeat 5 = .ok (.bipush 8, 2) := by decide +kernel
theorem dX6_othersWithSeat_7 : decode cX6_othersWithSeat 7 = .ok (.if_icmp .ge 46, 3) := by decide +kernel
theorem dX6_othersWithSeat_10 : decode cX6_othersWithSeat 10 = .ok (.iload_n 3, 1) := by decide +kernel
theorem dX6_othersWithSeat_11 : decode cX6_othersWithSeat 11 = .ok (.iload_n 1, 1) := by decide +kernel
theorem dX6_othersWithSeat_12 : decode cX6_othersWithSeat 12 = .ok (.if_icmp .eq 35, 3) := by decide +kernel
theorem dX6_othersWithSeat_15 : decode cX6_othersWithSeat 15 = .ok (.aload_n 0, 1) := by decide +kernel
theorem dX6_othersWithSeat_16 : decode cX6_othersWithSeat 16 = .ok (.getfield 10, 3) := by decide +kernel
theorem dX6_othersWithSeat_19 : decode cX6_othersWithSeat 19 = .ok (.iload_n 3, 1) := by decide +kernel
theorem dX6_othersWithSeat_20 : decode cX6_othersWithSeat 20 = .ok (.invokevirtual 182, 3) := by decide +kernel
theorem dX6_othersWithSeat_23 : decode cX6_othersWithSeat 23 = .ok (.ifCond .ne 24, 3) := by decide +kernel
theorem dX6_othersWithSeat_26 : decode cX6_othersWithSeat 26 = .ok (.aload_n 0, 1) := by decide +kernel
theorem dX6_othersWithSeat_27 : decode cX6_othersWithSeat 27 = .ok (.getfield 10, 3) := by decide +kernel
theorem dX6_othersWithSeat_30 : decode cX6_othersWithSeat 30 = .ok (.getfield 35, 3) := by decide +kernel
theorem dX6_othersWithSeat_33 : decode cX6_othersWithSeat 33 = .ok (.iload_n 3, 1) := by decide +kernel
theorem dX6_othersWithSeat_34 : decode cX6_othersWithSeat 34 = .ok (.aload_n 0, 1) := by decide +kernel
theorem dX6_othersWithSeat_35 : decode cX6_othersWithSeat 35 = .ok (.getfield 29, 3) := by decide +kernel
theorem dX6_othersWithSeat_38 : decode cX6_othersWithSeat 38 = .ok (.invokevirtual 325, 3) := by decide +kernel
theorem dX6_othersWithSeat_41 : decode cX6_othersWithSeat 41 = .ok (.ifCond .eq 6, 3) := by decide +kernel
theorem dX6_othersWithSeat_44 : decode cX6_othersWithSeat 44 = .ok (.iinc 2 1, 3) := by decide +kernel
theorem dX6_othersWithSeat_47 : decode cX6_othersWithSeat 47 = .ok (.iinc 3 1, 3) := by decide +kernel
theorem dX6_othersWithSeat_50 : decode cX6_othersWithSeat 50 = .ok (.goto (-46), 3) := by decide +kernel
theorem dX6_othersWithSeat_53 : decode cX6_othersWithSeat 53 = .ok (.iload_n 2, 1) := by decide +kernel
theorem dX6_othersWithSeat_54 : decode cX6_othersWithSeat 54 = .ok (.ireturn, 1) := by decide +kernel
theorem dX6_seatingsAfterQuarrel_0 : decode cX6_seatingsAfterQuarrel 0 = .ok (.aload_n 0, 1) := by decide +kernel
theorem dX6_seatingsAfterQuarrel_1 : decode cX6_seatingsAfterQuarrel 1 = .ok (.getfield 10, 3) := by decide +kernel
theorem dX6_seatingsAfterQuarrel_4 : decode cX6_seatingsAfterQuarrel 4 = .ok (.getfield 35, 3) := by decide +kernel
theorem dX6_seatingsAfterQuarrel_7 : decode cX6_seatingsAfterQuarrel 7 = .ok (.iload_n 3, 1) := by decide +kernel
theorem dX6_seatingsAfterQuarrel_8 : decode cX6_seatingsAfterQuarrel 8 = .ok (.iload 4, 2) := by decide +kernel
theorem dX6_seatingsAfterQuarrel_10 : decode cX6_seatingsAfterQuarrel 10 = .ok (.invokevirtual 81, 3) := by decide +kernel
theorem dX6_seatingsAfterQuarrel_13 : decode cX6_seatingsAfterQuarrel 13 = .ok (.istore 5, 2) := by decide +kernel
theorem dX6_seatingsAfterQuarrel_15 : decode cX6_seatingsAfterQuarrel 15 = .ok (.aload_n 0, 1) := by decide +kernel
theorem dX6_seatingsAfterQuarrel_16 : decode cX6_seatingsAfterQuarrel 16 = .ok (.getfield 10, 3) := by decide +kernel
theorem dX6_seatingsAfterQuarrel_19 : decode cX6_seatingsAfterQuarrel 19 = .ok (.getfield 35, 3) := by decide +kernel
theorem dX6_seatingsAfterQuarrel_22 : decode cX6_seatingsAfterQuarrel 22 = .ok (.iload_n 3, 1) := by decide +kernel
theorem dX6_seatingsAfterQuarrel_23 : decode cX6_seatingsAfterQuarrel 23 = .ok (.iload 4, 2) := by decide +kernel
theorem dX6_seatingsAfterQuarrel_25 : decode cX6_seatingsAfterQuarrel 25 = .ok (.iconst 0, 1) := by decide +kernel
theorem dX6_seatingsAfterQuarrel_26 : decode cX6_seatingsAfterQuarrel 26 = .ok (.invokevirtual 87, 3) := by decide +kernel
theorem dX6_seatingsAfterQuarrel_29 : decode cX6_seatingsAfterQuarrel 29 = .ok (.aload_n 0, 1) := by decide +kernel
theorem dX6_seatingsAfterQuarrel_30 : decode cX6_seatingsAfterQuarrel 30 = .ok (.getfield 42, 3) := by decide +kernel
theorem dX6_seatingsAfterQuarrel_33 : decode cX6_seatingsAfterQuarrel 33 = .ok (.ldc 194, 2) := by decide +kernel
theorem dX6_seatingsAfterQuarrel_35 : decode cX6_seatingsAfterQuarrel 35 = .ok (.aload_n 0, 1) := by decide +kernel
theorem dX6_seatingsAfterQuarrel_36 : decode cX6_seatingsAfterQuarrel 36 = .ok (.getfield 10, 3) := by decide +kernel
theorem dX6_seatingsAfterQuarrel_39 : decode cX6_seatingsAfterQuarrel 39 = .ok (.getfield 119, 3) := by decide +kernel
theorem dX6_seatingsAfterQuarrel_42 : decode cX6_seatingsAfterQuarrel 42 = .ok (.iload_n 1, 1) := by decide +kernel
theorem dX6_seatingsAfterQuarrel_43 : decode cX6_seatingsAfterQuarrel 43 = .ok (.aaload, 1) := by decide +kernel
theorem dX6_seatingsAfterQuarrel_44 : decode cX6_seatingsAfterQuarrel 44 = .ok (.iload_n 2, 1) := by decide +kernel
theorem dX6_seatingsAfterQuarrel_45 : decode cX6_seatingsAfterQuarrel 45 = .ok (.invokevirtual 195, 3) := by decide +kernel
theorem dX6_seatingsAfterQuarrel_48 : decode cX6_seatingsAfterQuarrel 48 = .ok (.istore 6, 2) := by decide +kernel
theorem dX6_seatingsAfterQuarrel_50 : decode cX6_seatingsAfterQuarrel 50 = .ok (.aload_n 0, 1) := by decide +kernel
theorem dX6_seatingsAfterQuarrel_51 : decode cX6_seatingsAfterQuarrel 51 = .ok (.getfield 10, 3) := by decide +kernel
theorem dX6_seatingsAfterQuarrel_54 : decode cX6_seatingsAfterQuarrel 54 = .ok (.getfield 35, 3) := by decide +kernel
theorem dX6_seatingsAfterQuarrel_57 : decode cX6_seatingsAfterQuarrel 57 = .ok (.iload_n 3, 1) := by decide +kernel
theorem dX6_seatingsAfterQuarrel_58 : decode cX6_seatingsAfterQuarrel 58 = .ok (.iload 4, 2) := by decide +kernel
theorem dX6_seatingsAfterQuarrel_60 : decode cX6_seatingsAfterQuarrel 60 = .ok (.iload 5, 2) := by decide +kernel
theorem dX6_seatingsAfterQuarrel_62 : decode cX6_seatingsAfterQuarrel 62 = .ok (.invokevirtual 87, 3) := by decide +kernel
theorem dX6_seatingsAfterQuarrel_65 : decode cX6_seatingsAfterQuarrel 65 = .ok (.iload 6, 2) := by decide +kernel
theorem dX6_seatingsAfterQuarrel_67 : decode cX6_seatingsAfterQuarrel 67 = .ok (.ireturn, 1) := by decide +kernel
theorem dX6_bothGainByChange_0 : decode cX6_bothGainByChange 0 = .ok (.aload_n 1, 1) := by decide +kernel
theorem dX6_bothGainByChange_1 : decode cX6_bothGainByChange 1 = .ok (.iload_n 2, 1) := by decide +kernel
theorem dX6_bothGainByChange_2 : decode cX6_bothGainByChange 2 = .ok (.invokevirtual 167, 3) := by decide +kernel
theorem dX6_bothGainByChange_5 : decode cX6_bothGainByChange 5 = .ok (.istore 4, 2) := by decide +kernel
theorem dX6_bothGainByChange_7 : decode cX6_bothGainByChange 7 = .ok (.aload_n 1, 1) := by decide +kernel
theorem dX6_bothGainByChange_8 : decode cX6_bothGainByChange 8 = .ok (.iload_n 3, 1) := by decide +kernel
theorem dX6_bothGainByChange_9 : decode cX6_bothGainByChange 9 = .ok (.invokevirtual 167, 3) := by decide +kernel
theorem dX6_bothGainByChange_12 : decode cX6_bothGainByChange 12 = .ok (.istore 5, 2) := by decide +kernel
theorem dX6_bothGainByChange_14 : decode cX6_bothGainByChange 14 = .ok (.iload 4, 2) := by decide +kernel
theorem dX6_bothGainByChange_16 : decode cX6_bothGainByChange 16 = .ok (.iconst (-1), 1) := by decide +kernel
theorem dX6_bothGainByChange_17 : decode cX6_bothGainByChange 17 = .ok (.if_icmp .eq 9, 3) := by decide +kernel
theorem dX6_bothGainByChange_20 : decode cX6_bothGainByChange 20 = .ok (.iload 5, 2) := by decide +kernel
theorem dX6_bothGainByChange_22 : decode cX6_bothGainByChange 22 = .ok (.iconst (-1), 1) := by decide +kernel
theorem dX6_bothGainByChange_23 : decode cX6_bothGainByChange 23 = .ok (.if_icmp .ne 5, 3) := by decide +kernel
theorem dX6_bothGainByChange_26 : decode cX6_bothGainByChange 26 = .ok (.iconst 0, 1) := by decide +kernel
theorem dX6_bothGainByChange_27 : decode cX6_bothGainByChange 27 = .ok (.ireturn, 1) := by decide +kernel
theorem dX6_bothGainByChange_28 : decode cX6_bothGainByChange 28 = .ok (.aload_n 0, 1) := by decide +kernel
theorem dX6_bothGainByChange_29 : decode cX6_bothGainByChange 29 = .ok (.getfield 29, 3) := by decide +kernel
theorem dX6_bothGainByChange_32 : decode cX6_bothGainByChange 32 = .ok (.aload_n 1, 1) := by decide +kernel
theorem dX6_bothGainByChange_33 : decode cX6_bothGainByChange 33 = .ok (.invokevirtual 238, 3) := by decide +kernel
theorem dX6_bothGainByChange_36 : decode cX6_bothGainByChange 36 = .ok (.aload_n 0, 1) := by decide +kernel
theorem dX6_bothGainByChange_37 : decode cX6_bothGainByChange 37 = .ok (.getfield 29, 3) := by decide +kernel
theorem dX6_bothGainByChange_40 : decode cX6_bothGainByChange 40 = .ok (.getfield 144, 3) := by decide +kernel
theorem dX6_bothGainByChange_43 : decode cX6_bothGainByChange 43 = .ok (.iload 4, 2) := by decide +kernel
theorem dX6_bothGainByChange_45 : decode cX6_bothGainByChange 45 = .ok (.iload_n 3, 1) := by decide +kernel
theorem dX6_bothGainByChange_46 : decode cX6_bothGainByChange 46 = .ok (.iastore, 1) := by decide +kernel
theorem dX6_bothGainByChange_47 : decode cX6_bothGainByChange 47 = .ok (.aload_n 0, 1) := by decide +kernel
theorem dX6_bothGainByChange_48 : decode cX6_bothGainByChange 48 = .ok (.getfield 29, 3) := by decide +kernel
theorem dX6_bothGainByChange_51 : decode cX6_bothGainByChange 51 = .ok (.getfield 144, 3) := by decide +kernel
theorem dX6_bothGainByChange_54 : decode cX6_bothGainByChange 54 = .ok (.iload 5, 2) := by decide +kernel
theorem dX6_bothGainByChange_56 : decode cX6_bothGainByChange 56 = .ok (.iload_n 2, 1) := by decide +kernel
theorem dX6_bothGainByChange_57 : decode cX6_bothGainByChange 57 = .ok (.iastore, 1) := by decide +kernel
theorem dX6_bothGainByChange_58 : decode cX6_bothGainByChange 58 = .ok (.aload_n 0, 1) := by decide +kernel
theorem dX6_bothGainByChange_59 : decode cX6_bothGainByChange 59 = .ok (.getfield 10, 3) := by decide +kernel
theorem dX6_bothGainByChange_62 : decode cX6_bothGainByChange 62 = .ok (.getfield 35, 3) := by decide +kernel
theorem dX6_bothGainByChange_65 : decode cX6_bothGainByChange 65 = .ok (.iload_n 2, 1) := by decide +kernel
theorem dX6_bothGainByChange_66 : decode cX6_bothGainByChange 66 = .ok (.aload_n 0, 1) := by decide +kernel
theorem dX6_bothGainByChange_67 : decode cX6_bothGainByChange 67 = .ok (.getfield 29, 3) := by decide +kernel
theorem dX6_bothGainByChange_70 : decode cX6_bothGainByChange 70 = .ok (.invokevirtual 230, 3) := by decide +kernel
theorem dX6_bothGainByChange_73 : decode cX6_bothGainByChange 73 = .ok (.aload_n 0, 1) := by decide +kernel
theorem dX6_bothGainByChange_74 : decode cX6_bothGainByChange 74 = .ok (.getfield 10, 3) := by decide +kernel
theorem dX6_bothGainByChange_77 : decode cX6_bothGainByChange 77 = .ok (.getfield 35, 3) := by decide +kernel
theorem dX6_bothGainByChange_80 : decode cX6_bothGainByChange 80 = .ok (.iload_n 2, 1) := by decide +kernel
theorem dX6_bothGainByChange_81 : decode cX6_bothGainByChange 81 = .ok (.aload_n 1, 1) := by decide +kernel
theorem dX6_bothGainByChange_82 : decode cX6_bothGainByChange 82 = .ok (.invokevirtual 230, 3) := by decide +kernel
theorem dX6_bothGainByChange_85 : decode cX6_bothGainByChange 85 = .ok (.if_icmp .le 54, 3) := by decide +kernel
theorem dX6_bothGainByChange_88 : decode cX6_bothGainByChange 88 = .ok (.aload_n 0, 1) := by decide +kernel
theorem dX6_bothGainByChange_89 : decode cX6_bothGainByChange 89 = .ok (.getfield 10, 3) := by decide +kernel
theorem dX6_bothGainByChange_92 : decode cX6_bothGainByChange 92 = .ok (.getfield 35, 3) := by decide +kernel
theorem dX6_bothGainByChange_95 : decode cX6_bothGainByChange 95 = .ok (.iload_n 3, 1) := by decide +kernel
theorem dX6_bothGainByChange_96 : decode cX6_bothGainByChange 96 = .ok (.aload_n 0, 1) := by decide +kernel
theorem dX6_bothGainByChange_97 : decode cX6_bothGainByChange 97 = .ok (.getfield 29, 3) := by decide +kernel
theorem dX6_bothGainByChange_100 : decode cX6_bothGainByChange 100 = .ok (.invokevirtual 230, 3) := by decide +kernel
theorem dX6_bothGainByChange_103 : decode cX6_bothGainByChange 103 = .ok (.aload_n 0, 1) := by decide +kernel
theorem dX6_bothGainByChange_104 : decode cX6_bothGainByChange 104 = .ok (.getfield 10, 3) := by decide +kernel
theorem dX6_bothGainByChange_107 : decode cX6_bothGainByChange 107 = .ok (.getfield 35, 3) := by decide +kernel
theorem dX6_bothGainByChange_110 : decode cX6_bothGainByChange 110 = .ok (.iload_n 3, 1) := by decide +kernel
theorem dX6_bothGainByChange_111 : decode cX6_bothGainByChange 111 = .ok (.aload_n 1, 1) := by decide +kernel
theorem dX6_bothGainByChange_112 : decode cX6_bothGainByChange 112 = .ok (.invokevirtual 230, 3) := by decide +kernel
theorem dX6_bothGainByChange_115 : decode cX6_bothGainByChange 115 = .ok (.if_icmp .le 24, 3) := by decide +kernel
theorem dX6_bothGainByChange_118 : decode cX6_bothGainByChange 118 = .ok (.aload_n 0, 1) := by decide +kernel
theorem dX6_bothGainByChange_119 : decode cX6_bothGainByChange 119 = .ok (.getfield 10, 3) := by decide +kernel
theorem dX6_bothGainByChange_122 : decode cX6_bothGainByChange 122 = .ok (.getfield 35, 3) := by decide +kernel
theorem dX6_bothGainByChange_125 : decode cX6_bothGainByChange 125 = .ok (.aload_n 0, 1) := by decide +kernel
theorem dX6_bothGainByChange_126 : decode cX6_bothGainByChange 126 = .ok (.getfield 29, 3) := by decide +kernel
theorem dX6_bothGainByChange_129 : decode cX6_bothGainByChange 129 = .ok (.invokevirtual 137, 3) := by decide +kernel
theorem dX6_bothGainByChange_132 : decode cX6_bothGainByChange 132 = .ok (.ifCond .eq 7, 3) := by decide +kernel
theorem dX6_bothGainByChange_135 : decode cX6_bothGainByChange 135 = .ok (.iconst 1, 1) := by decide +kernel
theorem dX6_bothGainByChange_136 : decode cX6_bothGainByChange 136 = .ok (.goto 4, 3) := by decide +kernel
theorem dX6_bothGainByChange_139 : decode cX6_bothGainByChange 139 = .ok (.iconst 0, 1) := by decide +kernel
theorem dX6_bothGainByChange_140 : decode cX6_bothGainByChange 140 = .ok (.ireturn, 1) := by decide +kernel
theorem dX6_takesToldSeat_0 : decode cX6_takesToldSeat 0 = .ok (.iload_n 3, 1) := by decide +kernel
theorem dX6_takesToldSeat_1 : decode cX6_takesToldSeat 1 = .ok (.bipush 8, 2) := by decide +kernel
theorem dX6_takesToldSeat_3 : decode cX6_takesToldSeat 3 = .ok (.if_icmp .ne 20, 3) := by decide +kernel
theorem dX6_takesToldSeat_6 : decode cX6_takesToldSeat 6 = .ok (.aload_n 0, 1) := by decide +kernel
theorem dX6_takesToldSeat_7 : decode cX6_takesToldSeat 7 = .ok (.getfield 10, 3) := by decide +kernel
theorem dX6_takesToldSeat_10 : decode cX6_takesToldSeat 10 = .ok (.getfield 119, 3) := by decide +kernel
theorem dX6_takesToldSeat_13 : decode cX6_takesToldSeat 13 = .ok (.iload_n 1, 1) := by decide +kernel
theorem dX6_takesToldSeat_14 : decode cX6_takesToldSeat 14 = .ok (.aaload, 1) := by decide +kernel
theorem dX6_takesToldSeat_15 : decode cX6_takesToldSeat 15 = .ok (.getfield 144, 3) := by decide +kernel
theorem dX6_takesToldSeat_18 : decode cX6_takesToldSeat 18 = .ok (.iload_n 2, 1) := by decide +kernel
theorem dX6_takesToldSeat_19 : decode cX6_takesToldSeat 19 = .ok (.iconst (-1), 1) := by decide +kernel
theorem dX6_takesToldSeat_20 : decode cX6_takesToldSeat 20 = .ok (.iastore, 1) := by decide +kernel
theorem dX6_takesToldSeat_21 : decode cX6_takesToldSeat 21 = .ok (.iconst 1, 1) := by decide +kernel
theorem dX6_takesToldSeat_22 : decode cX6_takesToldSeat 22 = .ok (.ireturn, 1) := by decide +kernel
theorem dX6_takesToldSeat_23 : decode cX6_takesToldSeat 23 = .ok (.iload_n 3, 1) := by decide +kernel
theorem dX6_takesToldSeat_24 : decode cX6_takesToldSeat 24 = .ok (.invokestatic 91, 3) := by decide +kernel
theorem dX6_takesToldSeat_27 : decode cX6_takesToldSeat 27 = .ok (.ifCond .eq 16, 3) := by decide +kernel
theorem dX6_takesToldSeat_30 : decode cX6_takesToldSeat 30 = .ok (.aload_n 0, 1) := by decide +kernel
theorem dX6_takesToldSeat_31 : decode cX6_takesToldSeat 31 = .ok (.getfield 10, 3) := by decide +kernel
theorem dX6_takesToldSeat_34 : decode cX6_takesToldSeat 34 = .ok (.iload_n 1, 1) := by decide +kernel
theorem dX6_takesToldSeat_35 : decode cX6_takesToldSeat 35 = .ok (.iload_n 2, 1) := by decide +kernel
theorem dX6_takesToldSeat_36 : decode cX6_takesToldSeat 36 = .ok (.iload_n 3, 1) := by decide +kernel
theorem dX6_takesToldSeat_37 : decode cX6_takesToldSeat 37 = .ok (.invokevirtual 154, 3) := by decide +kernel
theorem dX6_takesToldSeat_40 : decode cX6_takesToldSeat 40 = .ok (.ifCond .eq 5, 3) := by decide +kernel
theorem dX6_takesToldSeat_43 : decode cX6_takesToldSeat 43 = .ok (.iconst 0, 1) := by decide +kernel
theorem dX6_takesToldSeat_44 : decode cX6_takesToldSeat 44 = .ok (.ireturn, 1) := by decide +kernel
theorem dX6_takesToldSeat_45 : decode cX6_takesToldSeat 45 = .ok (.aload_n 0, 1) := by decide +kernel
theorem dX6_takesToldSeat_46 : decode cX6_takesToldSeat 46 = .ok (.getfield 10, 3) := by decide +kernel
theorem dX6_takesToldSeat_49 : decode cX6_takesToldSeat 49 = .ok (.iload_n 3, 1) := by decide +kernel
theorem dX6_takesToldSeat_50 : decode cX6_takesToldSeat 50 = .ok (.iload_n 1, 1) := by decide +kernel
theorem dX6_takesToldSeat_51 : decode cX6_takesToldSeat 51 = .ok (.iload_n 2, 1) := by decide +kernel
theorem dX6_takesToldSeat_52 : decode cX6_takesToldSeat 52 = .ok (.invokevirtual 158, 3) := by decide +kernel
theorem dX6_takesToldSeat_55 : decode cX6_takesToldSeat 55 = .ok (.iconst 1, 1) := by decide +kernel
theorem dX6_takesToldSeat_56 : decode cX6_takesToldSeat 56 = .ok (.ireturn, 1) := by decide +kernel
