theorem dX0_init_0 : decode cX0_init 0 = .ok (.aload_n 0, 1) := by decide +kernel
theorem dX0_init_1 : decode cX0_init 1 = .ok (.invokespecial 3, 3) := by decide +kernel
theorem dX0_init_4 : decode cX0_init 4 = .ok (.aload_n 0, 1) := by decide +kernel
theorem dX0_init_5 : decode cX0_init 5 = .ok (.iconst 0, 1) := by decide +kernel
theorem dX0_init_6 : decode cX0_init 6 = .ok (.putfield 9, 3) := by decide +kernel
theorem dX0_init_9 : decode cX0_init 9 = .ok (.aload_n 0, 1) := by decide +kernel
theorem dX0_init_10 : decode cX0_init 10 = .ok (.iconst 1, 1) := by decide +kernel
theorem dX0_init_11 : decode cX0_init 11 = .ok (.putfield 15, 3) := by decide +kernel
theorem dX0_init_14 : decode cX0_init 14 = .ok (.aload_n 0, 1) := by decide +kernel
theorem dX0_init_15 : decode cX0_init 15 = .ok (.bipush 8, 2) := by decide +kernel
theorem dX0_init_17 : decode cX0_init 17 = .ok (.newarray .int, 2) := by decide +kernel
theorem dX0_init_19 : decode cX0_init 19 = .ok (.putfield 18, 3) := by decide +kernel
theorem dX0_init_22 : decode cX0_init 22 = .ok (.aload_n 0, 1) := by decide +kernel
theorem dX0_init_23 : decode cX0_init 23 = .ok (.getfield 18, 3) := by decide +kernel
theorem dX0_init_26 : decode cX0_init 26 = .ok (.iconst (-1), 1) := by decide +kernel
theorem dX0_init_27 : decode cX0_init 27 = .ok (.invokestatic 22, 3) := by decide +kernel
theorem dX0_init_30 : decode cX0_init 30 = .ok (.return_, 1) := by decide +kernel
theorem dX0_clear_0 : decode cX0_clear 0 = .ok (.aload_n 0, 1) := by decide +kernel
theorem dX0_clear_1 : decode cX0_clear 1 = .ok (.iload_n 1, 1) := by decide +kernel
theorem dX0_clear_2 : decode cX0_clear 2 = .ok (.putfield 9, 3) := by decide +kernel
theorem dX0_clear_5 : decode cX0_clear 5 = .ok (.aload_n 0, 1) := by decide +kernel
theorem dX0_clear_6 : decode cX0_clear 6 = .ok (.iload_n 2, 1) := by decide +kernel
theorem dX0_clear_7 : decode cX0_clear 7 = .ok (.putfield 15, 3) := by decide +kernel
theorem dX0_clear_10 : decode cX0_clear 10 = .ok (.aload_n 0, 1) := by decide +kernel
theorem dX0_clear_11 : decode cX0_clear 11 = .ok (.getfield 18, 3) := by decide +kernel
theorem dX0_clear_14 : decode cX0_clear 14 = .ok (.iconst (-1), 1) := by decide +kernel
theorem dX0_clear_15 : decode cX0_clear 15 = .ok (.invokestatic 22, 3) := by decide +kernel
theorem dX0_clear_18 : decode cX0_clear 18 = .ok (.return_, 1) := by decide +kernel
theorem dX0_become_0 : decode cX0_become 0 = .ok (.aload_n 0, 1) := by decide +kernel
theorem dX0_become_1 : decode cX0_become 1 = .ok (.aload_n 1, 1) := by decide +kernel
theorem dX0_become_2 : decode cX0_become 2 = .ok (.getfield 9, 3) := by decide +kernel
theorem dX0_become_5 : decode cX0_become 5 = .ok (.putfield 9, 3) := by decide +kernel
theorem dX0_become_8 : decode cX0_become 8 = .ok (.aload_n 0, 1) := by decide +kernel
theorem dX0_become_9 : decode cX0_become 9 = .ok (.aload_n 1, 1) := by decide +kernel
theorem dX0_become_10 : decode cX0_become 10 = .ok (.getfield 15, 3) := by decide +kernel
theorem dX0_become_13 : decode cX0_become 13 = .ok (.putfield 15, 3) := by decide +kernel
theorem dX0_become_16 : decode cX0_become 16 = .ok (.aload_n 1, 1) := by decide +kernel
theorem dX0_become_17 : decode cX0_become 17 = .ok (.getfield 18, 3) := by decide +kernel
theorem dX0_become_20 : decode cX0_become 20 = .ok (.iconst 0, 1) := by decide +kernel
theorem dX0_become_21 : decode cX0_become 21 = .ok (.aload_n 0, 1) := by decide +kernel
theorem dX0_become_22 : decode cX0_become 22 = .ok (.getfield 18, 3) := by decide +kernel
theorem dX0_become_25 : decode cX0_become 25 = .ok (.iconst 0, 1) := by decide +kernel
theorem dX0_become_26 : decode cX0_become 26 = .ok (.bipush 8, 2) := by decide +kernel
theorem dX0_become_28 : decode cX0_become 28 = .ok (.invokestatic 28, 3) := by decide +kernel
theorem dX0_become_31 : decode cX0_become 31 = .ok (.return_, 1) := by decide +kernel
theorem dX0_becomeMovedOn_0 : decode cX0_becomeMovedOn 0 = .ok (.aload_n 0, 1) := by decide +kernel
theorem dX0_becomeMovedOn_1 : decode cX0_becomeMovedOn 1 = .ok (.aload_n 1, 1) := by decide +kernel
theorem dX0_becomeMovedOn_2 : decode cX0_becomeMovedOn 2 = .ok (.getfield 9, 3) := by decide +kernel
theorem dX0_becomeMovedOn_5 : decode cX0_becomeMovedOn 5 = .ok (.aload_n 1, 1) := by decide +kernel
theorem dX0_becomeMovedOn_6 : decode cX0_becomeMovedOn 6 = .ok (.getfield 15, 3) := by decide +kernel
theorem dX0_becomeMovedOn_9 : decode cX0_becomeMovedOn 9 = .ok (.invokevirtual 34, 3) := by decide +kernel
theorem dX0_becomeMovedOn_12 : decode cX0_becomeMovedOn 12 = .ok (.iconst 0, 1) := by decide +kernel
theorem dX0_becomeMovedOn_13 : decode cX0_becomeMovedOn 13 = .ok (.istore_n 3, 1) := by decide +kernel
theorem dX0_becomeMovedOn_14 : decode cX0_becomeMovedOn 14 = .ok (.iload_n 3, 1) := by decide +kernel
theorem dX0_becomeMovedOn_15 : decode cX0_becomeMovedOn 15 = .ok (.aload_n 0, 1) := by decide +kernel
theorem dX0_becomeMovedOn_16 : decode cX0_becomeMovedOn 16 = .ok (.getfield 15, 3) := by decide +kernel
theorem dX0_becomeMovedOn_19 : decode cX0_becomeMovedOn 19 = .ok (.if_icmp .ge 28, 3) := by decide +kernel
theorem dX0_becomeMovedOn_22 : decode cX0_becomeMovedOn 22 = .ok (.aload_n 0, 1) := by decide +kernel
theorem dX0_becomeMovedOn_23 : decode cX0_becomeMovedOn 23 = .ok (.getfield 18, 3) := by decide +kernel
theorem dX0_becomeMovedOn_26 : decode cX0_becomeMovedOn 26 = .ok (.iload_n 3, 1) := by decide +kernel
theorem dX0_becomeMovedOn_27 : decode cX0_becomeMovedOn 27 = .ok (.iload_n 2, 1) := by decide +kernel
theorem dX0_becomeMovedOn_28 : decode cX0_becomeMovedOn 28 = .ok (.iadd, 1) := by decide +kernel
theorem dX0_becomeMovedOn_29 : decode cX0_becomeMovedOn 29 = .ok (.aload_n 0, 1) := by decide +kernel
theorem dX0_becomeMovedOn_30 : decode cX0_becomeMovedOn 30 = .ok (.getfield 15, 3) := by decide +kernel
theorem dX0_becomeMovedOn_33 : decode cX0_becomeMovedOn 33 = .ok (.irem, 1) := by decide +kernel
theorem dX0_becomeMovedOn_34 : decode cX0_becomeMovedOn 34 = .ok (.aload_n 1, 1) := by decide +kernel
theorem dX0_becomeMovedOn_35 : decode cX0_becomeMovedOn 35 = .ok (.getfield 18, 3) := by decide +kernel
theorem dX0_becomeMovedOn_38 : decode cX0_becomeMovedOn 38 = .ok (.iload_n 3, 1) := by decide +kernel
theorem dX0_becomeMovedOn_39 : decode cX0_becomeMovedOn 39 = .ok (.iaload, 1) := by decide +kernel
theorem dX0_becomeMovedOn_40 : decode cX0_becomeMovedOn 40 = .ok (.iastore, 1) := by decide +kernel
theorem dX0_becomeMovedOn_41 : decode cX0_becomeMovedOn 41 = .ok (.iinc 3 1, 3) := by decide +kernel
theorem dX0_becomeMovedOn_44 : decode cX0_becomeMovedOn 44 = .ok (.goto (-30), 3) := by decide +kernel
theorem dX0_becomeMovedOn_47 : decode cX0_becomeMovedOn 47 = .ok (.return_, 1) := by decide +kernel
theorem dX0_empty_0 : decode cX0_empty 0 = .ok (.aload_n 0, 1) := by decide +kernel
theorem dX0_empty_1 : decode cX0_empty 1 = .ok (.iload_n 1, 1) := by decide +kernel
theorem dX0_empty_2 : decode cX0_empty 2 = .ok (.invokevirtual 38, 3) := by decide +kernel
theorem dX0_empty_5 : decode cX0_empty 5 = .ok (.istore_n 2, 1) := by decide +kernel
theorem dX0_empty_6 : decode cX0_empty 6 = .ok (.iload_n 2, 1) := by decide +kernel
theorem dX0_empty_7 : decode cX0_empty 7 = .ok (.iconst (-1), 1) := by decide +kernel
theorem dX0_empty_8 : decode cX0_empty 8 = .ok (.if_icmp .eq 10, 3) := by decide +kernel
theorem dX0_empty_11 : decode cX0_empty 11 = .ok (.aload_n 0, 1) := by decide +kernel
theorem dX0_empty_12 : decode cX0_empty 12 = .ok (.getfield 18, 3) := by decide +kernel
theorem dX0_empty_15 : decode cX0_empty 15 = .ok (.iload_n 2, 1) := by decide +kernel
theorem dX0_empty_16 : decode cX0_empty 16 = .ok (.iconst (-1), 1) := by decide +kernel
theorem dX0_empty_17 : decode cX0_empty 17 = .ok (.iastore, 1) := by decide +kernel
theorem dX0_empty_18 : decode cX0_empty 18 = .ok (.return_, 1) := by decide +kernel
theorem dX0_seatOf_0 : decode cX0_seatOf 0 = .ok (.iconst 0, 1) := by decide +kernel
theorem dX0_seatOf_1 : decode cX0_seatOf 1 = .ok (.istore_n 2, 1) := by decide +kernel
theorem dX0_seatOf_2 : decode cX0_seatOf 2 = .ok (.iload_n 2, 1) := by decide +kernel
theorem dX0_seatOf_3 : decode cX0_seatOf 3 = .ok (.aload_n 0, 1) := by decide +kernel
theorem dX0_seatOf_4 : decode cX0_seatOf 4 = .ok (.getfield 15, 3) := by decide +kernel
theorem dX0_seatOf_7 : decode cX0_seatOf 7 = .ok (.if_icmp .ge 21, 3) := by decide +kernel
theorem dX0_seatOf_10 : decode cX0_seatOf 10 = .ok (.aload_n 0, 1) := by decide +kernel
theorem dX0_seatOf_11 : decode cX0_seatOf 11 = .ok (.getfield 18, 3) := by decide +kernel
theorem dX0_seatOf_14 : decode cX0_seatOf 14 = .ok (.iload_n 2, 1) := by decide +kernel
theorem dX0_seatOf_15 : decode cX0_seatOf 15 = .ok (.iaload, 1) := by decide +kernel
theorem dX0_seatOf_16 : decode cX0_seatOf 16 = .ok (.iload_n 1, 1) := by decide +kernel
theorem dX0_seatOf_17 : decode cX0_seatOf 17 = .ok (.if_icmp .ne 5, 3) := by decide +kernel
theorem dX0_seatOf_20 : decode cX0_seatOf 20 = .ok (.iload_n 2, 1) := by decide +kernel
theorem dX0_seatOf_21 : decode cX0_seatOf 21 = .ok (.ireturn, 1) := by decide +kernel
theorem dX0_seatOf_22 : decode cX0_seatOf 22 = .ok (.iinc 2 1, 3) := by decide +kernel
theorem dX0_seatOf_25 : decode cX0_seatOf 25 = .ok (.goto (-23), 3) := by decide +kernel
theorem dX0_seatOf_28 : decode cX0_seatOf 28 = .ok (.iconst (-1), 1) := by decide +kernel
theorem dX0_seatOf_29 : decode cX0_seatOf 29 = .ok (.ireturn, 1) := by decide +kernel
theorem dX0_howManySit_0 : decode cX0_howManySit 0 = .ok (.iconst 0, 1) := by decide +kernel
theorem dX0_howManySit_1 : decode cX0_howManySit 1 = .ok (.istore_n 1, 1) := by decide +kernel
theorem dX0_howManySit_2 : decode cX0_howManySit 2 = .ok (.iconst 0, 1) := by decide +kernel
theorem dX0_howManySit_3 : decode cX0_howManySit 3 = .ok (.istore_n 2, 1) := by decide +kernel
theorem dX0_howManySit_4 : decode cX0_howManySit 4 = .ok (.iload_n 2, 1) := by decide +kernel
theorem dX0_howManySit_5 : decode cX0_howManySit 5 = .ok (.aload_n 0, 1) := by decide +kernel
theorem dX0_howManySit_6 : decode cX0_howManySit 6 = .ok (.getfield 15, 3) := by decide +kernel
theorem dX0_howManySit_9 : decode cX0_howManySit 9 = .ok (.if_icmp .ge 22, 3) := by decide +kernel
theorem dX0_howManySit_12 : decode cX0_howManySit 12 = .ok (.aload_n 0, 1) := by decide +kernel
theorem dX0_howManySit_13 : decode cX0_howManySit 13 = .ok (.getfield 18, 3) := by decide +kernel
theorem dX0_howManySit_16 : decode cX0_howManySit 16 = .ok (.iload_n 2, 1) := by decide +kernel
theorem dX0_howManySit_17 : decode cX0_howManySit 17 = .ok (.iaload, 1) := by decide +kernel
theorem dX0_howManySit_18 : decode cX0_howManySit 18 = .ok (.iconst (-1), 1) := by decide +kernel
theorem dX0_howManySit_19 : decode cX0_howManySit 19 = .ok (.if_icmp .eq 6, 3) := by decide +kernel
theorem dX0_howManySit_22 : decode cX0_howManySit 22 = .ok (.iinc 1 1, 3) := by decide +kernel
theorem dX0_howManySit_25 : decode cX0_howManySit 25 = .ok (.iinc 2 1, 3) := by decide +kernel
theorem dX0_howManySit_28 : decode cX0_howManySit 28 = .ok (.goto (-24), 3) := by decide +kernel
theorem dX0_howManySit_31 : decode cX0_howManySit 31 = .ok (.iload_n 1, 1) := by decide +kernel
theorem dX0_howManySit_32 : decode cX0_howManySit 32 = .ok (.ireturn, 1) := by decide +kernel
theorem dX0_armOf_0 : decode cX0_armOf 0 = .ok (.iconst 2, 1) := by decide +kernel
theorem dX0_armOf_1 : decode cX0_armOf 1 = .ok (.iload_n 1, 1) := by decide +kernel
theorem dX0_armOf_2 : decode cX0_armOf 2 = .ok (.imul, 1) := by decide +kernel
theorem dX0_armOf_3 : decode cX0_armOf 3 = .ok (.aload_n 0, 1) := by decide +kernel
theorem dX0_armOf_4 : decode cX0_armOf 4 = .ok (.getfield 15, 3) := by decide +kernel
theorem dX0_armOf_7 : decode cX0_armOf 7 = .ok (.iconst 1, 1) := by decide +kernel
theorem dX0_armOf_8 : decode cX0_armOf 8 = .ok (.isub, 1) := by decide +kernel
theorem dX0_armOf_9 : decode cX0_armOf 9 = .ok (.isub, 1) := by decide +kernel
theorem dX0_armOf_10 : decode cX0_armOf 10 = .ok (.ireturn, 1) := by decide +kernel
theorem dX0_neighbour_0 : decode cX0_neighbour 0 = .ok (.getstatic 42, 3) := by decide +kernel
theorem dX0_neighbour_3 : decode cX0_neighbour 3 = .ok (.aload_n 0, 1) := by decide +kernel
theorem dX0_neighbour_4 : decode cX0_neighbour 4 = .ok (.getfield 9, 3) := by decide +kernel
theorem dX0_neighbour_7 : decode cX0_neighbour 7 = .ok (.iaload, 1) := by decide +kernel
theorem dX0_neighbour_8 : decode cX0_neighbour 8 = .ok (.istore_n 3, 1) := by decide +kernel
theorem dX0_neighbour_9 : decode cX0_neighbour 9 = .ok (.getstatic 45, 3) := by decide +kernel
theorem dX0_neighbour_12 : decode cX0_neighbour 12 = .ok (.aload_n 0, 1) := by decide +kernel
theorem dX0_neighbour_13 : decode cX0_neighbour 13 = .ok (.getfield 9, 3) := by decide +kernel
theorem dX0_neighbour_16 : decode cX0_neighbour 16 = .ok (.iaload, 1) := by decide +kernel
theorem dX0_neighbour_17 : decode cX0_neighbour 17 = .ok (.iconst 1, 1) := by decide +kernel
theorem dX0_neighbour_18 : decode cX0_neighbour 18 = .ok (.if_icmp .ne 7, 3) := by decide +kernel
theorem dX0_neighbour_21 : decode cX0_neighbour 21 = .ok (.iconst 1, 1) := by decide +kernel
theorem dX0_neighbour_22 : decode cX0_neighbour 22 = .ok (.goto 4, 3) := by decide +kernel
theorem dX0_neighbour_25 : decode cX0_neighbour 25 = .ok (.iconst 0, 1) := by decide +kernel
theorem dX0_neighbour_26 : decode cX0_neighbour 26 = .ok (.istore 4, 2) := by decide +kernel
theorem dX0_neighbour_28 : decode cX0_neighbour 28 = .ok (.iload_n 1, 1) := by decide +kernel
theorem dX0_neighbour_29 : decode cX0_neighbour 29 = .ok (.istore 5, 2) := by decide +kernel
theorem dX0_neighbour_31 : decode cX0_neighbour 31 = .ok (.iconst 0, 1) := by decide +kernel
theorem dX0_neighbour_32 : decode cX0_neighbour 32 = .ok (.istore 6, 2) := by decide +kernel
theorem dX0_neighbour_34 : decode cX0_neighbour 34 = .ok (.iload 6, 2) := by decide +kernel
theorem dX0_neighbour_36 : decode cX0_neighbour 36 = .ok (.iload_n 3, 1) := by decide +kernel
theorem dX0_neighbour_37 : decode cX0_neighbour 37 = .ok (.if_icmp .ge 94, 3) := by decide +kernel
theorem dX0_neighbour_40 : decode cX0_neighbour 40 = .ok (.iload 5, 2) := by decide +kernel
theorem dX0_neighbour_42 : decode cX0_neighbour 42 = .ok (.iload_n 2, 1) := by decide +kernel
theorem dX0_neighbour_43 : decode cX0_neighbour 43 = .ok (.iadd, 1) := by decide +kernel
theorem dX0_neighbour_44 : decode cX0_neighbour 44 = .ok (.istore 5, 2) := by decide +kernel
theorem dX0_neighbour_46 : decode cX0_neighbour 46 = .ok (.iload 4, 2) := by decide +kernel
theorem dX0_neighbour_48 : decode cX0_neighbour 48 = .ok (.ifCond .eq 19, 3) := by decide +kernel
theorem dX0_neighbour_51 : decode cX0_neighbour 51 = .ok (.iload 5, 2) := by decide +kernel
theorem dX0_neighbour_53 : decode cX0_neighbour 53 = .ok (.ifCond .ge 14, 3) := by decide +kernel
theorem dX0_neighbour_56 : decode cX0_neighbour 56 = .ok (.aload_n 0, 1) := by decide +kernel
theorem dX0_neighbour_57 : decode cX0_neighbour 57 = .ok (.getfield 15, 3) := by decide +kernel
theorem dX0_neighbour_60 : decode cX0_neighbour 60 = .ok (.iconst 1, 1) := by decide +kernel
theorem dX0_neighbour_61 : decode cX0_neighbour 61 = .ok (.isub, 1) := by decide +kernel
theorem dX0_neighbour_62 : decode cX0_neighbour 62 = .ok (.istore 5, 2) := by decide +kernel
theorem dX0_neighbour_64 : decode cX0_neighbour 64 = .ok (.goto 20, 3) := by decide +kernel
theorem dX0_neighbour_67 : decode cX0_neighbour 67 = .ok (.iload 4, 2) := by decide +kernel
theorem dX0_neighbour_69 : decode cX0_neighbour 69 = .ok (.ifCond .eq 15, 3) := by decide +kernel
theorem dX0_neighbour_72 : decode cX0_neighbour 72 = .ok (.iload 5, 2) := by decide +kernel
theorem dX0_neighbour_74 : decode cX0_neighbour 74 = .ok (.aload_n 0, 1) := by decide +kernel
theorem dX0_neighbour_75 : decode cX0_neighbour 75 = .ok (.getfield 15, 3) := by decide +kernel
theorem dX0_neighbour_78 : decode cX0_neighbour 78 = .ok (.if_icmp .lt 6, 3) := by decide +kernel
theorem dX0_neighbour_81 : decode cX0_neighbour 81 = .ok (.iconst 0, 1) := by decide +kernel
theorem dX0_neighbour_82 : decode cX0_neighbour 82 = .ok (.istore 5, 2) := by decide +kernel
theorem dX0_neighbour_84 : decode cX0_neighbour 84 = .ok (.iload 5, 2) := by decide +kernel
theorem dX0_neighbour_86 : decode cX0_neighbour 86 = .ok (.ifCond .lt 18, 3) := by decide +kernel
theorem dX0_neighbour_89 : decode cX0_neighbour 89 = .ok (.iload 5, 2) := by decide +kernel
theorem dX0_neighbour_91 : decode cX0_neighbour 91 = .ok (.aload_n 0, 1) := by decide +kernel
theorem dX0_neighbour_92 : decode cX0_neighbour 92 = .ok (.getfield 15, 3) := by decide +kernel
theorem dX0_neighbour_95 : decode cX0_neighbour 95 = .ok (.if_icmp .ge 9, 3) := by decide +kernel
theorem dX0_neighbour_98 : decode cX0_neighbour 98 = .ok (.iload 5, 2) := by decide +kernel
theorem dX0_neighbour_100 : decode cX0_neighbour 100 = .ok (.iload_n 1, 1) := by decide +kernel
theorem dX0_neighbour_101 : decode cX0_neighbour 101 = .ok (.if_icmp .ne 5, 3) := by decide +kernel
theorem dX0_neighbour_104 : decode cX0_neighbour 104 = .ok (.iconst (-1), 1) := by decide +kernel
theorem dX0_neighbour_105 : decode cX0_neighbour 105 = .ok (.ireturn, 1) := by decide +kernel
theorem dX0_neighbour_106 : decode cX0_neighbour 106 = .ok (.aload_n 0, 1) := by decide +kernel
theorem dX0_neighbour_107 : decode cX0_neighbour 107 = .ok (.getfield 18, 3) := by decide +kernel
theorem dX0_neighbour_110 : decode cX0_neighbour 110 = .ok (.iload 5, 2) := by decide +kernel
theorem dX0_neighbour_112 : decode cX0_neighbour 112 = .ok (.iaload, 1) := by decide +kernel
theorem dX0_neighbour_113 : decode cX0_neighbour 113 = .ok (.iconst (-1), 1) := by decide +kernel
theorem dX0_neighbour_114 : decode cX0_neighbour 114 = .ok (.if_icmp .eq 11, 3) := by decide +kernel
theorem dX0_neighbour_117 : decode cX0_neighbour 117 = .ok (.aload_n 0, 1) := by decide +kernel
theorem dX0_neighbour_118 : decode cX0_neighbour 118 = .ok (.getfield 18, 3) := by decide +kernel
theorem dX0_neighbour_121 : decode cX0_neighbour 121 = .ok (.iload 5, 2) := by decide +kernel
theorem dX0_neighbour_123 : decode cX0_neighbour 123 = .ok (.iaload, 1) := by decide +kernel
theorem dX0_neighbour_124 : decode cX0_neighbour 124 = .ok (.ireturn, 1) := by decide +kernel
theorem dX0_neighbour_125 : decode cX0_neighbour 125 = .ok (.iinc 6 1, 3) := by decide +kernel
theorem dX0_neighbour_128 : decode cX0_neighbour 128 = .ok (.goto (-94), 3) := by decide +kernel
theorem dX0_neighbour_131 : decode cX0_neighbour 131 = .ok (.iconst (-1), 1) := by decide +kernel
theorem dX0_neighbour_132 : decode cX0_neighbour 132 = .ok (.ireturn, 1) := by decide +kernel
theorem dX0_nextSeated_0 : decode cX0_nextSeated 0 = .ok (.iload_n 1, 1) := by decide +kernel
theorem dX0_nextSeated_1 : decode cX0_nextSeated 1 = .ok (.iload_n 2, 1) := by decide +kernel
theorem dX0_nextSeated_2 : decode cX0_nextSeated 2 = .ok (.iadd, 1) := by decide +kernel
theorem dX0_nextSeated_3 : decode cX0_nextSeated 3 = .ok (.istore_n 3, 1) := by decide +kernel
theorem dX0_nextSeated_4 : decode cX0_nextSeated 4 = .ok (.iload_n 3, 1) := by decide +kernel
theorem dX0_nextSeated_5 : decode cX0_nextSeated 5 = .ok (.ifCond .lt 11, 3) := by decide +kernel
theorem dX0_nextSeated_8 : decode cX0_nextSeated 8 = .ok (.iload_n 3, 1) := by decide +kernel
theorem dX0_nextSeated_9 : decode cX0_nextSeated 9 = .ok (.aload_n 0, 1) := by decide +kernel
theorem dX0_nextSeated_10 : decode cX0_nextSeated 10 = .ok (.getfield 15, 3) := by decide +kernel
theorem dX0_nextSeated_13 : decode cX0_nextSeated 13 = .ok (.if_icmp .lt 7, 3) := by decide +kernel
theorem dX0_nextSeated_16 : decode cX0_nextSeated 16 = .ok (.iconst (-1), 1) := by decide +kernel
theorem dX0_nextSeated_17 : decode cX0_nextSeated 17 = .ok (.goto 9, 3) := by decide +kernel
theorem dX0_nextSeated_20 : decode cX0_nextSeated 20 = .ok (.aload_n 0, 1) := by decide +kernel
theorem dX0_nextSeated_21 : decode cX0_nextSeated 21 = .ok (.getfield 18, 3) := by decide +kernel
theorem dX0_nextSeated_24 : decode cX0_nextSeated 24 = .ok (.iload_n 3, 1) := by decide +kernel
theorem dX0_nextSeated_25 : decode cX0_nextSeated 25 = .ok (.iaload, 1) := by decide +kernel
theorem dX0_nextSeated_26 : decode cX0_nextSeated 26 = .ok (.ireturn, 1) := by decide +kernel
theorem dX0_hasBetween_0 : decode cX0_hasBetween 0 = .ok (.iconst 0, 1) := by decide +kernel
theorem dX0_hasBetween_1 : decode cX0_hasBetween 1 = .ok (.istore_n 3, 1) := by decide +kernel
theorem dX0_hasBetween_2 : decode cX0_hasBetween 2 = .ok (.iload_n 3, 1) := by decide +kernel
theorem dX0_hasBetween_3 : decode cX0_hasBetween 3 = .ok (.aload_n 0, 1) := by decide +kernel
theorem dX0_hasBetween_4 : decode cX0_hasBetween 4 = .ok (.getfield 15, 3) := by decide +kernel
theorem dX0_hasBetween_7 : decode cX0_hasBetween 7 = .ok (.if_icmp .ge 61, 3) := by decide +kernel
theorem dX0_hasBetween_10 : decode cX0_hasBetween 10 = .ok (.aload_n 0, 1) := by decide +kernel
theorem dX0_hasBetween_11 : decode cX0_hasBetween 11 = .ok (.getfield 18, 3) := by decide +kernel
theorem dX0_hasBetween_14 : decode cX0_hasBetween 14 = .ok (.iload_n 3, 1) := by decide +kernel
theorem dX0_hasBetween_15 : decode cX0_hasBetween 15 = .ok (.iaload, 1) := by decide +kernel
theorem dX0_hasBetween_16 : decode cX0_hasBetween 16 = .ok (.iconst (-1), 1) := by decide +kernel
theorem dX0_hasBetween_17 : decode cX0_hasBetween 17 = .ok (.if_icmp .eq 45, 3) := by decide +kernel
theorem dX0_hasBetween_20 : decode cX0_hasBetween 20 = .ok (.aload_n 0, 1) := by decide +kernel
theorem dX0_hasBetween_21 : decode cX0_hasBetween 21 = .ok (.iload_n 3, 1) := by decide +kernel
theorem dX0_hasBetween_22 : decode cX0_hasBetween 22 = .ok (.iconst (-1), 1) := by decide +kernel
theorem dX0_hasBetween_23 : decode cX0_hasBetween 23 = .ok (.invokevirtual 48, 3) := by decide +kernel
theorem dX0_hasBetween_26 : decode cX0_hasBetween 26 = .ok (.istore 4, 2) := by decide +kernel
theorem dX0_hasBetween_28 : decode cX0_hasBetween 28 = .ok (.aload_n 0, 1) := by decide +kernel
theorem dX0_hasBetween_29 : decode cX0_hasBetween 29 = .ok (.iload_n 3, 1) := by decide +kernel
theorem dX0_hasBetween_30 : decode cX0_hasBetween 30 = .ok (.iconst 1, 1) := by decide +kernel
theorem dX0_hasBetween_31 : decode cX0_hasBetween 31 = .ok (.invokevirtual 48, 3) := by decide +kernel
theorem dX0_hasBetween_34 : decode cX0_hasBetween 34 = .ok (.istore 5, 2) := by decide +kernel
theorem dX0_hasBetween_36 : decode cX0_hasBetween 36 = .ok (.iload 4, 2) := by decide +kernel
theorem dX0_hasBetween_38 : decode cX0_hasBetween 38 = .ok (.iload_n 1, 1) := by decide +kernel
theorem dX0_hasBetween_39 : decode cX0_hasBetween 39 = .ok (.if_icmp .ne 9, 3) := by decide +kernel
theorem dX0_hasBetween_42 : decode cX0_hasBetween 42 = .ok (.iload 5, 2) := by decide +kernel
theorem dX0_hasBetween_44 : decode cX0_hasBetween 44 = .ok (.iload_n 2, 1) := by decide +kernel
theorem dX0_hasBetween_45 : decode cX0_hasBetween 45 = .ok (.if_icmp .eq 15, 3) := by decide +kernel
theorem dX0_hasBetween_48 : decode cX0_hasBetween 48 = .ok (.iload 4, 2) := by decide +kernel
theorem dX0_hasBetween_50 : decode cX0_hasBetween 50 = .ok (.iload_n 2, 1) := by decide +kernel
theorem dX0_hasBetween_51 : decode cX0_hasBetween 51 = .ok (.if_icmp .ne 11, 3) := by decide +kernel
theorem dX0_hasBetween_54 : decode cX0_hasBetween 54 = .ok (.iload 5, 2) := by decide +kernel
theorem dX0_hasBetween_56 : decode cX0_hasBetween 56 = .ok (.iload_n 1, 1) := by decide +kernel
theorem dX0_hasBetween_57 : decode cX0_hasBetween 57 = .ok (.if_icmp .ne 5, 3) := by decide +kernel
theorem dX0_hasBetween_60 : decode cX0_hasBetween 60 = .ok (.iconst 1, 1) := by decide +kernel
theorem dX0_hasBetween_61 : decode cX0_hasBetween 61 = .ok (.ireturn, 1) := by decide +kernel
theorem dX0_hasBetween_62 : decode cX0_hasBetween 62 = .ok (.iinc 3 1, 3) := by decide +kernel
theorem dX0_hasBetween_65 : decode cX0_hasBetween 65 = .ok (.goto (-63), 3) := by decide +kernel
theorem dX0_hasBetween_68 : decode cX0_hasBetween 68 = .ok (.iconst 0, 1) := by decide +kernel
theorem dX0_hasBetween_69 : decode cX0_hasBetween 69 = .ok (.ireturn, 1) := by decide +kernel
theorem dX1_init_0 : decode cX1_init 0 = .ok (.aload_n 0, 1) := by decide +kernel
theorem dX1_init_1 : decode cX1_init 1 = .ok (.invokespecial 3, 3) := by decide +kernel
theorem dX1_init_4 : decode cX1_init 4 = .ok (.aload_n 0, 1) := by decide +kernel
theorem dX1_init_5 : decode cX1_init 5 = .ok (.bipush 64, 2) := by decide +kernel
theorem dX1_init_7 : decode cX1_init 7 = .ok (.newarray .int, 2) := by decide +kernel
theorem dX1_init_9 : decode cX1_init 9 = .ok (.putfield 9, 3) := by decide +kernel
theorem dX1_init_12 : decode cX1_init 12 = .ok (.aload_n 0, 1) := by decide +kernel
theorem dX1_init_13 : decode cX1_init 13 = .ok (.bipush 8, 2) := by decide +kernel
theorem dX1_init_15 : decode cX1_init 15 = .ok (.newarray .int, 2) := by decide +kernel
theorem dX1_init_17 : decode cX1_init 17 = .ok (.putfield 15, 3) := by decide +kernel
theorem dX1_init_20 : decode cX1_init 20 = .ok (.aload_n 0, 1) := by decide +kernel
theorem dX1_init_21 : decode cX1_init 21 = .ok (.iconst 0, 1) := by decide +kernel
theorem dX1_init_22 : decode cX1_init 22 = .ok (.putfield 18, 3) := by decide +kernel
theorem dX1_init_25 : decode cX1_init 25 = .ok (.aload_n 0, 1) := by decide +kernel
theorem dX1_init_26 : decode cX1_init 26 = .ok (.bipush 50, 2) := by decide +kernel
theorem dX1_init_28 : decode cX1_init 28 = .ok (.putfield 22, 3) := by decide +kernel
theorem dX1_init_31 : decode cX1_init 31 = .ok (.aload_n 0, 1) := by decide +kernel
theorem dX1_init_32 : decode cX1_init 32 = .ok (.getfield 15, 3) := by decide +kernel
theorem dX1_init_35 : decode cX1_init 35 = .ok (.bipush 10, 2) := by decide +kernel
theorem dX1_init_37 : decode cX1_init 37 = .ok (.invokestatic 26, 3) := by decide +kernel
theorem dX1_init_40 : decode cX1_init 40 = .ok (.return_, 1) := by decide +kernel
theorem dX1_become_0 : decode cX1_become 0 = .ok (.aload_n 1, 1) := by decide +kernel
theorem dX1_become_1 : decode cX1_become 1 = .ok (.getfield 9, 3) := by decide +kernel
theorem dX1_become_4 : decode cX1_become 4 = .ok (.iconst 0, 1) := by decide +kernel
theorem dX1_become_5 : decode cX1_become 5 = .ok (.aload_n 0, 1) := by decide +kernel
theorem dX1_become_6 : decode cX1_become 6 = .ok (.getfield 9, 3) := by decide +kernel
theorem dX1_become_9 : decode cX1_become 9 = .ok (.iconst 0, 1) := by decide +kernel
theorem dX1_become_10 : decode cX1_become 10 = .ok (.bipush 64, 2) := by decide +kernel
theorem dX1_become_12 : decode cX1_become 12 = .ok (.invokestatic 32, 3) := by decide +kernel
theorem dX1_become_15 : decode cX1_become 15 = .ok (.aload_n 1, 1) := by decide +kernel
theorem dX1_become_16 : decode cX1_become 16 = .ok (.getfield 15, 3) := by decide +kernel
theorem dX1_become_19 : decode cX1_become 19 = .ok (.iconst 0, 1) := by decide +kernel
theorem dX1_become_20 : decode cX1_become 20 = .ok (.aload_n 0, 1) := by decide +kernel
theorem dX1_become_21 : decode cX1_become 21 = .ok (.getfield 15, 3) := by decide +kernel
theorem dX1_become_24 : decode cX1_become 24 = .ok (.iconst 0, 1) := by decide +kernel
theorem dX1_become_25 : decode cX1_become 25 = .ok (.bipush 8, 2) := by decide +kernel
theorem dX1_become_27 : decode cX1_become 27 = .ok (.invokestatic 32, 3) := by decide +kernel
theorem dX1_become_30 : decode cX1_become 30 = .ok (.aload_n 0, 1) := by decide +kernel
theorem dX1_become_31 : decode cX1_become 31 = .ok (.aload_n 1, 1) := by decide +kernel
theorem dX1_become_32 : decode cX1_become 32 = .ok (.getfield 18, 3) := by decide +kernel
theorem dX1_become_35 : decode cX1_become 35 = .ok (.putfield 18, 3) := by decide +kernel
theorem dX1_become_38 : decode cX1_become 38 = .ok (.aload_n 0, 1) := by decide +kernel
theorem dX1_become_39 : decode cX1_become 39 = .ok (.aload_n 1, 1) := by decide +kernel
theorem dX1_become_40 : decode cX1_become 40 = .ok (.getfield 22, 3) := by decide +kernel
theorem dX1_become_43 : decode cX1_become 43 = .ok (.putfield 22, 3) := by decide +kernel
theorem dX1_become_46 : decode cX1_become 46 = .ok (.return_, 1) := by decide +kernel
theorem dX1_bondOf_0 : decode cX1_bondOf 0 = .ok (.aload_n 0, 1) := by decide +kernel
theorem dX1_bondOf_1 : decode cX1_bondOf 1 = .ok (.getfield 9, 3) := by decide +kernel
theorem dX1_bondOf_4 : decode cX1_bondOf 4 = .ok (.bipush 8, 2) := by decide +kernel
theorem dX1_bondOf_6 : decode cX1_bondOf 6 = .ok (.iload_n 1, 1) := by decide +kernel
theorem dX1_bondOf_7 : decode cX1_bondOf 7 = .ok (.imul, 1) := by decide +kernel
theorem dX1_bondOf_8 : decode cX1_bondOf 8 = .ok (.iload_n 2, 1) := by decide +kernel
theorem dX1_bondOf_9 : decode cX1_bondOf 9 = .ok (.iadd, 1) := by decide +kernel
theorem dX1_bondOf_10 : decode cX1_bondOf 10 = .ok (.iaload, 1) := by decide +kernel
theorem dX1_bondOf_11 : decode cX1_bondOf 11 = .ok (.ireturn, 1) := by decide +kernel
theorem dX1_tie_0 : decode cX1_tie 0 = .ok (.aload_n 0, 1) := by decide +kernel
theorem dX1_tie_1 : decode cX1_tie 1 = .ok (.getfield 9, 3) := by decide +kernel
theorem dX1_tie_4 : decode cX1_tie 4 = .ok (.bipush 8, 2) := by decide +kernel
theorem dX1_tie_6 : decode cX1_tie 6 = .ok (.iload_n 1, 1) := by decide +kernel
theorem dX1_tie_7 : decode cX1_tie 7 = .ok (.imul, 1) := by decide +kernel
theorem dX1_tie_8 : decode cX1_tie 8 = .ok (.iload_n 2, 1) := by decide +kernel
theorem dX1_tie_9 : decode cX1_tie 9 = .ok (.iadd, 1) := by decide +kernel
theorem dX1_tie_10 : decode cX1_tie 10 = .ok (.iload_n 3, 1) := by decide +kernel
theorem dX1_tie_11 : decode cX1_tie 11 = .ok (.iastore, 1) := by decide +kernel
theorem dX1_tie_12 : decode cX1_tie 12 = .ok (.aload_n 0, 1) := by decide +kernel
theorem dX1_tie_13 : decode cX1_tie 13 = .ok (.getfield 9, 3) := by decide +kernel
theorem dX1_tie_16 : decode cX1_tie 16 = .ok (.bipush 8, 2) := by decide +kernel
theorem dX1_tie_18 : decode cX1_tie 18 = .ok (.iload_n 2, 1) := by decide +kernel
theorem dX1_tie_19 : decode cX1_tie 19 = .ok (.imul, 1) := by decide +kernel
theorem dX1_tie_20 : decode cX1_tie 20 = .ok (.iload_n 1, 1) := by decide +kernel
theorem dX1_tie_21 : decode cX1_tie 21 = .ok (.iadd, 1) := by decide +kernel
theorem dX1_tie_22 : decode cX1_tie 22 = .ok (.iload_n 3, 1) := by decide +kernel
theorem dX1_tie_23 : decode cX1_tie 23 = .ok (.iastore, 1) := by decide +kernel
theorem dX1_tie_24 : decode cX1_tie 24 = .ok (.return_, 1) := by decide +kernel
theorem dX1_areFriends_0 : decode cX1_areFriends 0 = .ok (.iload_n 1, 1) := by decide +kernel
theorem dX1_areFriends_1 : decode cX1_areFriends 1 = .ok (.iconst (-1), 1) := by decide +kernel
theorem dX1_areFriends_2 : decode cX1_areFriends 2 = .ok (.if_icmp .eq 8, 3) := by decide +kernel
theorem dX1_areFriends_5 : decode cX1_areFriends 5 = .ok (.iload_n 2, 1) := by decide +kernel
theorem dX1_areFriends_6 : decode cX1_areFriends 6 = .ok (.iconst (-1), 1) := by decide +kernel
theorem dX1_areFriends_7 : decode cX1_areFriends 7 = .ok (.if_icmp .ne 5, 3) := by decide +kernel
theorem dX1_areFriends_10 : decode cX1_areFriends 10 = .ok (.iconst 0, 1) := by decide +kernel
theorem dX1_areFriends_11 : decode cX1_areFriends 11 = .ok (.ireturn, 1) := by decide +kernel
theorem dX1_areFriends_12 : decode cX1_areFriends 12 = .ok (.aload_n 0, 1) := by decide +kernel
theorem dX1_areFriends_13 : decode cX1_areFriends 13 = .ok (.iload_n 1, 1) := by decide +kernel
theorem dX1_areFriends_14 : decode cX1_areFriends 14 = .ok (.iload_n 2, 1) := by decide +kernel
theorem dX1_areFriends_15 : decode cX1_areFriends 15 = .ok (.invokevirtual 38, 3) := by decide +kernel
theorem dX1_areFriends_18 : decode cX1_areFriends 18 = .ok (.istore_n 3, 1) := by decide +kernel
theorem dX1_areFriends_19 : decode cX1_areFriends 19 = .ok (.iload_n 3, 1) := by decide +kernel
theorem dX1_areFriends_20 : decode cX1_areFriends 20 = .ok (.iconst 1, 1) := by decide +kernel
theorem dX1_areFriends_21 : decode cX1_areFriends 21 = .ok (.if_icmp .eq 15, 3) := by decide +kernel
theorem dX1_areFriends_24 : decode cX1_areFriends 24 = .ok (.iload_n 3, 1) := by decide +kernel
theorem dX1_areFriends_25 : decode cX1_areFriends 25 = .ok (.iconst 2, 1) := by decide +kernel
theorem dX1_areFriends_26 : decode cX1_areFriends 26 = .ok (.if_icmp .ne 14, 3) := by decide +kernel
theorem dX1_areFriends_29 : decode cX1_areFriends 29 = .ok (.aload_n 0, 1) := by decide +kernel
theorem dX1_areFriends_30 : decode cX1_areFriends 30 = .ok (.getfield 18, 3) := by decide +kernel
theorem dX1_areFriends_33 : decode cX1_areFriends 33 = .ok (.ifCond .eq 7, 3) := by decide +kernel
theorem dX1_areFriends_36 : decode cX1_areFriends 36 = .ok (.iconst 1, 1) := by decide +kernel
theorem dX1_areFriends_37 : decode cX1_areFriends 37 = .ok (.goto 4, 3) := by decide +kernel
theorem dX1_areFriends_40 : decode cX1_areFriends 40 = .ok (.iconst 0, 1) := by decide +kernel
theorem dX1_areFriends_41 : decode cX1_areFriends 41 = .ok (.ireturn, 1) := by decide +kernel
theorem dX1_friendsOf_0 : decode cX1_friendsOf 0 = .ok (.iconst 0, 1) := by decide +kernel
theorem dX1_friendsOf_1 : decode cX1_friendsOf 1 = .ok (.istore_n 2, 1) := by decide +kernel
theorem dX1_friendsOf_2 : decode cX1_friendsOf 2 = .ok (.iconst 0, 1) := by decide +kernel
theorem dX1_friendsOf_3 : decode cX1_friendsOf 3 = .ok (.istore_n 3, 1) := by decide +kernel
theorem dX1_friendsOf_4 : decode cX1_friendsOf 4 = .ok (.iload_n 3, 1) := by decide +kernel
theorem dX1_friendsOf_5 : decode cX1_friendsOf 5 = .ok (.bipush 8, 2) := by decide +kernel
theorem dX1_friendsOf_7 : decode cX1_friendsOf 7 = .ok (.if_icmp .ge 24, 3) := by decide +kernel
theorem dX1_friendsOf_10 : decode cX1_friendsOf 10 = .ok (.aload_n 0, 1) := by decide +kernel
theorem dX1_friendsOf_11 : decode cX1_friendsOf 11 = .ok (.iload_n 1, 1) := by decide +kernel
theorem dX1_friendsOf_12 : decode cX1_friendsOf 12 = .ok (.iload_n 3, 1) := by decide +kernel
theorem dX1_friendsOf_13 : decode cX1_friendsOf 13 = .ok (.invokevirtual 42, 3) := by decide +kernel
theorem dX1_friendsOf_16 : decode cX1_friendsOf 16 = .ok (.ifCond .eq 9, 3) := by decide +kernel
theorem dX1_friendsOf_19 : decode cX1_friendsOf 19 = .ok (.iload_n 2, 1) := by decide +kernel
theorem dX1_friendsOf_20 : decode cX1_friendsOf 20 = .ok (.iconst 1, 1) := by decide +kernel
theorem dX1_friendsOf_21 : decode cX1_friendsOf 21 = .ok (.iload_n 3, 1) := by decide +kernel
theorem dX1_friendsOf_22 : decode cX1_friendsOf 22 = .ok (.ishl, 1) := by decide +kernel
theorem dX1_friendsOf_23 : decode cX1_friendsOf 23 = .ok (.ior, 1) := by decide +kernel
theorem dX1_friendsOf_24 : decode cX1_friendsOf 24 = .ok (.istore_n 2, 1) := by decide +kernel
theorem dX1_friendsOf_25 : decode cX1_friendsOf 25 = .ok (.iinc 3 1, 3) := by decide +kernel
theorem dX1_friendsOf_28 : decode cX1_friendsOf 28 = .ok (.goto (-24), 3) := by decide +kernel
theorem dX1_friendsOf_31 : decode cX1_friendsOf 31 = .ok (.iload_n 2, 1) := by decide +kernel
theorem dX1_friendsOf_32 : decode cX1_friendsOf 32 = .ok (.ireturn, 1) := by decide +kernel
theorem dX1_pairsThatCount_0 : decode cX1_pairsThatCount 0 = .ok (.iconst 0, 1) := by decide +kernel
theorem dX1_pairsThatCount_1 : decode cX1_pairsThatCount 1 = .ok (.istore_n 1, 1) := by decide +kernel
theorem dX1_pairsThatCount_2 : decode cX1_pairsThatCount 2 = .ok (.iconst 0, 1) := by decide +kernel
theorem dX1_pairsThatCount_3 : decode cX1_pairsThatCount 3 = .ok (.istore_n 2, 1) := by decide +kernel
theorem dX1_pairsThatCount_4 : decode cX1_pairsThatCount 4 = .ok (.iload_n 2, 1) := by decide +kernel
theorem dX1_pairsThatCount_5 : decode cX1_pairsThatCount 5 = .ok (.bipush 8, 2) := by decide +kernel
theorem dX1_pairsThatCount_7 : decode cX1_pairsThatCount 7 = .ok (.if_icmp .ge 20, 3) := by decide +kernel
theorem dX1_pairsThatCount_10 : decode cX1_pairsThatCount 10 = .ok (.iload_n 1, 1) := by decide +kernel
theorem dX1_pairsThatCount_11 : decode cX1_pairsThatCount 11 = .ok (.aload_n 0, 1) := by decide +kernel
theorem dX1_pairsThatCount_12 : decode cX1_pairsThatCount 12 = .ok (.iload_n 2, 1) := by decide +kernel
theorem dX1_pairsThatCount_13 : decode cX1_pairsThatCount 13 = .ok (.invokevirtual 46, 3) := by decide +kernel
theorem dX1_pairsThatCount_16 : decode cX1_pairsThatCount 16 = .ok (.invokestatic 50, 3) := by decide +kernel
theorem dX1_pairsThatCount_19 : decode cX1_pairsThatCount 19 = .ok (.iadd, 1) := by decide +kernel
theorem dX1_pairsThatCount_20 : decode cX1_pairsThatCount 20 = .ok (.istore_n 1, 1) := by decide +kernel
theorem dX1_pairsThatCount_21 : decode cX1_pairsThatCount 21 = .ok (.iinc 2 1, 3) := by decide +kernel
theorem dX1_pairsThatCount_24 : decode cX1_pairsThatCount 24 = .ok (.goto (-20), 3) := by decide +kernel
theorem dX1_pairsThatCount_27 : decode cX1_pairsThatCount 27 = .ok (.iload_n 1, 1) := by decide +kernel
theorem dX1_pairsThatCount_28 : decode cX1_pairsThatCount 28 = .ok (.iconst 2, 1) := by decide +kernel
theorem dX1_pairsThatCount_29 : decode cX1_pairsThatCount 29 = .ok (.idiv, 1) := by decide +kernel
theorem dX1_pairsThatCount_30 : decode cX1_pairsThatCount 30 = .ok (.ireturn, 1) := by decide +kernel
theorem dX1_secretPairs_0 : decode cX1_secretPairs 0 = .ok (.iconst 0, 1) := by decide +kernel
theorem dX1_secretPairs_1 : decode cX1_secretPairs 1 = .ok (.istore_n 1, 1) := by decide +kernel
theorem dX1_secretPairs_2 : decode cX1_secretPairs 2 = .ok (.iconst 0, 1) := by decide +kernel
theorem dX1_secretPairs_3 : decode cX1_secretPairs 3 = .ok (.istore_n 2, 1) := by decide +kernel
theorem dX1_secretPairs_4 : decode cX1_secretPairs 4 = .ok (.iload_n 2, 1) := by decide +kernel
theorem dX1_secretPairs_5 : decode cX1_secretPairs 5 = .ok (.bipush 64, 2) := by decide +kernel
theorem dX1_secretPairs_7 : decode cX1_secretPairs 7 = .ok (.if_icmp .ge 22, 3) := by decide +kernel
theorem dX1_secretPairs_10 : decode cX1_secretPairs 10 = .ok (.aload_n 0, 1) := by decide +kernel
theorem dX1_secretPairs_11 : decode cX1_secretPairs 11 = .ok (.getfield 9, 3) := by decide +kernel
theorem dX1_secretPairs_14 : decode cX1_secretPairs 14 = .ok (.iload_n 2, 1) := by decide +kernel
theorem dX1_secretPairs_15 : decode cX1_secretPairs 15 = .ok (.iaload, 1) := by decide +kernel
theorem dX1_secretPairs_16 : decode cX1_secretPairs 16 = .ok (.iconst 2, 1) := by decide +kernel
theorem dX1_secretPairs_17 : decode cX1_secretPairs 17 = .ok (.if_icmp .ne 6, 3) := by decide +kernel
theorem dX1_secretPairs_20 : decode cX1_secretPairs 20 = .ok (.iinc 1 1, 3) := by decide +kernel
theorem dX1_secretPairs_23 : decode cX1_secretPairs 23 = .ok (.iinc 2 1, 3) := by decide +kernel
theorem dX1_secretPairs_26 : decode cX1_secretPairs 26 = .ok (.goto (-22), 3) := by decide +kernel
theorem dX1_secretPairs_29 : decode cX1_secretPairs 29 = .ok (.iload_n 1, 1) := by decide +kernel
theorem dX1_secretPairs_30 : decode cX1_secretPairs 30 = .ok (.iconst 2, 1) := by decide +kernel
theorem dX1_secretPairs_31 : decode cX1_secretPairs 31 = .ok (.idiv, 1) := by decide +kernel
theorem dX1_secretPairs_32 : decode cX1_secretPairs 32 = .ok (.ireturn, 1) := by decide +kernel
theorem dX1_firstWrong_0 : decode cX1_firstWrong 0 = .ok (.iload_n 2, 1) := by decide +kernel
theorem dX1_firstWrong_1 : decode cX1_firstWrong 1 = .ok (.istore 4, 2) := by decide +kernel
theorem dX1_firstWrong_3 : decode cX1_firstWrong 3 = .ok (.iload 4, 2) := by decide +kernel
theorem dX1_firstWrong_5 : decode cX1_firstWrong 5 = .ok (.iload_n 3, 1) := by decide +kernel
theorem dX1_firstWrong_6 : decode cX1_firstWrong 6 = .ok (.if_icmp .ge 44, 3) := by decide +kernel
theorem dX1_firstWrong_9 : decode cX1_firstWrong 9 = .ok (.aload_n 1, 1) := by decide +kernel
theorem dX1_firstWrong_10 : decode cX1_firstWrong 10 = .ok (.getfield 55, 3) := by decide +kernel
theorem dX1_firstWrong_13 : decode cX1_firstWrong 13 = .ok (.iload 4, 2) := by decide +kernel
theorem dX1_firstWrong_15 : decode cX1_firstWrong 15 = .ok (.iaload, 1) := by decide +kernel
theorem dX1_firstWrong_16 : decode cX1_firstWrong 16 = .ok (.iconst (-1), 1) := by decide +kernel
theorem dX1_firstWrong_17 : decode cX1_firstWrong 17 = .ok (.if_icmp .eq 27, 3) := by decide +kernel
theorem dX1_firstWrong_20 : decode cX1_firstWrong 20 = .ok (.aload_n 0, 1) := by decide +kernel
theorem dX1_firstWrong_21 : decode cX1_firstWrong 21 = .ok (.aload_n 1, 1) := by decide +kernel
theorem dX1_firstWrong_22 : decode cX1_firstWrong 22 = .ok (.iload 4, 2) := by decide +kernel
theorem dX1_firstWrong_24 : decode cX1_firstWrong 24 = .ok (.iconst (-1), 1) := by decide +kernel
theorem dX1_firstWrong_25 : decode cX1_firstWrong 25 = .ok (.invokevirtual 60, 3) := by decide +kernel
theorem dX1_firstWrong_28 : decode cX1_firstWrong 28 = .ok (.aload_n 1, 1) := by decide +kernel
theorem dX1_firstWrong_29 : decode cX1_firstWrong 29 = .ok (.iload 4, 2) := by decide +kernel
theorem dX1_firstWrong_31 : decode cX1_firstWrong 31 = .ok (.iconst 1, 1) := by decide +kernel
theorem dX1_firstWrong_32 : decode cX1_firstWrong 32 = .ok (.invokevirtual 60, 3) := by decide +kernel
theorem dX1_firstWrong_35 : decode cX1_firstWrong 35 = .ok (.invokevirtual 42, 3) := by decide +kernel
theorem dX1_firstWrong_38 : decode cX1_firstWrong 38 = .ok (.ifCond .eq 6, 3) := by decide +kernel
theorem dX1_firstWrong_41 : decode cX1_firstWrong 41 = .ok (.iload 4, 2) := by decide +kernel
theorem dX1_firstWrong_43 : decode cX1_firstWrong 43 = .ok (.ireturn, 1) := by decide +kernel
theorem dX1_firstWrong_44 : decode cX1_firstWrong 44 = .ok (.iinc 4 1, 3) := by decide +kernel
theorem dX1_firstWrong_47 : decode cX1_firstWrong 47 = .ok (.goto (-44), 3) := by decide +kernel
theorem dX1_firstWrong_50 : decode cX1_firstWrong 50 = .ok (.iconst (-1), 1) := by decide +kernel
theorem dX1_firstWrong_51 : decode cX1_firstWrong 51 = .ok (.ireturn, 1) := by decide +kernel
theorem dX1_listsOf_0 : decode cX1_listsOf 0 = .ok (.iconst 0, 1) := by decide +kernel
theorem dX1_listsOf_1 : decode cX1_listsOf 1 = .ok (.istore_n 2, 1) := by decide +kernel
theorem dX1_listsOf_2 : decode cX1_listsOf 2 = .ok (.iconst 0, 1) := by decide +kernel
theorem dX1_listsOf_3 : decode cX1_listsOf 3 = .ok (.istore_n 3, 1) := by decide +kernel
theorem dX1_listsOf_4 : decode cX1_listsOf 4 = .ok (.iload_n 3, 1) := by decide +kernel
theorem dX1_listsOf_5 : decode cX1_listsOf 5 = .ok (.aload_n 1, 1) := by decide +kernel
theorem dX1_listsOf_6 : decode cX1_listsOf 6 = .ok (.getfield 63, 3) := by decide +kernel
theorem dX1_listsOf_9 : decode cX1_listsOf 9 = .ok (.if_icmp .ge 39, 3) := by decide +kernel
theorem dX1_listsOf_12 : decode cX1_listsOf 12 = .ok (.aload_n 1, 1) := by decide +kernel
theorem dX1_listsOf_13 : decode cX1_listsOf 13 = .ok (.getfield 55, 3) := by decide +kernel
theorem dX1_listsOf_16 : decode cX1_listsOf 16 = .ok (.iload_n 3, 1) := by decide +kernel
theorem dX1_listsOf_17 : decode cX1_listsOf 17 = .ok (.iaload, 1) := by decide +kernel
theorem dX1_listsOf_18 : decode cX1_listsOf 18 = .ok (.iconst (-1), 1) := by decide +kernel
theorem dX1_listsOf_19 : decode cX1_listsOf 19 = .ok (.if_icmp .eq 23, 3) := by decide +kernel
theorem dX1_listsOf_22 : decode cX1_listsOf 22 = .ok (.iload_n 2, 1) := by decide +kernel
theorem dX1_listsOf_23 : decode cX1_listsOf 23 = .ok (.aload_n 0, 1) := by decide +kernel
theorem dX1_listsOf_24 : decode cX1_listsOf 24 = .ok (.getfield 15, 3) := by decide +kernel
theorem dX1_listsOf_27 : decode cX1_listsOf 27 = .ok (.aload_n 1, 1) := by decide +kernel
theorem dX1_listsOf_28 : decode cX1_listsOf 28 = .ok (.getfield 55, 3) := by decide +kernel
theorem dX1_listsOf_31 : decode cX1_listsOf 31 = .ok (.iload_n 3, 1) := by decide +kernel
theorem dX1_listsOf_32 : decode cX1_listsOf 32 = .ok (.iaload, 1) := by decide +kernel
theorem dX1_listsOf_33 : decode cX1_listsOf 33 = .ok (.iaload, 1) := by decide +kernel
theorem dX1_listsOf_34 : decode cX1_listsOf 34 = .ok (.aload_n 1, 1) := by decide +kernel
theorem dX1_listsOf_35 : decode cX1_listsOf 35 = .ok (.iload_n 3, 1) := by decide +kernel
theorem dX1_listsOf_36 : decode cX1_listsOf 36 = .ok (.invokevirtual 66, 3) := by decide +kernel
theorem dX1_listsOf_39 : decode cX1_listsOf 39 = .ok (.imul, 1) := by decide +kernel
theorem dX1_listsOf_40 : decode cX1_listsOf 40 = .ok (.iadd, 1) := by decide +kernel
theorem dX1_listsOf_41 : decode cX1_listsOf 41 = .ok (.istore_n 2, 1) := by decide +kernel
theorem dX1_listsOf_42 : decode cX1_listsOf 42 = .ok (.iinc 3 1, 3) := by decide +kernel
theorem dX1_listsOf_45 : decode cX1_listsOf 45 = .ok (.goto (-41), 3) := by decide +kernel
theorem dX1_listsOf_48 : decode cX1_listsOf 48 = .ok (.iload_n 2, 1) := by decide +kernel
theorem dX1_listsOf_49 : decode cX1_listsOf 49 = .ok (.ireturn, 1) := by decide +kernel
theorem dX1_listsAtMost_0 : decode cX1_listsAtMost 0 = .ok (.iload_n 1, 1) := by decide +kernel
theorem dX1_listsAtMost_1 : decode cX1_listsAtMost 1 = .ok (.iconst 3, 1) := by decide +kernel
theorem dX1_listsAtMost_2 : decode cX1_listsAtMost 2 = .ok (.if_icmp .ne 8, 3) := by decide +kernel
theorem dX1_listsAtMost_5 : decode cX1_listsAtMost 5 = .ok (.aload_n 0, 1) := by decide +kernel
theorem dX1_listsAtMost_6 : decode cX1_listsAtMost 6 = .ok (.getfield 22, 3) := by decide +kernel
theorem dX1_listsAtMost_9 : decode cX1_listsAtMost 9 = .ok (.ireturn, 1) := by decide +kernel
theorem dX1_listsAtMost_10 : decode cX1_listsAtMost 10 = .ok (.iload_n 1, 1) := by decide +kernel
theorem dX1_listsAtMost_11 : decode cX1_listsAtMost 11 = .ok (.bipush 6, 2) := by decide +kernel
theorem dX1_listsAtMost_13 : decode cX1_listsAtMost 13 = .ok (.if_icmp .ne 12, 3) := by decide +kernel
theorem dX1_listsAtMost_16 : decode cX1_listsAtMost 16 = .ok (.iconst 2, 1) := by decide +kernel
theorem dX1_listsAtMost_17 : decode cX1_listsAtMost 17 = .ok (.aload_n 0, 1) := by decide +kernel
theorem dX1_listsAtMost_18 : decode cX1_listsAtMost 18 = .ok (.getfield 22, 3) := by decide +kernel
theorem dX1_listsAtMost_21 : decode cX1_listsAtMost 21 = .ok (.imul, 1) := by decide +kernel
theorem dX1_listsAtMost_22 : decode cX1_listsAtMost 22 = .ok (.goto 5, 3) := by decide +kernel
theorem dX1_listsAtMost_25 : decode cX1_listsAtMost 25 = .ok (.ldc 69, 2) := by decide +kernel
theorem dX1_listsAtMost_27 : decode cX1_listsAtMost 27 = .ok (.ireturn, 1) := by decide +kernel
theorem dX1_holds_0 : decode cX1_holds 0 = .ok (.aload_n 0, 1) := by decide +kernel
theorem dX1_holds_1 : decode cX1_holds 1 = .ok (.aload_n 1, 1) := by decide +kernel
theorem dX1_holds_2 : decode cX1_holds 2 = .ok (.invokevirtual 70, 3) := by decide +kernel
theorem dX1_holds_5 : decode cX1_holds 5 = .ok (.invokestatic 74, 3) := by decide +kernel
theorem dX1_holds_8 : decode cX1_holds 8 = .ok (.aload_n 0, 1) := by decide +kernel
theorem dX1_holds_9 : decode cX1_holds 9 = .ok (.aload_n 1, 1) := by decide +kernel
theorem dX1_holds_10 : decode cX1_holds 10 = .ok (.getfield 79, 3) := by decide +kernel
theorem dX1_holds_13 : decode cX1_holds 13 = .ok (.invokevirtual 82, 3) := by decide +kernel
theorem dX1_holds_16 : decode cX1_holds 16 = .ok (.if_icmp .gt 21, 3) := by decide +kernel
theorem dX1_holds_19 : decode cX1_holds 19 = .ok (.aload_n 0, 1) := by decide +kernel
theorem dX1_holds_20 : decode cX1_holds 20 = .ok (.aload_n 1, 1) := by decide +kernel
theorem dX1_holds_21 : decode cX1_holds 21 = .ok (.iconst 0, 1) := by decide +kernel
theorem dX1_holds_22 : decode cX1_holds 22 = .ok (.aload_n 1, 1) := by decide +kernel
theorem dX1_holds_23 : decode cX1_holds 23 = .ok (.getfield 63, 3) := by decide +kernel
theorem dX1_holds_26 : decode cX1_holds 26 = .ok (.invokevirtual 85, 3) := by decide +kernel
theorem dX1_holds_29 : decode cX1_holds 29 = .ok (.iconst (-1), 1) := by decide +kernel
theorem dX1_holds_30 : decode cX1_holds 30 = .ok (.if_icmp .ne 7, 3) := by decide +kernel
theorem dX1_holds_33 : decode cX1_holds 33 = .ok (.iconst 1, 1) := by decide +kernel
theorem dX1_holds_34 : decode cX1_holds 34 = .ok (.goto 4, 3) := by decide +kernel
theorem dX1_holds_37 : decode cX1_holds 37 = .ok (.iconst 0, 1) := by decide +kernel
theorem dX1_holds_38 : decode cX1_holds 38 = .ok (.ireturn, 1) := by decide +kernel
theorem dX1_gainOf_0 : decode cX1_gainOf 0 = .ok (.aload_n 2, 1) := by decide +kernel
theorem dX1_gainOf_1 : decode cX1_gainOf 1 = .ok (.iload_n 1, 1) := by decide +kernel
theorem dX1_gainOf_2 : decode cX1_gainOf 2 = .ok (.invokevirtual 89, 3) := by decide +kernel
theorem dX1_gainOf_5 : decode cX1_gainOf 5 = .ok (.istore_n 3, 1) := by decide +kernel
theorem dX1_gainOf_6 : decode cX1_gainOf 6 = .ok (.iload_n 3, 1) := by decide +kernel
theorem dX1_gainOf_7 : decode cX1_gainOf 7 = .ok (.iconst (-1), 1) := by decide +kernel
theorem dX1_gainOf_8 : decode cX1_gainOf 8 = .ok (.if_icmp .ne 5, 3) := by decide +kernel
theorem dX1_gainOf_11 : decode cX1_gainOf 11 = .ok (.iconst 0, 1) := by decide +kernel
theorem dX1_gainOf_12 : decode cX1_gainOf 12 = .ok (.ireturn, 1) := by decide +kernel
theorem dX1_gainOf_13 : decode cX1_gainOf 13 = .ok (.aload_n 0, 1) := by decide +kernel
theorem dX1_gainOf_14 : decode cX1_gainOf 14 = .ok (.iload_n 1, 1) := by decide +kernel
theorem dX1_gainOf_15 : decode cX1_gainOf 15 = .ok (.aload_n 2, 1) := by decide +kernel
theorem dX1_gainOf_16 : decode cX1_gainOf 16 = .ok (.iload_n 3, 1) := by decide +kernel
theorem dX1_gainOf_17 : decode cX1_gainOf 17 = .ok (.iconst (-1), 1) := by decide +kernel
theorem dX1_gainOf_18 : decode cX1_gainOf 18 = .ok (.invokevirtual 92, 3) := by decide +kernel
theorem dX1_gainOf_21 : decode cX1_gainOf 21 = .ok (.invokevirtual 95, 3) := by decide +kernel
theorem dX1_gainOf_24 : decode cX1_gainOf 24 = .ok (.aload_n 0, 1) := by decide +kernel
theorem dX1_gainOf_25 : decode cX1_gainOf 25 = .ok (.iload_n 1, 1) := by decide +kernel
theorem dX1_gainOf_26 : decode cX1_gainOf 26 = .ok (.aload_n 2, 1) := by decide +kernel
theorem dX1_gainOf_27 : decode cX1_gainOf 27 = .ok (.iload_n 3, 1) := by decide +kernel
theorem dX1_gainOf_28 : decode cX1_gainOf 28 = .ok (.iconst 1, 1) := by decide +kernel
theorem dX1_gainOf_29 : decode cX1_gainOf 29 = .ok (.invokevirtual 92, 3) := by decide +kernel
theorem dX1_gainOf_32 : decode cX1_gainOf 32 = .ok (.invokevirtual 95, 3) := by decide +kernel
theorem dX1_gainOf_35 : decode cX1_gainOf 35 = .ok (.iadd, 1) := by decide +kernel
theorem dX1_gainOf_36 : decode cX1_gainOf 36 = .ok (.ireturn, 1) := by decide +kernel
theorem dX1_gainBeside_0 : decode cX1_gainBeside 0 = .ok (.iload_n 2, 1) := by decide +kernel
theorem dX1_gainBeside_1 : decode cX1_gainBeside 1 = .ok (.iconst (-1), 1) := by decide +kernel
theorem dX1_gainBeside_2 : decode cX1_gainBeside 2 = .ok (.if_icmp .eq 16, 3) := by decide +kernel
theorem dX1_gainBeside_5 : decode cX1_gainBeside 5 = .ok (.aload_n 0, 1) := by decide +kernel
theorem dX1_gainBeside_6 : decode cX1_gainBeside 6 = .ok (.iload_n 1, 1) := by decide +kernel
theorem dX1_gainBeside_7 : decode cX1_gainBeside 7 = .ok (.iload_n 2, 1) := by decide +kernel
theorem dX1_gainBeside_8 : decode cX1_gainBeside 8 = .ok (.invokevirtual 38, 3) := by decide +kernel
theorem dX1_gainBeside_11 : decode cX1_gainBeside 11 = .ok (.ifCond .eq 7, 3) := by decide +kernel
theorem dX1_gainBeside_14 : decode cX1_gainBeside 14 = .ok (.iconst 1, 1) := by decide +kernel
theorem dX1_gainBeside_15 : decode cX1_gainBeside 15 = .ok (.goto 4, 3) := by decide +kernel
theorem dX1_gainBeside_18 : decode cX1_gainBeside 18 = .ok (.iconst 0, 1) := by decide +kernel
theorem dX1_gainBeside_19 : decode cX1_gainBeside 19 = .ok (.ireturn, 1) := by decide +kernel
theorem dX1_seatsFor_0 : decode cX1_seatsFor 0 = .ok (.iconst 0, 1) := by decide +kernel
theorem dX1_seatsFor_1 : decode cX1_seatsFor 1 = .ok (.istore_n 3, 1) := by decide +kernel
theorem dX1_seatsFor_2 : decode cX1_seatsFor 2 = .ok (.iconst 0, 1) := by decide +kernel
theorem dX1_seatsFor_3 : decode cX1_seatsFor 3 = .ok (.istore 4, 2) := by decide +kernel
theorem dX1_seatsFor_5 : decode cX1_seatsFor 5 = .ok (.iload 4, 2) := by decide +kernel
theorem dX1_seatsFor_7 : decode cX1_seatsFor 7 = .ok (.aload_n 2, 1) := by decide +kernel
theorem dX1_seatsFor_8 : decode cX1_seatsFor 8 = .ok (.getfield 63, 3) := by decide +kernel
theorem dX1_seatsFor_11 : decode cX1_seatsFor 11 = .ok (.if_icmp .ge 51, 3) := by decide +kernel
theorem dX1_seatsFor_14 : decode cX1_seatsFor 14 = .ok (.aload_n 2, 1) := by decide +kernel
theorem dX1_seatsFor_15 : decode cX1_seatsFor 15 = .ok (.getfield 55, 3) := by decide +kernel
theorem dX1_seatsFor_18 : decode cX1_seatsFor 18 = .ok (.iload 4, 2) := by decide +kernel
theorem dX1_seatsFor_20 : decode cX1_seatsFor 20 = .ok (.iaload, 1) := by decide +kernel
theorem dX1_seatsFor_21 : decode cX1_seatsFor 21 = .ok (.iconst (-1), 1) := by decide +kernel
theorem dX1_seatsFor_22 : decode cX1_seatsFor 22 = .ok (.if_icmp .ne 34, 3) := by decide +kernel
theorem dX1_seatsFor_25 : decode cX1_seatsFor 25 = .ok (.aload_n 2, 1) := by decide +kernel
theorem dX1_seatsFor_26 : decode cX1_seatsFor 26 = .ok (.getfield 55, 3) := by decide +kernel
theorem dX1_seatsFor_29 : decode cX1_seatsFor 29 = .ok (.iload 4, 2) := by decide +kernel
theorem dX1_seatsFor_31 : decode cX1_seatsFor 31 = .ok (.iload_n 1, 1) := by decide +kernel
theorem dX1_seatsFor_32 : decode cX1_seatsFor 32 = .ok (.iastore, 1) := by decide +kernel
theorem dX1_seatsFor_33 : decode cX1_seatsFor 33 = .ok (.aload_n 0, 1) := by decide +kernel
theorem dX1_seatsFor_34 : decode cX1_seatsFor 34 = .ok (.aload_n 2, 1) := by decide +kernel
theorem dX1_seatsFor_35 : decode cX1_seatsFor 35 = .ok (.invokevirtual 98, 3) := by decide +kernel
theorem dX1_seatsFor_38 : decode cX1_seatsFor 38 = .ok (.ifCond .eq 10, 3) := by decide +kernel
theorem dX1_seatsFor_41 : decode cX1_seatsFor 41 = .ok (.iload_n 3, 1) := by decide +kernel
theorem dX1_seatsFor_42 : decode cX1_seatsFor 42 = .ok (.iconst 1, 1) := by decide +kernel
theorem dX1_seatsFor_43 : decode cX1_seatsFor 43 = .ok (.iload 4, 2) := by decide +kernel
theorem dX1_seatsFor_45 : decode cX1_seatsFor 45 = .ok (.ishl, 1) := by decide +kernel
theorem dX1_seatsFor_46 : decode cX1_seatsFor 46 = .ok (.ior, 1) := by decide +kernel
theorem dX1_seatsFor_47 : decode cX1_seatsFor 47 = .ok (.istore_n 3, 1) := by decide +kernel
theorem dX1_seatsFor_48 : decode cX1_seatsFor 48 = .ok (.aload_n 2, 1) := by decide +kernel
theorem dX1_seatsFor_49 : decode cX1_seatsFor 49 = .ok (.getfield 55, 3) := by decide +kernel
theorem dX1_seatsFor_52 : decode cX1_seatsFor 52 = .ok (.iload 4, 2) := by decide +kernel
theorem dX1_seatsFor_54 : decode cX1_seatsFor 54 = .ok (.iconst (-1), 1) := by decide +kernel
theorem dX1_seatsFor_55 : decode cX1_seatsFor 55 = .ok (.iastore, 1) := by decide +kernel
theorem dX1_seatsFor_56 : decode cX1_seatsFor 56 = .ok (.iinc 4 1, 3) := by decide +kernel
theorem dX1_seatsFor_59 : decode cX1_seatsFor 59 = .ok (.goto (-54), 3) := by decide +kernel
theorem dX1_seatsFor_62 : decode cX1_seatsFor 62 = .ok (.iload_n 3, 1) := by decide +kernel
theorem dX1_seatsFor_63 : decode cX1_seatsFor 63 = .ok (.ireturn, 1) := by decide +kernel
theorem dX2_init_0 : decode cX2_init 0 = .ok (.aload_n 0, 1) := by decide +kernel
theorem dX2_init_1 : decode cX2_init 1 = .ok (.invokespecial 3, 3) := by decide +kernel
theorem dX2_init_4 : decode cX2_init 4 = .ok (.aload_n 0, 1) := by decide +kernel
theorem dX2_init_5 : decode cX2_init 5 = .ok (.new 9, 3) := by decide +kernel
theorem dX2_init_8 : decode cX2_init 8 = .ok (.dup, 1) := by decide +kernel
theorem dX2_init_9 : decode cX2_init 9 = .ok (.invokespecial 11, 3) := by decide +kernel
theorem dX2_init_12 : decode cX2_init 12 = .ok (.putfield 12, 3) := by decide +kernel
theorem dX2_init_15 : decode cX2_init 15 = .ok (.aload_n 0, 1) := by decide +kernel
theorem dX2_init_16 : decode cX2_init 16 = .ok (.iconst 5, 1) := by decide +kernel
theorem dX2_init_17 : decode cX2_init 17 = .ok (.anewarray 18, 3) := by decide +kernel
theorem dX2_init_20 : decode cX2_init 20 = .ok (.putfield 20, 3) := by decide +kernel
theorem dX2_init_23 : decode cX2_init 23 = .ok (.aload_n 0, 1) := by decide +kernel
theorem dX2_init_24 : decode cX2_init 24 = .ok (.iconst 0, 1) := by decide +kernel
theorem dX2_init_25 : decode cX2_init 25 = .ok (.putfield 24, 3) := by decide +kernel
theorem dX2_init_28 : decode cX2_init 28 = .ok (.aload_n 0, 1) := by decide +kernel
theorem dX2_init_29 : decode cX2_init 29 = .ok (.bipush 10, 2) := by decide +kernel
theorem dX2_init_31 : decode cX2_init 31 = .ok (.newarray .int, 2) := by decide +kernel
theorem dX2_init_33 : decode cX2_init 33 = .ok (.putfield 28, 3) := by decide +kernel
theorem dX2_init_36 : decode cX2_init 36 = .ok (.aload_n 0, 1) := by decide +kernel
theorem dX2_init_37 : decode cX2_init 37 = .ok (.iconst 1, 1) := by decide +kernel
theorem dX2_init_38 : decode cX2_init 38 = .ok (.putfield 32, 3) := by decide +kernel
theorem dX2_init_41 : decode cX2_init 41 = .ok (.iconst 0, 1) := by decide +kernel
theorem dX2_init_42 : decode cX2_init 42 = .ok (.istore_n 1, 1) := by decide +kernel
theorem dX2_init_43 : decode cX2_init 43 = .ok (.iload_n 1, 1) := by decide +kernel
theorem dX2_init_44 : decode cX2_init 44 = .ok (.iconst 5, 1) := by decide +kernel
theorem dX2_init_45 : decode cX2_init 45 = .ok (.if_icmp .ge 22, 3) := by decide +kernel
theorem dX2_init_48 : decode cX2_init 48 = .ok (.aload_n 0, 1) := by decide +kernel
theorem dX2_init_49 : decode cX2_init 49 = .ok (.getfield 20, 3) := by decide +kernel
theorem dX2_init_52 : decode cX2_init 52 = .ok (.iload_n 1, 1) := by decide +kernel
theorem dX2_init_53 : decode cX2_init 53 = .ok (.new 18, 3) := by decide +kernel
theorem dX2_init_56 : decode cX2_init 56 = .ok (.dup, 1) := by decide +kernel
theorem dX2_init_57 : decode cX2_init 57 = .ok (.invokespecial 35, 3) := by decide +kernel
theorem dX2_init_60 : decode cX2_init 60 = .ok (.aastore, 1) := by decide +kernel
theorem dX2_init_61 : decode cX2_init 61 = .ok (.iinc 1 1, 3) := by decide +kernel
theorem dX2_init_64 : decode cX2_init 64 = .ok (.goto (-21), 3) := by decide +kernel
theorem dX2_init_67 : decode cX2_init 67 = .ok (.aload_n 0, 1) := by decide +kernel
theorem dX2_init_68 : decode cX2_init 68 = .ok (.getfield 28, 3) := by decide +kernel
theorem dX2_init_71 : decode cX2_init 71 = .ok (.iconst (-1), 1) := by decide +kernel
theorem dX2_init_72 : decode cX2_init 72 = .ok (.invokestatic 36, 3) := by decide +kernel
theorem dX2_init_75 : decode cX2_init 75 = .ok (.return_, 1) := by decide +kernel
theorem dX2_become_0 : decode cX2_become 0 = .ok (.aload_n 0, 1) := by decide +kernel
theorem dX2_become_1 : decode cX2_become 1 = .ok (.getfield 12, 3) := by decide +kernel
theorem dX2_become_4 : decode cX2_become 4 = .ok (.aload_n 1, 1) := by decide +kernel
theorem dX2_become_5 : decode cX2_become 5 = .ok (.getfield 12, 3) := by decide +kernel
theorem dX2_become_8 : decode cX2_become 8 = .ok (.invokevirtual 42, 3) := by decide +kernel
theorem dX2_become_11 : decode cX2_become 11 = .ok (.iconst 0, 1) := by decide +kernel
theorem dX2_become_12 : decode cX2_become 12 = .ok (.istore_n 2, 1) := by decide +kernel
theorem dX2_become_13 : decode cX2_become 13 = .ok (.iload_n 2, 1) := by decide +kernel
theorem dX2_become_14 : decode cX2_become 14 = .ok (.iconst 5, 1) := by decide +kernel
theorem dX2_become_15 : decode cX2_become 15 = .ok (.if_icmp .ge 24, 3) := by decide +kernel
theorem dX2_become_18 : decode cX2_become 18 = .ok (.aload_n 0, 1) := by decide +kernel
theorem dX2_become_19 : decode cX2_become 19 = .ok (.getfield 20, 3) := by decide +kernel
theorem dX2_become_22 : decode cX2_become 22 = .ok (.iload_n 2, 1) := by decide +kernel
theorem dX2_become_23 : decode cX2_become 23 = .ok (.aaload, 1) := by decide +kernel
theorem dX2_become_24 : decode cX2_become 24 = .ok (.aload_n 1, 1) := by decide +kernel
theorem dX2_become_25 : decode cX2_become 25 = .ok (.getfield 20, 3) := by decide +kernel
theorem dX2_become_28 : decode cX2_become 28 = .ok (.iload_n 2, 1) := by decide +kernel
theorem dX2_become_29 : decode cX2_become 29 = .ok (.aaload, 1) := by decide +kernel
theorem dX2_become_30 : decode cX2_become 30 = .ok (.invokevirtual 46, 3) := by decide +kernel
theorem dX2_become_33 : decode cX2_become 33 = .ok (.iinc 2 1, 3) := by decide +kernel
theorem dX2_become_36 : decode cX2_become 36 = .ok (.goto (-23), 3) := by decide +kernel
theorem dX2_become_39 : decode cX2_become 39 = .ok (.aload_n 0, 1) := by decide +kernel
theorem dX2_become_40 : decode cX2_become 40 = .ok (.aload_n 1, 1) := by decide +kernel
theorem dX2_become_41 : decode cX2_become 41 = .ok (.getfield 24, 3) := by decide +kernel
theorem dX2_become_44 : decode cX2_become 44 = .ok (.putfield 24, 3) := by decide +kernel
theorem dX2_become_47 : decode cX2_become 47 = .ok (.aload_n 1, 1) := by decide +kernel
theorem dX2_become_48 : decode cX2_become 48 = .ok (.getfield 28, 3) := by decide +kernel
theorem dX2_become_51 : decode cX2_become 51 = .ok (.iconst 0, 1) := by decide +kernel
theorem dX2_become_52 : decode cX2_become 52 = .ok (.aload_n 0, 1) := by decide +kernel
theorem dX2_become_53 : decode cX2_become 53 = .ok (.getfield 28, 3) := by decide +kernel
theorem dX2_become_56 : decode cX2_become 56 = .ok (.iconst 0, 1) := by decide +kernel
theorem dX2_become_57 : decode cX2_become 57 = .ok (.bipush 10, 2) := by decide +kernel
theorem dX2_become_59 : decode cX2_become 59 = .ok (.invokestatic 49, 3) := by decide +kernel
theorem dX2_become_62 : decode cX2_become 62 = .ok (.aload_n 0, 1) := by decide +kernel
theorem dX2_become_63 : decode cX2_become 63 = .ok (.aload_n 1, 1) := by decide +kernel
theorem dX2_become_64 : decode cX2_become 64 = .ok (.getfield 32, 3) := by decide +kernel
theorem dX2_become_67 : decode cX2_become 67 = .ok (.putfield 32, 3) := by decide +kernel
theorem dX2_become_70 : decode cX2_become 70 = .ok (.return_, 1) := by decide +kernel
theorem dX2_addBench_0 : decode cX2_addBench 0 = .ok (.aload_n 0, 1) := by decide +kernel
theorem dX2_addBench_1 : decode cX2_addBench 1 = .ok (.getfield 24, 3) := by decide +kernel
theorem dX2_addBench_4 : decode cX2_addBench 4 = .ok (.istore_n 3, 1) := by decide +kernel
theorem dX2_addBench_5 : decode cX2_addBench 5 = .ok (.aload_n 0, 1) := by decide +kernel
theorem dX2_addBench_6 : decode cX2_addBench 6 = .ok (.getfield 20, 3) := by decide +kernel
theorem dX2_addBench_9 : decode cX2_addBench 9 = .ok (.iload_n 3, 1) := by decide +kernel
theorem dX2_addBench_10 : decode cX2_addBench 10 = .ok (.aaload, 1) := by decide +kernel
theorem dX2_addBench_11 : decode cX2_addBench 11 = .ok (.iload_n 1, 1) := by decide +kernel
theorem dX2_addBench_12 : decode cX2_addBench 12 = .ok (.iload_n 2, 1) := by decide +kernel
theorem dX2_addBench_13 : decode cX2_addBench 13 = .ok (.invokevirtual 55, 3) := by decide +kernel
theorem dX2_addBench_16 : decode cX2_addBench 16 = .ok (.aload_n 0, 1) := by decide +kernel
theorem dX2_addBench_17 : decode cX2_addBench 17 = .ok (.dup, 1) := by decide +kernel
theorem dX2_addBench_18 : decode cX2_addBench 18 = .ok (.getfield 24, 3) := by decide +kernel
theorem dX2_addBench_21 : decode cX2_addBench 21 = .ok (.iconst 1, 1) := by decide +kernel
theorem dX2_addBench_22 : decode cX2_addBench 22 = .ok (.iadd, 1) := by decide +kernel
theorem dX2_addBench_23 : decode cX2_addBench 23 = .ok (.putfield 24, 3) := by decide +kernel
theorem dX2_addBench_26 : decode cX2_addBench 26 = .ok (.iload_n 3, 1) := by decide +kernel
theorem dX2_addBench_27 : decode cX2_addBench 27 = .ok (.ireturn, 1) := by decide +kernel
theorem dX2_benchWith_0 : decode cX2_benchWith 0 = .ok (.iconst 0, 1) := by decide +kernel
theorem dX2_benchWith_1 : decode cX2_benchWith 1 = .ok (.istore_n 2, 1) := by decide +kernel
theorem dX2_benchWith_2 : decode cX2_benchWith 2 = .ok (.iload_n 2, 1) := by decide +kernel
theorem dX2_benchWith_3 : decode cX2_benchWith 3 = .ok (.aload_n 0, 1) := by decide +kernel
theorem dX2_benchWith_4 : decode cX2_benchWith 4 = .ok (.getfield 24, 3) := by decide +kernel
theorem dX2_benchWith_7 : decode cX2_benchWith 7 = .ok (.if_icmp .ge 25, 3) := by decide +kernel
theorem dX2_benchWith_10 : decode cX2_benchWith 10 = .ok (.aload_n 0, 1) := by decide +kernel
theorem dX2_benchWith_11 : decode cX2_benchWith 11 = .ok (.getfield 20, 3) := by decide +kernel
theorem dX2_benchWith_14 : decode cX2_benchWith 14 = .ok (.iload_n 2, 1) := by decide +kernel
theorem dX2_benchWith_15 : decode cX2_benchWith 15 = .ok (.aaload, 1) := by decide +kernel
theorem dX2_benchWith_16 : decode cX2_benchWith 16 = .ok (.iload_n 1, 1) := by decide +kernel
theorem dX2_benchWith_17 : decode cX2_benchWith 17 = .ok (.invokevirtual 59, 3) := by decide +kernel
theorem dX2_benchWith_20 : decode cX2_benchWith 20 = .ok (.iconst (-1), 1) := by decide +kernel
theorem dX2_benchWith_21 : decode cX2_benchWith 21 = .ok (.if_icmp .eq 5, 3) := by decide +kernel
theorem dX2_benchWith_24 : decode cX2_benchWith 24 = .ok (.iload_n 2, 1) := by decide +kernel
theorem dX2_benchWith_25 : decode cX2_benchWith 25 = .ok (.ireturn, 1) := by decide +kernel
theorem dX2_benchWith_26 : decode cX2_benchWith 26 = .ok (.iinc 2 1, 3) := by decide +kernel
theorem dX2_benchWith_29 : decode cX2_benchWith 29 = .ok (.goto (-27), 3) := by decide +kernel
theorem dX2_benchWith_32 : decode cX2_benchWith 32 = .ok (.iconst (-1), 1) := by decide +kernel
theorem dX2_benchWith_33 : decode cX2_benchWith 33 = .ok (.ireturn, 1) := by decide +kernel
theorem dX2_isSeated_0 : decode cX2_isSeated 0 = .ok (.aload_n 0, 1) := by decide +kernel
theorem dX2_isSeated_1 : decode cX2_isSeated 1 = .ok (.iload_n 1, 1) := by decide +kernel
theorem dX2_isSeated_2 : decode cX2_isSeated 2 = .ok (.invokevirtual 63, 3) := by decide +kernel
theorem dX2_isSeated_5 : decode cX2_isSeated 5 = .ok (.iconst (-1), 1) := by decide +kernel
theorem dX2_isSeated_6 : decode cX2_isSeated 6 = .ok (.if_icmp .eq 7, 3) := by decide +kernel
theorem dX2_isSeated_9 : decode cX2_isSeated 9 = .ok (.iconst 1, 1) := by decide +kernel
theorem dX2_isSeated_10 : decode cX2_isSeated 10 = .ok (.goto 4, 3) := by decide +kernel
theorem dX2_isSeated_13 : decode cX2_isSeated 13 = .ok (.iconst 0, 1) := by decide +kernel
theorem dX2_isSeated_14 : decode cX2_isSeated 14 = .ok (.ireturn, 1) := by decide +kernel
theorem dX2_isTakenByAnother_0 : decode cX2_isTakenByAnother 0 = .ok (.aload_n 0, 1) := by decide +kernel
theorem dX2_isTakenByAnother_1 : decode cX2_isTakenByAnother 1 = .ok (.getfield 20, 3) := by decide +kernel
theorem dX2_isTakenByAnother_4 : decode cX2_isTakenByAnother 4 = .ok (.iload_n 1, 1) := by decide +kernel
theorem dX2_isTakenByAnother_5 : decode cX2_isTakenByAnother 5 = .ok (.aaload, 1) := by decide +kernel
theorem dX2_isTakenByAnother_6 : decode cX2_isTakenByAnother 6 = .ok (.getfield 66, 3) := by decide +kernel
theorem dX2_isTakenByAnother_9 : decode cX2_isTakenByAnother 9 = .ok (.iload_n 2, 1) := by decide +kernel
theorem dX2_isTakenByAnother_10 : decode cX2_isTakenByAnother 10 = .ok (.iaload, 1) := by decide +kernel
theorem dX2_isTakenByAnother_11 : decode cX2_isTakenByAnother 11 = .ok (.istore 4, 2) := by decide +kernel
theorem dX2_isTakenByAnother_13 : decode cX2_isTakenByAnother 13 = .ok (.iload 4, 2) := by decide +kernel
theorem dX2_isTakenByAnother_15 : decode cX2_isTakenByAnother 15 = .ok (.iconst (-1), 1) := by decide +kernel
theorem dX2_isTakenByAnother_16 : decode cX2_isTakenByAnother 16 = .ok (.if_icmp .eq 13, 3) := by decide +kernel
theorem dX2_isTakenByAnother_19 : decode cX2_isTakenByAnother 19 = .ok (.iload 4, 2) := by decide +kernel
theorem dX2_isTakenByAnother_21 : decode cX2_isTakenByAnother 21 = .ok (.iload_n 3, 1) := by decide +kernel
theorem dX2_isTakenByAnother_22 : decode cX2_isTakenByAnother 22 = .ok (.if_icmp .eq 7, 3) := by decide +kernel
theorem dX2_isTakenByAnother_25 : decode cX2_isTakenByAnother 25 = .ok (.iconst 1, 1) := by decide +kernel
theorem dX2_isTakenByAnother_26 : decode cX2_isTakenByAnother 26 = .ok (.goto 4, 3) := by decide +kernel
theorem dX2_isTakenByAnother_29 : decode cX2_isTakenByAnother 29 = .ok (.iconst 0, 1) := by decide +kernel
theorem dX2_isTakenByAnother_30 : decode cX2_isTakenByAnother 30 = .ok (.ireturn, 1) := by decide +kernel
theorem dX2_lift_0 : decode cX2_lift 0 = .ok (.aload_n 0, 1) := by decide +kernel
theorem dX2_lift_1 : decode cX2_lift 1 = .ok (.iload_n 1, 1) := by decide +kernel
theorem dX2_lift_2 : decode cX2_lift 2 = .ok (.invokevirtual 63, 3) := by decide +kernel
theorem dX2_lift_5 : decode cX2_lift 5 = .ok (.istore_n 2, 1) := by decide +kernel
theorem dX2_lift_6 : decode cX2_lift 6 = .ok (.iload_n 2, 1) := by decide +kernel
theorem dX2_lift_7 : decode cX2_lift 7 = .ok (.iconst (-1), 1) := by decide +kernel
theorem dX2_lift_8 : decode cX2_lift 8 = .ok (.if_icmp .ne 5, 3) := by decide +kernel
theorem dX2_lift_11 : decode cX2_lift 11 = .ok (.iconst 0, 1) := by decide +kernel
theorem dX2_lift_12 : decode cX2_lift 12 = .ok (.ireturn, 1) := by decide +kernel
theorem dX2_lift_13 : decode cX2_lift 13 = .ok (.aload_n 0, 1) := by decide +kernel
theorem dX2_lift_14 : decode cX2_lift 14 = .ok (.getfield 20, 3) := by decide +kernel
theorem dX2_lift_17 : decode cX2_lift 17 = .ok (.iload_n 2, 1) := by decide +kernel
theorem dX2_lift_18 : decode cX2_lift 18 = .ok (.aaload, 1) := by decide +kernel
theorem dX2_lift_19 : decode cX2_lift 19 = .ok (.iload_n 1, 1) := by decide +kernel
theorem dX2_lift_20 : decode cX2_lift 20 = .ok (.invokevirtual 69, 3) := by decide +kernel
theorem dX2_lift_23 : decode cX2_lift 23 = .ok (.iconst 1, 1) := by decide +kernel
theorem dX2_lift_24 : decode cX2_lift 24 = .ok (.ireturn, 1) := by decide +kernel
theorem dX2_putDown_0 : decode cX2_putDown 0 = .ok (.aload_n 0, 1) := by decide +kernel
theorem dX2_putDown_1 : decode cX2_putDown 1 = .ok (.iload_n 1, 1) := by decide +kernel
theorem dX2_putDown_2 : decode cX2_putDown 2 = .ok (.invokevirtual 73, 3) := by decide +kernel
theorem dX2_putDown_5 : decode cX2_putDown 5 = .ok (.pop, 1) := by decide +kernel
theorem dX2_putDown_6 : decode cX2_putDown 6 = .ok (.aload_n 0, 1) := by decide +kernel
theorem dX2_putDown_7 : decode cX2_putDown 7 = .ok (.getfield 20, 3) := by decide +kernel
theorem dX2_putDown_10 : decode cX2_putDown 10 = .ok (.iload_n 2, 1) := by decide +kernel
theorem dX2_putDown_11 : decode cX2_putDown 11 = .ok (.aaload, 1) := by decide +kernel
theorem dX2_putDown_12 : decode cX2_putDown 12 = .ok (.getfield 66, 3) := by decide +kernel
theorem dX2_putDown_15 : decode cX2_putDown 15 = .ok (.iload_n 3, 1) := by decide +kernel
theorem dX2_putDown_16 : decode cX2_putDown 16 = .ok (.iload_n 1, 1) := by decide +kernel
theorem dX2_putDown_17 : decode cX2_putDown 17 = .ok (.iastore, 1) := by decide +kernel
theorem dX2_putDown_18 : decode cX2_putDown 18 = .ok (.return_, 1) := by decide +kernel
theorem dX2_takeSeating_0 : decode cX2_takeSeating 0 = .ok (.iconst 0, 1) := by decide +kernel
theorem dX2_takeSeating_1 : decode cX2_takeSeating 1 = .ok (.istore 4, 2) := by decide +kernel
theorem dX2_takeSeating_3 : decode cX2_takeSeating 3 = .ok (.iload 4, 2) := by decide +kernel
theorem dX2_takeSeating_5 : decode cX2_takeSeating 5 = .ok (.bipush 8, 2) := by decide +kernel
theorem dX2_takeSeating_7 : decode cX2_takeSeating 7 = .ok (.if_icmp .ge 25, 3) := by decide +kernel
theorem dX2_takeSeating_10 : decode cX2_takeSeating 10 = .ok (.iload_n 2, 1) := by decide +kernel
theorem dX2_takeSeating_11 : decode cX2_takeSeating 11 = .ok (.iload 4, 2) := by decide +kernel
theorem dX2_takeSeating_13 : decode cX2_takeSeating 13 = .ok (.invokestatic 77, 3) := by decide +kernel
theorem dX2_takeSeating_16 : decode cX2_takeSeating 16 = .ok (.ifCond .eq 10, 3) := by decide +kernel
theorem dX2_takeSeating_19 : decode cX2_takeSeating 19 = .ok (.aload_n 0, 1) := by decide +kernel
theorem dX2_takeSeating_20 : decode cX2_takeSeating 20 = .ok (.iload 4, 2) := by decide +kernel
theorem dX2_takeSeating_22 : decode cX2_takeSeating 22 = .ok (.invokevirtual 73, 3) := by decide +kernel
theorem dX2_takeSeating_25 : decode cX2_takeSeating 25 = .ok (.pop, 1) := by decide +kernel
theorem dX2_takeSeating_26 : decode cX2_takeSeating 26 = .ok (.iinc 4 1, 3) := by decide +kernel
theorem dX2_takeSeating_29 : decode cX2_takeSeating 29 = .ok (.goto (-26), 3) := by decide +kernel
theorem dX2_takeSeating_32 : decode cX2_takeSeating 32 = .ok (.aload_n 3, 1) := by decide +kernel
theorem dX2_takeSeating_33 : decode cX2_takeSeating 33 = .ok (.iconst 0, 1) := by decide +kernel
theorem dX2_takeSeating_34 : decode cX2_takeSeating 34 = .ok (.aload_n 0, 1) := by decide +kernel
theorem dX2_takeSeating_35 : decode cX2_takeSeating 35 = .ok (.getfield 20, 3) := by decide +kernel
theorem dX2_takeSeating_38 : decode cX2_takeSeating 38 = .ok (.iload_n 1, 1) := by decide +kernel
theorem dX2_takeSeating_39 : decode cX2_takeSeating 39 = .ok (.aaload, 1) := by decide +kernel
theorem dX2_takeSeating_40 : decode cX2_takeSeating 40 = .ok (.getfield 66, 3) := by decide +kernel
theorem dX2_takeSeating_43 : decode cX2_takeSeating 43 = .ok (.iconst 0, 1) := by decide +kernel
theorem dX2_takeSeating_44 : decode cX2_takeSeating 44 = .ok (.aload_n 0, 1) := by decide +kernel
theorem dX2_takeSeating_45 : decode cX2_takeSeating 45 = .ok (.getfield 20, 3) := by decide +kernel
theorem dX2_takeSeating_48 : decode cX2_takeSeating 48 = .ok (.iload_n 1, 1) := by decide +kernel
theorem dX2_takeSeating_49 : decode cX2_takeSeating 49 = .ok (.aaload, 1) := by decide +kernel
theorem dX2_takeSeating_50 : decode cX2_takeSeating 50 = .ok (.getfield 81, 3) := by decide +kernel
theorem dX2_takeSeating_53 : decode cX2_takeSeating 53 = .ok (.invokestatic 49, 3) := by decide +kernel
theorem dX2_takeSeating_56 : decode cX2_takeSeating 56 = .ok (.return_, 1) := by decide +kernel
theorem dX2_howManySit_0 : decode cX2_howManySit 0 = .ok (.iconst 0, 1) := by decide +kernel
theorem dX2_howManySit_1 : decode cX2_howManySit 1 = .ok (.istore_n 1, 1) := by decide +kernel
theorem dX2_howManySit_2 : decode cX2_howManySit 2 = .ok (.iconst 0, 1) := by decide +kernel
theorem dX2_howManySit_3 : decode cX2_howManySit 3 = .ok (.istore_n 2, 1) := by decide +kernel
theorem dX2_howManySit_4 : decode cX2_howManySit 4 = .ok (.iload_n 2, 1) := by decide +kernel
theorem dX2_howManySit_5 : decode cX2_howManySit 5 = .ok (.aload_n 0, 1) := by decide +kernel
theorem dX2_howManySit_6 : decode cX2_howManySit 6 = .ok (.getfield 24, 3) := by decide +kernel
theorem dX2_howManySit_9 : decode cX2_howManySit 9 = .ok (.if_icmp .ge 21, 3) := by decide +kernel
theorem dX2_howManySit_12 : decode cX2_howManySit 12 = .ok (.iload_n 1, 1) := by decide +kernel
theorem dX2_howManySit_13 : decode cX2_howManySit 13 = .ok (.aload_n 0, 1) := by decide +kernel
theorem dX2_howManySit_14 : decode cX2_howManySit 14 = .ok (.getfield 20, 3) := by decide +kernel
theorem dX2_howManySit_17 : decode cX2_howManySit 17 = .ok (.iload_n 2, 1) := by decide +kernel
theorem dX2_howManySit_18 : decode cX2_howManySit 18 = .ok (.aaload, 1) := by decide +kernel
theorem dX2_howManySit_19 : decode cX2_howManySit 19 = .ok (.invokevirtual 84, 3) := by decide +kernel
theorem dX2_howManySit_22 : decode cX2_howManySit 22 = .ok (.iadd, 1) := by decide +kernel
theorem dX2_howManySit_23 : decode cX2_howManySit 23 = .ok (.istore_n 1, 1) := by decide +kernel
theorem dX2_howManySit_24 : decode cX2_howManySit 24 = .ok (.iinc 2 1, 3) := by decide +kernel
theorem dX2_howManySit_27 : decode cX2_howManySit 27 = .ok (.goto (-23), 3) := by decide +kernel
theorem dX2_howManySit_30 : decode cX2_howManySit 30 = .ok (.iload_n 1, 1) := by decide +kernel
theorem dX2_howManySit_31 : decode cX2_howManySit 31 = .ok (.ireturn, 1) := by decide +kernel
theorem dX2_benchesThatHold_0 : decode cX2_benchesThatHold 0 = .ok (.iconst 0, 1) := by decide +kernel
theorem dX2_benchesThatHold_1 : decode cX2_benchesThatHold 1 = .ok (.istore_n 1, 1) := by decide +kernel
theorem dX2_benchesThatHold_2 : decode cX2_benchesThatHold 2 = .ok (.iconst 0, 1) := by decide +kernel
theorem dX2_benchesThatHold_3 : decode cX2_benchesThatHold 3 = .ok (.istore_n 2, 1) := by decide +kernel
theorem dX2_benchesThatHold_4 : decode cX2_benchesThatHold 4 = .ok (.iload_n 2, 1) := by decide +kernel
theorem dX2_benchesThatHold_5 : decode cX2_benchesThatHold 5 = .ok (.aload_n 0, 1) := by decide +kernel
theorem dX2_benchesThatHold_6 : decode cX2_benchesThatHold 6 = .ok (.getfield 24, 3) := by decide +kernel
theorem dX2_benchesThatHold_9 : decode cX2_benchesThatHold 9 = .ok (.if_icmp .ge 28, 3) := by decide +kernel
theorem dX2_benchesThatHold_12 : decode cX2_benchesThatHold 12 = .ok (.aload_n 0, 1) := by decide +kernel
theorem dX2_benchesThatHold_13 : decode cX2_benchesThatHold 13 = .ok (.getfield 12, 3) := by decide +kernel
theorem dX2_benchesThatHold_16 : decode cX2_benchesThatHold 16 = .ok (.aload_n 0, 1) := by decide +kernel
theorem dX2_benchesThatHold_17 : decode cX2_benchesThatHold 17 = .ok (.getfield 20, 3) := by decide +kernel
theorem dX2_benchesThatHold_20 : decode cX2_benchesThatHold 20 = .ok (.iload_n 2, 1) := by decide +kernel
theorem dX2_benchesThatHold_21 : decode cX2_benchesThatHold 21 = .ok (.aaload, 1) := by decide +kernel
theorem dX2_benchesThatHold_22 : decode cX2_benchesThatHold 22 = .ok (.invokevirtual 88, 3) := by decide +kernel
theorem dX2_benchesThatHold_25 : decode cX2_benchesThatHold 25 = .ok (.ifCond .eq 6, 3) := by decide +kernel
theorem dX2_benchesThatHold_28 : decode cX2_benchesThatHold 28 = .ok (.iinc 1 1, 3) := by decide +kernel
theorem dX2_benchesThatHold_31 : decode cX2_benchesThatHold 31 = .ok (.iinc 2 1, 3) := by decide +kernel
theorem dX2_benchesThatHold_34 : decode cX2_benchesThatHold 34 = .ok (.goto (-30), 3) := by decide +kernel
theorem dX2_benchesThatHold_37 : decode cX2_benchesThatHold 37 = .ok (.iload_n 1, 1) := by decide +kernel
theorem dX2_benchesThatHold_38 : decode cX2_benchesThatHold 38 = .ok (.ireturn, 1) := by decide +kernel
theorem dX2_draw_0 : decode cX2_draw 0 = .ok (.aload_n 0, 1) := by decide +kernel
theorem dX2_draw_1 : decode cX2_draw 1 = .ok (.aload_n 0, 1) := by decide +kernel
theorem dX2_draw_2 : decode cX2_draw 2 = .ok (.getfield 32, 3) := by decide +kernel
theorem dX2_draw_5 : decode cX2_draw 5 = .ok (.ldc 92, 2) := by decide +kernel
theorem dX2_draw_7 : decode cX2_draw 7 = .ok (.imul, 1) := by decide +kernel
theorem dX2_draw_8 : decode cX2_draw 8 = .ok (.sipush 12345, 3) := by decide +kernel
theorem dX2_draw_11 : decode cX2_draw 11 = .ok (.iadd, 1) := by decide +kernel
theorem dX2_draw_12 : decode cX2_draw 12 = .ok (.putfield 32, 3) := by decide +kernel
theorem dX2_draw_15 : decode cX2_draw 15 = .ok (.aload_n 0, 1) := by decide +kernel
theorem dX2_draw_16 : decode cX2_draw 16 = .ok (.getfield 32, 3) := by decide +kernel
theorem dX2_draw_19 : decode cX2_draw 19 = .ok (.bipush 8, 2) := by decide +kernel
theorem dX2_draw_21 : decode cX2_draw 21 = .ok (.iushr, 1) := by decide +kernel
theorem dX2_draw_22 : decode cX2_draw 22 = .ok (.ireturn, 1) := by decide +kernel
theorem dX3_init_0 : decode cX3_init 0 = .ok (.aload_n 0, 1) := by decide +kernel
theorem dX3_init_1 : decode cX3_init 1 = .ok (.invokespecial 3, 3) := by decide +kernel
theorem dX3_init_4 : decode cX3_init 4 = .ok (.aload_n 0, 1) := by decide +kernel
theorem dX3_init_5 : decode cX3_init 5 = .ok (.new 9, 3) := by decide +kernel
theorem dX3_init_8 : decode cX3_init 8 = .ok (.dup, 1) := by decide +kernel
theorem dX3_init_9 : decode cX3_init 9 = .ok (.invokespecial 11, 3) := by decide +kernel
theorem dX3_init_12 : decode cX3_init 12 = .ok (.putfield 12, 3) := by decide +kernel
theorem dX3_init_15 : decode cX3_init 15 = .ok (.aload_n 0, 1) := by decide +kernel
theorem dX3_init_16 : decode cX3_init 16 = .ok (.bipush 9, 2) := by decide +kernel
theorem dX3_init_18 : decode cX3_init 18 = .ok (.newarray .int, 2) := by decide +kernel
theorem dX3_init_20 : decode cX3_init 20 = .ok (.putfield 18, 3) := by decide +kernel
theorem dX3_init_23 : decode cX3_init 23 = .ok (.aload_n 0, 1) := by decide +kernel
theorem dX3_init_24 : decode cX3_init 24 = .ok (.iconst 1, 1) := by decide +kernel
theorem dX3_init_25 : decode cX3_init 25 = .ok (.putfield 22, 3) := by decide +kernel
theorem dX3_init_28 : decode cX3_init 28 = .ok (.aload_n 0, 1) := by decide +kernel
theorem dX3_init_29 : decode cX3_init 29 = .ok (.iconst 0, 1) := by decide +kernel
theorem dX3_init_30 : decode cX3_init 30 = .ok (.putfield 26, 3) := by decide +kernel
theorem dX3_init_33 : decode cX3_init 33 = .ok (.aload_n 0, 1) := by decide +kernel
theorem dX3_init_34 : decode cX3_init 34 = .ok (.iconst 0, 1) := by decide +kernel
theorem dX3_init_35 : decode cX3_init 35 = .ok (.putfield 29, 3) := by decide +kernel
theorem dX3_init_38 : decode cX3_init 38 = .ok (.aload_n 0, 1) := by decide +kernel
theorem dX3_init_39 : decode cX3_init 39 = .ok (.iconst 0, 1) := by decide +kernel
theorem dX3_init_40 : decode cX3_init 40 = .ok (.putfield 32, 3) := by decide +kernel
theorem dX3_init_43 : decode cX3_init 43 = .ok (.aload_n 0, 1) := by decide +kernel
theorem dX3_init_44 : decode cX3_init 44 = .ok (.iconst (-1), 1) := by decide +kernel
theorem dX3_init_45 : decode cX3_init 45 = .ok (.putfield 35, 3) := by decide +kernel
theorem dX3_init_48 : decode cX3_init 48 = .ok (.aload_n 0, 1) := by decide +kernel
theorem dX3_init_49 : decode cX3_init 49 = .ok (.iconst (-1), 1) := by decide +kernel
theorem dX3_init_50 : decode cX3_init 50 = .ok (.putfield 38, 3) := by decide +kernel
theorem dX3_init_53 : decode cX3_init 53 = .ok (.aload_n 0, 1) := by decide +kernel
theorem dX3_init_54 : decode cX3_init 54 = .ok (.aload_n 1, 1) := by decide +kernel
theorem dX3_init_55 : decode cX3_init 55 = .ok (.putfield 41, 3) := by decide +kernel
theorem dX3_init_58 : decode cX3_init 58 = .ok (.aload_n 0, 1) := by decide +kernel
theorem dX3_init_59 : decode cX3_init 59 = .ok (.getfield 18, 3) := by decide +kernel
theorem dX3_init_62 : decode cX3_init 62 = .ok (.iconst 0, 1) := by decide +kernel
theorem dX3_init_63 : decode cX3_init 63 = .ok (.iconst (-1), 1) := by decide +kernel
theorem dX3_init_64 : decode cX3_init 64 = .ok (.iastore, 1) := by decide +kernel
theorem dX3_init_65 : decode cX3_init 65 = .ok (.return_, 1) := by decide +kernel
theorem dX3_countUpTo_0 : decode cX3_countUpTo 0 = .ok (.aload_n 0, 1) := by decide +kernel
theorem dX3_countUpTo_1 : decode cX3_countUpTo 1 = .ok (.getfield 12, 3) := by decide +kernel
theorem dX3_countUpTo_4 : decode cX3_countUpTo 4 = .ok (.aload_n 2, 1) := by decide +kernel
theorem dX3_countUpTo_5 : decode cX3_countUpTo 5 = .ok (.getfield 45, 3) := by decide +kernel
theorem dX3_countUpTo_8 : decode cX3_countUpTo 8 = .ok (.aload_n 2, 1) := by decide +kernel
theorem dX3_countUpTo_9 : decode cX3_countUpTo 9 = .ok (.getfield 48, 3) := by decide +kernel
theorem dX3_countUpTo_12 : decode cX3_countUpTo 12 = .ok (.invokevirtual 51, 3) := by decide +kernel
theorem dX3_countUpTo_15 : decode cX3_countUpTo 15 = .ok (.aload_n 0, 1) := by decide +kernel
theorem dX3_countUpTo_16 : decode cX3_countUpTo 16 = .ok (.getstatic 55, 3) := by decide +kernel
theorem dX3_countUpTo_19 : decode cX3_countUpTo 19 = .ok (.aload_n 2, 1) := by decide +kernel
theorem dX3_countUpTo_20 : decode cX3_countUpTo 20 = .ok (.getfield 45, 3) := by decide +kernel
theorem dX3_countUpTo_23 : decode cX3_countUpTo 23 = .ok (.iaload, 1) := by decide +kernel
theorem dX3_countUpTo_24 : decode cX3_countUpTo 24 = .ok (.putfield 22, 3) := by decide +kernel
theorem dX3_countUpTo_27 : decode cX3_countUpTo 27 = .ok (.aload_n 0, 1) := by decide +kernel
theorem dX3_countUpTo_28 : decode cX3_countUpTo 28 = .ok (.aload_n 0, 1) := by decide +kernel
theorem dX3_countUpTo_29 : decode cX3_countUpTo 29 = .ok (.getfield 41, 3) := by decide +kernel
theorem dX3_countUpTo_32 : decode cX3_countUpTo 32 = .ok (.aload_n 2, 1) := by decide +kernel
theorem dX3_countUpTo_33 : decode cX3_countUpTo 33 = .ok (.getfield 45, 3) := by decide +kernel
theorem dX3_countUpTo_36 : decode cX3_countUpTo 36 = .ok (.invokevirtual 58, 3) := by decide +kernel
theorem dX3_countUpTo_39 : decode cX3_countUpTo 39 = .ok (.putfield 26, 3) := by decide +kernel
theorem dX3_countUpTo_42 : decode cX3_countUpTo 42 = .ok (.aload_n 0, 1) := by decide +kernel
theorem dX3_countUpTo_43 : decode cX3_countUpTo 43 = .ok (.iconst 0, 1) := by decide +kernel
theorem dX3_countUpTo_44 : decode cX3_countUpTo 44 = .ok (.putfield 29, 3) := by decide +kernel
theorem dX3_countUpTo_47 : decode cX3_countUpTo 47 = .ok (.aload_n 0, 1) := by decide +kernel
theorem dX3_countUpTo_48 : decode cX3_countUpTo 48 = .ok (.iload_n 1, 1) := by decide +kernel
theorem dX3_countUpTo_49 : decode cX3_countUpTo 49 = .ok (.putfield 32, 3) := by decide +kernel
theorem dX3_countUpTo_52 : decode cX3_countUpTo 52 = .ok (.aload_n 0, 1) := by decide +kernel
theorem dX3_countUpTo_53 : decode cX3_countUpTo 53 = .ok (.getfield 12, 3) := by decide +kernel
theorem dX3_countUpTo_56 : decode cX3_countUpTo 56 = .ok (.getfield 48, 3) := by decide +kernel
theorem dX3_countUpTo_59 : decode cX3_countUpTo 59 = .ok (.iload_n 3, 1) := by decide +kernel
theorem dX3_countUpTo_60 : decode cX3_countUpTo 60 = .ok (.invokestatic 63, 3) := by decide +kernel
theorem dX3_countUpTo_63 : decode cX3_countUpTo 63 = .ok (.isub, 1) := by decide +kernel
theorem dX3_countUpTo_64 : decode cX3_countUpTo 64 = .ok (.istore 4, 2) := by decide +kernel
theorem dX3_countUpTo_66 : decode cX3_countUpTo 66 = .ok (.iload 4, 2) := by decide +kernel
theorem dX3_countUpTo_68 : decode cX3_countUpTo 68 = .ok (.ifCond .lt 17, 3) := by decide +kernel
theorem dX3_countUpTo_71 : decode cX3_countUpTo 71 = .ok (.aload_n 0, 1) := by decide +kernel
theorem dX3_countUpTo_72 : decode cX3_countUpTo 72 = .ok (.iconst 0, 1) := by decide +kernel
theorem dX3_countUpTo_73 : decode cX3_countUpTo 73 = .ok (.iload_n 3, 1) := by decide +kernel
theorem dX3_countUpTo_74 : decode cX3_countUpTo 74 = .ok (.iload 4, 2) := by decide +kernel
theorem dX3_countUpTo_76 : decode cX3_countUpTo 76 = .ok (.iconst 0, 1) := by decide +kernel
theorem dX3_countUpTo_77 : decode cX3_countUpTo 77 = .ok (.aload_n 0, 1) := by decide +kernel
theorem dX3_countUpTo_78 : decode cX3_countUpTo 78 = .ok (.iload_n 3, 1) := by decide +kernel
theorem dX3_countUpTo_79 : decode cX3_countUpTo 79 = .ok (.invokevirtual 68, 3) := by decide +kernel
theorem dX3_countUpTo_82 : decode cX3_countUpTo 82 = .ok (.invokevirtual 71, 3) := by decide +kernel
theorem dX3_countUpTo_85 : decode cX3_countUpTo 85 = .ok (.aload_n 0, 1) := by decide +kernel
theorem dX3_countUpTo_86 : decode cX3_countUpTo 86 = .ok (.getfield 29, 3) := by decide +kernel
theorem dX3_countUpTo_89 : decode cX3_countUpTo 89 = .ok (.ireturn, 1) := by decide +kernel
theorem dX3_countWith_0 : decode cX3_countWith 0 = .ok (.aload_n 0, 1) := by decide +kernel
theorem dX3_countWith_1 : decode cX3_countWith 1 = .ok (.iload_n 1, 1) := by decide +kernel
theorem dX3_countWith_2 : decode cX3_countWith 2 = .ok (.putfield 35, 3) := by decide +kernel
theorem dX3_countWith_5 : decode cX3_countWith 5 = .ok (.aload_n 0, 1) := by decide +kernel
theorem dX3_countWith_6 : decode cX3_countWith 6 = .ok (.iload_n 2, 1) := by decide +kernel
theorem dX3_countWith_7 : decode cX3_countWith 7 = .ok (.putfield 38, 3) := by decide +kernel
theorem dX3_countWith_10 : decode cX3_countWith 10 = .ok (.aload_n 0, 1) := by decide +kernel
theorem dX3_countWith_11 : decode cX3_countWith 11 = .ok (.ldc 75, 2) := by decide +kernel
theorem dX3_countWith_13 : decode cX3_countWith 13 = .ok (.aload_n 3, 1) := by decide +kernel
theorem dX3_countWith_14 : decode cX3_countWith 14 = .ok (.iload 4, 2) := by decide +kernel
theorem dX3_countWith_16 : decode cX3_countWith 16 = .ok (.invokevirtual 76, 3) := by decide +kernel
theorem dX3_countWith_19 : decode cX3_countWith 19 = .ok (.istore 5, 2) := by decide +kernel
theorem dX3_countWith_21 : decode cX3_countWith 21 = .ok (.aload_n 0, 1) := by decide +kernel
theorem dX3_countWith_22 : decode cX3_countWith 22 = .ok (.iconst (-1), 1) := by decide +kernel
theorem dX3_countWith_23 : decode cX3_countWith 23 = .ok (.putfield 38, 3) := by decide +kernel
theorem dX3_countWith_26 : decode cX3_countWith 26 = .ok (.iload 5, 2) := by decide +kernel
theorem dX3_countWith_28 : decode cX3_countWith 28 = .ok (.ireturn, 1) := by decide +kernel
theorem dX3_finds_0 : decode cX3_finds 0 = .ok (.iload_n 1, 1) := by decide +kernel
theorem dX3_finds_1 : decode cX3_finds 1 = .ok (.ldc 75, 2) := by decide +kernel
theorem dX3_finds_3 : decode cX3_finds 3 = .ok (.if_icmp .ge 20, 3) := by decide +kernel
theorem dX3_finds_6 : decode cX3_finds 6 = .ok (.aload_n 0, 1) := by decide +kernel
theorem dX3_finds_7 : decode cX3_finds 7 = .ok (.iload_n 1, 1) := by decide +kernel
theorem dX3_finds_8 : decode cX3_finds 8 = .ok (.iconst 1, 1) := by decide +kernel
theorem dX3_finds_9 : decode cX3_finds 9 = .ok (.iadd, 1) := by decide +kernel
theorem dX3_finds_10 : decode cX3_finds 10 = .ok (.aload_n 2, 1) := by decide +kernel
theorem dX3_finds_11 : decode cX3_finds 11 = .ok (.iload_n 3, 1) := by decide +kernel
theorem dX3_finds_12 : decode cX3_finds 12 = .ok (.invokevirtual 76, 3) := by decide +kernel
theorem dX3_finds_15 : decode cX3_finds 15 = .ok (.iload_n 1, 1) := by decide +kernel
theorem dX3_finds_16 : decode cX3_finds 16 = .ok (.if_icmp .le 7, 3) := by decide +kernel
theorem dX3_finds_19 : decode cX3_finds 19 = .ok (.iconst 1, 1) := by decide +kernel
theorem dX3_finds_20 : decode cX3_finds 20 = .ok (.goto 4, 3) := by decide +kernel
theorem dX3_finds_23 : decode cX3_finds 23 = .ok (.iconst 0, 1) := by decide +kernel
theorem dX3_finds_24 : decode cX3_finds 24 = .ok (.ireturn, 1) := by decide +kernel
theorem dX3_weightOf_0 : decode cX3_weightOf 0 = .ok (.iconst 0, 1) := by decide +kernel
theorem dX3_weightOf_1 : decode cX3_weightOf 1 = .ok (.istore_n 2, 1) := by decide +kernel
theorem dX3_weightOf_2 : decode cX3_weightOf 2 = .ok (.iconst 0, 1) := by decide +kernel
theorem dX3_weightOf_3 : decode cX3_weightOf 3 = .ok (.istore_n 3, 1) := by decide +kernel
theorem dX3_weightOf_4 : decode cX3_weightOf 4 = .ok (.iload_n 3, 1) := by decide +kernel
theorem dX3_weightOf_5 : decode cX3_weightOf 5 = .ok (.bipush 8, 2) := by decide +kernel
theorem dX3_weightOf_7 : decode cX3_weightOf 7 = .ok (.if_icmp .ge 29, 3) := by decide +kernel
theorem dX3_weightOf_10 : decode cX3_weightOf 10 = .ok (.iload_n 1, 1) := by decide +kernel
theorem dX3_weightOf_11 : decode cX3_weightOf 11 = .ok (.iload_n 3, 1) := by decide +kernel
theorem dX3_weightOf_12 : decode cX3_weightOf 12 = .ok (.invokestatic 80, 3) := by decide +kernel
theorem dX3_weightOf_15 : decode cX3_weightOf 15 = .ok (.ifCond .eq 15, 3) := by decide +kernel
theorem dX3_weightOf_18 : decode cX3_weightOf 18 = .ok (.iload_n 2, 1) := by decide +kernel
theorem dX3_weightOf_19 : decode cX3_weightOf 19 = .ok (.aload_n 0, 1) := by decide +kernel
theorem dX3_weightOf_20 : decode cX3_weightOf 20 = .ok (.getfield 41, 3) := by decide +kernel
theorem dX3_weightOf_23 : decode cX3_weightOf 23 = .ok (.getfield 84, 3) := by decide +kernel
theorem dX3_weightOf_26 : decode cX3_weightOf 26 = .ok (.iload_n 3, 1) := by decide +kernel
theorem dX3_weightOf_27 : decode cX3_weightOf 27 = .ok (.iaload, 1) := by decide +kernel
theorem dX3_weightOf_28 : decode cX3_weightOf 28 = .ok (.iadd, 1) := by decide +kernel
theorem dX3_weightOf_29 : decode cX3_weightOf 29 = .ok (.istore_n 2, 1) := by decide +kernel
theorem dX3_weightOf_30 : decode cX3_weightOf 30 = .ok (.iinc 3 1, 3) := by decide +kernel
theorem dX3_weightOf_33 : decode cX3_weightOf 33 = .ok (.goto (-29), 3) := by decide +kernel
theorem dX3_weightOf_36 : decode cX3_weightOf 36 = .ok (.iload_n 2, 1) := by decide +kernel
theorem dX3_weightOf_37 : decode cX3_weightOf 37 = .ok (.ireturn, 1) := by decide +kernel
theorem dX3_fill_0 : decode cX3_fill 0 = .ok (.aload_n 0, 1) := by decide +kernel
theorem dX3_fill_1 : decode cX3_fill 1 = .ok (.iload_n 1, 1) := by decide +kernel
theorem dX3_fill_2 : decode cX3_fill 2 = .ok (.iload 4, 2) := by decide +kernel
theorem dX3_fill_4 : decode cX3_fill 4 = .ok (.iload 5, 2) := by decide +kernel
theorem dX3_fill_6 : decode cX3_fill 6 = .ok (.invokevirtual 87, 3) := by decide +kernel
theorem dX3_fill_9 : decode cX3_fill 9 = .ok (.ifCond .ne 4, 3) := by decide +kernel
theorem dX3_fill_12 : decode cX3_fill 12 = .ok (.return_, 1) := by decide +kernel
theorem dX3_fill_13 : decode cX3_fill 13 = .ok (.iload_n 1, 1) := by decide +kernel
theorem dX3_fill_14 : decode cX3_fill 14 = .ok (.aload_n 0, 1) := by decide +kernel
theorem dX3_fill_15 : decode cX3_fill 15 = .ok (.getfield 12, 3) := by decide +kernel
theorem dX3_fill_18 : decode cX3_fill 18 = .ok (.getfield 48, 3) := by decide +kernel
theorem dX3_fill_21 : decode cX3_fill 21 = .ok (.if_icmp .lt 21, 3) := by decide +kernel
theorem dX3_fill_24 : decode cX3_fill 24 = .ok (.aload_n 0, 1) := by decide +kernel
theorem dX3_fill_25 : decode cX3_fill 25 = .ok (.invokevirtual 91, 3) := by decide +kernel
theorem dX3_fill_28 : decode cX3_fill 28 = .ok (.ifCond .eq 13, 3) := by decide +kernel
theorem dX3_fill_31 : decode cX3_fill 31 = .ok (.aload_n 0, 1) := by decide +kernel
theorem dX3_fill_32 : decode cX3_fill 32 = .ok (.dup, 1) := by decide +kernel
theorem dX3_fill_33 : decode cX3_fill 33 = .ok (.getfield 29, 3) := by decide +kernel
theorem dX3_fill_36 : decode cX3_fill 36 = .ok (.iconst 1, 1) := by decide +kernel
theorem dX3_fill_37 : decode cX3_fill 37 = .ok (.iadd, 1) := by decide +kernel
theorem dX3_fill_38 : decode cX3_fill 38 = .ok (.putfield 29, 3) := by decide +kernel
theorem dX3_fill_41 : decode cX3_fill 41 = .ok (.return_, 1) := by decide +kernel
theorem dX3_fill_42 : decode cX3_fill 42 = .ok (.iload_n 3, 1) := by decide +kernel
theorem dX3_fill_43 : decode cX3_fill 43 = .ok (.ifCond .le 51, 3) := by decide +kernel
theorem dX3_fill_46 : decode cX3_fill 46 = .ok (.aload_n 0, 1) := by decide +kernel
theorem dX3_fill_47 : decode cX3_fill 47 = .ok (.iload_n 1, 1) := by decide +kernel
theorem dX3_fill_48 : decode cX3_fill 48 = .ok (.iconst (-1), 1) := by decide +kernel
theorem dX3_fill_49 : decode cX3_fill 49 = .ok (.invokevirtual 95, 3) := by decide +kernel
theorem dX3_fill_52 : decode cX3_fill 52 = .ok (.ifCond .eq 42, 3) := by decide +kernel
theorem dX3_fill_55 : decode cX3_fill 55 = .ok (.aload_n 0, 1) := by decide +kernel
theorem dX3_fill_56 : decode cX3_fill 56 = .ok (.getfield 12, 3) := by decide +kernel
theorem dX3_fill_59 : decode cX3_fill 59 = .ok (.getfield 98, 3) := by decide +kernel
theorem dX3_fill_62 : decode cX3_fill 62 = .ok (.iload_n 1, 1) := by decide +kernel
theorem dX3_fill_63 : decode cX3_fill 63 = .ok (.iconst (-1), 1) := by decide +kernel
theorem dX3_fill_64 : decode cX3_fill 64 = .ok (.iastore, 1) := by decide +kernel
theorem dX3_fill_65 : decode cX3_fill 65 = .ok (.aload_n 0, 1) := by decide +kernel
theorem dX3_fill_66 : decode cX3_fill 66 = .ok (.getfield 18, 3) := by decide +kernel
theorem dX3_fill_69 : decode cX3_fill 69 = .ok (.iload_n 1, 1) := by decide +kernel
theorem dX3_fill_70 : decode cX3_fill 70 = .ok (.iconst 1, 1) := by decide +kernel
theorem dX3_fill_71 : decode cX3_fill 71 = .ok (.iadd, 1) := by decide +kernel
theorem dX3_fill_72 : decode cX3_fill 72 = .ok (.aload_n 0, 1) := by decide +kernel
theorem dX3_fill_73 : decode cX3_fill 73 = .ok (.getfield 18, 3) := by decide +kernel
theorem dX3_fill_76 : decode cX3_fill 76 = .ok (.iload_n 1, 1) := by decide +kernel
theorem dX3_fill_77 : decode cX3_fill 77 = .ok (.iaload, 1) := by decide +kernel
theorem dX3_fill_78 : decode cX3_fill 78 = .ok (.iastore, 1) := by decide +kernel
theorem dX3_fill_79 : decode cX3_fill 79 = .ok (.aload_n 0, 1) := by decide +kernel
theorem dX3_fill_80 : decode cX3_fill 80 = .ok (.iload_n 1, 1) := by decide +kernel
theorem dX3_fill_81 : decode cX3_fill 81 = .ok (.iconst 1, 1) := by decide +kernel
theorem dX3_fill_82 : decode cX3_fill 82 = .ok (.iadd, 1) := by decide +kernel
theorem dX3_fill_83 : decode cX3_fill 83 = .ok (.iload_n 2, 1) := by decide +kernel
theorem dX3_fill_84 : decode cX3_fill 84 = .ok (.iload_n 3, 1) := by decide +kernel
theorem dX3_fill_85 : decode cX3_fill 85 = .ok (.iconst 1, 1) := by decide +kernel
theorem dX3_fill_86 : decode cX3_fill 86 = .ok (.isub, 1) := by decide +kernel
theorem dX3_fill_87 : decode cX3_fill 87 = .ok (.iload 4, 2) := by decide +kernel
theorem dX3_fill_89 : decode cX3_fill 89 = .ok (.iload 5, 2) := by decide +kernel
theorem dX3_fill_91 : decode cX3_fill 91 = .ok (.invokevirtual 71, 3) := by decide +kernel
theorem dX3_fill_94 : decode cX3_fill 94 = .ok (.iconst 0, 1) := by decide +kernel
theorem dX3_fill_95 : decode cX3_fill 95 = .ok (.istore 6, 2) := by decide +kernel
theorem dX3_fill_97 : decode cX3_fill 97 = .ok (.iload 6, 2) := by decide +kernel
theorem dX3_fill_99 : decode cX3_fill 99 = .ok (.bipush 8, 2) := by decide +kernel
theorem dX3_fill_101 : decode cX3_fill 101 = .ok (.if_icmp .ge 62, 3) := by decide +kernel
theorem dX3_fill_104 : decode cX3_fill 104 = .ok (.aload_n 0, 1) := by decide +kernel
theorem dX3_fill_105 : decode cX3_fill 105 = .ok (.getfield 29, 3) := by decide +kernel
theorem dX3_fill_108 : decode cX3_fill 108 = .ok (.aload_n 0, 1) := by decide +kernel
theorem dX3_fill_109 : decode cX3_fill 109 = .ok (.getfield 32, 3) := by decide +kernel
theorem dX3_fill_112 : decode cX3_fill 112 = .ok (.if_icmp .ge 51, 3) := by decide +kernel
theorem dX3_fill_115 : decode cX3_fill 115 = .ok (.iload_n 2, 1) := by decide +kernel
theorem dX3_fill_116 : decode cX3_fill 116 = .ok (.iload 6, 2) := by decide +kernel
theorem dX3_fill_118 : decode cX3_fill 118 = .ok (.ishr, 1) := by decide +kernel
theorem dX3_fill_119 : decode cX3_fill 119 = .ok (.iconst 1, 1) := by decide +kernel
theorem dX3_fill_120 : decode cX3_fill 120 = .ok (.iand, 1) := by decide +kernel
theorem dX3_fill_121 : decode cX3_fill 121 = .ok (.ifCond .eq 36, 3) := by decide +kernel
theorem dX3_fill_124 : decode cX3_fill 124 = .ok (.aload_n 0, 1) := by decide +kernel
theorem dX3_fill_125 : decode cX3_fill 125 = .ok (.iload_n 1, 1) := by decide +kernel
theorem dX3_fill_126 : decode cX3_fill 126 = .ok (.iload 6, 2) := by decide +kernel
theorem dX3_fill_128 : decode cX3_fill 128 = .ok (.invokevirtual 95, 3) := by decide +kernel
theorem dX3_fill_131 : decode cX3_fill 131 = .ok (.ifCond .eq 26, 3) := by decide +kernel
theorem dX3_fill_134 : decode cX3_fill 134 = .ok (.aload_n 0, 1) := by decide +kernel
theorem dX3_fill_135 : decode cX3_fill 135 = .ok (.iload_n 1, 1) := by decide +kernel
theorem dX3_fill_136 : decode cX3_fill 136 = .ok (.iload 6, 2) := by decide +kernel
theorem dX3_fill_138 : decode cX3_fill 138 = .ok (.invokevirtual 101, 3) := by decide +kernel
theorem dX3_fill_141 : decode cX3_fill 141 = .ok (.ifCond .eq 16, 3) := by decide +kernel
theorem dX3_fill_144 : decode cX3_fill 144 = .ok (.aload_n 0, 1) := by decide +kernel
theorem dX3_fill_145 : decode cX3_fill 145 = .ok (.iload 6, 2) := by decide +kernel
theorem dX3_fill_147 : decode cX3_fill 147 = .ok (.iload_n 1, 1) := by decide +kernel
theorem dX3_fill_148 : decode cX3_fill 148 = .ok (.iload_n 2, 1) := by decide +kernel
theorem dX3_fill_149 : decode cX3_fill 149 = .ok (.iload_n 3, 1) := by decide +kernel
theorem dX3_fill_150 : decode cX3_fill 150 = .ok (.iload 4, 2) := by decide +kernel
theorem dX3_fill_152 : decode cX3_fill 152 = .ok (.iload 5, 2) := by decide +kernel
theorem dX3_fill_154 : decode cX3_fill 154 = .ok (.invokevirtual 104, 3) := by decide +kernel
theorem dX3_fill_157 : decode cX3_fill 157 = .ok (.iinc 6 1, 3) := by decide +kernel
theorem dX3_fill_160 : decode cX3_fill 160 = .ok (.goto (-63), 3) := by decide +kernel
theorem dX3_fill_163 : decode cX3_fill 163 = .ok (.return_, 1) := by decide +kernel
theorem dX3_setDown_0 : decode cX3_setDown 0 = .ok (.aload_n 0, 1) := by decide +kernel
theorem dX3_setDown_1 : decode cX3_setDown 1 = .ok (.getfield 12, 3) := by decide +kernel
theorem dX3_setDown_4 : decode cX3_setDown 4 = .ok (.getfield 98, 3) := by decide +kernel
theorem dX3_setDown_7 : decode cX3_setDown 7 = .ok (.iload_n 2, 1) := by decide +kernel
theorem dX3_setDown_8 : decode cX3_setDown 8 = .ok (.iload_n 1, 1) := by decide +kernel
theorem dX3_setDown_9 : decode cX3_setDown 9 = .ok (.iastore, 1) := by decide +kernel
theorem dX3_setDown_10 : decode cX3_setDown 10 = .ok (.aload_n 0, 1) := by decide +kernel
theorem dX3_setDown_11 : decode cX3_setDown 11 = .ok (.getfield 18, 3) := by decide +kernel
theorem dX3_setDown_14 : decode cX3_setDown 14 = .ok (.iload_n 2, 1) := by decide +kernel
theorem dX3_setDown_15 : decode cX3_setDown 15 = .ok (.iconst 1, 1) := by decide +kernel
theorem dX3_setDown_16 : decode cX3_setDown 16 = .ok (.iadd, 1) := by decide +kernel
theorem dX3_setDown_17 : decode cX3_setDown 17 = .ok (.iload_n 2, 1) := by decide +kernel
theorem dX3_setDown_18 : decode cX3_setDown 18 = .ok (.iastore, 1) := by decide +kernel
theorem dX3_setDown_19 : decode cX3_setDown 19 = .ok (.aload_n 0, 1) := by decide +kernel
theorem dX3_setDown_20 : decode cX3_setDown 20 = .ok (.getfield 41, 3) := by decide +kernel
theorem dX3_setDown_23 : decode cX3_setDown 23 = .ok (.getfield 84, 3) := by decide +kernel
theorem dX3_setDown_26 : decode cX3_setDown 26 = .ok (.iload_n 1, 1) := by decide +kernel
theorem dX3_setDown_27 : decode cX3_setDown 27 = .ok (.iaload, 1) := by decide +kernel
theorem dX3_setDown_28 : decode cX3_setDown 28 = .ok (.istore 7, 2) := by decide +kernel
theorem dX3_setDown_30 : decode cX3_setDown 30 = .ok (.aload_n 0, 1) := by decide +kernel
theorem dX3_setDown_31 : decode cX3_setDown 31 = .ok (.iload_n 2, 1) := by decide +kernel
theorem dX3_setDown_32 : decode cX3_setDown 32 = .ok (.iconst 1, 1) := by decide +kernel
theorem dX3_setDown_33 : decode cX3_setDown 33 = .ok (.iadd, 1) := by decide +kernel
theorem dX3_setDown_34 : decode cX3_setDown 34 = .ok (.iload_n 3, 1) := by decide +kernel
theorem dX3_setDown_35 : decode cX3_setDown 35 = .ok (.iconst 1, 1) := by decide +kernel
theorem dX3_setDown_36 : decode cX3_setDown 36 = .ok (.iload_n 1, 1) := by decide +kernel
theorem dX3_setDown_37 : decode cX3_setDown 37 = .ok (.ishl, 1) := by decide +kernel
theorem dX3_setDown_38 : decode cX3_setDown 38 = .ok (.iconst (-1), 1) := by decide +kernel
theorem dX3_setDown_39 : decode cX3_setDown 39 = .ok (.ixor, 1) := by decide +kernel
theorem dX3_setDown_40 : decode cX3_setDown 40 = .ok (.iand, 1) := by decide +kernel
theorem dX3_setDown_41 : decode cX3_setDown 41 = .ok (.iload 4, 2) := by decide +kernel
theorem dX3_setDown_43 : decode cX3_setDown 43 = .ok (.iload 5, 2) := by decide +kernel
theorem dX3_setDown_45 : decode cX3_setDown 45 = .ok (.iload 7, 2) := by decide +kernel
theorem dX3_setDown_47 : decode cX3_setDown 47 = .ok (.aload_n 0, 1) := by decide +kernel
theorem dX3_setDown_48 : decode cX3_setDown 48 = .ok (.getfield 12, 3) := by decide +kernel
theorem dX3_setDown_51 : decode cX3_setDown 51 = .ok (.iload_n 2, 1) := by decide +kernel
theorem dX3_setDown_52 : decode cX3_setDown 52 = .ok (.invokevirtual 108, 3) := by decide +kernel
theorem dX3_setDown_55 : decode cX3_setDown 55 = .ok (.imul, 1) := by decide +kernel
theorem dX3_setDown_56 : decode cX3_setDown 56 = .ok (.iadd, 1) := by decide +kernel
theorem dX3_setDown_57 : decode cX3_setDown 57 = .ok (.iload 6, 2) := by decide +kernel
theorem dX3_setDown_59 : decode cX3_setDown 59 = .ok (.iload 7, 2) := by decide +kernel
theorem dX3_setDown_61 : decode cX3_setDown 61 = .ok (.isub, 1) := by decide +kernel
theorem dX3_setDown_62 : decode cX3_setDown 62 = .ok (.invokevirtual 71, 3) := by decide +kernel
theorem dX3_setDown_65 : decode cX3_setDown 65 = .ok (.return_, 1) := by decide +kernel
theorem dX3_canBalance_0 : decode cX3_canBalance 0 = .ok (.aload_n 0, 1) := by decide +kernel
theorem dX3_canBalance_1 : decode cX3_canBalance 1 = .ok (.getfield 26, 3) := by decide +kernel
theorem dX3_canBalance_4 : decode cX3_canBalance 4 = .ok (.ldc 75, 2) := by decide +kernel
theorem dX3_canBalance_6 : decode cX3_canBalance 6 = .ok (.if_icmp .eq 50, 3) := by decide +kernel
theorem dX3_canBalance_9 : decode cX3_canBalance 9 = .ok (.iload_n 2, 1) := by decide +kernel
theorem dX3_canBalance_10 : decode cX3_canBalance 10 = .ok (.iload_n 3, 1) := by decide +kernel
theorem dX3_canBalance_11 : decode cX3_canBalance 11 = .ok (.aload_n 0, 1) := by decide +kernel
theorem dX3_canBalance_12 : decode cX3_canBalance 12 = .ok (.getfield 12, 3) := by decide +kernel
theorem dX3_canBalance_15 : decode cX3_canBalance 15 = .ok (.iload_n 1, 1) := by decide +kernel
theorem dX3_canBalance_16 : decode cX3_canBalance 16 = .ok (.invokevirtual 108, 3) := by decide +kernel
theorem dX3_canBalance_19 : decode cX3_canBalance 19 = .ok (.imul, 1) := by decide +kernel
theorem dX3_canBalance_20 : decode cX3_canBalance 20 = .ok (.iadd, 1) := by decide +kernel
theorem dX3_canBalance_21 : decode cX3_canBalance 21 = .ok (.aload_n 0, 1) := by decide +kernel
theorem dX3_canBalance_22 : decode cX3_canBalance 22 = .ok (.getfield 26, 3) := by decide +kernel
theorem dX3_canBalance_25 : decode cX3_canBalance 25 = .ok (.if_icmp .gt 35, 3) := by decide +kernel
theorem dX3_canBalance_28 : decode cX3_canBalance 28 = .ok (.iload_n 2, 1) := by decide +kernel
theorem dX3_canBalance_29 : decode cX3_canBalance 29 = .ok (.iload_n 3, 1) := by decide +kernel
theorem dX3_canBalance_30 : decode cX3_canBalance 30 = .ok (.aload_n 0, 1) := by decide +kernel
theorem dX3_canBalance_31 : decode cX3_canBalance 31 = .ok (.getfield 12, 3) := by decide +kernel
theorem dX3_canBalance_34 : decode cX3_canBalance 34 = .ok (.aload_n 0, 1) := by decide +kernel
theorem dX3_canBalance_35 : decode cX3_canBalance 35 = .ok (.getfield 12, 3) := by decide +kernel
theorem dX3_canBalance_38 : decode cX3_canBalance 38 = .ok (.getfield 48, 3) := by decide +kernel
theorem dX3_canBalance_41 : decode cX3_canBalance 41 = .ok (.iconst 1, 1) := by decide +kernel
theorem dX3_canBalance_42 : decode cX3_canBalance 42 = .ok (.isub, 1) := by decide +kernel
theorem dX3_canBalance_43 : decode cX3_canBalance 43 = .ok (.invokevirtual 108, 3) := by decide +kernel
theorem dX3_canBalance_46 : decode cX3_canBalance 46 = .ok (.imul, 1) := by decide +kernel
theorem dX3_canBalance_47 : decode cX3_canBalance 47 = .ok (.iadd, 1) := by decide +kernel
theorem dX3_canBalance_48 : decode cX3_canBalance 48 = .ok (.aload_n 0, 1) := by decide +kernel
theorem dX3_canBalance_49 : decode cX3_canBalance 49 = .ok (.getfield 26, 3) := by decide +kernel
theorem dX3_canBalance_52 : decode cX3_canBalance 52 = .ok (.ineg, 1) := by decide +kernel
theorem dX3_canBalance_53 : decode cX3_canBalance 53 = .ok (.if_icmp .lt 7, 3) := by decide +kernel
theorem dX3_canBalance_56 : decode cX3_canBalance 56 = .ok (.iconst 1, 1) := by decide +kernel
theorem dX3_canBalance_57 : decode cX3_canBalance 57 = .ok (.goto 4, 3) := by decide +kernel
theorem dX3_canBalance_60 : decode cX3_canBalance 60 = .ok (.iconst 0, 1) := by decide +kernel
theorem dX3_canBalance_61 : decode cX3_canBalance 61 = .ok (.ireturn, 1) := by decide +kernel
theorem dX3_pinAllows_0 : decode cX3_pinAllows 0 = .ok (.iload_n 1, 1) := by decide +kernel
theorem dX3_pinAllows_1 : decode cX3_pinAllows 1 = .ok (.aload_n 0, 1) := by decide +kernel
theorem dX3_pinAllows_2 : decode cX3_pinAllows 2 = .ok (.getfield 38, 3) := by decide +kernel
theorem dX3_pinAllows_5 : decode cX3_pinAllows 5 = .ok (.if_icmp .ne 11, 3) := by decide +kernel
theorem dX3_pinAllows_8 : decode cX3_pinAllows 8 = .ok (.iload_n 2, 1) := by decide +kernel
theorem dX3_pinAllows_9 : decode cX3_pinAllows 9 = .ok (.aload_n 0, 1) := by decide +kernel
theorem dX3_pinAllows_10 : decode cX3_pinAllows 10 = .ok (.getfield 35, 3) := by decide +kernel
theorem dX3_pinAllows_13 : decode cX3_pinAllows 13 = .ok (.if_icmp .ne 7, 3) := by decide +kernel
theorem dX3_pinAllows_16 : decode cX3_pinAllows 16 = .ok (.iconst 1, 1) := by decide +kernel
theorem dX3_pinAllows_17 : decode cX3_pinAllows 17 = .ok (.goto 4, 3) := by decide +kernel
theorem dX3_pinAllows_20 : decode cX3_pinAllows 20 = .ok (.iconst 0, 1) := by decide +kernel
theorem dX3_pinAllows_21 : decode cX3_pinAllows 21 = .ok (.ireturn, 1) := by decide +kernel
theorem dX3_leavesNobodyBetween_0 : decode cX3_leavesNobodyBetween 0 = .ok (.aload_n 0, 1) := by decide +kernel
theorem dX3_leavesNobodyBetween_1 : decode cX3_leavesNobodyBetween 1 = .ok (.getfield 18, 3) := by decide +kernel
theorem dX3_leavesNobodyBetween_4 : decode cX3_leavesNobodyBetween 4 = .ok (.iload_n 1, 1) := by decide +kernel
theorem dX3_leavesNobodyBetween_5 : decode cX3_leavesNobodyBetween 5 = .ok (.iaload, 1) := by decide +kernel
theorem dX3_leavesNobodyBetween_6 : decode cX3_leavesNobodyBetween 6 = .ok (.istore_n 3, 1) := by decide +kernel
theorem dX3_leavesNobodyBetween_7 : decode cX3_leavesNobodyBetween 7 = .ok (.iload_n 3, 1) := by decide +kernel
theorem dX3_leavesNobodyBetween_8 : decode cX3_leavesNobodyBetween 8 = .ok (.iconst (-1), 1) := by decide +kernel
theorem dX3_leavesNobodyBetween_9 : decode cX3_leavesNobodyBetween 9 = .ok (.if_icmp .eq 13, 3) := by decide +kernel
theorem dX3_leavesNobodyBetween_12 : decode cX3_leavesNobodyBetween 12 = .ok (.iload_n 1, 1) := by decide +kernel
theorem dX3_leavesNobodyBetween_13 : decode cX3_leavesNobodyBetween 13 = .ok (.iload_n 3, 1) := by decide +kernel
theorem dX3_leavesNobodyBetween_14 : decode cX3_leavesNobodyBetween 14 = .ok (.isub, 1) := by decide +kernel
theorem dX3_leavesNobodyBetween_15 : decode cX3_leavesNobodyBetween 15 = .ok (.aload_n 0, 1) := by decide +kernel
theorem dX3_leavesNobodyBetween_16 : decode cX3_leavesNobodyBetween 16 = .ok (.getfield 22, 3) := by decide +kernel
theorem dX3_leavesNobodyBetween_19 : decode cX3_leavesNobodyBetween 19 = .ok (.if_icmp .le 5, 3) := by decide +kernel
theorem dX3_leavesNobodyBetween_22 : decode cX3_leavesNobodyBetween 22 = .ok (.iconst 1, 1) := by decide +kernel
theorem dX3_leavesNobodyBetween_23 : decode cX3_leavesNobodyBetween 23 = .ok (.ireturn, 1) := by decide +kernel
theorem dX3_leavesNobodyBetween_24 : decode cX3_leavesNobodyBetween 24 = .ok (.aload_n 0, 1) := by decide +kernel
theorem dX3_leavesNobodyBetween_25 : decode cX3_leavesNobodyBetween 25 = .ok (.getfield 18, 3) := by decide +kernel
theorem dX3_leavesNobodyBetween_28 : decode cX3_leavesNobodyBetween 28 = .ok (.iload_n 3, 1) := by decide +kernel
theorem dX3_leavesNobodyBetween_29 : decode cX3_leavesNobodyBetween 29 = .ok (.iaload, 1) := by decide +kernel
theorem dX3_leavesNobodyBetween_30 : decode cX3_leavesNobodyBetween 30 = .ok (.istore 4, 2) := by decide +kernel
theorem dX3_leavesNobodyBetween_32 : decode cX3_leavesNobodyBetween 32 = .ok (.iload 4, 2) := by decide +kernel
theorem dX3_leavesNobodyBetween_34 : decode cX3_leavesNobodyBetween 34 = .ok (.iconst (-1), 1) := by decide +kernel
theorem dX3_leavesNobodyBetween_35 : decode cX3_leavesNobodyBetween 35 = .ok (.if_icmp .eq 35, 3) := by decide +kernel
theorem dX3_leavesNobodyBetween_38 : decode cX3_leavesNobodyBetween 38 = .ok (.iload_n 3, 1) := by decide +kernel
theorem dX3_leavesNobodyBetween_39 : decode cX3_leavesNobodyBetween 39 = .ok (.iload 4, 2) := by decide +kernel
theorem dX3_leavesNobodyBetween_41 : decode cX3_leavesNobodyBetween 41 = .ok (.isub, 1) := by decide +kernel
theorem dX3_leavesNobodyBetween_42 : decode cX3_leavesNobodyBetween 42 = .ok (.aload_n 0, 1) := by decide +kernel
theorem dX3_leavesNobodyBetween_43 : decode cX3_leavesNobodyBetween 43 = .ok (.getfield 22, 3) := by decide +kernel
theorem dX3_leavesNobodyBetween_46 : decode cX3_leavesNobodyBetween 46 = .ok (.if_icmp .gt 24, 3) := by decide +kernel
theorem dX3_leavesNobodyBetween_49 : decode cX3_leavesNobodyBetween 49 = .ok (.aload_n 0, 1) := by decide +kernel
theorem dX3_leavesNobodyBetween_50 : decode cX3_leavesNobodyBetween 50 = .ok (.getfield 41, 3) := by decide +kernel
theorem dX3_leavesNobodyBetween_53 : decode cX3_leavesNobodyBetween 53 = .ok (.aload_n 0, 1) := by decide +kernel
theorem dX3_leavesNobodyBetween_54 : decode cX3_leavesNobodyBetween 54 = .ok (.getfield 12, 3) := by decide +kernel
theorem dX3_leavesNobodyBetween_57 : decode cX3_leavesNobodyBetween 57 = .ok (.getfield 98, 3) := by decide +kernel
theorem dX3_leavesNobodyBetween_60 : decode cX3_leavesNobodyBetween 60 = .ok (.iload 4, 2) := by decide +kernel
theorem dX3_leavesNobodyBetween_62 : decode cX3_leavesNobodyBetween 62 = .ok (.iaload, 1) := by decide +kernel
theorem dX3_leavesNobodyBetween_63 : decode cX3_leavesNobodyBetween 63 = .ok (.iload_n 2, 1) := by decide +kernel
theorem dX3_leavesNobodyBetween_64 : decode cX3_leavesNobodyBetween 64 = .ok (.invokevirtual 111, 3) := by decide +kernel
theorem dX3_leavesNobodyBetween_67 : decode cX3_leavesNobodyBetween 67 = .ok (.ifCond .ne 7, 3) := by decide +kernel
theorem dX3_leavesNobodyBetween_70 : decode cX3_leavesNobodyBetween 70 = .ok (.iconst 1, 1) := by decide +kernel
theorem dX3_leavesNobodyBetween_71 : decode cX3_leavesNobodyBetween 71 = .ok (.goto 4, 3) := by decide +kernel
theorem dX3_leavesNobodyBetween_74 : decode cX3_leavesNobodyBetween 74 = .ok (.iconst 0, 1) := by decide +kernel
theorem dX3_leavesNobodyBetween_75 : decode cX3_leavesNobodyBetween 75 = .ok (.ireturn, 1) := by decide +kernel
theorem dX3_closesRound_0 : decode cX3_closesRound 0 = .ok (.getstatic 114, 3) := by decide +kernel
theorem dX3_closesRound_3 : decode cX3_closesRound 3 = .ok (.aload_n 0, 1) := by decide +kernel
theorem dX3_closesRound_4 : decode cX3_closesRound 4 = .ok (.getfield 12, 3) := by decide +kernel
theorem dX3_closesRound_7 : decode cX3_closesRound 7 = .ok (.getfield 45, 3) := by decide +kernel
theorem dX3_closesRound_10 : decode cX3_closesRound 10 = .ok (.iaload, 1) := by decide +kernel
theorem dX3_closesRound_11 : decode cX3_closesRound 11 = .ok (.ifCond .eq 71, 3) := by decide +kernel
theorem dX3_closesRound_14 : decode cX3_closesRound 14 = .ok (.aload_n 0, 1) := by decide +kernel
theorem dX3_closesRound_15 : decode cX3_closesRound 15 = .ok (.getfield 41, 3) := by decide +kernel
theorem dX3_closesRound_18 : decode cX3_closesRound 18 = .ok (.aload_n 0, 1) := by decide +kernel
theorem dX3_closesRound_19 : decode cX3_closesRound 19 = .ok (.getfield 12, 3) := by decide +kernel
theorem dX3_closesRound_22 : decode cX3_closesRound 22 = .ok (.iconst 0, 1) := by decide +kernel
theorem dX3_closesRound_23 : decode cX3_closesRound 23 = .ok (.aload_n 0, 1) := by decide +kernel
theorem dX3_closesRound_24 : decode cX3_closesRound 24 = .ok (.getfield 22, 3) := by decide +kernel
theorem dX3_closesRound_27 : decode cX3_closesRound 27 = .ok (.aload_n 0, 1) := by decide +kernel
theorem dX3_closesRound_28 : decode cX3_closesRound 28 = .ok (.getfield 12, 3) := by decide +kernel
theorem dX3_closesRound_31 : decode cX3_closesRound 31 = .ok (.getfield 48, 3) := by decide +kernel
theorem dX3_closesRound_34 : decode cX3_closesRound 34 = .ok (.invokestatic 117, 3) := by decide +kernel
theorem dX3_closesRound_37 : decode cX3_closesRound 37 = .ok (.invokevirtual 123, 3) := by decide +kernel
theorem dX3_closesRound_40 : decode cX3_closesRound 40 = .ok (.iconst (-1), 1) := by decide +kernel
theorem dX3_closesRound_41 : decode cX3_closesRound 41 = .ok (.if_icmp .ne 45, 3) := by decide +kernel
theorem dX3_closesRound_44 : decode cX3_closesRound 44 = .ok (.aload_n 0, 1) := by decide +kernel
theorem dX3_closesRound_45 : decode cX3_closesRound 45 = .ok (.getfield 41, 3) := by decide +kernel
theorem dX3_closesRound_48 : decode cX3_closesRound 48 = .ok (.aload_n 0, 1) := by decide +kernel
theorem dX3_closesRound_49 : decode cX3_closesRound 49 = .ok (.getfield 12, 3) := by decide +kernel
theorem dX3_closesRound_52 : decode cX3_closesRound 52 = .ok (.aload_n 0, 1) := by decide +kernel
theorem dX3_closesRound_53 : decode cX3_closesRound 53 = .ok (.getfield 12, 3) := by decide +kernel
theorem dX3_closesRound_56 : decode cX3_closesRound 56 = .ok (.getfield 48, 3) := by decide +kernel
theorem dX3_closesRound_59 : decode cX3_closesRound 59 = .ok (.aload_n 0, 1) := by decide +kernel
theorem dX3_closesRound_60 : decode cX3_closesRound 60 = .ok (.getfield 22, 3) := by decide +kernel
theorem dX3_closesRound_63 : decode cX3_closesRound 63 = .ok (.isub, 1) := by decide +kernel
theorem dX3_closesRound_64 : decode cX3_closesRound 64 = .ok (.iconst 0, 1) := by decide +kernel
theorem dX3_closesRound_65 : decode cX3_closesRound 65 = .ok (.invokestatic 127, 3) := by decide +kernel
theorem dX3_closesRound_68 : decode cX3_closesRound 68 = .ok (.aload_n 0, 1) := by decide +kernel
theorem dX3_closesRound_69 : decode cX3_closesRound 69 = .ok (.getfield 12, 3) := by decide +kernel
theorem dX3_closesRound_72 : decode cX3_closesRound 72 = .ok (.getfield 48, 3) := by decide +kernel
theorem dX3_closesRound_75 : decode cX3_closesRound 75 = .ok (.invokevirtual 123, 3) := by decide +kernel
theorem dX3_closesRound_78 : decode cX3_closesRound 78 = .ok (.iconst (-1), 1) := by decide +kernel
theorem dX3_closesRound_79 : decode cX3_closesRound 79 = .ok (.if_icmp .ne 7, 3) := by decide +kernel
theorem dX3_closesRound_82 : decode cX3_closesRound 82 = .ok (.iconst 1, 1) := by decide +kernel
theorem dX3_closesRound_83 : decode cX3_closesRound 83 = .ok (.goto 4, 3) := by decide +kernel
theorem dX3_closesRound_86 : decode cX3_closesRound 86 = .ok (.iconst 0, 1) := by decide +kernel
theorem dX3_closesRound_87 : decode cX3_closesRound 87 = .ok (.ireturn, 1) := by decide +kernel
theorem dX4_init_0 : decode cX4_init 0 = .ok (.aload_n 0, 1) := by decide +kernel
theorem dX4_init_1 : decode cX4_init 1 = .ok (.invokespecial 3, 3) := by decide +kernel
theorem dX4_init_4 : decode cX4_init 4 = .ok (.aload_n 0, 1) := by decide +kernel
theorem dX4_init_5 : decode cX4_init 5 = .ok (.iconst 0, 1) := by decide +kernel
theorem dX4_init_6 : decode cX4_init 6 = .ok (.putfield 9, 3) := by decide +kernel
theorem dX4_init_9 : decode cX4_init 9 = .ok (.aload_n 0, 1) := by decide +kernel
theorem dX4_init_10 : decode cX4_init 10 = .ok (.iconst 0, 1) := by decide +kernel
theorem dX4_init_11 : decode cX4_init 11 = .ok (.putfield 15, 3) := by decide +kernel
theorem dX4_init_14 : decode cX4_init 14 = .ok (.aload_n 0, 1) := by decide +kernel
theorem dX4_init_15 : decode cX4_init 15 = .ok (.bipush 40, 2) := by decide +kernel
theorem dX4_init_17 : decode cX4_init 17 = .ok (.newarray .int, 2) := by decide +kernel
theorem dX4_init_19 : decode cX4_init 19 = .ok (.putfield 18, 3) := by decide +kernel
theorem dX4_init_22 : decode cX4_init 22 = .ok (.return_, 1) := by decide +kernel
theorem dX4_clear_0 : decode cX4_clear 0 = .ok (.aload_n 0, 1) := by decide +kernel
theorem dX4_clear_1 : decode cX4_clear 1 = .ok (.iload_n 1, 1) := by decide +kernel
theorem dX4_clear_2 : decode cX4_clear 2 = .ok (.putfield 9, 3) := by decide +kernel
theorem dX4_clear_5 : decode cX4_clear 5 = .ok (.aload_n 0, 1) := by decide +kernel
theorem dX4_clear_6 : decode cX4_clear 6 = .ok (.iload_n 2, 1) := by decide +kernel
theorem dX4_clear_7 : decode cX4_clear 7 = .ok (.putfield 15, 3) := by decide +kernel
theorem dX4_clear_10 : decode cX4_clear 10 = .ok (.aload_n 0, 1) := by decide +kernel
theorem dX4_clear_11 : decode cX4_clear 11 = .ok (.getfield 18, 3) := by decide +kernel
theorem dX4_clear_14 : decode cX4_clear 14 = .ok (.iconst 0, 1) := by decide +kernel
theorem dX4_clear_15 : decode cX4_clear 15 = .ok (.invokestatic 22, 3) := by decide +kernel
theorem dX4_clear_18 : decode cX4_clear 18 = .ok (.return_, 1) := by decide +kernel
theorem dX4_isMissing_0 : decode cX4_isMissing 0 = .ok (.aload_n 0, 1) := by decide +kernel
theorem dX4_isMissing_1 : decode cX4_isMissing 1 = .ok (.getfield 9, 3) := by decide +kernel
theorem dX4_isMissing_4 : decode cX4_isMissing 4 = .ok (.ifCond .ne 7, 3) := by decide +kernel
theorem dX4_isMissing_7 : decode cX4_isMissing 7 = .ok (.iconst 1, 1) := by decide +kernel
theorem dX4_isMissing_8 : decode cX4_isMissing 8 = .ok (.goto 4, 3) := by decide +kernel
theorem dX4_isMissing_11 : decode cX4_isMissing 11 = .ok (.iconst 0, 1) := by decide +kernel
theorem dX4_isMissing_12 : decode cX4_isMissing 12 = .ok (.ireturn, 1) := by decide +kernel
theorem dX4_put_0 : decode cX4_put 0 = .ok (.aload_n 0, 1) := by decide +kernel
theorem dX4_put_1 : decode cX4_put 1 = .ok (.getfield 9, 3) := by decide +kernel
theorem dX4_put_4 : decode cX4_put 4 = .ok (.bipush 8, 2) := by decide +kernel
theorem dX4_put_6 : decode cX4_put 6 = .ok (.if_icmp .ne 14, 3) := by decide +kernel
theorem dX4_put_9 : decode cX4_put 9 = .ok (.aload_n 0, 1) := by decide +kernel
theorem dX4_put_10 : decode cX4_put 10 = .ok (.getfield 18, 3) := by decide +kernel
theorem dX4_put_13 : decode cX4_put 13 = .ok (.iload_n 1, 1) := by decide +kernel
theorem dX4_put_14 : decode cX4_put 14 = .ok (.iload_n 2, 1) := by decide +kernel
theorem dX4_put_15 : decode cX4_put 15 = .ok (.i2b, 1) := by decide +kernel
theorem dX4_put_16 : decode cX4_put 16 = .ok (.iastore, 1) := by decide +kernel
theorem dX4_put_17 : decode cX4_put 17 = .ok (.goto 24, 3) := by decide +kernel
theorem dX4_put_20 : decode cX4_put 20 = .ok (.aload_n 0, 1) := by decide +kernel
theorem dX4_put_21 : decode cX4_put 21 = .ok (.getfield 18, 3) := by decide +kernel
theorem dX4_put_24 : decode cX4_put 24 = .ok (.iload_n 1, 1) := by decide +kernel
theorem dX4_put_25 : decode cX4_put 25 = .ok (.aload_n 0, 1) := by decide +kernel
theorem dX4_put_26 : decode cX4_put 26 = .ok (.getfield 9, 3) := by decide +kernel
theorem dX4_put_29 : decode cX4_put 29 = .ok (.bipush 16, 2) := by decide +kernel
theorem dX4_put_31 : decode cX4_put 31 = .ok (.if_icmp .ne 8, 3) := by decide +kernel
theorem dX4_put_34 : decode cX4_put 34 = .ok (.iload_n 2, 1) := by decide +kernel
theorem dX4_put_35 : decode cX4_put 35 = .ok (.i2s, 1) := by decide +kernel
theorem dX4_put_36 : decode cX4_put 36 = .ok (.goto 4, 3) := by decide +kernel
theorem dX4_put_39 : decode cX4_put 39 = .ok (.iload_n 2, 1) := by decide +kernel
theorem dX4_put_40 : decode cX4_put 40 = .ok (.iastore, 1) := by decide +kernel
theorem dX4_put_41 : decode cX4_put 41 = .ok (.return_, 1) := by decide +kernel
theorem dX4_hasPart_0 : decode cX4_hasPart 0 = .ok (.iload_n 1, 1) := by decide +kernel
theorem dX4_hasPart_1 : decode cX4_hasPart 1 = .ok (.ifCond .lt 21, 3) := by decide +kernel
theorem dX4_hasPart_4 : decode cX4_hasPart 4 = .ok (.iload_n 2, 1) := by decide +kernel
theorem dX4_hasPart_5 : decode cX4_hasPart 5 = .ok (.ifCond .lt 17, 3) := by decide +kernel
theorem dX4_hasPart_8 : decode cX4_hasPart 8 = .ok (.iload_n 1, 1) := by decide +kernel
theorem dX4_hasPart_9 : decode cX4_hasPart 9 = .ok (.aload_n 0, 1) := by decide +kernel
theorem dX4_hasPart_10 : decode cX4_hasPart 10 = .ok (.getfield 15, 3) := by decide +kernel
theorem dX4_hasPart_13 : decode cX4_hasPart 13 = .ok (.iload_n 2, 1) := by decide +kernel
theorem dX4_hasPart_14 : decode cX4_hasPart 14 = .ok (.isub, 1) := by decide +kernel
theorem dX4_hasPart_15 : decode cX4_hasPart 15 = .ok (.if_icmp .gt 7, 3) := by decide +kernel
theorem dX4_hasPart_18 : decode cX4_hasPart 18 = .ok (.iconst 1, 1) := by decide +kernel
theorem dX4_hasPart_19 : decode cX4_hasPart 19 = .ok (.goto 4, 3) := by decide +kernel
theorem dX4_hasPart_22 : decode cX4_hasPart 22 = .ok (.iconst 0, 1) := by decide +kernel
theorem dX4_hasPart_23 : decode cX4_hasPart 23 = .ok (.ireturn, 1) := by decide +kernel
theorem dX4_firstNoSeater_0 : decode cX4_firstNoSeater 0 = .ok (.iconst 0, 1) := by decide +kernel
theorem dX4_firstNoSeater_1 : decode cX4_firstNoSeater 1 = .ok (.istore_n 1, 1) := by decide +kernel
theorem dX4_firstNoSeater_2 : decode cX4_firstNoSeater 2 = .ok (.iconst 0, 1) := by decide +kernel
theorem dX4_firstNoSeater_3 : decode cX4_firstNoSeater 3 = .ok (.istore_n 2, 1) := by decide +kernel
theorem dX4_firstNoSeater_4 : decode cX4_firstNoSeater 4 = .ok (.iload_n 2, 1) := by decide +kernel
theorem dX4_firstNoSeater_5 : decode cX4_firstNoSeater 5 = .ok (.aload_n 0, 1) := by decide +kernel
theorem dX4_firstNoSeater_6 : decode cX4_firstNoSeater 6 = .ok (.getfield 15, 3) := by decide +kernel
theorem dX4_firstNoSeater_9 : decode cX4_firstNoSeater 9 = .ok (.if_icmp .ge 45, 3) := by decide +kernel
theorem dX4_firstNoSeater_12 : decode cX4_firstNoSeater 12 = .ok (.aload_n 0, 1) := by decide +kernel
theorem dX4_firstNoSeater_13 : decode cX4_firstNoSeater 13 = .ok (.getfield 18, 3) := by decide +kernel
theorem dX4_firstNoSeater_16 : decode cX4_firstNoSeater 16 = .ok (.iload_n 2, 1) := by decide +kernel
theorem dX4_firstNoSeater_17 : decode cX4_firstNoSeater 17 = .ok (.iaload, 1) := by decide +kernel
theorem dX4_firstNoSeater_18 : decode cX4_firstNoSeater 18 = .ok (.istore_n 3, 1) := by decide +kernel
theorem dX4_firstNoSeater_19 : decode cX4_firstNoSeater 19 = .ok (.iload_n 3, 1) := by decide +kernel
theorem dX4_firstNoSeater_20 : decode cX4_firstNoSeater 20 = .ok (.bipush 8, 2) := by decide +kernel
theorem dX4_firstNoSeater_22 : decode cX4_firstNoSeater 22 = .ok (.if_icmp .eq 26, 3) := by decide +kernel
theorem dX4_firstNoSeater_25 : decode cX4_firstNoSeater 25 = .ok (.iload_n 3, 1) := by decide +kernel
theorem dX4_firstNoSeater_26 : decode cX4_firstNoSeater 26 = .ok (.invokestatic 28, 3) := by decide +kernel
theorem dX4_firstNoSeater_29 : decode cX4_firstNoSeater 29 = .ok (.ifCond .eq 11, 3) := by decide +kernel
theorem dX4_firstNoSeater_32 : decode cX4_firstNoSeater 32 = .ok (.iload_n 1, 1) := by decide +kernel
theorem dX4_firstNoSeater_33 : decode cX4_firstNoSeater 33 = .ok (.iload_n 3, 1) := by decide +kernel
theorem dX4_firstNoSeater_34 : decode cX4_firstNoSeater 34 = .ok (.invokestatic 32, 3) := by decide +kernel
theorem dX4_firstNoSeater_37 : decode cX4_firstNoSeater 37 = .ok (.ifCond .eq 5, 3) := by decide +kernel
theorem dX4_firstNoSeater_40 : decode cX4_firstNoSeater 40 = .ok (.iload_n 2, 1) := by decide +kernel
theorem dX4_firstNoSeater_41 : decode cX4_firstNoSeater 41 = .ok (.ireturn, 1) := by decide +kernel
theorem dX4_firstNoSeater_42 : decode cX4_firstNoSeater 42 = .ok (.iload_n 1, 1) := by decide +kernel
theorem dX4_firstNoSeater_43 : decode cX4_firstNoSeater 43 = .ok (.iconst 1, 1) := by decide +kernel
theorem dX4_firstNoSeater_44 : decode cX4_firstNoSeater 44 = .ok (.iload_n 3, 1) := by decide +kernel
theorem dX4_firstNoSeater_45 : decode cX4_firstNoSeater 45 = .ok (.ishl, 1) := by decide +kernel
theorem dX4_firstNoSeater_46 : decode cX4_firstNoSeater 46 = .ok (.ior, 1) := by decide +kernel
theorem dX4_firstNoSeater_47 : decode cX4_firstNoSeater 47 = .ok (.istore_n 1, 1) := by decide +kernel
theorem dX4_firstNoSeater_48 : decode cX4_firstNoSeater 48 = .ok (.iinc 2 1, 3) := by decide +kernel
theorem dX4_firstNoSeater_51 : decode cX4_firstNoSeater 51 = .ok (.goto (-47), 3) := by decide +kernel
theorem dX4_firstNoSeater_54 : decode cX4_firstNoSeater 54 = .ok (.iconst (-1), 1) := by decide +kernel
theorem dX4_firstNoSeater_55 : decode cX4_firstNoSeater 55 = .ok (.ireturn, 1) := by decide +kernel
theorem dX5_init_0 : decode cX5_init 0 = .ok (.aload_n 0, 1) := by decide +kernel
theorem dX5_init_1 : decode cX5_init 1 = .ok (.invokespecial 3, 3) := by decide +kernel
theorem dX5_init_4 : decode cX5_init 4 = .ok (.aload_n 0, 1) := by decide +kernel
theorem dX5_init_5 : decode cX5_init 5 = .ok (.iconst 0, 1) := by decide +kernel
theorem dX5_init_6 : decode cX5_init 6 = .ok (.putfield 9, 3) := by decide +kernel
theorem dX5_init_9 : decode cX5_init 9 = .ok (.aload_n 0, 1) := by decide +kernel
theorem dX5_init_10 : decode cX5_init 10 = .ok (.iconst 0, 1) := by decide +kernel
theorem dX5_init_11 : decode cX5_init 11 = .ok (.putfield 15, 3) := by decide +kernel
theorem dX5_init_14 : decode cX5_init 14 = .ok (.aload_n 0, 1) := by decide +kernel
theorem dX5_init_15 : decode cX5_init 15 = .ok (.iconst 0, 1) := by decide +kernel
theorem dX5_init_16 : decode cX5_init 16 = .ok (.putfield 18, 3) := by decide +kernel
theorem dX5_init_19 : decode cX5_init 19 = .ok (.aload_n 0, 1) := by decide +kernel
theorem dX5_init_20 : decode cX5_init 20 = .ok (.iconst 0, 1) := by decide +kernel
theorem dX5_init_21 : decode cX5_init 21 = .ok (.putfield 21, 3) := by decide +kernel
theorem dX5_init_24 : decode cX5_init 24 = .ok (.aload_n 0, 1) := by decide +kernel
theorem dX5_init_25 : decode cX5_init 25 = .ok (.iconst 0, 1) := by decide +kernel
theorem dX5_init_26 : decode cX5_init 26 = .ok (.putfield 24, 3) := by decide +kernel
theorem dX5_init_29 : decode cX5_init 29 = .ok (.aload_n 0, 1) := by decide +kernel
theorem dX5_init_30 : decode cX5_init 30 = .ok (.aload_n 1, 1) := by decide +kernel
theorem dX5_init_31 : decode cX5_init 31 = .ok (.putfield 27, 3) := by decide +kernel
theorem dX5_init_34 : decode cX5_init 34 = .ok (.aload_n 0, 1) := by decide +kernel
theorem dX5_init_35 : decode cX5_init 35 = .ok (.aload_n 2, 1) := by decide +kernel
theorem dX5_init_36 : decode cX5_init 36 = .ok (.putfield 31, 3) := by decide +kernel
theorem dX5_init_39 : decode cX5_init 39 = .ok (.return_, 1) := by decide +kernel
theorem dX5_take_0 : decode cX5_take 0 = .ok (.aload_n 0, 1) := by decide +kernel
theorem dX5_take_1 : decode cX5_take 1 = .ok (.iload_n 1, 1) := by decide +kernel
theorem dX5_take_2 : decode cX5_take 2 = .ok (.putfield 9, 3) := by decide +kernel
theorem dX5_take_5 : decode cX5_take 5 = .ok (.aload_n 0, 1) := by decide +kernel
theorem dX5_take_6 : decode cX5_take 6 = .ok (.iconst 0, 1) := by decide +kernel
theorem dX5_take_7 : decode cX5_take 7 = .ok (.putfield 21, 3) := by decide +kernel
theorem dX5_take_10 : decode cX5_take 10 = .ok (.iconst 1, 1) := by decide +kernel
theorem dX5_take_11 : decode cX5_take 11 = .ok (.istore_n 2, 1) := by decide +kernel
theorem dX5_take_12 : decode cX5_take 12 = .ok (.iload_n 2, 1) := by decide +kernel
theorem dX5_take_13 : decode cX5_take 13 = .ok (.bipush 120, 2) := by decide +kernel
theorem dX5_take_15 : decode cX5_take 15 = .ok (.if_icmp .gt 51, 3) := by decide +kernel
theorem dX5_take_18 : decode cX5_take 18 = .ok (.aload_n 0, 1) := by decide +kernel
theorem dX5_take_19 : decode cX5_take 19 = .ok (.invokevirtual 35, 3) := by decide +kernel
theorem dX5_take_22 : decode cX5_take 22 = .ok (.aload_n 0, 1) := by decide +kernel
theorem dX5_take_23 : decode cX5_take 23 = .ok (.invokevirtual 38, 3) := by decide +kernel
theorem dX5_take_26 : decode cX5_take 26 = .ok (.ifCond .ne 10, 3) := by decide +kernel
theorem dX5_take_29 : decode cX5_take 29 = .ok (.iconst (-1), 1) := by decide +kernel
theorem dX5_take_30 : decode cX5_take 30 = .ok (.aload_n 0, 1) := by decide +kernel
theorem dX5_take_31 : decode cX5_take 31 = .ok (.getfield 18, 3) := by decide +kernel
theorem dX5_take_34 : decode cX5_take 34 = .ok (.isub, 1) := by decide +kernel
theorem dX5_take_35 : decode cX5_take 35 = .ok (.ireturn, 1) := by decide +kernel
theorem dX5_take_36 : decode cX5_take 36 = .ok (.aload_n 0, 1) := by decide +kernel
theorem dX5_take_37 : decode cX5_take 37 = .ok (.getfield 15, 3) := by decide +kernel
theorem dX5_take_40 : decode cX5_take 40 = .ok (.ifCond .ne 5, 3) := by decide +kernel
theorem dX5_take_43 : decode cX5_take 43 = .ok (.iload_n 2, 1) := by decide +kernel
theorem dX5_take_44 : decode cX5_take 44 = .ok (.ireturn, 1) := by decide +kernel
theorem dX5_take_45 : decode cX5_take 45 = .ok (.aload_n 0, 1) := by decide +kernel
theorem dX5_take_46 : decode cX5_take 46 = .ok (.getfield 15, 3) := by decide +kernel
theorem dX5_take_49 : decode cX5_take 49 = .ok (.iconst 3, 1) := by decide +kernel
theorem dX5_take_50 : decode cX5_take 50 = .ok (.if_icmp .eq 10, 3) := by decide +kernel
theorem dX5_take_53 : decode cX5_take 53 = .ok (.iconst (-1), 1) := by decide +kernel
theorem dX5_take_54 : decode cX5_take 54 = .ok (.aload_n 0, 1) := by decide +kernel
theorem dX5_take_55 : decode cX5_take 55 = .ok (.getfield 18, 3) := by decide +kernel
theorem dX5_take_58 : decode cX5_take 58 = .ok (.isub, 1) := by decide +kernel
theorem dX5_take_59 : decode cX5_take 59 = .ok (.ireturn, 1) := by decide +kernel
theorem dX5_take_60 : decode cX5_take 60 = .ok (.iinc 2 1, 3) := by decide +kernel
theorem dX5_take_63 : decode cX5_take 63 = .ok (.goto (-51), 3) := by decide +kernel
theorem dX5_take_66 : decode cX5_take 66 = .ok (.iconst (-1), 1) := by decide +kernel
theorem dX5_take_67 : decode cX5_take 67 = .ok (.aload_n 0, 1) := by decide +kernel
theorem dX5_take_68 : decode cX5_take 68 = .ok (.getfield 18, 3) := by decide +kernel
theorem dX5_take_71 : decode cX5_take 71 = .ok (.isub, 1) := by decide +kernel
theorem dX5_take_72 : decode cX5_take 72 = .ok (.ireturn, 1) := by decide +kernel
theorem dX5_step_0 : decode cX5_step 0 = .ok (.aload_n 0, 1) := by decide +kernel
theorem dX5_step_1 : decode cX5_step 1 = .ok (.aload_n 0, 1) := by decide +kernel
theorem dX5_step_2 : decode cX5_step 2 = .ok (.getfield 21, 3) := by decide +kernel
theorem dX5_step_5 : decode cX5_step 5 = .ok (.putfield 18, 3) := by decide +kernel
theorem dX5_step_8 : decode cX5_step 8 = .ok (.aload_n 0, 1) := by decide +kernel
theorem dX5_step_9 : decode cX5_step 9 = .ok (.getfield 18, 3) := by decide +kernel
theorem dX5_step_12 : decode cX5_step 12 = .ok (.aload_n 0, 1) := by decide +kernel
theorem dX5_step_13 : decode cX5_step 13 = .ok (.getfield 9, 3) := by decide +kernel
theorem dX5_step_16 : decode cX5_step 16 = .ok (.if_icmp .ge 30, 3) := by decide +kernel
theorem dX5_step_19 : decode cX5_step 19 = .ok (.aload_n 0, 1) := by decide +kernel
theorem dX5_step_20 : decode cX5_step 20 = .ok (.getfield 27, 3) := by decide +kernel
theorem dX5_step_23 : decode cX5_step 23 = .ok (.aload_n 0, 1) := by decide +kernel
theorem dX5_step_24 : decode cX5_step 24 = .ok (.getfield 18, 3) := by decide +kernel
theorem dX5_step_27 : decode cX5_step 27 = .ok (.iaload, 1) := by decide +kernel
theorem dX5_step_28 : decode cX5_step 28 = .ok (.bipush 32, 2) := by decide +kernel
theorem dX5_step_30 : decode cX5_step 30 = .ok (.if_icmp .ne 16, 3) := by decide +kernel
theorem dX5_step_33 : decode cX5_step 33 = .ok (.aload_n 0, 1) := by decide +kernel
theorem dX5_step_34 : decode cX5_step 34 = .ok (.dup, 1) := by decide +kernel
theorem dX5_step_35 : decode cX5_step 35 = .ok (.getfield 18, 3) := by decide +kernel
theorem dX5_step_38 : decode cX5_step 38 = .ok (.iconst 1, 1) := by decide +kernel
theorem dX5_step_39 : decode cX5_step 39 = .ok (.iadd, 1) := by decide +kernel
theorem dX5_step_40 : decode cX5_step 40 = .ok (.putfield 18, 3) := by decide +kernel
theorem dX5_step_43 : decode cX5_step 43 = .ok (.goto (-35), 3) := by decide +kernel
theorem dX5_step_46 : decode cX5_step 46 = .ok (.aload_n 0, 1) := by decide +kernel
theorem dX5_step_47 : decode cX5_step 47 = .ok (.aload_n 0, 1) := by decide +kernel
theorem dX5_step_48 : decode cX5_step 48 = .ok (.getfield 18, 3) := by decide +kernel
theorem dX5_step_51 : decode cX5_step 51 = .ok (.putfield 21, 3) := by decide +kernel
theorem dX5_step_54 : decode cX5_step 54 = .ok (.aload_n 0, 1) := by decide +kernel
theorem dX5_step_55 : decode cX5_step 55 = .ok (.getfield 18, 3) := by decide +kernel
theorem dX5_step_58 : decode cX5_step 58 = .ok (.aload_n 0, 1) := by decide +kernel
theorem dX5_step_59 : decode cX5_step 59 = .ok (.getfield 9, 3) := by decide +kernel
theorem dX5_step_62 : decode cX5_step 62 = .ok (.if_icmp .lt 11, 3) := by decide +kernel
theorem dX5_step_65 : decode cX5_step 65 = .ok (.aload_n 0, 1) := by decide +kernel
theorem dX5_step_66 : decode cX5_step 66 = .ok (.iconst 0, 1) := by decide +kernel
theorem dX5_step_67 : decode cX5_step 67 = .ok (.putfield 15, 3) := by decide +kernel
theorem dX5_step_70 : decode cX5_step 70 = .ok (.goto 189, 3) := by decide +kernel
theorem dX5_step_73 : decode cX5_step 73 = .ok (.aload_n 0, 1) := by decide +kernel
theorem dX5_step_74 : decode cX5_step 74 = .ok (.getfield 27, 3) := by decide +kernel
theorem dX5_step_77 : decode cX5_step 77 = .ok (.aload_n 0, 1) := by decide +kernel
theorem dX5_step_78 : decode cX5_step 78 = .ok (.getfield 18, 3) := by decide +kernel
theorem dX5_step_81 : decode cX5_step 81 = .ok (.iaload, 1) := by decide +kernel
theorem dX5_step_82 : decode cX5_step 82 = .ok (.invokestatic 42, 3) := by decide +kernel
theorem dX5_step_85 : decode cX5_step 85 = .ok (.ifCond .eq 47, 3) := by decide +kernel
theorem dX5_step_88 : decode cX5_step 88 = .ok (.aload_n 0, 1) := by decide +kernel
theorem dX5_step_89 : decode cX5_step 89 = .ok (.iconst 1, 1) := by decide +kernel
theorem dX5_step_90 : decode cX5_step 90 = .ok (.putfield 15, 3) := by decide +kernel
theorem dX5_step_93 : decode cX5_step 93 = .ok (.aload_n 0, 1) := by decide +kernel
theorem dX5_step_94 : decode cX5_step 94 = .ok (.getfield 21, 3) := by decide +kernel
theorem dX5_step_97 : decode cX5_step 97 = .ok (.aload_n 0, 1) := by decide +kernel
theorem dX5_step_98 : decode cX5_step 98 = .ok (.getfield 9, 3) := by decide +kernel
theorem dX5_step_101 : decode cX5_step 101 = .ok (.if_icmp .ge 158, 3) := by decide +kernel
theorem dX5_step_104 : decode cX5_step 104 = .ok (.aload_n 0, 1) := by decide +kernel
theorem dX5_step_105 : decode cX5_step 105 = .ok (.getfield 27, 3) := by decide +kernel
theorem dX5_step_108 : decode cX5_step 108 = .ok (.aload_n 0, 1) := by decide +kernel
theorem dX5_step_109 : decode cX5_step 109 = .ok (.getfield 21, 3) := by decide +kernel
theorem dX5_step_112 : decode cX5_step 112 = .ok (.iaload, 1) := by decide +kernel
theorem dX5_step_113 : decode cX5_step 113 = .ok (.invokestatic 42, 3) := by decide +kernel
theorem dX5_step_116 : decode cX5_step 116 = .ok (.ifCond .eq 143, 3) := by decide +kernel
theorem dX5_step_119 : decode cX5_step 119 = .ok (.aload_n 0, 1) := by decide +kernel
theorem dX5_step_120 : decode cX5_step 120 = .ok (.dup, 1) := by decide +kernel
theorem dX5_step_121 : decode cX5_step 121 = .ok (.getfield 21, 3) := by decide +kernel
theorem dX5_step_124 : decode cX5_step 124 = .ok (.iconst 1, 1) := by decide +kernel
theorem dX5_step_125 : decode cX5_step 125 = .ok (.iadd, 1) := by decide +kernel
theorem dX5_step_126 : decode cX5_step 126 = .ok (.putfield 21, 3) := by decide +kernel
theorem dX5_step_129 : decode cX5_step 129 = .ok (.goto (-36), 3) := by decide +kernel
theorem dX5_step_132 : decode cX5_step 132 = .ok (.aload_n 0, 1) := by decide +kernel
theorem dX5_step_133 : decode cX5_step 133 = .ok (.getfield 27, 3) := by decide +kernel
theorem dX5_step_136 : decode cX5_step 136 = .ok (.aload_n 0, 1) := by decide +kernel
theorem dX5_step_137 : decode cX5_step 137 = .ok (.getfield 18, 3) := by decide +kernel
theorem dX5_step_140 : decode cX5_step 140 = .ok (.iaload, 1) := by decide +kernel
theorem dX5_step_141 : decode cX5_step 141 = .ok (.invokestatic 46, 3) := by decide +kernel
theorem dX5_step_144 : decode cX5_step 144 = .ok (.ifCond .eq 82, 3) := by decide +kernel
theorem dX5_step_147 : decode cX5_step 147 = .ok (.aload_n 0, 1) := by decide +kernel
theorem dX5_step_148 : decode cX5_step 148 = .ok (.iconst 2, 1) := by decide +kernel
theorem dX5_step_149 : decode cX5_step 149 = .ok (.putfield 15, 3) := by decide +kernel
theorem dX5_step_152 : decode cX5_step 152 = .ok (.aload_n 0, 1) := by decide +kernel
theorem dX5_step_153 : decode cX5_step 153 = .ok (.iconst 0, 1) := by decide +kernel
theorem dX5_step_154 : decode cX5_step 154 = .ok (.putfield 24, 3) := by decide +kernel
theorem dX5_step_157 : decode cX5_step 157 = .ok (.aload_n 0, 1) := by decide +kernel
theorem dX5_step_158 : decode cX5_step 158 = .ok (.getfield 21, 3) := by decide +kernel
theorem dX5_step_161 : decode cX5_step 161 = .ok (.aload_n 0, 1) := by decide +kernel
theorem dX5_step_162 : decode cX5_step 162 = .ok (.getfield 9, 3) := by decide +kernel
theorem dX5_step_165 : decode cX5_step 165 = .ok (.if_icmp .ge 94, 3) := by decide +kernel
theorem dX5_step_168 : decode cX5_step 168 = .ok (.aload_n 0, 1) := by decide +kernel
theorem dX5_step_169 : decode cX5_step 169 = .ok (.getfield 27, 3) := by decide +kernel
theorem dX5_step_172 : decode cX5_step 172 = .ok (.aload_n 0, 1) := by decide +kernel
theorem dX5_step_173 : decode cX5_step 173 = .ok (.getfield 21, 3) := by decide +kernel
theorem dX5_step_176 : decode cX5_step 176 = .ok (.iaload, 1) := by decide +kernel
theorem dX5_step_177 : decode cX5_step 177 = .ok (.invokestatic 46, 3) := by decide +kernel
theorem dX5_step_180 : decode cX5_step 180 = .ok (.ifCond .eq 79, 3) := by decide +kernel
theorem dX5_step_183 : decode cX5_step 183 = .ok (.aload_n 0, 1) := by decide +kernel
theorem dX5_step_184 : decode cX5_step 184 = .ok (.bipush 10, 2) := by decide +kernel
theorem dX5_step_186 : decode cX5_step 186 = .ok (.aload_n 0, 1) := by decide +kernel
theorem dX5_step_187 : decode cX5_step 187 = .ok (.getfield 24, 3) := by decide +kernel
theorem dX5_step_190 : decode cX5_step 190 = .ok (.imul, 1) := by decide +kernel
theorem dX5_step_191 : decode cX5_step 191 = .ok (.aload_n 0, 1) := by decide +kernel
theorem dX5_step_192 : decode cX5_step 192 = .ok (.getfield 27, 3) := by decide +kernel
theorem dX5_step_195 : decode cX5_step 195 = .ok (.aload_n 0, 1) := by decide +kernel
theorem dX5_step_196 : decode cX5_step 196 = .ok (.getfield 21, 3) := by decide +kernel
theorem dX5_step_199 : decode cX5_step 199 = .ok (.iaload, 1) := by decide +kernel
theorem dX5_step_200 : decode cX5_step 200 = .ok (.iadd, 1) := by decide +kernel
theorem dX5_step_201 : decode cX5_step 201 = .ok (.bipush 48, 2) := by decide +kernel
theorem dX5_step_203 : decode cX5_step 203 = .ok (.isub, 1) := by decide +kernel
theorem dX5_step_204 : decode cX5_step 204 = .ok (.sipush 1000, 3) := by decide +kernel
theorem dX5_step_207 : decode cX5_step 207 = .ok (.invokestatic 49, 3) := by decide +kernel
theorem dX5_step_210 : decode cX5_step 210 = .ok (.putfield 24, 3) := by decide +kernel
theorem dX5_step_213 : decode cX5_step 213 = .ok (.aload_n 0, 1) := by decide +kernel
theorem dX5_step_214 : decode cX5_step 214 = .ok (.dup, 1) := by decide +kernel
theorem dX5_step_215 : decode cX5_step 215 = .ok (.getfield 21, 3) := by decide +kernel
theorem dX5_step_218 : decode cX5_step 218 = .ok (.iconst 1, 1) := by decide +kernel
theorem dX5_step_219 : decode cX5_step 219 = .ok (.iadd, 1) := by decide +kernel
theorem dX5_step_220 : decode cX5_step 220 = .ok (.putfield 21, 3) := by decide +kernel
theorem dX5_step_223 : decode cX5_step 223 = .ok (.goto (-66), 3) := by decide +kernel
theorem dX5_step_226 : decode cX5_step 226 = .ok (.aload_n 0, 1) := by decide +kernel
theorem dX5_step_227 : decode cX5_step 227 = .ok (.aload_n 0, 1) := by decide +kernel
theorem dX5_step_228 : decode cX5_step 228 = .ok (.getfield 27, 3) := by decide +kernel
theorem dX5_step_231 : decode cX5_step 231 = .ok (.aload_n 0, 1) := by decide +kernel
theorem dX5_step_232 : decode cX5_step 232 = .ok (.getfield 18, 3) := by decide +kernel
theorem dX5_step_235 : decode cX5_step 235 = .ok (.iaload, 1) := by decide +kernel
theorem dX5_step_236 : decode cX5_step 236 = .ok (.bipush 59, 2) := by decide +kernel
theorem dX5_step_238 : decode cX5_step 238 = .ok (.if_icmp .ne 7, 3) := by decide +kernel
theorem dX5_step_241 : decode cX5_step 241 = .ok (.iconst 3, 1) := by decide +kernel
theorem dX5_step_242 : decode cX5_step 242 = .ok (.goto 4, 3) := by decide +kernel
theorem dX5_step_245 : decode cX5_step 245 = .ok (.iconst 4, 1) := by decide +kernel
theorem dX5_step_246 : decode cX5_step 246 = .ok (.putfield 15, 3) := by decide +kernel
theorem dX5_step_249 : decode cX5_step 249 = .ok (.aload_n 0, 1) := by decide +kernel
theorem dX5_step_250 : decode cX5_step 250 = .ok (.dup, 1) := by decide +kernel
theorem dX5_step_251 : decode cX5_step 251 = .ok (.getfield 21, 3) := by decide +kernel
theorem dX5_step_254 : decode cX5_step 254 = .ok (.iconst 1, 1) := by decide +kernel
theorem dX5_step_255 : decode cX5_step 255 = .ok (.iadd, 1) := by decide +kernel
theorem dX5_step_256 : decode cX5_step 256 = .ok (.putfield 21, 3) := by decide +kernel
theorem dX5_step_259 : decode cX5_step 259 = .ok (.return_, 1) := by decide +kernel
theorem dX5_isLetter_0 : decode cX5_isLetter 0 = .ok (.iload_n 0, 1) := by decide +kernel
theorem dX5_isLetter_1 : decode cX5_isLetter 1 = .ok (.bipush 97, 2) := by decide +kernel
theorem dX5_isLetter_3 : decode cX5_isLetter 3 = .ok (.if_icmp .lt 13, 3) := by decide +kernel
theorem dX5_isLetter_6 : decode cX5_isLetter 6 = .ok (.iload_n 0, 1) := by decide +kernel
theorem dX5_isLetter_7 : decode cX5_isLetter 7 = .ok (.bipush 122, 2) := by decide +kernel
theorem dX5_isLetter_9 : decode cX5_isLetter 9 = .ok (.if_icmp .gt 7, 3) := by decide +kernel
theorem dX5_isLetter_12 : decode cX5_isLetter 12 = .ok (.iconst 1, 1) := by decide +kernel
theorem dX5_isLetter_13 : decode cX5_isLetter 13 = .ok (.goto 4, 3) := by decide +kernel
theorem dX5_isLetter_16 : decode cX5_isLetter 16 = .ok (.iconst 0, 1) := by decide +kernel
theorem dX5_isLetter_17 : decode cX5_isLetter 17 = .ok (.ireturn, 1) := by decide +kernel
theorem dX5_isDigit_0 : decode cX5_isDigit 0 = .ok (.iload_n 0, 1) := by decide +kernel
theorem dX5_isDigit_1 : decode cX5_isDigit 1 = .ok (.bipush 48, 2) := by decide +kernel
theorem dX5_isDigit_3 : decode cX5_isDigit 3 = .ok (.if_icmp .lt 13, 3) := by decide +kernel
theorem dX5_isDigit_6 : decode cX5_isDigit 6 = .ok (.iload_n 0, 1) := by decide +kernel
theorem dX5_isDigit_7 : decode cX5_isDigit 7 = .ok (.bipush 57, 2) := by decide +kernel
theorem dX5_isDigit_9 : decode cX5_isDigit 9 = .ok (.if_icmp .gt 7, 3) := by decide +kernel
theorem dX5_isDigit_12 : decode cX5_isDigit 12 = .ok (.iconst 1, 1) := by decide +kernel
theorem dX5_isDigit_13 : decode cX5_isDigit 13 = .ok (.goto 4, 3) := by decide +kernel
theorem dX5_isDigit_16 : decode cX5_isDigit 16 = .ok (.iconst 0, 1) := by decide +kernel
theorem dX5_isDigit_17 : decode cX5_isDigit 17 = .ok (.ireturn, 1) := by decide +kernel
theorem dX5_isWord_0 : decode cX5_isWord 0 = .ok (.aload_n 0, 1) := by decide +kernel
theorem dX5_isWord_1 : decode cX5_isWord 1 = .ok (.getfield 15, 3) := by decide +kernel
theorem dX5_isWord_4 : decode cX5_isWord 4 = .ok (.iconst 1, 1) := by decide +kernel
theorem dX5_isWord_5 : decode cX5_isWord 5 = .ok (.if_icmp .ne 19, 3) := by decide +kernel
theorem dX5_isWord_8 : decode cX5_isWord 8 = .ok (.aload_n 1, 1) := by decide +kernel
theorem dX5_isWord_9 : decode cX5_isWord 9 = .ok (.invokevirtual 55, 3) := by decide +kernel
theorem dX5_isWord_12 : decode cX5_isWord 12 = .ok (.aload_n 0, 1) := by decide +kernel
theorem dX5_isWord_13 : decode cX5_isWord 13 = .ok (.getfield 21, 3) := by decide +kernel
theorem dX5_isWord_16 : decode cX5_isWord 16 = .ok (.aload_n 0, 1) := by decide +kernel
theorem dX5_isWord_17 : decode cX5_isWord 17 = .ok (.getfield 18, 3) := by decide +kernel
theorem dX5_isWord_20 : decode cX5_isWord 20 = .ok (.isub, 1) := by decide +kernel
theorem dX5_isWord_21 : decode cX5_isWord 21 = .ok (.if_icmp .eq 5, 3) := by decide +kernel
theorem dX5_isWord_24 : decode cX5_isWord 24 = .ok (.iconst 0, 1) := by decide +kernel
theorem dX5_isWord_25 : decode cX5_isWord 25 = .ok (.ireturn, 1) := by decide +kernel
theorem dX5_isWord_26 : decode cX5_isWord 26 = .ok (.iconst 0, 1) := by decide +kernel
theorem dX5_isWord_27 : decode cX5_isWord 27 = .ok (.istore_n 2, 1) := by decide +kernel
theorem dX5_isWord_28 : decode cX5_isWord 28 = .ok (.iload_n 2, 1) := by decide +kernel
theorem dX5_isWord_29 : decode cX5_isWord 29 = .ok (.aload_n 1, 1) := by decide +kernel
theorem dX5_isWord_30 : decode cX5_isWord 30 = .ok (.invokevirtual 55, 3) := by decide +kernel
theorem dX5_isWord_33 : decode cX5_isWord 33 = .ok (.if_icmp .ge 30, 3) := by decide +kernel
theorem dX5_isWord_36 : decode cX5_isWord 36 = .ok (.aload_n 0, 1) := by decide +kernel
theorem dX5_isWord_37 : decode cX5_isWord 37 = .ok (.getfield 27, 3) := by decide +kernel
theorem dX5_isWord_40 : decode cX5_isWord 40 = .ok (.aload_n 0, 1) := by decide +kernel
theorem dX5_isWord_41 : decode cX5_isWord 41 = .ok (.getfield 18, 3) := by decide +kernel
theorem dX5_isWord_44 : decode cX5_isWord 44 = .ok (.iload_n 2, 1) := by decide +kernel
theorem dX5_isWord_45 : decode cX5_isWord 45 = .ok (.iadd, 1) := by decide +kernel
theorem dX5_isWord_46 : decode cX5_isWord 46 = .ok (.iaload, 1) := by decide +kernel
theorem dX5_isWord_47 : decode cX5_isWord 47 = .ok (.aload_n 1, 1) := by decide +kernel
theorem dX5_isWord_48 : decode cX5_isWord 48 = .ok (.iload_n 2, 1) := by decide +kernel
theorem dX5_isWord_49 : decode cX5_isWord 49 = .ok (.invokevirtual 60, 3) := by decide +kernel
theorem dX5_isWord_52 : decode cX5_isWord 52 = .ok (.if_icmp .eq 5, 3) := by decide +kernel
theorem dX5_isWord_55 : decode cX5_isWord 55 = .ok (.iconst 0, 1) := by decide +kernel
theorem dX5_isWord_56 : decode cX5_isWord 56 = .ok (.ireturn, 1) := by decide +kernel
theorem dX5_isWord_57 : decode cX5_isWord 57 = .ok (.iinc 2 1, 3) := by decide +kernel
theorem dX5_isWord_60 : decode cX5_isWord 60 = .ok (.goto (-32), 3) := by decide +kernel
theorem dX5_isWord_63 : decode cX5_isWord 63 = .ok (.iconst 1, 1) := by decide +kernel
theorem dX5_isWord_64 : decode cX5_isWord 64 = .ok (.ireturn, 1) := by decide +kernel
theorem dX5_isNumber_0 : decode cX5_isNumber 0 = .ok (.aload_n 0, 1) := by decide +kernel
theorem dX5_isNumber_1 : decode cX5_isNumber 1 = .ok (.getfield 15, 3) := by decide +kernel
theorem dX5_isNumber_4 : decode cX5_isNumber 4 = .ok (.iconst 2, 1) := by decide +kernel
theorem dX5_isNumber_5 : decode cX5_isNumber 5 = .ok (.if_icmp .ne 23, 3) := by decide +kernel
theorem dX5_isNumber_8 : decode cX5_isNumber 8 = .ok (.aload_n 0, 1) := by decide +kernel
theorem dX5_isNumber_9 : decode cX5_isNumber 9 = .ok (.getfield 24, 3) := by decide +kernel
theorem dX5_isNumber_12 : decode cX5_isNumber 12 = .ok (.iload_n 1, 1) := by decide +kernel
theorem dX5_isNumber_13 : decode cX5_isNumber 13 = .ok (.if_icmp .lt 15, 3) := by decide +kernel
theorem dX5_isNumber_16 : decode cX5_isNumber 16 = .ok (.aload_n 0, 1) := by decide +kernel
theorem dX5_isNumber_17 : decode cX5_isNumber 17 = .ok (.getfield 24, 3) := by decide +kernel
theorem dX5_isNumber_20 : decode cX5_isNumber 20 = .ok (.iload_n 2, 1) := by decide +kernel
theorem dX5_isNumber_21 : decode cX5_isNumber 21 = .ok (.if_icmp .gt 7, 3) := by decide +kernel
theorem dX5_isNumber_24 : decode cX5_isNumber 24 = .ok (.iconst 1, 1) := by decide +kernel
theorem dX5_isNumber_25 : decode cX5_isNumber 25 = .ok (.goto 4, 3) := by decide +kernel
theorem dX5_isNumber_28 : decode cX5_isNumber 28 = .ok (.iconst 0, 1) := by decide +kernel
theorem dX5_isNumber_29 : decode cX5_isNumber 29 = .ok (.ireturn, 1) := by decide +kernel
theorem dX5_takeItem_0 : decode cX5_takeItem 0 = .ok (.aload_n 0, 1) := by decide +kernel
theorem dX5_takeItem_1 : decode cX5_takeItem 1 = .ok (.ldc 64, 2) := by decide +kernel
theorem dX5_takeItem_3 : decode cX5_takeItem 3 = .ok (.invokevirtual 66, 3) := by decide +kernel
theorem dX5_takeItem_6 : decode cX5_takeItem 6 = .ok (.ifCond .eq 9, 3) := by decide +kernel
theorem dX5_takeItem_9 : decode cX5_takeItem 9 = .ok (.aload_n 0, 1) := by decide +kernel
theorem dX5_takeItem_10 : decode cX5_takeItem 10 = .ok (.iconst 1, 1) := by decide +kernel
theorem dX5_takeItem_11 : decode cX5_takeItem 11 = .ok (.invokevirtual 70, 3) := by decide +kernel
theorem dX5_takeItem_14 : decode cX5_takeItem 14 = .ok (.ireturn, 1) := by decide +kernel
theorem dX5_takeItem_15 : decode cX5_takeItem 15 = .ok (.aload_n 0, 1) := by decide +kernel
theorem dX5_takeItem_16 : decode cX5_takeItem 16 = .ok (.ldc 73, 2) := by decide +kernel
theorem dX5_takeItem_18 : decode cX5_takeItem 18 = .ok (.invokevirtual 66, 3) := by decide +kernel
theorem dX5_takeItem_21 : decode cX5_takeItem 21 = .ok (.ifCond .eq 9, 3) := by decide +kernel
theorem dX5_takeItem_24 : decode cX5_takeItem 24 = .ok (.aload_n 0, 1) := by decide +kernel
theorem dX5_takeItem_25 : decode cX5_takeItem 25 = .ok (.iconst 2, 1) := by decide +kernel
theorem dX5_takeItem_26 : decode cX5_takeItem 26 = .ok (.invokevirtual 70, 3) := by decide +kernel
theorem dX5_takeItem_29 : decode cX5_takeItem 29 = .ok (.ireturn, 1) := by decide +kernel
theorem dX5_takeItem_30 : decode cX5_takeItem 30 = .ok (.aload_n 0, 1) := by decide +kernel
theorem dX5_takeItem_31 : decode cX5_takeItem 31 = .ok (.ldc 75, 2) := by decide +kernel
theorem dX5_takeItem_33 : decode cX5_takeItem 33 = .ok (.invokevirtual 66, 3) := by decide +kernel
theorem dX5_takeItem_36 : decode cX5_takeItem 36 = .ok (.ifCond .eq 8, 3) := by decide +kernel
theorem dX5_takeItem_39 : decode cX5_takeItem 39 = .ok (.aload_n 0, 1) := by decide +kernel
theorem dX5_takeItem_40 : decode cX5_takeItem 40 = .ok (.invokevirtual 77, 3) := by decide +kernel
theorem dX5_takeItem_43 : decode cX5_takeItem 43 = .ok (.ireturn, 1) := by decide +kernel
theorem dX5_takeItem_44 : decode cX5_takeItem 44 = .ok (.aload_n 0, 1) := by decide +kernel
theorem dX5_takeItem_45 : decode cX5_takeItem 45 = .ok (.ldc 80, 2) := by decide +kernel
theorem dX5_takeItem_47 : decode cX5_takeItem 47 = .ok (.invokevirtual 66, 3) := by decide +kernel
theorem dX5_takeItem_50 : decode cX5_takeItem 50 = .ok (.ifCond .eq 8, 3) := by decide +kernel
theorem dX5_takeItem_53 : decode cX5_takeItem 53 = .ok (.aload_n 0, 1) := by decide +kernel
theorem dX5_takeItem_54 : decode cX5_takeItem 54 = .ok (.invokevirtual 82, 3) := by decide +kernel
theorem dX5_takeItem_57 : decode cX5_takeItem 57 = .ok (.ireturn, 1) := by decide +kernel
theorem dX5_takeItem_58 : decode cX5_takeItem 58 = .ok (.iconst 0, 1) := by decide +kernel
theorem dX5_takeItem_59 : decode cX5_takeItem 59 = .ok (.istore_n 1, 1) := by decide +kernel
theorem dX5_takeItem_60 : decode cX5_takeItem 60 = .ok (.iload_n 1, 1) := by decide +kernel
theorem dX5_takeItem_61 : decode cX5_takeItem 61 = .ok (.bipush 7, 2) := by decide +kernel
theorem dX5_takeItem_63 : decode cX5_takeItem 63 = .ok (.if_icmp .ge 26, 3) := by decide +kernel
theorem dX5_takeItem_66 : decode cX5_takeItem 66 = .ok (.aload_n 0, 1) := by decide +kernel
theorem dX5_takeItem_67 : decode cX5_takeItem 67 = .ok (.iload_n 1, 1) := by decide +kernel
theorem dX5_takeItem_68 : decode cX5_takeItem 68 = .ok (.invokestatic 85, 3) := by decide +kernel
theorem dX5_takeItem_71 : decode cX5_takeItem 71 = .ok (.invokevirtual 66, 3) := by decide +kernel
theorem dX5_takeItem_74 : decode cX5_takeItem 74 = .ok (.ifCond .eq 9, 3) := by decide +kernel
theorem dX5_takeItem_77 : decode cX5_takeItem 77 = .ok (.aload_n 0, 1) := by decide +kernel
theorem dX5_takeItem_78 : decode cX5_takeItem 78 = .ok (.iload_n 1, 1) := by decide +kernel
theorem dX5_takeItem_79 : decode cX5_takeItem 79 = .ok (.invokevirtual 89, 3) := by decide +kernel
theorem dX5_takeItem_82 : decode cX5_takeItem 82 = .ok (.ireturn, 1) := by decide +kernel
theorem dX5_takeItem_83 : decode cX5_takeItem 83 = .ok (.iinc 1 1, 3) := by decide +kernel
theorem dX5_takeItem_86 : decode cX5_takeItem 86 = .ok (.goto (-26), 3) := by decide +kernel
theorem dX5_takeItem_89 : decode cX5_takeItem 89 = .ok (.iconst 0, 1) := by decide +kernel
theorem dX5_takeItem_90 : decode cX5_takeItem 90 = .ok (.ireturn, 1) := by decide +kernel
theorem dX5_wordOf_0 : decode cX5_wordOf 0 = .ok (.iload_n 0, 1) := by decide +kernel
theorem dX5_wordOf_1 : decode cX5_wordOf 1 = .ok (.tableswitch 57 0 5 #[39, 42, 45, 48, 51, 54], 39) := by decide +kernel
theorem dX5_wordOf_40 : decode cX5_wordOf 40 = .ok (.ldc 92, 2) := by decide +kernel
theorem dX5_wordOf_42 : decode cX5_wordOf 42 = .ok (.areturn, 1) := by decide +kernel
theorem dX5_wordOf_43 : decode cX5_wordOf 43 = .ok (.ldc 94, 2) := by decide +kernel
theorem dX5_wordOf_45 : decode cX5_wordOf 45 = .ok (.areturn, 1) := by decide +kernel
theorem dX5_wordOf_46 : decode cX5_wordOf 46 = .ok (.ldc 96, 2) := by decide +kernel
theorem dX5_wordOf_48 : decode cX5_wordOf 48 = .ok (.areturn, 1) := by decide +kernel
theorem dX5_wordOf_49 : decode cX5_wordOf 49 = .ok (.ldc 98, 2) := by decide +kernel
theorem dX5_wordOf_51 : decode cX5_wordOf 51 = .ok (.areturn, 1) := by decide +kernel
theorem dX5_wordOf_52 : decode cX5_wordOf 52 = .ok (.ldc 100, 2) := by decide +kernel
theorem dX5_wordOf_54 : decode cX5_wordOf 54 = .ok (.areturn, 1) := by decide +kernel
theorem dX5_wordOf_55 : decode cX5_wordOf 55 = .ok (.ldc 102, 2) := by decide +kernel
theorem dX5_wordOf_57 : decode cX5_wordOf 57 = .ok (.areturn, 1) := by decide +kernel
theorem dX5_wordOf_58 : decode cX5_wordOf 58 = .ok (.ldc 104, 2) := by decide +kernel
theorem dX5_wordOf_60 : decode cX5_wordOf 60 = .ok (.areturn, 1) := by decide +kernel
theorem dX5_takeBond_0 : decode cX5_takeBond 0 = .ok (.aload_n 0, 1) := by decide +kernel
theorem dX5_takeBond_1 : decode cX5_takeBond 1 = .ok (.invokevirtual 35, 3) := by decide +kernel
theorem dX5_takeBond_4 : decode cX5_takeBond 4 = .ok (.aload_n 0, 1) := by decide +kernel
theorem dX5_takeBond_5 : decode cX5_takeBond 5 = .ok (.iconst 0, 1) := by decide +kernel
theorem dX5_takeBond_6 : decode cX5_takeBond 6 = .ok (.bipush 7, 2) := by decide +kernel
theorem dX5_takeBond_8 : decode cX5_takeBond 8 = .ok (.invokevirtual 106, 3) := by decide +kernel
theorem dX5_takeBond_11 : decode cX5_takeBond 11 = .ok (.ifCond .ne 5, 3) := by decide +kernel
theorem dX5_takeBond_14 : decode cX5_takeBond 14 = .ok (.iconst 0, 1) := by decide +kernel
theorem dX5_takeBond_15 : decode cX5_takeBond 15 = .ok (.ireturn, 1) := by decide +kernel
theorem dX5_takeBond_16 : decode cX5_takeBond 16 = .ok (.aload_n 0, 1) := by decide +kernel
theorem dX5_takeBond_17 : decode cX5_takeBond 17 = .ok (.getfield 24, 3) := by decide +kernel
theorem dX5_takeBond_20 : decode cX5_takeBond 20 = .ok (.istore_n 2, 1) := by decide +kernel
theorem dX5_takeBond_21 : decode cX5_takeBond 21 = .ok (.aload_n 0, 1) := by decide +kernel
theorem dX5_takeBond_22 : decode cX5_takeBond 22 = .ok (.invokevirtual 35, 3) := by decide +kernel
theorem dX5_takeBond_25 : decode cX5_takeBond 25 = .ok (.aload_n 0, 1) := by decide +kernel
theorem dX5_takeBond_26 : decode cX5_takeBond 26 = .ok (.iconst 0, 1) := by decide +kernel
theorem dX5_takeBond_27 : decode cX5_takeBond 27 = .ok (.bipush 7, 2) := by decide +kernel
theorem dX5_takeBond_29 : decode cX5_takeBond 29 = .ok (.invokevirtual 106, 3) := by decide +kernel
theorem dX5_takeBond_32 : decode cX5_takeBond 32 = .ok (.ifCond .eq 11, 3) := by decide +kernel
theorem dX5_takeBond_35 : decode cX5_takeBond 35 = .ok (.aload_n 0, 1) := by decide +kernel
theorem dX5_takeBond_36 : decode cX5_takeBond 36 = .ok (.getfield 24, 3) := by decide +kernel
theorem dX5_takeBond_39 : decode cX5_takeBond 39 = .ok (.iload_n 2, 1) := by decide +kernel
theorem dX5_takeBond_40 : decode cX5_takeBond 40 = .ok (.if_icmp .ne 5, 3) := by decide +kernel
theorem dX5_takeBond_43 : decode cX5_takeBond 43 = .ok (.iconst 0, 1) := by decide +kernel
theorem dX5_takeBond_44 : decode cX5_takeBond 44 = .ok (.ireturn, 1) := by decide +kernel
theorem dX5_takeBond_45 : decode cX5_takeBond 45 = .ok (.aload_n 0, 1) := by decide +kernel
theorem dX5_takeBond_46 : decode cX5_takeBond 46 = .ok (.getfield 31, 3) := by decide +kernel
theorem dX5_takeBond_49 : decode cX5_takeBond 49 = .ok (.getfield 110, 3) := by decide +kernel
theorem dX5_takeBond_52 : decode cX5_takeBond 52 = .ok (.iload_n 2, 1) := by decide +kernel
theorem dX5_takeBond_53 : decode cX5_takeBond 53 = .ok (.aload_n 0, 1) := by decide +kernel
theorem dX5_takeBond_54 : decode cX5_takeBond 54 = .ok (.getfield 24, 3) := by decide +kernel
theorem dX5_takeBond_57 : decode cX5_takeBond 57 = .ok (.iload_n 1, 1) := by decide +kernel
theorem dX5_takeBond_58 : decode cX5_takeBond 58 = .ok (.invokevirtual 116, 3) := by decide +kernel
theorem dX5_takeBond_61 : decode cX5_takeBond 61 = .ok (.aload_n 0, 1) := by decide +kernel
theorem dX5_takeBond_62 : decode cX5_takeBond 62 = .ok (.invokevirtual 35, 3) := by decide +kernel
theorem dX5_takeBond_65 : decode cX5_takeBond 65 = .ok (.iconst 1, 1) := by decide +kernel
theorem dX5_takeBond_66 : decode cX5_takeBond 66 = .ok (.ireturn, 1) := by decide +kernel
theorem dX5_takeWeight_0 : decode cX5_takeWeight 0 = .ok (.aload_n 0, 1) := by decide +kernel
theorem dX5_takeWeight_1 : decode cX5_takeWeight 1 = .ok (.invokevirtual 35, 3) := by decide +kernel
theorem dX5_takeWeight_4 : decode cX5_takeWeight 4 = .ok (.aload_n 0, 1) := by decide +kernel
theorem dX5_takeWeight_5 : decode cX5_takeWeight 5 = .ok (.iconst 0, 1) := by decide +kernel
theorem dX5_takeWeight_6 : decode cX5_takeWeight 6 = .ok (.bipush 7, 2) := by decide +kernel
theorem dX5_takeWeight_8 : decode cX5_takeWeight 8 = .ok (.invokevirtual 106, 3) := by decide +kernel
theorem dX5_takeWeight_11 : decode cX5_takeWeight 11 = .ok (.ifCond .ne 5, 3) := by decide +kernel
theorem dX5_takeWeight_14 : decode cX5_takeWeight 14 = .ok (.iconst 0, 1) := by decide +kernel
theorem dX5_takeWeight_15 : decode cX5_takeWeight 15 = .ok (.ireturn, 1) := by decide +kernel
theorem dX5_takeWeight_16 : decode cX5_takeWeight 16 = .ok (.aload_n 0, 1) := by decide +kernel
theorem dX5_takeWeight_17 : decode cX5_takeWeight 17 = .ok (.getfield 24, 3) := by decide +kernel
theorem dX5_takeWeight_20 : decode cX5_takeWeight 20 = .ok (.istore_n 1, 1) := by decide +kernel
theorem dX5_takeWeight_21 : decode cX5_takeWeight 21 = .ok (.aload_n 0, 1) := by decide +kernel
theorem dX5_takeWeight_22 : decode cX5_takeWeight 22 = .ok (.invokevirtual 35, 3) := by decide +kernel
theorem dX5_takeWeight_25 : decode cX5_takeWeight 25 = .ok (.aload_n 0, 1) := by decide +kernel
theorem dX5_takeWeight_26 : decode cX5_takeWeight 26 = .ok (.iconst 1, 1) := by decide +kernel
theorem dX5_takeWeight_27 : decode cX5_takeWeight 27 = .ok (.bipush 99, 2) := by decide +kernel
theorem dX5_takeWeight_29 : decode cX5_takeWeight 29 = .ok (.invokevirtual 106, 3) := by decide +kernel
theorem dX5_takeWeight_32 : decode cX5_takeWeight 32 = .ok (.ifCond .ne 5, 3) := by decide +kernel
theorem dX5_takeWeight_35 : decode cX5_takeWeight 35 = .ok (.iconst 0, 1) := by decide +kernel
theorem dX5_takeWeight_36 : decode cX5_takeWeight 36 = .ok (.ireturn, 1) := by decide +kernel
theorem dX5_takeWeight_37 : decode cX5_takeWeight 37 = .ok (.aload_n 0, 1) := by decide +kernel
theorem dX5_takeWeight_38 : decode cX5_takeWeight 38 = .ok (.getfield 31, 3) := by decide +kernel
theorem dX5_takeWeight_41 : decode cX5_takeWeight 41 = .ok (.getfield 110, 3) := by decide +kernel
theorem dX5_takeWeight_44 : decode cX5_takeWeight 44 = .ok (.getfield 122, 3) := by decide +kernel
theorem dX5_takeWeight_47 : decode cX5_takeWeight 47 = .ok (.iload_n 1, 1) := by decide +kernel
theorem dX5_takeWeight_48 : decode cX5_takeWeight 48 = .ok (.aload_n 0, 1) := by decide +kernel
theorem dX5_takeWeight_49 : decode cX5_takeWeight 49 = .ok (.getfield 24, 3) := by decide +kernel
theorem dX5_takeWeight_52 : decode cX5_takeWeight 52 = .ok (.iastore, 1) := by decide +kernel
theorem dX5_takeWeight_53 : decode cX5_takeWeight 53 = .ok (.aload_n 0, 1) := by decide +kernel
theorem dX5_takeWeight_54 : decode cX5_takeWeight 54 = .ok (.invokevirtual 35, 3) := by decide +kernel
theorem dX5_takeWeight_57 : decode cX5_takeWeight 57 = .ok (.iconst 1, 1) := by decide +kernel
theorem dX5_takeWeight_58 : decode cX5_takeWeight 58 = .ok (.ireturn, 1) := by decide +kernel
theorem dX5_takeHeld_0 : decode cX5_takeHeld 0 = .ok (.aload_n 0, 1) := by decide +kernel
theorem dX5_takeHeld_1 : decode cX5_takeHeld 1 = .ok (.invokevirtual 35, 3) := by decide +kernel
theorem dX5_takeHeld_4 : decode cX5_takeHeld 4 = .ok (.aload_n 0, 1) := by decide +kernel
theorem dX5_takeHeld_5 : decode cX5_takeHeld 5 = .ok (.iconst 0, 1) := by decide +kernel
theorem dX5_takeHeld_6 : decode cX5_takeHeld 6 = .ok (.sipush 999, 3) := by decide +kernel
theorem dX5_takeHeld_9 : decode cX5_takeHeld 9 = .ok (.invokevirtual 106, 3) := by decide +kernel
theorem dX5_takeHeld_12 : decode cX5_takeHeld 12 = .ok (.ifCond .ne 5, 3) := by decide +kernel
theorem dX5_takeHeld_15 : decode cX5_takeHeld 15 = .ok (.iconst 0, 1) := by decide +kernel
theorem dX5_takeHeld_16 : decode cX5_takeHeld 16 = .ok (.ireturn, 1) := by decide +kernel
theorem dX5_takeHeld_17 : decode cX5_takeHeld 17 = .ok (.aload_n 0, 1) := by decide +kernel
theorem dX5_takeHeld_18 : decode cX5_takeHeld 18 = .ok (.getfield 31, 3) := by decide +kernel
theorem dX5_takeHeld_21 : decode cX5_takeHeld 21 = .ok (.getfield 110, 3) := by decide +kernel
theorem dX5_takeHeld_24 : decode cX5_takeHeld 24 = .ok (.aload_n 0, 1) := by decide +kernel
theorem dX5_takeHeld_25 : decode cX5_takeHeld 25 = .ok (.getfield 24, 3) := by decide +kernel
theorem dX5_takeHeld_28 : decode cX5_takeHeld 28 = .ok (.putfield 125, 3) := by decide +kernel
theorem dX5_takeHeld_31 : decode cX5_takeHeld 31 = .ok (.aload_n 0, 1) := by decide +kernel
theorem dX5_takeHeld_32 : decode cX5_takeHeld 32 = .ok (.invokevirtual 35, 3) := by decide +kernel
theorem dX5_takeHeld_35 : decode cX5_takeHeld 35 = .ok (.iconst 1, 1) := by decide +kernel
theorem dX5_takeHeld_36 : decode cX5_takeHeld 36 = .ok (.ireturn, 1) := by decide +kernel
theorem dX5_takeBench_0 : decode cX5_takeBench 0 = .ok (.aload_n 0, 1) := by decide +kernel
theorem dX5_takeBench_1 : decode cX5_takeBench 1 = .ok (.getfield 31, 3) := by decide +kernel
theorem dX5_takeBench_4 : decode cX5_takeBench 4 = .ok (.getfield 128, 3) := by decide +kernel
theorem dX5_takeBench_7 : decode cX5_takeBench 7 = .ok (.iconst 5, 1) := by decide +kernel
theorem dX5_takeBench_8 : decode cX5_takeBench 8 = .ok (.if_icmp .lt 5, 3) := by decide +kernel
theorem dX5_takeBench_11 : decode cX5_takeBench 11 = .ok (.iconst 0, 1) := by decide +kernel
theorem dX5_takeBench_12 : decode cX5_takeBench 12 = .ok (.ireturn, 1) := by decide +kernel
theorem dX5_takeBench_13 : decode cX5_takeBench 13 = .ok (.aload_n 0, 1) := by decide +kernel
theorem dX5_takeBench_14 : decode cX5_takeBench 14 = .ok (.invokevirtual 35, 3) := by decide +kernel
theorem dX5_takeBench_17 : decode cX5_takeBench 17 = .ok (.aload_n 0, 1) := by decide +kernel
theorem dX5_takeBench_18 : decode cX5_takeBench 18 = .ok (.ldc 131, 2) := by decide +kernel
theorem dX5_takeBench_20 : decode cX5_takeBench 20 = .ok (.invokevirtual 66, 3) := by decide +kernel
theorem dX5_takeBench_23 : decode cX5_takeBench 23 = .ok (.ifCond .ne 5, 3) := by decide +kernel
theorem dX5_takeBench_26 : decode cX5_takeBench 26 = .ok (.iconst 0, 1) := by decide +kernel
theorem dX5_takeBench_27 : decode cX5_takeBench 27 = .ok (.ireturn, 1) := by decide +kernel
theorem dX5_takeBench_28 : decode cX5_takeBench 28 = .ok (.aload_n 0, 1) := by decide +kernel
theorem dX5_takeBench_29 : decode cX5_takeBench 29 = .ok (.invokevirtual 35, 3) := by decide +kernel
theorem dX5_takeBench_32 : decode cX5_takeBench 32 = .ok (.aload_n 0, 1) := by decide +kernel
theorem dX5_takeBench_33 : decode cX5_takeBench 33 = .ok (.iconst 1, 1) := by decide +kernel
theorem dX5_takeBench_34 : decode cX5_takeBench 34 = .ok (.bipush 8, 2) := by decide +kernel
theorem dX5_takeBench_36 : decode cX5_takeBench 36 = .ok (.invokevirtual 106, 3) := by decide +kernel
theorem dX5_takeBench_39 : decode cX5_takeBench 39 = .ok (.ifCond .ne 5, 3) := by decide +kernel
theorem dX5_takeBench_42 : decode cX5_takeBench 42 = .ok (.iconst 0, 1) := by decide +kernel
theorem dX5_takeBench_43 : decode cX5_takeBench 43 = .ok (.ireturn, 1) := by decide +kernel
theorem dX5_takeBench_44 : decode cX5_takeBench 44 = .ok (.aload_n 0, 1) := by decide +kernel
theorem dX5_takeBench_45 : decode cX5_takeBench 45 = .ok (.getfield 31, 3) := by decide +kernel
theorem dX5_takeBench_48 : decode cX5_takeBench 48 = .ok (.iload_n 1, 1) := by decide +kernel
theorem dX5_takeBench_49 : decode cX5_takeBench 49 = .ok (.aload_n 0, 1) := by decide +kernel
theorem dX5_takeBench_50 : decode cX5_takeBench 50 = .ok (.getfield 24, 3) := by decide +kernel
theorem dX5_takeBench_53 : decode cX5_takeBench 53 = .ok (.invokevirtual 133, 3) := by decide +kernel
theorem dX5_takeBench_56 : decode cX5_takeBench 56 = .ok (.istore_n 2, 1) := by decide +kernel
theorem dX5_takeBench_57 : decode cX5_takeBench 57 = .ok (.aload_n 0, 1) := by decide +kernel
theorem dX5_takeBench_58 : decode cX5_takeBench 58 = .ok (.invokevirtual 35, 3) := by decide +kernel
theorem dX5_takeBench_61 : decode cX5_takeBench 61 = .ok (.aload_n 0, 1) := by decide +kernel
theorem dX5_takeBench_62 : decode cX5_takeBench 62 = .ok (.ldc 136, 2) := by decide +kernel
theorem dX5_takeBench_64 : decode cX5_takeBench 64 = .ok (.invokevirtual 66, 3) := by decide +kernel
theorem dX5_takeBench_67 : decode cX5_takeBench 67 = .ok (.ifCond .eq 11, 3) := by decide +kernel
theorem dX5_takeBench_70 : decode cX5_takeBench 70 = .ok (.aload_n 0, 1) := by decide +kernel
theorem dX5_takeBench_71 : decode cX5_takeBench 71 = .ok (.iload_n 2, 1) := by decide +kernel
theorem dX5_takeBench_72 : decode cX5_takeBench 72 = .ok (.invokevirtual 138, 3) := by decide +kernel
theorem dX5_takeBench_75 : decode cX5_takeBench 75 = .ok (.ifCond .eq 7, 3) := by decide +kernel
theorem dX5_takeBench_78 : decode cX5_takeBench 78 = .ok (.iconst 1, 1) := by decide +kernel
theorem dX5_takeBench_79 : decode cX5_takeBench 79 = .ok (.goto 4, 3) := by decide +kernel
theorem dX5_takeBench_82 : decode cX5_takeBench 82 = .ok (.iconst 0, 1) := by decide +kernel
theorem dX5_takeBench_83 : decode cX5_takeBench 83 = .ok (.ireturn, 1) := by decide +kernel
theorem dX5_takeSitters_0 : decode cX5_takeSitters 0 = .ok (.aload_n 0, 1) := by decide +kernel
theorem dX5_takeSitters_1 : decode cX5_takeSitters 1 = .ok (.invokevirtual 35, 3) := by decide +kernel
theorem dX5_takeSitters_4 : decode cX5_takeSitters 4 = .ok (.aload_n 0, 1) := by decide +kernel
theorem dX5_takeSitters_5 : decode cX5_takeSitters 5 = .ok (.getfield 15, 3) := by decide +kernel
theorem dX5_takeSitters_8 : decode cX5_takeSitters 8 = .ok (.iconst 2, 1) := by decide +kernel
theorem dX5_takeSitters_9 : decode cX5_takeSitters 9 = .ok (.if_icmp .eq 5, 3) := by decide +kernel
theorem dX5_takeSitters_12 : decode cX5_takeSitters 12 = .ok (.iconst 0, 1) := by decide +kernel
theorem dX5_takeSitters_13 : decode cX5_takeSitters 13 = .ok (.ireturn, 1) := by decide +kernel
theorem dX5_takeSitters_14 : decode cX5_takeSitters 14 = .ok (.iconst 0, 1) := by decide +kernel
theorem dX5_takeSitters_15 : decode cX5_takeSitters 15 = .ok (.istore_n 2, 1) := by decide +kernel
theorem dX5_takeSitters_16 : decode cX5_takeSitters 16 = .ok (.iload_n 2, 1) := by decide +kernel
theorem dX5_takeSitters_17 : decode cX5_takeSitters 17 = .ok (.aload_n 0, 1) := by decide +kernel
theorem dX5_takeSitters_18 : decode cX5_takeSitters 18 = .ok (.getfield 31, 3) := by decide +kernel
theorem dX5_takeSitters_21 : decode cX5_takeSitters 21 = .ok (.getfield 141, 3) := by decide +kernel
theorem dX5_takeSitters_24 : decode cX5_takeSitters 24 = .ok (.iload_n 1, 1) := by decide +kernel
theorem dX5_takeSitters_25 : decode cX5_takeSitters 25 = .ok (.aaload, 1) := by decide +kernel
theorem dX5_takeSitters_26 : decode cX5_takeSitters 26 = .ok (.getfield 145, 3) := by decide +kernel
theorem dX5_takeSitters_29 : decode cX5_takeSitters 29 = .ok (.if_icmp .ge 77, 3) := by decide +kernel
theorem dX5_takeSitters_32 : decode cX5_takeSitters 32 = .ok (.aload_n 0, 1) := by decide +kernel
theorem dX5_takeSitters_33 : decode cX5_takeSitters 33 = .ok (.getfield 15, 3) := by decide +kernel
theorem dX5_takeSitters_36 : decode cX5_takeSitters 36 = .ok (.iconst 2, 1) := by decide +kernel
theorem dX5_takeSitters_37 : decode cX5_takeSitters 37 = .ok (.if_icmp .ne 69, 3) := by decide +kernel
theorem dX5_takeSitters_40 : decode cX5_takeSitters 40 = .ok (.aload_n 0, 1) := by decide +kernel
theorem dX5_takeSitters_41 : decode cX5_takeSitters 41 = .ok (.iconst 0, 1) := by decide +kernel
theorem dX5_takeSitters_42 : decode cX5_takeSitters 42 = .ok (.bipush 8, 2) := by decide +kernel
theorem dX5_takeSitters_44 : decode cX5_takeSitters 44 = .ok (.invokevirtual 106, 3) := by decide +kernel
theorem dX5_takeSitters_47 : decode cX5_takeSitters 47 = .ok (.ifCond .ne 5, 3) := by decide +kernel
theorem dX5_takeSitters_50 : decode cX5_takeSitters 50 = .ok (.iconst 0, 1) := by decide +kernel
theorem dX5_takeSitters_51 : decode cX5_takeSitters 51 = .ok (.ireturn, 1) := by decide +kernel
theorem dX5_takeSitters_52 : decode cX5_takeSitters 52 = .ok (.aload_n 0, 1) := by decide +kernel
theorem dX5_takeSitters_53 : decode cX5_takeSitters 53 = .ok (.getfield 24, 3) := by decide +kernel
theorem dX5_takeSitters_56 : decode cX5_takeSitters 56 = .ok (.bipush 8, 2) := by decide +kernel
theorem dX5_takeSitters_58 : decode cX5_takeSitters 58 = .ok (.if_icmp .eq 38, 3) := by decide +kernel
theorem dX5_takeSitters_61 : decode cX5_takeSitters 61 = .ok (.aload_n 0, 1) := by decide +kernel
theorem dX5_takeSitters_62 : decode cX5_takeSitters 62 = .ok (.getfield 31, 3) := by decide +kernel
theorem dX5_takeSitters_65 : decode cX5_takeSitters 65 = .ok (.aload_n 0, 1) := by decide +kernel
theorem dX5_takeSitters_66 : decode cX5_takeSitters 66 = .ok (.getfield 24, 3) := by decide +kernel
theorem dX5_takeSitters_69 : decode cX5_takeSitters 69 = .ok (.invokevirtual 150, 3) := by decide +kernel
theorem dX5_takeSitters_72 : decode cX5_takeSitters 72 = .ok (.iconst (-1), 1) := by decide +kernel
theorem dX5_takeSitters_73 : decode cX5_takeSitters 73 = .ok (.if_icmp .eq 5, 3) := by decide +kernel
theorem dX5_takeSitters_76 : decode cX5_takeSitters 76 = .ok (.iconst 0, 1) := by decide +kernel
theorem dX5_takeSitters_77 : decode cX5_takeSitters 77 = .ok (.ireturn, 1) := by decide +kernel
theorem dX5_takeSitters_78 : decode cX5_takeSitters 78 = .ok (.aload_n 0, 1) := by decide +kernel
theorem dX5_takeSitters_79 : decode cX5_takeSitters 79 = .ok (.getfield 31, 3) := by decide +kernel
theorem dX5_takeSitters_82 : decode cX5_takeSitters 82 = .ok (.getfield 141, 3) := by decide +kernel
theorem dX5_takeSitters_85 : decode cX5_takeSitters 85 = .ok (.iload_n 1, 1) := by decide +kernel
theorem dX5_takeSitters_86 : decode cX5_takeSitters 86 = .ok (.aaload, 1) := by decide +kernel
theorem dX5_takeSitters_87 : decode cX5_takeSitters 87 = .ok (.getfield 154, 3) := by decide +kernel
theorem dX5_takeSitters_90 : decode cX5_takeSitters 90 = .ok (.iload_n 2, 1) := by decide +kernel
theorem dX5_takeSitters_91 : decode cX5_takeSitters 91 = .ok (.aload_n 0, 1) := by decide +kernel
theorem dX5_takeSitters_92 : decode cX5_takeSitters 92 = .ok (.getfield 24, 3) := by decide +kernel
theorem dX5_takeSitters_95 : decode cX5_takeSitters 95 = .ok (.iastore, 1) := by decide +kernel
theorem dX5_takeSitters_96 : decode cX5_takeSitters 96 = .ok (.aload_n 0, 1) := by decide +kernel
theorem dX5_takeSitters_97 : decode cX5_takeSitters 97 = .ok (.invokevirtual 35, 3) := by decide +kernel
theorem dX5_takeSitters_100 : decode cX5_takeSitters 100 = .ok (.iinc 2 1, 3) := by decide +kernel
theorem dX5_takeSitters_103 : decode cX5_takeSitters 103 = .ok (.goto (-87), 3) := by decide +kernel
theorem dX5_takeSitters_106 : decode cX5_takeSitters 106 = .ok (.iconst 1, 1) := by decide +kernel
theorem dX5_takeSitters_107 : decode cX5_takeSitters 107 = .ok (.ireturn, 1) := by decide +kernel
theorem dJ6_bitCount_0f7a4_0 : decode cJ6_bitCount_0f7a4 0 = .ok (.iload_n 0, 1) := by decide +kernel
theorem dJ6_bitCount_0f7a4_1 : decode cJ6_bitCount_0f7a4 1 = .ok (.iload_n 0, 1) := by decide +kernel
theorem dJ6_bitCount_0f7a4_2 : decode cJ6_bitCount_0f7a4 2 = .ok (.iconst 1, 1) := by decide +kernel
theorem dJ6_bitCount_0f7a4_3 : decode cJ6_bitCount_0f7a4 3 = .ok (.iushr, 1) := by decide +kernel
theorem dJ6_bitCount_0f7a4_4 : decode cJ6_bitCount_0f7a4 4 = .ok (.ldc_w 265, 3) := by decide +kernel
theorem dJ6_bitCount_0f7a4_7 : decode cJ6_bitCount_0f7a4 7 = .ok (.iand, 1) := by decide +kernel
theorem dJ6_bitCount_0f7a4_8 : decode cJ6_bitCount_0f7a4 8 = .ok (.isub, 1) := by decide +kernel
theorem dJ6_bitCount_0f7a4_9 : decode cJ6_bitCount_0f7a4 9 = .ok (.istore_n 0, 1) := by decide +kernel
theorem dJ6_bitCount_0f7a4_10 : decode cJ6_bitCount_0f7a4 10 = .ok (.iload_n 0, 1) := by decide +kernel
theorem dJ6_bitCount_0f7a4_11 : decode cJ6_bitCount_0f7a4 11 = .ok (.ldc_w 266, 3) := by decide +kernel
theorem dJ6_bitCount_0f7a4_14 : decode cJ6_bitCount_0f7a4 14 = .ok (.iand, 1) := by decide +kernel
theorem dJ6_bitCount_0f7a4_15 : decode cJ6_bitCount_0f7a4 15 = .ok (.iload_n 0, 1) := by decide +kernel
theorem dJ6_bitCount_0f7a4_16 : decode cJ6_bitCount_0f7a4 16 = .ok (.iconst 2, 1) := by decide +kernel
theorem dJ6_bitCount_0f7a4_17 : decode cJ6_bitCount_0f7a4 17 = .ok (.iushr, 1) := by decide +kernel
theorem dJ6_bitCount_0f7a4_18 : decode cJ6_bitCount_0f7a4 18 = .ok (.ldc_w 266, 3) := by decide +kernel
theorem dJ6_bitCount_0f7a4_21 : decode cJ6_bitCount_0f7a4 21 = .ok (.iand, 1) := by decide +kernel
theorem dJ6_bitCount_0f7a4_22 : decode cJ6_bitCount_0f7a4 22 = .ok (.iadd, 1) := by decide +kernel
theorem dJ6_bitCount_0f7a4_23 : decode cJ6_bitCount_0f7a4 23 = .ok (.istore_n 0, 1) := by decide +kernel
theorem dJ6_bitCount_0f7a4_24 : decode cJ6_bitCount_0f7a4 24 = .ok (.iload_n 0, 1) := by decide +kernel
theorem dJ6_bitCount_0f7a4_25 : decode cJ6_bitCount_0f7a4 25 = .ok (.iload_n 0, 1) := by decide +kernel
theorem dJ6_bitCount_0f7a4_26 : decode cJ6_bitCount_0f7a4 26 = .ok (.iconst 4, 1) := by decide +kernel
theorem dJ6_bitCount_0f7a4_27 : decode cJ6_bitCount_0f7a4 27 = .ok (.iushr, 1) := by decide +kernel
theorem dJ6_bitCount_0f7a4_28 : decode cJ6_bitCount_0f7a4 28 = .ok (.iadd, 1) := by decide +kernel
theorem dJ6_bitCount_0f7a4_29 : decode cJ6_bitCount_0f7a4 29 = .ok (.ldc_w 267, 3) := by decide +kernel
theorem dJ6_bitCount_0f7a4_32 : decode cJ6_bitCount_0f7a4 32 = .ok (.iand, 1) := by decide +kernel
theorem dJ6_bitCount_0f7a4_33 : decode cJ6_bitCount_0f7a4 33 = .ok (.istore_n 0, 1) := by decide +kernel
theorem dJ6_bitCount_0f7a4_34 : decode cJ6_bitCount_0f7a4 34 = .ok (.iload_n 0, 1) := by decide +kernel
theorem dJ6_bitCount_0f7a4_35 : decode cJ6_bitCount_0f7a4 35 = .ok (.iload_n 0, 1) := by decide +kernel
theorem dJ6_bitCount_0f7a4_36 : decode cJ6_bitCount_0f7a4 36 = .ok (.bipush 8, 2) := by decide +kernel
theorem dJ6_bitCount_0f7a4_38 : decode cJ6_bitCount_0f7a4 38 = .ok (.iushr, 1) := by decide +kernel
theorem dJ6_bitCount_0f7a4_39 : decode cJ6_bitCount_0f7a4 39 = .ok (.iadd, 1) := by decide +kernel
theorem dJ6_bitCount_0f7a4_40 : decode cJ6_bitCount_0f7a4 40 = .ok (.istore_n 0, 1) := by decide +kernel
theorem dJ6_bitCount_0f7a4_41 : decode cJ6_bitCount_0f7a4 41 = .ok (.iload_n 0, 1) := by decide +kernel
theorem dJ6_bitCount_0f7a4_42 : decode cJ6_bitCount_0f7a4 42 = .ok (.iload_n 0, 1) := by decide +kernel
theorem dJ6_bitCount_0f7a4_43 : decode cJ6_bitCount_0f7a4 43 = .ok (.bipush 16, 2) := by decide +kernel
theorem dJ6_bitCount_0f7a4_45 : decode cJ6_bitCount_0f7a4 45 = .ok (.iushr, 1) := by decide +kernel
theorem dJ6_bitCount_0f7a4_46 : decode cJ6_bitCount_0f7a4 46 = .ok (.iadd, 1) := by decide +kernel
theorem dJ6_bitCount_0f7a4_47 : decode cJ6_bitCount_0f7a4 47 = .ok (.istore_n 0, 1) := by decide +kernel
theorem dJ6_bitCount_0f7a4_48 : decode cJ6_bitCount_0f7a4 48 = .ok (.iload_n 0, 1) := by decide +kernel
theorem dJ6_bitCount_0f7a4_49 : decode cJ6_bitCount_0f7a4 49 = .ok (.bipush 63, 2) := by decide +kernel
theorem dJ6_bitCount_0f7a4_51 : decode cJ6_bitCount_0f7a4 51 = .ok (.iand, 1) := by decide +kernel
theorem dJ6_bitCount_0f7a4_52 : decode cJ6_bitCount_0f7a4 52 = .ok (.ireturn, 1) := by decide +kernel
theorem dJ9_abs_0f7a4_0 : decode cJ9_abs_0f7a4 0 = .ok (.iload_n 0, 1) := by decide +kernel
theorem dJ9_abs_0f7a4_1 : decode cJ9_abs_0f7a4 1 = .ok (.ifCond .ge 8, 3) := by decide +kernel
theorem dJ9_abs_0f7a4_4 : decode cJ9_abs_0f7a4 4 = .ok (.iload_n 0, 1) := by decide +kernel
theorem dJ9_abs_0f7a4_5 : decode cJ9_abs_0f7a4 5 = .ok (.ineg, 1) := by decide +kernel
theorem dJ9_abs_0f7a4_6 : decode cJ9_abs_0f7a4 6 = .ok (.goto 4, 3) := by decide +kernel
theorem dJ9_abs_0f7a4_9 : decode cJ9_abs_0f7a4 9 = .ok (.iload_n 0, 1) := by decide +kernel
theorem dJ9_abs_0f7a4_10 : decode cJ9_abs_0f7a4 10 = .ok (.ireturn, 1) := by decide +kernel
theorem dJ9_max_7cf53_0 : decode cJ9_max_7cf53 0 = .ok (.iload_n 0, 1) := by decide +kernel
theorem dJ9_max_7cf53_1 : decode cJ9_max_7cf53 1 = .ok (.iload_n 1, 1) := by decide +kernel
theorem dJ9_max_7cf53_2 : decode cJ9_max_7cf53 2 = .ok (.if_icmp .lt 7, 3) := by decide +kernel
theorem dJ9_max_7cf53_5 : decode cJ9_max_7cf53 5 = .ok (.iload_n 0, 1) := by decide +kernel
theorem dJ9_max_7cf53_6 : decode cJ9_max_7cf53 6 = .ok (.goto 4, 3) := by decide +kernel
theorem dJ9_max_7cf53_9 : decode cJ9_max_7cf53 9 = .ok (.iload_n 1, 1) := by decide +kernel
theorem dJ9_max_7cf53_10 : decode cJ9_max_7cf53 10 = .ok (.ireturn, 1) := by decide +kernel
theorem dJ9_min_7cf53_0 : decode cJ9_min_7cf53 0 = .ok (.iload_n 0, 1) := by decide +kernel
theorem dJ9_min_7cf53_1 : decode cJ9_min_7cf53 1 = .ok (.iload_n 1, 1) := by decide +kernel
theorem dJ9_min_7cf53_2 : decode cJ9_min_7cf53 2 = .ok (.if_icmp .gt 7, 3) := by decide +kernel
theorem dJ9_min_7cf53_5 : decode cJ9_min_7cf53 5 = .ok (.iload_n 0, 1) := by decide +kernel
theorem dJ9_min_7cf53_6 : decode cJ9_min_7cf53 6 = .ok (.goto 4, 3) := by decide +kernel
theorem dJ9_min_7cf53_9 : decode cJ9_min_7cf53 9 = .ok (.iload_n 1, 1) := by decide +kernel
theorem dJ9_min_7cf53_10 : decode cJ9_min_7cf53 10 = .ok (.ireturn, 1) := by decide +kernel
theorem dJ0_length_8abf5_0 : decode cJ0_length_8abf5 0 = .ok (.aload_n 0, 1) := by decide +kernel
theorem dJ0_length_8abf5_1 : decode cJ0_length_8abf5 1 = .ok (.getfield 9, 3) := by decide +kernel
theorem dJ0_length_8abf5_4 : decode cJ0_length_8abf5 4 = .ok (.arraylength, 1) := by decide +kernel
theorem dJ0_length_8abf5_5 : decode cJ0_length_8abf5 5 = .ok (.aload_n 0, 1) := by decide +kernel
theorem dJ0_length_8abf5_6 : decode cJ0_length_8abf5 6 = .ok (.invokevirtual 335, 3) := by decide +kernel
theorem dJ0_length_8abf5_9 : decode cJ0_length_8abf5 9 = .ok (.ishr, 1) := by decide +kernel
theorem dJ0_length_8abf5_10 : decode cJ0_length_8abf5 10 = .ok (.ireturn, 1) := by decide +kernel
theorem dJ0_charAt_5068e_0 : decode cJ0_charAt_5068e 0 = .ok (.aload_n 0, 1) := by decide +kernel
theorem dJ0_charAt_5068e_1 : decode cJ0_charAt_5068e 1 = .ok (.invokevirtual 492, 3) := by decide +kernel
theorem dJ0_charAt_5068e_4 : decode cJ0_charAt_5068e 4 = .ok (.ifCond .eq 12, 3) := by decide +kernel
theorem dJ0_charAt_5068e_7 : decode cJ0_charAt_5068e 7 = .ok (.aload_n 0, 1) := by decide +kernel
theorem dJ0_charAt_5068e_8 : decode cJ0_charAt_5068e 8 = .ok (.getfield 9, 3) := by decide +kernel
theorem dJ0_charAt_5068e_11 : decode cJ0_charAt_5068e 11 = .ok (.iload_n 1, 1) := by decide +kernel
theorem dJ0_charAt_5068e_12 : decode cJ0_charAt_5068e 12 = .ok (.invokestatic 495, 3) := by decide +kernel
theorem dJ0_charAt_5068e_15 : decode cJ0_charAt_5068e 15 = .ok (.ireturn, 1) := by decide +kernel
theorem dJ0_charAt_5068e_16 : decode cJ0_charAt_5068e 16 = .ok (.aload_n 0, 1) := by decide +kernel
theorem dJ0_charAt_5068e_17 : decode cJ0_charAt_5068e 17 = .ok (.getfield 9, 3) := by decide +kernel
theorem dJ0_charAt_5068e_20 : decode cJ0_charAt_5068e 20 = .ok (.iload_n 1, 1) := by decide +kernel
theorem dJ0_charAt_5068e_21 : decode cJ0_charAt_5068e 21 = .ok (.invokestatic 498, 3) := by decide +kernel
theorem dJ0_charAt_5068e_24 : decode cJ0_charAt_5068e 24 = .ok (.ireturn, 1) := by decide +kernel
theorem dJ0_coder_7d493_0 : decode cJ0_coder_7d493 0 = .ok (.getstatic 38, 3) := by decide +kernel
theorem dJ0_coder_7d493_3 : decode cJ0_coder_7d493 3 = .ok (.ifCond .eq 10, 3) := by decide +kernel
theorem dJ0_coder_7d493_6 : decode cJ0_coder_7d493 6 = .ok (.aload_n 0, 1) := by decide +kernel
theorem dJ0_coder_7d493_7 : decode cJ0_coder_7d493 7 = .ok (.getfield 15, 3) := by decide +kernel
theorem dJ0_coder_7d493_10 : decode cJ0_coder_7d493 10 = .ok (.goto 4, 3) := by decide +kernel
theorem dJ0_coder_7d493_13 : decode cJ0_coder_7d493 13 = .ok (.iconst 1, 1) := by decide +kernel
theorem dJ0_coder_7d493_14 : decode cJ0_coder_7d493 14 = .ok (.ireturn, 1) := by decide +kernel
theorem dJ0_isLatin1_aae02_0 : decode cJ0_isLatin1_aae02 0 = .ok (.getstatic 38, 3) := by decide +kernel
theorem dJ0_isLatin1_aae02_3 : decode cJ0_isLatin1_aae02 3 = .ok (.ifCond .eq 14, 3) := by decide +kernel
theorem dJ0_isLatin1_aae02_6 : decode cJ0_isLatin1_aae02 6 = .ok (.aload_n 0, 1) := by decide +kernel
theorem dJ0_isLatin1_aae02_7 : decode cJ0_isLatin1_aae02 7 = .ok (.getfield 15, 3) := by decide +kernel
theorem dJ0_isLatin1_aae02_10 : decode cJ0_isLatin1_aae02 10 = .ok (.ifCond .ne 7, 3) := by decide +kernel
theorem dJ0_isLatin1_aae02_13 : decode cJ0_isLatin1_aae02 13 = .ok (.iconst 1, 1) := by decide +kernel
theorem dJ0_isLatin1_aae02_14 : decode cJ0_isLatin1_aae02 14 = .ok (.goto 4, 3) := by decide +kernel
theorem dJ0_isLatin1_aae02_17 : decode cJ0_isLatin1_aae02 17 = .ok (.iconst 0, 1) := by decide +kernel
theorem dJ0_isLatin1_aae02_18 : decode cJ0_isLatin1_aae02 18 = .ok (.ireturn, 1) := by decide +kernel
theorem dJ0_checkIndex_df160_0 : decode cJ0_checkIndex_df160 0 = .ok (.iload_n 0, 1) := by decide +kernel
theorem dJ0_checkIndex_df160_1 : decode cJ0_checkIndex_df160 1 = .ok (.iload_n 1, 1) := by decide +kernel
theorem dJ0_checkIndex_df160_2 : decode cJ0_checkIndex_df160 2 = .ok (.getstatic 1053, 3) := by decide +kernel
theorem dJ0_checkIndex_df160_5 : decode cJ0_checkIndex_df160 5 = .ok (.invokestatic 1059, 3) := by decide +kernel
theorem dJ0_checkIndex_df160_8 : decode cJ0_checkIndex_df160 8 = .ok (.pop, 1) := by decide +kernel
theorem dJ0_checkIndex_df160_9 : decode cJ0_checkIndex_df160 9 = .ok (.return_, 1) := by decide +kernel
theorem dJ1_charAt_3b067_0 : decode cJ1_charAt_3b067 0 = .ok (.iload_n 1, 1) := by decide +kernel
theorem dJ1_charAt_3b067_1 : decode cJ1_charAt_3b067 1 = .ok (.aload_n 0, 1) := by decide +kernel
theorem dJ1_charAt_3b067_2 : decode cJ1_charAt_3b067 2 = .ok (.arraylength, 1) := by decide +kernel
theorem dJ1_charAt_3b067_3 : decode cJ1_charAt_3b067 3 = .ok (.invokestatic 9, 3) := by decide +kernel
theorem dJ1_charAt_3b067_6 : decode cJ1_charAt_3b067 6 = .ok (.aload_n 0, 1) := by decide +kernel
theorem dJ1_charAt_3b067_7 : decode cJ1_charAt_3b067 7 = .ok (.iload_n 1, 1) := by decide +kernel
theorem dJ1_charAt_3b067_8 : decode cJ1_charAt_3b067 8 = .ok (.baload, 1) := by decide +kernel
theorem dJ1_charAt_3b067_9 : decode cJ1_charAt_3b067 9 = .ok (.sipush 255, 3) := by decide +kernel
theorem dJ1_charAt_3b067_12 : decode cJ1_charAt_3b067 12 = .ok (.iand, 1) := by decide +kernel
theorem dJ1_charAt_3b067_13 : decode cJ1_charAt_3b067 13 = .ok (.i2c, 1) := by decide +kernel
theorem dJ1_charAt_3b067_14 : decode cJ1_charAt_3b067 14 = .ok (.ireturn, 1) := by decide +kernel
theorem dJ2_getChar_3b067_0 : decode cJ2_getChar_3b067 0 = .ok (.getstatic 44, 3) := by decide +kernel
theorem dJ2_getChar_3b067_3 : decode cJ2_getChar_3b067 3 = .ok (.ifCond .ne 25, 3) := by decide +kernel
theorem dJ2_getChar_3b067_6 : decode cJ2_getChar_3b067 6 = .ok (.iload_n 1, 1) := by decide +kernel
theorem dJ2_getChar_3b067_7 : decode cJ2_getChar_3b067 7 = .ok (.ifCond .lt 11, 3) := by decide +kernel
theorem dJ2_getChar_3b067_10 : decode cJ2_getChar_3b067 10 = .ok (.iload_n 1, 1) := by decide +kernel
theorem dJ2_getChar_3b067_11 : decode cJ2_getChar_3b067 11 = .ok (.aload_n 0, 1) := by decide +kernel
theorem dJ2_getChar_3b067_12 : decode cJ2_getChar_3b067 12 = .ok (.invokestatic 48, 3) := by decide +kernel
theorem dJ2_getChar_3b067_15 : decode cJ2_getChar_3b067 15 = .ok (.if_icmp .lt 13, 3) := by decide +kernel
theorem dJ2_getChar_3b067_18 : decode cJ2_getChar_3b067 18 = .ok (.new 52, 3) := by decide +kernel
theorem dJ2_getChar_3b067_21 : decode cJ2_getChar_3b067 21 = .ok (.dup, 1) := by decide +kernel
theorem dJ2_getChar_3b067_22 : decode cJ2_getChar_3b067 22 = .ok (.ldc 54, 2) := by decide +kernel
theorem dJ2_getChar_3b067_24 : decode cJ2_getChar_3b067 24 = .ok (.invokespecial 56, 3) := by decide +kernel
theorem dJ2_getChar_3b067_27 : decode cJ2_getChar_3b067 27 = .ok (.athrow, 1) := by decide +kernel
theorem dJ2_getChar_3b067_28 : decode cJ2_getChar_3b067 28 = .ok (.iload_n 1, 1) := by decide +kernel
theorem dJ2_getChar_3b067_29 : decode cJ2_getChar_3b067 29 = .ok (.iconst 1, 1) := by decide +kernel
theorem dJ2_getChar_3b067_30 : decode cJ2_getChar_3b067 30 = .ok (.ishl, 1) := by decide +kernel
theorem dJ2_getChar_3b067_31 : decode cJ2_getChar_3b067 31 = .ok (.istore_n 1, 1) := by decide +kernel
theorem dJ2_getChar_3b067_32 : decode cJ2_getChar_3b067 32 = .ok (.aload_n 0, 1) := by decide +kernel
theorem dJ2_getChar_3b067_33 : decode cJ2_getChar_3b067 33 = .ok (.iload_n 1, 1) := by decide +kernel
theorem dJ2_getChar_3b067_34 : decode cJ2_getChar_3b067 34 = .ok (.iinc 1 1, 3) := by decide +kernel
theorem dJ2_getChar_3b067_37 : decode cJ2_getChar_3b067 37 = .ok (.baload, 1) := by decide +kernel
theorem dJ2_getChar_3b067_38 : decode cJ2_getChar_3b067 38 = .ok (.sipush 255, 3) := by decide +kernel
theorem dJ2_getChar_3b067_41 : decode cJ2_getChar_3b067 41 = .ok (.iand, 1) := by decide +kernel
theorem dJ2_getChar_3b067_42 : decode cJ2_getChar_3b067 42 = .ok (.getstatic 59, 3) := by decide +kernel
theorem dJ2_getChar_3b067_45 : decode cJ2_getChar_3b067 45 = .ok (.ishl, 1) := by decide +kernel
theorem dJ2_getChar_3b067_46 : decode cJ2_getChar_3b067 46 = .ok (.aload_n 0, 1) := by decide +kernel
theorem dJ2_getChar_3b067_47 : decode cJ2_getChar_3b067 47 = .ok (.iload_n 1, 1) := by decide +kernel
theorem dJ2_getChar_3b067_48 : decode cJ2_getChar_3b067 48 = .ok (.baload, 1) := by decide +kernel
theorem dJ2_getChar_3b067_49 : decode cJ2_getChar_3b067 49 = .ok (.sipush 255, 3) := by decide +kernel
theorem dJ2_getChar_3b067_52 : decode cJ2_getChar_3b067 52 = .ok (.iand, 1) := by decide +kernel
theorem dJ2_getChar_3b067_53 : decode cJ2_getChar_3b067 53 = .ok (.getstatic 63, 3) := by decide +kernel
theorem dJ2_getChar_3b067_56 : decode cJ2_getChar_3b067 56 = .ok (.ishl, 1) := by decide +kernel
theorem dJ2_getChar_3b067_57 : decode cJ2_getChar_3b067 57 = .ok (.ior, 1) := by decide +kernel
theorem dJ2_getChar_3b067_58 : decode cJ2_getChar_3b067 58 = .ok (.i2c, 1) := by decide +kernel
theorem dJ2_getChar_3b067_59 : decode cJ2_getChar_3b067 59 = .ok (.ireturn, 1) := by decide +kernel
theorem dJ2_length_9d52b_0 : decode cJ2_length_9d52b 0 = .ok (.aload_n 0, 1) := by decide +kernel
theorem dJ2_length_9d52b_1 : decode cJ2_length_9d52b 1 = .ok (.arraylength, 1) := by decide +kernel
theorem dJ2_length_9d52b_2 : decode cJ2_length_9d52b 2 = .ok (.iconst 1, 1) := by decide +kernel
theorem dJ2_length_9d52b_3 : decode cJ2_length_9d52b 3 = .ok (.ishr, 1) := by decide +kernel
theorem dJ2_length_9d52b_4 : decode cJ2_length_9d52b 4 = .ok (.ireturn, 1) := by decide +kernel
theorem dJ2_charAt_3b067_0 : decode cJ2_charAt_3b067 0 = .ok (.iload_n 1, 1) := by decide +kernel
theorem dJ2_charAt_3b067_1 : decode cJ2_charAt_3b067 1 = .ok (.aload_n 0, 1) := by decide +kernel
theorem dJ2_charAt_3b067_2 : decode cJ2_charAt_3b067 2 = .ok (.invokestatic 67, 3) := by decide +kernel
theorem dJ2_charAt_3b067_5 : decode cJ2_charAt_3b067 5 = .ok (.aload_n 0, 1) := by decide +kernel
theorem dJ2_charAt_3b067_6 : decode cJ2_charAt_3b067 6 = .ok (.iload_n 1, 1) := by decide +kernel
theorem dJ2_charAt_3b067_7 : decode cJ2_charAt_3b067 7 = .ok (.invokestatic 71, 3) := by decide +kernel
theorem dJ2_charAt_3b067_10 : decode cJ2_charAt_3b067 10 = .ok (.ireturn, 1) := by decide +kernel
theorem dJ2_checkIndex_2214a_0 : decode cJ2_checkIndex_2214a 0 = .ok (.iload_n 0, 1) := by decide +kernel
theorem dJ2_checkIndex_2214a_1 : decode cJ2_checkIndex_2214a 1 = .ok (.aload_n 1, 1) := by decide +kernel
theorem dJ2_checkIndex_2214a_2 : decode cJ2_checkIndex_2214a 2 = .ok (.invokestatic 48, 3) := by decide +kernel
theorem dJ2_checkIndex_2214a_5 : decode cJ2_checkIndex_2214a 5 = .ok (.invokestatic 414, 3) := by decide +kernel
theorem dJ2_checkIndex_2214a_8 : decode cJ2_checkIndex_2214a 8 = .ok (.return_, 1) := by decide +kernel
theorem dJ7_fill_53178_0 : decode cJ7_fill_53178 0 = .ok (.iconst 0, 1) := by decide +kernel
theorem dJ7_fill_53178_1 : decode cJ7_fill_53178 1 = .ok (.istore_n 2, 1) := by decide +kernel
theorem dJ7_fill_53178_2 : decode cJ7_fill_53178 2 = .ok (.aload_n 0, 1) := by decide +kernel
theorem dJ7_fill_53178_3 : decode cJ7_fill_53178 3 = .ok (.arraylength, 1) := by decide +kernel
theorem dJ7_fill_53178_4 : decode cJ7_fill_53178 4 = .ok (.istore_n 3, 1) := by decide +kernel
theorem dJ7_fill_53178_5 : decode cJ7_fill_53178 5 = .ok (.iload_n 2, 1) := by decide +kernel
theorem dJ7_fill_53178_6 : decode cJ7_fill_53178 6 = .ok (.iload_n 3, 1) := by decide +kernel
theorem dJ7_fill_53178_7 : decode cJ7_fill_53178 7 = .ok (.if_icmp .ge 13, 3) := by decide +kernel
theorem dJ7_fill_53178_10 : decode cJ7_fill_53178 10 = .ok (.aload_n 0, 1) := by decide +kernel
theorem dJ7_fill_53178_11 : decode cJ7_fill_53178 11 = .ok (.iload_n 2, 1) := by decide +kernel
theorem dJ7_fill_53178_12 : decode cJ7_fill_53178 12 = .ok (.iload_n 1, 1) := by decide +kernel
theorem dJ7_fill_53178_13 : decode cJ7_fill_53178 13 = .ok (.iastore, 1) := by decide +kernel
theorem dJ7_fill_53178_14 : decode cJ7_fill_53178 14 = .ok (.iinc 2 1, 3) := by decide +kernel
theorem dJ7_fill_53178_17 : decode cJ7_fill_53178 17 = .ok (.goto (-12), 3) := by decide +kernel
theorem dJ7_fill_53178_20 : decode cJ7_fill_53178 20 = .ok (.return_, 1) := by decide +kernel
theorem dJ3_checkIndex_8e157_0 : decode cJ3_checkIndex_8e157 0 = .ok (.iload_n 0, 1) := by decide +kernel
theorem dJ3_checkIndex_8e157_1 : decode cJ3_checkIndex_8e157 1 = .ok (.ifCond .lt 8, 3) := by decide +kernel
theorem dJ3_checkIndex_8e157_4 : decode cJ3_checkIndex_8e157 4 = .ok (.iload_n 0, 1) := by decide +kernel
theorem dJ3_checkIndex_8e157_5 : decode cJ3_checkIndex_8e157 5 = .ok (.iload_n 1, 1) := by decide +kernel
theorem dJ3_checkIndex_8e157_6 : decode cJ3_checkIndex_8e157 6 = .ok (.if_icmp .lt 10, 3) := by decide +kernel
theorem dJ3_checkIndex_8e157_9 : decode cJ3_checkIndex_8e157 9 = .ok (.aload_n 2, 1) := by decide +kernel
theorem dJ3_checkIndex_8e157_10 : decode cJ3_checkIndex_8e157 10 = .ok (.iload_n 0, 1) := by decide +kernel
theorem dJ3_checkIndex_8e157_11 : decode cJ3_checkIndex_8e157 11 = .ok (.iload_n 1, 1) := by decide +kernel
theorem dJ3_checkIndex_8e157_12 : decode cJ3_checkIndex_8e157 12 = .ok (.invokestatic 95, 3) := by decide +kernel
theorem dJ3_checkIndex_8e157_15 : decode cJ3_checkIndex_8e157 15 = .ok (.athrow, 1) := by decide +kernel
theorem dJ3_checkIndex_8e157_16 : decode cJ3_checkIndex_8e157 16 = .ok (.iload_n 0, 1) := by decide +kernel
theorem dJ3_checkIndex_8e157_17 : decode cJ3_checkIndex_8e157 17 = .ok (.ireturn, 1) := by decide +kernel
