/-! decode rows, printed -/
theorem dX0_init_0 : decode cX0_init 0 = .ok (.aload_n 0, 1) := by decide +kernel
theorem dX0_init_1 : decode cX0_init 1 = .ok (.invokespecial 3, 3) := by decide +kernel
theorem dX0_init_4 : decode cX0_init 4 = .ok (.aload_n 0, 1) := by decide +kernel
theorem dX0_init_5 : decode cX0_init 5 = .ok (.iconst 4, 1) := by decide +kernel
theorem dX0_init_6 : decode cX0_init 6 = .ok (.newarray .int, 2) := by decide +kernel
theorem dX0_init_8 : decode cX0_init 8 = .ok (.putfield 9, 3) := by decide +kernel
theorem dX0_init_11 : decode cX0_init 11 = .ok (.aload_n 0, 1) := by decide +kernel
theorem dX0_init_12 : decode cX0_init 12 = .ok (.iconst 4, 1) := by decide +kernel
theorem dX0_init_13 : decode cX0_init 13 = .ok (.newarray .int, 2) := by decide +kernel
theorem dX0_init_15 : decode cX0_init 15 = .ok (.putfield 15, 3) := by decide +kernel
theorem dX0_init_18 : decode cX0_init 18 = .ok (.return_, 1) := by decide +kernel
theorem dX0_start_0 : decode cX0_start 0 = .ok (.aload_n 0, 1) := by decide +kernel
theorem dX0_start_1 : decode cX0_start 1 = .ok (.iload_n 1, 1) := by decide +kernel
theorem dX0_start_2 : decode cX0_start 2 = .ok (.iconst 4, 1) := by decide +kernel
theorem dX0_start_3 : decode cX0_start 3 = .ok (.invokestatic 18, 3) := by decide +kernel
theorem dX0_start_6 : decode cX0_start 6 = .ok (.putfield 24, 3) := by decide +kernel
theorem dX0_start_9 : decode cX0_start 9 = .ok (.iconst 0, 1) := by decide +kernel
theorem dX0_start_10 : decode cX0_start 10 = .ok (.istore_n 2, 1) := by decide +kernel
theorem dX0_start_11 : decode cX0_start 11 = .ok (.iload_n 2, 1) := by decide +kernel
theorem dX0_start_12 : decode cX0_start 12 = .ok (.aload_n 0, 1) := by decide +kernel
theorem dX0_start_13 : decode cX0_start 13 = .ok (.getfield 24, 3) := by decide +kernel
theorem dX0_start_16 : decode cX0_start 16 = .ok (.if_icmp .ge 16, 3) := by decide +kernel
theorem dX0_start_19 : decode cX0_start 19 = .ok (.aload_n 0, 1) := by decide +kernel
theorem dX0_start_20 : decode cX0_start 20 = .ok (.getfield 9, 3) := by decide +kernel
theorem dX0_start_23 : decode cX0_start 23 = .ok (.iload_n 2, 1) := by decide +kernel
theorem dX0_start_24 : decode cX0_start 24 = .ok (.iload_n 2, 1) := by decide +kernel
theorem dX0_start_25 : decode cX0_start 25 = .ok (.iastore, 1) := by decide +kernel
theorem dX0_start_26 : decode cX0_start 26 = .ok (.iinc 2 1, 3) := by decide +kernel
theorem dX0_start_29 : decode cX0_start 29 = .ok (.goto (-18), 3) := by decide +kernel
theorem dX0_start_32 : decode cX0_start 32 = .ok (.return_, 1) := by decide +kernel
theorem dX0_keepCurrent_0 : decode cX0_keepCurrent 0 = .ok (.aload_n 0, 1) := by decide +kernel
theorem dX0_keepCurrent_1 : decode cX0_keepCurrent 1 = .ok (.getfield 9, 3) := by decide +kernel
theorem dX0_keepCurrent_4 : decode cX0_keepCurrent 4 = .ok (.iconst 0, 1) := by decide +kernel
theorem dX0_keepCurrent_5 : decode cX0_keepCurrent 5 = .ok (.aload_n 0, 1) := by decide +kernel
theorem dX0_keepCurrent_6 : decode cX0_keepCurrent 6 = .ok (.getfield 15, 3) := by decide +kernel
theorem dX0_keepCurrent_9 : decode cX0_keepCurrent 9 = .ok (.iconst 0, 1) := by decide +kernel
theorem dX0_keepCurrent_10 : decode cX0_keepCurrent 10 = .ok (.aload_n 0, 1) := by decide +kernel
theorem dX0_keepCurrent_11 : decode cX0_keepCurrent 11 = .ok (.getfield 24, 3) := by decide +kernel
theorem dX0_keepCurrent_14 : decode cX0_keepCurrent 14 = .ok (.invokestatic 28, 3) := by decide +kernel
theorem dX0_keepCurrent_17 : decode cX0_keepCurrent 17 = .ok (.return_, 1) := by decide +kernel
theorem dX0_bestIsPresent_0 : decode cX0_bestIsPresent 0 = .ok (.iconst 0, 1) := by decide +kernel
theorem dX0_bestIsPresent_1 : decode cX0_bestIsPresent 1 = .ok (.istore_n 1, 1) := by decide +kernel
theorem dX0_bestIsPresent_2 : decode cX0_bestIsPresent 2 = .ok (.iload_n 1, 1) := by decide +kernel
theorem dX0_bestIsPresent_3 : decode cX0_bestIsPresent 3 = .ok (.aload_n 0, 1) := by decide +kernel
theorem dX0_bestIsPresent_4 : decode cX0_bestIsPresent 4 = .ok (.getfield 24, 3) := by decide +kernel
theorem dX0_bestIsPresent_7 : decode cX0_bestIsPresent 7 = .ok (.if_icmp .ge 21, 3) := by decide +kernel
theorem dX0_bestIsPresent_10 : decode cX0_bestIsPresent 10 = .ok (.aload_n 0, 1) := by decide +kernel
theorem dX0_bestIsPresent_11 : decode cX0_bestIsPresent 11 = .ok (.getfield 15, 3) := by decide +kernel
theorem dX0_bestIsPresent_14 : decode cX0_bestIsPresent 14 = .ok (.iload_n 1, 1) := by decide +kernel
theorem dX0_bestIsPresent_15 : decode cX0_bestIsPresent 15 = .ok (.iaload, 1) := by decide +kernel
theorem dX0_bestIsPresent_16 : decode cX0_bestIsPresent 16 = .ok (.iload_n 1, 1) := by decide +kernel
theorem dX0_bestIsPresent_17 : decode cX0_bestIsPresent 17 = .ok (.if_icmp .eq 5, 3) := by decide +kernel
theorem dX0_bestIsPresent_20 : decode cX0_bestIsPresent 20 = .ok (.iconst 0, 1) := by decide +kernel
theorem dX0_bestIsPresent_21 : decode cX0_bestIsPresent 21 = .ok (.ireturn, 1) := by decide +kernel
theorem dX0_bestIsPresent_22 : decode cX0_bestIsPresent 22 = .ok (.iinc 1 1, 3) := by decide +kernel
theorem dX0_bestIsPresent_25 : decode cX0_bestIsPresent 25 = .ok (.goto (-23), 3) := by decide +kernel
theorem dX0_bestIsPresent_28 : decode cX0_bestIsPresent 28 = .ok (.iconst 1, 1) := by decide +kernel
theorem dX0_bestIsPresent_29 : decode cX0_bestIsPresent 29 = .ok (.ireturn, 1) := by decide +kernel
theorem dX0_moveOn_0 : decode cX0_moveOn 0 = .ok (.aload_n 0, 1) := by decide +kernel
theorem dX0_moveOn_1 : decode cX0_moveOn 1 = .ok (.getfield 24, 3) := by decide +kernel
theorem dX0_moveOn_4 : decode cX0_moveOn 4 = .ok (.iconst 2, 1) := by decide +kernel
theorem dX0_moveOn_5 : decode cX0_moveOn 5 = .ok (.isub, 1) := by decide +kernel
theorem dX0_moveOn_6 : decode cX0_moveOn 6 = .ok (.istore_n 1, 1) := by decide +kernel
theorem dX0_moveOn_7 : decode cX0_moveOn 7 = .ok (.iload_n 1, 1) := by decide +kernel
theorem dX0_moveOn_8 : decode cX0_moveOn 8 = .ok (.ifCond .lt 26, 3) := by decide +kernel
theorem dX0_moveOn_11 : decode cX0_moveOn 11 = .ok (.aload_n 0, 1) := by decide +kernel
theorem dX0_moveOn_12 : decode cX0_moveOn 12 = .ok (.getfield 9, 3) := by decide +kernel
theorem dX0_moveOn_15 : decode cX0_moveOn 15 = .ok (.iload_n 1, 1) := by decide +kernel
theorem dX0_moveOn_16 : decode cX0_moveOn 16 = .ok (.iaload, 1) := by decide +kernel
theorem dX0_moveOn_17 : decode cX0_moveOn 17 = .ok (.aload_n 0, 1) := by decide +kernel
theorem dX0_moveOn_18 : decode cX0_moveOn 18 = .ok (.getfield 9, 3) := by decide +kernel
theorem dX0_moveOn_21 : decode cX0_moveOn 21 = .ok (.iload_n 1, 1) := by decide +kernel
theorem dX0_moveOn_22 : decode cX0_moveOn 22 = .ok (.iconst 1, 1) := by decide +kernel
theorem dX0_moveOn_23 : decode cX0_moveOn 23 = .ok (.iadd, 1) := by decide +kernel
theorem dX0_moveOn_24 : decode cX0_moveOn 24 = .ok (.iaload, 1) := by decide +kernel
theorem dX0_moveOn_25 : decode cX0_moveOn 25 = .ok (.if_icmp .le 9, 3) := by decide +kernel
theorem dX0_moveOn_28 : decode cX0_moveOn 28 = .ok (.iinc 1 (-1), 3) := by decide +kernel
theorem dX0_moveOn_31 : decode cX0_moveOn 31 = .ok (.goto (-24), 3) := by decide +kernel
theorem dX0_moveOn_34 : decode cX0_moveOn 34 = .ok (.iload_n 1, 1) := by decide +kernel
theorem dX0_moveOn_35 : decode cX0_moveOn 35 = .ok (.ifCond .ge 5, 3) := by decide +kernel
theorem dX0_moveOn_38 : decode cX0_moveOn 38 = .ok (.iconst 0, 1) := by decide +kernel
theorem dX0_moveOn_39 : decode cX0_moveOn 39 = .ok (.ireturn, 1) := by decide +kernel
theorem dX0_moveOn_40 : decode cX0_moveOn 40 = .ok (.aload_n 0, 1) := by decide +kernel
theorem dX0_moveOn_41 : decode cX0_moveOn 41 = .ok (.getfield 24, 3) := by decide +kernel
theorem dX0_moveOn_44 : decode cX0_moveOn 44 = .ok (.iconst 1, 1) := by decide +kernel
theorem dX0_moveOn_45 : decode cX0_moveOn 45 = .ok (.isub, 1) := by decide +kernel
theorem dX0_moveOn_46 : decode cX0_moveOn 46 = .ok (.istore_n 2, 1) := by decide +kernel
theorem dX0_moveOn_47 : decode cX0_moveOn 47 = .ok (.iload_n 2, 1) := by decide +kernel
theorem dX0_moveOn_48 : decode cX0_moveOn 48 = .ok (.iload_n 1, 1) := by decide +kernel
theorem dX0_moveOn_49 : decode cX0_moveOn 49 = .ok (.if_icmp .le 24, 3) := by decide +kernel
theorem dX0_moveOn_52 : decode cX0_moveOn 52 = .ok (.aload_n 0, 1) := by decide +kernel
theorem dX0_moveOn_53 : decode cX0_moveOn 53 = .ok (.getfield 9, 3) := by decide +kernel
theorem dX0_moveOn_56 : decode cX0_moveOn 56 = .ok (.iload_n 2, 1) := by decide +kernel
theorem dX0_moveOn_57 : decode cX0_moveOn 57 = .ok (.iaload, 1) := by decide +kernel
theorem dX0_moveOn_58 : decode cX0_moveOn 58 = .ok (.aload_n 0, 1) := by decide +kernel
theorem dX0_moveOn_59 : decode cX0_moveOn 59 = .ok (.getfield 9, 3) := by decide +kernel
theorem dX0_moveOn_62 : decode cX0_moveOn 62 = .ok (.iload_n 1, 1) := by decide +kernel
theorem dX0_moveOn_63 : decode cX0_moveOn 63 = .ok (.iaload, 1) := by decide +kernel
theorem dX0_moveOn_64 : decode cX0_moveOn 64 = .ok (.if_icmp .ge 9, 3) := by decide +kernel
theorem dX0_moveOn_67 : decode cX0_moveOn 67 = .ok (.iinc 2 (-1), 3) := by decide +kernel
theorem dX0_moveOn_70 : decode cX0_moveOn 70 = .ok (.goto (-23), 3) := by decide +kernel
theorem dX0_moveOn_73 : decode cX0_moveOn 73 = .ok (.aload_n 0, 1) := by decide +kernel
theorem dX0_moveOn_74 : decode cX0_moveOn 74 = .ok (.iload_n 1, 1) := by decide +kernel
theorem dX0_moveOn_75 : decode cX0_moveOn 75 = .ok (.iload_n 2, 1) := by decide +kernel
theorem dX0_moveOn_76 : decode cX0_moveOn 76 = .ok (.invokevirtual 34, 3) := by decide +kernel
theorem dX0_moveOn_79 : decode cX0_moveOn 79 = .ok (.iload_n 1, 1) := by decide +kernel
theorem dX0_moveOn_80 : decode cX0_moveOn 80 = .ok (.iconst 1, 1) := by decide +kernel
theorem dX0_moveOn_81 : decode cX0_moveOn 81 = .ok (.iadd, 1) := by decide +kernel
theorem dX0_moveOn_82 : decode cX0_moveOn 82 = .ok (.istore_n 3, 1) := by decide +kernel
theorem dX0_moveOn_83 : decode cX0_moveOn 83 = .ok (.aload_n 0, 1) := by decide +kernel
theorem dX0_moveOn_84 : decode cX0_moveOn 84 = .ok (.getfield 24, 3) := by decide +kernel
theorem dX0_moveOn_87 : decode cX0_moveOn 87 = .ok (.iconst 1, 1) := by decide +kernel
theorem dX0_moveOn_88 : decode cX0_moveOn 88 = .ok (.isub, 1) := by decide +kernel
theorem dX0_moveOn_89 : decode cX0_moveOn 89 = .ok (.istore 4, 2) := by decide +kernel
theorem dX0_moveOn_91 : decode cX0_moveOn 91 = .ok (.iload_n 3, 1) := by decide +kernel
theorem dX0_moveOn_92 : decode cX0_moveOn 92 = .ok (.iload 4, 2) := by decide +kernel
theorem dX0_moveOn_94 : decode cX0_moveOn 94 = .ok (.if_icmp .ge 19, 3) := by decide +kernel
theorem dX0_moveOn_97 : decode cX0_moveOn 97 = .ok (.aload_n 0, 1) := by decide +kernel
theorem dX0_moveOn_98 : decode cX0_moveOn 98 = .ok (.iload_n 3, 1) := by decide +kernel
theorem dX0_moveOn_99 : decode cX0_moveOn 99 = .ok (.iload 4, 2) := by decide +kernel
theorem dX0_moveOn_101 : decode cX0_moveOn 101 = .ok (.invokevirtual 34, 3) := by decide +kernel
theorem dX0_moveOn_104 : decode cX0_moveOn 104 = .ok (.iinc 3 1, 3) := by decide +kernel
theorem dX0_moveOn_107 : decode cX0_moveOn 107 = .ok (.iinc 4 (-1), 3) := by decide +kernel
theorem dX0_moveOn_110 : decode cX0_moveOn 110 = .ok (.goto (-19), 3) := by decide +kernel
theorem dX0_moveOn_113 : decode cX0_moveOn 113 = .ok (.iconst 1, 1) := by decide +kernel
theorem dX0_moveOn_114 : decode cX0_moveOn 114 = .ok (.ireturn, 1) := by decide +kernel
theorem dX0_swap_0 : decode cX0_swap 0 = .ok (.aload_n 0, 1) := by decide +kernel
theorem dX0_swap_1 : decode cX0_swap 1 = .ok (.getfield 9, 3) := by decide +kernel
theorem dX0_swap_4 : decode cX0_swap 4 = .ok (.iload_n 1, 1) := by decide +kernel
theorem dX0_swap_5 : decode cX0_swap 5 = .ok (.iaload, 1) := by decide +kernel
theorem dX0_swap_6 : decode cX0_swap 6 = .ok (.istore_n 3, 1) := by decide +kernel
theorem dX0_swap_7 : decode cX0_swap 7 = .ok (.aload_n 0, 1) := by decide +kernel
theorem dX0_swap_8 : decode cX0_swap 8 = .ok (.getfield 9, 3) := by decide +kernel
theorem dX0_swap_11 : decode cX0_swap 11 = .ok (.iload_n 1, 1) := by decide +kernel
theorem dX0_swap_12 : decode cX0_swap 12 = .ok (.aload_n 0, 1) := by decide +kernel
theorem dX0_swap_13 : decode cX0_swap 13 = .ok (.getfield 9, 3) := by decide +kernel
theorem dX0_swap_16 : decode cX0_swap 16 = .ok (.iload_n 2, 1) := by decide +kernel
theorem dX0_swap_17 : decode cX0_swap 17 = .ok (.iaload, 1) := by decide +kernel
theorem dX0_swap_18 : decode cX0_swap 18 = .ok (.iastore, 1) := by decide +kernel
theorem dX0_swap_19 : decode cX0_swap 19 = .ok (.aload_n 0, 1) := by decide +kernel
theorem dX0_swap_20 : decode cX0_swap 20 = .ok (.getfield 9, 3) := by decide +kernel
theorem dX0_swap_23 : decode cX0_swap 23 = .ok (.iload_n 2, 1) := by decide +kernel
theorem dX0_swap_24 : decode cX0_swap 24 = .ok (.iload_n 3, 1) := by decide +kernel
theorem dX0_swap_25 : decode cX0_swap 25 = .ok (.iastore, 1) := by decide +kernel
theorem dX0_swap_26 : decode cX0_swap 26 = .ok (.return_, 1) := by decide +kernel
theorem dX1_init_0 : decode cX1_init 0 = .ok (.aload_n 0, 1) := by decide +kernel
theorem dX1_init_1 : decode cX1_init 1 = .ok (.invokespecial 3, 3) := by decide +kernel
theorem dX1_init_4 : decode cX1_init 4 = .ok (.aload_n 0, 1) := by decide +kernel
theorem dX1_init_5 : decode cX1_init 5 = .ok (.bipush 32, 2) := by decide +kernel
theorem dX1_init_7 : decode cX1_init 7 = .ok (.newarray .int, 2) := by decide +kernel
theorem dX1_init_9 : decode cX1_init 9 = .ok (.putfield 9, 3) := by decide +kernel
theorem dX1_init_12 : decode cX1_init 12 = .ok (.aload_n 0, 1) := by decide +kernel
theorem dX1_init_13 : decode cX1_init 13 = .ok (.bipush 16, 2) := by decide +kernel
theorem dX1_init_15 : decode cX1_init 15 = .ok (.newarray .int, 2) := by decide +kernel
theorem dX1_init_17 : decode cX1_init 17 = .ok (.putfield 15, 3) := by decide +kernel
theorem dX1_init_20 : decode cX1_init 20 = .ok (.aload_n 0, 1) := by decide +kernel
theorem dX1_init_21 : decode cX1_init 21 = .ok (.bipush 97, 2) := by decide +kernel
theorem dX1_init_23 : decode cX1_init 23 = .ok (.newarray .int, 2) := by decide +kernel
theorem dX1_init_25 : decode cX1_init 25 = .ok (.putfield 18, 3) := by decide +kernel
theorem dX1_init_28 : decode cX1_init 28 = .ok (.aload_n 0, 1) := by decide +kernel
theorem dX1_init_29 : decode cX1_init 29 = .ok (.new 21, 3) := by decide +kernel
theorem dX1_init_32 : decode cX1_init 32 = .ok (.dup, 1) := by decide +kernel
theorem dX1_init_33 : decode cX1_init 33 = .ok (.invokespecial 23, 3) := by decide +kernel
theorem dX1_init_36 : decode cX1_init 36 = .ok (.putfield 24, 3) := by decide +kernel
theorem dX1_init_39 : decode cX1_init 39 = .ok (.return_, 1) := by decide +kernel
theorem dX1_takeFrom_0 : decode cX1_takeFrom 0 = .ok (.aload_n 1, 1) := by decide +kernel
theorem dX1_takeFrom_1 : decode cX1_takeFrom 1 = .ok (.getfield 9, 3) := by decide +kernel
theorem dX1_takeFrom_4 : decode cX1_takeFrom 4 = .ok (.iconst 0, 1) := by decide +kernel
theorem dX1_takeFrom_5 : decode cX1_takeFrom 5 = .ok (.aload_n 0, 1) := by decide +kernel
theorem dX1_takeFrom_6 : decode cX1_takeFrom 6 = .ok (.getfield 9, 3) := by decide +kernel
theorem dX1_takeFrom_9 : decode cX1_takeFrom 9 = .ok (.iconst 0, 1) := by decide +kernel
theorem dX1_takeFrom_10 : decode cX1_takeFrom 10 = .ok (.bipush 32, 2) := by decide +kernel
theorem dX1_takeFrom_12 : decode cX1_takeFrom 12 = .ok (.invokestatic 28, 3) := by decide +kernel
theorem dX1_takeFrom_15 : decode cX1_takeFrom 15 = .ok (.return_, 1) := by decide +kernel
theorem dX1_receive_0 : decode cX1_receive 0 = .ok (.aload_n 0, 1) := by decide +kernel
theorem dX1_receive_1 : decode cX1_receive 1 = .ok (.aload_n 1, 1) := by decide +kernel
theorem dX1_receive_2 : decode cX1_receive 2 = .ok (.invokevirtual 34, 3) := by decide +kernel
theorem dX1_receive_5 : decode cX1_receive 5 = .ok (.iconst 0, 1) := by decide +kernel
theorem dX1_receive_6 : decode cX1_receive 6 = .ok (.istore_n 3, 1) := by decide +kernel
theorem dX1_receive_7 : decode cX1_receive 7 = .ok (.iload_n 3, 1) := by decide +kernel
theorem dX1_receive_8 : decode cX1_receive 8 = .ok (.aload_n 1, 1) := by decide +kernel
theorem dX1_receive_9 : decode cX1_receive 9 = .ok (.getfield 38, 3) := by decide +kernel
theorem dX1_receive_12 : decode cX1_receive 12 = .ok (.getfield 44, 3) := by decide +kernel
theorem dX1_receive_15 : decode cX1_receive 15 = .ok (.if_icmp .ge 18, 3) := by decide +kernel
theorem dX1_receive_18 : decode cX1_receive 18 = .ok (.aload_n 0, 1) := by decide +kernel
theorem dX1_receive_19 : decode cX1_receive 19 = .ok (.aload_n 1, 1) := by decide +kernel
theorem dX1_receive_20 : decode cX1_receive 20 = .ok (.getfield 38, 3) := by decide +kernel
theorem dX1_receive_23 : decode cX1_receive 23 = .ok (.iload_n 3, 1) := by decide +kernel
theorem dX1_receive_24 : decode cX1_receive 24 = .ok (.invokevirtual 50, 3) := by decide +kernel
theorem dX1_receive_27 : decode cX1_receive 27 = .ok (.iinc 3 1, 3) := by decide +kernel
theorem dX1_receive_30 : decode cX1_receive 30 = .ok (.goto (-23), 3) := by decide +kernel
theorem dX1_receive_33 : decode cX1_receive 33 = .ok (.iconst 0, 1) := by decide +kernel
theorem dX1_receive_34 : decode cX1_receive 34 = .ok (.istore_n 3, 1) := by decide +kernel
theorem dX1_receive_35 : decode cX1_receive 35 = .ok (.iload_n 3, 1) := by decide +kernel
theorem dX1_receive_36 : decode cX1_receive 36 = .ok (.iload_n 2, 1) := by decide +kernel
theorem dX1_receive_37 : decode cX1_receive 37 = .ok (.if_icmp .ge 15, 3) := by decide +kernel
theorem dX1_receive_40 : decode cX1_receive 40 = .ok (.aload_n 0, 1) := by decide +kernel
theorem dX1_receive_41 : decode cX1_receive 41 = .ok (.aload_n 1, 1) := by decide +kernel
theorem dX1_receive_42 : decode cX1_receive 42 = .ok (.iload_n 3, 1) := by decide +kernel
theorem dX1_receive_43 : decode cX1_receive 43 = .ok (.invokevirtual 54, 3) := by decide +kernel
theorem dX1_receive_46 : decode cX1_receive 46 = .ok (.iinc 3 1, 3) := by decide +kernel
theorem dX1_receive_49 : decode cX1_receive 49 = .ok (.goto (-14), 3) := by decide +kernel
theorem dX1_receive_52 : decode cX1_receive 52 = .ok (.return_, 1) := by decide +kernel
theorem dX1_shine_0 : decode cX1_shine 0 = .ok (.iconst 0, 1) := by decide +kernel
theorem dX1_shine_1 : decode cX1_shine 1 = .ok (.istore_n 2, 1) := by decide +kernel
theorem dX1_shine_2 : decode cX1_shine 2 = .ok (.iload_n 2, 1) := by decide +kernel
theorem dX1_shine_3 : decode cX1_shine 3 = .ok (.bipush 32, 2) := by decide +kernel
theorem dX1_shine_5 : decode cX1_shine 5 = .ok (.if_icmp .ge 24, 3) := by decide +kernel
theorem dX1_shine_8 : decode cX1_shine 8 = .ok (.aload_n 0, 1) := by decide +kernel
theorem dX1_shine_9 : decode cX1_shine 9 = .ok (.getfield 9, 3) := by decide +kernel
theorem dX1_shine_12 : decode cX1_shine 12 = .ok (.iload_n 2, 1) := by decide +kernel
theorem dX1_shine_13 : decode cX1_shine 13 = .ok (.aload_n 1, 1) := by decide +kernel
theorem dX1_shine_14 : decode cX1_shine 14 = .ok (.getfield 58, 3) := by decide +kernel
theorem dX1_shine_17 : decode cX1_shine 17 = .ok (.iload_n 2, 1) := by decide +kernel
theorem dX1_shine_18 : decode cX1_shine 18 = .ok (.iaload, 1) := by decide +kernel
theorem dX1_shine_19 : decode cX1_shine 19 = .ok (.invokestatic 61, 3) := by decide +kernel
theorem dX1_shine_22 : decode cX1_shine 22 = .ok (.iastore, 1) := by decide +kernel
theorem dX1_shine_23 : decode cX1_shine 23 = .ok (.iinc 2 1, 3) := by decide +kernel
theorem dX1_shine_26 : decode cX1_shine 26 = .ok (.goto (-24), 3) := by decide +kernel
theorem dX1_shine_29 : decode cX1_shine 29 = .ok (.return_, 1) := by decide +kernel
theorem dX1_passDeed_0 : decode cX1_passDeed 0 = .ok (.aload_n 1, 1) := by decide +kernel
theorem dX1_passDeed_1 : decode cX1_passDeed 1 = .ok (.iload_n 2, 1) := by decide +kernel
theorem dX1_passDeed_2 : decode cX1_passDeed 2 = .ok (.iconst 1, 1) := by decide +kernel
theorem dX1_passDeed_3 : decode cX1_passDeed 3 = .ok (.invokevirtual 67, 3) := by decide +kernel
theorem dX1_passDeed_6 : decode cX1_passDeed 6 = .ok (.istore_n 3, 1) := by decide +kernel
theorem dX1_passDeed_7 : decode cX1_passDeed 7 = .ok (.aload_n 1, 1) := by decide +kernel
theorem dX1_passDeed_8 : decode cX1_passDeed 8 = .ok (.iload_n 2, 1) := by decide +kernel
theorem dX1_passDeed_9 : decode cX1_passDeed 9 = .ok (.iconst 2, 1) := by decide +kernel
theorem dX1_passDeed_10 : decode cX1_passDeed 10 = .ok (.invokevirtual 67, 3) := by decide +kernel
theorem dX1_passDeed_13 : decode cX1_passDeed 13 = .ok (.istore 4, 2) := by decide +kernel
theorem dX1_passDeed_15 : decode cX1_passDeed 15 = .ok (.aload_n 1, 1) := by decide +kernel
theorem dX1_passDeed_16 : decode cX1_passDeed 16 = .ok (.iload_n 2, 1) := by decide +kernel
theorem dX1_passDeed_17 : decode cX1_passDeed 17 = .ok (.iconst 3, 1) := by decide +kernel
theorem dX1_passDeed_18 : decode cX1_passDeed 18 = .ok (.invokevirtual 67, 3) := by decide +kernel
theorem dX1_passDeed_21 : decode cX1_passDeed 21 = .ok (.istore 5, 2) := by decide +kernel
theorem dX1_passDeed_23 : decode cX1_passDeed 23 = .ok (.aload_n 1, 1) := by decide +kernel
theorem dX1_passDeed_24 : decode cX1_passDeed 24 = .ok (.iload_n 2, 1) := by decide +kernel
theorem dX1_passDeed_25 : decode cX1_passDeed 25 = .ok (.iconst 0, 1) := by decide +kernel
theorem dX1_passDeed_26 : decode cX1_passDeed 26 = .ok (.invokevirtual 67, 3) := by decide +kernel
theorem dX1_passDeed_29 : decode cX1_passDeed 29 = .ok (.tableswitch 102 0 4 #[35, 43, 68, 78, 86], 35) := by decide +kernel
theorem dX1_passDeed_64 : decode cX1_passDeed 64 = .ok (.aload_n 0, 1) := by decide +kernel
theorem dX1_passDeed_65 : decode cX1_passDeed 65 = .ok (.iload_n 3, 1) := by decide +kernel
theorem dX1_passDeed_66 : decode cX1_passDeed 66 = .ok (.invokevirtual 71, 3) := by decide +kernel
theorem dX1_passDeed_69 : decode cX1_passDeed 69 = .ok (.goto 62, 3) := by decide +kernel
theorem dX1_passDeed_72 : decode cX1_passDeed 72 = .ok (.aload_n 0, 1) := by decide +kernel
theorem dX1_passDeed_73 : decode cX1_passDeed 73 = .ok (.getfield 24, 3) := by decide +kernel
theorem dX1_passDeed_76 : decode cX1_passDeed 76 = .ok (.iload_n 3, 1) := by decide +kernel
theorem dX1_passDeed_77 : decode cX1_passDeed 77 = .ok (.iload 4, 2) := by decide +kernel
theorem dX1_passDeed_79 : decode cX1_passDeed 79 = .ok (.iload 5, 2) := by decide +kernel
theorem dX1_passDeed_81 : decode cX1_passDeed 81 = .ok (.aload_n 1, 1) := by decide +kernel
theorem dX1_passDeed_82 : decode cX1_passDeed 82 = .ok (.iload_n 2, 1) := by decide +kernel
theorem dX1_passDeed_83 : decode cX1_passDeed 83 = .ok (.iconst 4, 1) := by decide +kernel
theorem dX1_passDeed_84 : decode cX1_passDeed 84 = .ok (.invokevirtual 67, 3) := by decide +kernel
theorem dX1_passDeed_87 : decode cX1_passDeed 87 = .ok (.invokevirtual 75, 3) := by decide +kernel
theorem dX1_passDeed_90 : decode cX1_passDeed 90 = .ok (.aload_n 0, 1) := by decide +kernel
theorem dX1_passDeed_91 : decode cX1_passDeed 91 = .ok (.invokevirtual 79, 3) := by decide +kernel
theorem dX1_passDeed_94 : decode cX1_passDeed 94 = .ok (.goto 37, 3) := by decide +kernel
theorem dX1_passDeed_97 : decode cX1_passDeed 97 = .ok (.aload_n 0, 1) := by decide +kernel
theorem dX1_passDeed_98 : decode cX1_passDeed 98 = .ok (.iload_n 3, 1) := by decide +kernel
theorem dX1_passDeed_99 : decode cX1_passDeed 99 = .ok (.iload 4, 2) := by decide +kernel
theorem dX1_passDeed_101 : decode cX1_passDeed 101 = .ok (.invokevirtual 82, 3) := by decide +kernel
theorem dX1_passDeed_104 : decode cX1_passDeed 104 = .ok (.goto 27, 3) := by decide +kernel
theorem dX1_passDeed_107 : decode cX1_passDeed 107 = .ok (.aload_n 0, 1) := by decide +kernel
theorem dX1_passDeed_108 : decode cX1_passDeed 108 = .ok (.iload_n 3, 1) := by decide +kernel
theorem dX1_passDeed_109 : decode cX1_passDeed 109 = .ok (.invokevirtual 86, 3) := by decide +kernel
theorem dX1_passDeed_112 : decode cX1_passDeed 112 = .ok (.goto 19, 3) := by decide +kernel
theorem dX1_passDeed_115 : decode cX1_passDeed 115 = .ok (.aload_n 0, 1) := by decide +kernel
theorem dX1_passDeed_116 : decode cX1_passDeed 116 = .ok (.iload_n 3, 1) := by decide +kernel
theorem dX1_passDeed_117 : decode cX1_passDeed 117 = .ok (.bipush 16, 2) := by decide +kernel
theorem dX1_passDeed_119 : decode cX1_passDeed 119 = .ok (.imul, 1) := by decide +kernel
theorem dX1_passDeed_120 : decode cX1_passDeed 120 = .ok (.iload 4, 2) := by decide +kernel
theorem dX1_passDeed_122 : decode cX1_passDeed 122 = .ok (.iadd, 1) := by decide +kernel
theorem dX1_passDeed_123 : decode cX1_passDeed 123 = .ok (.iload 5, 2) := by decide +kernel
theorem dX1_passDeed_125 : decode cX1_passDeed 125 = .ok (.invokevirtual 89, 3) := by decide +kernel
theorem dX1_passDeed_128 : decode cX1_passDeed 128 = .ok (.goto 3, 3) := by decide +kernel
theorem dX1_passDeed_131 : decode cX1_passDeed 131 = .ok (.return_, 1) := by decide +kernel
theorem dX1_passStage_0 : decode cX1_passStage 0 = .ok (.aload_n 1, 1) := by decide +kernel
theorem dX1_passStage_1 : decode cX1_passStage 1 = .ok (.getfield 92, 3) := by decide +kernel
theorem dX1_passStage_4 : decode cX1_passStage 4 = .ok (.astore_n 3, 1) := by decide +kernel
theorem dX1_passStage_5 : decode cX1_passStage 5 = .ok (.aload_n 3, 1) := by decide +kernel
theorem dX1_passStage_6 : decode cX1_passStage 6 = .ok (.iload_n 2, 1) := by decide +kernel
theorem dX1_passStage_7 : decode cX1_passStage 7 = .ok (.iconst 1, 1) := by decide +kernel
theorem dX1_passStage_8 : decode cX1_passStage 8 = .ok (.invokevirtual 67, 3) := by decide +kernel
theorem dX1_passStage_11 : decode cX1_passStage 11 = .ok (.istore 4, 2) := by decide +kernel
theorem dX1_passStage_13 : decode cX1_passStage 13 = .ok (.aload_n 3, 1) := by decide +kernel
theorem dX1_passStage_14 : decode cX1_passStage 14 = .ok (.iload_n 2, 1) := by decide +kernel
theorem dX1_passStage_15 : decode cX1_passStage 15 = .ok (.iconst 0, 1) := by decide +kernel
theorem dX1_passStage_16 : decode cX1_passStage 16 = .ok (.invokevirtual 67, 3) := by decide +kernel
theorem dX1_passStage_19 : decode cX1_passStage 19 = .ok (.tableswitch 114 0 4 #[33, 42, 83, 95, 106], 33) := by decide +kernel
theorem dX1_passStage_52 : decode cX1_passStage 52 = .ok (.aload_n 0, 1) := by decide +kernel
theorem dX1_passStage_53 : decode cX1_passStage 53 = .ok (.iload 4, 2) := by decide +kernel
theorem dX1_passStage_55 : decode cX1_passStage 55 = .ok (.invokevirtual 95, 3) := by decide +kernel
theorem dX1_passStage_58 : decode cX1_passStage 58 = .ok (.goto 75, 3) := by decide +kernel
theorem dX1_passStage_61 : decode cX1_passStage 61 = .ok (.aload_n 0, 1) := by decide +kernel
theorem dX1_passStage_62 : decode cX1_passStage 62 = .ok (.getfield 24, 3) := by decide +kernel
theorem dX1_passStage_65 : decode cX1_passStage 65 = .ok (.iload 4, 2) := by decide +kernel
theorem dX1_passStage_67 : decode cX1_passStage 67 = .ok (.aload_n 3, 1) := by decide +kernel
theorem dX1_passStage_68 : decode cX1_passStage 68 = .ok (.iload_n 2, 1) := by decide +kernel
theorem dX1_passStage_69 : decode cX1_passStage 69 = .ok (.iconst 2, 1) := by decide +kernel
theorem dX1_passStage_70 : decode cX1_passStage 70 = .ok (.invokevirtual 67, 3) := by decide +kernel
theorem dX1_passStage_73 : decode cX1_passStage 73 = .ok (.aload_n 3, 1) := by decide +kernel
theorem dX1_passStage_74 : decode cX1_passStage 74 = .ok (.iload_n 2, 1) := by decide +kernel
theorem dX1_passStage_75 : decode cX1_passStage 75 = .ok (.iconst 3, 1) := by decide +kernel
theorem dX1_passStage_76 : decode cX1_passStage 76 = .ok (.invokevirtual 67, 3) := by decide +kernel
theorem dX1_passStage_79 : decode cX1_passStage 79 = .ok (.aload_n 3, 1) := by decide +kernel
theorem dX1_passStage_80 : decode cX1_passStage 80 = .ok (.iload_n 2, 1) := by decide +kernel
theorem dX1_passStage_81 : decode cX1_passStage 81 = .ok (.iconst 4, 1) := by decide +kernel
theorem dX1_passStage_82 : decode cX1_passStage 82 = .ok (.invokevirtual 67, 3) := by decide +kernel
theorem dX1_passStage_85 : decode cX1_passStage 85 = .ok (.invokevirtual 75, 3) := by decide +kernel
theorem dX1_passStage_88 : decode cX1_passStage 88 = .ok (.aload_n 0, 1) := by decide +kernel
theorem dX1_passStage_89 : decode cX1_passStage 89 = .ok (.getfield 24, 3) := by decide +kernel
theorem dX1_passStage_92 : decode cX1_passStage 92 = .ok (.invokevirtual 98, 3) := by decide +kernel
theorem dX1_passStage_95 : decode cX1_passStage 95 = .ok (.aload_n 0, 1) := by decide +kernel
theorem dX1_passStage_96 : decode cX1_passStage 96 = .ok (.invokevirtual 79, 3) := by decide +kernel
theorem dX1_passStage_99 : decode cX1_passStage 99 = .ok (.goto 34, 3) := by decide +kernel
theorem dX1_passStage_102 : decode cX1_passStage 102 = .ok (.aload_n 0, 1) := by decide +kernel
theorem dX1_passStage_103 : decode cX1_passStage 103 = .ok (.bipush 16, 2) := by decide +kernel
theorem dX1_passStage_105 : decode cX1_passStage 105 = .ok (.iload 4, 2) := by decide +kernel
theorem dX1_passStage_107 : decode cX1_passStage 107 = .ok (.isub, 1) := by decide +kernel
theorem dX1_passStage_108 : decode cX1_passStage 108 = .ok (.invokevirtual 86, 3) := by decide +kernel
theorem dX1_passStage_111 : decode cX1_passStage 111 = .ok (.goto 22, 3) := by decide +kernel
theorem dX1_passStage_114 : decode cX1_passStage 114 = .ok (.aload_n 0, 1) := by decide +kernel
theorem dX1_passStage_115 : decode cX1_passStage 115 = .ok (.aload_n 0, 1) := by decide +kernel
theorem dX1_passStage_116 : decode cX1_passStage 116 = .ok (.invokevirtual 101, 3) := by decide +kernel
theorem dX1_passStage_119 : decode cX1_passStage 119 = .ok (.invokevirtual 105, 3) := by decide +kernel
theorem dX1_passStage_122 : decode cX1_passStage 122 = .ok (.goto 11, 3) := by decide +kernel
theorem dX1_passStage_125 : decode cX1_passStage 125 = .ok (.aload_n 0, 1) := by decide +kernel
theorem dX1_passStage_126 : decode cX1_passStage 126 = .ok (.aload_n 1, 1) := by decide +kernel
theorem dX1_passStage_127 : decode cX1_passStage 127 = .ok (.invokevirtual 108, 3) := by decide +kernel
theorem dX1_passStage_130 : decode cX1_passStage 130 = .ok (.goto 3, 3) := by decide +kernel
theorem dX1_passStage_133 : decode cX1_passStage 133 = .ok (.return_, 1) := by decide +kernel
theorem dX1_spread_0 : decode cX1_spread 0 = .ok (.iconst 0, 1) := by decide +kernel
theorem dX1_spread_1 : decode cX1_spread 1 = .ok (.istore_n 2, 1) := by decide +kernel
theorem dX1_spread_2 : decode cX1_spread 2 = .ok (.iload_n 2, 1) := by decide +kernel
theorem dX1_spread_3 : decode cX1_spread 3 = .ok (.bipush 32, 2) := by decide +kernel
theorem dX1_spread_5 : decode cX1_spread 5 = .ok (.if_icmp .ge 94, 3) := by decide +kernel
theorem dX1_spread_8 : decode cX1_spread 8 = .ok (.aload_n 0, 1) := by decide +kernel
theorem dX1_spread_9 : decode cX1_spread 9 = .ok (.getfield 9, 3) := by decide +kernel
theorem dX1_spread_12 : decode cX1_spread 12 = .ok (.iload_n 2, 1) := by decide +kernel
theorem dX1_spread_13 : decode cX1_spread 13 = .ok (.bipush 16, 2) := by decide +kernel
theorem dX1_spread_15 : decode cX1_spread 15 = .ok (.iadd, 1) := by decide +kernel
theorem dX1_spread_16 : decode cX1_spread 16 = .ok (.iconst 1, 1) := by decide +kernel
theorem dX1_spread_17 : decode cX1_spread 17 = .ok (.isub, 1) := by decide +kernel
theorem dX1_spread_18 : decode cX1_spread 18 = .ok (.iaload, 1) := by decide +kernel
theorem dX1_spread_19 : decode cX1_spread 19 = .ok (.istore_n 3, 1) := by decide +kernel
theorem dX1_spread_20 : decode cX1_spread 20 = .ok (.bipush 15, 2) := by decide +kernel
theorem dX1_spread_22 : decode cX1_spread 22 = .ok (.istore 4, 2) := by decide +kernel
theorem dX1_spread_24 : decode cX1_spread 24 = .ok (.iload 4, 2) := by decide +kernel
theorem dX1_spread_26 : decode cX1_spread 26 = .ok (.ifCond .le 48, 3) := by decide +kernel
theorem dX1_spread_29 : decode cX1_spread 29 = .ok (.aload_n 0, 1) := by decide +kernel
theorem dX1_spread_30 : decode cX1_spread 30 = .ok (.getfield 9, 3) := by decide +kernel
theorem dX1_spread_33 : decode cX1_spread 33 = .ok (.iload_n 2, 1) := by decide +kernel
theorem dX1_spread_34 : decode cX1_spread 34 = .ok (.iload 4, 2) := by decide +kernel
theorem dX1_spread_36 : decode cX1_spread 36 = .ok (.iadd, 1) := by decide +kernel
theorem dX1_spread_37 : decode cX1_spread 37 = .ok (.iconst 1, 1) := by decide +kernel
theorem dX1_spread_38 : decode cX1_spread 38 = .ok (.isub, 1) := by decide +kernel
theorem dX1_spread_39 : decode cX1_spread 39 = .ok (.iaload, 1) := by decide +kernel
theorem dX1_spread_40 : decode cX1_spread 40 = .ok (.istore 5, 2) := by decide +kernel
theorem dX1_spread_42 : decode cX1_spread 42 = .ok (.aload_n 0, 1) := by decide +kernel
theorem dX1_spread_43 : decode cX1_spread 43 = .ok (.getfield 9, 3) := by decide +kernel
theorem dX1_spread_46 : decode cX1_spread 46 = .ok (.iload_n 2, 1) := by decide +kernel
theorem dX1_spread_47 : decode cX1_spread 47 = .ok (.iload 4, 2) := by decide +kernel
theorem dX1_spread_49 : decode cX1_spread 49 = .ok (.iadd, 1) := by decide +kernel
theorem dX1_spread_50 : decode cX1_spread 50 = .ok (.aload_n 0, 1) := by decide +kernel
theorem dX1_spread_51 : decode cX1_spread 51 = .ok (.getfield 9, 3) := by decide +kernel
theorem dX1_spread_54 : decode cX1_spread 54 = .ok (.iload_n 2, 1) := by decide +kernel
theorem dX1_spread_55 : decode cX1_spread 55 = .ok (.iload 4, 2) := by decide +kernel
theorem dX1_spread_57 : decode cX1_spread 57 = .ok (.iadd, 1) := by decide +kernel
theorem dX1_spread_58 : decode cX1_spread 58 = .ok (.iaload, 1) := by decide +kernel
theorem dX1_spread_59 : decode cX1_spread 59 = .ok (.iload_n 1, 1) := by decide +kernel
theorem dX1_spread_60 : decode cX1_spread 60 = .ok (.iload 5, 2) := by decide +kernel
theorem dX1_spread_62 : decode cX1_spread 62 = .ok (.imul, 1) := by decide +kernel
theorem dX1_spread_63 : decode cX1_spread 63 = .ok (.iadd, 1) := by decide +kernel
theorem dX1_spread_64 : decode cX1_spread 64 = .ok (.bipush 97, 2) := by decide +kernel
theorem dX1_spread_66 : decode cX1_spread 66 = .ok (.irem, 1) := by decide +kernel
theorem dX1_spread_67 : decode cX1_spread 67 = .ok (.iastore, 1) := by decide +kernel
theorem dX1_spread_68 : decode cX1_spread 68 = .ok (.iinc 4 (-1), 3) := by decide +kernel
theorem dX1_spread_71 : decode cX1_spread 71 = .ok (.goto (-47), 3) := by decide +kernel
theorem dX1_spread_74 : decode cX1_spread 74 = .ok (.aload_n 0, 1) := by decide +kernel
theorem dX1_spread_75 : decode cX1_spread 75 = .ok (.getfield 9, 3) := by decide +kernel
theorem dX1_spread_78 : decode cX1_spread 78 = .ok (.iload_n 2, 1) := by decide +kernel
theorem dX1_spread_79 : decode cX1_spread 79 = .ok (.aload_n 0, 1) := by decide +kernel
theorem dX1_spread_80 : decode cX1_spread 80 = .ok (.getfield 9, 3) := by decide +kernel
theorem dX1_spread_83 : decode cX1_spread 83 = .ok (.iload_n 2, 1) := by decide +kernel
theorem dX1_spread_84 : decode cX1_spread 84 = .ok (.iaload, 1) := by decide +kernel
theorem dX1_spread_85 : decode cX1_spread 85 = .ok (.iload_n 1, 1) := by decide +kernel
theorem dX1_spread_86 : decode cX1_spread 86 = .ok (.iload_n 3, 1) := by decide +kernel
theorem dX1_spread_87 : decode cX1_spread 87 = .ok (.imul, 1) := by decide +kernel
theorem dX1_spread_88 : decode cX1_spread 88 = .ok (.iadd, 1) := by decide +kernel
theorem dX1_spread_89 : decode cX1_spread 89 = .ok (.bipush 97, 2) := by decide +kernel
theorem dX1_spread_91 : decode cX1_spread 91 = .ok (.irem, 1) := by decide +kernel
theorem dX1_spread_92 : decode cX1_spread 92 = .ok (.iastore, 1) := by decide +kernel
theorem dX1_spread_93 : decode cX1_spread 93 = .ok (.iinc 2 16, 3) := by decide +kernel
theorem dX1_spread_96 : decode cX1_spread 96 = .ok (.goto (-94), 3) := by decide +kernel
theorem dX1_spread_99 : decode cX1_spread 99 = .ok (.return_, 1) := by decide +kernel
theorem dX1_unspread_0 : decode cX1_unspread 0 = .ok (.bipush 97, 2) := by decide +kernel
theorem dX1_unspread_2 : decode cX1_unspread 2 = .ok (.iload_n 1, 1) := by decide +kernel
theorem dX1_unspread_3 : decode cX1_unspread 3 = .ok (.isub, 1) := by decide +kernel
theorem dX1_unspread_4 : decode cX1_unspread 4 = .ok (.istore_n 2, 1) := by decide +kernel
theorem dX1_unspread_5 : decode cX1_unspread 5 = .ok (.iconst 1, 1) := by decide +kernel
theorem dX1_unspread_6 : decode cX1_unspread 6 = .ok (.iload_n 1, 1) := by decide +kernel
theorem dX1_unspread_7 : decode cX1_unspread 7 = .ok (.bipush 16, 2) := by decide +kernel
theorem dX1_unspread_9 : decode cX1_unspread 9 = .ok (.invokestatic 111, 3) := by decide +kernel
theorem dX1_unspread_12 : decode cX1_unspread 12 = .ok (.isub, 1) := by decide +kernel
theorem dX1_unspread_13 : decode cX1_unspread 13 = .ok (.bipush 97, 2) := by decide +kernel
theorem dX1_unspread_15 : decode cX1_unspread 15 = .ok (.invokestatic 114, 3) := by decide +kernel
theorem dX1_unspread_18 : decode cX1_unspread 18 = .ok (.invokestatic 119, 3) := by decide +kernel
theorem dX1_unspread_21 : decode cX1_unspread 21 = .ok (.istore_n 3, 1) := by decide +kernel
theorem dX1_unspread_22 : decode cX1_unspread 22 = .ok (.iconst 0, 1) := by decide +kernel
theorem dX1_unspread_23 : decode cX1_unspread 23 = .ok (.istore 4, 2) := by decide +kernel
theorem dX1_unspread_25 : decode cX1_unspread 25 = .ok (.iload 4, 2) := by decide +kernel
theorem dX1_unspread_27 : decode cX1_unspread 27 = .ok (.bipush 32, 2) := by decide +kernel
theorem dX1_unspread_29 : decode cX1_unspread 29 = .ok (.if_icmp .ge 123, 3) := by decide +kernel
theorem dX1_unspread_32 : decode cX1_unspread 32 = .ok (.iconst 0, 1) := by decide +kernel
theorem dX1_unspread_33 : decode cX1_unspread 33 = .ok (.istore 5, 2) := by decide +kernel
theorem dX1_unspread_35 : decode cX1_unspread 35 = .ok (.iconst 1, 1) := by decide +kernel
theorem dX1_unspread_36 : decode cX1_unspread 36 = .ok (.istore 6, 2) := by decide +kernel
theorem dX1_unspread_38 : decode cX1_unspread 38 = .ok (.iload 6, 2) := by decide +kernel
theorem dX1_unspread_40 : decode cX1_unspread 40 = .ok (.bipush 16, 2) := by decide +kernel
theorem dX1_unspread_42 : decode cX1_unspread 42 = .ok (.if_icmp .gt 32, 3) := by decide +kernel
theorem dX1_unspread_45 : decode cX1_unspread 45 = .ok (.iload 5, 2) := by decide +kernel
theorem dX1_unspread_47 : decode cX1_unspread 47 = .ok (.iload_n 2, 1) := by decide +kernel
theorem dX1_unspread_48 : decode cX1_unspread 48 = .ok (.imul, 1) := by decide +kernel
theorem dX1_unspread_49 : decode cX1_unspread 49 = .ok (.aload_n 0, 1) := by decide +kernel
theorem dX1_unspread_50 : decode cX1_unspread 50 = .ok (.getfield 9, 3) := by decide +kernel
theorem dX1_unspread_53 : decode cX1_unspread 53 = .ok (.iload 4, 2) := by decide +kernel
theorem dX1_unspread_55 : decode cX1_unspread 55 = .ok (.iload 6, 2) := by decide +kernel
theorem dX1_unspread_57 : decode cX1_unspread 57 = .ok (.bipush 16, 2) := by decide +kernel
theorem dX1_unspread_59 : decode cX1_unspread 59 = .ok (.irem, 1) := by decide +kernel
theorem dX1_unspread_60 : decode cX1_unspread 60 = .ok (.iadd, 1) := by decide +kernel
theorem dX1_unspread_61 : decode cX1_unspread 61 = .ok (.iaload, 1) := by decide +kernel
theorem dX1_unspread_62 : decode cX1_unspread 62 = .ok (.iadd, 1) := by decide +kernel
theorem dX1_unspread_63 : decode cX1_unspread 63 = .ok (.bipush 97, 2) := by decide +kernel
theorem dX1_unspread_65 : decode cX1_unspread 65 = .ok (.irem, 1) := by decide +kernel
theorem dX1_unspread_66 : decode cX1_unspread 66 = .ok (.istore 5, 2) := by decide +kernel
theorem dX1_unspread_68 : decode cX1_unspread 68 = .ok (.iinc 6 1, 3) := by decide +kernel
theorem dX1_unspread_71 : decode cX1_unspread 71 = .ok (.goto (-33), 3) := by decide +kernel
theorem dX1_unspread_74 : decode cX1_unspread 74 = .ok (.aload_n 0, 1) := by decide +kernel
theorem dX1_unspread_75 : decode cX1_unspread 75 = .ok (.getfield 9, 3) := by decide +kernel
theorem dX1_unspread_78 : decode cX1_unspread 78 = .ok (.iload 4, 2) := by decide +kernel
theorem dX1_unspread_80 : decode cX1_unspread 80 = .ok (.iload 5, 2) := by decide +kernel
theorem dX1_unspread_82 : decode cX1_unspread 82 = .ok (.iload_n 3, 1) := by decide +kernel
theorem dX1_unspread_83 : decode cX1_unspread 83 = .ok (.imul, 1) := by decide +kernel
theorem dX1_unspread_84 : decode cX1_unspread 84 = .ok (.bipush 97, 2) := by decide +kernel
theorem dX1_unspread_86 : decode cX1_unspread 86 = .ok (.irem, 1) := by decide +kernel
theorem dX1_unspread_87 : decode cX1_unspread 87 = .ok (.iastore, 1) := by decide +kernel
theorem dX1_unspread_88 : decode cX1_unspread 88 = .ok (.iconst 1, 1) := by decide +kernel
theorem dX1_unspread_89 : decode cX1_unspread 89 = .ok (.istore 6, 2) := by decide +kernel
theorem dX1_unspread_91 : decode cX1_unspread 91 = .ok (.iload 6, 2) := by decide +kernel
theorem dX1_unspread_93 : decode cX1_unspread 93 = .ok (.bipush 16, 2) := by decide +kernel
theorem dX1_unspread_95 : decode cX1_unspread 95 = .ok (.if_icmp .ge 51, 3) := by decide +kernel
theorem dX1_unspread_98 : decode cX1_unspread 98 = .ok (.aload_n 0, 1) := by decide +kernel
theorem dX1_unspread_99 : decode cX1_unspread 99 = .ok (.getfield 9, 3) := by decide +kernel
theorem dX1_unspread_102 : decode cX1_unspread 102 = .ok (.iload 4, 2) := by decide +kernel
theorem dX1_unspread_104 : decode cX1_unspread 104 = .ok (.iload 6, 2) := by decide +kernel
theorem dX1_unspread_106 : decode cX1_unspread 106 = .ok (.iadd, 1) := by decide +kernel
theorem dX1_unspread_107 : decode cX1_unspread 107 = .ok (.iconst 1, 1) := by decide +kernel
theorem dX1_unspread_108 : decode cX1_unspread 108 = .ok (.isub, 1) := by decide +kernel
theorem dX1_unspread_109 : decode cX1_unspread 109 = .ok (.iaload, 1) := by decide +kernel
theorem dX1_unspread_110 : decode cX1_unspread 110 = .ok (.istore 7, 2) := by decide +kernel
theorem dX1_unspread_112 : decode cX1_unspread 112 = .ok (.aload_n 0, 1) := by decide +kernel
theorem dX1_unspread_113 : decode cX1_unspread 113 = .ok (.getfield 9, 3) := by decide +kernel
theorem dX1_unspread_116 : decode cX1_unspread 116 = .ok (.iload 4, 2) := by decide +kernel
theorem dX1_unspread_118 : decode cX1_unspread 118 = .ok (.iload 6, 2) := by decide +kernel
theorem dX1_unspread_120 : decode cX1_unspread 120 = .ok (.iadd, 1) := by decide +kernel
theorem dX1_unspread_121 : decode cX1_unspread 121 = .ok (.aload_n 0, 1) := by decide +kernel
theorem dX1_unspread_122 : decode cX1_unspread 122 = .ok (.getfield 9, 3) := by decide +kernel
theorem dX1_unspread_125 : decode cX1_unspread 125 = .ok (.iload 4, 2) := by decide +kernel
theorem dX1_unspread_127 : decode cX1_unspread 127 = .ok (.iload 6, 2) := by decide +kernel
theorem dX1_unspread_129 : decode cX1_unspread 129 = .ok (.iadd, 1) := by decide +kernel
theorem dX1_unspread_130 : decode cX1_unspread 130 = .ok (.iaload, 1) := by decide +kernel
theorem dX1_unspread_131 : decode cX1_unspread 131 = .ok (.iload_n 2, 1) := by decide +kernel
theorem dX1_unspread_132 : decode cX1_unspread 132 = .ok (.iload 7, 2) := by decide +kernel
theorem dX1_unspread_134 : decode cX1_unspread 134 = .ok (.imul, 1) := by decide +kernel
theorem dX1_unspread_135 : decode cX1_unspread 135 = .ok (.iadd, 1) := by decide +kernel
theorem dX1_unspread_136 : decode cX1_unspread 136 = .ok (.bipush 97, 2) := by decide +kernel
theorem dX1_unspread_138 : decode cX1_unspread 138 = .ok (.irem, 1) := by decide +kernel
theorem dX1_unspread_139 : decode cX1_unspread 139 = .ok (.iastore, 1) := by decide +kernel
theorem dX1_unspread_140 : decode cX1_unspread 140 = .ok (.iinc 6 1, 3) := by decide +kernel
theorem dX1_unspread_143 : decode cX1_unspread 143 = .ok (.goto (-52), 3) := by decide +kernel
theorem dX1_unspread_146 : decode cX1_unspread 146 = .ok (.iinc 4 16, 3) := by decide +kernel
theorem dX1_unspread_149 : decode cX1_unspread 149 = .ok (.goto (-124), 3) := by decide +kernel
theorem dX1_unspread_152 : decode cX1_unspread 152 = .ok (.return_, 1) := by decide +kernel
theorem dX1_twist_0 : decode cX1_twist 0 = .ok (.iconst 0, 1) := by decide +kernel
theorem dX1_twist_1 : decode cX1_twist 1 = .ok (.istore_n 1, 1) := by decide +kernel
theorem dX1_twist_2 : decode cX1_twist 2 = .ok (.iload_n 1, 1) := by decide +kernel
theorem dX1_twist_3 : decode cX1_twist 3 = .ok (.bipush 16, 2) := by decide +kernel
theorem dX1_twist_5 : decode cX1_twist 5 = .ok (.if_icmp .ge 85, 3) := by decide +kernel
theorem dX1_twist_8 : decode cX1_twist 8 = .ok (.aload_n 0, 1) := by decide +kernel
theorem dX1_twist_9 : decode cX1_twist 9 = .ok (.getfield 9, 3) := by decide +kernel
theorem dX1_twist_12 : decode cX1_twist 12 = .ok (.iload_n 1, 1) := by decide +kernel
theorem dX1_twist_13 : decode cX1_twist 13 = .ok (.iaload, 1) := by decide +kernel
theorem dX1_twist_14 : decode cX1_twist 14 = .ok (.istore_n 2, 1) := by decide +kernel
theorem dX1_twist_15 : decode cX1_twist 15 = .ok (.aload_n 0, 1) := by decide +kernel
theorem dX1_twist_16 : decode cX1_twist 16 = .ok (.getfield 9, 3) := by decide +kernel
theorem dX1_twist_19 : decode cX1_twist 19 = .ok (.bipush 16, 2) := by decide +kernel
theorem dX1_twist_21 : decode cX1_twist 21 = .ok (.iload_n 1, 1) := by decide +kernel
theorem dX1_twist_22 : decode cX1_twist 22 = .ok (.iadd, 1) := by decide +kernel
theorem dX1_twist_23 : decode cX1_twist 23 = .ok (.iaload, 1) := by decide +kernel
theorem dX1_twist_24 : decode cX1_twist 24 = .ok (.istore_n 3, 1) := by decide +kernel
theorem dX1_twist_25 : decode cX1_twist 25 = .ok (.aload_n 0, 1) := by decide +kernel
theorem dX1_twist_26 : decode cX1_twist 26 = .ok (.getfield 9, 3) := by decide +kernel
theorem dX1_twist_29 : decode cX1_twist 29 = .ok (.iload_n 1, 1) := by decide +kernel
theorem dX1_twist_30 : decode cX1_twist 30 = .ok (.aload_n 0, 1) := by decide +kernel
theorem dX1_twist_31 : decode cX1_twist 31 = .ok (.getfield 24, 3) := by decide +kernel
theorem dX1_twist_34 : decode cX1_twist 34 = .ok (.getfield 122, 3) := by decide +kernel
theorem dX1_twist_37 : decode cX1_twist 37 = .ok (.iload_n 2, 1) := by decide +kernel
theorem dX1_twist_38 : decode cX1_twist 38 = .ok (.imul, 1) := by decide +kernel
theorem dX1_twist_39 : decode cX1_twist 39 = .ok (.aload_n 0, 1) := by decide +kernel
theorem dX1_twist_40 : decode cX1_twist 40 = .ok (.getfield 24, 3) := by decide +kernel
theorem dX1_twist_43 : decode cX1_twist 43 = .ok (.getfield 125, 3) := by decide +kernel
theorem dX1_twist_46 : decode cX1_twist 46 = .ok (.iload_n 3, 1) := by decide +kernel
theorem dX1_twist_47 : decode cX1_twist 47 = .ok (.imul, 1) := by decide +kernel
theorem dX1_twist_48 : decode cX1_twist 48 = .ok (.iadd, 1) := by decide +kernel
theorem dX1_twist_49 : decode cX1_twist 49 = .ok (.bipush 97, 2) := by decide +kernel
theorem dX1_twist_51 : decode cX1_twist 51 = .ok (.irem, 1) := by decide +kernel
theorem dX1_twist_52 : decode cX1_twist 52 = .ok (.iastore, 1) := by decide +kernel
theorem dX1_twist_53 : decode cX1_twist 53 = .ok (.aload_n 0, 1) := by decide +kernel
theorem dX1_twist_54 : decode cX1_twist 54 = .ok (.getfield 9, 3) := by decide +kernel
theorem dX1_twist_57 : decode cX1_twist 57 = .ok (.bipush 16, 2) := by decide +kernel
theorem dX1_twist_59 : decode cX1_twist 59 = .ok (.iload_n 1, 1) := by decide +kernel
theorem dX1_twist_60 : decode cX1_twist 60 = .ok (.iadd, 1) := by decide +kernel
theorem dX1_twist_61 : decode cX1_twist 61 = .ok (.aload_n 0, 1) := by decide +kernel
theorem dX1_twist_62 : decode cX1_twist 62 = .ok (.getfield 24, 3) := by decide +kernel
theorem dX1_twist_65 : decode cX1_twist 65 = .ok (.getfield 128, 3) := by decide +kernel
theorem dX1_twist_68 : decode cX1_twist 68 = .ok (.iload_n 2, 1) := by decide +kernel
theorem dX1_twist_69 : decode cX1_twist 69 = .ok (.imul, 1) := by decide +kernel
theorem dX1_twist_70 : decode cX1_twist 70 = .ok (.aload_n 0, 1) := by decide +kernel
theorem dX1_twist_71 : decode cX1_twist 71 = .ok (.getfield 24, 3) := by decide +kernel
theorem dX1_twist_74 : decode cX1_twist 74 = .ok (.getfield 131, 3) := by decide +kernel
theorem dX1_twist_77 : decode cX1_twist 77 = .ok (.iload_n 3, 1) := by decide +kernel
theorem dX1_twist_78 : decode cX1_twist 78 = .ok (.imul, 1) := by decide +kernel
theorem dX1_twist_79 : decode cX1_twist 79 = .ok (.iadd, 1) := by decide +kernel
theorem dX1_twist_80 : decode cX1_twist 80 = .ok (.bipush 97, 2) := by decide +kernel
theorem dX1_twist_82 : decode cX1_twist 82 = .ok (.irem, 1) := by decide +kernel
theorem dX1_twist_83 : decode cX1_twist 83 = .ok (.iastore, 1) := by decide +kernel
theorem dX1_twist_84 : decode cX1_twist 84 = .ok (.iinc 1 1, 3) := by decide +kernel
theorem dX1_twist_87 : decode cX1_twist 87 = .ok (.goto (-85), 3) := by decide +kernel
theorem dX1_twist_90 : decode cX1_twist 90 = .ok (.return_, 1) := by decide +kernel
theorem dX1_slip_0 : decode cX1_slip 0 = .ok (.iload_n 1, 1) := by decide +kernel
theorem dX1_slip_1 : decode cX1_slip 1 = .ok (.istore_n 3, 1) := by decide +kernel
theorem dX1_slip_2 : decode cX1_slip 2 = .ok (.iload_n 3, 1) := by decide +kernel
theorem dX1_slip_3 : decode cX1_slip 3 = .ok (.bipush 16, 2) := by decide +kernel
theorem dX1_slip_5 : decode cX1_slip 5 = .ok (.if_icmp .ge 15, 3) := by decide +kernel
theorem dX1_slip_8 : decode cX1_slip 8 = .ok (.aload_n 0, 1) := by decide +kernel
theorem dX1_slip_9 : decode cX1_slip 9 = .ok (.iload_n 3, 1) := by decide +kernel
theorem dX1_slip_10 : decode cX1_slip 10 = .ok (.iload_n 2, 1) := by decide +kernel
theorem dX1_slip_11 : decode cX1_slip 11 = .ok (.invokevirtual 134, 3) := by decide +kernel
theorem dX1_slip_14 : decode cX1_slip 14 = .ok (.iinc 3 1, 3) := by decide +kernel
theorem dX1_slip_17 : decode cX1_slip 17 = .ok (.goto (-15), 3) := by decide +kernel
theorem dX1_slip_20 : decode cX1_slip 20 = .ok (.return_, 1) := by decide +kernel
theorem dX1_turn_0 : decode cX1_turn 0 = .ok (.aload_n 0, 1) := by decide +kernel
theorem dX1_turn_1 : decode cX1_turn 1 = .ok (.getfield 9, 3) := by decide +kernel
theorem dX1_turn_4 : decode cX1_turn 4 = .ok (.iload_n 1, 1) := by decide +kernel
theorem dX1_turn_5 : decode cX1_turn 5 = .ok (.aload_n 0, 1) := by decide +kernel
theorem dX1_turn_6 : decode cX1_turn 6 = .ok (.getfield 9, 3) := by decide +kernel
theorem dX1_turn_9 : decode cX1_turn 9 = .ok (.iload_n 1, 1) := by decide +kernel
theorem dX1_turn_10 : decode cX1_turn 10 = .ok (.iaload, 1) := by decide +kernel
theorem dX1_turn_11 : decode cX1_turn 11 = .ok (.iload_n 2, 1) := by decide +kernel
theorem dX1_turn_12 : decode cX1_turn 12 = .ok (.invokestatic 137, 3) := by decide +kernel
theorem dX1_turn_15 : decode cX1_turn 15 = .ok (.iastore, 1) := by decide +kernel
theorem dX1_turn_16 : decode cX1_turn 16 = .ok (.aload_n 0, 1) := by decide +kernel
theorem dX1_turn_17 : decode cX1_turn 17 = .ok (.getfield 9, 3) := by decide +kernel
theorem dX1_turn_20 : decode cX1_turn 20 = .ok (.bipush 16, 2) := by decide +kernel
theorem dX1_turn_22 : decode cX1_turn 22 = .ok (.iload_n 1, 1) := by decide +kernel
theorem dX1_turn_23 : decode cX1_turn 23 = .ok (.iadd, 1) := by decide +kernel
theorem dX1_turn_24 : decode cX1_turn 24 = .ok (.aload_n 0, 1) := by decide +kernel
theorem dX1_turn_25 : decode cX1_turn 25 = .ok (.getfield 9, 3) := by decide +kernel
theorem dX1_turn_28 : decode cX1_turn 28 = .ok (.bipush 16, 2) := by decide +kernel
theorem dX1_turn_30 : decode cX1_turn 30 = .ok (.iload_n 1, 1) := by decide +kernel
theorem dX1_turn_31 : decode cX1_turn 31 = .ok (.iadd, 1) := by decide +kernel
theorem dX1_turn_32 : decode cX1_turn 32 = .ok (.iaload, 1) := by decide +kernel
theorem dX1_turn_33 : decode cX1_turn 33 = .ok (.iload_n 2, 1) := by decide +kernel
theorem dX1_turn_34 : decode cX1_turn 34 = .ok (.invokestatic 137, 3) := by decide +kernel
theorem dX1_turn_37 : decode cX1_turn 37 = .ok (.iastore, 1) := by decide +kernel
theorem dX1_turn_38 : decode cX1_turn 38 = .ok (.return_, 1) := by decide +kernel
theorem dX1_late_0 : decode cX1_late 0 = .ok (.iconst 0, 1) := by decide +kernel
theorem dX1_late_1 : decode cX1_late 1 = .ok (.istore_n 2, 1) := by decide +kernel
theorem dX1_late_2 : decode cX1_late 2 = .ok (.iload_n 2, 1) := by decide +kernel
theorem dX1_late_3 : decode cX1_late 3 = .ok (.bipush 16, 2) := by decide +kernel
theorem dX1_late_5 : decode cX1_late 5 = .ok (.if_icmp .ge 29, 3) := by decide +kernel
theorem dX1_late_8 : decode cX1_late 8 = .ok (.aload_n 0, 1) := by decide +kernel
theorem dX1_late_9 : decode cX1_late 9 = .ok (.getfield 15, 3) := by decide +kernel
theorem dX1_late_12 : decode cX1_late 12 = .ok (.iload_n 2, 1) := by decide +kernel
theorem dX1_late_13 : decode cX1_late 13 = .ok (.iload_n 1, 1) := by decide +kernel
theorem dX1_late_14 : decode cX1_late 14 = .ok (.iadd, 1) := by decide +kernel
theorem dX1_late_15 : decode cX1_late 15 = .ok (.bipush 16, 2) := by decide +kernel
theorem dX1_late_17 : decode cX1_late 17 = .ok (.irem, 1) := by decide +kernel
theorem dX1_late_18 : decode cX1_late 18 = .ok (.aload_n 0, 1) := by decide +kernel
theorem dX1_late_19 : decode cX1_late 19 = .ok (.getfield 9, 3) := by decide +kernel
theorem dX1_late_22 : decode cX1_late 22 = .ok (.bipush 16, 2) := by decide +kernel
theorem dX1_late_24 : decode cX1_late 24 = .ok (.iload_n 2, 1) := by decide +kernel
theorem dX1_late_25 : decode cX1_late 25 = .ok (.iadd, 1) := by decide +kernel
theorem dX1_late_26 : decode cX1_late 26 = .ok (.iaload, 1) := by decide +kernel
theorem dX1_late_27 : decode cX1_late 27 = .ok (.iastore, 1) := by decide +kernel
theorem dX1_late_28 : decode cX1_late 28 = .ok (.iinc 2 1, 3) := by decide +kernel
theorem dX1_late_31 : decode cX1_late 31 = .ok (.goto (-29), 3) := by decide +kernel
theorem dX1_late_34 : decode cX1_late 34 = .ok (.aload_n 0, 1) := by decide +kernel
theorem dX1_late_35 : decode cX1_late 35 = .ok (.getfield 15, 3) := by decide +kernel
theorem dX1_late_38 : decode cX1_late 38 = .ok (.iconst 0, 1) := by decide +kernel
theorem dX1_late_39 : decode cX1_late 39 = .ok (.aload_n 0, 1) := by decide +kernel
theorem dX1_late_40 : decode cX1_late 40 = .ok (.getfield 9, 3) := by decide +kernel
theorem dX1_late_43 : decode cX1_late 43 = .ok (.bipush 16, 2) := by decide +kernel
theorem dX1_late_45 : decode cX1_late 45 = .ok (.bipush 16, 2) := by decide +kernel
theorem dX1_late_47 : decode cX1_late 47 = .ok (.invokestatic 28, 3) := by decide +kernel
theorem dX1_late_50 : decode cX1_late 50 = .ok (.return_, 1) := by decide +kernel
theorem dX1_hit_0 : decode cX1_hit 0 = .ok (.aload_n 0, 1) := by decide +kernel
theorem dX1_hit_1 : decode cX1_hit 1 = .ok (.getfield 9, 3) := by decide +kernel
theorem dX1_hit_4 : decode cX1_hit 4 = .ok (.iload_n 1, 1) := by decide +kernel
theorem dX1_hit_5 : decode cX1_hit 5 = .ok (.aload_n 0, 1) := by decide +kernel
theorem dX1_hit_6 : decode cX1_hit 6 = .ok (.getfield 9, 3) := by decide +kernel
theorem dX1_hit_9 : decode cX1_hit 9 = .ok (.iload_n 1, 1) := by decide +kernel
theorem dX1_hit_10 : decode cX1_hit 10 = .ok (.iaload, 1) := by decide +kernel
theorem dX1_hit_11 : decode cX1_hit 11 = .ok (.iload_n 2, 1) := by decide +kernel
theorem dX1_hit_12 : decode cX1_hit 12 = .ok (.iadd, 1) := by decide +kernel
theorem dX1_hit_13 : decode cX1_hit 13 = .ok (.bipush 97, 2) := by decide +kernel
theorem dX1_hit_15 : decode cX1_hit 15 = .ok (.irem, 1) := by decide +kernel
theorem dX1_hit_16 : decode cX1_hit 16 = .ok (.iastore, 1) := by decide +kernel
theorem dX1_hit_17 : decode cX1_hit 17 = .ok (.return_, 1) := by decide +kernel
theorem dX1_multiply_0 : decode cX1_multiply 0 = .ok (.iconst 0, 1) := by decide +kernel
theorem dX1_multiply_1 : decode cX1_multiply 1 = .ok (.istore_n 2, 1) := by decide +kernel
theorem dX1_multiply_2 : decode cX1_multiply 2 = .ok (.iload_n 2, 1) := by decide +kernel
theorem dX1_multiply_3 : decode cX1_multiply 3 = .ok (.bipush 32, 2) := by decide +kernel
theorem dX1_multiply_5 : decode cX1_multiply 5 = .ok (.if_icmp .ge 26, 3) := by decide +kernel
theorem dX1_multiply_8 : decode cX1_multiply 8 = .ok (.aload_n 0, 1) := by decide +kernel
theorem dX1_multiply_9 : decode cX1_multiply 9 = .ok (.getfield 9, 3) := by decide +kernel
theorem dX1_multiply_12 : decode cX1_multiply 12 = .ok (.iload_n 2, 1) := by decide +kernel
theorem dX1_multiply_13 : decode cX1_multiply 13 = .ok (.aload_n 0, 1) := by decide +kernel
theorem dX1_multiply_14 : decode cX1_multiply 14 = .ok (.getfield 9, 3) := by decide +kernel
theorem dX1_multiply_17 : decode cX1_multiply 17 = .ok (.iload_n 2, 1) := by decide +kernel
theorem dX1_multiply_18 : decode cX1_multiply 18 = .ok (.iaload, 1) := by decide +kernel
theorem dX1_multiply_19 : decode cX1_multiply 19 = .ok (.iload_n 1, 1) := by decide +kernel
theorem dX1_multiply_20 : decode cX1_multiply 20 = .ok (.imul, 1) := by decide +kernel
theorem dX1_multiply_21 : decode cX1_multiply 21 = .ok (.bipush 97, 2) := by decide +kernel
theorem dX1_multiply_23 : decode cX1_multiply 23 = .ok (.irem, 1) := by decide +kernel
theorem dX1_multiply_24 : decode cX1_multiply 24 = .ok (.iastore, 1) := by decide +kernel
theorem dX1_multiply_25 : decode cX1_multiply 25 = .ok (.iinc 2 1, 3) := by decide +kernel
theorem dX1_multiply_28 : decode cX1_multiply 28 = .ok (.goto (-26), 3) := by decide +kernel
theorem dX1_multiply_31 : decode cX1_multiply 31 = .ok (.return_, 1) := by decide +kernel
theorem dX1_brightestFactor_0 : decode cX1_brightestFactor 0 = .ok (.aload_n 0, 1) := by decide +kernel
theorem dX1_brightestFactor_1 : decode cX1_brightestFactor 1 = .ok (.getfield 18, 3) := by decide +kernel
theorem dX1_brightestFactor_4 : decode cX1_brightestFactor 4 = .ok (.iconst 0, 1) := by decide +kernel
theorem dX1_brightestFactor_5 : decode cX1_brightestFactor 5 = .ok (.invokestatic 140, 3) := by decide +kernel
theorem dX1_brightestFactor_8 : decode cX1_brightestFactor 8 = .ok (.iconst 0, 1) := by decide +kernel
theorem dX1_brightestFactor_9 : decode cX1_brightestFactor 9 = .ok (.istore_n 1, 1) := by decide +kernel
theorem dX1_brightestFactor_10 : decode cX1_brightestFactor 10 = .ok (.iload_n 1, 1) := by decide +kernel
theorem dX1_brightestFactor_11 : decode cX1_brightestFactor 11 = .ok (.bipush 32, 2) := by decide +kernel
theorem dX1_brightestFactor_13 : decode cX1_brightestFactor 13 = .ok (.if_icmp .ge 46, 3) := by decide +kernel
theorem dX1_brightestFactor_16 : decode cX1_brightestFactor 16 = .ok (.aload_n 0, 1) := by decide +kernel
theorem dX1_brightestFactor_17 : decode cX1_brightestFactor 17 = .ok (.getfield 9, 3) := by decide +kernel
theorem dX1_brightestFactor_20 : decode cX1_brightestFactor 20 = .ok (.iload_n 1, 1) := by decide +kernel
theorem dX1_brightestFactor_21 : decode cX1_brightestFactor 21 = .ok (.iaload, 1) := by decide +kernel
theorem dX1_brightestFactor_22 : decode cX1_brightestFactor 22 = .ok (.invokestatic 119, 3) := by decide +kernel
theorem dX1_brightestFactor_25 : decode cX1_brightestFactor 25 = .ok (.istore_n 2, 1) := by decide +kernel
theorem dX1_brightestFactor_26 : decode cX1_brightestFactor 26 = .ok (.iconst 0, 1) := by decide +kernel
theorem dX1_brightestFactor_27 : decode cX1_brightestFactor 27 = .ok (.istore_n 3, 1) := by decide +kernel
theorem dX1_brightestFactor_28 : decode cX1_brightestFactor 28 = .ok (.iload_n 3, 1) := by decide +kernel
theorem dX1_brightestFactor_29 : decode cX1_brightestFactor 29 = .ok (.iconst 4, 1) := by decide +kernel
theorem dX1_brightestFactor_30 : decode cX1_brightestFactor 30 = .ok (.if_icmp .ge 23, 3) := by decide +kernel
theorem dX1_brightestFactor_33 : decode cX1_brightestFactor 33 = .ok (.aload_n 0, 1) := by decide +kernel
theorem dX1_brightestFactor_34 : decode cX1_brightestFactor 34 = .ok (.getfield 18, 3) := by decide +kernel
theorem dX1_brightestFactor_37 : decode cX1_brightestFactor 37 = .ok (.iload_n 2, 1) := by decide +kernel
theorem dX1_brightestFactor_38 : decode cX1_brightestFactor 38 = .ok (.iload_n 3, 1) := by decide +kernel
theorem dX1_brightestFactor_39 : decode cX1_brightestFactor 39 = .ok (.invokestatic 137, 3) := by decide +kernel
theorem dX1_brightestFactor_42 : decode cX1_brightestFactor 42 = .ok (.dup2, 1) := by decide +kernel
theorem dX1_brightestFactor_43 : decode cX1_brightestFactor 43 = .ok (.iaload, 1) := by decide +kernel
theorem dX1_brightestFactor_44 : decode cX1_brightestFactor 44 = .ok (.iconst 1, 1) := by decide +kernel
theorem dX1_brightestFactor_45 : decode cX1_brightestFactor 45 = .ok (.iadd, 1) := by decide +kernel
theorem dX1_brightestFactor_46 : decode cX1_brightestFactor 46 = .ok (.iastore, 1) := by decide +kernel
theorem dX1_brightestFactor_47 : decode cX1_brightestFactor 47 = .ok (.iinc 3 1, 3) := by decide +kernel
theorem dX1_brightestFactor_50 : decode cX1_brightestFactor 50 = .ok (.goto (-22), 3) := by decide +kernel
theorem dX1_brightestFactor_53 : decode cX1_brightestFactor 53 = .ok (.iinc 1 1, 3) := by decide +kernel
theorem dX1_brightestFactor_56 : decode cX1_brightestFactor 56 = .ok (.goto (-46), 3) := by decide +kernel
theorem dX1_brightestFactor_59 : decode cX1_brightestFactor 59 = .ok (.iconst 1, 1) := by decide +kernel
theorem dX1_brightestFactor_60 : decode cX1_brightestFactor 60 = .ok (.istore_n 1, 1) := by decide +kernel
theorem dX1_brightestFactor_61 : decode cX1_brightestFactor 61 = .ok (.iconst 2, 1) := by decide +kernel
theorem dX1_brightestFactor_62 : decode cX1_brightestFactor 62 = .ok (.istore_n 2, 1) := by decide +kernel
theorem dX1_brightestFactor_63 : decode cX1_brightestFactor 63 = .ok (.iload_n 2, 1) := by decide +kernel
theorem dX1_brightestFactor_64 : decode cX1_brightestFactor 64 = .ok (.bipush 97, 2) := by decide +kernel
theorem dX1_brightestFactor_66 : decode cX1_brightestFactor 66 = .ok (.if_icmp .ge 26, 3) := by decide +kernel
theorem dX1_brightestFactor_69 : decode cX1_brightestFactor 69 = .ok (.aload_n 0, 1) := by decide +kernel
theorem dX1_brightestFactor_70 : decode cX1_brightestFactor 70 = .ok (.getfield 18, 3) := by decide +kernel
theorem dX1_brightestFactor_73 : decode cX1_brightestFactor 73 = .ok (.iload_n 2, 1) := by decide +kernel
theorem dX1_brightestFactor_74 : decode cX1_brightestFactor 74 = .ok (.iaload, 1) := by decide +kernel
theorem dX1_brightestFactor_75 : decode cX1_brightestFactor 75 = .ok (.aload_n 0, 1) := by decide +kernel
theorem dX1_brightestFactor_76 : decode cX1_brightestFactor 76 = .ok (.getfield 18, 3) := by decide +kernel
theorem dX1_brightestFactor_79 : decode cX1_brightestFactor 79 = .ok (.iload_n 1, 1) := by decide +kernel
theorem dX1_brightestFactor_80 : decode cX1_brightestFactor 80 = .ok (.iaload, 1) := by decide +kernel
theorem dX1_brightestFactor_81 : decode cX1_brightestFactor 81 = .ok (.if_icmp .le 5, 3) := by decide +kernel
theorem dX1_brightestFactor_84 : decode cX1_brightestFactor 84 = .ok (.iload_n 2, 1) := by decide +kernel
theorem dX1_brightestFactor_85 : decode cX1_brightestFactor 85 = .ok (.istore_n 1, 1) := by decide +kernel
theorem dX1_brightestFactor_86 : decode cX1_brightestFactor 86 = .ok (.iinc 2 1, 3) := by decide +kernel
theorem dX1_brightestFactor_89 : decode cX1_brightestFactor 89 = .ok (.goto (-26), 3) := by decide +kernel
theorem dX1_brightestFactor_92 : decode cX1_brightestFactor 92 = .ok (.iload_n 1, 1) := by decide +kernel
theorem dX1_brightestFactor_93 : decode cX1_brightestFactor 93 = .ok (.ireturn, 1) := by decide +kernel
theorem dX1_mend_0 : decode cX1_mend 0 = .ok (.aload_n 1, 1) := by decide +kernel
theorem dX1_mend_1 : decode cX1_mend 1 = .ok (.invokevirtual 146, 3) := by decide +kernel
theorem dX1_mend_4 : decode cX1_mend 4 = .ok (.istore_n 2, 1) := by decide +kernel
theorem dX1_mend_5 : decode cX1_mend 5 = .ok (.iload_n 2, 1) := by decide +kernel
theorem dX1_mend_6 : decode cX1_mend 6 = .ok (.bipush (-9), 2) := by decide +kernel
theorem dX1_mend_8 : decode cX1_mend 8 = .ok (.if_icmp .ne 4, 3) := by decide +kernel
theorem dX1_mend_11 : decode cX1_mend 11 = .ok (.return_, 1) := by decide +kernel
theorem dX1_mend_12 : decode cX1_mend 12 = .ok (.iconst 0, 1) := by decide +kernel
theorem dX1_mend_13 : decode cX1_mend 13 = .ok (.istore_n 3, 1) := by decide +kernel
theorem dX1_mend_14 : decode cX1_mend 14 = .ok (.iconst 0, 1) := by decide +kernel
theorem dX1_mend_15 : decode cX1_mend 15 = .ok (.istore 4, 2) := by decide +kernel
theorem dX1_mend_17 : decode cX1_mend 17 = .ok (.iload 4, 2) := by decide +kernel
theorem dX1_mend_19 : decode cX1_mend 19 = .ok (.bipush 16, 2) := by decide +kernel
theorem dX1_mend_21 : decode cX1_mend 21 = .ok (.if_icmp .ge 42, 3) := by decide +kernel
theorem dX1_mend_24 : decode cX1_mend 24 = .ok (.iload_n 2, 1) := by decide +kernel
theorem dX1_mend_25 : decode cX1_mend 25 = .ok (.iload 4, 2) := by decide +kernel
theorem dX1_mend_27 : decode cX1_mend 27 = .ok (.iadd, 1) := by decide +kernel
theorem dX1_mend_28 : decode cX1_mend 28 = .ok (.bipush 16, 2) := by decide +kernel
theorem dX1_mend_30 : decode cX1_mend 30 = .ok (.irem, 1) := by decide +kernel
theorem dX1_mend_31 : decode cX1_mend 31 = .ok (.istore 5, 2) := by decide +kernel
theorem dX1_mend_33 : decode cX1_mend 33 = .ok (.aload_n 1, 1) := by decide +kernel
theorem dX1_mend_34 : decode cX1_mend 34 = .ok (.iload 5, 2) := by decide +kernel
theorem dX1_mend_36 : decode cX1_mend 36 = .ok (.invokevirtual 149, 3) := by decide +kernel
theorem dX1_mend_39 : decode cX1_mend 39 = .ok (.ifCond .eq 11, 3) := by decide +kernel
theorem dX1_mend_42 : decode cX1_mend 42 = .ok (.aload_n 0, 1) := by decide +kernel
theorem dX1_mend_43 : decode cX1_mend 43 = .ok (.aload_n 1, 1) := by decide +kernel
theorem dX1_mend_44 : decode cX1_mend 44 = .ok (.iload 5, 2) := by decide +kernel
theorem dX1_mend_46 : decode cX1_mend 46 = .ok (.invokevirtual 153, 3) := by decide +kernel
theorem dX1_mend_49 : decode cX1_mend 49 = .ok (.istore_n 3, 1) := by decide +kernel
theorem dX1_mend_50 : decode cX1_mend 50 = .ok (.aload_n 0, 1) := by decide +kernel
theorem dX1_mend_51 : decode cX1_mend 51 = .ok (.iload 5, 2) := by decide +kernel
theorem dX1_mend_53 : decode cX1_mend 53 = .ok (.iload_n 3, 1) := by decide +kernel
theorem dX1_mend_54 : decode cX1_mend 54 = .ok (.invokevirtual 134, 3) := by decide +kernel
theorem dX1_mend_57 : decode cX1_mend 57 = .ok (.iinc 4 1, 3) := by decide +kernel
theorem dX1_mend_60 : decode cX1_mend 60 = .ok (.goto (-43), 3) := by decide +kernel
theorem dX1_mend_63 : decode cX1_mend 63 = .ok (.return_, 1) := by decide +kernel
theorem dX1_bestTurn_0 : decode cX1_bestTurn 0 = .ok (.iconst 0, 1) := by decide +kernel
theorem dX1_bestTurn_1 : decode cX1_bestTurn 1 = .ok (.istore_n 3, 1) := by decide +kernel
theorem dX1_bestTurn_2 : decode cX1_bestTurn 2 = .ok (.iconst (-1), 1) := by decide +kernel
theorem dX1_bestTurn_3 : decode cX1_bestTurn 3 = .ok (.istore 4, 2) := by decide +kernel
theorem dX1_bestTurn_5 : decode cX1_bestTurn 5 = .ok (.iconst 0, 1) := by decide +kernel
theorem dX1_bestTurn_6 : decode cX1_bestTurn 6 = .ok (.istore 5, 2) := by decide +kernel
theorem dX1_bestTurn_8 : decode cX1_bestTurn 8 = .ok (.iload 5, 2) := by decide +kernel
theorem dX1_bestTurn_10 : decode cX1_bestTurn 10 = .ok (.iconst 4, 1) := by decide +kernel
theorem dX1_bestTurn_11 : decode cX1_bestTurn 11 = .ok (.if_icmp .ge 100, 3) := by decide +kernel
theorem dX1_bestTurn_14 : decode cX1_bestTurn 14 = .ok (.aload_n 0, 1) := by decide +kernel
theorem dX1_bestTurn_15 : decode cX1_bestTurn 15 = .ok (.getfield 9, 3) := by decide +kernel
theorem dX1_bestTurn_18 : decode cX1_bestTurn 18 = .ok (.iload_n 2, 1) := by decide +kernel
theorem dX1_bestTurn_19 : decode cX1_bestTurn 19 = .ok (.iaload, 1) := by decide +kernel
theorem dX1_bestTurn_20 : decode cX1_bestTurn 20 = .ok (.iload 5, 2) := by decide +kernel
theorem dX1_bestTurn_22 : decode cX1_bestTurn 22 = .ok (.invokestatic 137, 3) := by decide +kernel
theorem dX1_bestTurn_25 : decode cX1_bestTurn 25 = .ok (.istore 6, 2) := by decide +kernel
theorem dX1_bestTurn_27 : decode cX1_bestTurn 27 = .ok (.aload_n 0, 1) := by decide +kernel
theorem dX1_bestTurn_28 : decode cX1_bestTurn 28 = .ok (.getfield 9, 3) := by decide +kernel
theorem dX1_bestTurn_31 : decode cX1_bestTurn 31 = .ok (.bipush 16, 2) := by decide +kernel
theorem dX1_bestTurn_33 : decode cX1_bestTurn 33 = .ok (.iload_n 2, 1) := by decide +kernel
theorem dX1_bestTurn_34 : decode cX1_bestTurn 34 = .ok (.iadd, 1) := by decide +kernel
theorem dX1_bestTurn_35 : decode cX1_bestTurn 35 = .ok (.iaload, 1) := by decide +kernel
theorem dX1_bestTurn_36 : decode cX1_bestTurn 36 = .ok (.iload 5, 2) := by decide +kernel
theorem dX1_bestTurn_38 : decode cX1_bestTurn 38 = .ok (.invokestatic 137, 3) := by decide +kernel
theorem dX1_bestTurn_41 : decode cX1_bestTurn 41 = .ok (.istore 7, 2) := by decide +kernel
theorem dX1_bestTurn_43 : decode cX1_bestTurn 43 = .ok (.iload 6, 2) := by decide +kernel
theorem dX1_bestTurn_45 : decode cX1_bestTurn 45 = .ok (.invokestatic 157, 3) := by decide +kernel
theorem dX1_bestTurn_48 : decode cX1_bestTurn 48 = .ok (.aload_n 1, 1) := by decide +kernel
theorem dX1_bestTurn_49 : decode cX1_bestTurn 49 = .ok (.getfield 58, 3) := by decide +kernel
theorem dX1_bestTurn_52 : decode cX1_bestTurn 52 = .ok (.iload_n 2, 1) := by decide +kernel
theorem dX1_bestTurn_53 : decode cX1_bestTurn 53 = .ok (.iaload, 1) := by decide +kernel
theorem dX1_bestTurn_54 : decode cX1_bestTurn 54 = .ok (.if_icmp .ne 7, 3) := by decide +kernel
theorem dX1_bestTurn_57 : decode cX1_bestTurn 57 = .ok (.iconst 1, 1) := by decide +kernel
theorem dX1_bestTurn_58 : decode cX1_bestTurn 58 = .ok (.goto 4, 3) := by decide +kernel
theorem dX1_bestTurn_61 : decode cX1_bestTurn 61 = .ok (.iconst 0, 1) := by decide +kernel
theorem dX1_bestTurn_62 : decode cX1_bestTurn 62 = .ok (.istore 8, 2) := by decide +kernel
theorem dX1_bestTurn_64 : decode cX1_bestTurn 64 = .ok (.iload 8, 2) := by decide +kernel
theorem dX1_bestTurn_66 : decode cX1_bestTurn 66 = .ok (.iload 7, 2) := by decide +kernel
theorem dX1_bestTurn_68 : decode cX1_bestTurn 68 = .ok (.invokestatic 157, 3) := by decide +kernel
theorem dX1_bestTurn_71 : decode cX1_bestTurn 71 = .ok (.aload_n 1, 1) := by decide +kernel
theorem dX1_bestTurn_72 : decode cX1_bestTurn 72 = .ok (.getfield 58, 3) := by decide +kernel
theorem dX1_bestTurn_75 : decode cX1_bestTurn 75 = .ok (.bipush 16, 2) := by decide +kernel
theorem dX1_bestTurn_77 : decode cX1_bestTurn 77 = .ok (.iload_n 2, 1) := by decide +kernel
theorem dX1_bestTurn_78 : decode cX1_bestTurn 78 = .ok (.iadd, 1) := by decide +kernel
theorem dX1_bestTurn_79 : decode cX1_bestTurn 79 = .ok (.iaload, 1) := by decide +kernel
theorem dX1_bestTurn_80 : decode cX1_bestTurn 80 = .ok (.if_icmp .ne 7, 3) := by decide +kernel
theorem dX1_bestTurn_83 : decode cX1_bestTurn 83 = .ok (.iconst 1, 1) := by decide +kernel
theorem dX1_bestTurn_84 : decode cX1_bestTurn 84 = .ok (.goto 4, 3) := by decide +kernel
theorem dX1_bestTurn_87 : decode cX1_bestTurn 87 = .ok (.iconst 0, 1) := by decide +kernel
theorem dX1_bestTurn_88 : decode cX1_bestTurn 88 = .ok (.iadd, 1) := by decide +kernel
theorem dX1_bestTurn_89 : decode cX1_bestTurn 89 = .ok (.istore 8, 2) := by decide +kernel
theorem dX1_bestTurn_91 : decode cX1_bestTurn 91 = .ok (.iload 8, 2) := by decide +kernel
theorem dX1_bestTurn_93 : decode cX1_bestTurn 93 = .ok (.iload 4, 2) := by decide +kernel
theorem dX1_bestTurn_95 : decode cX1_bestTurn 95 = .ok (.if_icmp .le 10, 3) := by decide +kernel
theorem dX1_bestTurn_98 : decode cX1_bestTurn 98 = .ok (.iload 8, 2) := by decide +kernel
theorem dX1_bestTurn_100 : decode cX1_bestTurn 100 = .ok (.istore 4, 2) := by decide +kernel
theorem dX1_bestTurn_102 : decode cX1_bestTurn 102 = .ok (.iload 5, 2) := by decide +kernel
theorem dX1_bestTurn_104 : decode cX1_bestTurn 104 = .ok (.istore_n 3, 1) := by decide +kernel
theorem dX1_bestTurn_105 : decode cX1_bestTurn 105 = .ok (.iinc 5 1, 3) := by decide +kernel
theorem dX1_bestTurn_108 : decode cX1_bestTurn 108 = .ok (.goto (-100), 3) := by decide +kernel
theorem dX1_bestTurn_111 : decode cX1_bestTurn 111 = .ok (.iload_n 3, 1) := by decide +kernel
theorem dX1_bestTurn_112 : decode cX1_bestTurn 112 = .ok (.ireturn, 1) := by decide +kernel
theorem dX1_errors_0 : decode cX1_errors 0 = .ok (.iconst 0, 1) := by decide +kernel
theorem dX1_errors_1 : decode cX1_errors 1 = .ok (.istore_n 2, 1) := by decide +kernel
theorem dX1_errors_2 : decode cX1_errors 2 = .ok (.iconst 0, 1) := by decide +kernel
theorem dX1_errors_3 : decode cX1_errors 3 = .ok (.istore_n 3, 1) := by decide +kernel
theorem dX1_errors_4 : decode cX1_errors 4 = .ok (.iload_n 3, 1) := by decide +kernel
theorem dX1_errors_5 : decode cX1_errors 5 = .ok (.bipush 32, 2) := by decide +kernel
theorem dX1_errors_7 : decode cX1_errors 7 = .ok (.if_icmp .ge 35, 3) := by decide +kernel
theorem dX1_errors_10 : decode cX1_errors 10 = .ok (.iload_n 2, 1) := by decide +kernel
theorem dX1_errors_11 : decode cX1_errors 11 = .ok (.aload_n 0, 1) := by decide +kernel
theorem dX1_errors_12 : decode cX1_errors 12 = .ok (.getfield 9, 3) := by decide +kernel
theorem dX1_errors_15 : decode cX1_errors 15 = .ok (.iload_n 3, 1) := by decide +kernel
theorem dX1_errors_16 : decode cX1_errors 16 = .ok (.iaload, 1) := by decide +kernel
theorem dX1_errors_17 : decode cX1_errors 17 = .ok (.invokestatic 157, 3) := by decide +kernel
theorem dX1_errors_20 : decode cX1_errors 20 = .ok (.aload_n 1, 1) := by decide +kernel
theorem dX1_errors_21 : decode cX1_errors 21 = .ok (.getfield 58, 3) := by decide +kernel
theorem dX1_errors_24 : decode cX1_errors 24 = .ok (.iload_n 3, 1) := by decide +kernel
theorem dX1_errors_25 : decode cX1_errors 25 = .ok (.iaload, 1) := by decide +kernel
theorem dX1_errors_26 : decode cX1_errors 26 = .ok (.if_icmp .ne 7, 3) := by decide +kernel
theorem dX1_errors_29 : decode cX1_errors 29 = .ok (.iconst 0, 1) := by decide +kernel
theorem dX1_errors_30 : decode cX1_errors 30 = .ok (.goto 4, 3) := by decide +kernel
theorem dX1_errors_33 : decode cX1_errors 33 = .ok (.iconst 1, 1) := by decide +kernel
theorem dX1_errors_34 : decode cX1_errors 34 = .ok (.iadd, 1) := by decide +kernel
theorem dX1_errors_35 : decode cX1_errors 35 = .ok (.istore_n 2, 1) := by decide +kernel
theorem dX1_errors_36 : decode cX1_errors 36 = .ok (.iinc 3 1, 3) := by decide +kernel
theorem dX1_errors_39 : decode cX1_errors 39 = .ok (.goto (-35), 3) := by decide +kernel
theorem dX1_errors_42 : decode cX1_errors 42 = .ok (.iload_n 2, 1) := by decide +kernel
theorem dX1_errors_43 : decode cX1_errors 43 = .ok (.ireturn, 1) := by decide +kernel
theorem dX1_errorsAtMarks_0 : decode cX1_errorsAtMarks 0 = .ok (.iconst 0, 1) := by decide +kernel
theorem dX1_errorsAtMarks_1 : decode cX1_errorsAtMarks 1 = .ok (.istore_n 2, 1) := by decide +kernel
theorem dX1_errorsAtMarks_2 : decode cX1_errorsAtMarks 2 = .ok (.iconst 0, 1) := by decide +kernel
theorem dX1_errorsAtMarks_3 : decode cX1_errorsAtMarks 3 = .ok (.istore_n 3, 1) := by decide +kernel
theorem dX1_errorsAtMarks_4 : decode cX1_errorsAtMarks 4 = .ok (.iload_n 3, 1) := by decide +kernel
theorem dX1_errorsAtMarks_5 : decode cX1_errorsAtMarks 5 = .ok (.bipush 32, 2) := by decide +kernel
theorem dX1_errorsAtMarks_7 : decode cX1_errorsAtMarks 7 = .ok (.if_icmp .ge 46, 3) := by decide +kernel
theorem dX1_errorsAtMarks_10 : decode cX1_errorsAtMarks 10 = .ok (.aload_n 1, 1) := by decide +kernel
theorem dX1_errorsAtMarks_11 : decode cX1_errorsAtMarks 11 = .ok (.iload_n 3, 1) := by decide +kernel
theorem dX1_errorsAtMarks_12 : decode cX1_errorsAtMarks 12 = .ok (.bipush 16, 2) := by decide +kernel
theorem dX1_errorsAtMarks_14 : decode cX1_errorsAtMarks 14 = .ok (.irem, 1) := by decide +kernel
theorem dX1_errorsAtMarks_15 : decode cX1_errorsAtMarks 15 = .ok (.invokevirtual 149, 3) := by decide +kernel
theorem dX1_errorsAtMarks_18 : decode cX1_errorsAtMarks 18 = .ok (.ifCond .eq 29, 3) := by decide +kernel
theorem dX1_errorsAtMarks_21 : decode cX1_errorsAtMarks 21 = .ok (.iload_n 2, 1) := by decide +kernel
theorem dX1_errorsAtMarks_22 : decode cX1_errorsAtMarks 22 = .ok (.aload_n 0, 1) := by decide +kernel
theorem dX1_errorsAtMarks_23 : decode cX1_errorsAtMarks 23 = .ok (.getfield 9, 3) := by decide +kernel
theorem dX1_errorsAtMarks_26 : decode cX1_errorsAtMarks 26 = .ok (.iload_n 3, 1) := by decide +kernel
theorem dX1_errorsAtMarks_27 : decode cX1_errorsAtMarks 27 = .ok (.iaload, 1) := by decide +kernel
theorem dX1_errorsAtMarks_28 : decode cX1_errorsAtMarks 28 = .ok (.invokestatic 157, 3) := by decide +kernel
theorem dX1_errorsAtMarks_31 : decode cX1_errorsAtMarks 31 = .ok (.aload_n 1, 1) := by decide +kernel
theorem dX1_errorsAtMarks_32 : decode cX1_errorsAtMarks 32 = .ok (.getfield 58, 3) := by decide +kernel
theorem dX1_errorsAtMarks_35 : decode cX1_errorsAtMarks 35 = .ok (.iload_n 3, 1) := by decide +kernel
theorem dX1_errorsAtMarks_36 : decode cX1_errorsAtMarks 36 = .ok (.iaload, 1) := by decide +kernel
theorem dX1_errorsAtMarks_37 : decode cX1_errorsAtMarks 37 = .ok (.if_icmp .ne 7, 3) := by decide +kernel
theorem dX1_errorsAtMarks_40 : decode cX1_errorsAtMarks 40 = .ok (.iconst 0, 1) := by decide +kernel
theorem dX1_errorsAtMarks_41 : decode cX1_errorsAtMarks 41 = .ok (.goto 4, 3) := by decide +kernel
theorem dX1_errorsAtMarks_44 : decode cX1_errorsAtMarks 44 = .ok (.iconst 1, 1) := by decide +kernel
theorem dX1_errorsAtMarks_45 : decode cX1_errorsAtMarks 45 = .ok (.iadd, 1) := by decide +kernel
theorem dX1_errorsAtMarks_46 : decode cX1_errorsAtMarks 46 = .ok (.istore_n 2, 1) := by decide +kernel
theorem dX1_errorsAtMarks_47 : decode cX1_errorsAtMarks 47 = .ok (.iinc 3 1, 3) := by decide +kernel
theorem dX1_errorsAtMarks_50 : decode cX1_errorsAtMarks 50 = .ok (.goto (-46), 3) := by decide +kernel
theorem dX1_errorsAtMarks_53 : decode cX1_errorsAtMarks 53 = .ok (.iload_n 2, 1) := by decide +kernel
theorem dX1_errorsAtMarks_54 : decode cX1_errorsAtMarks 54 = .ok (.ireturn, 1) := by decide +kernel
theorem dX2_light_0 : decode cX2_light 0 = .ok (.getstatic 9, 3) := by decide +kernel
theorem dX2_light_3 : decode cX2_light 3 = .ok (.iload_n 0, 1) := by decide +kernel
theorem dX2_light_4 : decode cX2_light 4 = .ok (.iconst 3, 1) := by decide +kernel
theorem dX2_light_5 : decode cX2_light 5 = .ok (.iand, 1) := by decide +kernel
theorem dX2_light_6 : decode cX2_light 6 = .ok (.iaload, 1) := by decide +kernel
theorem dX2_light_7 : decode cX2_light 7 = .ok (.ireturn, 1) := by decide +kernel
theorem dX2_decided_0 : decode cX2_decided 0 = .ok (.iload_n 0, 1) := by decide +kernel
theorem dX2_decided_1 : decode cX2_decided 1 = .ok (.bipush 11, 2) := by decide +kernel
theorem dX2_decided_3 : decode cX2_decided 3 = .ok (.if_icmp .gt 5, 3) := by decide +kernel
theorem dX2_decided_6 : decode cX2_decided 6 = .ok (.iconst 0, 1) := by decide +kernel
theorem dX2_decided_7 : decode cX2_decided 7 = .ok (.ireturn, 1) := by decide +kernel
theorem dX2_decided_8 : decode cX2_decided 8 = .ok (.iload_n 0, 1) := by decide +kernel
theorem dX2_decided_9 : decode cX2_decided 9 = .ok (.bipush 48, 2) := by decide +kernel
theorem dX2_decided_11 : decode cX2_decided 11 = .ok (.if_icmp .gt 5, 3) := by decide +kernel
theorem dX2_decided_14 : decode cX2_decided 14 = .ok (.iconst 1, 1) := by decide +kernel
theorem dX2_decided_15 : decode cX2_decided 15 = .ok (.ireturn, 1) := by decide +kernel
theorem dX2_decided_16 : decode cX2_decided 16 = .ok (.iload_n 0, 1) := by decide +kernel
theorem dX2_decided_17 : decode cX2_decided 17 = .ok (.bipush 85, 2) := by decide +kernel
theorem dX2_decided_19 : decode cX2_decided 19 = .ok (.if_icmp .gt 7, 3) := by decide +kernel
theorem dX2_decided_22 : decode cX2_decided 22 = .ok (.iconst 3, 1) := by decide +kernel
theorem dX2_decided_23 : decode cX2_decided 23 = .ok (.goto 4, 3) := by decide +kernel
theorem dX2_decided_26 : decode cX2_decided 26 = .ok (.iconst 2, 1) := by decide +kernel
theorem dX2_decided_27 : decode cX2_decided 27 = .ok (.ireturn, 1) := by decide +kernel
theorem dX2_turned_0 : decode cX2_turned 0 = .ok (.iload_n 0, 1) := by decide +kernel
theorem dX2_turned_1 : decode cX2_turned 1 = .ok (.getstatic 9, 3) := by decide +kernel
theorem dX2_turned_4 : decode cX2_turned 4 = .ok (.iload_n 1, 1) := by decide +kernel
theorem dX2_turned_5 : decode cX2_turned 5 = .ok (.iconst 3, 1) := by decide +kernel
theorem dX2_turned_6 : decode cX2_turned 6 = .ok (.iand, 1) := by decide +kernel
theorem dX2_turned_7 : decode cX2_turned 7 = .ok (.iaload, 1) := by decide +kernel
theorem dX2_turned_8 : decode cX2_turned 8 = .ok (.imul, 1) := by decide +kernel
theorem dX2_turned_9 : decode cX2_turned 9 = .ok (.bipush 97, 2) := by decide +kernel
theorem dX2_turned_11 : decode cX2_turned 11 = .ok (.irem, 1) := by decide +kernel
theorem dX2_turned_12 : decode cX2_turned 12 = .ok (.ireturn, 1) := by decide +kernel
theorem dX2_power_0 : decode cX2_power 0 = .ok (.iconst 1, 1) := by decide +kernel
theorem dX2_power_1 : decode cX2_power 1 = .ok (.istore_n 2, 1) := by decide +kernel
theorem dX2_power_2 : decode cX2_power 2 = .ok (.iload_n 0, 1) := by decide +kernel
theorem dX2_power_3 : decode cX2_power 3 = .ok (.istore_n 3, 1) := by decide +kernel
theorem dX2_power_4 : decode cX2_power 4 = .ok (.iload_n 1, 1) := by decide +kernel
theorem dX2_power_5 : decode cX2_power 5 = .ok (.istore 4, 2) := by decide +kernel
theorem dX2_power_7 : decode cX2_power 7 = .ok (.iload 4, 2) := by decide +kernel
theorem dX2_power_9 : decode cX2_power 9 = .ok (.ifCond .le 34, 3) := by decide +kernel
theorem dX2_power_12 : decode cX2_power 12 = .ok (.iload 4, 2) := by decide +kernel
theorem dX2_power_14 : decode cX2_power 14 = .ok (.iconst 1, 1) := by decide +kernel
theorem dX2_power_15 : decode cX2_power 15 = .ok (.iand, 1) := by decide +kernel
theorem dX2_power_16 : decode cX2_power 16 = .ok (.iconst 1, 1) := by decide +kernel
theorem dX2_power_17 : decode cX2_power 17 = .ok (.if_icmp .ne 10, 3) := by decide +kernel
theorem dX2_power_20 : decode cX2_power 20 = .ok (.iload_n 2, 1) := by decide +kernel
theorem dX2_power_21 : decode cX2_power 21 = .ok (.iload_n 3, 1) := by decide +kernel
theorem dX2_power_22 : decode cX2_power 22 = .ok (.imul, 1) := by decide +kernel
theorem dX2_power_23 : decode cX2_power 23 = .ok (.bipush 97, 2) := by decide +kernel
theorem dX2_power_25 : decode cX2_power 25 = .ok (.irem, 1) := by decide +kernel
theorem dX2_power_26 : decode cX2_power 26 = .ok (.istore_n 2, 1) := by decide +kernel
theorem dX2_power_27 : decode cX2_power 27 = .ok (.iload_n 3, 1) := by decide +kernel
theorem dX2_power_28 : decode cX2_power 28 = .ok (.iload_n 3, 1) := by decide +kernel
theorem dX2_power_29 : decode cX2_power 29 = .ok (.imul, 1) := by decide +kernel
theorem dX2_power_30 : decode cX2_power 30 = .ok (.bipush 97, 2) := by decide +kernel
theorem dX2_power_32 : decode cX2_power 32 = .ok (.irem, 1) := by decide +kernel
theorem dX2_power_33 : decode cX2_power 33 = .ok (.istore_n 3, 1) := by decide +kernel
theorem dX2_power_34 : decode cX2_power 34 = .ok (.iload 4, 2) := by decide +kernel
theorem dX2_power_36 : decode cX2_power 36 = .ok (.iconst 1, 1) := by decide +kernel
theorem dX2_power_37 : decode cX2_power 37 = .ok (.ishr, 1) := by decide +kernel
theorem dX2_power_38 : decode cX2_power 38 = .ok (.istore 4, 2) := by decide +kernel
theorem dX2_power_40 : decode cX2_power 40 = .ok (.goto (-33), 3) := by decide +kernel
theorem dX2_power_43 : decode cX2_power 43 = .ok (.iload_n 2, 1) := by decide +kernel
theorem dX2_power_44 : decode cX2_power 44 = .ok (.ireturn, 1) := by decide +kernel
theorem dX2_inverse_0 : decode cX2_inverse 0 = .ok (.iload_n 0, 1) := by decide +kernel
theorem dX2_inverse_1 : decode cX2_inverse 1 = .ok (.bipush 95, 2) := by decide +kernel
theorem dX2_inverse_3 : decode cX2_inverse 3 = .ok (.invokestatic 15, 3) := by decide +kernel
theorem dX2_inverse_6 : decode cX2_inverse 6 = .ok (.ireturn, 1) := by decide +kernel
theorem dX3_init_0 : decode cX3_init 0 = .ok (.aload_n 0, 1) := by decide +kernel
theorem dX3_init_1 : decode cX3_init 1 = .ok (.invokespecial 3, 3) := by decide +kernel
theorem dX3_init_4 : decode cX3_init 4 = .ok (.aload_n 0, 1) := by decide +kernel
theorem dX3_init_5 : decode cX3_init 5 = .ok (.bipush 6, 2) := by decide +kernel
theorem dX3_init_7 : decode cX3_init 7 = .ok (.anewarray 9, 3) := by decide +kernel
theorem dX3_init_10 : decode cX3_init 10 = .ok (.putfield 11, 3) := by decide +kernel
theorem dX3_init_13 : decode cX3_init 13 = .ok (.iconst 0, 1) := by decide +kernel
theorem dX3_init_14 : decode cX3_init 14 = .ok (.istore_n 1, 1) := by decide +kernel
theorem dX3_init_15 : decode cX3_init 15 = .ok (.iload_n 1, 1) := by decide +kernel
theorem dX3_init_16 : decode cX3_init 16 = .ok (.bipush 6, 2) := by decide +kernel
theorem dX3_init_18 : decode cX3_init 18 = .ok (.if_icmp .ge 22, 3) := by decide +kernel
theorem dX3_init_21 : decode cX3_init 21 = .ok (.aload_n 0, 1) := by decide +kernel
theorem dX3_init_22 : decode cX3_init 22 = .ok (.getfield 11, 3) := by decide +kernel
theorem dX3_init_25 : decode cX3_init 25 = .ok (.iload_n 1, 1) := by decide +kernel
theorem dX3_init_26 : decode cX3_init 26 = .ok (.new 9, 3) := by decide +kernel
theorem dX3_init_29 : decode cX3_init 29 = .ok (.dup, 1) := by decide +kernel
theorem dX3_init_30 : decode cX3_init 30 = .ok (.invokespecial 17, 3) := by decide +kernel
theorem dX3_init_33 : decode cX3_init 33 = .ok (.aastore, 1) := by decide +kernel
theorem dX3_init_34 : decode cX3_init 34 = .ok (.iinc 1 1, 3) := by decide +kernel
theorem dX3_init_37 : decode cX3_init 37 = .ok (.goto (-22), 3) := by decide +kernel
theorem dX3_init_40 : decode cX3_init 40 = .ok (.return_, 1) := by decide +kernel
theorem dX3_remember_0 : decode cX3_remember 0 = .ok (.aload_n 0, 1) := by decide +kernel
theorem dX3_remember_1 : decode cX3_remember 1 = .ok (.getfield 11, 3) := by decide +kernel
theorem dX3_remember_4 : decode cX3_remember 4 = .ok (.aload_n 0, 1) := by decide +kernel
theorem dX3_remember_5 : decode cX3_remember 5 = .ok (.getfield 18, 3) := by decide +kernel
theorem dX3_remember_8 : decode cX3_remember 8 = .ok (.aaload, 1) := by decide +kernel
theorem dX3_remember_9 : decode cX3_remember 9 = .ok (.aload_n 1, 1) := by decide +kernel
theorem dX3_remember_10 : decode cX3_remember 10 = .ok (.invokevirtual 22, 3) := by decide +kernel
theorem dX3_remember_13 : decode cX3_remember 13 = .ok (.aload_n 0, 1) := by decide +kernel
theorem dX3_remember_14 : decode cX3_remember 14 = .ok (.aload_n 0, 1) := by decide +kernel
theorem dX3_remember_15 : decode cX3_remember 15 = .ok (.getfield 18, 3) := by decide +kernel
theorem dX3_remember_18 : decode cX3_remember 18 = .ok (.iconst 1, 1) := by decide +kernel
theorem dX3_remember_19 : decode cX3_remember 19 = .ok (.iadd, 1) := by decide +kernel
theorem dX3_remember_20 : decode cX3_remember 20 = .ok (.bipush 6, 2) := by decide +kernel
theorem dX3_remember_22 : decode cX3_remember 22 = .ok (.irem, 1) := by decide +kernel
theorem dX3_remember_23 : decode cX3_remember 23 = .ok (.putfield 18, 3) := by decide +kernel
theorem dX3_remember_26 : decode cX3_remember 26 = .ok (.aload_n 0, 1) := by decide +kernel
theorem dX3_remember_27 : decode cX3_remember 27 = .ok (.aload_n 0, 1) := by decide +kernel
theorem dX3_remember_28 : decode cX3_remember 28 = .ok (.getfield 26, 3) := by decide +kernel
theorem dX3_remember_31 : decode cX3_remember 31 = .ok (.iconst 1, 1) := by decide +kernel
theorem dX3_remember_32 : decode cX3_remember 32 = .ok (.iadd, 1) := by decide +kernel
theorem dX3_remember_33 : decode cX3_remember 33 = .ok (.bipush 6, 2) := by decide +kernel
theorem dX3_remember_35 : decode cX3_remember 35 = .ok (.invokestatic 29, 3) := by decide +kernel
theorem dX3_remember_38 : decode cX3_remember 38 = .ok (.putfield 26, 3) := by decide +kernel
theorem dX3_remember_41 : decode cX3_remember 41 = .ok (.return_, 1) := by decide +kernel
theorem dX3_restore_0 : decode cX3_restore 0 = .ok (.aload_n 0, 1) := by decide +kernel
theorem dX3_restore_1 : decode cX3_restore 1 = .ok (.aload_n 0, 1) := by decide +kernel
theorem dX3_restore_2 : decode cX3_restore 2 = .ok (.getfield 18, 3) := by decide +kernel
theorem dX3_restore_5 : decode cX3_restore 5 = .ok (.bipush 6, 2) := by decide +kernel
theorem dX3_restore_7 : decode cX3_restore 7 = .ok (.iadd, 1) := by decide +kernel
theorem dX3_restore_8 : decode cX3_restore 8 = .ok (.iconst 1, 1) := by decide +kernel
theorem dX3_restore_9 : decode cX3_restore 9 = .ok (.isub, 1) := by decide +kernel
theorem dX3_restore_10 : decode cX3_restore 10 = .ok (.bipush 6, 2) := by decide +kernel
theorem dX3_restore_12 : decode cX3_restore 12 = .ok (.irem, 1) := by decide +kernel
theorem dX3_restore_13 : decode cX3_restore 13 = .ok (.putfield 18, 3) := by decide +kernel
theorem dX3_restore_16 : decode cX3_restore 16 = .ok (.aload_n 1, 1) := by decide +kernel
theorem dX3_restore_17 : decode cX3_restore 17 = .ok (.aload_n 0, 1) := by decide +kernel
theorem dX3_restore_18 : decode cX3_restore 18 = .ok (.getfield 11, 3) := by decide +kernel
theorem dX3_restore_21 : decode cX3_restore 21 = .ok (.aload_n 0, 1) := by decide +kernel
theorem dX3_restore_22 : decode cX3_restore 22 = .ok (.getfield 18, 3) := by decide +kernel
theorem dX3_restore_25 : decode cX3_restore 25 = .ok (.aaload, 1) := by decide +kernel
theorem dX3_restore_26 : decode cX3_restore 26 = .ok (.invokevirtual 22, 3) := by decide +kernel
theorem dX3_restore_29 : decode cX3_restore 29 = .ok (.aload_n 0, 1) := by decide +kernel
theorem dX3_restore_30 : decode cX3_restore 30 = .ok (.aload_n 0, 1) := by decide +kernel
theorem dX3_restore_31 : decode cX3_restore 31 = .ok (.getfield 26, 3) := by decide +kernel
theorem dX3_restore_34 : decode cX3_restore 34 = .ok (.iconst 1, 1) := by decide +kernel
theorem dX3_restore_35 : decode cX3_restore 35 = .ok (.isub, 1) := by decide +kernel
theorem dX3_restore_36 : decode cX3_restore 36 = .ok (.iconst 0, 1) := by decide +kernel
theorem dX3_restore_37 : decode cX3_restore 37 = .ok (.invokestatic 35, 3) := by decide +kernel
theorem dX3_restore_40 : decode cX3_restore 40 = .ok (.putfield 26, 3) := by decide +kernel
theorem dX3_restore_43 : decode cX3_restore 43 = .ok (.return_, 1) := by decide +kernel
theorem dX4_init_0 : decode cX4_init 0 = .ok (.aload_n 0, 1) := by decide +kernel
theorem dX4_init_1 : decode cX4_init 1 = .ok (.invokespecial 3, 3) := by decide +kernel
theorem dX4_init_4 : decode cX4_init 4 = .ok (.return_, 1) := by decide +kernel
theorem dX4_put_0 : decode cX4_put 0 = .ok (.aload_n 0, 1) := by decide +kernel
theorem dX4_put_1 : decode cX4_put 1 = .ok (.iload_n 1, 1) := by decide +kernel
theorem dX4_put_2 : decode cX4_put 2 = .ok (.bipush 97, 2) := by decide +kernel
theorem dX4_put_4 : decode cX4_put 4 = .ok (.invokestatic 9, 3) := by decide +kernel
theorem dX4_put_7 : decode cX4_put 7 = .ok (.putfield 15, 3) := by decide +kernel
theorem dX4_put_10 : decode cX4_put 10 = .ok (.aload_n 0, 1) := by decide +kernel
theorem dX4_put_11 : decode cX4_put 11 = .ok (.iload_n 2, 1) := by decide +kernel
theorem dX4_put_12 : decode cX4_put 12 = .ok (.bipush 97, 2) := by decide +kernel
theorem dX4_put_14 : decode cX4_put 14 = .ok (.invokestatic 9, 3) := by decide +kernel
theorem dX4_put_17 : decode cX4_put 17 = .ok (.putfield 21, 3) := by decide +kernel
theorem dX4_put_20 : decode cX4_put 20 = .ok (.aload_n 0, 1) := by decide +kernel
theorem dX4_put_21 : decode cX4_put 21 = .ok (.iload_n 3, 1) := by decide +kernel
theorem dX4_put_22 : decode cX4_put 22 = .ok (.bipush 97, 2) := by decide +kernel
theorem dX4_put_24 : decode cX4_put 24 = .ok (.invokestatic 9, 3) := by decide +kernel
theorem dX4_put_27 : decode cX4_put 27 = .ok (.putfield 24, 3) := by decide +kernel
theorem dX4_put_30 : decode cX4_put 30 = .ok (.aload_n 0, 1) := by decide +kernel
theorem dX4_put_31 : decode cX4_put 31 = .ok (.iload 4, 2) := by decide +kernel
theorem dX4_put_33 : decode cX4_put 33 = .ok (.bipush 97, 2) := by decide +kernel
theorem dX4_put_35 : decode cX4_put 35 = .ok (.invokestatic 9, 3) := by decide +kernel
theorem dX4_put_38 : decode cX4_put 38 = .ok (.putfield 27, 3) := by decide +kernel
theorem dX4_put_41 : decode cX4_put 41 = .ok (.return_, 1) := by decide +kernel
theorem dX4_entry_0 : decode cX4_entry 0 = .ok (.iload_n 1, 1) := by decide +kernel
theorem dX4_entry_1 : decode cX4_entry 1 = .ok (.tableswitch 42 0 2 #[27, 32, 37], 27) := by decide +kernel
theorem dX4_entry_28 : decode cX4_entry 28 = .ok (.aload_n 0, 1) := by decide +kernel
theorem dX4_entry_29 : decode cX4_entry 29 = .ok (.getfield 15, 3) := by decide +kernel
theorem dX4_entry_32 : decode cX4_entry 32 = .ok (.ireturn, 1) := by decide +kernel
theorem dX4_entry_33 : decode cX4_entry 33 = .ok (.aload_n 0, 1) := by decide +kernel
theorem dX4_entry_34 : decode cX4_entry 34 = .ok (.getfield 21, 3) := by decide +kernel
theorem dX4_entry_37 : decode cX4_entry 37 = .ok (.ireturn, 1) := by decide +kernel
theorem dX4_entry_38 : decode cX4_entry 38 = .ok (.aload_n 0, 1) := by decide +kernel
theorem dX4_entry_39 : decode cX4_entry 39 = .ok (.getfield 24, 3) := by decide +kernel
theorem dX4_entry_42 : decode cX4_entry 42 = .ok (.ireturn, 1) := by decide +kernel
theorem dX4_entry_43 : decode cX4_entry 43 = .ok (.aload_n 0, 1) := by decide +kernel
theorem dX4_entry_44 : decode cX4_entry 44 = .ok (.getfield 27, 3) := by decide +kernel
theorem dX4_entry_47 : decode cX4_entry 47 = .ok (.ireturn, 1) := by decide +kernel
theorem dX4_determinant_0 : decode cX4_determinant 0 = .ok (.aload_n 0, 1) := by decide +kernel
theorem dX4_determinant_1 : decode cX4_determinant 1 = .ok (.getfield 15, 3) := by decide +kernel
theorem dX4_determinant_4 : decode cX4_determinant 4 = .ok (.aload_n 0, 1) := by decide +kernel
theorem dX4_determinant_5 : decode cX4_determinant 5 = .ok (.getfield 27, 3) := by decide +kernel
theorem dX4_determinant_8 : decode cX4_determinant 8 = .ok (.imul, 1) := by decide +kernel
theorem dX4_determinant_9 : decode cX4_determinant 9 = .ok (.aload_n 0, 1) := by decide +kernel
theorem dX4_determinant_10 : decode cX4_determinant 10 = .ok (.getfield 21, 3) := by decide +kernel
theorem dX4_determinant_13 : decode cX4_determinant 13 = .ok (.aload_n 0, 1) := by decide +kernel
theorem dX4_determinant_14 : decode cX4_determinant 14 = .ok (.getfield 24, 3) := by decide +kernel
theorem dX4_determinant_17 : decode cX4_determinant 17 = .ok (.imul, 1) := by decide +kernel
theorem dX4_determinant_18 : decode cX4_determinant 18 = .ok (.isub, 1) := by decide +kernel
theorem dX4_determinant_19 : decode cX4_determinant 19 = .ok (.bipush 97, 2) := by decide +kernel
theorem dX4_determinant_21 : decode cX4_determinant 21 = .ok (.invokestatic 9, 3) := by decide +kernel
theorem dX4_determinant_24 : decode cX4_determinant 24 = .ok (.ireturn, 1) := by decide +kernel
theorem dX4_invert_0 : decode cX4_invert 0 = .ok (.aload_n 0, 1) := by decide +kernel
theorem dX4_invert_1 : decode cX4_invert 1 = .ok (.invokevirtual 30, 3) := by decide +kernel
theorem dX4_invert_4 : decode cX4_invert 4 = .ok (.invokestatic 34, 3) := by decide +kernel
theorem dX4_invert_7 : decode cX4_invert 7 = .ok (.istore_n 1, 1) := by decide +kernel
theorem dX4_invert_8 : decode cX4_invert 8 = .ok (.aload_n 0, 1) := by decide +kernel
theorem dX4_invert_9 : decode cX4_invert 9 = .ok (.iload_n 1, 1) := by decide +kernel
theorem dX4_invert_10 : decode cX4_invert 10 = .ok (.aload_n 0, 1) := by decide +kernel
theorem dX4_invert_11 : decode cX4_invert 11 = .ok (.getfield 27, 3) := by decide +kernel
theorem dX4_invert_14 : decode cX4_invert 14 = .ok (.imul, 1) := by decide +kernel
theorem dX4_invert_15 : decode cX4_invert 15 = .ok (.iload_n 1, 1) := by decide +kernel
theorem dX4_invert_16 : decode cX4_invert 16 = .ok (.ineg, 1) := by decide +kernel
theorem dX4_invert_17 : decode cX4_invert 17 = .ok (.aload_n 0, 1) := by decide +kernel
theorem dX4_invert_18 : decode cX4_invert 18 = .ok (.getfield 21, 3) := by decide +kernel
theorem dX4_invert_21 : decode cX4_invert 21 = .ok (.imul, 1) := by decide +kernel
theorem dX4_invert_22 : decode cX4_invert 22 = .ok (.iload_n 1, 1) := by decide +kernel
theorem dX4_invert_23 : decode cX4_invert 23 = .ok (.ineg, 1) := by decide +kernel
theorem dX4_invert_24 : decode cX4_invert 24 = .ok (.aload_n 0, 1) := by decide +kernel
theorem dX4_invert_25 : decode cX4_invert 25 = .ok (.getfield 24, 3) := by decide +kernel
theorem dX4_invert_28 : decode cX4_invert 28 = .ok (.imul, 1) := by decide +kernel
theorem dX4_invert_29 : decode cX4_invert 29 = .ok (.iload_n 1, 1) := by decide +kernel
theorem dX4_invert_30 : decode cX4_invert 30 = .ok (.aload_n 0, 1) := by decide +kernel
theorem dX4_invert_31 : decode cX4_invert 31 = .ok (.getfield 15, 3) := by decide +kernel
theorem dX4_invert_34 : decode cX4_invert 34 = .ok (.imul, 1) := by decide +kernel
theorem dX4_invert_35 : decode cX4_invert 35 = .ok (.invokevirtual 40, 3) := by decide +kernel
theorem dX4_invert_38 : decode cX4_invert 38 = .ok (.return_, 1) := by decide +kernel
theorem dX4_multiplyFromLeft_0 : decode cX4_multiplyFromLeft 0 = .ok (.aload_n 0, 1) := by decide +kernel
theorem dX4_multiplyFromLeft_1 : decode cX4_multiplyFromLeft 1 = .ok (.aload_n 1, 1) := by decide +kernel
theorem dX4_multiplyFromLeft_2 : decode cX4_multiplyFromLeft 2 = .ok (.getfield 15, 3) := by decide +kernel
theorem dX4_multiplyFromLeft_5 : decode cX4_multiplyFromLeft 5 = .ok (.aload_n 0, 1) := by decide +kernel
theorem dX4_multiplyFromLeft_6 : decode cX4_multiplyFromLeft 6 = .ok (.getfield 15, 3) := by decide +kernel
theorem dX4_multiplyFromLeft_9 : decode cX4_multiplyFromLeft 9 = .ok (.imul, 1) := by decide +kernel
theorem dX4_multiplyFromLeft_10 : decode cX4_multiplyFromLeft 10 = .ok (.aload_n 1, 1) := by decide +kernel
theorem dX4_multiplyFromLeft_11 : decode cX4_multiplyFromLeft 11 = .ok (.getfield 21, 3) := by decide +kernel
theorem dX4_multiplyFromLeft_14 : decode cX4_multiplyFromLeft 14 = .ok (.aload_n 0, 1) := by decide +kernel
theorem dX4_multiplyFromLeft_15 : decode cX4_multiplyFromLeft 15 = .ok (.getfield 24, 3) := by decide +kernel
theorem dX4_multiplyFromLeft_18 : decode cX4_multiplyFromLeft 18 = .ok (.imul, 1) := by decide +kernel
theorem dX4_multiplyFromLeft_19 : decode cX4_multiplyFromLeft 19 = .ok (.iadd, 1) := by decide +kernel
theorem dX4_multiplyFromLeft_20 : decode cX4_multiplyFromLeft 20 = .ok (.aload_n 1, 1) := by decide +kernel
theorem dX4_multiplyFromLeft_21 : decode cX4_multiplyFromLeft 21 = .ok (.getfield 15, 3) := by decide +kernel
theorem dX4_multiplyFromLeft_24 : decode cX4_multiplyFromLeft 24 = .ok (.aload_n 0, 1) := by decide +kernel
theorem dX4_multiplyFromLeft_25 : decode cX4_multiplyFromLeft 25 = .ok (.getfield 21, 3) := by decide +kernel
theorem dX4_multiplyFromLeft_28 : decode cX4_multiplyFromLeft 28 = .ok (.imul, 1) := by decide +kernel
theorem dX4_multiplyFromLeft_29 : decode cX4_multiplyFromLeft 29 = .ok (.aload_n 1, 1) := by decide +kernel
theorem dX4_multiplyFromLeft_30 : decode cX4_multiplyFromLeft 30 = .ok (.getfield 21, 3) := by decide +kernel
theorem dX4_multiplyFromLeft_33 : decode cX4_multiplyFromLeft 33 = .ok (.aload_n 0, 1) := by decide +kernel
theorem dX4_multiplyFromLeft_34 : decode cX4_multiplyFromLeft 34 = .ok (.getfield 27, 3) := by decide +kernel
theorem dX4_multiplyFromLeft_37 : decode cX4_multiplyFromLeft 37 = .ok (.imul, 1) := by decide +kernel
theorem dX4_multiplyFromLeft_38 : decode cX4_multiplyFromLeft 38 = .ok (.iadd, 1) := by decide +kernel
theorem dX4_multiplyFromLeft_39 : decode cX4_multiplyFromLeft 39 = .ok (.aload_n 1, 1) := by decide +kernel
theorem dX4_multiplyFromLeft_40 : decode cX4_multiplyFromLeft 40 = .ok (.getfield 24, 3) := by decide +kernel
theorem dX4_multiplyFromLeft_43 : decode cX4_multiplyFromLeft 43 = .ok (.aload_n 0, 1) := by decide +kernel
theorem dX4_multiplyFromLeft_44 : decode cX4_multiplyFromLeft 44 = .ok (.getfield 15, 3) := by decide +kernel
theorem dX4_multiplyFromLeft_47 : decode cX4_multiplyFromLeft 47 = .ok (.imul, 1) := by decide +kernel
theorem dX4_multiplyFromLeft_48 : decode cX4_multiplyFromLeft 48 = .ok (.aload_n 1, 1) := by decide +kernel
theorem dX4_multiplyFromLeft_49 : decode cX4_multiplyFromLeft 49 = .ok (.getfield 27, 3) := by decide +kernel
theorem dX4_multiplyFromLeft_52 : decode cX4_multiplyFromLeft 52 = .ok (.aload_n 0, 1) := by decide +kernel
theorem dX4_multiplyFromLeft_53 : decode cX4_multiplyFromLeft 53 = .ok (.getfield 24, 3) := by decide +kernel
theorem dX4_multiplyFromLeft_56 : decode cX4_multiplyFromLeft 56 = .ok (.imul, 1) := by decide +kernel
theorem dX4_multiplyFromLeft_57 : decode cX4_multiplyFromLeft 57 = .ok (.iadd, 1) := by decide +kernel
theorem dX4_multiplyFromLeft_58 : decode cX4_multiplyFromLeft 58 = .ok (.aload_n 1, 1) := by decide +kernel
theorem dX4_multiplyFromLeft_59 : decode cX4_multiplyFromLeft 59 = .ok (.getfield 24, 3) := by decide +kernel
theorem dX4_multiplyFromLeft_62 : decode cX4_multiplyFromLeft 62 = .ok (.aload_n 0, 1) := by decide +kernel
theorem dX4_multiplyFromLeft_63 : decode cX4_multiplyFromLeft 63 = .ok (.getfield 21, 3) := by decide +kernel
theorem dX4_multiplyFromLeft_66 : decode cX4_multiplyFromLeft 66 = .ok (.imul, 1) := by decide +kernel
theorem dX4_multiplyFromLeft_67 : decode cX4_multiplyFromLeft 67 = .ok (.aload_n 1, 1) := by decide +kernel
theorem dX4_multiplyFromLeft_68 : decode cX4_multiplyFromLeft 68 = .ok (.getfield 27, 3) := by decide +kernel
theorem dX4_multiplyFromLeft_71 : decode cX4_multiplyFromLeft 71 = .ok (.aload_n 0, 1) := by decide +kernel
theorem dX4_multiplyFromLeft_72 : decode cX4_multiplyFromLeft 72 = .ok (.getfield 27, 3) := by decide +kernel
theorem dX4_multiplyFromLeft_75 : decode cX4_multiplyFromLeft 75 = .ok (.imul, 1) := by decide +kernel
theorem dX4_multiplyFromLeft_76 : decode cX4_multiplyFromLeft 76 = .ok (.iadd, 1) := by decide +kernel
theorem dX4_multiplyFromLeft_77 : decode cX4_multiplyFromLeft 77 = .ok (.invokevirtual 40, 3) := by decide +kernel
theorem dX4_multiplyFromLeft_80 : decode cX4_multiplyFromLeft 80 = .ok (.return_, 1) := by decide +kernel
theorem dX5_power_0 : decode cX5_power 0 = .ok (.iconst 1, 1) := by decide +kernel
theorem dX5_power_1 : decode cX5_power 1 = .ok (.istore_n 2, 1) := by decide +kernel
theorem dX5_power_2 : decode cX5_power 2 = .ok (.iconst 0, 1) := by decide +kernel
theorem dX5_power_3 : decode cX5_power 3 = .ok (.istore_n 3, 1) := by decide +kernel
theorem dX5_power_4 : decode cX5_power 4 = .ok (.iload_n 3, 1) := by decide +kernel
theorem dX5_power_5 : decode cX5_power 5 = .ok (.iload_n 1, 1) := by decide +kernel
theorem dX5_power_6 : decode cX5_power 6 = .ok (.if_icmp .ge 13, 3) := by decide +kernel
theorem dX5_power_9 : decode cX5_power 9 = .ok (.iload_n 2, 1) := by decide +kernel
theorem dX5_power_10 : decode cX5_power 10 = .ok (.iload_n 0, 1) := by decide +kernel
theorem dX5_power_11 : decode cX5_power 11 = .ok (.imul, 1) := by decide +kernel
theorem dX5_power_12 : decode cX5_power 12 = .ok (.istore_n 2, 1) := by decide +kernel
theorem dX5_power_13 : decode cX5_power 13 = .ok (.iinc 3 1, 3) := by decide +kernel
theorem dX5_power_16 : decode cX5_power 16 = .ok (.goto (-12), 3) := by decide +kernel
theorem dX5_power_19 : decode cX5_power 19 = .ok (.iload_n 2, 1) := by decide +kernel
theorem dX5_power_20 : decode cX5_power 20 = .ok (.ireturn, 1) := by decide +kernel
theorem dX5_atMost_0 : decode cX5_atMost 0 = .ok (.iconst 0, 1) := by decide +kernel
theorem dX5_atMost_1 : decode cX5_atMost 1 = .ok (.istore_n 3, 1) := by decide +kernel
theorem dX5_atMost_2 : decode cX5_atMost 2 = .ok (.iconst 1, 1) := by decide +kernel
theorem dX5_atMost_3 : decode cX5_atMost 3 = .ok (.istore 4, 2) := by decide +kernel
theorem dX5_atMost_5 : decode cX5_atMost 5 = .ok (.iconst 0, 1) := by decide +kernel
theorem dX5_atMost_6 : decode cX5_atMost 6 = .ok (.istore 5, 2) := by decide +kernel
theorem dX5_atMost_8 : decode cX5_atMost 8 = .ok (.iload 5, 2) := by decide +kernel
theorem dX5_atMost_10 : decode cX5_atMost 10 = .ok (.iload_n 1, 1) := by decide +kernel
theorem dX5_atMost_11 : decode cX5_atMost 11 = .ok (.if_icmp .gt 53, 3) := by decide +kernel
theorem dX5_atMost_14 : decode cX5_atMost 14 = .ok (.iload 5, 2) := by decide +kernel
theorem dX5_atMost_16 : decode cX5_atMost 16 = .ok (.iload_n 2, 1) := by decide +kernel
theorem dX5_atMost_17 : decode cX5_atMost 17 = .ok (.if_icmp .gt 47, 3) := by decide +kernel
theorem dX5_atMost_20 : decode cX5_atMost 20 = .ok (.iload_n 3, 1) := by decide +kernel
theorem dX5_atMost_21 : decode cX5_atMost 21 = .ok (.iload 4, 2) := by decide +kernel
theorem dX5_atMost_23 : decode cX5_atMost 23 = .ok (.iload_n 0, 1) := by decide +kernel
theorem dX5_atMost_24 : decode cX5_atMost 24 = .ok (.iload 5, 2) := by decide +kernel
theorem dX5_atMost_26 : decode cX5_atMost 26 = .ok (.invokestatic 7, 3) := by decide +kernel
theorem dX5_atMost_29 : decode cX5_atMost 29 = .ok (.imul, 1) := by decide +kernel
theorem dX5_atMost_30 : decode cX5_atMost 30 = .ok (.bipush 10, 2) := by decide +kernel
theorem dX5_atMost_32 : decode cX5_atMost 32 = .ok (.iload_n 0, 1) := by decide +kernel
theorem dX5_atMost_33 : decode cX5_atMost 33 = .ok (.isub, 1) := by decide +kernel
theorem dX5_atMost_34 : decode cX5_atMost 34 = .ok (.iload_n 1, 1) := by decide +kernel
theorem dX5_atMost_35 : decode cX5_atMost 35 = .ok (.iload 5, 2) := by decide +kernel
theorem dX5_atMost_37 : decode cX5_atMost 37 = .ok (.isub, 1) := by decide +kernel
theorem dX5_atMost_38 : decode cX5_atMost 38 = .ok (.invokestatic 7, 3) := by decide +kernel
theorem dX5_atMost_41 : decode cX5_atMost 41 = .ok (.imul, 1) := by decide +kernel
theorem dX5_atMost_42 : decode cX5_atMost 42 = .ok (.iadd, 1) := by decide +kernel
theorem dX5_atMost_43 : decode cX5_atMost 43 = .ok (.istore_n 3, 1) := by decide +kernel
theorem dX5_atMost_44 : decode cX5_atMost 44 = .ok (.iload 4, 2) := by decide +kernel
theorem dX5_atMost_46 : decode cX5_atMost 46 = .ok (.iload_n 1, 1) := by decide +kernel
theorem dX5_atMost_47 : decode cX5_atMost 47 = .ok (.iload 5, 2) := by decide +kernel
theorem dX5_atMost_49 : decode cX5_atMost 49 = .ok (.isub, 1) := by decide +kernel
theorem dX5_atMost_50 : decode cX5_atMost 50 = .ok (.imul, 1) := by decide +kernel
theorem dX5_atMost_51 : decode cX5_atMost 51 = .ok (.iload 5, 2) := by decide +kernel
theorem dX5_atMost_53 : decode cX5_atMost 53 = .ok (.iconst 1, 1) := by decide +kernel
theorem dX5_atMost_54 : decode cX5_atMost 54 = .ok (.iadd, 1) := by decide +kernel
theorem dX5_atMost_55 : decode cX5_atMost 55 = .ok (.idiv, 1) := by decide +kernel
theorem dX5_atMost_56 : decode cX5_atMost 56 = .ok (.istore 4, 2) := by decide +kernel
theorem dX5_atMost_58 : decode cX5_atMost 58 = .ok (.iinc 5 1, 3) := by decide +kernel
theorem dX5_atMost_61 : decode cX5_atMost 61 = .ok (.goto (-53), 3) := by decide +kernel
theorem dX5_atMost_64 : decode cX5_atMost 64 = .ok (.iload_n 3, 1) := by decide +kernel
theorem dX5_atMost_65 : decode cX5_atMost 65 = .ok (.ireturn, 1) := by decide +kernel
theorem dX5_commonDivisor_0 : decode cX5_commonDivisor 0 = .ok (.iload_n 0, 1) := by decide +kernel
theorem dX5_commonDivisor_1 : decode cX5_commonDivisor 1 = .ok (.iconst 2, 1) := by decide +kernel
theorem dX5_commonDivisor_2 : decode cX5_commonDivisor 2 = .ok (.iload_n 1, 1) := by decide +kernel
theorem dX5_commonDivisor_3 : decode cX5_commonDivisor 3 = .ok (.invokestatic 13, 3) := by decide +kernel
theorem dX5_commonDivisor_6 : decode cX5_commonDivisor 6 = .ok (.iload_n 0, 1) := by decide +kernel
theorem dX5_commonDivisor_7 : decode cX5_commonDivisor 7 = .ok (.iconst 5, 1) := by decide +kernel
theorem dX5_commonDivisor_8 : decode cX5_commonDivisor 8 = .ok (.iload_n 1, 1) := by decide +kernel
theorem dX5_commonDivisor_9 : decode cX5_commonDivisor 9 = .ok (.invokestatic 13, 3) := by decide +kernel
theorem dX5_commonDivisor_12 : decode cX5_commonDivisor 12 = .ok (.imul, 1) := by decide +kernel
theorem dX5_commonDivisor_13 : decode cX5_commonDivisor 13 = .ok (.ireturn, 1) := by decide +kernel
theorem dX5_sharedPower_0 : decode cX5_sharedPower 0 = .ok (.iconst 1, 1) := by decide +kernel
theorem dX5_sharedPower_1 : decode cX5_sharedPower 1 = .ok (.istore_n 3, 1) := by decide +kernel
theorem dX5_sharedPower_2 : decode cX5_sharedPower 2 = .ok (.iconst 0, 1) := by decide +kernel
theorem dX5_sharedPower_3 : decode cX5_sharedPower 3 = .ok (.istore 4, 2) := by decide +kernel
theorem dX5_sharedPower_5 : decode cX5_sharedPower 5 = .ok (.iload 4, 2) := by decide +kernel
theorem dX5_sharedPower_7 : decode cX5_sharedPower 7 = .ok (.iload_n 2, 1) := by decide +kernel
theorem dX5_sharedPower_8 : decode cX5_sharedPower 8 = .ok (.if_icmp .ge 21, 3) := by decide +kernel
theorem dX5_sharedPower_11 : decode cX5_sharedPower 11 = .ok (.iload_n 0, 1) := by decide +kernel
theorem dX5_sharedPower_12 : decode cX5_sharedPower 12 = .ok (.iload_n 3, 1) := by decide +kernel
theorem dX5_sharedPower_13 : decode cX5_sharedPower 13 = .ok (.iload_n 1, 1) := by decide +kernel
theorem dX5_sharedPower_14 : decode cX5_sharedPower 14 = .ok (.imul, 1) := by decide +kernel
theorem dX5_sharedPower_15 : decode cX5_sharedPower 15 = .ok (.irem, 1) := by decide +kernel
theorem dX5_sharedPower_16 : decode cX5_sharedPower 16 = .ok (.ifCond .ne 13, 3) := by decide +kernel
theorem dX5_sharedPower_19 : decode cX5_sharedPower 19 = .ok (.iload_n 3, 1) := by decide +kernel
theorem dX5_sharedPower_20 : decode cX5_sharedPower 20 = .ok (.iload_n 1, 1) := by decide +kernel
theorem dX5_sharedPower_21 : decode cX5_sharedPower 21 = .ok (.imul, 1) := by decide +kernel
theorem dX5_sharedPower_22 : decode cX5_sharedPower 22 = .ok (.istore_n 3, 1) := by decide +kernel
theorem dX5_sharedPower_23 : decode cX5_sharedPower 23 = .ok (.iinc 4 1, 3) := by decide +kernel
theorem dX5_sharedPower_26 : decode cX5_sharedPower 26 = .ok (.goto (-21), 3) := by decide +kernel
theorem dX5_sharedPower_29 : decode cX5_sharedPower 29 = .ok (.iload_n 3, 1) := by decide +kernel
theorem dX5_sharedPower_30 : decode cX5_sharedPower 30 = .ok (.ireturn, 1) := by decide +kernel
theorem dX6_init_0 : decode cX6_init 0 = .ok (.aload_n 0, 1) := by decide +kernel
theorem dX6_init_1 : decode cX6_init 1 = .ok (.invokespecial 3, 3) := by decide +kernel
theorem dX6_init_4 : decode cX6_init 4 = .ok (.aload_n 0, 1) := by decide +kernel
theorem dX6_init_5 : decode cX6_init 5 = .ok (.bipush 6, 2) := by decide +kernel
theorem dX6_init_7 : decode cX6_init 7 = .ok (.newarray .int, 2) := by decide +kernel
theorem dX6_init_9 : decode cX6_init 9 = .ok (.putfield 9, 3) := by decide +kernel
theorem dX6_init_12 : decode cX6_init 12 = .ok (.aload_n 0, 1) := by decide +kernel
theorem dX6_init_13 : decode cX6_init 13 = .ok (.bipush 6, 2) := by decide +kernel
theorem dX6_init_15 : decode cX6_init 15 = .ok (.newarray .int, 2) := by decide +kernel
theorem dX6_init_17 : decode cX6_init 17 = .ok (.putfield 15, 3) := by decide +kernel
theorem dX6_init_20 : decode cX6_init 20 = .ok (.return_, 1) := by decide +kernel
theorem dX6_append_0 : decode cX6_append 0 = .ok (.aload_n 0, 1) := by decide +kernel
theorem dX6_append_1 : decode cX6_append 1 = .ok (.getfield 18, 3) := by decide +kernel
theorem dX6_append_4 : decode cX6_append 4 = .ok (.bipush 6, 2) := by decide +kernel
theorem dX6_append_6 : decode cX6_append 6 = .ok (.if_icmp .lt 5, 3) := by decide +kernel
theorem dX6_append_9 : decode cX6_append 9 = .ok (.iconst 0, 1) := by decide +kernel
theorem dX6_append_10 : decode cX6_append 10 = .ok (.ireturn, 1) := by decide +kernel
theorem dX6_append_11 : decode cX6_append 11 = .ok (.aload_n 0, 1) := by decide +kernel
theorem dX6_append_12 : decode cX6_append 12 = .ok (.getfield 9, 3) := by decide +kernel
theorem dX6_append_15 : decode cX6_append 15 = .ok (.aload_n 0, 1) := by decide +kernel
theorem dX6_append_16 : decode cX6_append 16 = .ok (.getfield 18, 3) := by decide +kernel
theorem dX6_append_19 : decode cX6_append 19 = .ok (.iload_n 1, 1) := by decide +kernel
theorem dX6_append_20 : decode cX6_append 20 = .ok (.iastore, 1) := by decide +kernel
theorem dX6_append_21 : decode cX6_append 21 = .ok (.aload_n 0, 1) := by decide +kernel
theorem dX6_append_22 : decode cX6_append 22 = .ok (.getfield 15, 3) := by decide +kernel
theorem dX6_append_25 : decode cX6_append 25 = .ok (.aload_n 0, 1) := by decide +kernel
theorem dX6_append_26 : decode cX6_append 26 = .ok (.getfield 18, 3) := by decide +kernel
theorem dX6_append_29 : decode cX6_append 29 = .ok (.iload_n 2, 1) := by decide +kernel
theorem dX6_append_30 : decode cX6_append 30 = .ok (.iastore, 1) := by decide +kernel
theorem dX6_append_31 : decode cX6_append 31 = .ok (.aload_n 0, 1) := by decide +kernel
theorem dX6_append_32 : decode cX6_append 32 = .ok (.dup, 1) := by decide +kernel
theorem dX6_append_33 : decode cX6_append 33 = .ok (.getfield 18, 3) := by decide +kernel
theorem dX6_append_36 : decode cX6_append 36 = .ok (.iconst 1, 1) := by decide +kernel
theorem dX6_append_37 : decode cX6_append 37 = .ok (.iadd, 1) := by decide +kernel
theorem dX6_append_38 : decode cX6_append 38 = .ok (.putfield 18, 3) := by decide +kernel
theorem dX6_append_41 : decode cX6_append 41 = .ok (.iconst 1, 1) := by decide +kernel
theorem dX6_append_42 : decode cX6_append 42 = .ok (.ireturn, 1) := by decide +kernel
theorem dX6_areTrueOf_0 : decode cX6_areTrueOf 0 = .ok (.iconst 0, 1) := by decide +kernel
theorem dX6_areTrueOf_1 : decode cX6_areTrueOf 1 = .ok (.istore_n 2, 1) := by decide +kernel
theorem dX6_areTrueOf_2 : decode cX6_areTrueOf 2 = .ok (.iload_n 2, 1) := by decide +kernel
theorem dX6_areTrueOf_3 : decode cX6_areTrueOf 3 = .ok (.aload_n 0, 1) := by decide +kernel
theorem dX6_areTrueOf_4 : decode cX6_areTrueOf 4 = .ok (.getfield 18, 3) := by decide +kernel
theorem dX6_areTrueOf_7 : decode cX6_areTrueOf 7 = .ok (.if_icmp .ge 34, 3) := by decide +kernel
theorem dX6_areTrueOf_10 : decode cX6_areTrueOf 10 = .ok (.aload_n 1, 1) := by decide +kernel
theorem dX6_areTrueOf_11 : decode cX6_areTrueOf 11 = .ok (.getfield 22, 3) := by decide +kernel
theorem dX6_areTrueOf_14 : decode cX6_areTrueOf 14 = .ok (.aload_n 0, 1) := by decide +kernel
theorem dX6_areTrueOf_15 : decode cX6_areTrueOf 15 = .ok (.getfield 9, 3) := by decide +kernel
theorem dX6_areTrueOf_18 : decode cX6_areTrueOf 18 = .ok (.iload_n 2, 1) := by decide +kernel
theorem dX6_areTrueOf_19 : decode cX6_areTrueOf 19 = .ok (.iaload, 1) := by decide +kernel
theorem dX6_areTrueOf_20 : decode cX6_areTrueOf 20 = .ok (.iaload, 1) := by decide +kernel
theorem dX6_areTrueOf_21 : decode cX6_areTrueOf 21 = .ok (.invokestatic 27, 3) := by decide +kernel
theorem dX6_areTrueOf_24 : decode cX6_areTrueOf 24 = .ok (.aload_n 0, 1) := by decide +kernel
theorem dX6_areTrueOf_25 : decode cX6_areTrueOf 25 = .ok (.getfield 15, 3) := by decide +kernel
theorem dX6_areTrueOf_28 : decode cX6_areTrueOf 28 = .ok (.iload_n 2, 1) := by decide +kernel
theorem dX6_areTrueOf_29 : decode cX6_areTrueOf 29 = .ok (.iaload, 1) := by decide +kernel
theorem dX6_areTrueOf_30 : decode cX6_areTrueOf 30 = .ok (.if_icmp .eq 5, 3) := by decide +kernel
theorem dX6_areTrueOf_33 : decode cX6_areTrueOf 33 = .ok (.iconst 0, 1) := by decide +kernel
theorem dX6_areTrueOf_34 : decode cX6_areTrueOf 34 = .ok (.ireturn, 1) := by decide +kernel
theorem dX6_areTrueOf_35 : decode cX6_areTrueOf 35 = .ok (.iinc 2 1, 3) := by decide +kernel
theorem dX6_areTrueOf_38 : decode cX6_areTrueOf 38 = .ok (.goto (-36), 3) := by decide +kernel
theorem dX6_areTrueOf_41 : decode cX6_areTrueOf 41 = .ok (.iconst 1, 1) := by decide +kernel
theorem dX6_areTrueOf_42 : decode cX6_areTrueOf 42 = .ok (.ireturn, 1) := by decide +kernel
theorem dX7_init_0 : decode cX7_init 0 = .ok (.aload_n 0, 1) := by decide +kernel
theorem dX7_init_1 : decode cX7_init 1 = .ok (.invokespecial 3, 3) := by decide +kernel
theorem dX7_init_4 : decode cX7_init 4 = .ok (.aload_n 0, 1) := by decide +kernel
theorem dX7_init_5 : decode cX7_init 5 = .ok (.bipush 32, 2) := by decide +kernel
theorem dX7_init_7 : decode cX7_init 7 = .ok (.newarray .int, 2) := by decide +kernel
theorem dX7_init_9 : decode cX7_init 9 = .ok (.putfield 9, 3) := by decide +kernel
theorem dX7_init_12 : decode cX7_init 12 = .ok (.aload_n 0, 1) := by decide +kernel
theorem dX7_init_13 : decode cX7_init 13 = .ok (.sipush 4369, 3) := by decide +kernel
theorem dX7_init_16 : decode cX7_init 16 = .ok (.putfield 15, 3) := by decide +kernel
theorem dX7_init_19 : decode cX7_init 19 = .ok (.aload_n 0, 1) := by decide +kernel
theorem dX7_init_20 : decode cX7_init 20 = .ok (.new 19, 3) := by decide +kernel
theorem dX7_init_23 : decode cX7_init 23 = .ok (.dup, 1) := by decide +kernel
theorem dX7_init_24 : decode cX7_init 24 = .ok (.bipush 6, 2) := by decide +kernel
theorem dX7_init_26 : decode cX7_init 26 = .ok (.invokespecial 21, 3) := by decide +kernel
theorem dX7_init_29 : decode cX7_init 29 = .ok (.putfield 24, 3) := by decide +kernel
theorem dX7_init_32 : decode cX7_init 32 = .ok (.aload_n 0, 1) := by decide +kernel
theorem dX7_init_33 : decode cX7_init 33 = .ok (.new 19, 3) := by decide +kernel
theorem dX7_init_36 : decode cX7_init 36 = .ok (.dup, 1) := by decide +kernel
theorem dX7_init_37 : decode cX7_init 37 = .ok (.iconst 4, 1) := by decide +kernel
theorem dX7_init_38 : decode cX7_init 38 = .ok (.invokespecial 21, 3) := by decide +kernel
theorem dX7_init_41 : decode cX7_init 41 = .ok (.putfield 28, 3) := by decide +kernel
theorem dX7_init_44 : decode cX7_init 44 = .ok (.return_, 1) := by decide +kernel
theorem dX7_tellNothing_0 : decode cX7_tellNothing 0 = .ok (.aload_n 0, 1) := by decide +kernel
theorem dX7_tellNothing_1 : decode cX7_tellNothing 1 = .ok (.getfield 9, 3) := by decide +kernel
theorem dX7_tellNothing_4 : decode cX7_tellNothing 4 = .ok (.iconst 0, 1) := by decide +kernel
theorem dX7_tellNothing_5 : decode cX7_tellNothing 5 = .ok (.invokestatic 31, 3) := by decide +kernel
theorem dX7_tellNothing_8 : decode cX7_tellNothing 8 = .ok (.aload_n 0, 1) := by decide +kernel
theorem dX7_tellNothing_9 : decode cX7_tellNothing 9 = .ok (.sipush 4369, 3) := by decide +kernel
theorem dX7_tellNothing_12 : decode cX7_tellNothing 12 = .ok (.putfield 15, 3) := by decide +kernel
theorem dX7_tellNothing_15 : decode cX7_tellNothing 15 = .ok (.aload_n 0, 1) := by decide +kernel
theorem dX7_tellNothing_16 : decode cX7_tellNothing 16 = .ok (.getfield 24, 3) := by decide +kernel
theorem dX7_tellNothing_19 : decode cX7_tellNothing 19 = .ok (.iconst 0, 1) := by decide +kernel
theorem dX7_tellNothing_20 : decode cX7_tellNothing 20 = .ok (.putfield 37, 3) := by decide +kernel
theorem dX7_tellNothing_23 : decode cX7_tellNothing 23 = .ok (.return_, 1) := by decide +kernel
theorem dX7_emptyRow_0 : decode cX7_emptyRow 0 = .ok (.iconst 0, 1) := by decide +kernel
theorem dX7_emptyRow_1 : decode cX7_emptyRow 1 = .ok (.istore_n 2, 1) := by decide +kernel
theorem dX7_emptyRow_2 : decode cX7_emptyRow 2 = .ok (.iload_n 2, 1) := by decide +kernel
theorem dX7_emptyRow_3 : decode cX7_emptyRow 3 = .ok (.bipush 16, 2) := by decide +kernel
theorem dX7_emptyRow_5 : decode cX7_emptyRow 5 = .ok (.if_icmp .ge 21, 3) := by decide +kernel
theorem dX7_emptyRow_8 : decode cX7_emptyRow 8 = .ok (.aload_n 0, 1) := by decide +kernel
theorem dX7_emptyRow_9 : decode cX7_emptyRow 9 = .ok (.getfield 9, 3) := by decide +kernel
theorem dX7_emptyRow_12 : decode cX7_emptyRow 12 = .ok (.iload_n 1, 1) := by decide +kernel
theorem dX7_emptyRow_13 : decode cX7_emptyRow 13 = .ok (.bipush 16, 2) := by decide +kernel
theorem dX7_emptyRow_15 : decode cX7_emptyRow 15 = .ok (.imul, 1) := by decide +kernel
theorem dX7_emptyRow_16 : decode cX7_emptyRow 16 = .ok (.iload_n 2, 1) := by decide +kernel
theorem dX7_emptyRow_17 : decode cX7_emptyRow 17 = .ok (.iadd, 1) := by decide +kernel
theorem dX7_emptyRow_18 : decode cX7_emptyRow 18 = .ok (.iconst 0, 1) := by decide +kernel
theorem dX7_emptyRow_19 : decode cX7_emptyRow 19 = .ok (.iastore, 1) := by decide +kernel
theorem dX7_emptyRow_20 : decode cX7_emptyRow 20 = .ok (.iinc 2 1, 3) := by decide +kernel
theorem dX7_emptyRow_23 : decode cX7_emptyRow 23 = .ok (.goto (-21), 3) := by decide +kernel
theorem dX7_emptyRow_26 : decode cX7_emptyRow 26 = .ok (.return_, 1) := by decide +kernel
theorem dX7_isMarked_0 : decode cX7_isMarked 0 = .ok (.aload_n 0, 1) := by decide +kernel
theorem dX7_isMarked_1 : decode cX7_isMarked 1 = .ok (.getfield 15, 3) := by decide +kernel
theorem dX7_isMarked_4 : decode cX7_isMarked 4 = .ok (.iload_n 1, 1) := by decide +kernel
theorem dX7_isMarked_5 : decode cX7_isMarked 5 = .ok (.ishr, 1) := by decide +kernel
theorem dX7_isMarked_6 : decode cX7_isMarked 6 = .ok (.iconst 1, 1) := by decide +kernel
theorem dX7_isMarked_7 : decode cX7_isMarked 7 = .ok (.iand, 1) := by decide +kernel
theorem dX7_isMarked_8 : decode cX7_isMarked 8 = .ok (.iconst 1, 1) := by decide +kernel
theorem dX7_isMarked_9 : decode cX7_isMarked 9 = .ok (.if_icmp .ne 7, 3) := by decide +kernel
theorem dX7_isMarked_12 : decode cX7_isMarked 12 = .ok (.iconst 1, 1) := by decide +kernel
theorem dX7_isMarked_13 : decode cX7_isMarked 13 = .ok (.goto 4, 3) := by decide +kernel
theorem dX7_isMarked_16 : decode cX7_isMarked 16 = .ok (.iconst 0, 1) := by decide +kernel
theorem dX7_isMarked_17 : decode cX7_isMarked 17 = .ok (.ireturn, 1) := by decide +kernel
theorem dX7_mark_0 : decode cX7_mark 0 = .ok (.iconst 1, 1) := by decide +kernel
theorem dX7_mark_1 : decode cX7_mark 1 = .ok (.iload_n 1, 1) := by decide +kernel
theorem dX7_mark_2 : decode cX7_mark 2 = .ok (.ishl, 1) := by decide +kernel
theorem dX7_mark_3 : decode cX7_mark 3 = .ok (.istore_n 3, 1) := by decide +kernel
theorem dX7_mark_4 : decode cX7_mark 4 = .ok (.aload_n 0, 1) := by decide +kernel
theorem dX7_mark_5 : decode cX7_mark 5 = .ok (.iload_n 2, 1) := by decide +kernel
theorem dX7_mark_6 : decode cX7_mark 6 = .ok (.ifCond .eq 12, 3) := by decide +kernel
theorem dX7_mark_9 : decode cX7_mark 9 = .ok (.aload_n 0, 1) := by decide +kernel
theorem dX7_mark_10 : decode cX7_mark 10 = .ok (.getfield 15, 3) := by decide +kernel
theorem dX7_mark_13 : decode cX7_mark 13 = .ok (.iload_n 3, 1) := by decide +kernel
theorem dX7_mark_14 : decode cX7_mark 14 = .ok (.ior, 1) := by decide +kernel
theorem dX7_mark_15 : decode cX7_mark 15 = .ok (.goto 11, 3) := by decide +kernel
theorem dX7_mark_18 : decode cX7_mark 18 = .ok (.aload_n 0, 1) := by decide +kernel
theorem dX7_mark_19 : decode cX7_mark 19 = .ok (.getfield 15, 3) := by decide +kernel
theorem dX7_mark_22 : decode cX7_mark 22 = .ok (.iload_n 3, 1) := by decide +kernel
theorem dX7_mark_23 : decode cX7_mark 23 = .ok (.iconst (-1), 1) := by decide +kernel
theorem dX7_mark_24 : decode cX7_mark 24 = .ok (.ixor, 1) := by decide +kernel
theorem dX7_mark_25 : decode cX7_mark 25 = .ok (.iand, 1) := by decide +kernel
theorem dX7_mark_26 : decode cX7_mark 26 = .ok (.putfield 15, 3) := by decide +kernel
theorem dX7_mark_29 : decode cX7_mark 29 = .ok (.return_, 1) := by decide +kernel
theorem dX7_firstMarked_0 : decode cX7_firstMarked 0 = .ok (.iconst 0, 1) := by decide +kernel
theorem dX7_firstMarked_1 : decode cX7_firstMarked 1 = .ok (.istore_n 1, 1) := by decide +kernel
theorem dX7_firstMarked_2 : decode cX7_firstMarked 2 = .ok (.iload_n 1, 1) := by decide +kernel
theorem dX7_firstMarked_3 : decode cX7_firstMarked 3 = .ok (.bipush 16, 2) := by decide +kernel
theorem dX7_firstMarked_5 : decode cX7_firstMarked 5 = .ok (.if_icmp .ge 19, 3) := by decide +kernel
theorem dX7_firstMarked_8 : decode cX7_firstMarked 8 = .ok (.aload_n 0, 1) := by decide +kernel
theorem dX7_firstMarked_9 : decode cX7_firstMarked 9 = .ok (.iload_n 1, 1) := by decide +kernel
theorem dX7_firstMarked_10 : decode cX7_firstMarked 10 = .ok (.invokevirtual 40, 3) := by decide +kernel
theorem dX7_firstMarked_13 : decode cX7_firstMarked 13 = .ok (.ifCond .eq 5, 3) := by decide +kernel
theorem dX7_firstMarked_16 : decode cX7_firstMarked 16 = .ok (.iload_n 1, 1) := by decide +kernel
theorem dX7_firstMarked_17 : decode cX7_firstMarked 17 = .ok (.ireturn, 1) := by decide +kernel
theorem dX7_firstMarked_18 : decode cX7_firstMarked 18 = .ok (.iinc 1 1, 3) := by decide +kernel
theorem dX7_firstMarked_21 : decode cX7_firstMarked 21 = .ok (.goto (-19), 3) := by decide +kernel
theorem dX7_firstMarked_24 : decode cX7_firstMarked 24 = .ok (.bipush (-9), 2) := by decide +kernel
theorem dX7_firstMarked_26 : decode cX7_firstMarked 26 = .ok (.ireturn, 1) := by decide +kernel
theorem dX7_takeFrom_0 : decode cX7_takeFrom 0 = .ok (.aload_n 1, 1) := by decide +kernel
theorem dX7_takeFrom_1 : decode cX7_takeFrom 1 = .ok (.getfield 9, 3) := by decide +kernel
theorem dX7_takeFrom_4 : decode cX7_takeFrom 4 = .ok (.iconst 0, 1) := by decide +kernel
theorem dX7_takeFrom_5 : decode cX7_takeFrom 5 = .ok (.aload_n 0, 1) := by decide +kernel
theorem dX7_takeFrom_6 : decode cX7_takeFrom 6 = .ok (.getfield 9, 3) := by decide +kernel
theorem dX7_takeFrom_9 : decode cX7_takeFrom 9 = .ok (.iconst 0, 1) := by decide +kernel
theorem dX7_takeFrom_10 : decode cX7_takeFrom 10 = .ok (.bipush 32, 2) := by decide +kernel
theorem dX7_takeFrom_12 : decode cX7_takeFrom 12 = .ok (.invokestatic 44, 3) := by decide +kernel
theorem dX7_takeFrom_15 : decode cX7_takeFrom 15 = .ok (.aload_n 0, 1) := by decide +kernel
theorem dX7_takeFrom_16 : decode cX7_takeFrom 16 = .ok (.aload_n 1, 1) := by decide +kernel
theorem dX7_takeFrom_17 : decode cX7_takeFrom 17 = .ok (.getfield 15, 3) := by decide +kernel
theorem dX7_takeFrom_20 : decode cX7_takeFrom 20 = .ok (.putfield 15, 3) := by decide +kernel
theorem dX7_takeFrom_23 : decode cX7_takeFrom 23 = .ok (.aload_n 0, 1) := by decide +kernel
theorem dX7_takeFrom_24 : decode cX7_takeFrom 24 = .ok (.getfield 24, 3) := by decide +kernel
theorem dX7_takeFrom_27 : decode cX7_takeFrom 27 = .ok (.aload_n 1, 1) := by decide +kernel
theorem dX7_takeFrom_28 : decode cX7_takeFrom 28 = .ok (.getfield 24, 3) := by decide +kernel
theorem dX7_takeFrom_31 : decode cX7_takeFrom 31 = .ok (.invokevirtual 50, 3) := by decide +kernel
theorem dX7_takeFrom_34 : decode cX7_takeFrom 34 = .ok (.aload_n 0, 1) := by decide +kernel
theorem dX7_takeFrom_35 : decode cX7_takeFrom 35 = .ok (.getfield 28, 3) := by decide +kernel
theorem dX7_takeFrom_38 : decode cX7_takeFrom 38 = .ok (.aload_n 1, 1) := by decide +kernel
theorem dX7_takeFrom_39 : decode cX7_takeFrom 39 = .ok (.getfield 28, 3) := by decide +kernel
theorem dX7_takeFrom_42 : decode cX7_takeFrom 42 = .ok (.invokevirtual 50, 3) := by decide +kernel
theorem dX7_takeFrom_45 : decode cX7_takeFrom 45 = .ok (.aload_n 0, 1) := by decide +kernel
theorem dX7_takeFrom_46 : decode cX7_takeFrom 46 = .ok (.aload_n 1, 1) := by decide +kernel
theorem dX7_takeFrom_47 : decode cX7_takeFrom 47 = .ok (.getfield 54, 3) := by decide +kernel
theorem dX7_takeFrom_50 : decode cX7_takeFrom 50 = .ok (.putfield 54, 3) := by decide +kernel
theorem dX7_takeFrom_53 : decode cX7_takeFrom 53 = .ok (.aload_n 0, 1) := by decide +kernel
theorem dX7_takeFrom_54 : decode cX7_takeFrom 54 = .ok (.aload_n 1, 1) := by decide +kernel
theorem dX7_takeFrom_55 : decode cX7_takeFrom 55 = .ok (.getfield 58, 3) := by decide +kernel
theorem dX7_takeFrom_58 : decode cX7_takeFrom 58 = .ok (.putfield 58, 3) := by decide +kernel
theorem dX7_takeFrom_61 : decode cX7_takeFrom 61 = .ok (.return_, 1) := by decide +kernel
theorem dX8_init_0 : decode cX8_init 0 = .ok (.aload_n 0, 1) := by decide +kernel
theorem dX8_init_1 : decode cX8_init 1 = .ok (.invokespecial 3, 3) := by decide +kernel
theorem dX8_init_4 : decode cX8_init 4 = .ok (.aload_n 0, 1) := by decide +kernel
theorem dX8_init_5 : decode cX8_init 5 = .ok (.bipush 30, 2) := by decide +kernel
theorem dX8_init_7 : decode cX8_init 7 = .ok (.newarray .int, 2) := by decide +kernel
theorem dX8_init_9 : decode cX8_init 9 = .ok (.putfield 11, 3) := by decide +kernel
theorem dX8_init_12 : decode cX8_init 12 = .ok (.aload_n 0, 1) := by decide +kernel
theorem dX8_init_13 : decode cX8_init 13 = .ok (.iload_n 1, 1) := by decide +kernel
theorem dX8_init_14 : decode cX8_init 14 = .ok (.bipush 6, 2) := by decide +kernel
theorem dX8_init_16 : decode cX8_init 16 = .ok (.invokestatic 15, 3) := by decide +kernel
theorem dX8_init_19 : decode cX8_init 19 = .ok (.putfield 21, 3) := by decide +kernel
theorem dX8_init_22 : decode cX8_init 22 = .ok (.return_, 1) := by decide +kernel
theorem dX8_isPossible_0 : decode cX8_isPossible 0 = .ok (.iconst 0, 1) := by decide +kernel
theorem dX8_isPossible_1 : decode cX8_isPossible 1 = .ok (.istore_n 2, 1) := by decide +kernel
theorem dX8_isPossible_2 : decode cX8_isPossible 2 = .ok (.iload_n 2, 1) := by decide +kernel
theorem dX8_isPossible_3 : decode cX8_isPossible 3 = .ok (.iconst 5, 1) := by decide +kernel
theorem dX8_isPossible_4 : decode cX8_isPossible 4 = .ok (.if_icmp .ge 23, 3) := by decide +kernel
theorem dX8_isPossible_7 : decode cX8_isPossible 7 = .ok (.aload_n 0, 1) := by decide +kernel
theorem dX8_isPossible_8 : decode cX8_isPossible 8 = .ok (.aload_n 1, 1) := by decide +kernel
theorem dX8_isPossible_9 : decode cX8_isPossible 9 = .ok (.iload_n 2, 1) := by decide +kernel
theorem dX8_isPossible_10 : decode cX8_isPossible 10 = .ok (.aload_n 1, 1) := by decide +kernel
theorem dX8_isPossible_11 : decode cX8_isPossible 11 = .ok (.iload_n 2, 1) := by decide +kernel
theorem dX8_isPossible_12 : decode cX8_isPossible 12 = .ok (.iaload, 1) := by decide +kernel
theorem dX8_isPossible_13 : decode cX8_isPossible 13 = .ok (.invokestatic 25, 3) := by decide +kernel
theorem dX8_isPossible_16 : decode cX8_isPossible 16 = .ok (.ifCond .ne 5, 3) := by decide +kernel
theorem dX8_isPossible_19 : decode cX8_isPossible 19 = .ok (.iconst 0, 1) := by decide +kernel
theorem dX8_isPossible_20 : decode cX8_isPossible 20 = .ok (.ireturn, 1) := by decide +kernel
theorem dX8_isPossible_21 : decode cX8_isPossible 21 = .ok (.iinc 2 1, 3) := by decide +kernel
theorem dX8_isPossible_24 : decode cX8_isPossible 24 = .ok (.goto (-22), 3) := by decide +kernel
theorem dX8_isPossible_27 : decode cX8_isPossible 27 = .ok (.iconst 1, 1) := by decide +kernel
theorem dX8_isPossible_28 : decode cX8_isPossible 28 = .ok (.ireturn, 1) := by decide +kernel
theorem dX8_allows_0 : decode cX8_allows 0 = .ok (.iload_n 2, 1) := by decide +kernel
theorem dX8_allows_1 : decode cX8_allows 1 = .ok (.ifCond .ne 18, 3) := by decide +kernel
theorem dX8_allows_4 : decode cX8_allows 4 = .ok (.iload_n 3, 1) := by decide +kernel
theorem dX8_allows_5 : decode cX8_allows 5 = .ok (.ifCond .lt 12, 3) := by decide +kernel
theorem dX8_allows_8 : decode cX8_allows 8 = .ok (.iload_n 3, 1) := by decide +kernel
theorem dX8_allows_9 : decode cX8_allows 9 = .ok (.iconst 5, 1) := by decide +kernel
theorem dX8_allows_10 : decode cX8_allows 10 = .ok (.if_icmp .ge 7, 3) := by decide +kernel
theorem dX8_allows_13 : decode cX8_allows 13 = .ok (.iconst 1, 1) := by decide +kernel
theorem dX8_allows_14 : decode cX8_allows 14 = .ok (.goto 4, 3) := by decide +kernel
theorem dX8_allows_17 : decode cX8_allows 17 = .ok (.iconst 0, 1) := by decide +kernel
theorem dX8_allows_18 : decode cX8_allows 18 = .ok (.ireturn, 1) := by decide +kernel
theorem dX8_allows_19 : decode cX8_allows 19 = .ok (.aload_n 1, 1) := by decide +kernel
theorem dX8_allows_20 : decode cX8_allows 20 = .ok (.iconst 0, 1) := by decide +kernel
theorem dX8_allows_21 : decode cX8_allows 21 = .ok (.iaload, 1) := by decide +kernel
theorem dX8_allows_22 : decode cX8_allows 22 = .ok (.istore 4, 2) := by decide +kernel
theorem dX8_allows_24 : decode cX8_allows 24 = .ok (.bipush 8, 2) := by decide +kernel
theorem dX8_allows_26 : decode cX8_allows 26 = .ok (.iload 4, 2) := by decide +kernel
theorem dX8_allows_28 : decode cX8_allows 28 = .ok (.imul, 1) := by decide +kernel
theorem dX8_allows_29 : decode cX8_allows 29 = .ok (.iconst 2, 1) := by decide +kernel
theorem dX8_allows_30 : decode cX8_allows 30 = .ok (.iload_n 2, 1) := by decide +kernel
theorem dX8_allows_31 : decode cX8_allows 31 = .ok (.iconst 1, 1) := by decide +kernel
theorem dX8_allows_32 : decode cX8_allows 32 = .ok (.isub, 1) := by decide +kernel
theorem dX8_allows_33 : decode cX8_allows 33 = .ok (.imul, 1) := by decide +kernel
theorem dX8_allows_34 : decode cX8_allows 34 = .ok (.iadd, 1) := by decide +kernel
theorem dX8_allows_35 : decode cX8_allows 35 = .ok (.istore 5, 2) := by decide +kernel
theorem dX8_allows_37 : decode cX8_allows 37 = .ok (.iload_n 3, 1) := by decide +kernel
theorem dX8_allows_38 : decode cX8_allows 38 = .ok (.aload_n 0, 1) := by decide +kernel
theorem dX8_allows_39 : decode cX8_allows 39 = .ok (.iload 5, 2) := by decide +kernel
theorem dX8_allows_41 : decode cX8_allows 41 = .ok (.iaload, 1) := by decide +kernel
theorem dX8_allows_42 : decode cX8_allows 42 = .ok (.if_icmp .lt 13, 3) := by decide +kernel
theorem dX8_allows_45 : decode cX8_allows 45 = .ok (.iload_n 3, 1) := by decide +kernel
theorem dX8_allows_46 : decode cX8_allows 46 = .ok (.aload_n 0, 1) := by decide +kernel
theorem dX8_allows_47 : decode cX8_allows 47 = .ok (.iload 5, 2) := by decide +kernel
theorem dX8_allows_49 : decode cX8_allows 49 = .ok (.iconst 1, 1) := by decide +kernel
theorem dX8_allows_50 : decode cX8_allows 50 = .ok (.iadd, 1) := by decide +kernel
theorem dX8_allows_51 : decode cX8_allows 51 = .ok (.iaload, 1) := by decide +kernel
theorem dX8_allows_52 : decode cX8_allows 52 = .ok (.if_icmp .le 5, 3) := by decide +kernel
theorem dX8_allows_55 : decode cX8_allows 55 = .ok (.iconst 0, 1) := by decide +kernel
theorem dX8_allows_56 : decode cX8_allows 56 = .ok (.ireturn, 1) := by decide +kernel
theorem dX8_allows_57 : decode cX8_allows 57 = .ok (.iload 4, 2) := by decide +kernel
theorem dX8_allows_59 : decode cX8_allows 59 = .ok (.ifCond .ne 24, 3) := by decide +kernel
theorem dX8_allows_62 : decode cX8_allows 62 = .ok (.iload_n 2, 1) := by decide +kernel
theorem dX8_allows_63 : decode cX8_allows 63 = .ok (.iconst 1, 1) := by decide +kernel
theorem dX8_allows_64 : decode cX8_allows 64 = .ok (.if_icmp .ne 19, 3) := by decide +kernel
theorem dX8_allows_67 : decode cX8_allows 67 = .ok (.iload_n 3, 1) := by decide +kernel
theorem dX8_allows_68 : decode cX8_allows 68 = .ok (.bipush 16, 2) := by decide +kernel
theorem dX8_allows_70 : decode cX8_allows 70 = .ok (.invokestatic 29, 3) := by decide +kernel
theorem dX8_allows_73 : decode cX8_allows 73 = .ok (.iconst 1, 1) := by decide +kernel
theorem dX8_allows_74 : decode cX8_allows 74 = .ok (.if_icmp .eq 7, 3) := by decide +kernel
theorem dX8_allows_77 : decode cX8_allows 77 = .ok (.iconst 1, 1) := by decide +kernel
theorem dX8_allows_78 : decode cX8_allows 78 = .ok (.goto 4, 3) := by decide +kernel
theorem dX8_allows_81 : decode cX8_allows 81 = .ok (.iconst 0, 1) := by decide +kernel
theorem dX8_allows_82 : decode cX8_allows 82 = .ok (.ireturn, 1) := by decide +kernel
theorem dX8_allows_83 : decode cX8_allows 83 = .ok (.iload 4, 2) := by decide +kernel
theorem dX8_allows_85 : decode cX8_allows 85 = .ok (.iconst 1, 1) := by decide +kernel
theorem dX8_allows_86 : decode cX8_allows 86 = .ok (.if_icmp .ne 35, 3) := by decide +kernel
theorem dX8_allows_89 : decode cX8_allows 89 = .ok (.iload_n 2, 1) := by decide +kernel
theorem dX8_allows_90 : decode cX8_allows 90 = .ok (.iconst 4, 1) := by decide +kernel
theorem dX8_allows_91 : decode cX8_allows 91 = .ok (.if_icmp .ne 30, 3) := by decide +kernel
theorem dX8_allows_94 : decode cX8_allows 94 = .ok (.aload_n 1, 1) := by decide +kernel
theorem dX8_allows_95 : decode cX8_allows 95 = .ok (.iconst 1, 1) := by decide +kernel
theorem dX8_allows_96 : decode cX8_allows 96 = .ok (.iaload, 1) := by decide +kernel
theorem dX8_allows_97 : decode cX8_allows 97 = .ok (.iload_n 3, 1) := by decide +kernel
theorem dX8_allows_98 : decode cX8_allows 98 = .ok (.imul, 1) := by decide +kernel
theorem dX8_allows_99 : decode cX8_allows 99 = .ok (.aload_n 1, 1) := by decide +kernel
theorem dX8_allows_100 : decode cX8_allows 100 = .ok (.iconst 2, 1) := by decide +kernel
theorem dX8_allows_101 : decode cX8_allows 101 = .ok (.iaload, 1) := by decide +kernel
theorem dX8_allows_102 : decode cX8_allows 102 = .ok (.aload_n 1, 1) := by decide +kernel
theorem dX8_allows_103 : decode cX8_allows 103 = .ok (.iconst 3, 1) := by decide +kernel
theorem dX8_allows_104 : decode cX8_allows 104 = .ok (.iaload, 1) := by decide +kernel
theorem dX8_allows_105 : decode cX8_allows 105 = .ok (.imul, 1) := by decide +kernel
theorem dX8_allows_106 : decode cX8_allows 106 = .ok (.isub, 1) := by decide +kernel
theorem dX8_allows_107 : decode cX8_allows 107 = .ok (.bipush 97, 2) := by decide +kernel
theorem dX8_allows_109 : decode cX8_allows 109 = .ok (.invokestatic 34, 3) := by decide +kernel
theorem dX8_allows_112 : decode cX8_allows 112 = .ok (.ifCond .eq 7, 3) := by decide +kernel
theorem dX8_allows_115 : decode cX8_allows 115 = .ok (.iconst 1, 1) := by decide +kernel
theorem dX8_allows_116 : decode cX8_allows 116 = .ok (.goto 4, 3) := by decide +kernel
theorem dX8_allows_119 : decode cX8_allows 119 = .ok (.iconst 0, 1) := by decide +kernel
theorem dX8_allows_120 : decode cX8_allows 120 = .ok (.ireturn, 1) := by decide +kernel
theorem dX8_allows_121 : decode cX8_allows 121 = .ok (.iconst 1, 1) := by decide +kernel
theorem dX8_allows_122 : decode cX8_allows 122 = .ok (.ireturn, 1) := by decide +kernel
theorem dX8_isFull_0 : decode cX8_isFull 0 = .ok (.aload_n 0, 1) := by decide +kernel
theorem dX8_isFull_1 : decode cX8_isFull 1 = .ok (.getfield 37, 3) := by decide +kernel
theorem dX8_isFull_4 : decode cX8_isFull 4 = .ok (.aload_n 0, 1) := by decide +kernel
theorem dX8_isFull_5 : decode cX8_isFull 5 = .ok (.getfield 21, 3) := by decide +kernel
theorem dX8_isFull_8 : decode cX8_isFull 8 = .ok (.if_icmp .lt 7, 3) := by decide +kernel
theorem dX8_isFull_11 : decode cX8_isFull 11 = .ok (.iconst 1, 1) := by decide +kernel
theorem dX8_isFull_12 : decode cX8_isFull 12 = .ok (.goto 4, 3) := by decide +kernel
theorem dX8_isFull_15 : decode cX8_isFull 15 = .ok (.iconst 0, 1) := by decide +kernel
theorem dX8_isFull_16 : decode cX8_isFull 16 = .ok (.ireturn, 1) := by decide +kernel
theorem dX8_append_0 : decode cX8_append 0 = .ok (.aload_n 0, 1) := by decide +kernel
theorem dX8_append_1 : decode cX8_append 1 = .ok (.invokevirtual 40, 3) := by decide +kernel
theorem dX8_append_4 : decode cX8_append 4 = .ok (.ifCond .ne 29, 3) := by decide +kernel
theorem dX8_append_7 : decode cX8_append 7 = .ok (.aload_n 1, 1) := by decide +kernel
theorem dX8_append_8 : decode cX8_append 8 = .ok (.iconst 0, 1) := by decide +kernel
theorem dX8_append_9 : decode cX8_append 9 = .ok (.aload_n 0, 1) := by decide +kernel
theorem dX8_append_10 : decode cX8_append 10 = .ok (.getfield 11, 3) := by decide +kernel
theorem dX8_append_13 : decode cX8_append 13 = .ok (.aload_n 0, 1) := by decide +kernel
theorem dX8_append_14 : decode cX8_append 14 = .ok (.getfield 37, 3) := by decide +kernel
theorem dX8_append_17 : decode cX8_append 17 = .ok (.iconst 5, 1) := by decide +kernel
theorem dX8_append_18 : decode cX8_append 18 = .ok (.imul, 1) := by decide +kernel
theorem dX8_append_19 : decode cX8_append 19 = .ok (.iconst 5, 1) := by decide +kernel
theorem dX8_append_20 : decode cX8_append 20 = .ok (.invokestatic 44, 3) := by decide +kernel
theorem dX8_append_23 : decode cX8_append 23 = .ok (.aload_n 0, 1) := by decide +kernel
theorem dX8_append_24 : decode cX8_append 24 = .ok (.dup, 1) := by decide +kernel
theorem dX8_append_25 : decode cX8_append 25 = .ok (.getfield 37, 3) := by decide +kernel
theorem dX8_append_28 : decode cX8_append 28 = .ok (.iconst 1, 1) := by decide +kernel
theorem dX8_append_29 : decode cX8_append 29 = .ok (.iadd, 1) := by decide +kernel
theorem dX8_append_30 : decode cX8_append 30 = .ok (.putfield 37, 3) := by decide +kernel
theorem dX8_append_33 : decode cX8_append 33 = .ok (.return_, 1) := by decide +kernel
theorem dX8_remove_0 : decode cX8_remove 0 = .ok (.iload_n 1, 1) := by decide +kernel
theorem dX8_remove_1 : decode cX8_remove 1 = .ok (.iconst 5, 1) := by decide +kernel
theorem dX8_remove_2 : decode cX8_remove 2 = .ok (.imul, 1) := by decide +kernel
theorem dX8_remove_3 : decode cX8_remove 3 = .ok (.istore_n 2, 1) := by decide +kernel
theorem dX8_remove_4 : decode cX8_remove 4 = .ok (.iload_n 2, 1) := by decide +kernel
theorem dX8_remove_5 : decode cX8_remove 5 = .ok (.aload_n 0, 1) := by decide +kernel
theorem dX8_remove_6 : decode cX8_remove 6 = .ok (.getfield 37, 3) := by decide +kernel
theorem dX8_remove_9 : decode cX8_remove 9 = .ok (.iconst 1, 1) := by decide +kernel
theorem dX8_remove_10 : decode cX8_remove 10 = .ok (.isub, 1) := by decide +kernel
theorem dX8_remove_11 : decode cX8_remove 11 = .ok (.iconst 5, 1) := by decide +kernel
theorem dX8_remove_12 : decode cX8_remove 12 = .ok (.imul, 1) := by decide +kernel
theorem dX8_remove_13 : decode cX8_remove 13 = .ok (.if_icmp .ge 23, 3) := by decide +kernel
theorem dX8_remove_16 : decode cX8_remove 16 = .ok (.aload_n 0, 1) := by decide +kernel
theorem dX8_remove_17 : decode cX8_remove 17 = .ok (.getfield 11, 3) := by decide +kernel
theorem dX8_remove_20 : decode cX8_remove 20 = .ok (.iload_n 2, 1) := by decide +kernel
theorem dX8_remove_21 : decode cX8_remove 21 = .ok (.aload_n 0, 1) := by decide +kernel
theorem dX8_remove_22 : decode cX8_remove 22 = .ok (.getfield 11, 3) := by decide +kernel
theorem dX8_remove_25 : decode cX8_remove 25 = .ok (.iload_n 2, 1) := by decide +kernel
theorem dX8_remove_26 : decode cX8_remove 26 = .ok (.iconst 5, 1) := by decide +kernel
theorem dX8_remove_27 : decode cX8_remove 27 = .ok (.iadd, 1) := by decide +kernel
theorem dX8_remove_28 : decode cX8_remove 28 = .ok (.iaload, 1) := by decide +kernel
theorem dX8_remove_29 : decode cX8_remove 29 = .ok (.iastore, 1) := by decide +kernel
theorem dX8_remove_30 : decode cX8_remove 30 = .ok (.iinc 2 1, 3) := by decide +kernel
theorem dX8_remove_33 : decode cX8_remove 33 = .ok (.goto (-29), 3) := by decide +kernel
theorem dX8_remove_36 : decode cX8_remove 36 = .ok (.aload_n 0, 1) := by decide +kernel
theorem dX8_remove_37 : decode cX8_remove 37 = .ok (.dup, 1) := by decide +kernel
theorem dX8_remove_38 : decode cX8_remove 38 = .ok (.getfield 37, 3) := by decide +kernel
theorem dX8_remove_41 : decode cX8_remove 41 = .ok (.iconst 1, 1) := by decide +kernel
theorem dX8_remove_42 : decode cX8_remove 42 = .ok (.isub, 1) := by decide +kernel
theorem dX8_remove_43 : decode cX8_remove 43 = .ok (.putfield 37, 3) := by decide +kernel
theorem dX8_remove_46 : decode cX8_remove 46 = .ok (.return_, 1) := by decide +kernel
theorem dX8_arrange_0 : decode cX8_arrange 0 = .ok (.iconst 0, 1) := by decide +kernel
theorem dX8_arrange_1 : decode cX8_arrange 1 = .ok (.istore_n 3, 1) := by decide +kernel
theorem dX8_arrange_2 : decode cX8_arrange 2 = .ok (.iload_n 3, 1) := by decide +kernel
theorem dX8_arrange_3 : decode cX8_arrange 3 = .ok (.aload_n 0, 1) := by decide +kernel
theorem dX8_arrange_4 : decode cX8_arrange 4 = .ok (.getfield 37, 3) := by decide +kernel
theorem dX8_arrange_7 : decode cX8_arrange 7 = .ok (.if_icmp .ge 29, 3) := by decide +kernel
theorem dX8_arrange_10 : decode cX8_arrange 10 = .ok (.aload_n 1, 1) := by decide +kernel
theorem dX8_arrange_11 : decode cX8_arrange 11 = .ok (.getfield 11, 3) := by decide +kernel
theorem dX8_arrange_14 : decode cX8_arrange 14 = .ok (.aload_n 2, 1) := by decide +kernel
theorem dX8_arrange_15 : decode cX8_arrange 15 = .ok (.iload_n 3, 1) := by decide +kernel
theorem dX8_arrange_16 : decode cX8_arrange 16 = .ok (.iaload, 1) := by decide +kernel
theorem dX8_arrange_17 : decode cX8_arrange 17 = .ok (.iconst 5, 1) := by decide +kernel
theorem dX8_arrange_18 : decode cX8_arrange 18 = .ok (.imul, 1) := by decide +kernel
theorem dX8_arrange_19 : decode cX8_arrange 19 = .ok (.aload_n 0, 1) := by decide +kernel
theorem dX8_arrange_20 : decode cX8_arrange 20 = .ok (.getfield 11, 3) := by decide +kernel
theorem dX8_arrange_23 : decode cX8_arrange 23 = .ok (.iload_n 3, 1) := by decide +kernel
theorem dX8_arrange_24 : decode cX8_arrange 24 = .ok (.iconst 5, 1) := by decide +kernel
theorem dX8_arrange_25 : decode cX8_arrange 25 = .ok (.imul, 1) := by decide +kernel
theorem dX8_arrange_26 : decode cX8_arrange 26 = .ok (.iconst 5, 1) := by decide +kernel
theorem dX8_arrange_27 : decode cX8_arrange 27 = .ok (.invokestatic 44, 3) := by decide +kernel
theorem dX8_arrange_30 : decode cX8_arrange 30 = .ok (.iinc 3 1, 3) := by decide +kernel
theorem dX8_arrange_33 : decode cX8_arrange 33 = .ok (.goto (-31), 3) := by decide +kernel
theorem dX8_arrange_36 : decode cX8_arrange 36 = .ok (.return_, 1) := by decide +kernel
theorem dX8_numberOf_0 : decode cX8_numberOf 0 = .ok (.iload_n 1, 1) := by decide +kernel
theorem dX8_numberOf_1 : decode cX8_numberOf 1 = .ok (.ifCond .lt 20, 3) := by decide +kernel
theorem dX8_numberOf_4 : decode cX8_numberOf 4 = .ok (.iload_n 1, 1) := by decide +kernel
theorem dX8_numberOf_5 : decode cX8_numberOf 5 = .ok (.aload_n 0, 1) := by decide +kernel
theorem dX8_numberOf_6 : decode cX8_numberOf 6 = .ok (.getfield 37, 3) := by decide +kernel
theorem dX8_numberOf_9 : decode cX8_numberOf 9 = .ok (.if_icmp .ge 12, 3) := by decide +kernel
theorem dX8_numberOf_12 : decode cX8_numberOf 12 = .ok (.iload_n 2, 1) := by decide +kernel
theorem dX8_numberOf_13 : decode cX8_numberOf 13 = .ok (.ifCond .lt 8, 3) := by decide +kernel
theorem dX8_numberOf_16 : decode cX8_numberOf 16 = .ok (.iload_n 2, 1) := by decide +kernel
theorem dX8_numberOf_17 : decode cX8_numberOf 17 = .ok (.iconst 5, 1) := by decide +kernel
theorem dX8_numberOf_18 : decode cX8_numberOf 18 = .ok (.if_icmp .lt 5, 3) := by decide +kernel
theorem dX8_numberOf_21 : decode cX8_numberOf 21 = .ok (.iconst (-1), 1) := by decide +kernel
theorem dX8_numberOf_22 : decode cX8_numberOf 22 = .ok (.ireturn, 1) := by decide +kernel
theorem dX8_numberOf_23 : decode cX8_numberOf 23 = .ok (.aload_n 0, 1) := by decide +kernel
theorem dX8_numberOf_24 : decode cX8_numberOf 24 = .ok (.getfield 11, 3) := by decide +kernel
theorem dX8_numberOf_27 : decode cX8_numberOf 27 = .ok (.iload_n 1, 1) := by decide +kernel
theorem dX8_numberOf_28 : decode cX8_numberOf 28 = .ok (.iconst 5, 1) := by decide +kernel
theorem dX8_numberOf_29 : decode cX8_numberOf 29 = .ok (.imul, 1) := by decide +kernel
theorem dX8_numberOf_30 : decode cX8_numberOf 30 = .ok (.iload_n 2, 1) := by decide +kernel
theorem dX8_numberOf_31 : decode cX8_numberOf 31 = .ok (.iadd, 1) := by decide +kernel
theorem dX8_numberOf_32 : decode cX8_numberOf 32 = .ok (.iaload, 1) := by decide +kernel
theorem dX8_numberOf_33 : decode cX8_numberOf 33 = .ok (.ireturn, 1) := by decide +kernel
theorem dX8_takeFrom_0 : decode cX8_takeFrom 0 = .ok (.aload_n 1, 1) := by decide +kernel
theorem dX8_takeFrom_1 : decode cX8_takeFrom 1 = .ok (.getfield 11, 3) := by decide +kernel
theorem dX8_takeFrom_4 : decode cX8_takeFrom 4 = .ok (.iconst 0, 1) := by decide +kernel
theorem dX8_takeFrom_5 : decode cX8_takeFrom 5 = .ok (.aload_n 0, 1) := by decide +kernel
theorem dX8_takeFrom_6 : decode cX8_takeFrom 6 = .ok (.getfield 11, 3) := by decide +kernel
theorem dX8_takeFrom_9 : decode cX8_takeFrom 9 = .ok (.iconst 0, 1) := by decide +kernel
theorem dX8_takeFrom_10 : decode cX8_takeFrom 10 = .ok (.aload_n 0, 1) := by decide +kernel
theorem dX8_takeFrom_11 : decode cX8_takeFrom 11 = .ok (.getfield 11, 3) := by decide +kernel
theorem dX8_takeFrom_14 : decode cX8_takeFrom 14 = .ok (.arraylength, 1) := by decide +kernel
theorem dX8_takeFrom_15 : decode cX8_takeFrom 15 = .ok (.invokestatic 44, 3) := by decide +kernel
theorem dX8_takeFrom_18 : decode cX8_takeFrom 18 = .ok (.aload_n 0, 1) := by decide +kernel
theorem dX8_takeFrom_19 : decode cX8_takeFrom 19 = .ok (.aload_n 1, 1) := by decide +kernel
theorem dX8_takeFrom_20 : decode cX8_takeFrom 20 = .ok (.getfield 37, 3) := by decide +kernel
theorem dX8_takeFrom_23 : decode cX8_takeFrom 23 = .ok (.putfield 37, 3) := by decide +kernel
theorem dX8_takeFrom_26 : decode cX8_takeFrom 26 = .ok (.return_, 1) := by decide +kernel
theorem dX9_init_0 : decode cX9_init 0 = .ok (.aload_n 0, 1) := by decide +kernel
theorem dX9_init_1 : decode cX9_init 1 = .ok (.invokespecial 3, 3) := by decide +kernel
theorem dX9_init_4 : decode cX9_init 4 = .ok (.aload_n 0, 1) := by decide +kernel
theorem dX9_init_5 : decode cX9_init 5 = .ok (.sipush 160, 3) := by decide +kernel
theorem dX9_init_8 : decode cX9_init 8 = .ok (.newarray .int, 2) := by decide +kernel
theorem dX9_init_10 : decode cX9_init 10 = .ok (.putfield 11, 3) := by decide +kernel
theorem dX9_init_13 : decode cX9_init 13 = .ok (.aload_n 0, 1) := by decide +kernel
theorem dX9_init_14 : decode cX9_init 14 = .ok (.iconst 5, 1) := by decide +kernel
theorem dX9_init_15 : decode cX9_init 15 = .ok (.newarray .int, 2) := by decide +kernel
theorem dX9_init_17 : decode cX9_init 17 = .ok (.putfield 17, 3) := by decide +kernel
theorem dX9_init_20 : decode cX9_init 20 = .ok (.return_, 1) := by decide +kernel
theorem dX9_append_0 : decode cX9_append 0 = .ok (.aload_n 0, 1) := by decide +kernel
theorem dX9_append_1 : decode cX9_append 1 = .ok (.getfield 20, 3) := by decide +kernel
theorem dX9_append_4 : decode cX9_append 4 = .ok (.sipush 160, 3) := by decide +kernel
theorem dX9_append_7 : decode cX9_append 7 = .ok (.if_icmp .lt 5, 3) := by decide +kernel
theorem dX9_append_10 : decode cX9_append 10 = .ok (.iconst 0, 1) := by decide +kernel
theorem dX9_append_11 : decode cX9_append 11 = .ok (.ireturn, 1) := by decide +kernel
theorem dX9_append_12 : decode cX9_append 12 = .ok (.aload_n 0, 1) := by decide +kernel
theorem dX9_append_13 : decode cX9_append 13 = .ok (.getfield 11, 3) := by decide +kernel
theorem dX9_append_16 : decode cX9_append 16 = .ok (.aload_n 0, 1) := by decide +kernel
theorem dX9_append_17 : decode cX9_append 17 = .ok (.getfield 20, 3) := by decide +kernel
theorem dX9_append_20 : decode cX9_append 20 = .ok (.iload_n 1, 1) := by decide +kernel
theorem dX9_append_21 : decode cX9_append 21 = .ok (.iastore, 1) := by decide +kernel
theorem dX9_append_22 : decode cX9_append 22 = .ok (.aload_n 0, 1) := by decide +kernel
theorem dX9_append_23 : decode cX9_append 23 = .ok (.dup, 1) := by decide +kernel
theorem dX9_append_24 : decode cX9_append 24 = .ok (.getfield 20, 3) := by decide +kernel
theorem dX9_append_27 : decode cX9_append 27 = .ok (.iconst 1, 1) := by decide +kernel
theorem dX9_append_28 : decode cX9_append 28 = .ok (.iadd, 1) := by decide +kernel
theorem dX9_append_29 : decode cX9_append 29 = .ok (.putfield 20, 3) := by decide +kernel
theorem dX9_append_32 : decode cX9_append 32 = .ok (.iconst 1, 1) := by decide +kernel
theorem dX9_append_33 : decode cX9_append 33 = .ok (.ireturn, 1) := by decide +kernel
theorem dX9_readInto_0 : decode cX9_readInto 0 = .ok (.aload_n 1, 1) := by decide +kernel
theorem dX9_readInto_1 : decode cX9_readInto 1 = .ok (.invokevirtual 24, 3) := by decide +kernel
theorem dX9_readInto_4 : decode cX9_readInto 4 = .ok (.aload_n 0, 1) := by decide +kernel
theorem dX9_readInto_5 : decode cX9_readInto 5 = .ok (.bipush 32, 2) := by decide +kernel
theorem dX9_readInto_7 : decode cX9_readInto 7 = .ok (.putfield 29, 3) := by decide +kernel
theorem dX9_readInto_10 : decode cX9_readInto 10 = .ok (.aload_n 0, 1) := by decide +kernel
theorem dX9_readInto_11 : decode cX9_readInto 11 = .ok (.iconst 0, 1) := by decide +kernel
theorem dX9_readInto_12 : decode cX9_readInto 12 = .ok (.putfield 32, 3) := by decide +kernel
theorem dX9_readInto_15 : decode cX9_readInto 15 = .ok (.aload_n 0, 1) := by decide +kernel
theorem dX9_readInto_16 : decode cX9_readInto 16 = .ok (.iconst 0, 1) := by decide +kernel
theorem dX9_readInto_17 : decode cX9_readInto 17 = .ok (.putfield 35, 3) := by decide +kernel
theorem dX9_readInto_20 : decode cX9_readInto 20 = .ok (.iconst 0, 1) := by decide +kernel
theorem dX9_readInto_21 : decode cX9_readInto 21 = .ok (.istore_n 2, 1) := by decide +kernel
theorem dX9_readInto_22 : decode cX9_readInto 22 = .ok (.iconst 0, 1) := by decide +kernel
theorem dX9_readInto_23 : decode cX9_readInto 23 = .ok (.istore_n 3, 1) := by decide +kernel
theorem dX9_readInto_24 : decode cX9_readInto 24 = .ok (.iload_n 3, 1) := by decide +kernel
theorem dX9_readInto_25 : decode cX9_readInto 25 = .ok (.sipush 160, 3) := by decide +kernel
theorem dX9_readInto_28 : decode cX9_readInto 28 = .ok (.if_icmp .ge 43, 3) := by decide +kernel
theorem dX9_readInto_31 : decode cX9_readInto 31 = .ok (.iload_n 2, 1) := by decide +kernel
theorem dX9_readInto_32 : decode cX9_readInto 32 = .ok (.aload_n 0, 1) := by decide +kernel
theorem dX9_readInto_33 : decode cX9_readInto 33 = .ok (.getfield 20, 3) := by decide +kernel
theorem dX9_readInto_36 : decode cX9_readInto 36 = .ok (.if_icmp .ge 35, 3) := by decide +kernel
theorem dX9_readInto_39 : decode cX9_readInto 39 = .ok (.aload_n 0, 1) := by decide +kernel
theorem dX9_readInto_40 : decode cX9_readInto 40 = .ok (.iload_n 2, 1) := by decide +kernel
theorem dX9_readInto_41 : decode cX9_readInto 41 = .ok (.invokevirtual 39, 3) := by decide +kernel
theorem dX9_readInto_44 : decode cX9_readInto 44 = .ok (.istore 4, 2) := by decide +kernel
theorem dX9_readInto_46 : decode cX9_readInto 46 = .ok (.aload_n 0, 1) := by decide +kernel
theorem dX9_readInto_47 : decode cX9_readInto 47 = .ok (.aload_n 1, 1) := by decide +kernel
theorem dX9_readInto_48 : decode cX9_readInto 48 = .ok (.iload_n 2, 1) := by decide +kernel
theorem dX9_readInto_49 : decode cX9_readInto 49 = .ok (.iload 4, 2) := by decide +kernel
theorem dX9_readInto_51 : decode cX9_readInto 51 = .ok (.invokevirtual 43, 3) := by decide +kernel
theorem dX9_readInto_54 : decode cX9_readInto 54 = .ok (.ifCond .ne 8, 3) := by decide +kernel
theorem dX9_readInto_57 : decode cX9_readInto 57 = .ok (.bipush (-10), 2) := by decide +kernel
theorem dX9_readInto_59 : decode cX9_readInto 59 = .ok (.iload_n 2, 1) := by decide +kernel
theorem dX9_readInto_60 : decode cX9_readInto 60 = .ok (.isub, 1) := by decide +kernel
theorem dX9_readInto_61 : decode cX9_readInto 61 = .ok (.ireturn, 1) := by decide +kernel
theorem dX9_readInto_62 : decode cX9_readInto 62 = .ok (.iload 4, 2) := by decide +kernel
theorem dX9_readInto_64 : decode cX9_readInto 64 = .ok (.istore_n 2, 1) := by decide +kernel
theorem dX9_readInto_65 : decode cX9_readInto 65 = .ok (.iinc 3 1, 3) := by decide +kernel
theorem dX9_readInto_68 : decode cX9_readInto 68 = .ok (.goto (-44), 3) := by decide +kernel
theorem dX9_readInto_71 : decode cX9_readInto 71 = .ok (.aload_n 0, 1) := by decide +kernel
theorem dX9_readInto_72 : decode cX9_readInto 72 = .ok (.getfield 29, 3) := by decide +kernel
theorem dX9_readInto_75 : decode cX9_readInto 75 = .ok (.bipush 32, 2) := by decide +kernel
theorem dX9_readInto_77 : decode cX9_readInto 77 = .ok (.if_icmp .ne 10, 3) := by decide +kernel
theorem dX9_readInto_80 : decode cX9_readInto 80 = .ok (.aload_n 0, 1) := by decide +kernel
theorem dX9_readInto_81 : decode cX9_readInto 81 = .ok (.getfield 32, 3) := by decide +kernel
theorem dX9_readInto_84 : decode cX9_readInto 84 = .ok (.goto 10, 3) := by decide +kernel
theorem dX9_readInto_87 : decode cX9_readInto 87 = .ok (.bipush (-10), 2) := by decide +kernel
theorem dX9_readInto_89 : decode cX9_readInto 89 = .ok (.aload_n 0, 1) := by decide +kernel
theorem dX9_readInto_90 : decode cX9_readInto 90 = .ok (.getfield 20, 3) := by decide +kernel
theorem dX9_readInto_93 : decode cX9_readInto 93 = .ok (.isub, 1) := by decide +kernel
theorem dX9_readInto_94 : decode cX9_readInto 94 = .ok (.ireturn, 1) := by decide +kernel
theorem dX9_endOfToken_0 : decode cX9_endOfToken 0 = .ok (.iload_n 1, 1) := by decide +kernel
theorem dX9_endOfToken_1 : decode cX9_endOfToken 1 = .ok (.iconst 1, 1) := by decide +kernel
theorem dX9_endOfToken_2 : decode cX9_endOfToken 2 = .ok (.iadd, 1) := by decide +kernel
theorem dX9_endOfToken_3 : decode cX9_endOfToken 3 = .ok (.istore_n 2, 1) := by decide +kernel
theorem dX9_endOfToken_4 : decode cX9_endOfToken 4 = .ok (.aload_n 0, 1) := by decide +kernel
theorem dX9_endOfToken_5 : decode cX9_endOfToken 5 = .ok (.getfield 11, 3) := by decide +kernel
theorem dX9_endOfToken_8 : decode cX9_endOfToken 8 = .ok (.iload_n 1, 1) := by decide +kernel
theorem dX9_endOfToken_9 : decode cX9_endOfToken 9 = .ok (.iaload, 1) := by decide +kernel
theorem dX9_endOfToken_10 : decode cX9_endOfToken 10 = .ok (.invokestatic 47, 3) := by decide +kernel
theorem dX9_endOfToken_13 : decode cX9_endOfToken 13 = .ok (.ifCond .eq 29, 3) := by decide +kernel
theorem dX9_endOfToken_16 : decode cX9_endOfToken 16 = .ok (.iload_n 2, 1) := by decide +kernel
theorem dX9_endOfToken_17 : decode cX9_endOfToken 17 = .ok (.aload_n 0, 1) := by decide +kernel
theorem dX9_endOfToken_18 : decode cX9_endOfToken 18 = .ok (.getfield 20, 3) := by decide +kernel
theorem dX9_endOfToken_21 : decode cX9_endOfToken 21 = .ok (.if_icmp .ge 21, 3) := by decide +kernel
theorem dX9_endOfToken_24 : decode cX9_endOfToken 24 = .ok (.aload_n 0, 1) := by decide +kernel
theorem dX9_endOfToken_25 : decode cX9_endOfToken 25 = .ok (.getfield 11, 3) := by decide +kernel
theorem dX9_endOfToken_28 : decode cX9_endOfToken 28 = .ok (.iload_n 2, 1) := by decide +kernel
theorem dX9_endOfToken_29 : decode cX9_endOfToken 29 = .ok (.iaload, 1) := by decide +kernel
theorem dX9_endOfToken_30 : decode cX9_endOfToken 30 = .ok (.invokestatic 47, 3) := by decide +kernel
theorem dX9_endOfToken_33 : decode cX9_endOfToken 33 = .ok (.ifCond .eq 9, 3) := by decide +kernel
theorem dX9_endOfToken_36 : decode cX9_endOfToken 36 = .ok (.iinc 2 1, 3) := by decide +kernel
theorem dX9_endOfToken_39 : decode cX9_endOfToken 39 = .ok (.goto (-23), 3) := by decide +kernel
theorem dX9_endOfToken_42 : decode cX9_endOfToken 42 = .ok (.iload_n 2, 1) := by decide +kernel
theorem dX9_endOfToken_43 : decode cX9_endOfToken 43 = .ok (.ireturn, 1) := by decide +kernel
theorem dX9_isDigit_0 : decode cX9_isDigit 0 = .ok (.iload_n 0, 1) := by decide +kernel
theorem dX9_isDigit_1 : decode cX9_isDigit 1 = .ok (.bipush 48, 2) := by decide +kernel
theorem dX9_isDigit_3 : decode cX9_isDigit 3 = .ok (.if_icmp .lt 13, 3) := by decide +kernel
theorem dX9_isDigit_6 : decode cX9_isDigit 6 = .ok (.iload_n 0, 1) := by decide +kernel
theorem dX9_isDigit_7 : decode cX9_isDigit 7 = .ok (.bipush 57, 2) := by decide +kernel
theorem dX9_isDigit_9 : decode cX9_isDigit 9 = .ok (.if_icmp .gt 7, 3) := by decide +kernel
theorem dX9_isDigit_12 : decode cX9_isDigit 12 = .ok (.iconst 1, 1) := by decide +kernel
theorem dX9_isDigit_13 : decode cX9_isDigit 13 = .ok (.goto 4, 3) := by decide +kernel
theorem dX9_isDigit_16 : decode cX9_isDigit 16 = .ok (.iconst 0, 1) := by decide +kernel
theorem dX9_isDigit_17 : decode cX9_isDigit 17 = .ok (.ireturn, 1) := by decide +kernel
theorem dX9_takesToken_0 : decode cX9_takesToken 0 = .ok (.aload_n 0, 1) := by decide +kernel
theorem dX9_takesToken_1 : decode cX9_takesToken 1 = .ok (.getfield 11, 3) := by decide +kernel
theorem dX9_takesToken_4 : decode cX9_takesToken 4 = .ok (.iload_n 2, 1) := by decide +kernel
theorem dX9_takesToken_5 : decode cX9_takesToken 5 = .ok (.iaload, 1) := by decide +kernel
theorem dX9_takesToken_6 : decode cX9_takesToken 6 = .ok (.istore 4, 2) := by decide +kernel
theorem dX9_takesToken_8 : decode cX9_takesToken 8 = .ok (.iload 4, 2) := by decide +kernel
theorem dX9_takesToken_10 : decode cX9_takesToken 10 = .ok (.bipush 32, 2) := by decide +kernel
theorem dX9_takesToken_12 : decode cX9_takesToken 12 = .ok (.if_icmp .ne 5, 3) := by decide +kernel
theorem dX9_takesToken_15 : decode cX9_takesToken 15 = .ok (.iconst 1, 1) := by decide +kernel
theorem dX9_takesToken_16 : decode cX9_takesToken 16 = .ok (.ireturn, 1) := by decide +kernel
theorem dX9_takesToken_17 : decode cX9_takesToken 17 = .ok (.iload 4, 2) := by decide +kernel
theorem dX9_takesToken_19 : decode cX9_takesToken 19 = .ok (.invokestatic 47, 3) := by decide +kernel
theorem dX9_takesToken_22 : decode cX9_takesToken 22 = .ok (.ifCond .eq 15, 3) := by decide +kernel
theorem dX9_takesToken_25 : decode cX9_takesToken 25 = .ok (.aload_n 0, 1) := by decide +kernel
theorem dX9_takesToken_26 : decode cX9_takesToken 26 = .ok (.aload_n 1, 1) := by decide +kernel
theorem dX9_takesToken_27 : decode cX9_takesToken 27 = .ok (.aload_n 0, 1) := by decide +kernel
theorem dX9_takesToken_28 : decode cX9_takesToken 28 = .ok (.iload_n 2, 1) := by decide +kernel
theorem dX9_takesToken_29 : decode cX9_takesToken 29 = .ok (.iload_n 3, 1) := by decide +kernel
theorem dX9_takesToken_30 : decode cX9_takesToken 30 = .ok (.invokevirtual 51, 3) := by decide +kernel
theorem dX9_takesToken_33 : decode cX9_takesToken 33 = .ok (.invokevirtual 55, 3) := by decide +kernel
theorem dX9_takesToken_36 : decode cX9_takesToken 36 = .ok (.ireturn, 1) := by decide +kernel
theorem dX9_takesToken_37 : decode cX9_takesToken 37 = .ok (.iload 4, 2) := by decide +kernel
theorem dX9_takesToken_39 : decode cX9_takesToken 39 = .ok (.bipush 59, 2) := by decide +kernel
theorem dX9_takesToken_41 : decode cX9_takesToken 41 = .ok (.if_icmp .ne 9, 3) := by decide +kernel
theorem dX9_takesToken_44 : decode cX9_takesToken 44 = .ok (.aload_n 0, 1) := by decide +kernel
theorem dX9_takesToken_45 : decode cX9_takesToken 45 = .ok (.aload_n 1, 1) := by decide +kernel
theorem dX9_takesToken_46 : decode cX9_takesToken 46 = .ok (.invokevirtual 59, 3) := by decide +kernel
theorem dX9_takesToken_49 : decode cX9_takesToken 49 = .ok (.ireturn, 1) := by decide +kernel
theorem dX9_takesToken_50 : decode cX9_takesToken 50 = .ok (.aload_n 0, 1) := by decide +kernel
theorem dX9_takesToken_51 : decode cX9_takesToken 51 = .ok (.aload_n 1, 1) := by decide +kernel
theorem dX9_takesToken_52 : decode cX9_takesToken 52 = .ok (.iload 4, 2) := by decide +kernel
theorem dX9_takesToken_54 : decode cX9_takesToken 54 = .ok (.invokevirtual 63, 3) := by decide +kernel
theorem dX9_takesToken_57 : decode cX9_takesToken 57 = .ok (.ireturn, 1) := by decide +kernel
theorem dX9_valueOf_0 : decode cX9_valueOf 0 = .ok (.aload_n 0, 1) := by decide +kernel
theorem dX9_valueOf_1 : decode cX9_valueOf 1 = .ok (.getfield 11, 3) := by decide +kernel
theorem dX9_valueOf_4 : decode cX9_valueOf 4 = .ok (.iload_n 1, 1) := by decide +kernel
theorem dX9_valueOf_5 : decode cX9_valueOf 5 = .ok (.iaload, 1) := by decide +kernel
theorem dX9_valueOf_6 : decode cX9_valueOf 6 = .ok (.bipush 48, 2) := by decide +kernel
theorem dX9_valueOf_8 : decode cX9_valueOf 8 = .ok (.isub, 1) := by decide +kernel
theorem dX9_valueOf_9 : decode cX9_valueOf 9 = .ok (.istore_n 3, 1) := by decide +kernel
theorem dX9_valueOf_10 : decode cX9_valueOf 10 = .ok (.iload_n 2, 1) := by decide +kernel
theorem dX9_valueOf_11 : decode cX9_valueOf 11 = .ok (.iload_n 1, 1) := by decide +kernel
theorem dX9_valueOf_12 : decode cX9_valueOf 12 = .ok (.isub, 1) := by decide +kernel
theorem dX9_valueOf_13 : decode cX9_valueOf 13 = .ok (.iconst 1, 1) := by decide +kernel
theorem dX9_valueOf_14 : decode cX9_valueOf 14 = .ok (.if_icmp .ne 5, 3) := by decide +kernel
theorem dX9_valueOf_17 : decode cX9_valueOf 17 = .ok (.iload_n 3, 1) := by decide +kernel
theorem dX9_valueOf_18 : decode cX9_valueOf 18 = .ok (.ireturn, 1) := by decide +kernel
theorem dX9_valueOf_19 : decode cX9_valueOf 19 = .ok (.iload_n 2, 1) := by decide +kernel
theorem dX9_valueOf_20 : decode cX9_valueOf 20 = .ok (.iload_n 1, 1) := by decide +kernel
theorem dX9_valueOf_21 : decode cX9_valueOf 21 = .ok (.isub, 1) := by decide +kernel
theorem dX9_valueOf_22 : decode cX9_valueOf 22 = .ok (.iconst 2, 1) := by decide +kernel
theorem dX9_valueOf_23 : decode cX9_valueOf 23 = .ok (.if_icmp .gt 7, 3) := by decide +kernel
theorem dX9_valueOf_26 : decode cX9_valueOf 26 = .ok (.iload_n 3, 1) := by decide +kernel
theorem dX9_valueOf_27 : decode cX9_valueOf 27 = .ok (.ifCond .ne 5, 3) := by decide +kernel
theorem dX9_valueOf_30 : decode cX9_valueOf 30 = .ok (.iconst (-1), 1) := by decide +kernel
theorem dX9_valueOf_31 : decode cX9_valueOf 31 = .ok (.ireturn, 1) := by decide +kernel
theorem dX9_valueOf_32 : decode cX9_valueOf 32 = .ok (.bipush 10, 2) := by decide +kernel
theorem dX9_valueOf_34 : decode cX9_valueOf 34 = .ok (.iload_n 3, 1) := by decide +kernel
theorem dX9_valueOf_35 : decode cX9_valueOf 35 = .ok (.imul, 1) := by decide +kernel
theorem dX9_valueOf_36 : decode cX9_valueOf 36 = .ok (.aload_n 0, 1) := by decide +kernel
theorem dX9_valueOf_37 : decode cX9_valueOf 37 = .ok (.getfield 11, 3) := by decide +kernel
theorem dX9_valueOf_40 : decode cX9_valueOf 40 = .ok (.iload_n 1, 1) := by decide +kernel
theorem dX9_valueOf_41 : decode cX9_valueOf 41 = .ok (.iconst 1, 1) := by decide +kernel
theorem dX9_valueOf_42 : decode cX9_valueOf 42 = .ok (.iadd, 1) := by decide +kernel
theorem dX9_valueOf_43 : decode cX9_valueOf 43 = .ok (.iaload, 1) := by decide +kernel
theorem dX9_valueOf_44 : decode cX9_valueOf 44 = .ok (.iadd, 1) := by decide +kernel
theorem dX9_valueOf_45 : decode cX9_valueOf 45 = .ok (.bipush 48, 2) := by decide +kernel
theorem dX9_valueOf_47 : decode cX9_valueOf 47 = .ok (.isub, 1) := by decide +kernel
theorem dX9_valueOf_48 : decode cX9_valueOf 48 = .ok (.ireturn, 1) := by decide +kernel
theorem dX9_beginsItem_0 : decode cX9_beginsItem 0 = .ok (.aload_n 0, 1) := by decide +kernel
theorem dX9_beginsItem_1 : decode cX9_beginsItem 1 = .ok (.getfield 29, 3) := by decide +kernel
theorem dX9_beginsItem_4 : decode cX9_beginsItem 4 = .ok (.bipush 32, 2) := by decide +kernel
theorem dX9_beginsItem_6 : decode cX9_beginsItem 6 = .ok (.if_icmp .eq 5, 3) := by decide +kernel
theorem dX9_beginsItem_9 : decode cX9_beginsItem 9 = .ok (.iconst 0, 1) := by decide +kernel
theorem dX9_beginsItem_10 : decode cX9_beginsItem 10 = .ok (.ireturn, 1) := by decide +kernel
theorem dX9_beginsItem_11 : decode cX9_beginsItem 11 = .ok (.iload_n 2, 1) := by decide +kernel
theorem dX9_beginsItem_12 : decode cX9_beginsItem 12 = .ok (.lookupswitch 94 #[(100, 82), (109, 60), (120, 44), (121, 52)], 44) := by decide +kernel
theorem dX9_beginsItem_56 : decode cX9_beginsItem 56 = .ok (.aload_n 1, 1) := by decide +kernel
theorem dX9_beginsItem_57 : decode cX9_beginsItem 57 = .ok (.iconst 0, 1) := by decide +kernel
theorem dX9_beginsItem_58 : decode cX9_beginsItem 58 = .ok (.invokevirtual 66, 3) := by decide +kernel
theorem dX9_beginsItem_61 : decode cX9_beginsItem 61 = .ok (.goto 47, 3) := by decide +kernel
theorem dX9_beginsItem_64 : decode cX9_beginsItem 64 = .ok (.aload_n 1, 1) := by decide +kernel
theorem dX9_beginsItem_65 : decode cX9_beginsItem 65 = .ok (.iconst 1, 1) := by decide +kernel
theorem dX9_beginsItem_66 : decode cX9_beginsItem 66 = .ok (.invokevirtual 66, 3) := by decide +kernel
theorem dX9_beginsItem_69 : decode cX9_beginsItem 69 = .ok (.goto 39, 3) := by decide +kernel
theorem dX9_beginsItem_72 : decode cX9_beginsItem 72 = .ok (.aload_n 0, 1) := by decide +kernel
theorem dX9_beginsItem_73 : decode cX9_beginsItem 73 = .ok (.getfield 35, 3) := by decide +kernel
theorem dX9_beginsItem_76 : decode cX9_beginsItem 76 = .ok (.ifCond .eq 5, 3) := by decide +kernel
theorem dX9_beginsItem_79 : decode cX9_beginsItem 79 = .ok (.iconst 0, 1) := by decide +kernel
theorem dX9_beginsItem_80 : decode cX9_beginsItem 80 = .ok (.ireturn, 1) := by decide +kernel
theorem dX9_beginsItem_81 : decode cX9_beginsItem 81 = .ok (.aload_n 0, 1) := by decide +kernel
theorem dX9_beginsItem_82 : decode cX9_beginsItem 82 = .ok (.iconst 1, 1) := by decide +kernel
theorem dX9_beginsItem_83 : decode cX9_beginsItem 83 = .ok (.putfield 35, 3) := by decide +kernel
theorem dX9_beginsItem_86 : decode cX9_beginsItem 86 = .ok (.aload_n 1, 1) := by decide +kernel
theorem dX9_beginsItem_87 : decode cX9_beginsItem 87 = .ok (.iconst 0, 1) := by decide +kernel
theorem dX9_beginsItem_88 : decode cX9_beginsItem 88 = .ok (.putfield 70, 3) := by decide +kernel
theorem dX9_beginsItem_91 : decode cX9_beginsItem 91 = .ok (.goto 17, 3) := by decide +kernel
theorem dX9_beginsItem_94 : decode cX9_beginsItem 94 = .ok (.aload_n 1, 1) := by decide +kernel
theorem dX9_beginsItem_95 : decode cX9_beginsItem 95 = .ok (.getfield 73, 3) := by decide +kernel
theorem dX9_beginsItem_98 : decode cX9_beginsItem 98 = .ok (.invokevirtual 77, 3) := by decide +kernel
theorem dX9_beginsItem_101 : decode cX9_beginsItem 101 = .ok (.ifCond .eq 7, 3) := by decide +kernel
theorem dX9_beginsItem_104 : decode cX9_beginsItem 104 = .ok (.iconst 0, 1) := by decide +kernel
theorem dX9_beginsItem_105 : decode cX9_beginsItem 105 = .ok (.ireturn, 1) := by decide +kernel
theorem dX9_beginsItem_106 : decode cX9_beginsItem 106 = .ok (.iconst 0, 1) := by decide +kernel
theorem dX9_beginsItem_107 : decode cX9_beginsItem 107 = .ok (.ireturn, 1) := by decide +kernel
theorem dX9_beginsItem_108 : decode cX9_beginsItem 108 = .ok (.aload_n 0, 1) := by decide +kernel
theorem dX9_beginsItem_109 : decode cX9_beginsItem 109 = .ok (.iload_n 2, 1) := by decide +kernel
theorem dX9_beginsItem_110 : decode cX9_beginsItem 110 = .ok (.putfield 29, 3) := by decide +kernel
theorem dX9_beginsItem_113 : decode cX9_beginsItem 113 = .ok (.aload_n 0, 1) := by decide +kernel
theorem dX9_beginsItem_114 : decode cX9_beginsItem 114 = .ok (.iconst 0, 1) := by decide +kernel
theorem dX9_beginsItem_115 : decode cX9_beginsItem 115 = .ok (.putfield 81, 3) := by decide +kernel
theorem dX9_beginsItem_118 : decode cX9_beginsItem 118 = .ok (.iconst 1, 1) := by decide +kernel
theorem dX9_beginsItem_119 : decode cX9_beginsItem 119 = .ok (.ireturn, 1) := by decide +kernel
theorem dX9_takesNumber_0 : decode cX9_takesNumber 0 = .ok (.iload_n 2, 1) := by decide +kernel
theorem dX9_takesNumber_1 : decode cX9_takesNumber 1 = .ok (.ifCond .ge 5, 3) := by decide +kernel
theorem dX9_takesNumber_4 : decode cX9_takesNumber 4 = .ok (.iconst 0, 1) := by decide +kernel
theorem dX9_takesNumber_5 : decode cX9_takesNumber 5 = .ok (.ireturn, 1) := by decide +kernel
theorem dX9_takesNumber_6 : decode cX9_takesNumber 6 = .ok (.aload_n 0, 1) := by decide +kernel
theorem dX9_takesNumber_7 : decode cX9_takesNumber 7 = .ok (.getfield 29, 3) := by decide +kernel
theorem dX9_takesNumber_10 : decode cX9_takesNumber 10 = .ok (.lookupswitch 71 #[(100, 65), (109, 58), (120, 42), (121, 50)], 42) := by decide +kernel
theorem dX9_takesNumber_52 : decode cX9_takesNumber 52 = .ok (.aload_n 0, 1) := by decide +kernel
theorem dX9_takesNumber_53 : decode cX9_takesNumber 53 = .ok (.aload_n 1, 1) := by decide +kernel
theorem dX9_takesNumber_54 : decode cX9_takesNumber 54 = .ok (.iconst 0, 1) := by decide +kernel
theorem dX9_takesNumber_55 : decode cX9_takesNumber 55 = .ok (.iload_n 2, 1) := by decide +kernel
theorem dX9_takesNumber_56 : decode cX9_takesNumber 56 = .ok (.invokevirtual 84, 3) := by decide +kernel
theorem dX9_takesNumber_59 : decode cX9_takesNumber 59 = .ok (.ireturn, 1) := by decide +kernel
theorem dX9_takesNumber_60 : decode cX9_takesNumber 60 = .ok (.aload_n 0, 1) := by decide +kernel
theorem dX9_takesNumber_61 : decode cX9_takesNumber 61 = .ok (.aload_n 1, 1) := by decide +kernel
theorem dX9_takesNumber_62 : decode cX9_takesNumber 62 = .ok (.iconst 1, 1) := by decide +kernel
theorem dX9_takesNumber_63 : decode cX9_takesNumber 63 = .ok (.iload_n 2, 1) := by decide +kernel
theorem dX9_takesNumber_64 : decode cX9_takesNumber 64 = .ok (.invokevirtual 84, 3) := by decide +kernel
theorem dX9_takesNumber_67 : decode cX9_takesNumber 67 = .ok (.ireturn, 1) := by decide +kernel
theorem dX9_takesNumber_68 : decode cX9_takesNumber 68 = .ok (.aload_n 0, 1) := by decide +kernel
theorem dX9_takesNumber_69 : decode cX9_takesNumber 69 = .ok (.aload_n 1, 1) := by decide +kernel
theorem dX9_takesNumber_70 : decode cX9_takesNumber 70 = .ok (.iload_n 2, 1) := by decide +kernel
theorem dX9_takesNumber_71 : decode cX9_takesNumber 71 = .ok (.invokevirtual 87, 3) := by decide +kernel
theorem dX9_takesNumber_74 : decode cX9_takesNumber 74 = .ok (.ireturn, 1) := by decide +kernel
theorem dX9_takesNumber_75 : decode cX9_takesNumber 75 = .ok (.aload_n 0, 1) := by decide +kernel
theorem dX9_takesNumber_76 : decode cX9_takesNumber 76 = .ok (.iload_n 2, 1) := by decide +kernel
theorem dX9_takesNumber_77 : decode cX9_takesNumber 77 = .ok (.invokevirtual 90, 3) := by decide +kernel
theorem dX9_takesNumber_80 : decode cX9_takesNumber 80 = .ok (.ireturn, 1) := by decide +kernel
theorem dX9_takesNumber_81 : decode cX9_takesNumber 81 = .ok (.iconst 0, 1) := by decide +kernel
theorem dX9_takesNumber_82 : decode cX9_takesNumber 82 = .ok (.ireturn, 1) := by decide +kernel
theorem dX9_takesSymbol_0 : decode cX9_takesSymbol 0 = .ok (.aload_n 0, 1) := by decide +kernel
theorem dX9_takesSymbol_1 : decode cX9_takesSymbol 1 = .ok (.getfield 81, 3) := by decide +kernel
theorem dX9_takesSymbol_4 : decode cX9_takesSymbol 4 = .ok (.bipush 16, 2) := by decide +kernel
theorem dX9_takesSymbol_6 : decode cX9_takesSymbol 6 = .ok (.if_icmp .ge 10, 3) := by decide +kernel
theorem dX9_takesSymbol_9 : decode cX9_takesSymbol 9 = .ok (.iload_n 3, 1) := by decide +kernel
theorem dX9_takesSymbol_10 : decode cX9_takesSymbol 10 = .ok (.invokestatic 93, 3) := by decide +kernel
theorem dX9_takesSymbol_13 : decode cX9_takesSymbol 13 = .ok (.ifCond .ne 5, 3) := by decide +kernel
theorem dX9_takesSymbol_16 : decode cX9_takesSymbol 16 = .ok (.iconst 0, 1) := by decide +kernel
theorem dX9_takesSymbol_17 : decode cX9_takesSymbol 17 = .ok (.ireturn, 1) := by decide +kernel
theorem dX9_takesSymbol_18 : decode cX9_takesSymbol 18 = .ok (.aload_n 1, 1) := by decide +kernel
theorem dX9_takesSymbol_19 : decode cX9_takesSymbol 19 = .ok (.getfield 96, 3) := by decide +kernel
theorem dX9_takesSymbol_22 : decode cX9_takesSymbol 22 = .ok (.iload_n 2, 1) := by decide +kernel
theorem dX9_takesSymbol_23 : decode cX9_takesSymbol 23 = .ok (.bipush 16, 2) := by decide +kernel
theorem dX9_takesSymbol_25 : decode cX9_takesSymbol 25 = .ok (.imul, 1) := by decide +kernel
theorem dX9_takesSymbol_26 : decode cX9_takesSymbol 26 = .ok (.aload_n 0, 1) := by decide +kernel
theorem dX9_takesSymbol_27 : decode cX9_takesSymbol 27 = .ok (.getfield 81, 3) := by decide +kernel
theorem dX9_takesSymbol_30 : decode cX9_takesSymbol 30 = .ok (.iadd, 1) := by decide +kernel
theorem dX9_takesSymbol_31 : decode cX9_takesSymbol 31 = .ok (.iload_n 3, 1) := by decide +kernel
theorem dX9_takesSymbol_32 : decode cX9_takesSymbol 32 = .ok (.iastore, 1) := by decide +kernel
theorem dX9_takesSymbol_33 : decode cX9_takesSymbol 33 = .ok (.aload_n 0, 1) := by decide +kernel
theorem dX9_takesSymbol_34 : decode cX9_takesSymbol 34 = .ok (.dup, 1) := by decide +kernel
theorem dX9_takesSymbol_35 : decode cX9_takesSymbol 35 = .ok (.getfield 81, 3) := by decide +kernel
theorem dX9_takesSymbol_38 : decode cX9_takesSymbol 38 = .ok (.iconst 1, 1) := by decide +kernel
theorem dX9_takesSymbol_39 : decode cX9_takesSymbol 39 = .ok (.iadd, 1) := by decide +kernel
theorem dX9_takesSymbol_40 : decode cX9_takesSymbol 40 = .ok (.putfield 81, 3) := by decide +kernel
theorem dX9_takesSymbol_43 : decode cX9_takesSymbol 43 = .ok (.iconst 1, 1) := by decide +kernel
theorem dX9_takesSymbol_44 : decode cX9_takesSymbol 44 = .ok (.ireturn, 1) := by decide +kernel
theorem dX9_takesMark_0 : decode cX9_takesMark 0 = .ok (.iload_n 2, 1) := by decide +kernel
theorem dX9_takesMark_1 : decode cX9_takesMark 1 = .ok (.invokestatic 99, 3) := by decide +kernel
theorem dX9_takesMark_4 : decode cX9_takesMark 4 = .ok (.ifCond .eq 11, 3) := by decide +kernel
theorem dX9_takesMark_7 : decode cX9_takesMark 7 = .ok (.aload_n 1, 1) := by decide +kernel
theorem dX9_takesMark_8 : decode cX9_takesMark 8 = .ok (.iload_n 2, 1) := by decide +kernel
theorem dX9_takesMark_9 : decode cX9_takesMark 9 = .ok (.invokevirtual 102, 3) := by decide +kernel
theorem dX9_takesMark_12 : decode cX9_takesMark 12 = .ok (.ifCond .eq 5, 3) := by decide +kernel
theorem dX9_takesMark_15 : decode cX9_takesMark 15 = .ok (.iconst 0, 1) := by decide +kernel
theorem dX9_takesMark_16 : decode cX9_takesMark 16 = .ok (.ireturn, 1) := by decide +kernel
theorem dX9_takesMark_17 : decode cX9_takesMark 17 = .ok (.aload_n 1, 1) := by decide +kernel
theorem dX9_takesMark_18 : decode cX9_takesMark 18 = .ok (.iload_n 2, 1) := by decide +kernel
theorem dX9_takesMark_19 : decode cX9_takesMark 19 = .ok (.iconst 1, 1) := by decide +kernel
theorem dX9_takesMark_20 : decode cX9_takesMark 20 = .ok (.invokevirtual 105, 3) := by decide +kernel
theorem dX9_takesMark_23 : decode cX9_takesMark 23 = .ok (.iconst 1, 1) := by decide +kernel
theorem dX9_takesMark_24 : decode cX9_takesMark 24 = .ok (.ireturn, 1) := by decide +kernel
theorem dX9_takesPart_0 : decode cX9_takesPart 0 = .ok (.aload_n 0, 1) := by decide +kernel
theorem dX9_takesPart_1 : decode cX9_takesPart 1 = .ok (.getfield 81, 3) := by decide +kernel
theorem dX9_takesPart_4 : decode cX9_takesPart 4 = .ok (.iconst 5, 1) := by decide +kernel
theorem dX9_takesPart_5 : decode cX9_takesPart 5 = .ok (.if_icmp .ge 21, 3) := by decide +kernel
theorem dX9_takesPart_8 : decode cX9_takesPart 8 = .ok (.getstatic 109, 3) := by decide +kernel
theorem dX9_takesPart_11 : decode cX9_takesPart 11 = .ok (.aload_n 0, 1) := by decide +kernel
theorem dX9_takesPart_12 : decode cX9_takesPart 12 = .ok (.getfield 17, 3) := by decide +kernel
theorem dX9_takesPart_15 : decode cX9_takesPart 15 = .ok (.aload_n 0, 1) := by decide +kernel
theorem dX9_takesPart_16 : decode cX9_takesPart 16 = .ok (.getfield 81, 3) := by decide +kernel
theorem dX9_takesPart_19 : decode cX9_takesPart 19 = .ok (.iload_n 1, 1) := by decide +kernel
theorem dX9_takesPart_20 : decode cX9_takesPart 20 = .ok (.invokestatic 112, 3) := by decide +kernel
theorem dX9_takesPart_23 : decode cX9_takesPart 23 = .ok (.ifCond .ne 5, 3) := by decide +kernel
theorem dX9_takesPart_26 : decode cX9_takesPart 26 = .ok (.iconst 0, 1) := by decide +kernel
theorem dX9_takesPart_27 : decode cX9_takesPart 27 = .ok (.ireturn, 1) := by decide +kernel
theorem dX9_takesPart_28 : decode cX9_takesPart 28 = .ok (.aload_n 0, 1) := by decide +kernel
theorem dX9_takesPart_29 : decode cX9_takesPart 29 = .ok (.getfield 17, 3) := by decide +kernel
theorem dX9_takesPart_32 : decode cX9_takesPart 32 = .ok (.aload_n 0, 1) := by decide +kernel
theorem dX9_takesPart_33 : decode cX9_takesPart 33 = .ok (.getfield 81, 3) := by decide +kernel
theorem dX9_takesPart_36 : decode cX9_takesPart 36 = .ok (.iload_n 1, 1) := by decide +kernel
theorem dX9_takesPart_37 : decode cX9_takesPart 37 = .ok (.iastore, 1) := by decide +kernel
theorem dX9_takesPart_38 : decode cX9_takesPart 38 = .ok (.aload_n 0, 1) := by decide +kernel
theorem dX9_takesPart_39 : decode cX9_takesPart 39 = .ok (.dup, 1) := by decide +kernel
theorem dX9_takesPart_40 : decode cX9_takesPart 40 = .ok (.getfield 81, 3) := by decide +kernel
theorem dX9_takesPart_43 : decode cX9_takesPart 43 = .ok (.iconst 1, 1) := by decide +kernel
theorem dX9_takesPart_44 : decode cX9_takesPart 44 = .ok (.iadd, 1) := by decide +kernel
theorem dX9_takesPart_45 : decode cX9_takesPart 45 = .ok (.putfield 81, 3) := by decide +kernel
theorem dX9_takesPart_48 : decode cX9_takesPart 48 = .ok (.iconst 1, 1) := by decide +kernel
theorem dX9_takesPart_49 : decode cX9_takesPart 49 = .ok (.ireturn, 1) := by decide +kernel
theorem dX9_endsItem_0 : decode cX9_endsItem 0 = .ok (.aload_n 0, 1) := by decide +kernel
theorem dX9_endsItem_1 : decode cX9_endsItem 1 = .ok (.invokevirtual 116, 3) := by decide +kernel
theorem dX9_endsItem_4 : decode cX9_endsItem 4 = .ok (.ifCond .ne 5, 3) := by decide +kernel
theorem dX9_endsItem_7 : decode cX9_endsItem 7 = .ok (.iconst 0, 1) := by decide +kernel
theorem dX9_endsItem_8 : decode cX9_endsItem 8 = .ok (.ireturn, 1) := by decide +kernel
theorem dX9_endsItem_9 : decode cX9_endsItem 9 = .ok (.aload_n 0, 1) := by decide +kernel
theorem dX9_endsItem_10 : decode cX9_endsItem 10 = .ok (.getfield 29, 3) := by decide +kernel
theorem dX9_endsItem_13 : decode cX9_endsItem 13 = .ok (.bipush 100, 2) := by decide +kernel
theorem dX9_endsItem_15 : decode cX9_endsItem 15 = .ok (.if_icmp .ne 14, 3) := by decide +kernel
theorem dX9_endsItem_18 : decode cX9_endsItem 18 = .ok (.aload_n 1, 1) := by decide +kernel
theorem dX9_endsItem_19 : decode cX9_endsItem 19 = .ok (.getfield 73, 3) := by decide +kernel
theorem dX9_endsItem_22 : decode cX9_endsItem 22 = .ok (.aload_n 0, 1) := by decide +kernel
theorem dX9_endsItem_23 : decode cX9_endsItem 23 = .ok (.getfield 17, 3) := by decide +kernel
theorem dX9_endsItem_26 : decode cX9_endsItem 26 = .ok (.invokevirtual 119, 3) := by decide +kernel
theorem dX9_endsItem_29 : decode cX9_endsItem 29 = .ok (.aload_n 0, 1) := by decide +kernel
theorem dX9_endsItem_30 : decode cX9_endsItem 30 = .ok (.bipush 32, 2) := by decide +kernel
theorem dX9_endsItem_32 : decode cX9_endsItem 32 = .ok (.putfield 29, 3) := by decide +kernel
theorem dX9_endsItem_35 : decode cX9_endsItem 35 = .ok (.aload_n 0, 1) := by decide +kernel
theorem dX9_endsItem_36 : decode cX9_endsItem 36 = .ok (.dup, 1) := by decide +kernel
theorem dX9_endsItem_37 : decode cX9_endsItem 37 = .ok (.getfield 32, 3) := by decide +kernel
theorem dX9_endsItem_40 : decode cX9_endsItem 40 = .ok (.iconst 1, 1) := by decide +kernel
theorem dX9_endsItem_41 : decode cX9_endsItem 41 = .ok (.iadd, 1) := by decide +kernel
theorem dX9_endsItem_42 : decode cX9_endsItem 42 = .ok (.putfield 32, 3) := by decide +kernel
theorem dX9_endsItem_45 : decode cX9_endsItem 45 = .ok (.iconst 1, 1) := by decide +kernel
theorem dX9_endsItem_46 : decode cX9_endsItem 46 = .ok (.ireturn, 1) := by decide +kernel
theorem dX9_isWhole_0 : decode cX9_isWhole 0 = .ok (.aload_n 0, 1) := by decide +kernel
theorem dX9_isWhole_1 : decode cX9_isWhole 1 = .ok (.getfield 29, 3) := by decide +kernel
theorem dX9_isWhole_4 : decode cX9_isWhole 4 = .ok (.lookupswitch 73 #[(100, 59), (109, 57), (120, 44), (121, 44)], 44) := by decide +kernel
theorem dX9_isWhole_48 : decode cX9_isWhole 48 = .ok (.aload_n 0, 1) := by decide +kernel
theorem dX9_isWhole_49 : decode cX9_isWhole 49 = .ok (.getfield 81, 3) := by decide +kernel
theorem dX9_isWhole_52 : decode cX9_isWhole 52 = .ok (.ifCond .le 7, 3) := by decide +kernel
theorem dX9_isWhole_55 : decode cX9_isWhole 55 = .ok (.iconst 1, 1) := by decide +kernel
theorem dX9_isWhole_56 : decode cX9_isWhole 56 = .ok (.goto 4, 3) := by decide +kernel
theorem dX9_isWhole_59 : decode cX9_isWhole 59 = .ok (.iconst 0, 1) := by decide +kernel
theorem dX9_isWhole_60 : decode cX9_isWhole 60 = .ok (.ireturn, 1) := by decide +kernel
theorem dX9_isWhole_61 : decode cX9_isWhole 61 = .ok (.iconst 1, 1) := by decide +kernel
theorem dX9_isWhole_62 : decode cX9_isWhole 62 = .ok (.ireturn, 1) := by decide +kernel
theorem dX9_isWhole_63 : decode cX9_isWhole 63 = .ok (.aload_n 0, 1) := by decide +kernel
theorem dX9_isWhole_64 : decode cX9_isWhole 64 = .ok (.getfield 81, 3) := by decide +kernel
theorem dX9_isWhole_67 : decode cX9_isWhole 67 = .ok (.iconst 5, 1) := by decide +kernel
theorem dX9_isWhole_68 : decode cX9_isWhole 68 = .ok (.if_icmp .ne 7, 3) := by decide +kernel
theorem dX9_isWhole_71 : decode cX9_isWhole 71 = .ok (.iconst 1, 1) := by decide +kernel
theorem dX9_isWhole_72 : decode cX9_isWhole 72 = .ok (.goto 4, 3) := by decide +kernel
theorem dX9_isWhole_75 : decode cX9_isWhole 75 = .ok (.iconst 0, 1) := by decide +kernel
theorem dX9_isWhole_76 : decode cX9_isWhole 76 = .ok (.ireturn, 1) := by decide +kernel
theorem dX9_isWhole_77 : decode cX9_isWhole 77 = .ok (.iconst 0, 1) := by decide +kernel
theorem dX9_isWhole_78 : decode cX9_isWhole 78 = .ok (.ireturn, 1) := by decide +kernel
theorem dX10_init_0 : decode cX10_init 0 = .ok (.aload_n 0, 1) := by decide +kernel
theorem dX10_init_1 : decode cX10_init 1 = .ok (.invokespecial 3, 3) := by decide +kernel
theorem dX10_init_4 : decode cX10_init 4 = .ok (.aload_n 0, 1) := by decide +kernel
theorem dX10_init_5 : decode cX10_init 5 = .ok (.new 9, 3) := by decide +kernel
theorem dX10_init_8 : decode cX10_init 8 = .ok (.dup, 1) := by decide +kernel
theorem dX10_init_9 : decode cX10_init 9 = .ok (.invokespecial 11, 3) := by decide +kernel
theorem dX10_init_12 : decode cX10_init 12 = .ok (.putfield 12, 3) := by decide +kernel
theorem dX10_init_15 : decode cX10_init 15 = .ok (.aload_n 0, 1) := by decide +kernel
theorem dX10_init_16 : decode cX10_init 16 = .ok (.new 9, 3) := by decide +kernel
theorem dX10_init_19 : decode cX10_init 19 = .ok (.dup, 1) := by decide +kernel
theorem dX10_init_20 : decode cX10_init 20 = .ok (.invokespecial 11, 3) := by decide +kernel
theorem dX10_init_23 : decode cX10_init 23 = .ok (.putfield 16, 3) := by decide +kernel
theorem dX10_init_26 : decode cX10_init 26 = .ok (.aload_n 0, 1) := by decide +kernel
theorem dX10_init_27 : decode cX10_init 27 = .ok (.iconst 2, 1) := by decide +kernel
theorem dX10_init_28 : decode cX10_init 28 = .ok (.anewarray 9, 3) := by decide +kernel
theorem dX10_init_31 : decode cX10_init 31 = .ok (.putfield 19, 3) := by decide +kernel
theorem dX10_init_34 : decode cX10_init 34 = .ok (.aload_n 0, 1) := by decide +kernel
theorem dX10_init_35 : decode cX10_init 35 = .ok (.iconst 2, 1) := by decide +kernel
theorem dX10_init_36 : decode cX10_init 36 = .ok (.newarray .boolean, 2) := by decide +kernel
theorem dX10_init_38 : decode cX10_init 38 = .ok (.putfield 23, 3) := by decide +kernel
theorem dX10_init_41 : decode cX10_init 41 = .ok (.aload_n 0, 1) := by decide +kernel
theorem dX10_init_42 : decode cX10_init 42 = .ok (.new 27, 3) := by decide +kernel
theorem dX10_init_45 : decode cX10_init 45 = .ok (.dup, 1) := by decide +kernel
theorem dX10_init_46 : decode cX10_init 46 = .ok (.invokespecial 29, 3) := by decide +kernel
theorem dX10_init_49 : decode cX10_init 49 = .ok (.putfield 30, 3) := by decide +kernel
theorem dX10_init_52 : decode cX10_init 52 = .ok (.aload_n 0, 1) := by decide +kernel
theorem dX10_init_53 : decode cX10_init 53 = .ok (.new 34, 3) := by decide +kernel
theorem dX10_init_56 : decode cX10_init 56 = .ok (.dup, 1) := by decide +kernel
theorem dX10_init_57 : decode cX10_init 57 = .ok (.invokespecial 36, 3) := by decide +kernel
theorem dX10_init_60 : decode cX10_init 60 = .ok (.putfield 37, 3) := by decide +kernel
theorem dX10_init_63 : decode cX10_init 63 = .ok (.aload_n 0, 1) := by decide +kernel
theorem dX10_init_64 : decode cX10_init 64 = .ok (.new 41, 3) := by decide +kernel
theorem dX10_init_67 : decode cX10_init 67 = .ok (.dup, 1) := by decide +kernel
theorem dX10_init_68 : decode cX10_init 68 = .ok (.invokespecial 43, 3) := by decide +kernel
theorem dX10_init_71 : decode cX10_init 71 = .ok (.putfield 44, 3) := by decide +kernel
theorem dX10_init_74 : decode cX10_init 74 = .ok (.aload_n 0, 1) := by decide +kernel
theorem dX10_init_75 : decode cX10_init 75 = .ok (.new 48, 3) := by decide +kernel
theorem dX10_init_78 : decode cX10_init 78 = .ok (.dup, 1) := by decide +kernel
theorem dX10_init_79 : decode cX10_init 79 = .ok (.invokespecial 50, 3) := by decide +kernel
theorem dX10_init_82 : decode cX10_init 82 = .ok (.putfield 51, 3) := by decide +kernel
theorem dX10_init_85 : decode cX10_init 85 = .ok (.aload_n 0, 1) := by decide +kernel
theorem dX10_init_86 : decode cX10_init 86 = .ok (.new 48, 3) := by decide +kernel
theorem dX10_init_89 : decode cX10_init 89 = .ok (.dup, 1) := by decide +kernel
theorem dX10_init_90 : decode cX10_init 90 = .ok (.invokespecial 50, 3) := by decide +kernel
theorem dX10_init_93 : decode cX10_init 93 = .ok (.putfield 55, 3) := by decide +kernel
theorem dX10_init_96 : decode cX10_init 96 = .ok (.aload_n 0, 1) := by decide +kernel
theorem dX10_init_97 : decode cX10_init 97 = .ok (.new 58, 3) := by decide +kernel
theorem dX10_init_100 : decode cX10_init 100 = .ok (.dup, 1) := by decide +kernel
theorem dX10_init_101 : decode cX10_init 101 = .ok (.invokespecial 60, 3) := by decide +kernel
theorem dX10_init_104 : decode cX10_init 104 = .ok (.putfield 61, 3) := by decide +kernel
theorem dX10_init_107 : decode cX10_init 107 = .ok (.aload_n 0, 1) := by decide +kernel
theorem dX10_init_108 : decode cX10_init 108 = .ok (.iconst 5, 1) := by decide +kernel
theorem dX10_init_109 : decode cX10_init 109 = .ok (.newarray .int, 2) := by decide +kernel
theorem dX10_init_111 : decode cX10_init 111 = .ok (.putfield 67, 3) := by decide +kernel
theorem dX10_init_114 : decode cX10_init 114 = .ok (.aload_n 0, 1) := by decide +kernel
theorem dX10_init_115 : decode cX10_init 115 = .ok (.new 71, 3) := by decide +kernel
theorem dX10_init_118 : decode cX10_init 118 = .ok (.dup, 1) := by decide +kernel
theorem dX10_init_119 : decode cX10_init 119 = .ok (.invokespecial 73, 3) := by decide +kernel
theorem dX10_init_122 : decode cX10_init 122 = .ok (.putfield 74, 3) := by decide +kernel
theorem dX10_init_125 : decode cX10_init 125 = .ok (.aload_n 0, 1) := by decide +kernel
theorem dX10_init_126 : decode cX10_init 126 = .ok (.new 71, 3) := by decide +kernel
theorem dX10_init_129 : decode cX10_init 129 = .ok (.dup, 1) := by decide +kernel
theorem dX10_init_130 : decode cX10_init 130 = .ok (.invokespecial 73, 3) := by decide +kernel
theorem dX10_init_133 : decode cX10_init 133 = .ok (.putfield 78, 3) := by decide +kernel
theorem dX10_init_136 : decode cX10_init 136 = .ok (.iconst 0, 1) := by decide +kernel
theorem dX10_init_137 : decode cX10_init 137 = .ok (.istore_n 1, 1) := by decide +kernel
theorem dX10_init_138 : decode cX10_init 138 = .ok (.iload_n 1, 1) := by decide +kernel
theorem dX10_init_139 : decode cX10_init 139 = .ok (.iconst 2, 1) := by decide +kernel
theorem dX10_init_140 : decode cX10_init 140 = .ok (.if_icmp .ge 22, 3) := by decide +kernel
theorem dX10_init_143 : decode cX10_init 143 = .ok (.aload_n 0, 1) := by decide +kernel
theorem dX10_init_144 : decode cX10_init 144 = .ok (.getfield 19, 3) := by decide +kernel
theorem dX10_init_147 : decode cX10_init 147 = .ok (.iload_n 1, 1) := by decide +kernel
theorem dX10_init_148 : decode cX10_init 148 = .ok (.new 9, 3) := by decide +kernel
theorem dX10_init_151 : decode cX10_init 151 = .ok (.dup, 1) := by decide +kernel
theorem dX10_init_152 : decode cX10_init 152 = .ok (.invokespecial 11, 3) := by decide +kernel
theorem dX10_init_155 : decode cX10_init 155 = .ok (.aastore, 1) := by decide +kernel
theorem dX10_init_156 : decode cX10_init 156 = .ok (.iinc 1 1, 3) := by decide +kernel
theorem dX10_init_159 : decode cX10_init 159 = .ok (.goto (-21), 3) := by decide +kernel
theorem dX10_init_162 : decode cX10_init 162 = .ok (.return_, 1) := by decide +kernel
theorem dX10_type_0 : decode cX10_type 0 = .ok (.iload_n 1, 1) := by decide +kernel
theorem dX10_type_1 : decode cX10_type 1 = .ok (.ifCond .lt 10, 3) := by decide +kernel
theorem dX10_type_4 : decode cX10_type 4 = .ok (.iload_n 1, 1) := by decide +kernel
theorem dX10_type_5 : decode cX10_type 5 = .ok (.sipush 255, 3) := by decide +kernel
theorem dX10_type_8 : decode cX10_type 8 = .ok (.if_icmp .le 5, 3) := by decide +kernel
theorem dX10_type_11 : decode cX10_type 11 = .ok (.iconst (-1), 1) := by decide +kernel
theorem dX10_type_12 : decode cX10_type 12 = .ok (.ireturn, 1) := by decide +kernel
theorem dX10_type_13 : decode cX10_type 13 = .ok (.aload_n 0, 1) := by decide +kernel
theorem dX10_type_14 : decode cX10_type 14 = .ok (.getfield 37, 3) := by decide +kernel
theorem dX10_type_17 : decode cX10_type 17 = .ok (.iload_n 1, 1) := by decide +kernel
theorem dX10_type_18 : decode cX10_type 18 = .ok (.invokevirtual 81, 3) := by decide +kernel
theorem dX10_type_21 : decode cX10_type 21 = .ok (.ifCond .eq 13, 3) := by decide +kernel
theorem dX10_type_24 : decode cX10_type 24 = .ok (.aload_n 0, 1) := by decide +kernel
theorem dX10_type_25 : decode cX10_type 25 = .ok (.getfield 37, 3) := by decide +kernel
theorem dX10_type_28 : decode cX10_type 28 = .ok (.getfield 85, 3) := by decide +kernel
theorem dX10_type_31 : decode cX10_type 31 = .ok (.goto 5, 3) := by decide +kernel
theorem dX10_type_34 : decode cX10_type 34 = .ok (.bipush (-3), 2) := by decide +kernel
theorem dX10_type_36 : decode cX10_type 36 = .ok (.ireturn, 1) := by decide +kernel
theorem dX10_clear_0 : decode cX10_clear 0 = .ok (.aload_n 0, 1) := by decide +kernel
theorem dX10_clear_1 : decode cX10_clear 1 = .ok (.getfield 37, 3) := by decide +kernel
theorem dX10_clear_4 : decode cX10_clear 4 = .ok (.getfield 85, 3) := by decide +kernel
theorem dX10_clear_7 : decode cX10_clear 7 = .ok (.istore_n 1, 1) := by decide +kernel
theorem dX10_clear_8 : decode cX10_clear 8 = .ok (.aload_n 0, 1) := by decide +kernel
theorem dX10_clear_9 : decode cX10_clear 9 = .ok (.getfield 37, 3) := by decide +kernel
theorem dX10_clear_12 : decode cX10_clear 12 = .ok (.iconst 0, 1) := by decide +kernel
theorem dX10_clear_13 : decode cX10_clear 13 = .ok (.putfield 85, 3) := by decide +kernel
theorem dX10_clear_16 : decode cX10_clear 16 = .ok (.iload_n 1, 1) := by decide +kernel
theorem dX10_clear_17 : decode cX10_clear 17 = .ok (.ireturn, 1) := by decide +kernel
theorem dX10_block_0 : decode cX10_block 0 = .ok (.aload_n 0, 1) := by decide +kernel
theorem dX10_block_1 : decode cX10_block 1 = .ok (.getfield 16, 3) := by decide +kernel
theorem dX10_block_4 : decode cX10_block 4 = .ok (.aload_n 0, 1) := by decide +kernel
theorem dX10_block_5 : decode cX10_block 5 = .ok (.getfield 12, 3) := by decide +kernel
theorem dX10_block_8 : decode cX10_block 8 = .ok (.invokevirtual 89, 3) := by decide +kernel
theorem dX10_block_11 : decode cX10_block 11 = .ok (.aload_n 0, 1) := by decide +kernel
theorem dX10_block_12 : decode cX10_block 12 = .ok (.getfield 37, 3) := by decide +kernel
theorem dX10_block_15 : decode cX10_block 15 = .ok (.aload_n 0, 1) := by decide +kernel
theorem dX10_block_16 : decode cX10_block 16 = .ok (.getfield 16, 3) := by decide +kernel
theorem dX10_block_19 : decode cX10_block 19 = .ok (.invokevirtual 93, 3) := by decide +kernel
theorem dX10_block_22 : decode cX10_block 22 = .ok (.istore_n 1, 1) := by decide +kernel
theorem dX10_block_23 : decode cX10_block 23 = .ok (.iload_n 1, 1) := by decide +kernel
theorem dX10_block_24 : decode cX10_block 24 = .ok (.ifCond .ge 5, 3) := by decide +kernel
theorem dX10_block_27 : decode cX10_block 27 = .ok (.iload_n 1, 1) := by decide +kernel
theorem dX10_block_28 : decode cX10_block 28 = .ok (.ireturn, 1) := by decide +kernel
theorem dX10_block_29 : decode cX10_block 29 = .ok (.aload_n 0, 1) := by decide +kernel
theorem dX10_block_30 : decode cX10_block 30 = .ok (.getfield 30, 3) := by decide +kernel
theorem dX10_block_33 : decode cX10_block 33 = .ok (.aload_n 0, 1) := by decide +kernel
theorem dX10_block_34 : decode cX10_block 34 = .ok (.getfield 12, 3) := by decide +kernel
theorem dX10_block_37 : decode cX10_block 37 = .ok (.invokevirtual 97, 3) := by decide +kernel
theorem dX10_block_40 : decode cX10_block 40 = .ok (.aload_n 0, 1) := by decide +kernel
theorem dX10_block_41 : decode cX10_block 41 = .ok (.getfield 12, 3) := by decide +kernel
theorem dX10_block_44 : decode cX10_block 44 = .ok (.aload_n 0, 1) := by decide +kernel
theorem dX10_block_45 : decode cX10_block 45 = .ok (.getfield 16, 3) := by decide +kernel
theorem dX10_block_48 : decode cX10_block 48 = .ok (.invokevirtual 89, 3) := by decide +kernel
theorem dX10_block_51 : decode cX10_block 51 = .ok (.aload_n 0, 1) := by decide +kernel
theorem dX10_block_52 : decode cX10_block 52 = .ok (.getfield 37, 3) := by decide +kernel
theorem dX10_block_55 : decode cX10_block 55 = .ok (.iconst 0, 1) := by decide +kernel
theorem dX10_block_56 : decode cX10_block 56 = .ok (.putfield 85, 3) := by decide +kernel
theorem dX10_block_59 : decode cX10_block 59 = .ok (.aload_n 0, 1) := by decide +kernel
theorem dX10_block_60 : decode cX10_block 60 = .ok (.getfield 44, 3) := by decide +kernel
theorem dX10_block_63 : decode cX10_block 63 = .ok (.iconst 0, 1) := by decide +kernel
theorem dX10_block_64 : decode cX10_block 64 = .ok (.putfield 100, 3) := by decide +kernel
theorem dX10_block_67 : decode cX10_block 67 = .ok (.iload_n 1, 1) := by decide +kernel
theorem dX10_block_68 : decode cX10_block 68 = .ok (.ireturn, 1) := by decide +kernel
theorem dX10_sends_0 : decode cX10_sends 0 = .ok (.iload_n 1, 1) := by decide +kernel
theorem dX10_sends_1 : decode cX10_sends 1 = .ok (.iload_n 2, 1) := by decide +kernel
theorem dX10_sends_2 : decode cX10_sends 2 = .ok (.invokestatic 103, 3) := by decide +kernel
theorem dX10_sends_5 : decode cX10_sends 5 = .ok (.ifCond .eq 10, 3) := by decide +kernel
theorem dX10_sends_8 : decode cX10_sends 8 = .ok (.iload_n 3, 1) := by decide +kernel
theorem dX10_sends_9 : decode cX10_sends 9 = .ok (.invokestatic 107, 3) := by decide +kernel
theorem dX10_sends_12 : decode cX10_sends 12 = .ok (.ifCond .ne 5, 3) := by decide +kernel
theorem dX10_sends_15 : decode cX10_sends 15 = .ok (.iconst (-1), 1) := by decide +kernel
theorem dX10_sends_16 : decode cX10_sends 16 = .ok (.ireturn, 1) := by decide +kernel
theorem dX10_sends_17 : decode cX10_sends 17 = .ok (.aload_n 0, 1) := by decide +kernel
theorem dX10_sends_18 : decode cX10_sends 18 = .ok (.getfield 12, 3) := by decide +kernel
theorem dX10_sends_21 : decode cX10_sends 21 = .ok (.getfield 110, 3) := by decide +kernel
theorem dX10_sends_24 : decode cX10_sends 24 = .ok (.iload_n 1, 1) := by decide +kernel
theorem dX10_sends_25 : decode cX10_sends 25 = .ok (.bipush 16, 2) := by decide +kernel
theorem dX10_sends_27 : decode cX10_sends 27 = .ok (.imul, 1) := by decide +kernel
theorem dX10_sends_28 : decode cX10_sends 28 = .ok (.iload_n 2, 1) := by decide +kernel
theorem dX10_sends_29 : decode cX10_sends 29 = .ok (.iadd, 1) := by decide +kernel
theorem dX10_sends_30 : decode cX10_sends 30 = .ok (.iaload, 1) := by decide +kernel
theorem dX10_sends_31 : decode cX10_sends 31 = .ok (.istore 4, 2) := by decide +kernel
theorem dX10_sends_33 : decode cX10_sends 33 = .ok (.iload 4, 2) := by decide +kernel
theorem dX10_sends_35 : decode cX10_sends 35 = .ok (.iload_n 3, 1) := by decide +kernel
theorem dX10_sends_36 : decode cX10_sends 36 = .ok (.if_icmp .ne 6, 3) := by decide +kernel
theorem dX10_sends_39 : decode cX10_sends 39 = .ok (.bipush (-2), 2) := by decide +kernel
theorem dX10_sends_41 : decode cX10_sends 41 = .ok (.ireturn, 1) := by decide +kernel
theorem dX10_sends_42 : decode cX10_sends 42 = .ok (.aload_n 0, 1) := by decide +kernel
theorem dX10_sends_43 : decode cX10_sends 43 = .ok (.getfield 30, 3) := by decide +kernel
theorem dX10_sends_46 : decode cX10_sends 46 = .ok (.aload_n 0, 1) := by decide +kernel
theorem dX10_sends_47 : decode cX10_sends 47 = .ok (.getfield 12, 3) := by decide +kernel
theorem dX10_sends_50 : decode cX10_sends 50 = .ok (.invokevirtual 97, 3) := by decide +kernel
theorem dX10_sends_53 : decode cX10_sends 53 = .ok (.aload_n 0, 1) := by decide +kernel
theorem dX10_sends_54 : decode cX10_sends 54 = .ok (.getfield 12, 3) := by decide +kernel
theorem dX10_sends_57 : decode cX10_sends 57 = .ok (.getfield 110, 3) := by decide +kernel
theorem dX10_sends_60 : decode cX10_sends 60 = .ok (.iload_n 1, 1) := by decide +kernel
theorem dX10_sends_61 : decode cX10_sends 61 = .ok (.bipush 16, 2) := by decide +kernel
theorem dX10_sends_63 : decode cX10_sends 63 = .ok (.imul, 1) := by decide +kernel
theorem dX10_sends_64 : decode cX10_sends 64 = .ok (.iload_n 2, 1) := by decide +kernel
theorem dX10_sends_65 : decode cX10_sends 65 = .ok (.iadd, 1) := by decide +kernel
theorem dX10_sends_66 : decode cX10_sends 66 = .ok (.iload_n 3, 1) := by decide +kernel
theorem dX10_sends_67 : decode cX10_sends 67 = .ok (.iastore, 1) := by decide +kernel
theorem dX10_sends_68 : decode cX10_sends 68 = .ok (.iload 4, 2) := by decide +kernel
theorem dX10_sends_70 : decode cX10_sends 70 = .ok (.ireturn, 1) := by decide +kernel
theorem dX10_marks_0 : decode cX10_marks 0 = .ok (.iload_n 1, 1) := by decide +kernel
theorem dX10_marks_1 : decode cX10_marks 1 = .ok (.invokestatic 113, 3) := by decide +kernel
theorem dX10_marks_4 : decode cX10_marks 4 = .ok (.ifCond .eq 12, 3) := by decide +kernel
theorem dX10_marks_7 : decode cX10_marks 7 = .ok (.iload_n 2, 1) := by decide +kernel
theorem dX10_marks_8 : decode cX10_marks 8 = .ok (.ifCond .lt 8, 3) := by decide +kernel
theorem dX10_marks_11 : decode cX10_marks 11 = .ok (.iload_n 2, 1) := by decide +kernel
theorem dX10_marks_12 : decode cX10_marks 12 = .ok (.iconst 1, 1) := by decide +kernel
theorem dX10_marks_13 : decode cX10_marks 13 = .ok (.if_icmp .le 5, 3) := by decide +kernel
theorem dX10_marks_16 : decode cX10_marks 16 = .ok (.iconst (-1), 1) := by decide +kernel
theorem dX10_marks_17 : decode cX10_marks 17 = .ok (.ireturn, 1) := by decide +kernel
theorem dX10_marks_18 : decode cX10_marks 18 = .ok (.aload_n 0, 1) := by decide +kernel
theorem dX10_marks_19 : decode cX10_marks 19 = .ok (.getfield 12, 3) := by decide +kernel
theorem dX10_marks_22 : decode cX10_marks 22 = .ok (.iload_n 1, 1) := by decide +kernel
theorem dX10_marks_23 : decode cX10_marks 23 = .ok (.invokevirtual 116, 3) := by decide +kernel
theorem dX10_marks_26 : decode cX10_marks 26 = .ok (.iload_n 2, 1) := by decide +kernel
theorem dX10_marks_27 : decode cX10_marks 27 = .ok (.iconst 1, 1) := by decide +kernel
theorem dX10_marks_28 : decode cX10_marks 28 = .ok (.if_icmp .ne 7, 3) := by decide +kernel
theorem dX10_marks_31 : decode cX10_marks 31 = .ok (.iconst 1, 1) := by decide +kernel
theorem dX10_marks_32 : decode cX10_marks 32 = .ok (.goto 4, 3) := by decide +kernel
theorem dX10_marks_35 : decode cX10_marks 35 = .ok (.iconst 0, 1) := by decide +kernel
theorem dX10_marks_36 : decode cX10_marks 36 = .ok (.if_icmp .ne 6, 3) := by decide +kernel
theorem dX10_marks_39 : decode cX10_marks 39 = .ok (.bipush (-2), 2) := by decide +kernel
theorem dX10_marks_41 : decode cX10_marks 41 = .ok (.ireturn, 1) := by decide +kernel
theorem dX10_marks_42 : decode cX10_marks 42 = .ok (.aload_n 0, 1) := by decide +kernel
theorem dX10_marks_43 : decode cX10_marks 43 = .ok (.getfield 30, 3) := by decide +kernel
theorem dX10_marks_46 : decode cX10_marks 46 = .ok (.aload_n 0, 1) := by decide +kernel
theorem dX10_marks_47 : decode cX10_marks 47 = .ok (.getfield 12, 3) := by decide +kernel
theorem dX10_marks_50 : decode cX10_marks 50 = .ok (.invokevirtual 97, 3) := by decide +kernel
theorem dX10_marks_53 : decode cX10_marks 53 = .ok (.aload_n 0, 1) := by decide +kernel
theorem dX10_marks_54 : decode cX10_marks 54 = .ok (.getfield 12, 3) := by decide +kernel
theorem dX10_marks_57 : decode cX10_marks 57 = .ok (.iload_n 1, 1) := by decide +kernel
theorem dX10_marks_58 : decode cX10_marks 58 = .ok (.iload_n 2, 1) := by decide +kernel
theorem dX10_marks_59 : decode cX10_marks 59 = .ok (.iconst 1, 1) := by decide +kernel
theorem dX10_marks_60 : decode cX10_marks 60 = .ok (.if_icmp .ne 7, 3) := by decide +kernel
theorem dX10_marks_63 : decode cX10_marks 63 = .ok (.iconst 1, 1) := by decide +kernel
theorem dX10_marks_64 : decode cX10_marks 64 = .ok (.goto 4, 3) := by decide +kernel
theorem dX10_marks_67 : decode cX10_marks 67 = .ok (.iconst 0, 1) := by decide +kernel
theorem dX10_marks_68 : decode cX10_marks 68 = .ok (.invokevirtual 119, 3) := by decide +kernel
theorem dX10_marks_71 : decode cX10_marks 71 = .ok (.aload_n 0, 1) := by decide +kernel
theorem dX10_marks_72 : decode cX10_marks 72 = .ok (.getfield 12, 3) := by decide +kernel
theorem dX10_marks_75 : decode cX10_marks 75 = .ok (.getfield 123, 3) := by decide +kernel
theorem dX10_marks_78 : decode cX10_marks 78 = .ok (.invokestatic 126, 3) := by decide +kernel
theorem dX10_marks_81 : decode cX10_marks 81 = .ok (.ireturn, 1) := by decide +kernel
theorem dX10_adds_0 : decode cX10_adds 0 = .ok (.aload_n 0, 1) := by decide +kernel
theorem dX10_adds_1 : decode cX10_adds 1 = .ok (.iload_n 1, 1) := by decide +kernel
theorem dX10_adds_2 : decode cX10_adds 2 = .ok (.iload_n 2, 1) := by decide +kernel
theorem dX10_adds_3 : decode cX10_adds 3 = .ok (.iload_n 3, 1) := by decide +kernel
theorem dX10_adds_4 : decode cX10_adds 4 = .ok (.iload 4, 2) := by decide +kernel
theorem dX10_adds_6 : decode cX10_adds 6 = .ok (.iload 5, 2) := by decide +kernel
theorem dX10_adds_8 : decode cX10_adds 8 = .ok (.invokevirtual 132, 3) := by decide +kernel
theorem dX10_adds_11 : decode cX10_adds 11 = .ok (.getstatic 136, 3) := by decide +kernel
theorem dX10_adds_14 : decode cX10_adds 14 = .ok (.aload_n 0, 1) := by decide +kernel
theorem dX10_adds_15 : decode cX10_adds 15 = .ok (.getfield 67, 3) := by decide +kernel
theorem dX10_adds_18 : decode cX10_adds 18 = .ok (.invokestatic 139, 3) := by decide +kernel
theorem dX10_adds_21 : decode cX10_adds 21 = .ok (.ifCond .ne 5, 3) := by decide +kernel
theorem dX10_adds_24 : decode cX10_adds 24 = .ok (.iconst (-1), 1) := by decide +kernel
theorem dX10_adds_25 : decode cX10_adds 25 = .ok (.ireturn, 1) := by decide +kernel
theorem dX10_adds_26 : decode cX10_adds 26 = .ok (.aload_n 0, 1) := by decide +kernel
theorem dX10_adds_27 : decode cX10_adds 27 = .ok (.aload_n 0, 1) := by decide +kernel
theorem dX10_adds_28 : decode cX10_adds 28 = .ok (.getfield 12, 3) := by decide +kernel
theorem dX10_adds_31 : decode cX10_adds 31 = .ok (.getfield 143, 3) := by decide +kernel
theorem dX10_adds_34 : decode cX10_adds 34 = .ok (.invokevirtual 147, 3) := by decide +kernel
theorem dX10_adds_37 : decode cX10_adds 37 = .ok (.ireturn, 1) := by decide +kernel
theorem dX10_cuts_0 : decode cX10_cuts 0 = .ok (.aload_n 0, 1) := by decide +kernel
theorem dX10_cuts_1 : decode cX10_cuts 1 = .ok (.getfield 12, 3) := by decide +kernel
theorem dX10_cuts_4 : decode cX10_cuts 4 = .ok (.getfield 143, 3) := by decide +kernel
theorem dX10_cuts_7 : decode cX10_cuts 7 = .ok (.getfield 151, 3) := by decide +kernel
theorem dX10_cuts_10 : decode cX10_cuts 10 = .ok (.istore_n 1, 1) := by decide +kernel
theorem dX10_cuts_11 : decode cX10_cuts 11 = .ok (.iload_n 1, 1) := by decide +kernel
theorem dX10_cuts_12 : decode cX10_cuts 12 = .ok (.ifCond .ne 6, 3) := by decide +kernel
theorem dX10_cuts_15 : decode cX10_cuts 15 = .ok (.bipush (-2), 2) := by decide +kernel
theorem dX10_cuts_17 : decode cX10_cuts 17 = .ok (.ireturn, 1) := by decide +kernel
theorem dX10_cuts_18 : decode cX10_cuts 18 = .ok (.aload_n 0, 1) := by decide +kernel
theorem dX10_cuts_19 : decode cX10_cuts 19 = .ok (.getfield 30, 3) := by decide +kernel
theorem dX10_cuts_22 : decode cX10_cuts 22 = .ok (.aload_n 0, 1) := by decide +kernel
theorem dX10_cuts_23 : decode cX10_cuts 23 = .ok (.getfield 12, 3) := by decide +kernel
theorem dX10_cuts_26 : decode cX10_cuts 26 = .ok (.invokevirtual 97, 3) := by decide +kernel
theorem dX10_cuts_29 : decode cX10_cuts 29 = .ok (.aload_n 0, 1) := by decide +kernel
theorem dX10_cuts_30 : decode cX10_cuts 30 = .ok (.getfield 12, 3) := by decide +kernel
theorem dX10_cuts_33 : decode cX10_cuts 33 = .ok (.getfield 143, 3) := by decide +kernel
theorem dX10_cuts_36 : decode cX10_cuts 36 = .ok (.iload_n 1, 1) := by decide +kernel
theorem dX10_cuts_37 : decode cX10_cuts 37 = .ok (.iconst 1, 1) := by decide +kernel
theorem dX10_cuts_38 : decode cX10_cuts 38 = .ok (.isub, 1) := by decide +kernel
theorem dX10_cuts_39 : decode cX10_cuts 39 = .ok (.invokevirtual 152, 3) := by decide +kernel
theorem dX10_cuts_42 : decode cX10_cuts 42 = .ok (.iload_n 1, 1) := by decide +kernel
theorem dX10_cuts_43 : decode cX10_cuts 43 = .ok (.iconst 1, 1) := by decide +kernel
theorem dX10_cuts_44 : decode cX10_cuts 44 = .ok (.isub, 1) := by decide +kernel
theorem dX10_cuts_45 : decode cX10_cuts 45 = .ok (.ireturn, 1) := by decide +kernel
theorem dX10_stages_0 : decode cX10_stages 0 = .ok (.aload_n 0, 1) := by decide +kernel
theorem dX10_stages_1 : decode cX10_stages 1 = .ok (.iload_n 1, 1) := by decide +kernel
theorem dX10_stages_2 : decode cX10_stages 2 = .ok (.iload_n 2, 1) := by decide +kernel
theorem dX10_stages_3 : decode cX10_stages 3 = .ok (.iload_n 3, 1) := by decide +kernel
theorem dX10_stages_4 : decode cX10_stages 4 = .ok (.iload 4, 2) := by decide +kernel
theorem dX10_stages_6 : decode cX10_stages 6 = .ok (.iload 5, 2) := by decide +kernel
theorem dX10_stages_8 : decode cX10_stages 8 = .ok (.invokevirtual 132, 3) := by decide +kernel
theorem dX10_stages_11 : decode cX10_stages 11 = .ok (.getstatic 156, 3) := by decide +kernel
theorem dX10_stages_14 : decode cX10_stages 14 = .ok (.aload_n 0, 1) := by decide +kernel
theorem dX10_stages_15 : decode cX10_stages 15 = .ok (.getfield 67, 3) := by decide +kernel
theorem dX10_stages_18 : decode cX10_stages 18 = .ok (.invokestatic 139, 3) := by decide +kernel
theorem dX10_stages_21 : decode cX10_stages 21 = .ok (.ifCond .ne 5, 3) := by decide +kernel
theorem dX10_stages_24 : decode cX10_stages 24 = .ok (.iconst (-1), 1) := by decide +kernel
theorem dX10_stages_25 : decode cX10_stages 25 = .ok (.ireturn, 1) := by decide +kernel
theorem dX10_stages_26 : decode cX10_stages 26 = .ok (.aload_n 0, 1) := by decide +kernel
theorem dX10_stages_27 : decode cX10_stages 27 = .ok (.aload_n 0, 1) := by decide +kernel
theorem dX10_stages_28 : decode cX10_stages 28 = .ok (.getfield 12, 3) := by decide +kernel
theorem dX10_stages_31 : decode cX10_stages 31 = .ok (.getfield 159, 3) := by decide +kernel
theorem dX10_stages_34 : decode cX10_stages 34 = .ok (.invokevirtual 147, 3) := by decide +kernel
theorem dX10_stages_37 : decode cX10_stages 37 = .ok (.ireturn, 1) := by decide +kernel
theorem dX10_drops_0 : decode cX10_drops 0 = .ok (.aload_n 0, 1) := by decide +kernel
theorem dX10_drops_1 : decode cX10_drops 1 = .ok (.getfield 12, 3) := by decide +kernel
theorem dX10_drops_4 : decode cX10_drops 4 = .ok (.getfield 159, 3) := by decide +kernel
theorem dX10_drops_7 : decode cX10_drops 7 = .ok (.getfield 151, 3) := by decide +kernel
theorem dX10_drops_10 : decode cX10_drops 10 = .ok (.istore_n 2, 1) := by decide +kernel
theorem dX10_drops_11 : decode cX10_drops 11 = .ok (.iload_n 1, 1) := by decide +kernel
theorem dX10_drops_12 : decode cX10_drops 12 = .ok (.ifCond .lt 8, 3) := by decide +kernel
theorem dX10_drops_15 : decode cX10_drops 15 = .ok (.iload_n 1, 1) := by decide +kernel
theorem dX10_drops_16 : decode cX10_drops 16 = .ok (.iload_n 2, 1) := by decide +kernel
theorem dX10_drops_17 : decode cX10_drops 17 = .ok (.if_icmp .lt 5, 3) := by decide +kernel
theorem dX10_drops_20 : decode cX10_drops 20 = .ok (.iconst (-1), 1) := by decide +kernel
theorem dX10_drops_21 : decode cX10_drops 21 = .ok (.ireturn, 1) := by decide +kernel
theorem dX10_drops_22 : decode cX10_drops 22 = .ok (.aload_n 0, 1) := by decide +kernel
theorem dX10_drops_23 : decode cX10_drops 23 = .ok (.getfield 30, 3) := by decide +kernel
theorem dX10_drops_26 : decode cX10_drops 26 = .ok (.aload_n 0, 1) := by decide +kernel
theorem dX10_drops_27 : decode cX10_drops 27 = .ok (.getfield 12, 3) := by decide +kernel
theorem dX10_drops_30 : decode cX10_drops 30 = .ok (.invokevirtual 97, 3) := by decide +kernel
theorem dX10_drops_33 : decode cX10_drops 33 = .ok (.aload_n 0, 1) := by decide +kernel
theorem dX10_drops_34 : decode cX10_drops 34 = .ok (.getfield 12, 3) := by decide +kernel
theorem dX10_drops_37 : decode cX10_drops 37 = .ok (.getfield 159, 3) := by decide +kernel
theorem dX10_drops_40 : decode cX10_drops 40 = .ok (.iload_n 1, 1) := by decide +kernel
theorem dX10_drops_41 : decode cX10_drops 41 = .ok (.invokevirtual 152, 3) := by decide +kernel
theorem dX10_drops_44 : decode cX10_drops 44 = .ok (.iload_n 2, 1) := by decide +kernel
theorem dX10_drops_45 : decode cX10_drops 45 = .ok (.iconst 1, 1) := by decide +kernel
theorem dX10_drops_46 : decode cX10_drops 46 = .ok (.isub, 1) := by decide +kernel
theorem dX10_drops_47 : decode cX10_drops 47 = .ok (.ireturn, 1) := by decide +kernel
theorem dX10_learns_0 : decode cX10_learns 0 = .ok (.iload_n 1, 1) := by decide +kernel
theorem dX10_learns_1 : decode cX10_learns 1 = .ok (.iload_n 2, 1) := by decide +kernel
theorem dX10_learns_2 : decode cX10_learns 2 = .ok (.invokestatic 162, 3) := by decide +kernel
theorem dX10_learns_5 : decode cX10_learns 5 = .ok (.ifCond .ne 5, 3) := by decide +kernel
theorem dX10_learns_8 : decode cX10_learns 8 = .ok (.iconst (-1), 1) := by decide +kernel
theorem dX10_learns_9 : decode cX10_learns 9 = .ok (.ireturn, 1) := by decide +kernel
theorem dX10_learns_10 : decode cX10_learns 10 = .ok (.aload_n 0, 1) := by decide +kernel
theorem dX10_learns_11 : decode cX10_learns 11 = .ok (.iload_n 1, 1) := by decide +kernel
theorem dX10_learns_12 : decode cX10_learns 12 = .ok (.iload_n 2, 1) := by decide +kernel
theorem dX10_learns_13 : decode cX10_learns 13 = .ok (.invokevirtual 165, 3) := by decide +kernel
theorem dX10_learns_16 : decode cX10_learns 16 = .ok (.ifCond .ne 6, 3) := by decide +kernel
theorem dX10_learns_19 : decode cX10_learns 19 = .ok (.bipush (-2), 2) := by decide +kernel
theorem dX10_learns_21 : decode cX10_learns 21 = .ok (.ireturn, 1) := by decide +kernel
theorem dX10_learns_22 : decode cX10_learns 22 = .ok (.aload_n 0, 1) := by decide +kernel
theorem dX10_learns_23 : decode cX10_learns 23 = .ok (.getfield 74, 3) := by decide +kernel
theorem dX10_learns_26 : decode cX10_learns 26 = .ok (.invokevirtual 168, 3) := by decide +kernel
theorem dX10_learns_29 : decode cX10_learns 29 = .ok (.aload_n 0, 1) := by decide +kernel
theorem dX10_learns_30 : decode cX10_learns 30 = .ok (.iconst 1, 1) := by decide +kernel
theorem dX10_learns_31 : decode cX10_learns 31 = .ok (.aload_n 0, 1) := by decide +kernel
theorem dX10_learns_32 : decode cX10_learns 32 = .ok (.getfield 74, 3) := by decide +kernel
theorem dX10_learns_35 : decode cX10_learns 35 = .ok (.getfield 171, 3) := by decide +kernel
theorem dX10_learns_38 : decode cX10_learns 38 = .ok (.aload_n 0, 1) := by decide +kernel
theorem dX10_learns_39 : decode cX10_learns 39 = .ok (.getfield 74, 3) := by decide +kernel
theorem dX10_learns_42 : decode cX10_learns 42 = .ok (.getfield 174, 3) := by decide +kernel
theorem dX10_learns_45 : decode cX10_learns 45 = .ok (.aload_n 0, 1) := by decide +kernel
theorem dX10_learns_46 : decode cX10_learns 46 = .ok (.getfield 74, 3) := by decide +kernel
theorem dX10_learns_49 : decode cX10_learns 49 = .ok (.getfield 177, 3) := by decide +kernel
theorem dX10_learns_52 : decode cX10_learns 52 = .ok (.aload_n 0, 1) := by decide +kernel
theorem dX10_learns_53 : decode cX10_learns 53 = .ok (.getfield 74, 3) := by decide +kernel
theorem dX10_learns_56 : decode cX10_learns 56 = .ok (.getfield 180, 3) := by decide +kernel
theorem dX10_learns_59 : decode cX10_learns 59 = .ok (.invokevirtual 132, 3) := by decide +kernel
theorem dX10_learns_62 : decode cX10_learns 62 = .ok (.aload_n 0, 1) := by decide +kernel
theorem dX10_learns_63 : decode cX10_learns 63 = .ok (.aload_n 0, 1) := by decide +kernel
theorem dX10_learns_64 : decode cX10_learns 64 = .ok (.getfield 12, 3) := by decide +kernel
theorem dX10_learns_67 : decode cX10_learns 67 = .ok (.getfield 159, 3) := by decide +kernel
theorem dX10_learns_70 : decode cX10_learns 70 = .ok (.invokevirtual 147, 3) := by decide +kernel
theorem dX10_learns_73 : decode cX10_learns 73 = .ok (.ireturn, 1) := by decide +kernel
theorem dX10_orders_0 : decode cX10_orders 0 = .ok (.aload_n 0, 1) := by decide +kernel
theorem dX10_orders_1 : decode cX10_orders 1 = .ok (.invokevirtual 183, 3) := by decide +kernel
theorem dX10_orders_4 : decode cX10_orders 4 = .ok (.istore_n 1, 1) := by decide +kernel
theorem dX10_orders_5 : decode cX10_orders 5 = .ok (.aload_n 0, 1) := by decide +kernel
theorem dX10_orders_6 : decode cX10_orders 6 = .ok (.getfield 61, 3) := by decide +kernel
theorem dX10_orders_9 : decode cX10_orders 9 = .ok (.invokevirtual 187, 3) := by decide +kernel
theorem dX10_orders_12 : decode cX10_orders 12 = .ok (.ifCond .eq 6, 3) := by decide +kernel
theorem dX10_orders_15 : decode cX10_orders 15 = .ok (.bipush (-2), 2) := by decide +kernel
theorem dX10_orders_17 : decode cX10_orders 17 = .ok (.ireturn, 1) := by decide +kernel
theorem dX10_orders_18 : decode cX10_orders 18 = .ok (.aload_n 0, 1) := by decide +kernel
theorem dX10_orders_19 : decode cX10_orders 19 = .ok (.getfield 30, 3) := by decide +kernel
theorem dX10_orders_22 : decode cX10_orders 22 = .ok (.aload_n 0, 1) := by decide +kernel
theorem dX10_orders_23 : decode cX10_orders 23 = .ok (.getfield 12, 3) := by decide +kernel
theorem dX10_orders_26 : decode cX10_orders 26 = .ok (.invokevirtual 97, 3) := by decide +kernel
theorem dX10_orders_29 : decode cX10_orders 29 = .ok (.aload_n 0, 1) := by decide +kernel
theorem dX10_orders_30 : decode cX10_orders 30 = .ok (.getfield 16, 3) := by decide +kernel
theorem dX10_orders_33 : decode cX10_orders 33 = .ok (.getfield 159, 3) := by decide +kernel
theorem dX10_orders_36 : decode cX10_orders 36 = .ok (.aload_n 0, 1) := by decide +kernel
theorem dX10_orders_37 : decode cX10_orders 37 = .ok (.getfield 12, 3) := by decide +kernel
theorem dX10_orders_40 : decode cX10_orders 40 = .ok (.getfield 159, 3) := by decide +kernel
theorem dX10_orders_43 : decode cX10_orders 43 = .ok (.invokevirtual 191, 3) := by decide +kernel
theorem dX10_orders_46 : decode cX10_orders 46 = .ok (.aload_n 0, 1) := by decide +kernel
theorem dX10_orders_47 : decode cX10_orders 47 = .ok (.getfield 12, 3) := by decide +kernel
theorem dX10_orders_50 : decode cX10_orders 50 = .ok (.getfield 159, 3) := by decide +kernel
theorem dX10_orders_53 : decode cX10_orders 53 = .ok (.aload_n 0, 1) := by decide +kernel
theorem dX10_orders_54 : decode cX10_orders 54 = .ok (.getfield 16, 3) := by decide +kernel
theorem dX10_orders_57 : decode cX10_orders 57 = .ok (.getfield 159, 3) := by decide +kernel
theorem dX10_orders_60 : decode cX10_orders 60 = .ok (.aload_n 0, 1) := by decide +kernel
theorem dX10_orders_61 : decode cX10_orders 61 = .ok (.getfield 61, 3) := by decide +kernel
theorem dX10_orders_64 : decode cX10_orders 64 = .ok (.getfield 194, 3) := by decide +kernel
theorem dX10_orders_67 : decode cX10_orders 67 = .ok (.invokevirtual 197, 3) := by decide +kernel
theorem dX10_orders_70 : decode cX10_orders 70 = .ok (.iload_n 1, 1) := by decide +kernel
theorem dX10_orders_71 : decode cX10_orders 71 = .ok (.ireturn, 1) := by decide +kernel
theorem dX10_hears_0 : decode cX10_hears 0 = .ok (.aload_n 0, 1) := by decide +kernel
theorem dX10_hears_1 : decode cX10_hears 1 = .ok (.aload_n 0, 1) := by decide +kernel
theorem dX10_hears_2 : decode cX10_hears 2 = .ok (.getfield 12, 3) := by decide +kernel
theorem dX10_hears_5 : decode cX10_hears 5 = .ok (.getfield 159, 3) := by decide +kernel
theorem dX10_hears_8 : decode cX10_hears 8 = .ok (.getfield 151, 3) := by decide +kernel
theorem dX10_hears_11 : decode cX10_hears 11 = .ok (.invokevirtual 201, 3) := by decide +kernel
theorem dX10_hears_14 : decode cX10_hears 14 = .ok (.istore_n 1, 1) := by decide +kernel
theorem dX10_hears_15 : decode cX10_hears 15 = .ok (.aload_n 0, 1) := by decide +kernel
theorem dX10_hears_16 : decode cX10_hears 16 = .ok (.getfield 30, 3) := by decide +kernel
theorem dX10_hears_19 : decode cX10_hears 19 = .ok (.aload_n 0, 1) := by decide +kernel
theorem dX10_hears_20 : decode cX10_hears 20 = .ok (.getfield 12, 3) := by decide +kernel
theorem dX10_hears_23 : decode cX10_hears 23 = .ok (.invokevirtual 97, 3) := by decide +kernel
theorem dX10_hears_26 : decode cX10_hears 26 = .ok (.aload_n 0, 1) := by decide +kernel
theorem dX10_hears_27 : decode cX10_hears 27 = .ok (.getfield 12, 3) := by decide +kernel
theorem dX10_hears_30 : decode cX10_hears 30 = .ok (.dup, 1) := by decide +kernel
theorem dX10_hears_31 : decode cX10_hears 31 = .ok (.getfield 204, 3) := by decide +kernel
theorem dX10_hears_34 : decode cX10_hears 34 = .ok (.iconst 1, 1) := by decide +kernel
theorem dX10_hears_35 : decode cX10_hears 35 = .ok (.iadd, 1) := by decide +kernel
theorem dX10_hears_36 : decode cX10_hears 36 = .ok (.putfield 204, 3) := by decide +kernel
theorem dX10_hears_39 : decode cX10_hears 39 = .ok (.aload_n 0, 1) := by decide +kernel
theorem dX10_hears_40 : decode cX10_hears 40 = .ok (.getfield 12, 3) := by decide +kernel
theorem dX10_hears_43 : decode cX10_hears 43 = .ok (.ldc 207, 2) := by decide +kernel
theorem dX10_hears_45 : decode cX10_hears 45 = .ok (.aload_n 0, 1) := by decide +kernel
theorem dX10_hears_46 : decode cX10_hears 46 = .ok (.getfield 12, 3) := by decide +kernel
theorem dX10_hears_49 : decode cX10_hears 49 = .ok (.getfield 208, 3) := by decide +kernel
theorem dX10_hears_52 : decode cX10_hears 52 = .ok (.fmul, 1) := by decide +kernel
theorem dX10_hears_53 : decode cX10_hears 53 = .ok (.ldc 212, 2) := by decide +kernel
theorem dX10_hears_55 : decode cX10_hears 55 = .ok (.iload_n 1, 1) := by decide +kernel
theorem dX10_hears_56 : decode cX10_hears 56 = .ok (.i2f, 1) := by decide +kernel
theorem dX10_hears_57 : decode cX10_hears 57 = .ok (.fmul, 1) := by decide +kernel
theorem dX10_hears_58 : decode cX10_hears 58 = .ok (.fadd, 1) := by decide +kernel
theorem dX10_hears_59 : decode cX10_hears 59 = .ok (.putfield 208, 3) := by decide +kernel
theorem dX10_hears_62 : decode cX10_hears 62 = .ok (.iload_n 1, 1) := by decide +kernel
theorem dX10_hears_63 : decode cX10_hears 63 = .ok (.ireturn, 1) := by decide +kernel
theorem dX10_undo_0 : decode cX10_undo 0 = .ok (.aload_n 0, 1) := by decide +kernel
theorem dX10_undo_1 : decode cX10_undo 1 = .ok (.getfield 30, 3) := by decide +kernel
theorem dX10_undo_4 : decode cX10_undo 4 = .ok (.getfield 213, 3) := by decide +kernel
theorem dX10_undo_7 : decode cX10_undo 7 = .ok (.ifCond .ne 6, 3) := by decide +kernel
theorem dX10_undo_10 : decode cX10_undo 10 = .ok (.bipush (-2), 2) := by decide +kernel
theorem dX10_undo_12 : decode cX10_undo 12 = .ok (.ireturn, 1) := by decide +kernel
theorem dX10_undo_13 : decode cX10_undo 13 = .ok (.aload_n 0, 1) := by decide +kernel
theorem dX10_undo_14 : decode cX10_undo 14 = .ok (.getfield 30, 3) := by decide +kernel
theorem dX10_undo_17 : decode cX10_undo 17 = .ok (.aload_n 0, 1) := by decide +kernel
theorem dX10_undo_18 : decode cX10_undo 18 = .ok (.getfield 12, 3) := by decide +kernel
theorem dX10_undo_21 : decode cX10_undo 21 = .ok (.invokevirtual 214, 3) := by decide +kernel
theorem dX10_undo_24 : decode cX10_undo 24 = .ok (.aload_n 0, 1) := by decide +kernel
theorem dX10_undo_25 : decode cX10_undo 25 = .ok (.getfield 30, 3) := by decide +kernel
theorem dX10_undo_28 : decode cX10_undo 28 = .ok (.getfield 213, 3) := by decide +kernel
theorem dX10_undo_31 : decode cX10_undo 31 = .ok (.ireturn, 1) := by decide +kernel
theorem dX10_at_0 : decode cX10_at 0 = .ok (.iload_n 1, 1) := by decide +kernel
theorem dX10_at_1 : decode cX10_at 1 = .ok (.iload_n 2, 1) := by decide +kernel
theorem dX10_at_2 : decode cX10_at 2 = .ok (.invokestatic 103, 3) := by decide +kernel
theorem dX10_at_5 : decode cX10_at 5 = .ok (.ifCond .eq 12, 3) := by decide +kernel
theorem dX10_at_8 : decode cX10_at 8 = .ok (.iload_n 3, 1) := by decide +kernel
theorem dX10_at_9 : decode cX10_at 9 = .ok (.ifCond .lt 8, 3) := by decide +kernel
theorem dX10_at_12 : decode cX10_at 12 = .ok (.iload_n 3, 1) := by decide +kernel
theorem dX10_at_13 : decode cX10_at 13 = .ok (.iconst 3, 1) := by decide +kernel
theorem dX10_at_14 : decode cX10_at 14 = .ok (.if_icmp .le 5, 3) := by decide +kernel
theorem dX10_at_17 : decode cX10_at 17 = .ok (.iconst (-1), 1) := by decide +kernel
theorem dX10_at_18 : decode cX10_at 18 = .ok (.ireturn, 1) := by decide +kernel
theorem dX10_at_19 : decode cX10_at 19 = .ok (.iload_n 1, 1) := by decide +kernel
theorem dX10_at_20 : decode cX10_at 20 = .ok (.bipush 16, 2) := by decide +kernel
theorem dX10_at_22 : decode cX10_at 22 = .ok (.imul, 1) := by decide +kernel
theorem dX10_at_23 : decode cX10_at 23 = .ok (.iload_n 2, 1) := by decide +kernel
theorem dX10_at_24 : decode cX10_at 24 = .ok (.iadd, 1) := by decide +kernel
theorem dX10_at_25 : decode cX10_at 25 = .ok (.istore 4, 2) := by decide +kernel
theorem dX10_at_27 : decode cX10_at 27 = .ok (.iload_n 3, 1) := by decide +kernel
theorem dX10_at_28 : decode cX10_at 28 = .ok (.ifCond .ne 14, 3) := by decide +kernel
theorem dX10_at_31 : decode cX10_at 31 = .ok (.aload_n 0, 1) := by decide +kernel
theorem dX10_at_32 : decode cX10_at 32 = .ok (.getfield 12, 3) := by decide +kernel
theorem dX10_at_35 : decode cX10_at 35 = .ok (.getfield 110, 3) := by decide +kernel
theorem dX10_at_38 : decode cX10_at 38 = .ok (.iload 4, 2) := by decide +kernel
theorem dX10_at_40 : decode cX10_at 40 = .ok (.iaload, 1) := by decide +kernel
theorem dX10_at_41 : decode cX10_at 41 = .ok (.ireturn, 1) := by decide +kernel
theorem dX10_at_42 : decode cX10_at 42 = .ok (.aload_n 0, 1) := by decide +kernel
theorem dX10_at_43 : decode cX10_at 43 = .ok (.getfield 51, 3) := by decide +kernel
theorem dX10_at_46 : decode cX10_at 46 = .ok (.aload_n 0, 1) := by decide +kernel
theorem dX10_at_47 : decode cX10_at 47 = .ok (.getfield 12, 3) := by decide +kernel
theorem dX10_at_50 : decode cX10_at 50 = .ok (.iload_n 3, 1) := by decide +kernel
theorem dX10_at_51 : decode cX10_at 51 = .ok (.iconst 1, 1) := by decide +kernel
theorem dX10_at_52 : decode cX10_at 52 = .ok (.if_icmp .ne 7, 3) := by decide +kernel
theorem dX10_at_55 : decode cX10_at 55 = .ok (.iconst 0, 1) := by decide +kernel
theorem dX10_at_56 : decode cX10_at 56 = .ok (.goto 13, 3) := by decide +kernel
theorem dX10_at_59 : decode cX10_at 59 = .ok (.aload_n 0, 1) := by decide +kernel
theorem dX10_at_60 : decode cX10_at 60 = .ok (.getfield 12, 3) := by decide +kernel
theorem dX10_at_63 : decode cX10_at 63 = .ok (.getfield 159, 3) := by decide +kernel
theorem dX10_at_66 : decode cX10_at 66 = .ok (.getfield 151, 3) := by decide +kernel
theorem dX10_at_69 : decode cX10_at 69 = .ok (.invokevirtual 217, 3) := by decide +kernel
theorem dX10_at_72 : decode cX10_at 72 = .ok (.aload_n 0, 1) := by decide +kernel
theorem dX10_at_73 : decode cX10_at 73 = .ok (.getfield 51, 3) := by decide +kernel
theorem dX10_at_76 : decode cX10_at 76 = .ok (.getfield 221, 3) := by decide +kernel
theorem dX10_at_79 : decode cX10_at 79 = .ok (.iload 4, 2) := by decide +kernel
theorem dX10_at_81 : decode cX10_at 81 = .ok (.iaload, 1) := by decide +kernel
theorem dX10_at_82 : decode cX10_at 82 = .ok (.istore 5, 2) := by decide +kernel
theorem dX10_at_84 : decode cX10_at 84 = .ok (.iload_n 3, 1) := by decide +kernel
theorem dX10_at_85 : decode cX10_at 85 = .ok (.iconst 3, 1) := by decide +kernel
theorem dX10_at_86 : decode cX10_at 86 = .ok (.if_icmp .ne 11, 3) := by decide +kernel
theorem dX10_at_89 : decode cX10_at 89 = .ok (.iload 5, 2) := by decide +kernel
theorem dX10_at_91 : decode cX10_at 91 = .ok (.invokestatic 224, 3) := by decide +kernel
theorem dX10_at_94 : decode cX10_at 94 = .ok (.goto 5, 3) := by decide +kernel
theorem dX10_at_97 : decode cX10_at 97 = .ok (.iload 5, 2) := by decide +kernel
theorem dX10_at_99 : decode cX10_at 99 = .ok (.ireturn, 1) := by decide +kernel
theorem dX10_deed_0 : decode cX10_deed 0 = .ok (.aload_n 0, 1) := by decide +kernel
theorem dX10_deed_1 : decode cX10_deed 1 = .ok (.getfield 12, 3) := by decide +kernel
theorem dX10_deed_4 : decode cX10_deed 4 = .ok (.getfield 143, 3) := by decide +kernel
theorem dX10_deed_7 : decode cX10_deed 7 = .ok (.iload_n 1, 1) := by decide +kernel
theorem dX10_deed_8 : decode cX10_deed 8 = .ok (.iload_n 2, 1) := by decide +kernel
theorem dX10_deed_9 : decode cX10_deed 9 = .ok (.invokevirtual 229, 3) := by decide +kernel
theorem dX10_deed_12 : decode cX10_deed 12 = .ok (.ireturn, 1) := by decide +kernel
theorem dX10_stage_0 : decode cX10_stage 0 = .ok (.aload_n 0, 1) := by decide +kernel
theorem dX10_stage_1 : decode cX10_stage 1 = .ok (.getfield 12, 3) := by decide +kernel
theorem dX10_stage_4 : decode cX10_stage 4 = .ok (.getfield 159, 3) := by decide +kernel
theorem dX10_stage_7 : decode cX10_stage 7 = .ok (.iload_n 1, 1) := by decide +kernel
theorem dX10_stage_8 : decode cX10_stage 8 = .ok (.iload_n 2, 1) := by decide +kernel
theorem dX10_stage_9 : decode cX10_stage 9 = .ok (.invokevirtual 229, 3) := by decide +kernel
theorem dX10_stage_12 : decode cX10_stage 12 = .ok (.ireturn, 1) := by decide +kernel
theorem dX10_wrong_0 : decode cX10_wrong 0 = .ok (.iload_n 1, 1) := by decide +kernel
theorem dX10_wrong_1 : decode cX10_wrong 1 = .ok (.ifCond .lt 17, 3) := by decide +kernel
theorem dX10_wrong_4 : decode cX10_wrong 4 = .ok (.iload_n 1, 1) := by decide +kernel
theorem dX10_wrong_5 : decode cX10_wrong 5 = .ok (.aload_n 0, 1) := by decide +kernel
theorem dX10_wrong_6 : decode cX10_wrong 6 = .ok (.getfield 12, 3) := by decide +kernel
theorem dX10_wrong_9 : decode cX10_wrong 9 = .ok (.getfield 159, 3) := by decide +kernel
theorem dX10_wrong_12 : decode cX10_wrong 12 = .ok (.getfield 151, 3) := by decide +kernel
theorem dX10_wrong_15 : decode cX10_wrong 15 = .ok (.if_icmp .le 5, 3) := by decide +kernel
theorem dX10_wrong_18 : decode cX10_wrong 18 = .ok (.iconst (-1), 1) := by decide +kernel
theorem dX10_wrong_19 : decode cX10_wrong 19 = .ok (.ireturn, 1) := by decide +kernel
theorem dX10_wrong_20 : decode cX10_wrong 20 = .ok (.aload_n 0, 1) := by decide +kernel
theorem dX10_wrong_21 : decode cX10_wrong 21 = .ok (.iload_n 1, 1) := by decide +kernel
theorem dX10_wrong_22 : decode cX10_wrong 22 = .ok (.invokevirtual 201, 3) := by decide +kernel
theorem dX10_wrong_25 : decode cX10_wrong 25 = .ok (.ireturn, 1) := by decide +kernel
theorem dX10_loss_0 : decode cX10_loss 0 = .ok (.ldc 233, 2) := by decide +kernel
theorem dX10_loss_2 : decode cX10_loss 2 = .ok (.aload_n 0, 1) := by decide +kernel
theorem dX10_loss_3 : decode cX10_loss 3 = .ok (.getfield 12, 3) := by decide +kernel
theorem dX10_loss_6 : decode cX10_loss 6 = .ok (.getfield 208, 3) := by decide +kernel
theorem dX10_loss_9 : decode cX10_loss 9 = .ok (.fmul, 1) := by decide +kernel
theorem dX10_loss_10 : decode cX10_loss 10 = .ok (.f2i, 1) := by decide +kernel
theorem dX10_loss_11 : decode cX10_loss 11 = .ok (.ireturn, 1) := by decide +kernel
theorem dX10_taps_0 : decode cX10_taps 0 = .ok (.iload_n 1, 1) := by decide +kernel
theorem dX10_taps_1 : decode cX10_taps 1 = .ok (.iload_n 2, 1) := by decide +kernel
theorem dX10_taps_2 : decode cX10_taps 2 = .ok (.invokestatic 162, 3) := by decide +kernel
theorem dX10_taps_5 : decode cX10_taps 5 = .ok (.ifCond .eq 12, 3) := by decide +kernel
theorem dX10_taps_8 : decode cX10_taps 8 = .ok (.iload_n 3, 1) := by decide +kernel
theorem dX10_taps_9 : decode cX10_taps 9 = .ok (.ifCond .lt 8, 3) := by decide +kernel
theorem dX10_taps_12 : decode cX10_taps 12 = .ok (.iload_n 3, 1) := by decide +kernel
theorem dX10_taps_13 : decode cX10_taps 13 = .ok (.iconst 3, 1) := by decide +kernel
theorem dX10_taps_14 : decode cX10_taps 14 = .ok (.if_icmp .le 5, 3) := by decide +kernel
theorem dX10_taps_17 : decode cX10_taps 17 = .ok (.iconst (-1), 1) := by decide +kernel
theorem dX10_taps_18 : decode cX10_taps 18 = .ok (.ireturn, 1) := by decide +kernel
theorem dX10_taps_19 : decode cX10_taps 19 = .ok (.aload_n 0, 1) := by decide +kernel
theorem dX10_taps_20 : decode cX10_taps 20 = .ok (.iload_n 1, 1) := by decide +kernel
theorem dX10_taps_21 : decode cX10_taps 21 = .ok (.iload_n 2, 1) := by decide +kernel
theorem dX10_taps_22 : decode cX10_taps 22 = .ok (.invokevirtual 165, 3) := by decide +kernel
theorem dX10_taps_25 : decode cX10_taps 25 = .ok (.ifCond .eq 14, 3) := by decide +kernel
theorem dX10_taps_28 : decode cX10_taps 28 = .ok (.aload_n 0, 1) := by decide +kernel
theorem dX10_taps_29 : decode cX10_taps 29 = .ok (.getfield 74, 3) := by decide +kernel
theorem dX10_taps_32 : decode cX10_taps 32 = .ok (.iload_n 3, 1) := by decide +kernel
theorem dX10_taps_33 : decode cX10_taps 33 = .ok (.invokevirtual 234, 3) := by decide +kernel
theorem dX10_taps_36 : decode cX10_taps 36 = .ok (.goto 5, 3) := by decide +kernel
theorem dX10_taps_39 : decode cX10_taps 39 = .ok (.bipush (-9), 2) := by decide +kernel
theorem dX10_taps_41 : decode cX10_taps 41 = .ok (.ireturn, 1) := by decide +kernel
theorem dX10_skew_0 : decode cX10_skew 0 = .ok (.aload_n 0, 1) := by decide +kernel
theorem dX10_skew_1 : decode cX10_skew 1 = .ok (.getfield 51, 3) := by decide +kernel
theorem dX10_skew_4 : decode cX10_skew 4 = .ok (.aload_n 0, 1) := by decide +kernel
theorem dX10_skew_5 : decode cX10_skew 5 = .ok (.getfield 12, 3) := by decide +kernel
theorem dX10_skew_8 : decode cX10_skew 8 = .ok (.aload_n 0, 1) := by decide +kernel
theorem dX10_skew_9 : decode cX10_skew 9 = .ok (.getfield 12, 3) := by decide +kernel
theorem dX10_skew_12 : decode cX10_skew 12 = .ok (.getfield 159, 3) := by decide +kernel
theorem dX10_skew_15 : decode cX10_skew 15 = .ok (.getfield 151, 3) := by decide +kernel
theorem dX10_skew_18 : decode cX10_skew 18 = .ok (.invokevirtual 217, 3) := by decide +kernel
theorem dX10_skew_21 : decode cX10_skew 21 = .ok (.iconst 0, 1) := by decide +kernel
theorem dX10_skew_22 : decode cX10_skew 22 = .ok (.istore_n 1, 1) := by decide +kernel
theorem dX10_skew_23 : decode cX10_skew 23 = .ok (.bipush 33, 2) := by decide +kernel
theorem dX10_skew_25 : decode cX10_skew 25 = .ok (.istore_n 2, 1) := by decide +kernel
theorem dX10_skew_26 : decode cX10_skew 26 = .ok (.iconst 0, 1) := by decide +kernel
theorem dX10_skew_27 : decode cX10_skew 27 = .ok (.istore_n 3, 1) := by decide +kernel
theorem dX10_skew_28 : decode cX10_skew 28 = .ok (.iload_n 3, 1) := by decide +kernel
theorem dX10_skew_29 : decode cX10_skew 29 = .ok (.bipush 16, 2) := by decide +kernel
theorem dX10_skew_31 : decode cX10_skew 31 = .ok (.if_icmp .ge 55, 3) := by decide +kernel
theorem dX10_skew_34 : decode cX10_skew 34 = .ok (.aload_n 0, 1) := by decide +kernel
theorem dX10_skew_35 : decode cX10_skew 35 = .ok (.getfield 55, 3) := by decide +kernel
theorem dX10_skew_38 : decode cX10_skew 38 = .ok (.aload_n 0, 1) := by decide +kernel
theorem dX10_skew_39 : decode cX10_skew 39 = .ok (.getfield 51, 3) := by decide +kernel
theorem dX10_skew_42 : decode cX10_skew 42 = .ok (.invokevirtual 237, 3) := by decide +kernel
theorem dX10_skew_45 : decode cX10_skew 45 = .ok (.aload_n 0, 1) := by decide +kernel
theorem dX10_skew_46 : decode cX10_skew 46 = .ok (.getfield 55, 3) := by decide +kernel
theorem dX10_skew_49 : decode cX10_skew 49 = .ok (.bipush 16, 2) := by decide +kernel
theorem dX10_skew_51 : decode cX10_skew 51 = .ok (.iload_n 3, 1) := by decide +kernel
theorem dX10_skew_52 : decode cX10_skew 52 = .ok (.isub, 1) := by decide +kernel
theorem dX10_skew_53 : decode cX10_skew 53 = .ok (.invokevirtual 240, 3) := by decide +kernel
theorem dX10_skew_56 : decode cX10_skew 56 = .ok (.aload_n 0, 1) := by decide +kernel
theorem dX10_skew_57 : decode cX10_skew 57 = .ok (.getfield 55, 3) := by decide +kernel
theorem dX10_skew_60 : decode cX10_skew 60 = .ok (.aload_n 0, 1) := by decide +kernel
theorem dX10_skew_61 : decode cX10_skew 61 = .ok (.getfield 12, 3) := by decide +kernel
theorem dX10_skew_64 : decode cX10_skew 64 = .ok (.invokevirtual 243, 3) := by decide +kernel
theorem dX10_skew_67 : decode cX10_skew 67 = .ok (.istore 4, 2) := by decide +kernel
theorem dX10_skew_69 : decode cX10_skew 69 = .ok (.iload 4, 2) := by decide +kernel
theorem dX10_skew_71 : decode cX10_skew 71 = .ok (.iload_n 2, 1) := by decide +kernel
theorem dX10_skew_72 : decode cX10_skew 72 = .ok (.if_icmp .ge 8, 3) := by decide +kernel
theorem dX10_skew_75 : decode cX10_skew 75 = .ok (.iload 4, 2) := by decide +kernel
theorem dX10_skew_77 : decode cX10_skew 77 = .ok (.istore_n 2, 1) := by decide +kernel
theorem dX10_skew_78 : decode cX10_skew 78 = .ok (.iload_n 3, 1) := by decide +kernel
theorem dX10_skew_79 : decode cX10_skew 79 = .ok (.istore_n 1, 1) := by decide +kernel
theorem dX10_skew_80 : decode cX10_skew 80 = .ok (.iinc 3 1, 3) := by decide +kernel
theorem dX10_skew_83 : decode cX10_skew 83 = .ok (.goto (-55), 3) := by decide +kernel
theorem dX10_skew_86 : decode cX10_skew 86 = .ok (.iload_n 1, 1) := by decide +kernel
theorem dX10_skew_87 : decode cX10_skew 87 = .ok (.ireturn, 1) := by decide +kernel
theorem dX10_spreads_0 : decode cX10_spreads 0 = .ok (.iload_n 1, 1) := by decide +kernel
theorem dX10_spreads_1 : decode cX10_spreads 1 = .ok (.ifCond .lt 8, 3) := by decide +kernel
theorem dX10_spreads_4 : decode cX10_spreads 4 = .ok (.iload_n 1, 1) := by decide +kernel
theorem dX10_spreads_5 : decode cX10_spreads 5 = .ok (.iconst 1, 1) := by decide +kernel
theorem dX10_spreads_6 : decode cX10_spreads 6 = .ok (.if_icmp .le 5, 3) := by decide +kernel
theorem dX10_spreads_9 : decode cX10_spreads 9 = .ok (.iconst (-1), 1) := by decide +kernel
theorem dX10_spreads_10 : decode cX10_spreads 10 = .ok (.ireturn, 1) := by decide +kernel
theorem dX10_spreads_11 : decode cX10_spreads 11 = .ok (.aload_n 0, 1) := by decide +kernel
theorem dX10_spreads_12 : decode cX10_spreads 12 = .ok (.getfield 51, 3) := by decide +kernel
theorem dX10_spreads_15 : decode cX10_spreads 15 = .ok (.aload_n 0, 1) := by decide +kernel
theorem dX10_spreads_16 : decode cX10_spreads 16 = .ok (.getfield 12, 3) := by decide +kernel
theorem dX10_spreads_19 : decode cX10_spreads 19 = .ok (.aload_n 0, 1) := by decide +kernel
theorem dX10_spreads_20 : decode cX10_spreads 20 = .ok (.getfield 12, 3) := by decide +kernel
theorem dX10_spreads_23 : decode cX10_spreads 23 = .ok (.getfield 159, 3) := by decide +kernel
theorem dX10_spreads_26 : decode cX10_spreads 26 = .ok (.getfield 151, 3) := by decide +kernel
theorem dX10_spreads_29 : decode cX10_spreads 29 = .ok (.invokevirtual 217, 3) := by decide +kernel
theorem dX10_spreads_32 : decode cX10_spreads 32 = .ok (.iconst 0, 1) := by decide +kernel
theorem dX10_spreads_33 : decode cX10_spreads 33 = .ok (.istore_n 2, 1) := by decide +kernel
theorem dX10_spreads_34 : decode cX10_spreads 34 = .ok (.bipush (-9), 2) := by decide +kernel
theorem dX10_spreads_36 : decode cX10_spreads 36 = .ok (.istore_n 3, 1) := by decide +kernel
theorem dX10_spreads_37 : decode cX10_spreads 37 = .ok (.iconst 1, 1) := by decide +kernel
theorem dX10_spreads_38 : decode cX10_spreads 38 = .ok (.istore 4, 2) := by decide +kernel
theorem dX10_spreads_40 : decode cX10_spreads 40 = .ok (.iload 4, 2) := by decide +kernel
theorem dX10_spreads_42 : decode cX10_spreads 42 = .ok (.bipush 97, 2) := by decide +kernel
theorem dX10_spreads_44 : decode cX10_spreads 44 = .ok (.if_icmp .ge 45, 3) := by decide +kernel
theorem dX10_spreads_47 : decode cX10_spreads 47 = .ok (.iload 4, 2) := by decide +kernel
theorem dX10_spreads_49 : decode cX10_spreads 49 = .ok (.bipush 16, 2) := by decide +kernel
theorem dX10_spreads_51 : decode cX10_spreads 51 = .ok (.invokestatic 246, 3) := by decide +kernel
theorem dX10_spreads_54 : decode cX10_spreads 54 = .ok (.iconst 1, 1) := by decide +kernel
theorem dX10_spreads_55 : decode cX10_spreads 55 = .ok (.if_icmp .eq 28, 3) := by decide +kernel
theorem dX10_spreads_58 : decode cX10_spreads 58 = .ok (.aload_n 0, 1) := by decide +kernel
theorem dX10_spreads_59 : decode cX10_spreads 59 = .ok (.iload 4, 2) := by decide +kernel
theorem dX10_spreads_61 : decode cX10_spreads 61 = .ok (.invokevirtual 249, 3) := by decide +kernel
theorem dX10_spreads_64 : decode cX10_spreads 64 = .ok (.ifCond .eq 19, 3) := by decide +kernel
theorem dX10_spreads_67 : decode cX10_spreads 67 = .ok (.iinc 2 1, 3) := by decide +kernel
theorem dX10_spreads_70 : decode cX10_spreads 70 = .ok (.iload_n 3, 1) := by decide +kernel
theorem dX10_spreads_71 : decode cX10_spreads 71 = .ok (.bipush (-9), 2) := by decide +kernel
theorem dX10_spreads_73 : decode cX10_spreads 73 = .ok (.if_icmp .ne 8, 3) := by decide +kernel
theorem dX10_spreads_76 : decode cX10_spreads 76 = .ok (.iload 4, 2) := by decide +kernel
theorem dX10_spreads_78 : decode cX10_spreads 78 = .ok (.goto 4, 3) := by decide +kernel
theorem dX10_spreads_81 : decode cX10_spreads 81 = .ok (.iload_n 3, 1) := by decide +kernel
theorem dX10_spreads_82 : decode cX10_spreads 82 = .ok (.istore_n 3, 1) := by decide +kernel
theorem dX10_spreads_83 : decode cX10_spreads 83 = .ok (.iinc 4 1, 3) := by decide +kernel
theorem dX10_spreads_86 : decode cX10_spreads 86 = .ok (.goto (-46), 3) := by decide +kernel
theorem dX10_spreads_89 : decode cX10_spreads 89 = .ok (.iload_n 1, 1) := by decide +kernel
theorem dX10_spreads_90 : decode cX10_spreads 90 = .ok (.ifCond .ne 7, 3) := by decide +kernel
theorem dX10_spreads_93 : decode cX10_spreads 93 = .ok (.iload_n 2, 1) := by decide +kernel
theorem dX10_spreads_94 : decode cX10_spreads 94 = .ok (.goto 4, 3) := by decide +kernel
theorem dX10_spreads_97 : decode cX10_spreads 97 = .ok (.iload_n 3, 1) := by decide +kernel
theorem dX10_spreads_98 : decode cX10_spreads 98 = .ok (.ireturn, 1) := by decide +kernel
theorem dX10_order_0 : decode cX10_order 0 = .ok (.iload_n 1, 1) := by decide +kernel
theorem dX10_order_1 : decode cX10_order 1 = .ok (.iconst (-1), 1) := by decide +kernel
theorem dX10_order_2 : decode cX10_order 2 = .ok (.if_icmp .ge 5, 3) := by decide +kernel
theorem dX10_order_5 : decode cX10_order 5 = .ok (.iconst (-1), 1) := by decide +kernel
theorem dX10_order_6 : decode cX10_order 6 = .ok (.ireturn, 1) := by decide +kernel
theorem dX10_order_7 : decode cX10_order 7 = .ok (.iload_n 1, 1) := by decide +kernel
theorem dX10_order_8 : decode cX10_order 8 = .ok (.aload_n 0, 1) := by decide +kernel
theorem dX10_order_9 : decode cX10_order 9 = .ok (.getfield 12, 3) := by decide +kernel
theorem dX10_order_12 : decode cX10_order 12 = .ok (.getfield 159, 3) := by decide +kernel
theorem dX10_order_15 : decode cX10_order 15 = .ok (.getfield 151, 3) := by decide +kernel
theorem dX10_order_18 : decode cX10_order 18 = .ok (.if_icmp .lt 6, 3) := by decide +kernel
theorem dX10_order_21 : decode cX10_order 21 = .ok (.bipush (-9), 2) := by decide +kernel
theorem dX10_order_23 : decode cX10_order 23 = .ok (.ireturn, 1) := by decide +kernel
theorem dX10_order_24 : decode cX10_order 24 = .ok (.aload_n 0, 1) := by decide +kernel
theorem dX10_order_25 : decode cX10_order 25 = .ok (.invokevirtual 183, 3) := by decide +kernel
theorem dX10_order_28 : decode cX10_order 28 = .ok (.istore_n 2, 1) := by decide +kernel
theorem dX10_order_29 : decode cX10_order 29 = .ok (.iload_n 1, 1) := by decide +kernel
theorem dX10_order_30 : decode cX10_order 30 = .ok (.iconst (-1), 1) := by decide +kernel
theorem dX10_order_31 : decode cX10_order 31 = .ok (.if_icmp .ne 7, 3) := by decide +kernel
theorem dX10_order_34 : decode cX10_order 34 = .ok (.iload_n 2, 1) := by decide +kernel
theorem dX10_order_35 : decode cX10_order 35 = .ok (.goto 12, 3) := by decide +kernel
theorem dX10_order_38 : decode cX10_order 38 = .ok (.aload_n 0, 1) := by decide +kernel
theorem dX10_order_39 : decode cX10_order 39 = .ok (.getfield 61, 3) := by decide +kernel
theorem dX10_order_42 : decode cX10_order 42 = .ok (.getfield 194, 3) := by decide +kernel
theorem dX10_order_45 : decode cX10_order 45 = .ok (.iload_n 1, 1) := by decide +kernel
theorem dX10_order_46 : decode cX10_order 46 = .ok (.iaload, 1) := by decide +kernel
theorem dX10_order_47 : decode cX10_order 47 = .ok (.ireturn, 1) := by decide +kernel
theorem dX10_lag_0 : decode cX10_lag 0 = .ok (.iload_n 1, 1) := by decide +kernel
theorem dX10_lag_1 : decode cX10_lag 1 = .ok (.invokestatic 113, 3) := by decide +kernel
theorem dX10_lag_4 : decode cX10_lag 4 = .ok (.ifCond .ne 5, 3) := by decide +kernel
theorem dX10_lag_7 : decode cX10_lag 7 = .ok (.iconst (-1), 1) := by decide +kernel
theorem dX10_lag_8 : decode cX10_lag 8 = .ok (.ireturn, 1) := by decide +kernel
theorem dX10_lag_9 : decode cX10_lag 9 = .ok (.iconst 0, 1) := by decide +kernel
theorem dX10_lag_10 : decode cX10_lag 10 = .ok (.istore_n 2, 1) := by decide +kernel
theorem dX10_lag_11 : decode cX10_lag 11 = .ok (.iload_n 2, 1) := by decide +kernel
theorem dX10_lag_12 : decode cX10_lag 12 = .ok (.bipush 16, 2) := by decide +kernel
theorem dX10_lag_14 : decode cX10_lag 14 = .ok (.if_icmp .ge 25, 3) := by decide +kernel
theorem dX10_lag_17 : decode cX10_lag 17 = .ok (.aload_n 0, 1) := by decide +kernel
theorem dX10_lag_18 : decode cX10_lag 18 = .ok (.getfield 12, 3) := by decide +kernel
theorem dX10_lag_21 : decode cX10_lag 21 = .ok (.iload_n 1, 1) := by decide +kernel
theorem dX10_lag_22 : decode cX10_lag 22 = .ok (.iload_n 2, 1) := by decide +kernel
theorem dX10_lag_23 : decode cX10_lag 23 = .ok (.iadd, 1) := by decide +kernel
theorem dX10_lag_24 : decode cX10_lag 24 = .ok (.bipush 16, 2) := by decide +kernel
theorem dX10_lag_26 : decode cX10_lag 26 = .ok (.irem, 1) := by decide +kernel
theorem dX10_lag_27 : decode cX10_lag 27 = .ok (.invokevirtual 116, 3) := by decide +kernel
theorem dX10_lag_30 : decode cX10_lag 30 = .ok (.ifCond .ne 9, 3) := by decide +kernel
theorem dX10_lag_33 : decode cX10_lag 33 = .ok (.iinc 2 1, 3) := by decide +kernel
theorem dX10_lag_36 : decode cX10_lag 36 = .ok (.goto (-25), 3) := by decide +kernel
theorem dX10_lag_39 : decode cX10_lag 39 = .ok (.iload_n 2, 1) := by decide +kernel
theorem dX10_lag_40 : decode cX10_lag 40 = .ok (.ireturn, 1) := by decide +kernel
theorem dX10_sees_0 : decode cX10_sees 0 = .ok (.iload_n 1, 1) := by decide +kernel
theorem dX10_sees_1 : decode cX10_sees 1 = .ok (.iload_n 2, 1) := by decide +kernel
theorem dX10_sees_2 : decode cX10_sees 2 = .ok (.invokestatic 103, 3) := by decide +kernel
theorem dX10_sees_5 : decode cX10_sees 5 = .ok (.ifCond .eq 10, 3) := by decide +kernel
theorem dX10_sees_8 : decode cX10_sees 8 = .ok (.iload_n 3, 1) := by decide +kernel
theorem dX10_sees_9 : decode cX10_sees 9 = .ok (.invokestatic 107, 3) := by decide +kernel
theorem dX10_sees_12 : decode cX10_sees 12 = .ok (.ifCond .ne 5, 3) := by decide +kernel
theorem dX10_sees_15 : decode cX10_sees 15 = .ok (.iconst (-1), 1) := by decide +kernel
theorem dX10_sees_16 : decode cX10_sees 16 = .ok (.ireturn, 1) := by decide +kernel
theorem dX10_sees_17 : decode cX10_sees 17 = .ok (.aload_n 0, 1) := by decide +kernel
theorem dX10_sees_18 : decode cX10_sees 18 = .ok (.getfield 44, 3) := by decide +kernel
theorem dX10_sees_21 : decode cX10_sees 21 = .ok (.iload_n 1, 1) := by decide +kernel
theorem dX10_sees_22 : decode cX10_sees 22 = .ok (.bipush 16, 2) := by decide +kernel
theorem dX10_sees_24 : decode cX10_sees 24 = .ok (.imul, 1) := by decide +kernel
theorem dX10_sees_25 : decode cX10_sees 25 = .ok (.iload_n 2, 1) := by decide +kernel
theorem dX10_sees_26 : decode cX10_sees 26 = .ok (.iadd, 1) := by decide +kernel
theorem dX10_sees_27 : decode cX10_sees 27 = .ok (.iload_n 3, 1) := by decide +kernel
theorem dX10_sees_28 : decode cX10_sees 28 = .ok (.invokevirtual 252, 3) := by decide +kernel
theorem dX10_sees_31 : decode cX10_sees 31 = .ok (.ifCond .eq 13, 3) := by decide +kernel
theorem dX10_sees_34 : decode cX10_sees 34 = .ok (.aload_n 0, 1) := by decide +kernel
theorem dX10_sees_35 : decode cX10_sees 35 = .ok (.getfield 44, 3) := by decide +kernel
theorem dX10_sees_38 : decode cX10_sees 38 = .ok (.getfield 100, 3) := by decide +kernel
theorem dX10_sees_41 : decode cX10_sees 41 = .ok (.goto 5, 3) := by decide +kernel
theorem dX10_sees_44 : decode cX10_sees 44 = .ok (.bipush (-3), 2) := by decide +kernel
theorem dX10_sees_46 : decode cX10_sees 46 = .ok (.ireturn, 1) := by decide +kernel
theorem dX10_forget_0 : decode cX10_forget 0 = .ok (.aload_n 0, 1) := by decide +kernel
theorem dX10_forget_1 : decode cX10_forget 1 = .ok (.getfield 44, 3) := by decide +kernel
theorem dX10_forget_4 : decode cX10_forget 4 = .ok (.getfield 100, 3) := by decide +kernel
theorem dX10_forget_7 : decode cX10_forget 7 = .ok (.istore_n 1, 1) := by decide +kernel
theorem dX10_forget_8 : decode cX10_forget 8 = .ok (.aload_n 0, 1) := by decide +kernel
theorem dX10_forget_9 : decode cX10_forget 9 = .ok (.getfield 44, 3) := by decide +kernel
theorem dX10_forget_12 : decode cX10_forget 12 = .ok (.iconst 0, 1) := by decide +kernel
theorem dX10_forget_13 : decode cX10_forget 13 = .ok (.putfield 100, 3) := by decide +kernel
theorem dX10_forget_16 : decode cX10_forget 16 = .ok (.iload_n 1, 1) := by decide +kernel
theorem dX10_forget_17 : decode cX10_forget 17 = .ok (.ireturn, 1) := by decide +kernel
theorem dX10_fits_0 : decode cX10_fits 0 = .ok (.iload_n 1, 1) := by decide +kernel
theorem dX10_fits_1 : decode cX10_fits 1 = .ok (.ifCond .lt 8, 3) := by decide +kernel
theorem dX10_fits_4 : decode cX10_fits 4 = .ok (.iload_n 1, 1) := by decide +kernel
theorem dX10_fits_5 : decode cX10_fits 5 = .ok (.iconst 1, 1) := by decide +kernel
theorem dX10_fits_6 : decode cX10_fits 6 = .ok (.if_icmp .le 5, 3) := by decide +kernel
theorem dX10_fits_9 : decode cX10_fits 9 = .ok (.iconst (-1), 1) := by decide +kernel
theorem dX10_fits_10 : decode cX10_fits 10 = .ok (.ireturn, 1) := by decide +kernel
theorem dX10_fits_11 : decode cX10_fits 11 = .ok (.aload_n 0, 1) := by decide +kernel
theorem dX10_fits_12 : decode cX10_fits 12 = .ok (.getfield 51, 3) := by decide +kernel
theorem dX10_fits_15 : decode cX10_fits 15 = .ok (.aload_n 0, 1) := by decide +kernel
theorem dX10_fits_16 : decode cX10_fits 16 = .ok (.getfield 12, 3) := by decide +kernel
theorem dX10_fits_19 : decode cX10_fits 19 = .ok (.iconst 0, 1) := by decide +kernel
theorem dX10_fits_20 : decode cX10_fits 20 = .ok (.invokevirtual 217, 3) := by decide +kernel
theorem dX10_fits_23 : decode cX10_fits 23 = .ok (.iconst 0, 1) := by decide +kernel
theorem dX10_fits_24 : decode cX10_fits 24 = .ok (.istore_n 2, 1) := by decide +kernel
theorem dX10_fits_25 : decode cX10_fits 25 = .ok (.bipush (-9), 2) := by decide +kernel
theorem dX10_fits_27 : decode cX10_fits 27 = .ok (.istore_n 3, 1) := by decide +kernel
theorem dX10_fits_28 : decode cX10_fits 28 = .ok (.iconst 0, 1) := by decide +kernel
theorem dX10_fits_29 : decode cX10_fits 29 = .ok (.istore 4, 2) := by decide +kernel
theorem dX10_fits_31 : decode cX10_fits 31 = .ok (.iload 4, 2) := by decide +kernel
theorem dX10_fits_33 : decode cX10_fits 33 = .ok (.bipush 16, 2) := by decide +kernel
theorem dX10_fits_35 : decode cX10_fits 35 = .ok (.if_icmp .ge 56, 3) := by decide +kernel
theorem dX10_fits_38 : decode cX10_fits 38 = .ok (.iconst 1, 1) := by decide +kernel
theorem dX10_fits_39 : decode cX10_fits 39 = .ok (.istore 5, 2) := by decide +kernel
theorem dX10_fits_41 : decode cX10_fits 41 = .ok (.iload 5, 2) := by decide +kernel
theorem dX10_fits_43 : decode cX10_fits 43 = .ok (.iconst 4, 1) := by decide +kernel
theorem dX10_fits_44 : decode cX10_fits 44 = .ok (.if_icmp .ge 41, 3) := by decide +kernel
theorem dX10_fits_47 : decode cX10_fits 47 = .ok (.aload_n 0, 1) := by decide +kernel
theorem dX10_fits_48 : decode cX10_fits 48 = .ok (.iload 4, 2) := by decide +kernel
theorem dX10_fits_50 : decode cX10_fits 50 = .ok (.iload 5, 2) := by decide +kernel
theorem dX10_fits_52 : decode cX10_fits 52 = .ok (.invokevirtual 254, 3) := by decide +kernel
theorem dX10_fits_55 : decode cX10_fits 55 = .ok (.ifCond .eq 24, 3) := by decide +kernel
theorem dX10_fits_58 : decode cX10_fits 58 = .ok (.iinc 2 1, 3) := by decide +kernel
theorem dX10_fits_61 : decode cX10_fits 61 = .ok (.iload_n 3, 1) := by decide +kernel
theorem dX10_fits_62 : decode cX10_fits 62 = .ok (.bipush (-9), 2) := by decide +kernel
theorem dX10_fits_64 : decode cX10_fits 64 = .ok (.if_icmp .ne 13, 3) := by decide +kernel
theorem dX10_fits_67 : decode cX10_fits 67 = .ok (.iconst 4, 1) := by decide +kernel
theorem dX10_fits_68 : decode cX10_fits 68 = .ok (.iload 4, 2) := by decide +kernel
theorem dX10_fits_70 : decode cX10_fits 70 = .ok (.imul, 1) := by decide +kernel
theorem dX10_fits_71 : decode cX10_fits 71 = .ok (.iload 5, 2) := by decide +kernel
theorem dX10_fits_73 : decode cX10_fits 73 = .ok (.iadd, 1) := by decide +kernel
theorem dX10_fits_74 : decode cX10_fits 74 = .ok (.goto 4, 3) := by decide +kernel
theorem dX10_fits_77 : decode cX10_fits 77 = .ok (.iload_n 3, 1) := by decide +kernel
theorem dX10_fits_78 : decode cX10_fits 78 = .ok (.istore_n 3, 1) := by decide +kernel
theorem dX10_fits_79 : decode cX10_fits 79 = .ok (.iinc 5 1, 3) := by decide +kernel
theorem dX10_fits_82 : decode cX10_fits 82 = .ok (.goto (-41), 3) := by decide +kernel
theorem dX10_fits_85 : decode cX10_fits 85 = .ok (.iinc 4 1, 3) := by decide +kernel
theorem dX10_fits_88 : decode cX10_fits 88 = .ok (.goto (-57), 3) := by decide +kernel
theorem dX10_fits_91 : decode cX10_fits 91 = .ok (.iload_n 1, 1) := by decide +kernel
theorem dX10_fits_92 : decode cX10_fits 92 = .ok (.ifCond .ne 7, 3) := by decide +kernel
theorem dX10_fits_95 : decode cX10_fits 95 = .ok (.iload_n 2, 1) := by decide +kernel
theorem dX10_fits_96 : decode cX10_fits 96 = .ok (.goto 4, 3) := by decide +kernel
theorem dX10_fits_99 : decode cX10_fits 99 = .ok (.iload_n 3, 1) := by decide +kernel
theorem dX10_fits_100 : decode cX10_fits 100 = .ok (.ireturn, 1) := by decide +kernel
theorem dX10_odds_0 : decode cX10_odds 0 = .ok (.iload_n 1, 1) := by decide +kernel
theorem dX10_odds_1 : decode cX10_odds 1 = .ok (.ifCond .lt 40, 3) := by decide +kernel
theorem dX10_odds_4 : decode cX10_odds 4 = .ok (.iload_n 1, 1) := by decide +kernel
theorem dX10_odds_5 : decode cX10_odds 5 = .ok (.bipush 10, 2) := by decide +kernel
theorem dX10_odds_7 : decode cX10_odds 7 = .ok (.if_icmp .gt 34, 3) := by decide +kernel
theorem dX10_odds_10 : decode cX10_odds 10 = .ok (.iload_n 2, 1) := by decide +kernel
theorem dX10_odds_11 : decode cX10_odds 11 = .ok (.ifCond .lt 30, 3) := by decide +kernel
theorem dX10_odds_14 : decode cX10_odds 14 = .ok (.iload_n 2, 1) := by decide +kernel
theorem dX10_odds_15 : decode cX10_odds 15 = .ok (.bipush 8, 2) := by decide +kernel
theorem dX10_odds_17 : decode cX10_odds 17 = .ok (.if_icmp .gt 24, 3) := by decide +kernel
theorem dX10_odds_20 : decode cX10_odds 20 = .ok (.iload_n 3, 1) := by decide +kernel
theorem dX10_odds_21 : decode cX10_odds 21 = .ok (.ifCond .lt 20, 3) := by decide +kernel
theorem dX10_odds_24 : decode cX10_odds 24 = .ok (.iload_n 3, 1) := by decide +kernel
theorem dX10_odds_25 : decode cX10_odds 25 = .ok (.bipush 8, 2) := by decide +kernel
theorem dX10_odds_27 : decode cX10_odds 27 = .ok (.if_icmp .gt 14, 3) := by decide +kernel
theorem dX10_odds_30 : decode cX10_odds 30 = .ok (.iload 4, 2) := by decide +kernel
theorem dX10_odds_32 : decode cX10_odds 32 = .ok (.ifCond .lt 9, 3) := by decide +kernel
theorem dX10_odds_35 : decode cX10_odds 35 = .ok (.iload 4, 2) := by decide +kernel
theorem dX10_odds_37 : decode cX10_odds 37 = .ok (.iconst 1, 1) := by decide +kernel
theorem dX10_odds_38 : decode cX10_odds 38 = .ok (.if_icmp .le 5, 3) := by decide +kernel
theorem dX10_odds_41 : decode cX10_odds 41 = .ok (.iconst (-1), 1) := by decide +kernel
theorem dX10_odds_42 : decode cX10_odds 42 = .ok (.ireturn, 1) := by decide +kernel
theorem dX10_odds_43 : decode cX10_odds 43 = .ok (.bipush 10, 2) := by decide +kernel
theorem dX10_odds_45 : decode cX10_odds 45 = .ok (.iload_n 2, 1) := by decide +kernel
theorem dX10_odds_46 : decode cX10_odds 46 = .ok (.invokestatic 257, 3) := by decide +kernel
theorem dX10_odds_49 : decode cX10_odds 49 = .ok (.istore 5, 2) := by decide +kernel
theorem dX10_odds_51 : decode cX10_odds 51 = .ok (.iload_n 1, 1) := by decide +kernel
theorem dX10_odds_52 : decode cX10_odds 52 = .ok (.iload_n 2, 1) := by decide +kernel
theorem dX10_odds_53 : decode cX10_odds 53 = .ok (.iload_n 3, 1) := by decide +kernel
theorem dX10_odds_54 : decode cX10_odds 54 = .ok (.invokestatic 260, 3) := by decide +kernel
theorem dX10_odds_57 : decode cX10_odds 57 = .ok (.istore 6, 2) := by decide +kernel
theorem dX10_odds_59 : decode cX10_odds 59 = .ok (.iload 6, 2) := by decide +kernel
theorem dX10_odds_61 : decode cX10_odds 61 = .ok (.iload_n 2, 1) := by decide +kernel
theorem dX10_odds_62 : decode cX10_odds 62 = .ok (.invokestatic 264, 3) := by decide +kernel
theorem dX10_odds_65 : decode cX10_odds 65 = .ok (.istore 7, 2) := by decide +kernel
theorem dX10_odds_67 : decode cX10_odds 67 = .ok (.iload 4, 2) := by decide +kernel
theorem dX10_odds_69 : decode cX10_odds 69 = .ok (.ifCond .ne 8, 3) := by decide +kernel
theorem dX10_odds_72 : decode cX10_odds 72 = .ok (.iload 6, 2) := by decide +kernel
theorem dX10_odds_74 : decode cX10_odds 74 = .ok (.goto 5, 3) := by decide +kernel
theorem dX10_odds_77 : decode cX10_odds 77 = .ok (.iload 5, 2) := by decide +kernel
theorem dX10_odds_79 : decode cX10_odds 79 = .ok (.iconst 1, 1) := by decide +kernel
theorem dX10_odds_80 : decode cX10_odds 80 = .ok (.iload 7, 2) := by decide +kernel
theorem dX10_odds_82 : decode cX10_odds 82 = .ok (.invokestatic 267, 3) := by decide +kernel
theorem dX10_odds_85 : decode cX10_odds 85 = .ok (.idiv, 1) := by decide +kernel
theorem dX10_odds_86 : decode cX10_odds 86 = .ok (.ireturn, 1) := by decide +kernel
theorem dX10_keep_0 : decode cX10_keep 0 = .ok (.iload_n 1, 1) := by decide +kernel
theorem dX10_keep_1 : decode cX10_keep 1 = .ok (.ifCond .lt 8, 3) := by decide +kernel
theorem dX10_keep_4 : decode cX10_keep 4 = .ok (.iload_n 1, 1) := by decide +kernel
theorem dX10_keep_5 : decode cX10_keep 5 = .ok (.iconst 2, 1) := by decide +kernel
theorem dX10_keep_6 : decode cX10_keep 6 = .ok (.if_icmp .lt 5, 3) := by decide +kernel
theorem dX10_keep_9 : decode cX10_keep 9 = .ok (.iconst (-1), 1) := by decide +kernel
theorem dX10_keep_10 : decode cX10_keep 10 = .ok (.ireturn, 1) := by decide +kernel
theorem dX10_keep_11 : decode cX10_keep 11 = .ok (.aload_n 0, 1) := by decide +kernel
theorem dX10_keep_12 : decode cX10_keep 12 = .ok (.getfield 19, 3) := by decide +kernel
theorem dX10_keep_15 : decode cX10_keep 15 = .ok (.iload_n 1, 1) := by decide +kernel
theorem dX10_keep_16 : decode cX10_keep 16 = .ok (.aaload, 1) := by decide +kernel
theorem dX10_keep_17 : decode cX10_keep 17 = .ok (.aload_n 0, 1) := by decide +kernel
theorem dX10_keep_18 : decode cX10_keep 18 = .ok (.getfield 12, 3) := by decide +kernel
theorem dX10_keep_21 : decode cX10_keep 21 = .ok (.invokevirtual 89, 3) := by decide +kernel
theorem dX10_keep_24 : decode cX10_keep 24 = .ok (.aload_n 0, 1) := by decide +kernel
theorem dX10_keep_25 : decode cX10_keep 25 = .ok (.getfield 23, 3) := by decide +kernel
theorem dX10_keep_28 : decode cX10_keep 28 = .ok (.iload_n 1, 1) := by decide +kernel
theorem dX10_keep_29 : decode cX10_keep 29 = .ok (.iconst 1, 1) := by decide +kernel
theorem dX10_keep_30 : decode cX10_keep 30 = .ok (.bastore, 1) := by decide +kernel
theorem dX10_keep_31 : decode cX10_keep 31 = .ok (.aload_n 0, 1) := by decide +kernel
theorem dX10_keep_32 : decode cX10_keep 32 = .ok (.getfield 12, 3) := by decide +kernel
theorem dX10_keep_35 : decode cX10_keep 35 = .ok (.getfield 159, 3) := by decide +kernel
theorem dX10_keep_38 : decode cX10_keep 38 = .ok (.getfield 151, 3) := by decide +kernel
theorem dX10_keep_41 : decode cX10_keep 41 = .ok (.ireturn, 1) := by decide +kernel
theorem dX10_back_0 : decode cX10_back 0 = .ok (.iload_n 1, 1) := by decide +kernel
theorem dX10_back_1 : decode cX10_back 1 = .ok (.ifCond .lt 8, 3) := by decide +kernel
theorem dX10_back_4 : decode cX10_back 4 = .ok (.iload_n 1, 1) := by decide +kernel
theorem dX10_back_5 : decode cX10_back 5 = .ok (.iconst 2, 1) := by decide +kernel
theorem dX10_back_6 : decode cX10_back 6 = .ok (.if_icmp .lt 5, 3) := by decide +kernel
theorem dX10_back_9 : decode cX10_back 9 = .ok (.iconst (-1), 1) := by decide +kernel
theorem dX10_back_10 : decode cX10_back 10 = .ok (.ireturn, 1) := by decide +kernel
theorem dX10_back_11 : decode cX10_back 11 = .ok (.aload_n 0, 1) := by decide +kernel
theorem dX10_back_12 : decode cX10_back 12 = .ok (.getfield 23, 3) := by decide +kernel
theorem dX10_back_15 : decode cX10_back 15 = .ok (.iload_n 1, 1) := by decide +kernel
theorem dX10_back_16 : decode cX10_back 16 = .ok (.baload, 1) := by decide +kernel
theorem dX10_back_17 : decode cX10_back 17 = .ok (.ifCond .ne 6, 3) := by decide +kernel
theorem dX10_back_20 : decode cX10_back 20 = .ok (.bipush (-2), 2) := by decide +kernel
theorem dX10_back_22 : decode cX10_back 22 = .ok (.ireturn, 1) := by decide +kernel
theorem dX10_back_23 : decode cX10_back 23 = .ok (.aload_n 0, 1) := by decide +kernel
theorem dX10_back_24 : decode cX10_back 24 = .ok (.getfield 12, 3) := by decide +kernel
theorem dX10_back_27 : decode cX10_back 27 = .ok (.aload_n 0, 1) := by decide +kernel
theorem dX10_back_28 : decode cX10_back 28 = .ok (.getfield 19, 3) := by decide +kernel
theorem dX10_back_31 : decode cX10_back 31 = .ok (.iload_n 1, 1) := by decide +kernel
theorem dX10_back_32 : decode cX10_back 32 = .ok (.aaload, 1) := by decide +kernel
theorem dX10_back_33 : decode cX10_back 33 = .ok (.invokevirtual 89, 3) := by decide +kernel
theorem dX10_back_36 : decode cX10_back 36 = .ok (.aload_n 0, 1) := by decide +kernel
theorem dX10_back_37 : decode cX10_back 37 = .ok (.getfield 30, 3) := by decide +kernel
theorem dX10_back_40 : decode cX10_back 40 = .ok (.iconst 0, 1) := by decide +kernel
theorem dX10_back_41 : decode cX10_back 41 = .ok (.putfield 213, 3) := by decide +kernel
theorem dX10_back_44 : decode cX10_back 44 = .ok (.aload_n 0, 1) := by decide +kernel
theorem dX10_back_45 : decode cX10_back 45 = .ok (.getfield 12, 3) := by decide +kernel
theorem dX10_back_48 : decode cX10_back 48 = .ok (.getfield 159, 3) := by decide +kernel
theorem dX10_back_51 : decode cX10_back 51 = .ok (.getfield 151, 3) := by decide +kernel
theorem dX10_back_54 : decode cX10_back 54 = .ok (.ireturn, 1) := by decide +kernel
theorem dX10_count_0 : decode cX10_count 0 = .ok (.iload_n 1, 1) := by decide +kernel
theorem dX10_count_1 : decode cX10_count 1 = .ok (.tableswitch 127 0 7 #[47, 58, 69, 80, 95, 103, 111, 119], 47) := by decide +kernel
theorem dX10_count_48 : decode cX10_count 48 = .ok (.aload_n 0, 1) := by decide +kernel
theorem dX10_count_49 : decode cX10_count 49 = .ok (.getfield 12, 3) := by decide +kernel
theorem dX10_count_52 : decode cX10_count 52 = .ok (.getfield 143, 3) := by decide +kernel
theorem dX10_count_55 : decode cX10_count 55 = .ok (.getfield 151, 3) := by decide +kernel
theorem dX10_count_58 : decode cX10_count 58 = .ok (.ireturn, 1) := by decide +kernel
theorem dX10_count_59 : decode cX10_count 59 = .ok (.aload_n 0, 1) := by decide +kernel
theorem dX10_count_60 : decode cX10_count 60 = .ok (.getfield 12, 3) := by decide +kernel
theorem dX10_count_63 : decode cX10_count 63 = .ok (.getfield 159, 3) := by decide +kernel
theorem dX10_count_66 : decode cX10_count 66 = .ok (.getfield 151, 3) := by decide +kernel
theorem dX10_count_69 : decode cX10_count 69 = .ok (.ireturn, 1) := by decide +kernel
theorem dX10_count_70 : decode cX10_count 70 = .ok (.aload_n 0, 1) := by decide +kernel
theorem dX10_count_71 : decode cX10_count 71 = .ok (.getfield 12, 3) := by decide +kernel
theorem dX10_count_74 : decode cX10_count 74 = .ok (.getfield 123, 3) := by decide +kernel
theorem dX10_count_77 : decode cX10_count 77 = .ok (.invokestatic 126, 3) := by decide +kernel
theorem dX10_count_80 : decode cX10_count 80 = .ok (.ireturn, 1) := by decide +kernel
theorem dX10_count_81 : decode cX10_count 81 = .ok (.aload_n 0, 1) := by decide +kernel
theorem dX10_count_82 : decode cX10_count 82 = .ok (.aload_n 0, 1) := by decide +kernel
theorem dX10_count_83 : decode cX10_count 83 = .ok (.getfield 12, 3) := by decide +kernel
theorem dX10_count_86 : decode cX10_count 86 = .ok (.getfield 159, 3) := by decide +kernel
theorem dX10_count_89 : decode cX10_count 89 = .ok (.getfield 151, 3) := by decide +kernel
theorem dX10_count_92 : decode cX10_count 92 = .ok (.invokevirtual 201, 3) := by decide +kernel
theorem dX10_count_95 : decode cX10_count 95 = .ok (.ireturn, 1) := by decide +kernel
theorem dX10_count_96 : decode cX10_count 96 = .ok (.aload_n 0, 1) := by decide +kernel
theorem dX10_count_97 : decode cX10_count 97 = .ok (.getfield 12, 3) := by decide +kernel
theorem dX10_count_100 : decode cX10_count 100 = .ok (.getfield 204, 3) := by decide +kernel
theorem dX10_count_103 : decode cX10_count 103 = .ok (.ireturn, 1) := by decide +kernel
theorem dX10_count_104 : decode cX10_count 104 = .ok (.aload_n 0, 1) := by decide +kernel
theorem dX10_count_105 : decode cX10_count 105 = .ok (.getfield 44, 3) := by decide +kernel
theorem dX10_count_108 : decode cX10_count 108 = .ok (.getfield 100, 3) := by decide +kernel
theorem dX10_count_111 : decode cX10_count 111 = .ok (.ireturn, 1) := by decide +kernel
theorem dX10_count_112 : decode cX10_count 112 = .ok (.aload_n 0, 1) := by decide +kernel
theorem dX10_count_113 : decode cX10_count 113 = .ok (.getfield 37, 3) := by decide +kernel
theorem dX10_count_116 : decode cX10_count 116 = .ok (.getfield 85, 3) := by decide +kernel
theorem dX10_count_119 : decode cX10_count 119 = .ok (.ireturn, 1) := by decide +kernel
theorem dX10_count_120 : decode cX10_count 120 = .ok (.aload_n 0, 1) := by decide +kernel
theorem dX10_count_121 : decode cX10_count 121 = .ok (.getfield 30, 3) := by decide +kernel
theorem dX10_count_124 : decode cX10_count 124 = .ok (.getfield 213, 3) := by decide +kernel
theorem dX10_count_127 : decode cX10_count 127 = .ok (.ireturn, 1) := by decide +kernel
theorem dX10_count_128 : decode cX10_count 128 = .ok (.iconst (-1), 1) := by decide +kernel
theorem dX10_count_129 : decode cX10_count 129 = .ok (.ireturn, 1) := by decide +kernel
theorem dX10_isPlace_0 : decode cX10_isPlace 0 = .ok (.iload_n 0, 1) := by decide +kernel
theorem dX10_isPlace_1 : decode cX10_isPlace 1 = .ok (.ifCond .lt 13, 3) := by decide +kernel
theorem dX10_isPlace_4 : decode cX10_isPlace 4 = .ok (.iload_n 0, 1) := by decide +kernel
theorem dX10_isPlace_5 : decode cX10_isPlace 5 = .ok (.bipush 16, 2) := by decide +kernel
theorem dX10_isPlace_7 : decode cX10_isPlace 7 = .ok (.if_icmp .ge 7, 3) := by decide +kernel
theorem dX10_isPlace_10 : decode cX10_isPlace 10 = .ok (.iconst 1, 1) := by decide +kernel
theorem dX10_isPlace_11 : decode cX10_isPlace 11 = .ok (.goto 4, 3) := by decide +kernel
theorem dX10_isPlace_14 : decode cX10_isPlace 14 = .ok (.iconst 0, 1) := by decide +kernel
theorem dX10_isPlace_15 : decode cX10_isPlace 15 = .ok (.ireturn, 1) := by decide +kernel
theorem dX10_isSpot_0 : decode cX10_isSpot 0 = .ok (.iload_n 0, 1) := by decide +kernel
theorem dX10_isSpot_1 : decode cX10_isSpot 1 = .ok (.ifCond .lt 19, 3) := by decide +kernel
theorem dX10_isSpot_4 : decode cX10_isSpot 4 = .ok (.iload_n 0, 1) := by decide +kernel
theorem dX10_isSpot_5 : decode cX10_isSpot 5 = .ok (.iconst 2, 1) := by decide +kernel
theorem dX10_isSpot_6 : decode cX10_isSpot 6 = .ok (.if_icmp .ge 14, 3) := by decide +kernel
theorem dX10_isSpot_9 : decode cX10_isSpot 9 = .ok (.iload_n 1, 1) := by decide +kernel
theorem dX10_isSpot_10 : decode cX10_isSpot 10 = .ok (.invokestatic 113, 3) := by decide +kernel
theorem dX10_isSpot_13 : decode cX10_isSpot 13 = .ok (.ifCond .eq 7, 3) := by decide +kernel
theorem dX10_isSpot_16 : decode cX10_isSpot 16 = .ok (.iconst 1, 1) := by decide +kernel
theorem dX10_isSpot_17 : decode cX10_isSpot 17 = .ok (.goto 4, 3) := by decide +kernel
theorem dX10_isSpot_20 : decode cX10_isSpot 20 = .ok (.iconst 0, 1) := by decide +kernel
theorem dX10_isSpot_21 : decode cX10_isSpot 21 = .ok (.ireturn, 1) := by decide +kernel
theorem dX10_isSymbol_0 : decode cX10_isSymbol 0 = .ok (.iload_n 0, 1) := by decide +kernel
theorem dX10_isSymbol_1 : decode cX10_isSymbol 1 = .ok (.ifCond .lt 12, 3) := by decide +kernel
theorem dX10_isSymbol_4 : decode cX10_isSymbol 4 = .ok (.iload_n 0, 1) := by decide +kernel
theorem dX10_isSymbol_5 : decode cX10_isSymbol 5 = .ok (.iconst 4, 1) := by decide +kernel
theorem dX10_isSymbol_6 : decode cX10_isSymbol 6 = .ok (.if_icmp .ge 7, 3) := by decide +kernel
theorem dX10_isSymbol_9 : decode cX10_isSymbol 9 = .ok (.iconst 1, 1) := by decide +kernel
theorem dX10_isSymbol_10 : decode cX10_isSymbol 10 = .ok (.goto 4, 3) := by decide +kernel
theorem dX10_isSymbol_13 : decode cX10_isSymbol 13 = .ok (.iconst 0, 1) := by decide +kernel
theorem dX10_isSymbol_14 : decode cX10_isSymbol 14 = .ok (.ireturn, 1) := by decide +kernel
theorem dX10_isPair_0 : decode cX10_isPair 0 = .ok (.iload_n 0, 1) := by decide +kernel
theorem dX10_isPair_1 : decode cX10_isPair 1 = .ok (.invokestatic 113, 3) := by decide +kernel
theorem dX10_isPair_4 : decode cX10_isPair 4 = .ok (.ifCond .eq 19, 3) := by decide +kernel
theorem dX10_isPair_7 : decode cX10_isPair 7 = .ok (.iload_n 1, 1) := by decide +kernel
theorem dX10_isPair_8 : decode cX10_isPair 8 = .ok (.invokestatic 113, 3) := by decide +kernel
theorem dX10_isPair_11 : decode cX10_isPair 11 = .ok (.ifCond .eq 12, 3) := by decide +kernel
theorem dX10_isPair_14 : decode cX10_isPair 14 = .ok (.iload_n 0, 1) := by decide +kernel
theorem dX10_isPair_15 : decode cX10_isPair 15 = .ok (.iload_n 1, 1) := by decide +kernel
theorem dX10_isPair_16 : decode cX10_isPair 16 = .ok (.if_icmp .eq 7, 3) := by decide +kernel
theorem dX10_isPair_19 : decode cX10_isPair 19 = .ok (.iconst 1, 1) := by decide +kernel
theorem dX10_isPair_20 : decode cX10_isPair 20 = .ok (.goto 4, 3) := by decide +kernel
theorem dX10_isPair_23 : decode cX10_isPair 23 = .ok (.iconst 0, 1) := by decide +kernel
theorem dX10_isPair_24 : decode cX10_isPair 24 = .ok (.ireturn, 1) := by decide +kernel
theorem dX10_putStep_0 : decode cX10_putStep 0 = .ok (.aload_n 0, 1) := by decide +kernel
theorem dX10_putStep_1 : decode cX10_putStep 1 = .ok (.getfield 67, 3) := by decide +kernel
theorem dX10_putStep_4 : decode cX10_putStep 4 = .ok (.iconst 0, 1) := by decide +kernel
theorem dX10_putStep_5 : decode cX10_putStep 5 = .ok (.iload_n 1, 1) := by decide +kernel
theorem dX10_putStep_6 : decode cX10_putStep 6 = .ok (.iastore, 1) := by decide +kernel
theorem dX10_putStep_7 : decode cX10_putStep 7 = .ok (.aload_n 0, 1) := by decide +kernel
theorem dX10_putStep_8 : decode cX10_putStep 8 = .ok (.getfield 67, 3) := by decide +kernel
theorem dX10_putStep_11 : decode cX10_putStep 11 = .ok (.iconst 1, 1) := by decide +kernel
theorem dX10_putStep_12 : decode cX10_putStep 12 = .ok (.iload_n 2, 1) := by decide +kernel
theorem dX10_putStep_13 : decode cX10_putStep 13 = .ok (.iastore, 1) := by decide +kernel
theorem dX10_putStep_14 : decode cX10_putStep 14 = .ok (.aload_n 0, 1) := by decide +kernel
theorem dX10_putStep_15 : decode cX10_putStep 15 = .ok (.getfield 67, 3) := by decide +kernel
theorem dX10_putStep_18 : decode cX10_putStep 18 = .ok (.iconst 2, 1) := by decide +kernel
theorem dX10_putStep_19 : decode cX10_putStep 19 = .ok (.iload_n 3, 1) := by decide +kernel
theorem dX10_putStep_20 : decode cX10_putStep 20 = .ok (.iastore, 1) := by decide +kernel
theorem dX10_putStep_21 : decode cX10_putStep 21 = .ok (.aload_n 0, 1) := by decide +kernel
theorem dX10_putStep_22 : decode cX10_putStep 22 = .ok (.getfield 67, 3) := by decide +kernel
theorem dX10_putStep_25 : decode cX10_putStep 25 = .ok (.iconst 3, 1) := by decide +kernel
theorem dX10_putStep_26 : decode cX10_putStep 26 = .ok (.iload 4, 2) := by decide +kernel
theorem dX10_putStep_28 : decode cX10_putStep 28 = .ok (.iastore, 1) := by decide +kernel
theorem dX10_putStep_29 : decode cX10_putStep 29 = .ok (.aload_n 0, 1) := by decide +kernel
theorem dX10_putStep_30 : decode cX10_putStep 30 = .ok (.getfield 67, 3) := by decide +kernel
theorem dX10_putStep_33 : decode cX10_putStep 33 = .ok (.iconst 4, 1) := by decide +kernel
theorem dX10_putStep_34 : decode cX10_putStep 34 = .ok (.iload 5, 2) := by decide +kernel
theorem dX10_putStep_36 : decode cX10_putStep 36 = .ok (.iastore, 1) := by decide +kernel
theorem dX10_putStep_37 : decode cX10_putStep 37 = .ok (.return_, 1) := by decide +kernel
theorem dX10_appendStep_0 : decode cX10_appendStep 0 = .ok (.aload_n 1, 1) := by decide +kernel
theorem dX10_appendStep_1 : decode cX10_appendStep 1 = .ok (.invokevirtual 272, 3) := by decide +kernel
theorem dX10_appendStep_4 : decode cX10_appendStep 4 = .ok (.ifCond .eq 6, 3) := by decide +kernel
theorem dX10_appendStep_7 : decode cX10_appendStep 7 = .ok (.bipush (-3), 2) := by decide +kernel
theorem dX10_appendStep_9 : decode cX10_appendStep 9 = .ok (.ireturn, 1) := by decide +kernel
theorem dX10_appendStep_10 : decode cX10_appendStep 10 = .ok (.aload_n 0, 1) := by decide +kernel
theorem dX10_appendStep_11 : decode cX10_appendStep 11 = .ok (.getfield 30, 3) := by decide +kernel
theorem dX10_appendStep_14 : decode cX10_appendStep 14 = .ok (.aload_n 0, 1) := by decide +kernel
theorem dX10_appendStep_15 : decode cX10_appendStep 15 = .ok (.getfield 12, 3) := by decide +kernel
theorem dX10_appendStep_18 : decode cX10_appendStep 18 = .ok (.invokevirtual 97, 3) := by decide +kernel
theorem dX10_appendStep_21 : decode cX10_appendStep 21 = .ok (.aload_n 1, 1) := by decide +kernel
theorem dX10_appendStep_22 : decode cX10_appendStep 22 = .ok (.aload_n 0, 1) := by decide +kernel
theorem dX10_appendStep_23 : decode cX10_appendStep 23 = .ok (.getfield 67, 3) := by decide +kernel
theorem dX10_appendStep_26 : decode cX10_appendStep 26 = .ok (.invokevirtual 275, 3) := by decide +kernel
theorem dX10_appendStep_29 : decode cX10_appendStep 29 = .ok (.aload_n 1, 1) := by decide +kernel
theorem dX10_appendStep_30 : decode cX10_appendStep 30 = .ok (.getfield 151, 3) := by decide +kernel
theorem dX10_appendStep_33 : decode cX10_appendStep 33 = .ok (.ireturn, 1) := by decide +kernel
theorem dX10_errorsAfter_0 : decode cX10_errorsAfter 0 = .ok (.aload_n 0, 1) := by decide +kernel
theorem dX10_errorsAfter_1 : decode cX10_errorsAfter 1 = .ok (.getfield 51, 3) := by decide +kernel
theorem dX10_errorsAfter_4 : decode cX10_errorsAfter 4 = .ok (.aload_n 0, 1) := by decide +kernel
theorem dX10_errorsAfter_5 : decode cX10_errorsAfter 5 = .ok (.getfield 12, 3) := by decide +kernel
theorem dX10_errorsAfter_8 : decode cX10_errorsAfter 8 = .ok (.iload_n 1, 1) := by decide +kernel
theorem dX10_errorsAfter_9 : decode cX10_errorsAfter 9 = .ok (.invokevirtual 217, 3) := by decide +kernel
theorem dX10_errorsAfter_12 : decode cX10_errorsAfter 12 = .ok (.aload_n 0, 1) := by decide +kernel
theorem dX10_errorsAfter_13 : decode cX10_errorsAfter 13 = .ok (.getfield 51, 3) := by decide +kernel
theorem dX10_errorsAfter_16 : decode cX10_errorsAfter 16 = .ok (.aload_n 0, 1) := by decide +kernel
theorem dX10_errorsAfter_17 : decode cX10_errorsAfter 17 = .ok (.getfield 12, 3) := by decide +kernel
theorem dX10_errorsAfter_20 : decode cX10_errorsAfter 20 = .ok (.invokevirtual 278, 3) := by decide +kernel
theorem dX10_errorsAfter_23 : decode cX10_errorsAfter 23 = .ok (.ireturn, 1) := by decide +kernel
theorem dX10_unspreadFits_0 : decode cX10_unspreadFits 0 = .ok (.aload_n 0, 1) := by decide +kernel
theorem dX10_unspreadFits_1 : decode cX10_unspreadFits 1 = .ok (.getfield 55, 3) := by decide +kernel
theorem dX10_unspreadFits_4 : decode cX10_unspreadFits 4 = .ok (.aload_n 0, 1) := by decide +kernel
theorem dX10_unspreadFits_5 : decode cX10_unspreadFits 5 = .ok (.getfield 51, 3) := by decide +kernel
theorem dX10_unspreadFits_8 : decode cX10_unspreadFits 8 = .ok (.invokevirtual 237, 3) := by decide +kernel
theorem dX10_unspreadFits_11 : decode cX10_unspreadFits 11 = .ok (.aload_n 0, 1) := by decide +kernel
theorem dX10_unspreadFits_12 : decode cX10_unspreadFits 12 = .ok (.getfield 55, 3) := by decide +kernel
theorem dX10_unspreadFits_15 : decode cX10_unspreadFits 15 = .ok (.iload_n 1, 1) := by decide +kernel
theorem dX10_unspreadFits_16 : decode cX10_unspreadFits 16 = .ok (.invokevirtual 281, 3) := by decide +kernel
theorem dX10_unspreadFits_19 : decode cX10_unspreadFits 19 = .ok (.aload_n 0, 1) := by decide +kernel
theorem dX10_unspreadFits_20 : decode cX10_unspreadFits 20 = .ok (.getfield 55, 3) := by decide +kernel
theorem dX10_unspreadFits_23 : decode cX10_unspreadFits 23 = .ok (.aload_n 0, 1) := by decide +kernel
theorem dX10_unspreadFits_24 : decode cX10_unspreadFits 24 = .ok (.getfield 12, 3) := by decide +kernel
theorem dX10_unspreadFits_27 : decode cX10_unspreadFits 27 = .ok (.invokevirtual 243, 3) := by decide +kernel
theorem dX10_unspreadFits_30 : decode cX10_unspreadFits 30 = .ok (.ifCond .ne 7, 3) := by decide +kernel
theorem dX10_unspreadFits_33 : decode cX10_unspreadFits 33 = .ok (.iconst 1, 1) := by decide +kernel
theorem dX10_unspreadFits_34 : decode cX10_unspreadFits 34 = .ok (.goto 4, 3) := by decide +kernel
theorem dX10_unspreadFits_37 : decode cX10_unspreadFits 37 = .ok (.iconst 0, 1) := by decide +kernel
theorem dX10_unspreadFits_38 : decode cX10_unspreadFits 38 = .ok (.ireturn, 1) := by decide +kernel
theorem dX10_slipFits_0 : decode cX10_slipFits 0 = .ok (.aload_n 0, 1) := by decide +kernel
theorem dX10_slipFits_1 : decode cX10_slipFits 1 = .ok (.getfield 55, 3) := by decide +kernel
theorem dX10_slipFits_4 : decode cX10_slipFits 4 = .ok (.aload_n 0, 1) := by decide +kernel
theorem dX10_slipFits_5 : decode cX10_slipFits 5 = .ok (.getfield 51, 3) := by decide +kernel
theorem dX10_slipFits_8 : decode cX10_slipFits 8 = .ok (.invokevirtual 237, 3) := by decide +kernel
theorem dX10_slipFits_11 : decode cX10_slipFits 11 = .ok (.aload_n 0, 1) := by decide +kernel
theorem dX10_slipFits_12 : decode cX10_slipFits 12 = .ok (.getfield 55, 3) := by decide +kernel
theorem dX10_slipFits_15 : decode cX10_slipFits 15 = .ok (.iload_n 1, 1) := by decide +kernel
theorem dX10_slipFits_16 : decode cX10_slipFits 16 = .ok (.iload_n 2, 1) := by decide +kernel
theorem dX10_slipFits_17 : decode cX10_slipFits 17 = .ok (.invokevirtual 284, 3) := by decide +kernel
theorem dX10_slipFits_20 : decode cX10_slipFits 20 = .ok (.iconst 0, 1) := by decide +kernel
theorem dX10_slipFits_21 : decode cX10_slipFits 21 = .ok (.istore_n 3, 1) := by decide +kernel
theorem dX10_slipFits_22 : decode cX10_slipFits 22 = .ok (.iload_n 3, 1) := by decide +kernel
theorem dX10_slipFits_23 : decode cX10_slipFits 23 = .ok (.aload_n 0, 1) := by decide +kernel
theorem dX10_slipFits_24 : decode cX10_slipFits 24 = .ok (.getfield 12, 3) := by decide +kernel
theorem dX10_slipFits_27 : decode cX10_slipFits 27 = .ok (.getfield 159, 3) := by decide +kernel
theorem dX10_slipFits_30 : decode cX10_slipFits 30 = .ok (.getfield 151, 3) := by decide +kernel
theorem dX10_slipFits_33 : decode cX10_slipFits 33 = .ok (.if_icmp .ge 21, 3) := by decide +kernel
theorem dX10_slipFits_36 : decode cX10_slipFits 36 = .ok (.aload_n 0, 1) := by decide +kernel
theorem dX10_slipFits_37 : decode cX10_slipFits 37 = .ok (.getfield 55, 3) := by decide +kernel
theorem dX10_slipFits_40 : decode cX10_slipFits 40 = .ok (.aload_n 0, 1) := by decide +kernel
theorem dX10_slipFits_41 : decode cX10_slipFits 41 = .ok (.getfield 12, 3) := by decide +kernel
theorem dX10_slipFits_44 : decode cX10_slipFits 44 = .ok (.iload_n 3, 1) := by decide +kernel
theorem dX10_slipFits_45 : decode cX10_slipFits 45 = .ok (.invokevirtual 288, 3) := by decide +kernel
theorem dX10_slipFits_48 : decode cX10_slipFits 48 = .ok (.iinc 3 1, 3) := by decide +kernel
theorem dX10_slipFits_51 : decode cX10_slipFits 51 = .ok (.goto (-29), 3) := by decide +kernel
theorem dX10_slipFits_54 : decode cX10_slipFits 54 = .ok (.aload_n 0, 1) := by decide +kernel
theorem dX10_slipFits_55 : decode cX10_slipFits 55 = .ok (.getfield 44, 3) := by decide +kernel
theorem dX10_slipFits_58 : decode cX10_slipFits 58 = .ok (.aload_n 0, 1) := by decide +kernel
theorem dX10_slipFits_59 : decode cX10_slipFits 59 = .ok (.getfield 55, 3) := by decide +kernel
theorem dX10_slipFits_62 : decode cX10_slipFits 62 = .ok (.invokevirtual 291, 3) := by decide +kernel
theorem dX10_slipFits_65 : decode cX10_slipFits 65 = .ok (.ireturn, 1) := by decide +kernel
theorem dX10_findTaps_0 : decode cX10_findTaps 0 = .ok (.aload_n 0, 1) := by decide +kernel
theorem dX10_findTaps_1 : decode cX10_findTaps 1 = .ok (.getfield 51, 3) := by decide +kernel
theorem dX10_findTaps_4 : decode cX10_findTaps 4 = .ok (.aload_n 0, 1) := by decide +kernel
theorem dX10_findTaps_5 : decode cX10_findTaps 5 = .ok (.getfield 12, 3) := by decide +kernel
theorem dX10_findTaps_8 : decode cX10_findTaps 8 = .ok (.aload_n 0, 1) := by decide +kernel
theorem dX10_findTaps_9 : decode cX10_findTaps 9 = .ok (.getfield 12, 3) := by decide +kernel
theorem dX10_findTaps_12 : decode cX10_findTaps 12 = .ok (.getfield 159, 3) := by decide +kernel
theorem dX10_findTaps_15 : decode cX10_findTaps 15 = .ok (.getfield 151, 3) := by decide +kernel
theorem dX10_findTaps_18 : decode cX10_findTaps 18 = .ok (.invokevirtual 217, 3) := by decide +kernel
theorem dX10_findTaps_21 : decode cX10_findTaps 21 = .ok (.aload_n 0, 1) := by decide +kernel
theorem dX10_findTaps_22 : decode cX10_findTaps 22 = .ok (.getfield 51, 3) := by decide +kernel
theorem dX10_findTaps_25 : decode cX10_findTaps 25 = .ok (.getfield 221, 3) := by decide +kernel
theorem dX10_findTaps_28 : decode cX10_findTaps 28 = .ok (.astore_n 3, 1) := by decide +kernel
theorem dX10_findTaps_29 : decode cX10_findTaps 29 = .ok (.aload_n 0, 1) := by decide +kernel
theorem dX10_findTaps_30 : decode cX10_findTaps 30 = .ok (.getfield 12, 3) := by decide +kernel
theorem dX10_findTaps_33 : decode cX10_findTaps 33 = .ok (.getfield 110, 3) := by decide +kernel
theorem dX10_findTaps_36 : decode cX10_findTaps 36 = .ok (.astore 4, 2) := by decide +kernel
theorem dX10_findTaps_38 : decode cX10_findTaps 38 = .ok (.aload_n 0, 1) := by decide +kernel
theorem dX10_findTaps_39 : decode cX10_findTaps 39 = .ok (.getfield 74, 3) := by decide +kernel
theorem dX10_findTaps_42 : decode cX10_findTaps 42 = .ok (.aload_n 3, 1) := by decide +kernel
theorem dX10_findTaps_43 : decode cX10_findTaps 43 = .ok (.iload_n 1, 1) := by decide +kernel
theorem dX10_findTaps_44 : decode cX10_findTaps 44 = .ok (.iaload, 1) := by decide +kernel
theorem dX10_findTaps_45 : decode cX10_findTaps 45 = .ok (.aload_n 3, 1) := by decide +kernel
theorem dX10_findTaps_46 : decode cX10_findTaps 46 = .ok (.iload_n 2, 1) := by decide +kernel
theorem dX10_findTaps_47 : decode cX10_findTaps 47 = .ok (.iaload, 1) := by decide +kernel
theorem dX10_findTaps_48 : decode cX10_findTaps 48 = .ok (.aload_n 3, 1) := by decide +kernel
theorem dX10_findTaps_49 : decode cX10_findTaps 49 = .ok (.bipush 16, 2) := by decide +kernel
theorem dX10_findTaps_51 : decode cX10_findTaps 51 = .ok (.iload_n 1, 1) := by decide +kernel
theorem dX10_findTaps_52 : decode cX10_findTaps 52 = .ok (.iadd, 1) := by decide +kernel
theorem dX10_findTaps_53 : decode cX10_findTaps 53 = .ok (.iaload, 1) := by decide +kernel
theorem dX10_findTaps_54 : decode cX10_findTaps 54 = .ok (.aload_n 3, 1) := by decide +kernel
theorem dX10_findTaps_55 : decode cX10_findTaps 55 = .ok (.bipush 16, 2) := by decide +kernel
theorem dX10_findTaps_57 : decode cX10_findTaps 57 = .ok (.iload_n 2, 1) := by decide +kernel
theorem dX10_findTaps_58 : decode cX10_findTaps 58 = .ok (.iadd, 1) := by decide +kernel
theorem dX10_findTaps_59 : decode cX10_findTaps 59 = .ok (.iaload, 1) := by decide +kernel
theorem dX10_findTaps_60 : decode cX10_findTaps 60 = .ok (.invokevirtual 295, 3) := by decide +kernel
theorem dX10_findTaps_63 : decode cX10_findTaps 63 = .ok (.aload_n 0, 1) := by decide +kernel
theorem dX10_findTaps_64 : decode cX10_findTaps 64 = .ok (.getfield 78, 3) := by decide +kernel
theorem dX10_findTaps_67 : decode cX10_findTaps 67 = .ok (.aload 4, 2) := by decide +kernel
theorem dX10_findTaps_69 : decode cX10_findTaps 69 = .ok (.iload_n 1, 1) := by decide +kernel
theorem dX10_findTaps_70 : decode cX10_findTaps 70 = .ok (.iaload, 1) := by decide +kernel
theorem dX10_findTaps_71 : decode cX10_findTaps 71 = .ok (.invokestatic 299, 3) := by decide +kernel
theorem dX10_findTaps_74 : decode cX10_findTaps 74 = .ok (.aload 4, 2) := by decide +kernel
theorem dX10_findTaps_76 : decode cX10_findTaps 76 = .ok (.iload_n 2, 1) := by decide +kernel
theorem dX10_findTaps_77 : decode cX10_findTaps 77 = .ok (.iaload, 1) := by decide +kernel
theorem dX10_findTaps_78 : decode cX10_findTaps 78 = .ok (.invokestatic 299, 3) := by decide +kernel
theorem dX10_findTaps_81 : decode cX10_findTaps 81 = .ok (.aload 4, 2) := by decide +kernel
theorem dX10_findTaps_83 : decode cX10_findTaps 83 = .ok (.bipush 16, 2) := by decide +kernel
theorem dX10_findTaps_85 : decode cX10_findTaps 85 = .ok (.iload_n 1, 1) := by decide +kernel
theorem dX10_findTaps_86 : decode cX10_findTaps 86 = .ok (.iadd, 1) := by decide +kernel
theorem dX10_findTaps_87 : decode cX10_findTaps 87 = .ok (.iaload, 1) := by decide +kernel
theorem dX10_findTaps_88 : decode cX10_findTaps 88 = .ok (.invokestatic 299, 3) := by decide +kernel
theorem dX10_findTaps_91 : decode cX10_findTaps 91 = .ok (.aload 4, 2) := by decide +kernel
theorem dX10_findTaps_93 : decode cX10_findTaps 93 = .ok (.bipush 16, 2) := by decide +kernel
theorem dX10_findTaps_95 : decode cX10_findTaps 95 = .ok (.iload_n 2, 1) := by decide +kernel
theorem dX10_findTaps_96 : decode cX10_findTaps 96 = .ok (.iadd, 1) := by decide +kernel
theorem dX10_findTaps_97 : decode cX10_findTaps 97 = .ok (.iaload, 1) := by decide +kernel
theorem dX10_findTaps_98 : decode cX10_findTaps 98 = .ok (.invokestatic 299, 3) := by decide +kernel
theorem dX10_findTaps_101 : decode cX10_findTaps 101 = .ok (.invokevirtual 295, 3) := by decide +kernel
theorem dX10_findTaps_104 : decode cX10_findTaps 104 = .ok (.aload_n 0, 1) := by decide +kernel
theorem dX10_findTaps_105 : decode cX10_findTaps 105 = .ok (.getfield 74, 3) := by decide +kernel
theorem dX10_findTaps_108 : decode cX10_findTaps 108 = .ok (.invokevirtual 302, 3) := by decide +kernel
theorem dX10_findTaps_111 : decode cX10_findTaps 111 = .ok (.ifCond .eq 13, 3) := by decide +kernel
theorem dX10_findTaps_114 : decode cX10_findTaps 114 = .ok (.aload_n 0, 1) := by decide +kernel
theorem dX10_findTaps_115 : decode cX10_findTaps 115 = .ok (.getfield 78, 3) := by decide +kernel
theorem dX10_findTaps_118 : decode cX10_findTaps 118 = .ok (.invokevirtual 302, 3) := by decide +kernel
theorem dX10_findTaps_121 : decode cX10_findTaps 121 = .ok (.ifCond .ne 5, 3) := by decide +kernel
theorem dX10_findTaps_124 : decode cX10_findTaps 124 = .ok (.iconst 0, 1) := by decide +kernel
theorem dX10_findTaps_125 : decode cX10_findTaps 125 = .ok (.ireturn, 1) := by decide +kernel
theorem dX10_findTaps_126 : decode cX10_findTaps 126 = .ok (.aload_n 0, 1) := by decide +kernel
theorem dX10_findTaps_127 : decode cX10_findTaps 127 = .ok (.getfield 74, 3) := by decide +kernel
theorem dX10_findTaps_130 : decode cX10_findTaps 130 = .ok (.invokevirtual 168, 3) := by decide +kernel
theorem dX10_findTaps_133 : decode cX10_findTaps 133 = .ok (.aload_n 0, 1) := by decide +kernel
theorem dX10_findTaps_134 : decode cX10_findTaps 134 = .ok (.getfield 74, 3) := by decide +kernel
theorem dX10_findTaps_137 : decode cX10_findTaps 137 = .ok (.aload_n 0, 1) := by decide +kernel
theorem dX10_findTaps_138 : decode cX10_findTaps 138 = .ok (.getfield 78, 3) := by decide +kernel
theorem dX10_findTaps_141 : decode cX10_findTaps 141 = .ok (.invokevirtual 305, 3) := by decide +kernel
theorem dX10_findTaps_144 : decode cX10_findTaps 144 = .ok (.iconst 1, 1) := by decide +kernel
theorem dX10_findTaps_145 : decode cX10_findTaps 145 = .ok (.ireturn, 1) := by decide +kernel
theorem dX10_findBestOrder_0 : decode cX10_findBestOrder 0 = .ok (.aload_n 0, 1) := by decide +kernel
theorem dX10_findBestOrder_1 : decode cX10_findBestOrder 1 = .ok (.getfield 51, 3) := by decide +kernel
theorem dX10_findBestOrder_4 : decode cX10_findBestOrder 4 = .ok (.aload_n 0, 1) := by decide +kernel
theorem dX10_findBestOrder_5 : decode cX10_findBestOrder 5 = .ok (.getfield 12, 3) := by decide +kernel
theorem dX10_findBestOrder_8 : decode cX10_findBestOrder 8 = .ok (.iconst 0, 1) := by decide +kernel
theorem dX10_findBestOrder_9 : decode cX10_findBestOrder 9 = .ok (.invokevirtual 217, 3) := by decide +kernel
theorem dX10_findBestOrder_12 : decode cX10_findBestOrder 12 = .ok (.bipush 33, 2) := by decide +kernel
theorem dX10_findBestOrder_14 : decode cX10_findBestOrder 14 = .ok (.istore_n 1, 1) := by decide +kernel
theorem dX10_findBestOrder_15 : decode cX10_findBestOrder 15 = .ok (.aload_n 0, 1) := by decide +kernel
theorem dX10_findBestOrder_16 : decode cX10_findBestOrder 16 = .ok (.getfield 61, 3) := by decide +kernel
theorem dX10_findBestOrder_19 : decode cX10_findBestOrder 19 = .ok (.aload_n 0, 1) := by decide +kernel
theorem dX10_findBestOrder_20 : decode cX10_findBestOrder 20 = .ok (.getfield 12, 3) := by decide +kernel
theorem dX10_findBestOrder_23 : decode cX10_findBestOrder 23 = .ok (.getfield 159, 3) := by decide +kernel
theorem dX10_findBestOrder_26 : decode cX10_findBestOrder 26 = .ok (.getfield 151, 3) := by decide +kernel
theorem dX10_findBestOrder_29 : decode cX10_findBestOrder 29 = .ok (.invokevirtual 309, 3) := by decide +kernel
theorem dX10_findBestOrder_32 : decode cX10_findBestOrder 32 = .ok (.iconst 0, 1) := by decide +kernel
theorem dX10_findBestOrder_33 : decode cX10_findBestOrder 33 = .ok (.istore_n 2, 1) := by decide +kernel
theorem dX10_findBestOrder_34 : decode cX10_findBestOrder 34 = .ok (.iload_n 2, 1) := by decide +kernel
theorem dX10_findBestOrder_35 : decode cX10_findBestOrder 35 = .ok (.bipush 24, 2) := by decide +kernel
theorem dX10_findBestOrder_37 : decode cX10_findBestOrder 37 = .ok (.if_icmp .ge 48, 3) := by decide +kernel
theorem dX10_findBestOrder_40 : decode cX10_findBestOrder 40 = .ok (.aload_n 0, 1) := by decide +kernel
theorem dX10_findBestOrder_41 : decode cX10_findBestOrder 41 = .ok (.aload_n 0, 1) := by decide +kernel
theorem dX10_findBestOrder_42 : decode cX10_findBestOrder 42 = .ok (.getfield 61, 3) := by decide +kernel
theorem dX10_findBestOrder_45 : decode cX10_findBestOrder 45 = .ok (.getfield 312, 3) := by decide +kernel
theorem dX10_findBestOrder_48 : decode cX10_findBestOrder 48 = .ok (.invokevirtual 315, 3) := by decide +kernel
theorem dX10_findBestOrder_51 : decode cX10_findBestOrder 51 = .ok (.istore_n 3, 1) := by decide +kernel
theorem dX10_findBestOrder_52 : decode cX10_findBestOrder 52 = .ok (.iload_n 3, 1) := by decide +kernel
theorem dX10_findBestOrder_53 : decode cX10_findBestOrder 53 = .ok (.iload_n 1, 1) := by decide +kernel
theorem dX10_findBestOrder_54 : decode cX10_findBestOrder 54 = .ok (.if_icmp .ge 12, 3) := by decide +kernel
theorem dX10_findBestOrder_57 : decode cX10_findBestOrder 57 = .ok (.iload_n 3, 1) := by decide +kernel
theorem dX10_findBestOrder_58 : decode cX10_findBestOrder 58 = .ok (.istore_n 1, 1) := by decide +kernel
theorem dX10_findBestOrder_59 : decode cX10_findBestOrder 59 = .ok (.aload_n 0, 1) := by decide +kernel
theorem dX10_findBestOrder_60 : decode cX10_findBestOrder 60 = .ok (.getfield 61, 3) := by decide +kernel
theorem dX10_findBestOrder_63 : decode cX10_findBestOrder 63 = .ok (.invokevirtual 319, 3) := by decide +kernel
theorem dX10_findBestOrder_66 : decode cX10_findBestOrder 66 = .ok (.aload_n 0, 1) := by decide +kernel
theorem dX10_findBestOrder_67 : decode cX10_findBestOrder 67 = .ok (.getfield 61, 3) := by decide +kernel
theorem dX10_findBestOrder_70 : decode cX10_findBestOrder 70 = .ok (.invokevirtual 322, 3) := by decide +kernel
theorem dX10_findBestOrder_73 : decode cX10_findBestOrder 73 = .ok (.ifCond .ne 6, 3) := by decide +kernel
theorem dX10_findBestOrder_76 : decode cX10_findBestOrder 76 = .ok (.goto 9, 3) := by decide +kernel
theorem dX10_findBestOrder_79 : decode cX10_findBestOrder 79 = .ok (.iinc 2 1, 3) := by decide +kernel
theorem dX10_findBestOrder_82 : decode cX10_findBestOrder 82 = .ok (.goto (-48), 3) := by decide +kernel
theorem dX10_findBestOrder_85 : decode cX10_findBestOrder 85 = .ok (.iload_n 1, 1) := by decide +kernel
theorem dX10_findBestOrder_86 : decode cX10_findBestOrder 86 = .ok (.ireturn, 1) := by decide +kernel
theorem dX10_errorsInOrder_0 : decode cX10_errorsInOrder 0 = .ok (.aload_n 0, 1) := by decide +kernel
theorem dX10_errorsInOrder_1 : decode cX10_errorsInOrder 1 = .ok (.getfield 55, 3) := by decide +kernel
theorem dX10_errorsInOrder_4 : decode cX10_errorsInOrder 4 = .ok (.aload_n 0, 1) := by decide +kernel
theorem dX10_errorsInOrder_5 : decode cX10_errorsInOrder 5 = .ok (.getfield 51, 3) := by decide +kernel
theorem dX10_errorsInOrder_8 : decode cX10_errorsInOrder 8 = .ok (.invokevirtual 237, 3) := by decide +kernel
theorem dX10_errorsInOrder_11 : decode cX10_errorsInOrder 11 = .ok (.iconst 0, 1) := by decide +kernel
theorem dX10_errorsInOrder_12 : decode cX10_errorsInOrder 12 = .ok (.istore_n 2, 1) := by decide +kernel
theorem dX10_errorsInOrder_13 : decode cX10_errorsInOrder 13 = .ok (.iload_n 2, 1) := by decide +kernel
theorem dX10_errorsInOrder_14 : decode cX10_errorsInOrder 14 = .ok (.aload_n 0, 1) := by decide +kernel
theorem dX10_errorsInOrder_15 : decode cX10_errorsInOrder 15 = .ok (.getfield 12, 3) := by decide +kernel
theorem dX10_errorsInOrder_18 : decode cX10_errorsInOrder 18 = .ok (.getfield 159, 3) := by decide +kernel
theorem dX10_errorsInOrder_21 : decode cX10_errorsInOrder 21 = .ok (.getfield 151, 3) := by decide +kernel
theorem dX10_errorsInOrder_24 : decode cX10_errorsInOrder 24 = .ok (.if_icmp .ge 23, 3) := by decide +kernel
theorem dX10_errorsInOrder_27 : decode cX10_errorsInOrder 27 = .ok (.aload_n 0, 1) := by decide +kernel
theorem dX10_errorsInOrder_28 : decode cX10_errorsInOrder 28 = .ok (.getfield 55, 3) := by decide +kernel
theorem dX10_errorsInOrder_31 : decode cX10_errorsInOrder 31 = .ok (.aload_n 0, 1) := by decide +kernel
theorem dX10_errorsInOrder_32 : decode cX10_errorsInOrder 32 = .ok (.getfield 12, 3) := by decide +kernel
theorem dX10_errorsInOrder_35 : decode cX10_errorsInOrder 35 = .ok (.aload_n 1, 1) := by decide +kernel
theorem dX10_errorsInOrder_36 : decode cX10_errorsInOrder 36 = .ok (.iload_n 2, 1) := by decide +kernel
theorem dX10_errorsInOrder_37 : decode cX10_errorsInOrder 37 = .ok (.iaload, 1) := by decide +kernel
theorem dX10_errorsInOrder_38 : decode cX10_errorsInOrder 38 = .ok (.invokevirtual 288, 3) := by decide +kernel
theorem dX10_errorsInOrder_41 : decode cX10_errorsInOrder 41 = .ok (.iinc 2 1, 3) := by decide +kernel
theorem dX10_errorsInOrder_44 : decode cX10_errorsInOrder 44 = .ok (.goto (-31), 3) := by decide +kernel
theorem dX10_errorsInOrder_47 : decode cX10_errorsInOrder 47 = .ok (.aload_n 0, 1) := by decide +kernel
theorem dX10_errorsInOrder_48 : decode cX10_errorsInOrder 48 = .ok (.getfield 55, 3) := by decide +kernel
theorem dX10_errorsInOrder_51 : decode cX10_errorsInOrder 51 = .ok (.aload_n 0, 1) := by decide +kernel
theorem dX10_errorsInOrder_52 : decode cX10_errorsInOrder 52 = .ok (.getfield 12, 3) := by decide +kernel
theorem dX10_errorsInOrder_55 : decode cX10_errorsInOrder 55 = .ok (.invokevirtual 278, 3) := by decide +kernel
theorem dX10_errorsInOrder_58 : decode cX10_errorsInOrder 58 = .ok (.ireturn, 1) := by decide +kernel
theorem dJ6_bitCount_0f7a4_0 : decode cJ6_bitCount_0f7a4 0 = .ok (.iload_n 0, 1) := by decide +kernel
theorem dJ6_bitCount_0f7a4_1 : decode cJ6_bitCount_0f7a4 1 = .ok (.iload_n 0, 1) := by decide +kernel
theorem dJ6_bitCount_0f7a4_2 : decode cJ6_bitCount_0f7a4 2 = .ok (.iconst 1, 1) := by decide +kernel
theorem dJ6_bitCount_0f7a4_3 : decode cJ6_bitCount_0f7a4 3 = .ok (.iushr, 1) := by decide +kernel
theorem dJ6_bitCount_0f7a4_4 : decode cJ6_bitCount_0f7a4 4 = .ok (.ldc_w 265, 3) := by decide +kernel
theorem dJ6_bitCount_0f7a4_7 : decode cJ6_bitCount_0f7a4 7 = .ok (.iand, 1) := by decide +kernel
theorem dJ6_bitCount_0f7a4_8 : decode cJ6_bitCount_0f7a4 8 = .ok (.isub, 1) := by decide +kernel
theorem dJ6_bitCount_0f7a4_9 : decode cJ6_bitCount_0f7a4 9 = .ok (.istore_n 0, 1) := by decide +kernel
theorem dJ6_bitCount_0f7a4_10 : decode cJ6_bitCount_0f7a4 10 = .ok (.iload_n 0, 1) := by decide +kernel
theorem dJ6_bitCount_0f7a4_11 : decode cJ6_bitCount_0f7a4 11 = .ok (.ldc_w 266, 3) := by decide +kernel
theorem dJ6_bitCount_0f7a4_14 : decode cJ6_bitCount_0f7a4 14 = .ok (.iand, 1) := by decide +kernel
theorem dJ6_bitCount_0f7a4_15 : decode cJ6_bitCount_0f7a4 15 = .ok (.iload_n 0, 1) := by decide +kernel
theorem dJ6_bitCount_0f7a4_16 : decode cJ6_bitCount_0f7a4 16 = .ok (.iconst 2, 1) := by decide +kernel
theorem dJ6_bitCount_0f7a4_17 : decode cJ6_bitCount_0f7a4 17 = .ok (.iushr, 1) := by decide +kernel
theorem dJ6_bitCount_0f7a4_18 : decode cJ6_bitCount_0f7a4 18 = .ok (.ldc_w 266, 3) := by decide +kernel
theorem dJ6_bitCount_0f7a4_21 : decode cJ6_bitCount_0f7a4 21 = .ok (.iand, 1) := by decide +kernel
theorem dJ6_bitCount_0f7a4_22 : decode cJ6_bitCount_0f7a4 22 = .ok (.iadd, 1) := by decide +kernel
theorem dJ6_bitCount_0f7a4_23 : decode cJ6_bitCount_0f7a4 23 = .ok (.istore_n 0, 1) := by decide +kernel
theorem dJ6_bitCount_0f7a4_24 : decode cJ6_bitCount_0f7a4 24 = .ok (.iload_n 0, 1) := by decide +kernel
theorem dJ6_bitCount_0f7a4_25 : decode cJ6_bitCount_0f7a4 25 = .ok (.iload_n 0, 1) := by decide +kernel
theorem dJ6_bitCount_0f7a4_26 : decode cJ6_bitCount_0f7a4 26 = .ok (.iconst 4, 1) := by decide +kernel
theorem dJ6_bitCount_0f7a4_27 : decode cJ6_bitCount_0f7a4 27 = .ok (.iushr, 1) := by decide +kernel
theorem dJ6_bitCount_0f7a4_28 : decode cJ6_bitCount_0f7a4 28 = .ok (.iadd, 1) := by decide +kernel
theorem dJ6_bitCount_0f7a4_29 : decode cJ6_bitCount_0f7a4 29 = .ok (.ldc_w 267, 3) := by decide +kernel
theorem dJ6_bitCount_0f7a4_32 : decode cJ6_bitCount_0f7a4 32 = .ok (.iand, 1) := by decide +kernel
theorem dJ6_bitCount_0f7a4_33 : decode cJ6_bitCount_0f7a4 33 = .ok (.istore_n 0, 1) := by decide +kernel
theorem dJ6_bitCount_0f7a4_34 : decode cJ6_bitCount_0f7a4 34 = .ok (.iload_n 0, 1) := by decide +kernel
theorem dJ6_bitCount_0f7a4_35 : decode cJ6_bitCount_0f7a4 35 = .ok (.iload_n 0, 1) := by decide +kernel
theorem dJ6_bitCount_0f7a4_36 : decode cJ6_bitCount_0f7a4 36 = .ok (.bipush 8, 2) := by decide +kernel
theorem dJ6_bitCount_0f7a4_38 : decode cJ6_bitCount_0f7a4 38 = .ok (.iushr, 1) := by decide +kernel
theorem dJ6_bitCount_0f7a4_39 : decode cJ6_bitCount_0f7a4 39 = .ok (.iadd, 1) := by decide +kernel
theorem dJ6_bitCount_0f7a4_40 : decode cJ6_bitCount_0f7a4 40 = .ok (.istore_n 0, 1) := by decide +kernel
theorem dJ6_bitCount_0f7a4_41 : decode cJ6_bitCount_0f7a4 41 = .ok (.iload_n 0, 1) := by decide +kernel
theorem dJ6_bitCount_0f7a4_42 : decode cJ6_bitCount_0f7a4 42 = .ok (.iload_n 0, 1) := by decide +kernel
theorem dJ6_bitCount_0f7a4_43 : decode cJ6_bitCount_0f7a4 43 = .ok (.bipush 16, 2) := by decide +kernel
theorem dJ6_bitCount_0f7a4_45 : decode cJ6_bitCount_0f7a4 45 = .ok (.iushr, 1) := by decide +kernel
theorem dJ6_bitCount_0f7a4_46 : decode cJ6_bitCount_0f7a4 46 = .ok (.iadd, 1) := by decide +kernel
theorem dJ6_bitCount_0f7a4_47 : decode cJ6_bitCount_0f7a4 47 = .ok (.istore_n 0, 1) := by decide +kernel
theorem dJ6_bitCount_0f7a4_48 : decode cJ6_bitCount_0f7a4 48 = .ok (.iload_n 0, 1) := by decide +kernel
theorem dJ6_bitCount_0f7a4_49 : decode cJ6_bitCount_0f7a4 49 = .ok (.bipush 63, 2) := by decide +kernel
theorem dJ6_bitCount_0f7a4_51 : decode cJ6_bitCount_0f7a4 51 = .ok (.iand, 1) := by decide +kernel
theorem dJ6_bitCount_0f7a4_52 : decode cJ6_bitCount_0f7a4 52 = .ok (.ireturn, 1) := by decide +kernel
theorem dJ9_floorMod_7cf53_0 : decode cJ9_floorMod_7cf53 0 = .ok (.iload_n 0, 1) := by decide +kernel
theorem dJ9_floorMod_7cf53_1 : decode cJ9_floorMod_7cf53 1 = .ok (.iload_n 1, 1) := by decide +kernel
theorem dJ9_floorMod_7cf53_2 : decode cJ9_floorMod_7cf53 2 = .ok (.irem, 1) := by decide +kernel
theorem dJ9_floorMod_7cf53_3 : decode cJ9_floorMod_7cf53 3 = .ok (.istore_n 2, 1) := by decide +kernel
theorem dJ9_floorMod_7cf53_4 : decode cJ9_floorMod_7cf53 4 = .ok (.iload_n 0, 1) := by decide +kernel
theorem dJ9_floorMod_7cf53_5 : decode cJ9_floorMod_7cf53 5 = .ok (.iload_n 1, 1) := by decide +kernel
theorem dJ9_floorMod_7cf53_6 : decode cJ9_floorMod_7cf53 6 = .ok (.ixor, 1) := by decide +kernel
theorem dJ9_floorMod_7cf53_7 : decode cJ9_floorMod_7cf53 7 = .ok (.ifCond .ge 11, 3) := by decide +kernel
theorem dJ9_floorMod_7cf53_10 : decode cJ9_floorMod_7cf53 10 = .ok (.iload_n 2, 1) := by decide +kernel
theorem dJ9_floorMod_7cf53_11 : decode cJ9_floorMod_7cf53 11 = .ok (.ifCond .eq 7, 3) := by decide +kernel
theorem dJ9_floorMod_7cf53_14 : decode cJ9_floorMod_7cf53 14 = .ok (.iload_n 2, 1) := by decide +kernel
theorem dJ9_floorMod_7cf53_15 : decode cJ9_floorMod_7cf53 15 = .ok (.iload_n 1, 1) := by decide +kernel
theorem dJ9_floorMod_7cf53_16 : decode cJ9_floorMod_7cf53 16 = .ok (.iadd, 1) := by decide +kernel
theorem dJ9_floorMod_7cf53_17 : decode cJ9_floorMod_7cf53 17 = .ok (.ireturn, 1) := by decide +kernel
theorem dJ9_floorMod_7cf53_18 : decode cJ9_floorMod_7cf53 18 = .ok (.iload_n 2, 1) := by decide +kernel
theorem dJ9_floorMod_7cf53_19 : decode cJ9_floorMod_7cf53 19 = .ok (.ireturn, 1) := by decide +kernel
theorem dJ9_max_7cf53_0 : decode cJ9_max_7cf53 0 = .ok (.iload_n 0, 1) := by decide +kernel
theorem dJ9_max_7cf53_1 : decode cJ9_max_7cf53 1 = .ok (.iload_n 1, 1) := by decide +kernel
theorem dJ9_max_7cf53_2 : decode cJ9_max_7cf53 2 = .ok (.if_icmp .lt 7, 3) := by decide +kernel
theorem dJ9_max_7cf53_5 : decode cJ9_max_7cf53 5 = .ok (.iload_n 0, 1) := by decide +kernel
theorem dJ9_max_7cf53_6 : decode cJ9_max_7cf53 6 = .ok (.goto 4, 3) := by decide +kernel
theorem dJ9_max_7cf53_9 : decode cJ9_max_7cf53 9 = .ok (.iload_n 1, 1) := by decide +kernel
theorem dJ9_max_7cf53_10 : decode cJ9_max_7cf53 10 = .ok (.ireturn, 1) := by decide +kernel
theorem dJ9_min_7cf53_0 : decode cJ9_min_7cf53 0 = .ok (.iload_n 0, 1) := by decide +kernel
theorem dJ9_min_7cf53_1 : decode cJ9_min_7cf53 1 = .ok (.iload_n 1, 1) := by decide +kernel
theorem dJ9_min_7cf53_2 : decode cJ9_min_7cf53 2 = .ok (.if_icmp .gt 7, 3) := by decide +kernel
theorem dJ9_min_7cf53_5 : decode cJ9_min_7cf53 5 = .ok (.iload_n 0, 1) := by decide +kernel
theorem dJ9_min_7cf53_6 : decode cJ9_min_7cf53 6 = .ok (.goto 4, 3) := by decide +kernel
theorem dJ9_min_7cf53_9 : decode cJ9_min_7cf53 9 = .ok (.iload_n 1, 1) := by decide +kernel
theorem dJ9_min_7cf53_10 : decode cJ9_min_7cf53 10 = .ok (.ireturn, 1) := by decide +kernel
theorem dJ7_fill_53178_0 : decode cJ7_fill_53178 0 = .ok (.iconst 0, 1) := by decide +kernel
theorem dJ7_fill_53178_1 : decode cJ7_fill_53178 1 = .ok (.istore_n 2, 1) := by decide +kernel
theorem dJ7_fill_53178_2 : decode cJ7_fill_53178 2 = .ok (.aload_n 0, 1) := by decide +kernel
theorem dJ7_fill_53178_3 : decode cJ7_fill_53178 3 = .ok (.arraylength, 1) := by decide +kernel
theorem dJ7_fill_53178_4 : decode cJ7_fill_53178 4 = .ok (.istore_n 3, 1) := by decide +kernel
theorem dJ7_fill_53178_5 : decode cJ7_fill_53178 5 = .ok (.iload_n 2, 1) := by decide +kernel
theorem dJ7_fill_53178_6 : decode cJ7_fill_53178 6 = .ok (.iload_n 3, 1) := by decide +kernel
theorem dJ7_fill_53178_7 : decode cJ7_fill_53178 7 = .ok (.if_icmp .ge 13, 3) := by decide +kernel
theorem dJ7_fill_53178_10 : decode cJ7_fill_53178 10 = .ok (.aload_n 0, 1) := by decide +kernel
theorem dJ7_fill_53178_11 : decode cJ7_fill_53178 11 = .ok (.iload_n 2, 1) := by decide +kernel
theorem dJ7_fill_53178_12 : decode cJ7_fill_53178 12 = .ok (.iload_n 1, 1) := by decide +kernel
theorem dJ7_fill_53178_13 : decode cJ7_fill_53178 13 = .ok (.iastore, 1) := by decide +kernel
theorem dJ7_fill_53178_14 : decode cJ7_fill_53178 14 = .ok (.iinc 2 1, 3) := by decide +kernel
theorem dJ7_fill_53178_17 : decode cJ7_fill_53178 17 = .ok (.goto (-12), 3) := by decide +kernel
theorem dJ7_fill_53178_20 : decode cJ7_fill_53178 20 = .ok (.return_, 1) := by decide +kernel
