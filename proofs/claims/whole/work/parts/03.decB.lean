/-! decode rows, printed: the reference and the law -/
theorem dX11_init_0 : decode cX11_init 0 = .ok (.aload_n 0, 1) := by decide +kernel
theorem dX11_init_1 : decode cX11_init 1 = .ok (.invokespecial 1, 3) := by decide +kernel
theorem dX11_init_4 : decode cX11_init 4 = .ok (.aload_n 0, 1) := by decide +kernel
theorem dX11_init_5 : decode cX11_init 5 = .ok (.bipush 86, 2) := by decide +kernel
theorem dX11_init_7 : decode cX11_init 7 = .ok (.newarray .int, 2) := by decide +kernel
theorem dX11_init_9 : decode cX11_init 9 = .ok (.putfield 7, 3) := by decide +kernel
theorem dX11_init_12 : decode cX11_init 12 = .ok (.aload_n 0, 1) := by decide +kernel
theorem dX11_init_13 : decode cX11_init 13 = .ok (.sipush 516, 3) := by decide +kernel
theorem dX11_init_16 : decode cX11_init 16 = .ok (.newarray .int, 2) := by decide +kernel
theorem dX11_init_18 : decode cX11_init 18 = .ok (.putfield 13, 3) := by decide +kernel
theorem dX11_init_21 : decode cX11_init 21 = .ok (.aload_n 0, 1) := by decide +kernel
theorem dX11_init_22 : decode cX11_init 22 = .ok (.bipush 6, 2) := by decide +kernel
theorem dX11_init_24 : decode cX11_init 24 = .ok (.newarray .float, 2) := by decide +kernel
theorem dX11_init_26 : decode cX11_init 26 = .ok (.putfield 16, 3) := by decide +kernel
theorem dX11_init_29 : decode cX11_init 29 = .ok (.aload_n 0, 1) := by decide +kernel
theorem dX11_init_30 : decode cX11_init 30 = .ok (.sipush 172, 3) := by decide +kernel
theorem dX11_init_33 : decode cX11_init 33 = .ok (.newarray .int, 2) := by decide +kernel
theorem dX11_init_35 : decode cX11_init 35 = .ok (.putfield 20, 3) := by decide +kernel
theorem dX11_init_38 : decode cX11_init 38 = .ok (.aload_n 0, 1) := by decide +kernel
theorem dX11_init_39 : decode cX11_init 39 = .ok (.iconst 2, 1) := by decide +kernel
theorem dX11_init_40 : decode cX11_init 40 = .ok (.newarray .float, 2) := by decide +kernel
theorem dX11_init_42 : decode cX11_init 42 = .ok (.putfield 23, 3) := by decide +kernel
theorem dX11_init_45 : decode cX11_init 45 = .ok (.aload_n 0, 1) := by decide +kernel
theorem dX11_init_46 : decode cX11_init 46 = .ok (.iconst 2, 1) := by decide +kernel
theorem dX11_init_47 : decode cX11_init 47 = .ok (.newarray .boolean, 2) := by decide +kernel
theorem dX11_init_49 : decode cX11_init 49 = .ok (.putfield 26, 3) := by decide +kernel
theorem dX11_init_52 : decode cX11_init 52 = .ok (.aload_n 0, 1) := by decide +kernel
theorem dX11_init_53 : decode cX11_init 53 = .ok (.sipush 160, 3) := by decide +kernel
theorem dX11_init_56 : decode cX11_init 56 = .ok (.newarray .int, 2) := by decide +kernel
theorem dX11_init_58 : decode cX11_init 58 = .ok (.putfield 30, 3) := by decide +kernel
theorem dX11_init_61 : decode cX11_init 61 = .ok (.aload_n 0, 1) := by decide +kernel
theorem dX11_init_62 : decode cX11_init 62 = .ok (.bipush 86, 2) := by decide +kernel
theorem dX11_init_64 : decode cX11_init 64 = .ok (.newarray .int, 2) := by decide +kernel
theorem dX11_init_66 : decode cX11_init 66 = .ok (.putfield 33, 3) := by decide +kernel
theorem dX11_init_69 : decode cX11_init 69 = .ok (.aload_n 0, 1) := by decide +kernel
theorem dX11_init_70 : decode cX11_init 70 = .ok (.bipush 32, 2) := by decide +kernel
theorem dX11_init_72 : decode cX11_init 72 = .ok (.newarray .int, 2) := by decide +kernel
theorem dX11_init_74 : decode cX11_init 74 = .ok (.putfield 36, 3) := by decide +kernel
theorem dX11_init_77 : decode cX11_init 77 = .ok (.aload_n 0, 1) := by decide +kernel
theorem dX11_init_78 : decode cX11_init 78 = .ok (.bipush 32, 2) := by decide +kernel
theorem dX11_init_80 : decode cX11_init 80 = .ok (.newarray .int, 2) := by decide +kernel
theorem dX11_init_82 : decode cX11_init 82 = .ok (.putfield 39, 3) := by decide +kernel
theorem dX11_init_85 : decode cX11_init 85 = .ok (.aload_n 0, 1) := by decide +kernel
theorem dX11_init_86 : decode cX11_init 86 = .ok (.iconst 4, 1) := by decide +kernel
theorem dX11_init_87 : decode cX11_init 87 = .ok (.newarray .int, 2) := by decide +kernel
theorem dX11_init_89 : decode cX11_init 89 = .ok (.putfield 42, 3) := by decide +kernel
theorem dX11_init_92 : decode cX11_init 92 = .ok (.aload_n 0, 1) := by decide +kernel
theorem dX11_init_93 : decode cX11_init 93 = .ok (.iconst 4, 1) := by decide +kernel
theorem dX11_init_94 : decode cX11_init 94 = .ok (.newarray .int, 2) := by decide +kernel
theorem dX11_init_96 : decode cX11_init 96 = .ok (.putfield 45, 3) := by decide +kernel
theorem dX11_init_99 : decode cX11_init 99 = .ok (.aload_n 0, 1) := by decide +kernel
theorem dX11_init_100 : decode cX11_init 100 = .ok (.iconst 4, 1) := by decide +kernel
theorem dX11_init_101 : decode cX11_init 101 = .ok (.newarray .int, 2) := by decide +kernel
theorem dX11_init_103 : decode cX11_init 103 = .ok (.putfield 48, 3) := by decide +kernel
theorem dX11_init_106 : decode cX11_init 106 = .ok (.aload_n 0, 1) := by decide +kernel
theorem dX11_init_107 : decode cX11_init 107 = .ok (.bipush 20, 2) := by decide +kernel
theorem dX11_init_109 : decode cX11_init 109 = .ok (.newarray .int, 2) := by decide +kernel
theorem dX11_init_111 : decode cX11_init 111 = .ok (.putfield 51, 3) := by decide +kernel
theorem dX11_init_114 : decode cX11_init 114 = .ok (.aload_n 0, 1) := by decide +kernel
theorem dX11_init_115 : decode cX11_init 115 = .ok (.bipush 32, 2) := by decide +kernel
theorem dX11_init_117 : decode cX11_init 117 = .ok (.newarray .int, 2) := by decide +kernel
theorem dX11_init_119 : decode cX11_init 119 = .ok (.putfield 54, 3) := by decide +kernel
theorem dX11_init_122 : decode cX11_init 122 = .ok (.aload_n 0, 1) := by decide +kernel
theorem dX11_init_123 : decode cX11_init 123 = .ok (.bipush 6, 2) := by decide +kernel
theorem dX11_init_125 : decode cX11_init 125 = .ok (.newarray .int, 2) := by decide +kernel
theorem dX11_init_127 : decode cX11_init 127 = .ok (.putfield 57, 3) := by decide +kernel
theorem dX11_init_130 : decode cX11_init 130 = .ok (.aload_n 0, 1) := by decide +kernel
theorem dX11_init_131 : decode cX11_init 131 = .ok (.bipush 6, 2) := by decide +kernel
theorem dX11_init_133 : decode cX11_init 133 = .ok (.newarray .int, 2) := by decide +kernel
theorem dX11_init_135 : decode cX11_init 135 = .ok (.putfield 60, 3) := by decide +kernel
theorem dX11_init_138 : decode cX11_init 138 = .ok (.aload_n 0, 1) := by decide +kernel
theorem dX11_init_139 : decode cX11_init 139 = .ok (.getfield 7, 3) := by decide +kernel
theorem dX11_init_142 : decode cX11_init 142 = .ok (.bipush 32, 2) := by decide +kernel
theorem dX11_init_144 : decode cX11_init 144 = .ok (.sipush 4369, 3) := by decide +kernel
theorem dX11_init_147 : decode cX11_init 147 = .ok (.iastore, 1) := by decide +kernel
theorem dX11_init_148 : decode cX11_init 148 = .ok (.return_, 1) := by decide +kernel
theorem dX11_in_0 : decode cX11_in 0 = .ok (.iload_n 0, 1) := by decide +kernel
theorem dX11_in_1 : decode cX11_in 1 = .ok (.iload_n 1, 1) := by decide +kernel
theorem dX11_in_2 : decode cX11_in 2 = .ok (.if_icmp .lt 12, 3) := by decide +kernel
theorem dX11_in_5 : decode cX11_in 5 = .ok (.iload_n 0, 1) := by decide +kernel
theorem dX11_in_6 : decode cX11_in 6 = .ok (.iload_n 2, 1) := by decide +kernel
theorem dX11_in_7 : decode cX11_in 7 = .ok (.if_icmp .gt 7, 3) := by decide +kernel
theorem dX11_in_10 : decode cX11_in 10 = .ok (.iconst 1, 1) := by decide +kernel
theorem dX11_in_11 : decode cX11_in 11 = .ok (.goto 4, 3) := by decide +kernel
theorem dX11_in_14 : decode cX11_in 14 = .ok (.iconst 0, 1) := by decide +kernel
theorem dX11_in_15 : decode cX11_in 15 = .ok (.ireturn, 1) := by decide +kernel
theorem dX11_has_0 : decode cX11_has 0 = .ok (.iload_n 0, 1) := by decide +kernel
theorem dX11_has_1 : decode cX11_has 1 = .ok (.iload_n 1, 1) := by decide +kernel
theorem dX11_has_2 : decode cX11_has 2 = .ok (.ishr, 1) := by decide +kernel
theorem dX11_has_3 : decode cX11_has 3 = .ok (.iconst 1, 1) := by decide +kernel
theorem dX11_has_4 : decode cX11_has 4 = .ok (.iand, 1) := by decide +kernel
theorem dX11_has_5 : decode cX11_has 5 = .ok (.iconst 1, 1) := by decide +kernel
theorem dX11_has_6 : decode cX11_has 6 = .ok (.if_icmp .ne 7, 3) := by decide +kernel
theorem dX11_has_9 : decode cX11_has 9 = .ok (.iconst 1, 1) := by decide +kernel
theorem dX11_has_10 : decode cX11_has 10 = .ok (.goto 4, 3) := by decide +kernel
theorem dX11_has_13 : decode cX11_has 13 = .ok (.iconst 0, 1) := by decide +kernel
theorem dX11_has_14 : decode cX11_has 14 = .ok (.ireturn, 1) := by decide +kernel
theorem dX11_left_0 : decode cX11_left 0 = .ok (.iload_n 0, 1) := by decide +kernel
theorem dX11_left_1 : decode cX11_left 1 = .ok (.bipush 97, 2) := by decide +kernel
theorem dX11_left_3 : decode cX11_left 3 = .ok (.irem, 1) := by decide +kernel
theorem dX11_left_4 : decode cX11_left 4 = .ok (.bipush 97, 2) := by decide +kernel
theorem dX11_left_6 : decode cX11_left 6 = .ok (.iadd, 1) := by decide +kernel
theorem dX11_left_7 : decode cX11_left 7 = .ok (.bipush 97, 2) := by decide +kernel
theorem dX11_left_9 : decode cX11_left 9 = .ok (.irem, 1) := by decide +kernel
theorem dX11_left_10 : decode cX11_left 10 = .ok (.ireturn, 1) := by decide +kernel
theorem dX11_power_0 : decode cX11_power 0 = .ok (.iconst 1, 1) := by decide +kernel
theorem dX11_power_1 : decode cX11_power 1 = .ok (.istore_n 2, 1) := by decide +kernel
theorem dX11_power_2 : decode cX11_power 2 = .ok (.iconst 0, 1) := by decide +kernel
theorem dX11_power_3 : decode cX11_power 3 = .ok (.istore_n 3, 1) := by decide +kernel
theorem dX11_power_4 : decode cX11_power 4 = .ok (.iload_n 3, 1) := by decide +kernel
theorem dX11_power_5 : decode cX11_power 5 = .ok (.iload_n 1, 1) := by decide +kernel
theorem dX11_power_6 : decode cX11_power 6 = .ok (.if_icmp .ge 16, 3) := by decide +kernel
theorem dX11_power_9 : decode cX11_power 9 = .ok (.iload_n 2, 1) := by decide +kernel
theorem dX11_power_10 : decode cX11_power 10 = .ok (.iload_n 0, 1) := by decide +kernel
theorem dX11_power_11 : decode cX11_power 11 = .ok (.imul, 1) := by decide +kernel
theorem dX11_power_12 : decode cX11_power 12 = .ok (.bipush 97, 2) := by decide +kernel
theorem dX11_power_14 : decode cX11_power 14 = .ok (.irem, 1) := by decide +kernel
theorem dX11_power_15 : decode cX11_power 15 = .ok (.istore_n 2, 1) := by decide +kernel
theorem dX11_power_16 : decode cX11_power 16 = .ok (.iinc 3 1, 3) := by decide +kernel
theorem dX11_power_19 : decode cX11_power 19 = .ok (.goto (-15), 3) := by decide +kernel
theorem dX11_power_22 : decode cX11_power 22 = .ok (.iload_n 2, 1) := by decide +kernel
theorem dX11_power_23 : decode cX11_power 23 = .ok (.ireturn, 1) := by decide +kernel
theorem dX11_inverse_0 : decode cX11_inverse 0 = .ok (.iload_n 0, 1) := by decide +kernel
theorem dX11_inverse_1 : decode cX11_inverse 1 = .ok (.bipush 95, 2) := by decide +kernel
theorem dX11_inverse_3 : decode cX11_inverse 3 = .ok (.invokestatic 63, 3) := by decide +kernel
theorem dX11_inverse_6 : decode cX11_inverse 6 = .ok (.ireturn, 1) := by decide +kernel
theorem dX11_light_0 : decode cX11_light 0 = .ok (.iload_n 0, 1) := by decide +kernel
theorem dX11_light_1 : decode cX11_light 1 = .ok (.ifCond .ne 7, 3) := by decide +kernel
theorem dX11_light_4 : decode cX11_light 4 = .ok (.iconst 1, 1) := by decide +kernel
theorem dX11_light_5 : decode cX11_light 5 = .ok (.goto 25, 3) := by decide +kernel
theorem dX11_light_8 : decode cX11_light 8 = .ok (.iload_n 0, 1) := by decide +kernel
theorem dX11_light_9 : decode cX11_light 9 = .ok (.iconst 1, 1) := by decide +kernel
theorem dX11_light_10 : decode cX11_light 10 = .ok (.if_icmp .ne 8, 3) := by decide +kernel
theorem dX11_light_13 : decode cX11_light 13 = .ok (.bipush 22, 2) := by decide +kernel
theorem dX11_light_15 : decode cX11_light 15 = .ok (.goto 15, 3) := by decide +kernel
theorem dX11_light_18 : decode cX11_light 18 = .ok (.iload_n 0, 1) := by decide +kernel
theorem dX11_light_19 : decode cX11_light 19 = .ok (.iconst 2, 1) := by decide +kernel
theorem dX11_light_20 : decode cX11_light 20 = .ok (.if_icmp .ne 8, 3) := by decide +kernel
theorem dX11_light_23 : decode cX11_light 23 = .ok (.bipush 96, 2) := by decide +kernel
theorem dX11_light_25 : decode cX11_light 25 = .ok (.goto 5, 3) := by decide +kernel
theorem dX11_light_28 : decode cX11_light 28 = .ok (.bipush 75, 2) := by decide +kernel
theorem dX11_light_30 : decode cX11_light 30 = .ok (.ireturn, 1) := by decide +kernel
theorem dX11_decided_0 : decode cX11_decided 0 = .ok (.iconst 0, 1) := by decide +kernel
theorem dX11_decided_1 : decode cX11_decided 1 = .ok (.istore_n 1, 1) := by decide +kernel
theorem dX11_decided_2 : decode cX11_decided 2 = .ok (.bipush 97, 2) := by decide +kernel
theorem dX11_decided_4 : decode cX11_decided 4 = .ok (.istore_n 2, 1) := by decide +kernel
theorem dX11_decided_5 : decode cX11_decided 5 = .ok (.iconst 0, 1) := by decide +kernel
theorem dX11_decided_6 : decode cX11_decided 6 = .ok (.istore_n 3, 1) := by decide +kernel
theorem dX11_decided_7 : decode cX11_decided 7 = .ok (.iload_n 3, 1) := by decide +kernel
theorem dX11_decided_8 : decode cX11_decided 8 = .ok (.iconst 4, 1) := by decide +kernel
theorem dX11_decided_9 : decode cX11_decided 9 = .ok (.if_icmp .ge 72, 3) := by decide +kernel
theorem dX11_decided_12 : decode cX11_decided 12 = .ok (.iload_n 0, 1) := by decide +kernel
theorem dX11_decided_13 : decode cX11_decided 13 = .ok (.iload_n 3, 1) := by decide +kernel
theorem dX11_decided_14 : decode cX11_decided 14 = .ok (.invokestatic 67, 3) := by decide +kernel
theorem dX11_decided_17 : decode cX11_decided 17 = .ok (.isub, 1) := by decide +kernel
theorem dX11_decided_18 : decode cX11_decided 18 = .ok (.invokestatic 71, 3) := by decide +kernel
theorem dX11_decided_21 : decode cX11_decided 21 = .ok (.istore 4, 2) := by decide +kernel
theorem dX11_decided_23 : decode cX11_decided 23 = .ok (.iload_n 3, 1) := by decide +kernel
theorem dX11_decided_24 : decode cX11_decided 24 = .ok (.invokestatic 67, 3) := by decide +kernel
theorem dX11_decided_27 : decode cX11_decided 27 = .ok (.iload_n 0, 1) := by decide +kernel
theorem dX11_decided_28 : decode cX11_decided 28 = .ok (.isub, 1) := by decide +kernel
theorem dX11_decided_29 : decode cX11_decided 29 = .ok (.invokestatic 71, 3) := by decide +kernel
theorem dX11_decided_32 : decode cX11_decided 32 = .ok (.istore 5, 2) := by decide +kernel
theorem dX11_decided_34 : decode cX11_decided 34 = .ok (.iload 4, 2) := by decide +kernel
theorem dX11_decided_36 : decode cX11_decided 36 = .ok (.iload 5, 2) := by decide +kernel
theorem dX11_decided_38 : decode cX11_decided 38 = .ok (.if_icmp .ge 8, 3) := by decide +kernel
theorem dX11_decided_41 : decode cX11_decided 41 = .ok (.iload 4, 2) := by decide +kernel
theorem dX11_decided_43 : decode cX11_decided 43 = .ok (.goto 5, 3) := by decide +kernel
theorem dX11_decided_46 : decode cX11_decided 46 = .ok (.iload 5, 2) := by decide +kernel
theorem dX11_decided_48 : decode cX11_decided 48 = .ok (.istore 6, 2) := by decide +kernel
theorem dX11_decided_50 : decode cX11_decided 50 = .ok (.iload 6, 2) := by decide +kernel
theorem dX11_decided_52 : decode cX11_decided 52 = .ok (.iload_n 2, 1) := by decide +kernel
theorem dX11_decided_53 : decode cX11_decided 53 = .ok (.if_icmp .ge 7, 3) := by decide +kernel
theorem dX11_decided_56 : decode cX11_decided 56 = .ok (.iload_n 3, 1) := by decide +kernel
theorem dX11_decided_57 : decode cX11_decided 57 = .ok (.goto 4, 3) := by decide +kernel
theorem dX11_decided_60 : decode cX11_decided 60 = .ok (.iload_n 1, 1) := by decide +kernel
theorem dX11_decided_61 : decode cX11_decided 61 = .ok (.istore_n 1, 1) := by decide +kernel
theorem dX11_decided_62 : decode cX11_decided 62 = .ok (.iload 6, 2) := by decide +kernel
theorem dX11_decided_64 : decode cX11_decided 64 = .ok (.iload_n 2, 1) := by decide +kernel
theorem dX11_decided_65 : decode cX11_decided 65 = .ok (.if_icmp .ge 8, 3) := by decide +kernel
theorem dX11_decided_68 : decode cX11_decided 68 = .ok (.iload 6, 2) := by decide +kernel
theorem dX11_decided_70 : decode cX11_decided 70 = .ok (.goto 4, 3) := by decide +kernel
theorem dX11_decided_73 : decode cX11_decided 73 = .ok (.iload_n 2, 1) := by decide +kernel
theorem dX11_decided_74 : decode cX11_decided 74 = .ok (.istore_n 2, 1) := by decide +kernel
theorem dX11_decided_75 : decode cX11_decided 75 = .ok (.iinc 3 1, 3) := by decide +kernel
theorem dX11_decided_78 : decode cX11_decided 78 = .ok (.goto (-71), 3) := by decide +kernel
theorem dX11_decided_81 : decode cX11_decided 81 = .ok (.iload_n 1, 1) := by decide +kernel
theorem dX11_decided_82 : decode cX11_decided 82 = .ok (.ireturn, 1) := by decide +kernel
theorem dX11_note_0 : decode cX11_note 0 = .ok (.aload_n 0, 1) := by decide +kernel
theorem dX11_note_1 : decode cX11_note 1 = .ok (.getfield 74, 3) := by decide +kernel
theorem dX11_note_4 : decode cX11_note 4 = .ok (.bipush 6, 2) := by decide +kernel
theorem dX11_note_6 : decode cX11_note 6 = .ok (.if_icmp .ne 70, 3) := by decide +kernel
theorem dX11_note_9 : decode cX11_note 9 = .ok (.iconst 0, 1) := by decide +kernel
theorem dX11_note_10 : decode cX11_note 10 = .ok (.istore_n 1, 1) := by decide +kernel
theorem dX11_note_11 : decode cX11_note 11 = .ok (.iload_n 1, 1) := by decide +kernel
theorem dX11_note_12 : decode cX11_note 12 = .ok (.sipush 430, 3) := by decide +kernel
theorem dX11_note_15 : decode cX11_note 15 = .ok (.if_icmp .ge 24, 3) := by decide +kernel
theorem dX11_note_18 : decode cX11_note 18 = .ok (.aload_n 0, 1) := by decide +kernel
theorem dX11_note_19 : decode cX11_note 19 = .ok (.getfield 13, 3) := by decide +kernel
theorem dX11_note_22 : decode cX11_note 22 = .ok (.iload_n 1, 1) := by decide +kernel
theorem dX11_note_23 : decode cX11_note 23 = .ok (.aload_n 0, 1) := by decide +kernel
theorem dX11_note_24 : decode cX11_note 24 = .ok (.getfield 13, 3) := by decide +kernel
theorem dX11_note_27 : decode cX11_note 27 = .ok (.iload_n 1, 1) := by decide +kernel
theorem dX11_note_28 : decode cX11_note 28 = .ok (.bipush 86, 2) := by decide +kernel
theorem dX11_note_30 : decode cX11_note 30 = .ok (.iadd, 1) := by decide +kernel
theorem dX11_note_31 : decode cX11_note 31 = .ok (.iaload, 1) := by decide +kernel
theorem dX11_note_32 : decode cX11_note 32 = .ok (.iastore, 1) := by decide +kernel
theorem dX11_note_33 : decode cX11_note 33 = .ok (.iinc 1 1, 3) := by decide +kernel
theorem dX11_note_36 : decode cX11_note 36 = .ok (.goto (-25), 3) := by decide +kernel
theorem dX11_note_39 : decode cX11_note 39 = .ok (.iconst 0, 1) := by decide +kernel
theorem dX11_note_40 : decode cX11_note 40 = .ok (.istore_n 1, 1) := by decide +kernel
theorem dX11_note_41 : decode cX11_note 41 = .ok (.iload_n 1, 1) := by decide +kernel
theorem dX11_note_42 : decode cX11_note 42 = .ok (.iconst 5, 1) := by decide +kernel
theorem dX11_note_43 : decode cX11_note 43 = .ok (.if_icmp .ge 23, 3) := by decide +kernel
theorem dX11_note_46 : decode cX11_note 46 = .ok (.aload_n 0, 1) := by decide +kernel
theorem dX11_note_47 : decode cX11_note 47 = .ok (.getfield 16, 3) := by decide +kernel
theorem dX11_note_50 : decode cX11_note 50 = .ok (.iload_n 1, 1) := by decide +kernel
theorem dX11_note_51 : decode cX11_note 51 = .ok (.aload_n 0, 1) := by decide +kernel
theorem dX11_note_52 : decode cX11_note 52 = .ok (.getfield 16, 3) := by decide +kernel
theorem dX11_note_55 : decode cX11_note 55 = .ok (.iload_n 1, 1) := by decide +kernel
theorem dX11_note_56 : decode cX11_note 56 = .ok (.iconst 1, 1) := by decide +kernel
theorem dX11_note_57 : decode cX11_note 57 = .ok (.iadd, 1) := by decide +kernel
theorem dX11_note_58 : decode cX11_note 58 = .ok (.faload, 1) := by decide +kernel
theorem dX11_note_59 : decode cX11_note 59 = .ok (.fastore, 1) := by decide +kernel
theorem dX11_note_60 : decode cX11_note 60 = .ok (.iinc 1 1, 3) := by decide +kernel
theorem dX11_note_63 : decode cX11_note 63 = .ok (.goto (-22), 3) := by decide +kernel
theorem dX11_note_66 : decode cX11_note 66 = .ok (.aload_n 0, 1) := by decide +kernel
theorem dX11_note_67 : decode cX11_note 67 = .ok (.dup, 1) := by decide +kernel
theorem dX11_note_68 : decode cX11_note 68 = .ok (.getfield 74, 3) := by decide +kernel
theorem dX11_note_71 : decode cX11_note 71 = .ok (.iconst 1, 1) := by decide +kernel
theorem dX11_note_72 : decode cX11_note 72 = .ok (.isub, 1) := by decide +kernel
theorem dX11_note_73 : decode cX11_note 73 = .ok (.putfield 74, 3) := by decide +kernel
theorem dX11_note_76 : decode cX11_note 76 = .ok (.iconst 0, 1) := by decide +kernel
theorem dX11_note_77 : decode cX11_note 77 = .ok (.istore_n 1, 1) := by decide +kernel
theorem dX11_note_78 : decode cX11_note 78 = .ok (.iload_n 1, 1) := by decide +kernel
theorem dX11_note_79 : decode cX11_note 79 = .ok (.bipush 86, 2) := by decide +kernel
theorem dX11_note_81 : decode cX11_note 81 = .ok (.if_icmp .ge 29, 3) := by decide +kernel
theorem dX11_note_84 : decode cX11_note 84 = .ok (.aload_n 0, 1) := by decide +kernel
theorem dX11_note_85 : decode cX11_note 85 = .ok (.getfield 13, 3) := by decide +kernel
theorem dX11_note_88 : decode cX11_note 88 = .ok (.bipush 86, 2) := by decide +kernel
theorem dX11_note_90 : decode cX11_note 90 = .ok (.aload_n 0, 1) := by decide +kernel
theorem dX11_note_91 : decode cX11_note 91 = .ok (.getfield 74, 3) := by decide +kernel
theorem dX11_note_94 : decode cX11_note 94 = .ok (.imul, 1) := by decide +kernel
theorem dX11_note_95 : decode cX11_note 95 = .ok (.iload_n 1, 1) := by decide +kernel
theorem dX11_note_96 : decode cX11_note 96 = .ok (.iadd, 1) := by decide +kernel
theorem dX11_note_97 : decode cX11_note 97 = .ok (.aload_n 0, 1) := by decide +kernel
theorem dX11_note_98 : decode cX11_note 98 = .ok (.getfield 7, 3) := by decide +kernel
theorem dX11_note_101 : decode cX11_note 101 = .ok (.iload_n 1, 1) := by decide +kernel
theorem dX11_note_102 : decode cX11_note 102 = .ok (.iaload, 1) := by decide +kernel
theorem dX11_note_103 : decode cX11_note 103 = .ok (.iastore, 1) := by decide +kernel
theorem dX11_note_104 : decode cX11_note 104 = .ok (.iinc 1 1, 3) := by decide +kernel
theorem dX11_note_107 : decode cX11_note 107 = .ok (.goto (-29), 3) := by decide +kernel
theorem dX11_note_110 : decode cX11_note 110 = .ok (.aload_n 0, 1) := by decide +kernel
theorem dX11_note_111 : decode cX11_note 111 = .ok (.getfield 16, 3) := by decide +kernel
theorem dX11_note_114 : decode cX11_note 114 = .ok (.aload_n 0, 1) := by decide +kernel
theorem dX11_note_115 : decode cX11_note 115 = .ok (.getfield 74, 3) := by decide +kernel
theorem dX11_note_118 : decode cX11_note 118 = .ok (.aload_n 0, 1) := by decide +kernel
theorem dX11_note_119 : decode cX11_note 119 = .ok (.getfield 78, 3) := by decide +kernel
theorem dX11_note_122 : decode cX11_note 122 = .ok (.fastore, 1) := by decide +kernel
theorem dX11_note_123 : decode cX11_note 123 = .ok (.aload_n 0, 1) := by decide +kernel
theorem dX11_note_124 : decode cX11_note 124 = .ok (.dup, 1) := by decide +kernel
theorem dX11_note_125 : decode cX11_note 125 = .ok (.getfield 74, 3) := by decide +kernel
theorem dX11_note_128 : decode cX11_note 128 = .ok (.iconst 1, 1) := by decide +kernel
theorem dX11_note_129 : decode cX11_note 129 = .ok (.iadd, 1) := by decide +kernel
theorem dX11_note_130 : decode cX11_note 130 = .ok (.putfield 74, 3) := by decide +kernel
theorem dX11_note_133 : decode cX11_note 133 = .ok (.return_, 1) := by decide +kernel
theorem dX11_undo_0 : decode cX11_undo 0 = .ok (.aload_n 0, 1) := by decide +kernel
theorem dX11_undo_1 : decode cX11_undo 1 = .ok (.getfield 74, 3) := by decide +kernel
theorem dX11_undo_4 : decode cX11_undo 4 = .ok (.ifCond .ne 6, 3) := by decide +kernel
theorem dX11_undo_7 : decode cX11_undo 7 = .ok (.bipush (-2), 2) := by decide +kernel
theorem dX11_undo_9 : decode cX11_undo 9 = .ok (.ireturn, 1) := by decide +kernel
theorem dX11_undo_10 : decode cX11_undo 10 = .ok (.aload_n 0, 1) := by decide +kernel
theorem dX11_undo_11 : decode cX11_undo 11 = .ok (.dup, 1) := by decide +kernel
theorem dX11_undo_12 : decode cX11_undo 12 = .ok (.getfield 74, 3) := by decide +kernel
theorem dX11_undo_15 : decode cX11_undo 15 = .ok (.iconst 1, 1) := by decide +kernel
theorem dX11_undo_16 : decode cX11_undo 16 = .ok (.isub, 1) := by decide +kernel
theorem dX11_undo_17 : decode cX11_undo 17 = .ok (.putfield 74, 3) := by decide +kernel
theorem dX11_undo_20 : decode cX11_undo 20 = .ok (.iconst 0, 1) := by decide +kernel
theorem dX11_undo_21 : decode cX11_undo 21 = .ok (.istore_n 1, 1) := by decide +kernel
theorem dX11_undo_22 : decode cX11_undo 22 = .ok (.iload_n 1, 1) := by decide +kernel
theorem dX11_undo_23 : decode cX11_undo 23 = .ok (.bipush 86, 2) := by decide +kernel
theorem dX11_undo_25 : decode cX11_undo 25 = .ok (.if_icmp .ge 29, 3) := by decide +kernel
theorem dX11_undo_28 : decode cX11_undo 28 = .ok (.aload_n 0, 1) := by decide +kernel
theorem dX11_undo_29 : decode cX11_undo 29 = .ok (.getfield 7, 3) := by decide +kernel
theorem dX11_undo_32 : decode cX11_undo 32 = .ok (.iload_n 1, 1) := by decide +kernel
theorem dX11_undo_33 : decode cX11_undo 33 = .ok (.aload_n 0, 1) := by decide +kernel
theorem dX11_undo_34 : decode cX11_undo 34 = .ok (.getfield 13, 3) := by decide +kernel
theorem dX11_undo_37 : decode cX11_undo 37 = .ok (.bipush 86, 2) := by decide +kernel
theorem dX11_undo_39 : decode cX11_undo 39 = .ok (.aload_n 0, 1) := by decide +kernel
theorem dX11_undo_40 : decode cX11_undo 40 = .ok (.getfield 74, 3) := by decide +kernel
theorem dX11_undo_43 : decode cX11_undo 43 = .ok (.imul, 1) := by decide +kernel
theorem dX11_undo_44 : decode cX11_undo 44 = .ok (.iload_n 1, 1) := by decide +kernel
theorem dX11_undo_45 : decode cX11_undo 45 = .ok (.iadd, 1) := by decide +kernel
theorem dX11_undo_46 : decode cX11_undo 46 = .ok (.iaload, 1) := by decide +kernel
theorem dX11_undo_47 : decode cX11_undo 47 = .ok (.iastore, 1) := by decide +kernel
theorem dX11_undo_48 : decode cX11_undo 48 = .ok (.iinc 1 1, 3) := by decide +kernel
theorem dX11_undo_51 : decode cX11_undo 51 = .ok (.goto (-29), 3) := by decide +kernel
theorem dX11_undo_54 : decode cX11_undo 54 = .ok (.aload_n 0, 1) := by decide +kernel
theorem dX11_undo_55 : decode cX11_undo 55 = .ok (.aload_n 0, 1) := by decide +kernel
theorem dX11_undo_56 : decode cX11_undo 56 = .ok (.getfield 16, 3) := by decide +kernel
theorem dX11_undo_59 : decode cX11_undo 59 = .ok (.aload_n 0, 1) := by decide +kernel
theorem dX11_undo_60 : decode cX11_undo 60 = .ok (.getfield 74, 3) := by decide +kernel
theorem dX11_undo_63 : decode cX11_undo 63 = .ok (.faload, 1) := by decide +kernel
theorem dX11_undo_64 : decode cX11_undo 64 = .ok (.putfield 78, 3) := by decide +kernel
theorem dX11_undo_67 : decode cX11_undo 67 = .ok (.aload_n 0, 1) := by decide +kernel
theorem dX11_undo_68 : decode cX11_undo 68 = .ok (.getfield 74, 3) := by decide +kernel
theorem dX11_undo_71 : decode cX11_undo 71 = .ok (.ireturn, 1) := by decide +kernel
theorem dX11_mayBe_0 : decode cX11_mayBe 0 = .ok (.iload_n 0, 1) := by decide +kernel
theorem dX11_mayBe_1 : decode cX11_mayBe 1 = .ok (.tableswitch 174 0 3 #[31, 74, 110, 149], 31) := by decide +kernel
theorem dX11_mayBe_32 : decode cX11_mayBe 32 = .ok (.iload_n 1, 1) := by decide +kernel
theorem dX11_mayBe_33 : decode cX11_mayBe 33 = .ok (.iconst 1, 1) := by decide +kernel
theorem dX11_mayBe_34 : decode cX11_mayBe 34 = .ok (.if_icmp .ne 31, 3) := by decide +kernel
theorem dX11_mayBe_37 : decode cX11_mayBe 37 = .ok (.iload_n 2, 1) := by decide +kernel
theorem dX11_mayBe_38 : decode cX11_mayBe 38 = .ok (.iconst 1, 1) := by decide +kernel
theorem dX11_mayBe_39 : decode cX11_mayBe 39 = .ok (.bipush 96, 2) := by decide +kernel
theorem dX11_mayBe_41 : decode cX11_mayBe 41 = .ok (.invokestatic 82, 3) := by decide +kernel
theorem dX11_mayBe_44 : decode cX11_mayBe 44 = .ok (.ifCond .eq 17, 3) := by decide +kernel
theorem dX11_mayBe_47 : decode cX11_mayBe 47 = .ok (.iload_n 2, 1) := by decide +kernel
theorem dX11_mayBe_48 : decode cX11_mayBe 48 = .ok (.bipush 16, 2) := by decide +kernel
theorem dX11_mayBe_50 : decode cX11_mayBe 50 = .ok (.invokestatic 63, 3) := by decide +kernel
theorem dX11_mayBe_53 : decode cX11_mayBe 53 = .ok (.iconst 1, 1) := by decide +kernel
theorem dX11_mayBe_54 : decode cX11_mayBe 54 = .ok (.if_icmp .eq 7, 3) := by decide +kernel
theorem dX11_mayBe_57 : decode cX11_mayBe 57 = .ok (.iconst 1, 1) := by decide +kernel
theorem dX11_mayBe_58 : decode cX11_mayBe 58 = .ok (.goto 16, 3) := by decide +kernel
theorem dX11_mayBe_61 : decode cX11_mayBe 61 = .ok (.iconst 0, 1) := by decide +kernel
theorem dX11_mayBe_62 : decode cX11_mayBe 62 = .ok (.goto 12, 3) := by decide +kernel
theorem dX11_mayBe_65 : decode cX11_mayBe 65 = .ok (.iload_n 2, 1) := by decide +kernel
theorem dX11_mayBe_66 : decode cX11_mayBe 66 = .ok (.ifCond .ne 7, 3) := by decide +kernel
theorem dX11_mayBe_69 : decode cX11_mayBe 69 = .ok (.iconst 1, 1) := by decide +kernel
theorem dX11_mayBe_70 : decode cX11_mayBe 70 = .ok (.goto 4, 3) := by decide +kernel
theorem dX11_mayBe_73 : decode cX11_mayBe 73 = .ok (.iconst 0, 1) := by decide +kernel
theorem dX11_mayBe_74 : decode cX11_mayBe 74 = .ok (.ireturn, 1) := by decide +kernel
theorem dX11_mayBe_75 : decode cX11_mayBe 75 = .ok (.iload_n 2, 1) := by decide +kernel
theorem dX11_mayBe_76 : decode cX11_mayBe 76 = .ok (.iconst 0, 1) := by decide +kernel
theorem dX11_mayBe_77 : decode cX11_mayBe 77 = .ok (.bipush 96, 2) := by decide +kernel
theorem dX11_mayBe_79 : decode cX11_mayBe 79 = .ok (.invokestatic 82, 3) := by decide +kernel
theorem dX11_mayBe_82 : decode cX11_mayBe 82 = .ok (.ifCond .eq 27, 3) := by decide +kernel
theorem dX11_mayBe_85 : decode cX11_mayBe 85 = .ok (.iload_n 1, 1) := by decide +kernel
theorem dX11_mayBe_86 : decode cX11_mayBe 86 = .ok (.iconst 4, 1) := by decide +kernel
theorem dX11_mayBe_87 : decode cX11_mayBe 87 = .ok (.if_icmp .lt 18, 3) := by decide +kernel
theorem dX11_mayBe_90 : decode cX11_mayBe 90 = .ok (.iload_n 3, 1) := by decide +kernel
theorem dX11_mayBe_91 : decode cX11_mayBe 91 = .ok (.iload_n 2, 1) := by decide +kernel
theorem dX11_mayBe_92 : decode cX11_mayBe 92 = .ok (.imul, 1) := by decide +kernel
theorem dX11_mayBe_93 : decode cX11_mayBe 93 = .ok (.iload 4, 2) := by decide +kernel
theorem dX11_mayBe_95 : decode cX11_mayBe 95 = .ok (.iload 5, 2) := by decide +kernel
theorem dX11_mayBe_97 : decode cX11_mayBe 97 = .ok (.imul, 1) := by decide +kernel
theorem dX11_mayBe_98 : decode cX11_mayBe 98 = .ok (.isub, 1) := by decide +kernel
theorem dX11_mayBe_99 : decode cX11_mayBe 99 = .ok (.invokestatic 71, 3) := by decide +kernel
theorem dX11_mayBe_102 : decode cX11_mayBe 102 = .ok (.ifCond .eq 7, 3) := by decide +kernel
theorem dX11_mayBe_105 : decode cX11_mayBe 105 = .ok (.iconst 1, 1) := by decide +kernel
theorem dX11_mayBe_106 : decode cX11_mayBe 106 = .ok (.goto 4, 3) := by decide +kernel
theorem dX11_mayBe_109 : decode cX11_mayBe 109 = .ok (.iconst 0, 1) := by decide +kernel
theorem dX11_mayBe_110 : decode cX11_mayBe 110 = .ok (.ireturn, 1) := by decide +kernel
theorem dX11_mayBe_111 : decode cX11_mayBe 111 = .ok (.iload_n 1, 1) := by decide +kernel
theorem dX11_mayBe_112 : decode cX11_mayBe 112 = .ok (.iconst 1, 1) := by decide +kernel
theorem dX11_mayBe_113 : decode cX11_mayBe 113 = .ok (.if_icmp .ne 13, 3) := by decide +kernel
theorem dX11_mayBe_116 : decode cX11_mayBe 116 = .ok (.iload_n 2, 1) := by decide +kernel
theorem dX11_mayBe_117 : decode cX11_mayBe 117 = .ok (.iconst 0, 1) := by decide +kernel
theorem dX11_mayBe_118 : decode cX11_mayBe 118 = .ok (.bipush 15, 2) := by decide +kernel
theorem dX11_mayBe_120 : decode cX11_mayBe 120 = .ok (.invokestatic 82, 3) := by decide +kernel
theorem dX11_mayBe_123 : decode cX11_mayBe 123 = .ok (.goto 26, 3) := by decide +kernel
theorem dX11_mayBe_126 : decode cX11_mayBe 126 = .ok (.iload_n 1, 1) := by decide +kernel
theorem dX11_mayBe_127 : decode cX11_mayBe 127 = .ok (.iconst 2, 1) := by decide +kernel
theorem dX11_mayBe_128 : decode cX11_mayBe 128 = .ok (.if_icmp .ne 12, 3) := by decide +kernel
theorem dX11_mayBe_131 : decode cX11_mayBe 131 = .ok (.iload_n 2, 1) := by decide +kernel
theorem dX11_mayBe_132 : decode cX11_mayBe 132 = .ok (.iconst 1, 1) := by decide +kernel
theorem dX11_mayBe_133 : decode cX11_mayBe 133 = .ok (.iconst 3, 1) := by decide +kernel
theorem dX11_mayBe_134 : decode cX11_mayBe 134 = .ok (.invokestatic 82, 3) := by decide +kernel
theorem dX11_mayBe_137 : decode cX11_mayBe 137 = .ok (.goto 12, 3) := by decide +kernel
theorem dX11_mayBe_140 : decode cX11_mayBe 140 = .ok (.iload_n 2, 1) := by decide +kernel
theorem dX11_mayBe_141 : decode cX11_mayBe 141 = .ok (.ifCond .ne 7, 3) := by decide +kernel
theorem dX11_mayBe_144 : decode cX11_mayBe 144 = .ok (.iconst 1, 1) := by decide +kernel
theorem dX11_mayBe_145 : decode cX11_mayBe 145 = .ok (.goto 4, 3) := by decide +kernel
theorem dX11_mayBe_148 : decode cX11_mayBe 148 = .ok (.iconst 0, 1) := by decide +kernel
theorem dX11_mayBe_149 : decode cX11_mayBe 149 = .ok (.ireturn, 1) := by decide +kernel
theorem dX11_mayBe_150 : decode cX11_mayBe 150 = .ok (.iload_n 1, 1) := by decide +kernel
theorem dX11_mayBe_151 : decode cX11_mayBe 151 = .ok (.iconst 1, 1) := by decide +kernel
theorem dX11_mayBe_152 : decode cX11_mayBe 152 = .ok (.if_icmp .ne 13, 3) := by decide +kernel
theorem dX11_mayBe_155 : decode cX11_mayBe 155 = .ok (.iload_n 2, 1) := by decide +kernel
theorem dX11_mayBe_156 : decode cX11_mayBe 156 = .ok (.iconst 1, 1) := by decide +kernel
theorem dX11_mayBe_157 : decode cX11_mayBe 157 = .ok (.bipush 15, 2) := by decide +kernel
theorem dX11_mayBe_159 : decode cX11_mayBe 159 = .ok (.invokestatic 82, 3) := by decide +kernel
theorem dX11_mayBe_162 : decode cX11_mayBe 162 = .ok (.goto 12, 3) := by decide +kernel
theorem dX11_mayBe_165 : decode cX11_mayBe 165 = .ok (.iload_n 2, 1) := by decide +kernel
theorem dX11_mayBe_166 : decode cX11_mayBe 166 = .ok (.ifCond .ne 7, 3) := by decide +kernel
theorem dX11_mayBe_169 : decode cX11_mayBe 169 = .ok (.iconst 1, 1) := by decide +kernel
theorem dX11_mayBe_170 : decode cX11_mayBe 170 = .ok (.goto 4, 3) := by decide +kernel
theorem dX11_mayBe_173 : decode cX11_mayBe 173 = .ok (.iconst 0, 1) := by decide +kernel
theorem dX11_mayBe_174 : decode cX11_mayBe 174 = .ok (.ireturn, 1) := by decide +kernel
theorem dX11_mayBe_175 : decode cX11_mayBe 175 = .ok (.iload_n 1, 1) := by decide +kernel
theorem dX11_mayBe_176 : decode cX11_mayBe 176 = .ok (.iconst 1, 1) := by decide +kernel
theorem dX11_mayBe_177 : decode cX11_mayBe 177 = .ok (.if_icmp .ne 12, 3) := by decide +kernel
theorem dX11_mayBe_180 : decode cX11_mayBe 180 = .ok (.iload_n 2, 1) := by decide +kernel
theorem dX11_mayBe_181 : decode cX11_mayBe 181 = .ok (.iconst 0, 1) := by decide +kernel
theorem dX11_mayBe_182 : decode cX11_mayBe 182 = .ok (.iconst 1, 1) := by decide +kernel
theorem dX11_mayBe_183 : decode cX11_mayBe 183 = .ok (.invokestatic 82, 3) := by decide +kernel
theorem dX11_mayBe_186 : decode cX11_mayBe 186 = .ok (.goto 42, 3) := by decide +kernel
theorem dX11_mayBe_189 : decode cX11_mayBe 189 = .ok (.iload_n 1, 1) := by decide +kernel
theorem dX11_mayBe_190 : decode cX11_mayBe 190 = .ok (.iconst 2, 1) := by decide +kernel
theorem dX11_mayBe_191 : decode cX11_mayBe 191 = .ok (.if_icmp .ne 13, 3) := by decide +kernel
theorem dX11_mayBe_194 : decode cX11_mayBe 194 = .ok (.iload_n 2, 1) := by decide +kernel
theorem dX11_mayBe_195 : decode cX11_mayBe 195 = .ok (.iconst 0, 1) := by decide +kernel
theorem dX11_mayBe_196 : decode cX11_mayBe 196 = .ok (.bipush 15, 2) := by decide +kernel
theorem dX11_mayBe_198 : decode cX11_mayBe 198 = .ok (.invokestatic 82, 3) := by decide +kernel
theorem dX11_mayBe_201 : decode cX11_mayBe 201 = .ok (.goto 27, 3) := by decide +kernel
theorem dX11_mayBe_204 : decode cX11_mayBe 204 = .ok (.iload_n 1, 1) := by decide +kernel
theorem dX11_mayBe_205 : decode cX11_mayBe 205 = .ok (.iconst 3, 1) := by decide +kernel
theorem dX11_mayBe_206 : decode cX11_mayBe 206 = .ok (.if_icmp .ne 13, 3) := by decide +kernel
theorem dX11_mayBe_209 : decode cX11_mayBe 209 = .ok (.iload_n 2, 1) := by decide +kernel
theorem dX11_mayBe_210 : decode cX11_mayBe 210 = .ok (.iconst 1, 1) := by decide +kernel
theorem dX11_mayBe_211 : decode cX11_mayBe 211 = .ok (.bipush 96, 2) := by decide +kernel
theorem dX11_mayBe_213 : decode cX11_mayBe 213 = .ok (.invokestatic 82, 3) := by decide +kernel
theorem dX11_mayBe_216 : decode cX11_mayBe 216 = .ok (.goto 12, 3) := by decide +kernel
theorem dX11_mayBe_219 : decode cX11_mayBe 219 = .ok (.iload_n 2, 1) := by decide +kernel
theorem dX11_mayBe_220 : decode cX11_mayBe 220 = .ok (.ifCond .ne 7, 3) := by decide +kernel
theorem dX11_mayBe_223 : decode cX11_mayBe 223 = .ok (.iconst 1, 1) := by decide +kernel
theorem dX11_mayBe_224 : decode cX11_mayBe 224 = .ok (.goto 4, 3) := by decide +kernel
theorem dX11_mayBe_227 : decode cX11_mayBe 227 = .ok (.iconst 0, 1) := by decide +kernel
theorem dX11_mayBe_228 : decode cX11_mayBe 228 = .ok (.ireturn, 1) := by decide +kernel
theorem dX11_isDeed_0 : decode cX11_isDeed 0 = .ok (.iload_n 0, 1) := by decide +kernel
theorem dX11_isDeed_1 : decode cX11_isDeed 1 = .ok (.iconst 0, 1) := by decide +kernel
theorem dX11_isDeed_2 : decode cX11_isDeed 2 = .ok (.iconst 4, 1) := by decide +kernel
theorem dX11_isDeed_3 : decode cX11_isDeed 3 = .ok (.invokestatic 82, 3) := by decide +kernel
theorem dX11_isDeed_6 : decode cX11_isDeed 6 = .ok (.ifCond .eq 56, 3) := by decide +kernel
theorem dX11_isDeed_9 : decode cX11_isDeed 9 = .ok (.iload_n 0, 1) := by decide +kernel
theorem dX11_isDeed_10 : decode cX11_isDeed 10 = .ok (.iconst 1, 1) := by decide +kernel
theorem dX11_isDeed_11 : decode cX11_isDeed 11 = .ok (.iload_n 1, 1) := by decide +kernel
theorem dX11_isDeed_12 : decode cX11_isDeed 12 = .ok (.iconst 0, 1) := by decide +kernel
theorem dX11_isDeed_13 : decode cX11_isDeed 13 = .ok (.iconst 0, 1) := by decide +kernel
theorem dX11_isDeed_14 : decode cX11_isDeed 14 = .ok (.iconst 0, 1) := by decide +kernel
theorem dX11_isDeed_15 : decode cX11_isDeed 15 = .ok (.invokestatic 86, 3) := by decide +kernel
theorem dX11_isDeed_18 : decode cX11_isDeed 18 = .ok (.ifCond .eq 44, 3) := by decide +kernel
theorem dX11_isDeed_21 : decode cX11_isDeed 21 = .ok (.iload_n 0, 1) := by decide +kernel
theorem dX11_isDeed_22 : decode cX11_isDeed 22 = .ok (.iconst 2, 1) := by decide +kernel
theorem dX11_isDeed_23 : decode cX11_isDeed 23 = .ok (.iload_n 2, 1) := by decide +kernel
theorem dX11_isDeed_24 : decode cX11_isDeed 24 = .ok (.iload_n 1, 1) := by decide +kernel
theorem dX11_isDeed_25 : decode cX11_isDeed 25 = .ok (.iconst 0, 1) := by decide +kernel
theorem dX11_isDeed_26 : decode cX11_isDeed 26 = .ok (.iconst 0, 1) := by decide +kernel
theorem dX11_isDeed_27 : decode cX11_isDeed 27 = .ok (.invokestatic 86, 3) := by decide +kernel
theorem dX11_isDeed_30 : decode cX11_isDeed 30 = .ok (.ifCond .eq 32, 3) := by decide +kernel
theorem dX11_isDeed_33 : decode cX11_isDeed 33 = .ok (.iload_n 0, 1) := by decide +kernel
theorem dX11_isDeed_34 : decode cX11_isDeed 34 = .ok (.iconst 3, 1) := by decide +kernel
theorem dX11_isDeed_35 : decode cX11_isDeed 35 = .ok (.iload_n 3, 1) := by decide +kernel
theorem dX11_isDeed_36 : decode cX11_isDeed 36 = .ok (.iload_n 1, 1) := by decide +kernel
theorem dX11_isDeed_37 : decode cX11_isDeed 37 = .ok (.iload_n 2, 1) := by decide +kernel
theorem dX11_isDeed_38 : decode cX11_isDeed 38 = .ok (.iconst 0, 1) := by decide +kernel
theorem dX11_isDeed_39 : decode cX11_isDeed 39 = .ok (.invokestatic 86, 3) := by decide +kernel
theorem dX11_isDeed_42 : decode cX11_isDeed 42 = .ok (.ifCond .eq 20, 3) := by decide +kernel
theorem dX11_isDeed_45 : decode cX11_isDeed 45 = .ok (.iload_n 0, 1) := by decide +kernel
theorem dX11_isDeed_46 : decode cX11_isDeed 46 = .ok (.iconst 4, 1) := by decide +kernel
theorem dX11_isDeed_47 : decode cX11_isDeed 47 = .ok (.iload 4, 2) := by decide +kernel
theorem dX11_isDeed_49 : decode cX11_isDeed 49 = .ok (.iload_n 1, 1) := by decide +kernel
theorem dX11_isDeed_50 : decode cX11_isDeed 50 = .ok (.iload_n 2, 1) := by decide +kernel
theorem dX11_isDeed_51 : decode cX11_isDeed 51 = .ok (.iload_n 3, 1) := by decide +kernel
theorem dX11_isDeed_52 : decode cX11_isDeed 52 = .ok (.invokestatic 86, 3) := by decide +kernel
theorem dX11_isDeed_55 : decode cX11_isDeed 55 = .ok (.ifCond .eq 7, 3) := by decide +kernel
theorem dX11_isDeed_58 : decode cX11_isDeed 58 = .ok (.iconst 1, 1) := by decide +kernel
theorem dX11_isDeed_59 : decode cX11_isDeed 59 = .ok (.goto 4, 3) := by decide +kernel
theorem dX11_isDeed_62 : decode cX11_isDeed 62 = .ok (.iconst 0, 1) := by decide +kernel
theorem dX11_isDeed_63 : decode cX11_isDeed 63 = .ok (.ireturn, 1) := by decide +kernel
theorem dX11_isStage_0 : decode cX11_isStage 0 = .ok (.iload_n 0, 1) := by decide +kernel
theorem dX11_isStage_1 : decode cX11_isStage 1 = .ok (.iconst 3, 1) := by decide +kernel
theorem dX11_isStage_2 : decode cX11_isStage 2 = .ok (.if_icmp .eq 8, 3) := by decide +kernel
theorem dX11_isStage_5 : decode cX11_isStage 5 = .ok (.iload_n 0, 1) := by decide +kernel
theorem dX11_isStage_6 : decode cX11_isStage 6 = .ok (.iconst 4, 1) := by decide +kernel
theorem dX11_isStage_7 : decode cX11_isStage 7 = .ok (.if_icmp .ne 26, 3) := by decide +kernel
theorem dX11_isStage_10 : decode cX11_isStage 10 = .ok (.iload_n 1, 1) := by decide +kernel
theorem dX11_isStage_11 : decode cX11_isStage 11 = .ok (.ifCond .ne 20, 3) := by decide +kernel
theorem dX11_isStage_14 : decode cX11_isStage 14 = .ok (.iload_n 2, 1) := by decide +kernel
theorem dX11_isStage_15 : decode cX11_isStage 15 = .ok (.ifCond .ne 16, 3) := by decide +kernel
theorem dX11_isStage_18 : decode cX11_isStage 18 = .ok (.iload_n 3, 1) := by decide +kernel
theorem dX11_isStage_19 : decode cX11_isStage 19 = .ok (.ifCond .ne 12, 3) := by decide +kernel
theorem dX11_isStage_22 : decode cX11_isStage 22 = .ok (.iload 4, 2) := by decide +kernel
theorem dX11_isStage_24 : decode cX11_isStage 24 = .ok (.ifCond .ne 7, 3) := by decide +kernel
theorem dX11_isStage_27 : decode cX11_isStage 27 = .ok (.iconst 1, 1) := by decide +kernel
theorem dX11_isStage_28 : decode cX11_isStage 28 = .ok (.goto 4, 3) := by decide +kernel
theorem dX11_isStage_31 : decode cX11_isStage 31 = .ok (.iconst 0, 1) := by decide +kernel
theorem dX11_isStage_32 : decode cX11_isStage 32 = .ok (.ireturn, 1) := by decide +kernel
theorem dX11_isStage_33 : decode cX11_isStage 33 = .ok (.iload_n 0, 1) := by decide +kernel
theorem dX11_isStage_34 : decode cX11_isStage 34 = .ok (.iconst 0, 1) := by decide +kernel
theorem dX11_isStage_35 : decode cX11_isStage 35 = .ok (.iconst 2, 1) := by decide +kernel
theorem dX11_isStage_36 : decode cX11_isStage 36 = .ok (.invokestatic 82, 3) := by decide +kernel
theorem dX11_isStage_39 : decode cX11_isStage 39 = .ok (.ifCond .eq 28, 3) := by decide +kernel
theorem dX11_isStage_42 : decode cX11_isStage 42 = .ok (.iload_n 0, 1) := by decide +kernel
theorem dX11_isStage_43 : decode cX11_isStage 43 = .ok (.iconst 2, 1) := by decide +kernel
theorem dX11_isStage_44 : decode cX11_isStage 44 = .ok (.if_icmp .ne 7, 3) := by decide +kernel
theorem dX11_isStage_47 : decode cX11_isStage 47 = .ok (.iconst 3, 1) := by decide +kernel
theorem dX11_isStage_48 : decode cX11_isStage 48 = .ok (.goto 4, 3) := by decide +kernel
theorem dX11_isStage_51 : decode cX11_isStage 51 = .ok (.iload_n 0, 1) := by decide +kernel
theorem dX11_isStage_52 : decode cX11_isStage 52 = .ok (.iload_n 1, 1) := by decide +kernel
theorem dX11_isStage_53 : decode cX11_isStage 53 = .ok (.iload_n 2, 1) := by decide +kernel
theorem dX11_isStage_54 : decode cX11_isStage 54 = .ok (.iload_n 3, 1) := by decide +kernel
theorem dX11_isStage_55 : decode cX11_isStage 55 = .ok (.iload 4, 2) := by decide +kernel
theorem dX11_isStage_57 : decode cX11_isStage 57 = .ok (.invokestatic 90, 3) := by decide +kernel
theorem dX11_isStage_60 : decode cX11_isStage 60 = .ok (.ifCond .eq 7, 3) := by decide +kernel
theorem dX11_isStage_63 : decode cX11_isStage 63 = .ok (.iconst 1, 1) := by decide +kernel
theorem dX11_isStage_64 : decode cX11_isStage 64 = .ok (.goto 4, 3) := by decide +kernel
theorem dX11_isStage_67 : decode cX11_isStage 67 = .ok (.iconst 0, 1) := by decide +kernel
theorem dX11_isStage_68 : decode cX11_isStage 68 = .ok (.ireturn, 1) := by decide +kernel
theorem dX11_type_0 : decode cX11_type 0 = .ok (.iload_n 1, 1) := by decide +kernel
theorem dX11_type_1 : decode cX11_type 1 = .ok (.iconst 0, 1) := by decide +kernel
theorem dX11_type_2 : decode cX11_type 2 = .ok (.sipush 255, 3) := by decide +kernel
theorem dX11_type_5 : decode cX11_type 5 = .ok (.invokestatic 82, 3) := by decide +kernel
theorem dX11_type_8 : decode cX11_type 8 = .ok (.ifCond .ne 5, 3) := by decide +kernel
theorem dX11_type_11 : decode cX11_type 11 = .ok (.iconst (-1), 1) := by decide +kernel
theorem dX11_type_12 : decode cX11_type 12 = .ok (.ireturn, 1) := by decide +kernel
theorem dX11_type_13 : decode cX11_type 13 = .ok (.aload_n 0, 1) := by decide +kernel
theorem dX11_type_14 : decode cX11_type 14 = .ok (.getfield 94, 3) := by decide +kernel
theorem dX11_type_17 : decode cX11_type 17 = .ok (.sipush 160, 3) := by decide +kernel
theorem dX11_type_20 : decode cX11_type 20 = .ok (.if_icmp .ne 6, 3) := by decide +kernel
theorem dX11_type_23 : decode cX11_type 23 = .ok (.bipush (-3), 2) := by decide +kernel
theorem dX11_type_25 : decode cX11_type 25 = .ok (.ireturn, 1) := by decide +kernel
theorem dX11_type_26 : decode cX11_type 26 = .ok (.aload_n 0, 1) := by decide +kernel
theorem dX11_type_27 : decode cX11_type 27 = .ok (.getfield 30, 3) := by decide +kernel
theorem dX11_type_30 : decode cX11_type 30 = .ok (.aload_n 0, 1) := by decide +kernel
theorem dX11_type_31 : decode cX11_type 31 = .ok (.getfield 94, 3) := by decide +kernel
theorem dX11_type_34 : decode cX11_type 34 = .ok (.iload_n 1, 1) := by decide +kernel
theorem dX11_type_35 : decode cX11_type 35 = .ok (.iastore, 1) := by decide +kernel
theorem dX11_type_36 : decode cX11_type 36 = .ok (.aload_n 0, 1) := by decide +kernel
theorem dX11_type_37 : decode cX11_type 37 = .ok (.dup, 1) := by decide +kernel
theorem dX11_type_38 : decode cX11_type 38 = .ok (.getfield 94, 3) := by decide +kernel
theorem dX11_type_41 : decode cX11_type 41 = .ok (.iconst 1, 1) := by decide +kernel
theorem dX11_type_42 : decode cX11_type 42 = .ok (.iadd, 1) := by decide +kernel
theorem dX11_type_43 : decode cX11_type 43 = .ok (.putfield 94, 3) := by decide +kernel
theorem dX11_type_46 : decode cX11_type 46 = .ok (.aload_n 0, 1) := by decide +kernel
theorem dX11_type_47 : decode cX11_type 47 = .ok (.getfield 94, 3) := by decide +kernel
theorem dX11_type_50 : decode cX11_type 50 = .ok (.ireturn, 1) := by decide +kernel
theorem dX11_clear_0 : decode cX11_clear 0 = .ok (.aload_n 0, 1) := by decide +kernel
theorem dX11_clear_1 : decode cX11_clear 1 = .ok (.getfield 94, 3) := by decide +kernel
theorem dX11_clear_4 : decode cX11_clear 4 = .ok (.istore_n 1, 1) := by decide +kernel
theorem dX11_clear_5 : decode cX11_clear 5 = .ok (.aload_n 0, 1) := by decide +kernel
theorem dX11_clear_6 : decode cX11_clear 6 = .ok (.iconst 0, 1) := by decide +kernel
theorem dX11_clear_7 : decode cX11_clear 7 = .ok (.putfield 94, 3) := by decide +kernel
theorem dX11_clear_10 : decode cX11_clear 10 = .ok (.iload_n 1, 1) := by decide +kernel
theorem dX11_clear_11 : decode cX11_clear 11 = .ok (.ireturn, 1) := by decide +kernel
theorem dX11_next_0 : decode cX11_next 0 = .ok (.aload_n 0, 1) := by decide +kernel
theorem dX11_next_1 : decode cX11_next 1 = .ok (.getfield 97, 3) := by decide +kernel
theorem dX11_next_4 : decode cX11_next 4 = .ok (.aload_n 0, 1) := by decide +kernel
theorem dX11_next_5 : decode cX11_next 5 = .ok (.getfield 94, 3) := by decide +kernel
theorem dX11_next_8 : decode cX11_next 8 = .ok (.if_icmp .ge 30, 3) := by decide +kernel
theorem dX11_next_11 : decode cX11_next 11 = .ok (.aload_n 0, 1) := by decide +kernel
theorem dX11_next_12 : decode cX11_next 12 = .ok (.getfield 30, 3) := by decide +kernel
theorem dX11_next_15 : decode cX11_next 15 = .ok (.aload_n 0, 1) := by decide +kernel
theorem dX11_next_16 : decode cX11_next 16 = .ok (.getfield 97, 3) := by decide +kernel
theorem dX11_next_19 : decode cX11_next 19 = .ok (.iaload, 1) := by decide +kernel
theorem dX11_next_20 : decode cX11_next 20 = .ok (.bipush 32, 2) := by decide +kernel
theorem dX11_next_22 : decode cX11_next 22 = .ok (.if_icmp .ne 16, 3) := by decide +kernel
theorem dX11_next_25 : decode cX11_next 25 = .ok (.aload_n 0, 1) := by decide +kernel
theorem dX11_next_26 : decode cX11_next 26 = .ok (.dup, 1) := by decide +kernel
theorem dX11_next_27 : decode cX11_next 27 = .ok (.getfield 97, 3) := by decide +kernel
theorem dX11_next_30 : decode cX11_next 30 = .ok (.iconst 1, 1) := by decide +kernel
theorem dX11_next_31 : decode cX11_next 31 = .ok (.iadd, 1) := by decide +kernel
theorem dX11_next_32 : decode cX11_next 32 = .ok (.putfield 97, 3) := by decide +kernel
theorem dX11_next_35 : decode cX11_next 35 = .ok (.goto (-35), 3) := by decide +kernel
theorem dX11_next_38 : decode cX11_next 38 = .ok (.aload_n 0, 1) := by decide +kernel
theorem dX11_next_39 : decode cX11_next 39 = .ok (.aload_n 0, 1) := by decide +kernel
theorem dX11_next_40 : decode cX11_next 40 = .ok (.getfield 97, 3) := by decide +kernel
theorem dX11_next_43 : decode cX11_next 43 = .ok (.putfield 100, 3) := by decide +kernel
theorem dX11_next_46 : decode cX11_next 46 = .ok (.aload_n 0, 1) := by decide +kernel
theorem dX11_next_47 : decode cX11_next 47 = .ok (.iconst 0, 1) := by decide +kernel
theorem dX11_next_48 : decode cX11_next 48 = .ok (.putfield 103, 3) := by decide +kernel
theorem dX11_next_51 : decode cX11_next 51 = .ok (.aload_n 0, 1) := by decide +kernel
theorem dX11_next_52 : decode cX11_next 52 = .ok (.getfield 97, 3) := by decide +kernel
theorem dX11_next_55 : decode cX11_next 55 = .ok (.aload_n 0, 1) := by decide +kernel
theorem dX11_next_56 : decode cX11_next 56 = .ok (.getfield 94, 3) := by decide +kernel
theorem dX11_next_59 : decode cX11_next 59 = .ok (.if_icmp .ne 11, 3) := by decide +kernel
theorem dX11_next_62 : decode cX11_next 62 = .ok (.aload_n 0, 1) := by decide +kernel
theorem dX11_next_63 : decode cX11_next 63 = .ok (.iconst 0, 1) := by decide +kernel
theorem dX11_next_64 : decode cX11_next 64 = .ok (.putfield 106, 3) := by decide +kernel
theorem dX11_next_67 : decode cX11_next 67 = .ok (.goto 212, 3) := by decide +kernel
theorem dX11_next_70 : decode cX11_next 70 = .ok (.aload_n 0, 1) := by decide +kernel
theorem dX11_next_71 : decode cX11_next 71 = .ok (.getfield 30, 3) := by decide +kernel
theorem dX11_next_74 : decode cX11_next 74 = .ok (.aload_n 0, 1) := by decide +kernel
theorem dX11_next_75 : decode cX11_next 75 = .ok (.getfield 97, 3) := by decide +kernel
theorem dX11_next_78 : decode cX11_next 78 = .ok (.iaload, 1) := by decide +kernel
theorem dX11_next_79 : decode cX11_next 79 = .ok (.bipush 48, 2) := by decide +kernel
theorem dX11_next_81 : decode cX11_next 81 = .ok (.bipush 57, 2) := by decide +kernel
theorem dX11_next_83 : decode cX11_next 83 = .ok (.invokestatic 82, 3) := by decide +kernel
theorem dX11_next_86 : decode cX11_next 86 = .ok (.ifCond .eq 134, 3) := by decide +kernel
theorem dX11_next_89 : decode cX11_next 89 = .ok (.aload_n 0, 1) := by decide +kernel
theorem dX11_next_90 : decode cX11_next 90 = .ok (.getfield 97, 3) := by decide +kernel
theorem dX11_next_93 : decode cX11_next 93 = .ok (.aload_n 0, 1) := by decide +kernel
theorem dX11_next_94 : decode cX11_next 94 = .ok (.getfield 94, 3) := by decide +kernel
theorem dX11_next_97 : decode cX11_next 97 = .ok (.if_icmp .ge 75, 3) := by decide +kernel
theorem dX11_next_100 : decode cX11_next 100 = .ok (.aload_n 0, 1) := by decide +kernel
theorem dX11_next_101 : decode cX11_next 101 = .ok (.getfield 30, 3) := by decide +kernel
theorem dX11_next_104 : decode cX11_next 104 = .ok (.aload_n 0, 1) := by decide +kernel
theorem dX11_next_105 : decode cX11_next 105 = .ok (.getfield 97, 3) := by decide +kernel
theorem dX11_next_108 : decode cX11_next 108 = .ok (.iaload, 1) := by decide +kernel
theorem dX11_next_109 : decode cX11_next 109 = .ok (.bipush 48, 2) := by decide +kernel
theorem dX11_next_111 : decode cX11_next 111 = .ok (.bipush 57, 2) := by decide +kernel
theorem dX11_next_113 : decode cX11_next 113 = .ok (.invokestatic 82, 3) := by decide +kernel
theorem dX11_next_116 : decode cX11_next 116 = .ok (.ifCond .eq 56, 3) := by decide +kernel
theorem dX11_next_119 : decode cX11_next 119 = .ok (.aload_n 0, 1) := by decide +kernel
theorem dX11_next_120 : decode cX11_next 120 = .ok (.aload_n 0, 1) := by decide +kernel
theorem dX11_next_121 : decode cX11_next 121 = .ok (.getfield 103, 3) := by decide +kernel
theorem dX11_next_124 : decode cX11_next 124 = .ok (.bipush 99, 2) := by decide +kernel
theorem dX11_next_126 : decode cX11_next 126 = .ok (.if_icmp .le 10, 3) := by decide +kernel
theorem dX11_next_129 : decode cX11_next 129 = .ok (.aload_n 0, 1) := by decide +kernel
theorem dX11_next_130 : decode cX11_next 130 = .ok (.getfield 103, 3) := by decide +kernel
theorem dX11_next_133 : decode cX11_next 133 = .ok (.goto 23, 3) := by decide +kernel
theorem dX11_next_136 : decode cX11_next 136 = .ok (.bipush 10, 2) := by decide +kernel
theorem dX11_next_138 : decode cX11_next 138 = .ok (.aload_n 0, 1) := by decide +kernel
theorem dX11_next_139 : decode cX11_next 139 = .ok (.getfield 103, 3) := by decide +kernel
theorem dX11_next_142 : decode cX11_next 142 = .ok (.imul, 1) := by decide +kernel
theorem dX11_next_143 : decode cX11_next 143 = .ok (.aload_n 0, 1) := by decide +kernel
theorem dX11_next_144 : decode cX11_next 144 = .ok (.getfield 30, 3) := by decide +kernel
theorem dX11_next_147 : decode cX11_next 147 = .ok (.aload_n 0, 1) := by decide +kernel
theorem dX11_next_148 : decode cX11_next 148 = .ok (.getfield 97, 3) := by decide +kernel
theorem dX11_next_151 : decode cX11_next 151 = .ok (.iaload, 1) := by decide +kernel
theorem dX11_next_152 : decode cX11_next 152 = .ok (.iadd, 1) := by decide +kernel
theorem dX11_next_153 : decode cX11_next 153 = .ok (.bipush 48, 2) := by decide +kernel
theorem dX11_next_155 : decode cX11_next 155 = .ok (.isub, 1) := by decide +kernel
theorem dX11_next_156 : decode cX11_next 156 = .ok (.putfield 103, 3) := by decide +kernel
theorem dX11_next_159 : decode cX11_next 159 = .ok (.aload_n 0, 1) := by decide +kernel
theorem dX11_next_160 : decode cX11_next 160 = .ok (.dup, 1) := by decide +kernel
theorem dX11_next_161 : decode cX11_next 161 = .ok (.getfield 97, 3) := by decide +kernel
theorem dX11_next_164 : decode cX11_next 164 = .ok (.iconst 1, 1) := by decide +kernel
theorem dX11_next_165 : decode cX11_next 165 = .ok (.iadd, 1) := by decide +kernel
theorem dX11_next_166 : decode cX11_next 166 = .ok (.putfield 97, 3) := by decide +kernel
theorem dX11_next_169 : decode cX11_next 169 = .ok (.goto (-80), 3) := by decide +kernel
theorem dX11_next_172 : decode cX11_next 172 = .ok (.aload_n 0, 1) := by decide +kernel
theorem dX11_next_173 : decode cX11_next 173 = .ok (.aload_n 0, 1) := by decide +kernel
theorem dX11_next_174 : decode cX11_next 174 = .ok (.getfield 103, 3) := by decide +kernel
theorem dX11_next_177 : decode cX11_next 177 = .ok (.bipush 99, 2) := by decide +kernel
theorem dX11_next_179 : decode cX11_next 179 = .ok (.if_icmp .gt 30, 3) := by decide +kernel
theorem dX11_next_182 : decode cX11_next 182 = .ok (.aload_n 0, 1) := by decide +kernel
theorem dX11_next_183 : decode cX11_next 183 = .ok (.getfield 30, 3) := by decide +kernel
theorem dX11_next_186 : decode cX11_next 186 = .ok (.aload_n 0, 1) := by decide +kernel
theorem dX11_next_187 : decode cX11_next 187 = .ok (.getfield 100, 3) := by decide +kernel
theorem dX11_next_190 : decode cX11_next 190 = .ok (.iaload, 1) := by decide +kernel
theorem dX11_next_191 : decode cX11_next 191 = .ok (.bipush 48, 2) := by decide +kernel
theorem dX11_next_193 : decode cX11_next 193 = .ok (.if_icmp .ne 20, 3) := by decide +kernel
theorem dX11_next_196 : decode cX11_next 196 = .ok (.aload_n 0, 1) := by decide +kernel
theorem dX11_next_197 : decode cX11_next 197 = .ok (.getfield 97, 3) := by decide +kernel
theorem dX11_next_200 : decode cX11_next 200 = .ok (.aload_n 0, 1) := by decide +kernel
theorem dX11_next_201 : decode cX11_next 201 = .ok (.getfield 100, 3) := by decide +kernel
theorem dX11_next_204 : decode cX11_next 204 = .ok (.isub, 1) := by decide +kernel
theorem dX11_next_205 : decode cX11_next 205 = .ok (.iconst 1, 1) := by decide +kernel
theorem dX11_next_206 : decode cX11_next 206 = .ok (.if_icmp .le 7, 3) := by decide +kernel
theorem dX11_next_209 : decode cX11_next 209 = .ok (.iconst 2, 1) := by decide +kernel
theorem dX11_next_210 : decode cX11_next 210 = .ok (.goto 4, 3) := by decide +kernel
theorem dX11_next_213 : decode cX11_next 213 = .ok (.iconst 1, 1) := by decide +kernel
theorem dX11_next_214 : decode cX11_next 214 = .ok (.putfield 106, 3) := by decide +kernel
theorem dX11_next_217 : decode cX11_next 217 = .ok (.goto 62, 3) := by decide +kernel
theorem dX11_next_220 : decode cX11_next 220 = .ok (.aload_n 0, 1) := by decide +kernel
theorem dX11_next_221 : decode cX11_next 221 = .ok (.getfield 30, 3) := by decide +kernel
theorem dX11_next_224 : decode cX11_next 224 = .ok (.aload_n 0, 1) := by decide +kernel
theorem dX11_next_225 : decode cX11_next 225 = .ok (.getfield 97, 3) := by decide +kernel
theorem dX11_next_228 : decode cX11_next 228 = .ok (.iaload, 1) := by decide +kernel
theorem dX11_next_229 : decode cX11_next 229 = .ok (.istore_n 1, 1) := by decide +kernel
theorem dX11_next_230 : decode cX11_next 230 = .ok (.aload_n 0, 1) := by decide +kernel
theorem dX11_next_231 : decode cX11_next 231 = .ok (.iload_n 1, 1) := by decide +kernel
theorem dX11_next_232 : decode cX11_next 232 = .ok (.bipush 120, 2) := by decide +kernel
theorem dX11_next_234 : decode cX11_next 234 = .ok (.if_icmp .eq 27, 3) := by decide +kernel
theorem dX11_next_237 : decode cX11_next 237 = .ok (.iload_n 1, 1) := by decide +kernel
theorem dX11_next_238 : decode cX11_next 238 = .ok (.bipush 121, 2) := by decide +kernel
theorem dX11_next_240 : decode cX11_next 240 = .ok (.if_icmp .eq 21, 3) := by decide +kernel
theorem dX11_next_243 : decode cX11_next 243 = .ok (.iload_n 1, 1) := by decide +kernel
theorem dX11_next_244 : decode cX11_next 244 = .ok (.bipush 109, 2) := by decide +kernel
theorem dX11_next_246 : decode cX11_next 246 = .ok (.if_icmp .eq 15, 3) := by decide +kernel
theorem dX11_next_249 : decode cX11_next 249 = .ok (.iload_n 1, 1) := by decide +kernel
theorem dX11_next_250 : decode cX11_next 250 = .ok (.bipush 100, 2) := by decide +kernel
theorem dX11_next_252 : decode cX11_next 252 = .ok (.if_icmp .eq 9, 3) := by decide +kernel
theorem dX11_next_255 : decode cX11_next 255 = .ok (.iload_n 1, 1) := by decide +kernel
theorem dX11_next_256 : decode cX11_next 256 = .ok (.bipush 59, 2) := by decide +kernel
theorem dX11_next_258 : decode cX11_next 258 = .ok (.if_icmp .ne 7, 3) := by decide +kernel
theorem dX11_next_261 : decode cX11_next 261 = .ok (.iload_n 1, 1) := by decide +kernel
theorem dX11_next_262 : decode cX11_next 262 = .ok (.goto 4, 3) := by decide +kernel
theorem dX11_next_265 : decode cX11_next 265 = .ok (.iconst 2, 1) := by decide +kernel
theorem dX11_next_266 : decode cX11_next 266 = .ok (.putfield 106, 3) := by decide +kernel
theorem dX11_next_269 : decode cX11_next 269 = .ok (.aload_n 0, 1) := by decide +kernel
theorem dX11_next_270 : decode cX11_next 270 = .ok (.dup, 1) := by decide +kernel
theorem dX11_next_271 : decode cX11_next 271 = .ok (.getfield 97, 3) := by decide +kernel
theorem dX11_next_274 : decode cX11_next 274 = .ok (.iconst 1, 1) := by decide +kernel
theorem dX11_next_275 : decode cX11_next 275 = .ok (.iadd, 1) := by decide +kernel
theorem dX11_next_276 : decode cX11_next 276 = .ok (.putfield 97, 3) := by decide +kernel
theorem dX11_next_279 : decode cX11_next 279 = .ok (.return_, 1) := by decide +kernel
theorem dX11_must_0 : decode cX11_must 0 = .ok (.aload_n 0, 1) := by decide +kernel
theorem dX11_must_1 : decode cX11_must 1 = .ok (.getfield 109, 3) := by decide +kernel
theorem dX11_must_4 : decode cX11_must 4 = .ok (.bipush (-9), 2) := by decide +kernel
theorem dX11_must_6 : decode cX11_must 6 = .ok (.if_icmp .ne 22, 3) := by decide +kernel
theorem dX11_must_9 : decode cX11_must 9 = .ok (.iload_n 1, 1) := by decide +kernel
theorem dX11_must_10 : decode cX11_must 10 = .ok (.ifCond .eq 10, 3) := by decide +kernel
theorem dX11_must_13 : decode cX11_must 13 = .ok (.aload_n 0, 1) := by decide +kernel
theorem dX11_must_14 : decode cX11_must 14 = .ok (.invokevirtual 112, 3) := by decide +kernel
theorem dX11_must_17 : decode cX11_must 17 = .ok (.goto 11, 3) := by decide +kernel
theorem dX11_must_20 : decode cX11_must 20 = .ok (.aload_n 0, 1) := by decide +kernel
theorem dX11_must_21 : decode cX11_must 21 = .ok (.aload_n 0, 1) := by decide +kernel
theorem dX11_must_22 : decode cX11_must 22 = .ok (.getfield 100, 3) := by decide +kernel
theorem dX11_must_25 : decode cX11_must 25 = .ok (.putfield 109, 3) := by decide +kernel
theorem dX11_must_28 : decode cX11_must 28 = .ok (.return_, 1) := by decide +kernel
theorem dX11_readRow_0 : decode cX11_readRow 0 = .ok (.iconst 0, 1) := by decide +kernel
theorem dX11_readRow_1 : decode cX11_readRow 1 = .ok (.istore_n 2, 1) := by decide +kernel
theorem dX11_readRow_2 : decode cX11_readRow 2 = .ok (.iload_n 2, 1) := by decide +kernel
theorem dX11_readRow_3 : decode cX11_readRow 3 = .ok (.bipush 16, 2) := by decide +kernel
theorem dX11_readRow_5 : decode cX11_readRow 5 = .ok (.if_icmp .ge 21, 3) := by decide +kernel
theorem dX11_readRow_8 : decode cX11_readRow 8 = .ok (.aload_n 0, 1) := by decide +kernel
theorem dX11_readRow_9 : decode cX11_readRow 9 = .ok (.getfield 33, 3) := by decide +kernel
theorem dX11_readRow_12 : decode cX11_readRow 12 = .ok (.bipush 16, 2) := by decide +kernel
theorem dX11_readRow_14 : decode cX11_readRow 14 = .ok (.iload_n 1, 1) := by decide +kernel
theorem dX11_readRow_15 : decode cX11_readRow 15 = .ok (.imul, 1) := by decide +kernel
theorem dX11_readRow_16 : decode cX11_readRow 16 = .ok (.iload_n 2, 1) := by decide +kernel
theorem dX11_readRow_17 : decode cX11_readRow 17 = .ok (.iadd, 1) := by decide +kernel
theorem dX11_readRow_18 : decode cX11_readRow 18 = .ok (.iconst 0, 1) := by decide +kernel
theorem dX11_readRow_19 : decode cX11_readRow 19 = .ok (.iastore, 1) := by decide +kernel
theorem dX11_readRow_20 : decode cX11_readRow 20 = .ok (.iinc 2 1, 3) := by decide +kernel
theorem dX11_readRow_23 : decode cX11_readRow 23 = .ok (.goto (-21), 3) := by decide +kernel
theorem dX11_readRow_26 : decode cX11_readRow 26 = .ok (.iconst 0, 1) := by decide +kernel
theorem dX11_readRow_27 : decode cX11_readRow 27 = .ok (.istore_n 2, 1) := by decide +kernel
theorem dX11_readRow_28 : decode cX11_readRow 28 = .ok (.aload_n 0, 1) := by decide +kernel
theorem dX11_readRow_29 : decode cX11_readRow 29 = .ok (.getfield 109, 3) := by decide +kernel
theorem dX11_readRow_32 : decode cX11_readRow 32 = .ok (.bipush (-9), 2) := by decide +kernel
theorem dX11_readRow_34 : decode cX11_readRow 34 = .ok (.if_icmp .ne 61, 3) := by decide +kernel
theorem dX11_readRow_37 : decode cX11_readRow 37 = .ok (.aload_n 0, 1) := by decide +kernel
theorem dX11_readRow_38 : decode cX11_readRow 38 = .ok (.getfield 106, 3) := by decide +kernel
theorem dX11_readRow_41 : decode cX11_readRow 41 = .ok (.iconst 1, 1) := by decide +kernel
theorem dX11_readRow_42 : decode cX11_readRow 42 = .ok (.if_icmp .ne 53, 3) := by decide +kernel
theorem dX11_readRow_45 : decode cX11_readRow 45 = .ok (.iload_n 2, 1) := by decide +kernel
theorem dX11_readRow_46 : decode cX11_readRow 46 = .ok (.bipush 16, 2) := by decide +kernel
theorem dX11_readRow_48 : decode cX11_readRow 48 = .ok (.if_icmp .ge 36, 3) := by decide +kernel
theorem dX11_readRow_51 : decode cX11_readRow 51 = .ok (.aload_n 0, 1) := by decide +kernel
theorem dX11_readRow_52 : decode cX11_readRow 52 = .ok (.getfield 103, 3) := by decide +kernel
theorem dX11_readRow_55 : decode cX11_readRow 55 = .ok (.iconst 4, 1) := by decide +kernel
theorem dX11_readRow_56 : decode cX11_readRow 56 = .ok (.if_icmp .ge 28, 3) := by decide +kernel
theorem dX11_readRow_59 : decode cX11_readRow 59 = .ok (.aload_n 0, 1) := by decide +kernel
theorem dX11_readRow_60 : decode cX11_readRow 60 = .ok (.getfield 33, 3) := by decide +kernel
theorem dX11_readRow_63 : decode cX11_readRow 63 = .ok (.bipush 16, 2) := by decide +kernel
theorem dX11_readRow_65 : decode cX11_readRow 65 = .ok (.iload_n 1, 1) := by decide +kernel
theorem dX11_readRow_66 : decode cX11_readRow 66 = .ok (.imul, 1) := by decide +kernel
theorem dX11_readRow_67 : decode cX11_readRow 67 = .ok (.iload_n 2, 1) := by decide +kernel
theorem dX11_readRow_68 : decode cX11_readRow 68 = .ok (.iadd, 1) := by decide +kernel
theorem dX11_readRow_69 : decode cX11_readRow 69 = .ok (.aload_n 0, 1) := by decide +kernel
theorem dX11_readRow_70 : decode cX11_readRow 70 = .ok (.getfield 103, 3) := by decide +kernel
theorem dX11_readRow_73 : decode cX11_readRow 73 = .ok (.iastore, 1) := by decide +kernel
theorem dX11_readRow_74 : decode cX11_readRow 74 = .ok (.iinc 2 1, 3) := by decide +kernel
theorem dX11_readRow_77 : decode cX11_readRow 77 = .ok (.aload_n 0, 1) := by decide +kernel
theorem dX11_readRow_78 : decode cX11_readRow 78 = .ok (.invokevirtual 112, 3) := by decide +kernel
theorem dX11_readRow_81 : decode cX11_readRow 81 = .ok (.goto (-53), 3) := by decide +kernel
theorem dX11_readRow_84 : decode cX11_readRow 84 = .ok (.aload_n 0, 1) := by decide +kernel
theorem dX11_readRow_85 : decode cX11_readRow 85 = .ok (.aload_n 0, 1) := by decide +kernel
theorem dX11_readRow_86 : decode cX11_readRow 86 = .ok (.getfield 100, 3) := by decide +kernel
theorem dX11_readRow_89 : decode cX11_readRow 89 = .ok (.putfield 109, 3) := by decide +kernel
theorem dX11_readRow_92 : decode cX11_readRow 92 = .ok (.goto (-64), 3) := by decide +kernel
theorem dX11_readRow_95 : decode cX11_readRow 95 = .ok (.aload_n 0, 1) := by decide +kernel
theorem dX11_readRow_96 : decode cX11_readRow 96 = .ok (.iload_n 2, 1) := by decide +kernel
theorem dX11_readRow_97 : decode cX11_readRow 97 = .ok (.ifCond .le 16, 3) := by decide +kernel
theorem dX11_readRow_100 : decode cX11_readRow 100 = .ok (.aload_n 0, 1) := by decide +kernel
theorem dX11_readRow_101 : decode cX11_readRow 101 = .ok (.getfield 106, 3) := by decide +kernel
theorem dX11_readRow_104 : decode cX11_readRow 104 = .ok (.bipush 59, 2) := by decide +kernel
theorem dX11_readRow_106 : decode cX11_readRow 106 = .ok (.if_icmp .ne 7, 3) := by decide +kernel
theorem dX11_readRow_109 : decode cX11_readRow 109 = .ok (.iconst 1, 1) := by decide +kernel
theorem dX11_readRow_110 : decode cX11_readRow 110 = .ok (.goto 4, 3) := by decide +kernel
theorem dX11_readRow_113 : decode cX11_readRow 113 = .ok (.iconst 0, 1) := by decide +kernel
theorem dX11_readRow_114 : decode cX11_readRow 114 = .ok (.invokevirtual 115, 3) := by decide +kernel
theorem dX11_readRow_117 : decode cX11_readRow 117 = .ok (.return_, 1) := by decide +kernel
theorem dX11_readMarks_0 : decode cX11_readMarks 0 = .ok (.aload_n 0, 1) := by decide +kernel
theorem dX11_readMarks_1 : decode cX11_readMarks 1 = .ok (.getfield 33, 3) := by decide +kernel
theorem dX11_readMarks_4 : decode cX11_readMarks 4 = .ok (.bipush 32, 2) := by decide +kernel
theorem dX11_readMarks_6 : decode cX11_readMarks 6 = .ok (.iconst 0, 1) := by decide +kernel
theorem dX11_readMarks_7 : decode cX11_readMarks 7 = .ok (.iastore, 1) := by decide +kernel
theorem dX11_readMarks_8 : decode cX11_readMarks 8 = .ok (.aload_n 0, 1) := by decide +kernel
theorem dX11_readMarks_9 : decode cX11_readMarks 9 = .ok (.iconst 1, 1) := by decide +kernel
theorem dX11_readMarks_10 : decode cX11_readMarks 10 = .ok (.putfield 119, 3) := by decide +kernel
theorem dX11_readMarks_13 : decode cX11_readMarks 13 = .ok (.aload_n 0, 1) := by decide +kernel
theorem dX11_readMarks_14 : decode cX11_readMarks 14 = .ok (.getfield 109, 3) := by decide +kernel
theorem dX11_readMarks_17 : decode cX11_readMarks 17 = .ok (.bipush (-9), 2) := by decide +kernel
theorem dX11_readMarks_19 : decode cX11_readMarks 19 = .ok (.if_icmp .ne 71, 3) := by decide +kernel
theorem dX11_readMarks_22 : decode cX11_readMarks 22 = .ok (.aload_n 0, 1) := by decide +kernel
theorem dX11_readMarks_23 : decode cX11_readMarks 23 = .ok (.getfield 106, 3) := by decide +kernel
theorem dX11_readMarks_26 : decode cX11_readMarks 26 = .ok (.iconst 1, 1) := by decide +kernel
theorem dX11_readMarks_27 : decode cX11_readMarks 27 = .ok (.if_icmp .ne 63, 3) := by decide +kernel
theorem dX11_readMarks_30 : decode cX11_readMarks 30 = .ok (.aload_n 0, 1) := by decide +kernel
theorem dX11_readMarks_31 : decode cX11_readMarks 31 = .ok (.getfield 103, 3) := by decide +kernel
theorem dX11_readMarks_34 : decode cX11_readMarks 34 = .ok (.bipush 16, 2) := by decide +kernel
theorem dX11_readMarks_36 : decode cX11_readMarks 36 = .ok (.if_icmp .ge 43, 3) := by decide +kernel
theorem dX11_readMarks_39 : decode cX11_readMarks 39 = .ok (.aload_n 0, 1) := by decide +kernel
theorem dX11_readMarks_40 : decode cX11_readMarks 40 = .ok (.getfield 33, 3) := by decide +kernel
theorem dX11_readMarks_43 : decode cX11_readMarks 43 = .ok (.bipush 32, 2) := by decide +kernel
theorem dX11_readMarks_45 : decode cX11_readMarks 45 = .ok (.iaload, 1) := by decide +kernel
theorem dX11_readMarks_46 : decode cX11_readMarks 46 = .ok (.aload_n 0, 1) := by decide +kernel
theorem dX11_readMarks_47 : decode cX11_readMarks 47 = .ok (.getfield 103, 3) := by decide +kernel
theorem dX11_readMarks_50 : decode cX11_readMarks 50 = .ok (.invokestatic 123, 3) := by decide +kernel
theorem dX11_readMarks_53 : decode cX11_readMarks 53 = .ok (.ifCond .ne 26, 3) := by decide +kernel
theorem dX11_readMarks_56 : decode cX11_readMarks 56 = .ok (.aload_n 0, 1) := by decide +kernel
theorem dX11_readMarks_57 : decode cX11_readMarks 57 = .ok (.getfield 33, 3) := by decide +kernel
theorem dX11_readMarks_60 : decode cX11_readMarks 60 = .ok (.bipush 32, 2) := by decide +kernel
theorem dX11_readMarks_62 : decode cX11_readMarks 62 = .ok (.dup2, 1) := by decide +kernel
theorem dX11_readMarks_63 : decode cX11_readMarks 63 = .ok (.iaload, 1) := by decide +kernel
theorem dX11_readMarks_64 : decode cX11_readMarks 64 = .ok (.iconst 1, 1) := by decide +kernel
theorem dX11_readMarks_65 : decode cX11_readMarks 65 = .ok (.aload_n 0, 1) := by decide +kernel
theorem dX11_readMarks_66 : decode cX11_readMarks 66 = .ok (.getfield 103, 3) := by decide +kernel
theorem dX11_readMarks_69 : decode cX11_readMarks 69 = .ok (.ishl, 1) := by decide +kernel
theorem dX11_readMarks_70 : decode cX11_readMarks 70 = .ok (.ior, 1) := by decide +kernel
theorem dX11_readMarks_71 : decode cX11_readMarks 71 = .ok (.iastore, 1) := by decide +kernel
theorem dX11_readMarks_72 : decode cX11_readMarks 72 = .ok (.aload_n 0, 1) := by decide +kernel
theorem dX11_readMarks_73 : decode cX11_readMarks 73 = .ok (.invokevirtual 112, 3) := by decide +kernel
theorem dX11_readMarks_76 : decode cX11_readMarks 76 = .ok (.goto (-63), 3) := by decide +kernel
theorem dX11_readMarks_79 : decode cX11_readMarks 79 = .ok (.aload_n 0, 1) := by decide +kernel
theorem dX11_readMarks_80 : decode cX11_readMarks 80 = .ok (.aload_n 0, 1) := by decide +kernel
theorem dX11_readMarks_81 : decode cX11_readMarks 81 = .ok (.getfield 100, 3) := by decide +kernel
theorem dX11_readMarks_84 : decode cX11_readMarks 84 = .ok (.putfield 109, 3) := by decide +kernel
theorem dX11_readMarks_87 : decode cX11_readMarks 87 = .ok (.goto (-74), 3) := by decide +kernel
theorem dX11_readMarks_90 : decode cX11_readMarks 90 = .ok (.aload_n 0, 1) := by decide +kernel
theorem dX11_readMarks_91 : decode cX11_readMarks 91 = .ok (.aload_n 0, 1) := by decide +kernel
theorem dX11_readMarks_92 : decode cX11_readMarks 92 = .ok (.getfield 106, 3) := by decide +kernel
theorem dX11_readMarks_95 : decode cX11_readMarks 95 = .ok (.bipush 59, 2) := by decide +kernel
theorem dX11_readMarks_97 : decode cX11_readMarks 97 = .ok (.if_icmp .ne 7, 3) := by decide +kernel
theorem dX11_readMarks_100 : decode cX11_readMarks 100 = .ok (.iconst 1, 1) := by decide +kernel
theorem dX11_readMarks_101 : decode cX11_readMarks 101 = .ok (.goto 4, 3) := by decide +kernel
theorem dX11_readMarks_104 : decode cX11_readMarks 104 = .ok (.iconst 0, 1) := by decide +kernel
theorem dX11_readMarks_105 : decode cX11_readMarks 105 = .ok (.invokevirtual 115, 3) := by decide +kernel
theorem dX11_readMarks_108 : decode cX11_readMarks 108 = .ok (.return_, 1) := by decide +kernel
theorem dX11_readDeed_0 : decode cX11_readDeed 0 = .ok (.bipush 34, 2) := by decide +kernel
theorem dX11_readDeed_2 : decode cX11_readDeed 2 = .ok (.iconst 5, 1) := by decide +kernel
theorem dX11_readDeed_3 : decode cX11_readDeed 3 = .ok (.aload_n 0, 1) := by decide +kernel
theorem dX11_readDeed_4 : decode cX11_readDeed 4 = .ok (.getfield 33, 3) := by decide +kernel
theorem dX11_readDeed_7 : decode cX11_readDeed 7 = .ok (.bipush 33, 2) := by decide +kernel
theorem dX11_readDeed_9 : decode cX11_readDeed 9 = .ok (.iaload, 1) := by decide +kernel
theorem dX11_readDeed_10 : decode cX11_readDeed 10 = .ok (.imul, 1) := by decide +kernel
theorem dX11_readDeed_11 : decode cX11_readDeed 11 = .ok (.iadd, 1) := by decide +kernel
theorem dX11_readDeed_12 : decode cX11_readDeed 12 = .ok (.istore_n 1, 1) := by decide +kernel
theorem dX11_readDeed_13 : decode cX11_readDeed 13 = .ok (.aload_n 0, 1) := by decide +kernel
theorem dX11_readDeed_14 : decode cX11_readDeed 14 = .ok (.getfield 33, 3) := by decide +kernel
theorem dX11_readDeed_17 : decode cX11_readDeed 17 = .ok (.iload_n 1, 1) := by decide +kernel
theorem dX11_readDeed_18 : decode cX11_readDeed 18 = .ok (.aload_n 0, 1) := by decide +kernel
theorem dX11_readDeed_19 : decode cX11_readDeed 19 = .ok (.getfield 103, 3) := by decide +kernel
theorem dX11_readDeed_22 : decode cX11_readDeed 22 = .ok (.iastore, 1) := by decide +kernel
theorem dX11_readDeed_23 : decode cX11_readDeed 23 = .ok (.aload_n 0, 1) := by decide +kernel
theorem dX11_readDeed_24 : decode cX11_readDeed 24 = .ok (.aload_n 0, 1) := by decide +kernel
theorem dX11_readDeed_25 : decode cX11_readDeed 25 = .ok (.getfield 106, 3) := by decide +kernel
theorem dX11_readDeed_28 : decode cX11_readDeed 28 = .ok (.iconst 1, 1) := by decide +kernel
theorem dX11_readDeed_29 : decode cX11_readDeed 29 = .ok (.if_icmp .ne 15, 3) := by decide +kernel
theorem dX11_readDeed_32 : decode cX11_readDeed 32 = .ok (.aload_n 0, 1) := by decide +kernel
theorem dX11_readDeed_33 : decode cX11_readDeed 33 = .ok (.getfield 103, 3) := by decide +kernel
theorem dX11_readDeed_36 : decode cX11_readDeed 36 = .ok (.iconst 5, 1) := by decide +kernel
theorem dX11_readDeed_37 : decode cX11_readDeed 37 = .ok (.if_icmp .ge 7, 3) := by decide +kernel
theorem dX11_readDeed_40 : decode cX11_readDeed 40 = .ok (.iconst 1, 1) := by decide +kernel
theorem dX11_readDeed_41 : decode cX11_readDeed 41 = .ok (.goto 4, 3) := by decide +kernel
theorem dX11_readDeed_44 : decode cX11_readDeed 44 = .ok (.iconst 0, 1) := by decide +kernel
theorem dX11_readDeed_45 : decode cX11_readDeed 45 = .ok (.invokevirtual 115, 3) := by decide +kernel
theorem dX11_readDeed_48 : decode cX11_readDeed 48 = .ok (.iconst 1, 1) := by decide +kernel
theorem dX11_readDeed_49 : decode cX11_readDeed 49 = .ok (.istore_n 2, 1) := by decide +kernel
theorem dX11_readDeed_50 : decode cX11_readDeed 50 = .ok (.iload_n 2, 1) := by decide +kernel
theorem dX11_readDeed_51 : decode cX11_readDeed 51 = .ok (.iconst 5, 1) := by decide +kernel
theorem dX11_readDeed_52 : decode cX11_readDeed 52 = .ok (.if_icmp .ge 88, 3) := by decide +kernel
theorem dX11_readDeed_55 : decode cX11_readDeed 55 = .ok (.aload_n 0, 1) := by decide +kernel
theorem dX11_readDeed_56 : decode cX11_readDeed 56 = .ok (.getfield 109, 3) := by decide +kernel
theorem dX11_readDeed_59 : decode cX11_readDeed 59 = .ok (.bipush (-9), 2) := by decide +kernel
theorem dX11_readDeed_61 : decode cX11_readDeed 61 = .ok (.if_icmp .ne 79, 3) := by decide +kernel
theorem dX11_readDeed_64 : decode cX11_readDeed 64 = .ok (.aload_n 0, 1) := by decide +kernel
theorem dX11_readDeed_65 : decode cX11_readDeed 65 = .ok (.getfield 33, 3) := by decide +kernel
theorem dX11_readDeed_68 : decode cX11_readDeed 68 = .ok (.iload_n 1, 1) := by decide +kernel
theorem dX11_readDeed_69 : decode cX11_readDeed 69 = .ok (.iload_n 2, 1) := by decide +kernel
theorem dX11_readDeed_70 : decode cX11_readDeed 70 = .ok (.iadd, 1) := by decide +kernel
theorem dX11_readDeed_71 : decode cX11_readDeed 71 = .ok (.aload_n 0, 1) := by decide +kernel
theorem dX11_readDeed_72 : decode cX11_readDeed 72 = .ok (.getfield 103, 3) := by decide +kernel
theorem dX11_readDeed_75 : decode cX11_readDeed 75 = .ok (.iastore, 1) := by decide +kernel
theorem dX11_readDeed_76 : decode cX11_readDeed 76 = .ok (.aload_n 0, 1) := by decide +kernel
theorem dX11_readDeed_77 : decode cX11_readDeed 77 = .ok (.aload_n 0, 1) := by decide +kernel
theorem dX11_readDeed_78 : decode cX11_readDeed 78 = .ok (.getfield 106, 3) := by decide +kernel
theorem dX11_readDeed_81 : decode cX11_readDeed 81 = .ok (.iconst 1, 1) := by decide +kernel
theorem dX11_readDeed_82 : decode cX11_readDeed 82 = .ok (.if_icmp .ne 48, 3) := by decide +kernel
theorem dX11_readDeed_85 : decode cX11_readDeed 85 = .ok (.aload_n 0, 1) := by decide +kernel
theorem dX11_readDeed_86 : decode cX11_readDeed 86 = .ok (.getfield 33, 3) := by decide +kernel
theorem dX11_readDeed_89 : decode cX11_readDeed 89 = .ok (.iload_n 1, 1) := by decide +kernel
theorem dX11_readDeed_90 : decode cX11_readDeed 90 = .ok (.iaload, 1) := by decide +kernel
theorem dX11_readDeed_91 : decode cX11_readDeed 91 = .ok (.iload_n 2, 1) := by decide +kernel
theorem dX11_readDeed_92 : decode cX11_readDeed 92 = .ok (.aload_n 0, 1) := by decide +kernel
theorem dX11_readDeed_93 : decode cX11_readDeed 93 = .ok (.getfield 103, 3) := by decide +kernel
theorem dX11_readDeed_96 : decode cX11_readDeed 96 = .ok (.aload_n 0, 1) := by decide +kernel
theorem dX11_readDeed_97 : decode cX11_readDeed 97 = .ok (.getfield 33, 3) := by decide +kernel
theorem dX11_readDeed_100 : decode cX11_readDeed 100 = .ok (.iload_n 1, 1) := by decide +kernel
theorem dX11_readDeed_101 : decode cX11_readDeed 101 = .ok (.iconst 1, 1) := by decide +kernel
theorem dX11_readDeed_102 : decode cX11_readDeed 102 = .ok (.iadd, 1) := by decide +kernel
theorem dX11_readDeed_103 : decode cX11_readDeed 103 = .ok (.iaload, 1) := by decide +kernel
theorem dX11_readDeed_104 : decode cX11_readDeed 104 = .ok (.aload_n 0, 1) := by decide +kernel
theorem dX11_readDeed_105 : decode cX11_readDeed 105 = .ok (.getfield 33, 3) := by decide +kernel
theorem dX11_readDeed_108 : decode cX11_readDeed 108 = .ok (.iload_n 1, 1) := by decide +kernel
theorem dX11_readDeed_109 : decode cX11_readDeed 109 = .ok (.iconst 2, 1) := by decide +kernel
theorem dX11_readDeed_110 : decode cX11_readDeed 110 = .ok (.iadd, 1) := by decide +kernel
theorem dX11_readDeed_111 : decode cX11_readDeed 111 = .ok (.iaload, 1) := by decide +kernel
theorem dX11_readDeed_112 : decode cX11_readDeed 112 = .ok (.aload_n 0, 1) := by decide +kernel
theorem dX11_readDeed_113 : decode cX11_readDeed 113 = .ok (.getfield 33, 3) := by decide +kernel
theorem dX11_readDeed_116 : decode cX11_readDeed 116 = .ok (.iload_n 1, 1) := by decide +kernel
theorem dX11_readDeed_117 : decode cX11_readDeed 117 = .ok (.iconst 3, 1) := by decide +kernel
theorem dX11_readDeed_118 : decode cX11_readDeed 118 = .ok (.iadd, 1) := by decide +kernel
theorem dX11_readDeed_119 : decode cX11_readDeed 119 = .ok (.iaload, 1) := by decide +kernel
theorem dX11_readDeed_120 : decode cX11_readDeed 120 = .ok (.invokestatic 86, 3) := by decide +kernel
theorem dX11_readDeed_123 : decode cX11_readDeed 123 = .ok (.ifCond .eq 7, 3) := by decide +kernel
theorem dX11_readDeed_126 : decode cX11_readDeed 126 = .ok (.iconst 1, 1) := by decide +kernel
theorem dX11_readDeed_127 : decode cX11_readDeed 127 = .ok (.goto 4, 3) := by decide +kernel
theorem dX11_readDeed_130 : decode cX11_readDeed 130 = .ok (.iconst 0, 1) := by decide +kernel
theorem dX11_readDeed_131 : decode cX11_readDeed 131 = .ok (.invokevirtual 115, 3) := by decide +kernel
theorem dX11_readDeed_134 : decode cX11_readDeed 134 = .ok (.iinc 2 1, 3) := by decide +kernel
theorem dX11_readDeed_137 : decode cX11_readDeed 137 = .ok (.goto (-87), 3) := by decide +kernel
theorem dX11_readDeed_140 : decode cX11_readDeed 140 = .ok (.aload_n 0, 1) := by decide +kernel
theorem dX11_readDeed_141 : decode cX11_readDeed 141 = .ok (.aload_n 0, 1) := by decide +kernel
theorem dX11_readDeed_142 : decode cX11_readDeed 142 = .ok (.getfield 106, 3) := by decide +kernel
theorem dX11_readDeed_145 : decode cX11_readDeed 145 = .ok (.bipush 59, 2) := by decide +kernel
theorem dX11_readDeed_147 : decode cX11_readDeed 147 = .ok (.if_icmp .ne 7, 3) := by decide +kernel
theorem dX11_readDeed_150 : decode cX11_readDeed 150 = .ok (.iconst 1, 1) := by decide +kernel
theorem dX11_readDeed_151 : decode cX11_readDeed 151 = .ok (.goto 4, 3) := by decide +kernel
theorem dX11_readDeed_154 : decode cX11_readDeed 154 = .ok (.iconst 0, 1) := by decide +kernel
theorem dX11_readDeed_155 : decode cX11_readDeed 155 = .ok (.invokevirtual 115, 3) := by decide +kernel
theorem dX11_readDeed_158 : decode cX11_readDeed 158 = .ok (.aload_n 0, 1) := by decide +kernel
theorem dX11_readDeed_159 : decode cX11_readDeed 159 = .ok (.getfield 33, 3) := by decide +kernel
theorem dX11_readDeed_162 : decode cX11_readDeed 162 = .ok (.bipush 33, 2) := by decide +kernel
theorem dX11_readDeed_164 : decode cX11_readDeed 164 = .ok (.dup2, 1) := by decide +kernel
theorem dX11_readDeed_165 : decode cX11_readDeed 165 = .ok (.iaload, 1) := by decide +kernel
theorem dX11_readDeed_166 : decode cX11_readDeed 166 = .ok (.iconst 1, 1) := by decide +kernel
theorem dX11_readDeed_167 : decode cX11_readDeed 167 = .ok (.iadd, 1) := by decide +kernel
theorem dX11_readDeed_168 : decode cX11_readDeed 168 = .ok (.iastore, 1) := by decide +kernel
theorem dX11_readDeed_169 : decode cX11_readDeed 169 = .ok (.return_, 1) := by decide +kernel
theorem dX11_readItem_0 : decode cX11_readItem 0 = .ok (.aload_n 0, 1) := by decide +kernel
theorem dX11_readItem_1 : decode cX11_readItem 1 = .ok (.getfield 106, 3) := by decide +kernel
theorem dX11_readItem_4 : decode cX11_readItem 4 = .ok (.istore_n 1, 1) := by decide +kernel
theorem dX11_readItem_5 : decode cX11_readItem 5 = .ok (.iload_n 1, 1) := by decide +kernel
theorem dX11_readItem_6 : decode cX11_readItem 6 = .ok (.bipush 120, 2) := by decide +kernel
theorem dX11_readItem_8 : decode cX11_readItem 8 = .ok (.if_icmp .eq 40, 3) := by decide +kernel
theorem dX11_readItem_11 : decode cX11_readItem 11 = .ok (.iload_n 1, 1) := by decide +kernel
theorem dX11_readItem_12 : decode cX11_readItem 12 = .ok (.bipush 121, 2) := by decide +kernel
theorem dX11_readItem_14 : decode cX11_readItem 14 = .ok (.if_icmp .eq 34, 3) := by decide +kernel
theorem dX11_readItem_17 : decode cX11_readItem 17 = .ok (.iload_n 1, 1) := by decide +kernel
theorem dX11_readItem_18 : decode cX11_readItem 18 = .ok (.bipush 109, 2) := by decide +kernel
theorem dX11_readItem_20 : decode cX11_readItem 20 = .ok (.if_icmp .ne 10, 3) := by decide +kernel
theorem dX11_readItem_23 : decode cX11_readItem 23 = .ok (.aload_n 0, 1) := by decide +kernel
theorem dX11_readItem_24 : decode cX11_readItem 24 = .ok (.getfield 119, 3) := by decide +kernel
theorem dX11_readItem_27 : decode cX11_readItem 27 = .ok (.ifCond .eq 21, 3) := by decide +kernel
theorem dX11_readItem_30 : decode cX11_readItem 30 = .ok (.iload_n 1, 1) := by decide +kernel
theorem dX11_readItem_31 : decode cX11_readItem 31 = .ok (.bipush 100, 2) := by decide +kernel
theorem dX11_readItem_33 : decode cX11_readItem 33 = .ok (.if_icmp .ne 19, 3) := by decide +kernel
theorem dX11_readItem_36 : decode cX11_readItem 36 = .ok (.aload_n 0, 1) := by decide +kernel
theorem dX11_readItem_37 : decode cX11_readItem 37 = .ok (.getfield 33, 3) := by decide +kernel
theorem dX11_readItem_40 : decode cX11_readItem 40 = .ok (.bipush 33, 2) := by decide +kernel
theorem dX11_readItem_42 : decode cX11_readItem 42 = .ok (.iaload, 1) := by decide +kernel
theorem dX11_readItem_43 : decode cX11_readItem 43 = .ok (.bipush 6, 2) := by decide +kernel
theorem dX11_readItem_45 : decode cX11_readItem 45 = .ok (.if_icmp .ge 7, 3) := by decide +kernel
theorem dX11_readItem_48 : decode cX11_readItem 48 = .ok (.iconst 1, 1) := by decide +kernel
theorem dX11_readItem_49 : decode cX11_readItem 49 = .ok (.goto 4, 3) := by decide +kernel
theorem dX11_readItem_52 : decode cX11_readItem 52 = .ok (.iconst 0, 1) := by decide +kernel
theorem dX11_readItem_53 : decode cX11_readItem 53 = .ok (.istore_n 2, 1) := by decide +kernel
theorem dX11_readItem_54 : decode cX11_readItem 54 = .ok (.aload_n 0, 1) := by decide +kernel
theorem dX11_readItem_55 : decode cX11_readItem 55 = .ok (.iload_n 2, 1) := by decide +kernel
theorem dX11_readItem_56 : decode cX11_readItem 56 = .ok (.invokevirtual 115, 3) := by decide +kernel
theorem dX11_readItem_59 : decode cX11_readItem 59 = .ok (.iload_n 2, 1) := by decide +kernel
theorem dX11_readItem_60 : decode cX11_readItem 60 = .ok (.ifCond .ne 4, 3) := by decide +kernel
theorem dX11_readItem_63 : decode cX11_readItem 63 = .ok (.return_, 1) := by decide +kernel
theorem dX11_readItem_64 : decode cX11_readItem 64 = .ok (.iload_n 1, 1) := by decide +kernel
theorem dX11_readItem_65 : decode cX11_readItem 65 = .ok (.bipush 109, 2) := by decide +kernel
theorem dX11_readItem_67 : decode cX11_readItem 67 = .ok (.if_icmp .ne 10, 3) := by decide +kernel
theorem dX11_readItem_70 : decode cX11_readItem 70 = .ok (.aload_n 0, 1) := by decide +kernel
theorem dX11_readItem_71 : decode cX11_readItem 71 = .ok (.invokevirtual 127, 3) := by decide +kernel
theorem dX11_readItem_74 : decode cX11_readItem 74 = .ok (.goto 24, 3) := by decide +kernel
theorem dX11_readItem_77 : decode cX11_readItem 77 = .ok (.iload_n 1, 1) := by decide +kernel
theorem dX11_readItem_78 : decode cX11_readItem 78 = .ok (.bipush 100, 2) := by decide +kernel
theorem dX11_readItem_80 : decode cX11_readItem 80 = .ok (.if_icmp .ne 10, 3) := by decide +kernel
theorem dX11_readItem_83 : decode cX11_readItem 83 = .ok (.aload_n 0, 1) := by decide +kernel
theorem dX11_readItem_84 : decode cX11_readItem 84 = .ok (.invokevirtual 130, 3) := by decide +kernel
theorem dX11_readItem_87 : decode cX11_readItem 87 = .ok (.goto 11, 3) := by decide +kernel
theorem dX11_readItem_90 : decode cX11_readItem 90 = .ok (.aload_n 0, 1) := by decide +kernel
theorem dX11_readItem_91 : decode cX11_readItem 91 = .ok (.iload_n 1, 1) := by decide +kernel
theorem dX11_readItem_92 : decode cX11_readItem 92 = .ok (.bipush 120, 2) := by decide +kernel
theorem dX11_readItem_94 : decode cX11_readItem 94 = .ok (.isub, 1) := by decide +kernel
theorem dX11_readItem_95 : decode cX11_readItem 95 = .ok (.invokevirtual 133, 3) := by decide +kernel
theorem dX11_readItem_98 : decode cX11_readItem 98 = .ok (.return_, 1) := by decide +kernel
theorem dX11_block_0 : decode cX11_block 0 = .ok (.iconst 0, 1) := by decide +kernel
theorem dX11_block_1 : decode cX11_block 1 = .ok (.istore_n 1, 1) := by decide +kernel
theorem dX11_block_2 : decode cX11_block 2 = .ok (.iload_n 1, 1) := by decide +kernel
theorem dX11_block_3 : decode cX11_block 3 = .ok (.bipush 86, 2) := by decide +kernel
theorem dX11_block_5 : decode cX11_block 5 = .ok (.if_icmp .ge 31, 3) := by decide +kernel
theorem dX11_block_8 : decode cX11_block 8 = .ok (.aload_n 0, 1) := by decide +kernel
theorem dX11_block_9 : decode cX11_block 9 = .ok (.getfield 33, 3) := by decide +kernel
theorem dX11_block_12 : decode cX11_block 12 = .ok (.iload_n 1, 1) := by decide +kernel
theorem dX11_block_13 : decode cX11_block 13 = .ok (.iload_n 1, 1) := by decide +kernel
theorem dX11_block_14 : decode cX11_block 14 = .ok (.bipush 32, 2) := by decide +kernel
theorem dX11_block_16 : decode cX11_block 16 = .ok (.if_icmp .ge 7, 3) := by decide +kernel
theorem dX11_block_19 : decode cX11_block 19 = .ok (.iconst 0, 1) := by decide +kernel
theorem dX11_block_20 : decode cX11_block 20 = .ok (.goto 9, 3) := by decide +kernel
theorem dX11_block_23 : decode cX11_block 23 = .ok (.aload_n 0, 1) := by decide +kernel
theorem dX11_block_24 : decode cX11_block 24 = .ok (.getfield 7, 3) := by decide +kernel
theorem dX11_block_27 : decode cX11_block 27 = .ok (.iload_n 1, 1) := by decide +kernel
theorem dX11_block_28 : decode cX11_block 28 = .ok (.iaload, 1) := by decide +kernel
theorem dX11_block_29 : decode cX11_block 29 = .ok (.iastore, 1) := by decide +kernel
theorem dX11_block_30 : decode cX11_block 30 = .ok (.iinc 1 1, 3) := by decide +kernel
theorem dX11_block_33 : decode cX11_block 33 = .ok (.goto (-31), 3) := by decide +kernel
theorem dX11_block_36 : decode cX11_block 36 = .ok (.aload_n 0, 1) := by decide +kernel
theorem dX11_block_37 : decode cX11_block 37 = .ok (.getfield 33, 3) := by decide +kernel
theorem dX11_block_40 : decode cX11_block 40 = .ok (.bipush 32, 2) := by decide +kernel
theorem dX11_block_42 : decode cX11_block 42 = .ok (.sipush 4369, 3) := by decide +kernel
theorem dX11_block_45 : decode cX11_block 45 = .ok (.iastore, 1) := by decide +kernel
theorem dX11_block_46 : decode cX11_block 46 = .ok (.aload_n 0, 1) := by decide +kernel
theorem dX11_block_47 : decode cX11_block 47 = .ok (.getfield 33, 3) := by decide +kernel
theorem dX11_block_50 : decode cX11_block 50 = .ok (.bipush 33, 2) := by decide +kernel
theorem dX11_block_52 : decode cX11_block 52 = .ok (.iconst 0, 1) := by decide +kernel
theorem dX11_block_53 : decode cX11_block 53 = .ok (.iastore, 1) := by decide +kernel
theorem dX11_block_54 : decode cX11_block 54 = .ok (.aload_n 0, 1) := by decide +kernel
theorem dX11_block_55 : decode cX11_block 55 = .ok (.iconst 0, 1) := by decide +kernel
theorem dX11_block_56 : decode cX11_block 56 = .ok (.putfield 119, 3) := by decide +kernel
theorem dX11_block_59 : decode cX11_block 59 = .ok (.aload_n 0, 1) := by decide +kernel
theorem dX11_block_60 : decode cX11_block 60 = .ok (.iconst 0, 1) := by decide +kernel
theorem dX11_block_61 : decode cX11_block 61 = .ok (.putfield 97, 3) := by decide +kernel
theorem dX11_block_64 : decode cX11_block 64 = .ok (.aload_n 0, 1) := by decide +kernel
theorem dX11_block_65 : decode cX11_block 65 = .ok (.bipush (-9), 2) := by decide +kernel
theorem dX11_block_67 : decode cX11_block 67 = .ok (.putfield 109, 3) := by decide +kernel
theorem dX11_block_70 : decode cX11_block 70 = .ok (.iconst 0, 1) := by decide +kernel
theorem dX11_block_71 : decode cX11_block 71 = .ok (.istore_n 1, 1) := by decide +kernel
theorem dX11_block_72 : decode cX11_block 72 = .ok (.aload_n 0, 1) := by decide +kernel
theorem dX11_block_73 : decode cX11_block 73 = .ok (.invokevirtual 112, 3) := by decide +kernel
theorem dX11_block_76 : decode cX11_block 76 = .ok (.aload_n 0, 1) := by decide +kernel
theorem dX11_block_77 : decode cX11_block 77 = .ok (.getfield 109, 3) := by decide +kernel
theorem dX11_block_80 : decode cX11_block 80 = .ok (.bipush (-9), 2) := by decide +kernel
theorem dX11_block_82 : decode cX11_block 82 = .ok (.if_icmp .ne 20, 3) := by decide +kernel
theorem dX11_block_85 : decode cX11_block 85 = .ok (.aload_n 0, 1) := by decide +kernel
theorem dX11_block_86 : decode cX11_block 86 = .ok (.getfield 106, 3) := by decide +kernel
theorem dX11_block_89 : decode cX11_block 89 = .ok (.ifCond .eq 13, 3) := by decide +kernel
theorem dX11_block_92 : decode cX11_block 92 = .ok (.aload_n 0, 1) := by decide +kernel
theorem dX11_block_93 : decode cX11_block 93 = .ok (.invokevirtual 137, 3) := by decide +kernel
theorem dX11_block_96 : decode cX11_block 96 = .ok (.iinc 1 1, 3) := by decide +kernel
theorem dX11_block_99 : decode cX11_block 99 = .ok (.goto (-23), 3) := by decide +kernel
theorem dX11_block_102 : decode cX11_block 102 = .ok (.aload_n 0, 1) := by decide +kernel
theorem dX11_block_103 : decode cX11_block 103 = .ok (.getfield 109, 3) := by decide +kernel
theorem dX11_block_106 : decode cX11_block 106 = .ok (.bipush (-9), 2) := by decide +kernel
theorem dX11_block_108 : decode cX11_block 108 = .ok (.if_icmp .eq 11, 3) := by decide +kernel
theorem dX11_block_111 : decode cX11_block 111 = .ok (.bipush (-10), 2) := by decide +kernel
theorem dX11_block_113 : decode cX11_block 113 = .ok (.aload_n 0, 1) := by decide +kernel
theorem dX11_block_114 : decode cX11_block 114 = .ok (.getfield 109, 3) := by decide +kernel
theorem dX11_block_117 : decode cX11_block 117 = .ok (.isub, 1) := by decide +kernel
theorem dX11_block_118 : decode cX11_block 118 = .ok (.ireturn, 1) := by decide +kernel
theorem dX11_block_119 : decode cX11_block 119 = .ok (.aload_n 0, 1) := by decide +kernel
theorem dX11_block_120 : decode cX11_block 120 = .ok (.invokevirtual 140, 3) := by decide +kernel
theorem dX11_block_123 : decode cX11_block 123 = .ok (.iconst 0, 1) := by decide +kernel
theorem dX11_block_124 : decode cX11_block 124 = .ok (.istore_n 2, 1) := by decide +kernel
theorem dX11_block_125 : decode cX11_block 125 = .ok (.iload_n 2, 1) := by decide +kernel
theorem dX11_block_126 : decode cX11_block 126 = .ok (.bipush 86, 2) := by decide +kernel
theorem dX11_block_128 : decode cX11_block 128 = .ok (.if_icmp .ge 21, 3) := by decide +kernel
theorem dX11_block_131 : decode cX11_block 131 = .ok (.aload_n 0, 1) := by decide +kernel
theorem dX11_block_132 : decode cX11_block 132 = .ok (.getfield 7, 3) := by decide +kernel
theorem dX11_block_135 : decode cX11_block 135 = .ok (.iload_n 2, 1) := by decide +kernel
theorem dX11_block_136 : decode cX11_block 136 = .ok (.aload_n 0, 1) := by decide +kernel
theorem dX11_block_137 : decode cX11_block 137 = .ok (.getfield 33, 3) := by decide +kernel
theorem dX11_block_140 : decode cX11_block 140 = .ok (.iload_n 2, 1) := by decide +kernel
theorem dX11_block_141 : decode cX11_block 141 = .ok (.iaload, 1) := by decide +kernel
theorem dX11_block_142 : decode cX11_block 142 = .ok (.iastore, 1) := by decide +kernel
theorem dX11_block_143 : decode cX11_block 143 = .ok (.iinc 2 1, 3) := by decide +kernel
theorem dX11_block_146 : decode cX11_block 146 = .ok (.goto (-21), 3) := by decide +kernel
theorem dX11_block_149 : decode cX11_block 149 = .ok (.aload_n 0, 1) := by decide +kernel
theorem dX11_block_150 : decode cX11_block 150 = .ok (.iconst 0, 1) := by decide +kernel
theorem dX11_block_151 : decode cX11_block 151 = .ok (.putfield 94, 3) := by decide +kernel
theorem dX11_block_154 : decode cX11_block 154 = .ok (.aload_n 0, 1) := by decide +kernel
theorem dX11_block_155 : decode cX11_block 155 = .ok (.iconst 0, 1) := by decide +kernel
theorem dX11_block_156 : decode cX11_block 156 = .ok (.putfield 143, 3) := by decide +kernel
theorem dX11_block_159 : decode cX11_block 159 = .ok (.iload_n 1, 1) := by decide +kernel
theorem dX11_block_160 : decode cX11_block 160 = .ok (.ireturn, 1) := by decide +kernel
theorem dX11_sends_0 : decode cX11_sends 0 = .ok (.iload_n 1, 1) := by decide +kernel
theorem dX11_sends_1 : decode cX11_sends 1 = .ok (.iconst 0, 1) := by decide +kernel
theorem dX11_sends_2 : decode cX11_sends 2 = .ok (.iconst 1, 1) := by decide +kernel
theorem dX11_sends_3 : decode cX11_sends 3 = .ok (.invokestatic 82, 3) := by decide +kernel
theorem dX11_sends_6 : decode cX11_sends 6 = .ok (.ifCond .eq 22, 3) := by decide +kernel
theorem dX11_sends_9 : decode cX11_sends 9 = .ok (.iload_n 2, 1) := by decide +kernel
theorem dX11_sends_10 : decode cX11_sends 10 = .ok (.iconst 0, 1) := by decide +kernel
theorem dX11_sends_11 : decode cX11_sends 11 = .ok (.bipush 15, 2) := by decide +kernel
theorem dX11_sends_13 : decode cX11_sends 13 = .ok (.invokestatic 82, 3) := by decide +kernel
theorem dX11_sends_16 : decode cX11_sends 16 = .ok (.ifCond .eq 12, 3) := by decide +kernel
theorem dX11_sends_19 : decode cX11_sends 19 = .ok (.iload_n 3, 1) := by decide +kernel
theorem dX11_sends_20 : decode cX11_sends 20 = .ok (.iconst 0, 1) := by decide +kernel
theorem dX11_sends_21 : decode cX11_sends 21 = .ok (.iconst 3, 1) := by decide +kernel
theorem dX11_sends_22 : decode cX11_sends 22 = .ok (.invokestatic 82, 3) := by decide +kernel
theorem dX11_sends_25 : decode cX11_sends 25 = .ok (.ifCond .ne 5, 3) := by decide +kernel
theorem dX11_sends_28 : decode cX11_sends 28 = .ok (.iconst (-1), 1) := by decide +kernel
theorem dX11_sends_29 : decode cX11_sends 29 = .ok (.ireturn, 1) := by decide +kernel
theorem dX11_sends_30 : decode cX11_sends 30 = .ok (.aload_n 0, 1) := by decide +kernel
theorem dX11_sends_31 : decode cX11_sends 31 = .ok (.getfield 7, 3) := by decide +kernel
theorem dX11_sends_34 : decode cX11_sends 34 = .ok (.bipush 16, 2) := by decide +kernel
theorem dX11_sends_36 : decode cX11_sends 36 = .ok (.iload_n 1, 1) := by decide +kernel
theorem dX11_sends_37 : decode cX11_sends 37 = .ok (.imul, 1) := by decide +kernel
theorem dX11_sends_38 : decode cX11_sends 38 = .ok (.iload_n 2, 1) := by decide +kernel
theorem dX11_sends_39 : decode cX11_sends 39 = .ok (.iadd, 1) := by decide +kernel
theorem dX11_sends_40 : decode cX11_sends 40 = .ok (.iaload, 1) := by decide +kernel
theorem dX11_sends_41 : decode cX11_sends 41 = .ok (.istore 4, 2) := by decide +kernel
theorem dX11_sends_43 : decode cX11_sends 43 = .ok (.iload 4, 2) := by decide +kernel
theorem dX11_sends_45 : decode cX11_sends 45 = .ok (.iload_n 3, 1) := by decide +kernel
theorem dX11_sends_46 : decode cX11_sends 46 = .ok (.if_icmp .ne 6, 3) := by decide +kernel
theorem dX11_sends_49 : decode cX11_sends 49 = .ok (.bipush (-2), 2) := by decide +kernel
theorem dX11_sends_51 : decode cX11_sends 51 = .ok (.ireturn, 1) := by decide +kernel
theorem dX11_sends_52 : decode cX11_sends 52 = .ok (.aload_n 0, 1) := by decide +kernel
theorem dX11_sends_53 : decode cX11_sends 53 = .ok (.invokevirtual 140, 3) := by decide +kernel
theorem dX11_sends_56 : decode cX11_sends 56 = .ok (.aload_n 0, 1) := by decide +kernel
theorem dX11_sends_57 : decode cX11_sends 57 = .ok (.getfield 7, 3) := by decide +kernel
theorem dX11_sends_60 : decode cX11_sends 60 = .ok (.bipush 16, 2) := by decide +kernel
theorem dX11_sends_62 : decode cX11_sends 62 = .ok (.iload_n 1, 1) := by decide +kernel
theorem dX11_sends_63 : decode cX11_sends 63 = .ok (.imul, 1) := by decide +kernel
theorem dX11_sends_64 : decode cX11_sends 64 = .ok (.iload_n 2, 1) := by decide +kernel
theorem dX11_sends_65 : decode cX11_sends 65 = .ok (.iadd, 1) := by decide +kernel
theorem dX11_sends_66 : decode cX11_sends 66 = .ok (.iload_n 3, 1) := by decide +kernel
theorem dX11_sends_67 : decode cX11_sends 67 = .ok (.iastore, 1) := by decide +kernel
theorem dX11_sends_68 : decode cX11_sends 68 = .ok (.iload 4, 2) := by decide +kernel
theorem dX11_sends_70 : decode cX11_sends 70 = .ok (.ireturn, 1) := by decide +kernel
theorem dX11_marksMany_0 : decode cX11_marksMany 0 = .ok (.iconst 0, 1) := by decide +kernel
theorem dX11_marksMany_1 : decode cX11_marksMany 1 = .ok (.istore_n 1, 1) := by decide +kernel
theorem dX11_marksMany_2 : decode cX11_marksMany 2 = .ok (.iconst 0, 1) := by decide +kernel
theorem dX11_marksMany_3 : decode cX11_marksMany 3 = .ok (.istore_n 2, 1) := by decide +kernel
theorem dX11_marksMany_4 : decode cX11_marksMany 4 = .ok (.iload_n 2, 1) := by decide +kernel
theorem dX11_marksMany_5 : decode cX11_marksMany 5 = .ok (.bipush 16, 2) := by decide +kernel
theorem dX11_marksMany_7 : decode cX11_marksMany 7 = .ok (.if_icmp .ge 23, 3) := by decide +kernel
theorem dX11_marksMany_10 : decode cX11_marksMany 10 = .ok (.iload_n 1, 1) := by decide +kernel
theorem dX11_marksMany_11 : decode cX11_marksMany 11 = .ok (.aload_n 0, 1) := by decide +kernel
theorem dX11_marksMany_12 : decode cX11_marksMany 12 = .ok (.getfield 7, 3) := by decide +kernel
theorem dX11_marksMany_15 : decode cX11_marksMany 15 = .ok (.bipush 32, 2) := by decide +kernel
theorem dX11_marksMany_17 : decode cX11_marksMany 17 = .ok (.iaload, 1) := by decide +kernel
theorem dX11_marksMany_18 : decode cX11_marksMany 18 = .ok (.iload_n 2, 1) := by decide +kernel
theorem dX11_marksMany_19 : decode cX11_marksMany 19 = .ok (.ishr, 1) := by decide +kernel
theorem dX11_marksMany_20 : decode cX11_marksMany 20 = .ok (.iconst 1, 1) := by decide +kernel
theorem dX11_marksMany_21 : decode cX11_marksMany 21 = .ok (.iand, 1) := by decide +kernel
theorem dX11_marksMany_22 : decode cX11_marksMany 22 = .ok (.iadd, 1) := by decide +kernel
theorem dX11_marksMany_23 : decode cX11_marksMany 23 = .ok (.istore_n 1, 1) := by decide +kernel
theorem dX11_marksMany_24 : decode cX11_marksMany 24 = .ok (.iinc 2 1, 3) := by decide +kernel
theorem dX11_marksMany_27 : decode cX11_marksMany 27 = .ok (.goto (-23), 3) := by decide +kernel
theorem dX11_marksMany_30 : decode cX11_marksMany 30 = .ok (.iload_n 1, 1) := by decide +kernel
theorem dX11_marksMany_31 : decode cX11_marksMany 31 = .ok (.ireturn, 1) := by decide +kernel
theorem dX11_marks_0 : decode cX11_marks 0 = .ok (.iload_n 1, 1) := by decide +kernel
theorem dX11_marks_1 : decode cX11_marks 1 = .ok (.iconst 0, 1) := by decide +kernel
theorem dX11_marks_2 : decode cX11_marks 2 = .ok (.bipush 15, 2) := by decide +kernel
theorem dX11_marks_4 : decode cX11_marks 4 = .ok (.invokestatic 82, 3) := by decide +kernel
theorem dX11_marks_7 : decode cX11_marks 7 = .ok (.ifCond .eq 12, 3) := by decide +kernel
theorem dX11_marks_10 : decode cX11_marks 10 = .ok (.iload_n 2, 1) := by decide +kernel
theorem dX11_marks_11 : decode cX11_marks 11 = .ok (.iconst 0, 1) := by decide +kernel
theorem dX11_marks_12 : decode cX11_marks 12 = .ok (.iconst 1, 1) := by decide +kernel
theorem dX11_marks_13 : decode cX11_marks 13 = .ok (.invokestatic 82, 3) := by decide +kernel
theorem dX11_marks_16 : decode cX11_marks 16 = .ok (.ifCond .ne 5, 3) := by decide +kernel
theorem dX11_marks_19 : decode cX11_marks 19 = .ok (.iconst (-1), 1) := by decide +kernel
theorem dX11_marks_20 : decode cX11_marks 20 = .ok (.ireturn, 1) := by decide +kernel
theorem dX11_marks_21 : decode cX11_marks 21 = .ok (.aload_n 0, 1) := by decide +kernel
theorem dX11_marks_22 : decode cX11_marks 22 = .ok (.getfield 7, 3) := by decide +kernel
theorem dX11_marks_25 : decode cX11_marks 25 = .ok (.bipush 32, 2) := by decide +kernel
theorem dX11_marks_27 : decode cX11_marks 27 = .ok (.iaload, 1) := by decide +kernel
theorem dX11_marks_28 : decode cX11_marks 28 = .ok (.iload_n 1, 1) := by decide +kernel
theorem dX11_marks_29 : decode cX11_marks 29 = .ok (.ishr, 1) := by decide +kernel
theorem dX11_marks_30 : decode cX11_marks 30 = .ok (.iconst 1, 1) := by decide +kernel
theorem dX11_marks_31 : decode cX11_marks 31 = .ok (.iand, 1) := by decide +kernel
theorem dX11_marks_32 : decode cX11_marks 32 = .ok (.iload_n 2, 1) := by decide +kernel
theorem dX11_marks_33 : decode cX11_marks 33 = .ok (.if_icmp .ne 6, 3) := by decide +kernel
theorem dX11_marks_36 : decode cX11_marks 36 = .ok (.bipush (-2), 2) := by decide +kernel
theorem dX11_marks_38 : decode cX11_marks 38 = .ok (.ireturn, 1) := by decide +kernel
theorem dX11_marks_39 : decode cX11_marks 39 = .ok (.aload_n 0, 1) := by decide +kernel
theorem dX11_marks_40 : decode cX11_marks 40 = .ok (.invokevirtual 140, 3) := by decide +kernel
theorem dX11_marks_43 : decode cX11_marks 43 = .ok (.aload_n 0, 1) := by decide +kernel
theorem dX11_marks_44 : decode cX11_marks 44 = .ok (.getfield 7, 3) := by decide +kernel
theorem dX11_marks_47 : decode cX11_marks 47 = .ok (.bipush 32, 2) := by decide +kernel
theorem dX11_marks_49 : decode cX11_marks 49 = .ok (.dup2, 1) := by decide +kernel
theorem dX11_marks_50 : decode cX11_marks 50 = .ok (.iaload, 1) := by decide +kernel
theorem dX11_marks_51 : decode cX11_marks 51 = .ok (.iconst 1, 1) := by decide +kernel
theorem dX11_marks_52 : decode cX11_marks 52 = .ok (.iload_n 1, 1) := by decide +kernel
theorem dX11_marks_53 : decode cX11_marks 53 = .ok (.ishl, 1) := by decide +kernel
theorem dX11_marks_54 : decode cX11_marks 54 = .ok (.ixor, 1) := by decide +kernel
theorem dX11_marks_55 : decode cX11_marks 55 = .ok (.iastore, 1) := by decide +kernel
theorem dX11_marks_56 : decode cX11_marks 56 = .ok (.aload_n 0, 1) := by decide +kernel
theorem dX11_marks_57 : decode cX11_marks 57 = .ok (.invokevirtual 146, 3) := by decide +kernel
theorem dX11_marks_60 : decode cX11_marks 60 = .ok (.ireturn, 1) := by decide +kernel
theorem dX11_lay_0 : decode cX11_lay 0 = .ok (.aload_n 0, 1) := by decide +kernel
theorem dX11_lay_1 : decode cX11_lay 1 = .ok (.getfield 7, 3) := by decide +kernel
theorem dX11_lay_4 : decode cX11_lay 4 = .ok (.iload_n 1, 1) := by decide +kernel
theorem dX11_lay_5 : decode cX11_lay 5 = .ok (.iload_n 2, 1) := by decide +kernel
theorem dX11_lay_6 : decode cX11_lay 6 = .ok (.iastore, 1) := by decide +kernel
theorem dX11_lay_7 : decode cX11_lay 7 = .ok (.aload_n 0, 1) := by decide +kernel
theorem dX11_lay_8 : decode cX11_lay 8 = .ok (.getfield 7, 3) := by decide +kernel
theorem dX11_lay_11 : decode cX11_lay 11 = .ok (.iload_n 1, 1) := by decide +kernel
theorem dX11_lay_12 : decode cX11_lay 12 = .ok (.iconst 1, 1) := by decide +kernel
theorem dX11_lay_13 : decode cX11_lay 13 = .ok (.iadd, 1) := by decide +kernel
theorem dX11_lay_14 : decode cX11_lay 14 = .ok (.iload_n 3, 1) := by decide +kernel
theorem dX11_lay_15 : decode cX11_lay 15 = .ok (.iastore, 1) := by decide +kernel
theorem dX11_lay_16 : decode cX11_lay 16 = .ok (.aload_n 0, 1) := by decide +kernel
theorem dX11_lay_17 : decode cX11_lay 17 = .ok (.getfield 7, 3) := by decide +kernel
theorem dX11_lay_20 : decode cX11_lay 20 = .ok (.iload_n 1, 1) := by decide +kernel
theorem dX11_lay_21 : decode cX11_lay 21 = .ok (.iconst 2, 1) := by decide +kernel
theorem dX11_lay_22 : decode cX11_lay 22 = .ok (.iadd, 1) := by decide +kernel
theorem dX11_lay_23 : decode cX11_lay 23 = .ok (.iload 4, 2) := by decide +kernel
theorem dX11_lay_25 : decode cX11_lay 25 = .ok (.iastore, 1) := by decide +kernel
theorem dX11_lay_26 : decode cX11_lay 26 = .ok (.aload_n 0, 1) := by decide +kernel
theorem dX11_lay_27 : decode cX11_lay 27 = .ok (.getfield 7, 3) := by decide +kernel
theorem dX11_lay_30 : decode cX11_lay 30 = .ok (.iload_n 1, 1) := by decide +kernel
theorem dX11_lay_31 : decode cX11_lay 31 = .ok (.iconst 3, 1) := by decide +kernel
theorem dX11_lay_32 : decode cX11_lay 32 = .ok (.iadd, 1) := by decide +kernel
theorem dX11_lay_33 : decode cX11_lay 33 = .ok (.iload 5, 2) := by decide +kernel
theorem dX11_lay_35 : decode cX11_lay 35 = .ok (.iastore, 1) := by decide +kernel
theorem dX11_lay_36 : decode cX11_lay 36 = .ok (.aload_n 0, 1) := by decide +kernel
theorem dX11_lay_37 : decode cX11_lay 37 = .ok (.getfield 7, 3) := by decide +kernel
theorem dX11_lay_40 : decode cX11_lay 40 = .ok (.iload_n 1, 1) := by decide +kernel
theorem dX11_lay_41 : decode cX11_lay 41 = .ok (.iconst 4, 1) := by decide +kernel
theorem dX11_lay_42 : decode cX11_lay 42 = .ok (.iadd, 1) := by decide +kernel
theorem dX11_lay_43 : decode cX11_lay 43 = .ok (.iload 6, 2) := by decide +kernel
theorem dX11_lay_45 : decode cX11_lay 45 = .ok (.iastore, 1) := by decide +kernel
theorem dX11_lay_46 : decode cX11_lay 46 = .ok (.return_, 1) := by decide +kernel
theorem dX11_adds_0 : decode cX11_adds 0 = .ok (.iload_n 1, 1) := by decide +kernel
theorem dX11_adds_1 : decode cX11_adds 1 = .ok (.iload_n 2, 1) := by decide +kernel
theorem dX11_adds_2 : decode cX11_adds 2 = .ok (.iload_n 3, 1) := by decide +kernel
theorem dX11_adds_3 : decode cX11_adds 3 = .ok (.iload 4, 2) := by decide +kernel
theorem dX11_adds_5 : decode cX11_adds 5 = .ok (.iload 5, 2) := by decide +kernel
theorem dX11_adds_7 : decode cX11_adds 7 = .ok (.invokestatic 90, 3) := by decide +kernel
theorem dX11_adds_10 : decode cX11_adds 10 = .ok (.ifCond .ne 5, 3) := by decide +kernel
theorem dX11_adds_13 : decode cX11_adds 13 = .ok (.iconst (-1), 1) := by decide +kernel
theorem dX11_adds_14 : decode cX11_adds 14 = .ok (.ireturn, 1) := by decide +kernel
theorem dX11_adds_15 : decode cX11_adds 15 = .ok (.aload_n 0, 1) := by decide +kernel
theorem dX11_adds_16 : decode cX11_adds 16 = .ok (.getfield 7, 3) := by decide +kernel
theorem dX11_adds_19 : decode cX11_adds 19 = .ok (.bipush 33, 2) := by decide +kernel
theorem dX11_adds_21 : decode cX11_adds 21 = .ok (.iaload, 1) := by decide +kernel
theorem dX11_adds_22 : decode cX11_adds 22 = .ok (.bipush 6, 2) := by decide +kernel
theorem dX11_adds_24 : decode cX11_adds 24 = .ok (.if_icmp .ne 6, 3) := by decide +kernel
theorem dX11_adds_27 : decode cX11_adds 27 = .ok (.bipush (-3), 2) := by decide +kernel
theorem dX11_adds_29 : decode cX11_adds 29 = .ok (.ireturn, 1) := by decide +kernel
theorem dX11_adds_30 : decode cX11_adds 30 = .ok (.aload_n 0, 1) := by decide +kernel
theorem dX11_adds_31 : decode cX11_adds 31 = .ok (.invokevirtual 140, 3) := by decide +kernel
theorem dX11_adds_34 : decode cX11_adds 34 = .ok (.aload_n 0, 1) := by decide +kernel
theorem dX11_adds_35 : decode cX11_adds 35 = .ok (.bipush 34, 2) := by decide +kernel
theorem dX11_adds_37 : decode cX11_adds 37 = .ok (.iconst 5, 1) := by decide +kernel
theorem dX11_adds_38 : decode cX11_adds 38 = .ok (.aload_n 0, 1) := by decide +kernel
theorem dX11_adds_39 : decode cX11_adds 39 = .ok (.getfield 7, 3) := by decide +kernel
theorem dX11_adds_42 : decode cX11_adds 42 = .ok (.bipush 33, 2) := by decide +kernel
theorem dX11_adds_44 : decode cX11_adds 44 = .ok (.iaload, 1) := by decide +kernel
theorem dX11_adds_45 : decode cX11_adds 45 = .ok (.imul, 1) := by decide +kernel
theorem dX11_adds_46 : decode cX11_adds 46 = .ok (.iadd, 1) := by decide +kernel
theorem dX11_adds_47 : decode cX11_adds 47 = .ok (.iload_n 1, 1) := by decide +kernel
theorem dX11_adds_48 : decode cX11_adds 48 = .ok (.iload_n 2, 1) := by decide +kernel
theorem dX11_adds_49 : decode cX11_adds 49 = .ok (.iload_n 3, 1) := by decide +kernel
theorem dX11_adds_50 : decode cX11_adds 50 = .ok (.iload 4, 2) := by decide +kernel
theorem dX11_adds_52 : decode cX11_adds 52 = .ok (.iload 5, 2) := by decide +kernel
theorem dX11_adds_54 : decode cX11_adds 54 = .ok (.invokevirtual 150, 3) := by decide +kernel
theorem dX11_adds_57 : decode cX11_adds 57 = .ok (.aload_n 0, 1) := by decide +kernel
theorem dX11_adds_58 : decode cX11_adds 58 = .ok (.getfield 7, 3) := by decide +kernel
theorem dX11_adds_61 : decode cX11_adds 61 = .ok (.bipush 33, 2) := by decide +kernel
theorem dX11_adds_63 : decode cX11_adds 63 = .ok (.dup2, 1) := by decide +kernel
theorem dX11_adds_64 : decode cX11_adds 64 = .ok (.iaload, 1) := by decide +kernel
theorem dX11_adds_65 : decode cX11_adds 65 = .ok (.iconst 1, 1) := by decide +kernel
theorem dX11_adds_66 : decode cX11_adds 66 = .ok (.iadd, 1) := by decide +kernel
theorem dX11_adds_67 : decode cX11_adds 67 = .ok (.iastore, 1) := by decide +kernel
theorem dX11_adds_68 : decode cX11_adds 68 = .ok (.aload_n 0, 1) := by decide +kernel
theorem dX11_adds_69 : decode cX11_adds 69 = .ok (.getfield 7, 3) := by decide +kernel
theorem dX11_adds_72 : decode cX11_adds 72 = .ok (.bipush 33, 2) := by decide +kernel
theorem dX11_adds_74 : decode cX11_adds 74 = .ok (.iaload, 1) := by decide +kernel
theorem dX11_adds_75 : decode cX11_adds 75 = .ok (.ireturn, 1) := by decide +kernel
theorem dX11_cuts_0 : decode cX11_cuts 0 = .ok (.aload_n 0, 1) := by decide +kernel
theorem dX11_cuts_1 : decode cX11_cuts 1 = .ok (.getfield 7, 3) := by decide +kernel
theorem dX11_cuts_4 : decode cX11_cuts 4 = .ok (.bipush 33, 2) := by decide +kernel
theorem dX11_cuts_6 : decode cX11_cuts 6 = .ok (.iaload, 1) := by decide +kernel
theorem dX11_cuts_7 : decode cX11_cuts 7 = .ok (.ifCond .ne 6, 3) := by decide +kernel
theorem dX11_cuts_10 : decode cX11_cuts 10 = .ok (.bipush (-2), 2) := by decide +kernel
theorem dX11_cuts_12 : decode cX11_cuts 12 = .ok (.ireturn, 1) := by decide +kernel
theorem dX11_cuts_13 : decode cX11_cuts 13 = .ok (.aload_n 0, 1) := by decide +kernel
theorem dX11_cuts_14 : decode cX11_cuts 14 = .ok (.invokevirtual 140, 3) := by decide +kernel
theorem dX11_cuts_17 : decode cX11_cuts 17 = .ok (.aload_n 0, 1) := by decide +kernel
theorem dX11_cuts_18 : decode cX11_cuts 18 = .ok (.getfield 7, 3) := by decide +kernel
theorem dX11_cuts_21 : decode cX11_cuts 21 = .ok (.bipush 33, 2) := by decide +kernel
theorem dX11_cuts_23 : decode cX11_cuts 23 = .ok (.dup2, 1) := by decide +kernel
theorem dX11_cuts_24 : decode cX11_cuts 24 = .ok (.iaload, 1) := by decide +kernel
theorem dX11_cuts_25 : decode cX11_cuts 25 = .ok (.iconst 1, 1) := by decide +kernel
theorem dX11_cuts_26 : decode cX11_cuts 26 = .ok (.isub, 1) := by decide +kernel
theorem dX11_cuts_27 : decode cX11_cuts 27 = .ok (.iastore, 1) := by decide +kernel
theorem dX11_cuts_28 : decode cX11_cuts 28 = .ok (.aload_n 0, 1) := by decide +kernel
theorem dX11_cuts_29 : decode cX11_cuts 29 = .ok (.getfield 7, 3) := by decide +kernel
theorem dX11_cuts_32 : decode cX11_cuts 32 = .ok (.bipush 33, 2) := by decide +kernel
theorem dX11_cuts_34 : decode cX11_cuts 34 = .ok (.iaload, 1) := by decide +kernel
theorem dX11_cuts_35 : decode cX11_cuts 35 = .ok (.ireturn, 1) := by decide +kernel
theorem dX11_takeMade_0 : decode cX11_takeMade 0 = .ok (.iconst 0, 1) := by decide +kernel
theorem dX11_takeMade_1 : decode cX11_takeMade 1 = .ok (.istore_n 1, 1) := by decide +kernel
theorem dX11_takeMade_2 : decode cX11_takeMade 2 = .ok (.iload_n 1, 1) := by decide +kernel
theorem dX11_takeMade_3 : decode cX11_takeMade 3 = .ok (.bipush 32, 2) := by decide +kernel
theorem dX11_takeMade_5 : decode cX11_takeMade 5 = .ok (.if_icmp .ge 21, 3) := by decide +kernel
theorem dX11_takeMade_8 : decode cX11_takeMade 8 = .ok (.aload_n 0, 1) := by decide +kernel
theorem dX11_takeMade_9 : decode cX11_takeMade 9 = .ok (.getfield 36, 3) := by decide +kernel
theorem dX11_takeMade_12 : decode cX11_takeMade 12 = .ok (.iload_n 1, 1) := by decide +kernel
theorem dX11_takeMade_13 : decode cX11_takeMade 13 = .ok (.aload_n 0, 1) := by decide +kernel
theorem dX11_takeMade_14 : decode cX11_takeMade 14 = .ok (.getfield 39, 3) := by decide +kernel
theorem dX11_takeMade_17 : decode cX11_takeMade 17 = .ok (.iload_n 1, 1) := by decide +kernel
theorem dX11_takeMade_18 : decode cX11_takeMade 18 = .ok (.iaload, 1) := by decide +kernel
theorem dX11_takeMade_19 : decode cX11_takeMade 19 = .ok (.iastore, 1) := by decide +kernel
theorem dX11_takeMade_20 : decode cX11_takeMade 20 = .ok (.iinc 1 1, 3) := by decide +kernel
theorem dX11_takeMade_23 : decode cX11_takeMade 23 = .ok (.goto (-21), 3) := by decide +kernel
theorem dX11_takeMade_26 : decode cX11_takeMade 26 = .ok (.return_, 1) := by decide +kernel
theorem dX11_spread_0 : decode cX11_spread 0 = .ok (.iconst 0, 1) := by decide +kernel
theorem dX11_spread_1 : decode cX11_spread 1 = .ok (.istore_n 2, 1) := by decide +kernel
theorem dX11_spread_2 : decode cX11_spread 2 = .ok (.iload_n 2, 1) := by decide +kernel
theorem dX11_spread_3 : decode cX11_spread 3 = .ok (.bipush 32, 2) := by decide +kernel
theorem dX11_spread_5 : decode cX11_spread 5 = .ok (.if_icmp .ge 51, 3) := by decide +kernel
theorem dX11_spread_8 : decode cX11_spread 8 = .ok (.iload_n 2, 1) := by decide +kernel
theorem dX11_spread_9 : decode cX11_spread 9 = .ok (.bipush 16, 2) := by decide +kernel
theorem dX11_spread_11 : decode cX11_spread 11 = .ok (.irem, 1) := by decide +kernel
theorem dX11_spread_12 : decode cX11_spread 12 = .ok (.ifCond .ne 10, 3) := by decide +kernel
theorem dX11_spread_15 : decode cX11_spread 15 = .ok (.iload_n 2, 1) := by decide +kernel
theorem dX11_spread_16 : decode cX11_spread 16 = .ok (.bipush 15, 2) := by decide +kernel
theorem dX11_spread_18 : decode cX11_spread 18 = .ok (.iadd, 1) := by decide +kernel
theorem dX11_spread_19 : decode cX11_spread 19 = .ok (.goto 6, 3) := by decide +kernel
theorem dX11_spread_22 : decode cX11_spread 22 = .ok (.iload_n 2, 1) := by decide +kernel
theorem dX11_spread_23 : decode cX11_spread 23 = .ok (.iconst 1, 1) := by decide +kernel
theorem dX11_spread_24 : decode cX11_spread 24 = .ok (.isub, 1) := by decide +kernel
theorem dX11_spread_25 : decode cX11_spread 25 = .ok (.istore_n 3, 1) := by decide +kernel
theorem dX11_spread_26 : decode cX11_spread 26 = .ok (.aload_n 0, 1) := by decide +kernel
theorem dX11_spread_27 : decode cX11_spread 27 = .ok (.getfield 39, 3) := by decide +kernel
theorem dX11_spread_30 : decode cX11_spread 30 = .ok (.iload_n 2, 1) := by decide +kernel
theorem dX11_spread_31 : decode cX11_spread 31 = .ok (.aload_n 0, 1) := by decide +kernel
theorem dX11_spread_32 : decode cX11_spread 32 = .ok (.getfield 36, 3) := by decide +kernel
theorem dX11_spread_35 : decode cX11_spread 35 = .ok (.iload_n 2, 1) := by decide +kernel
theorem dX11_spread_36 : decode cX11_spread 36 = .ok (.iaload, 1) := by decide +kernel
theorem dX11_spread_37 : decode cX11_spread 37 = .ok (.iload_n 1, 1) := by decide +kernel
theorem dX11_spread_38 : decode cX11_spread 38 = .ok (.aload_n 0, 1) := by decide +kernel
theorem dX11_spread_39 : decode cX11_spread 39 = .ok (.getfield 36, 3) := by decide +kernel
theorem dX11_spread_42 : decode cX11_spread 42 = .ok (.iload_n 3, 1) := by decide +kernel
theorem dX11_spread_43 : decode cX11_spread 43 = .ok (.iaload, 1) := by decide +kernel
theorem dX11_spread_44 : decode cX11_spread 44 = .ok (.imul, 1) := by decide +kernel
theorem dX11_spread_45 : decode cX11_spread 45 = .ok (.iadd, 1) := by decide +kernel
theorem dX11_spread_46 : decode cX11_spread 46 = .ok (.bipush 97, 2) := by decide +kernel
theorem dX11_spread_48 : decode cX11_spread 48 = .ok (.irem, 1) := by decide +kernel
theorem dX11_spread_49 : decode cX11_spread 49 = .ok (.iastore, 1) := by decide +kernel
theorem dX11_spread_50 : decode cX11_spread 50 = .ok (.iinc 2 1, 3) := by decide +kernel
theorem dX11_spread_53 : decode cX11_spread 53 = .ok (.goto (-51), 3) := by decide +kernel
theorem dX11_spread_56 : decode cX11_spread 56 = .ok (.aload_n 0, 1) := by decide +kernel
theorem dX11_spread_57 : decode cX11_spread 57 = .ok (.invokevirtual 154, 3) := by decide +kernel
theorem dX11_spread_60 : decode cX11_spread 60 = .ok (.return_, 1) := by decide +kernel
theorem dX11_unspread_0 : decode cX11_unspread 0 = .ok (.iconst 1, 1) := by decide +kernel
theorem dX11_unspread_1 : decode cX11_unspread 1 = .ok (.iload_n 1, 1) := by decide +kernel
theorem dX11_unspread_2 : decode cX11_unspread 2 = .ok (.bipush 16, 2) := by decide +kernel
theorem dX11_unspread_4 : decode cX11_unspread 4 = .ok (.invokestatic 63, 3) := by decide +kernel
theorem dX11_unspread_7 : decode cX11_unspread 7 = .ok (.isub, 1) := by decide +kernel
theorem dX11_unspread_8 : decode cX11_unspread 8 = .ok (.invokestatic 71, 3) := by decide +kernel
theorem dX11_unspread_11 : decode cX11_unspread 11 = .ok (.invokestatic 157, 3) := by decide +kernel
theorem dX11_unspread_14 : decode cX11_unspread 14 = .ok (.istore_n 2, 1) := by decide +kernel
theorem dX11_unspread_15 : decode cX11_unspread 15 = .ok (.iload_n 1, 1) := by decide +kernel
theorem dX11_unspread_16 : decode cX11_unspread 16 = .ok (.ineg, 1) := by decide +kernel
theorem dX11_unspread_17 : decode cX11_unspread 17 = .ok (.invokestatic 71, 3) := by decide +kernel
theorem dX11_unspread_20 : decode cX11_unspread 20 = .ok (.istore_n 3, 1) := by decide +kernel
theorem dX11_unspread_21 : decode cX11_unspread 21 = .ok (.iconst 0, 1) := by decide +kernel
theorem dX11_unspread_22 : decode cX11_unspread 22 = .ok (.istore 4, 2) := by decide +kernel
theorem dX11_unspread_24 : decode cX11_unspread 24 = .ok (.iload 4, 2) := by decide +kernel
theorem dX11_unspread_26 : decode cX11_unspread 26 = .ok (.bipush 32, 2) := by decide +kernel
theorem dX11_unspread_28 : decode cX11_unspread 28 = .ok (.if_icmp .ge 90, 3) := by decide +kernel
theorem dX11_unspread_31 : decode cX11_unspread 31 = .ok (.iconst 0, 1) := by decide +kernel
theorem dX11_unspread_32 : decode cX11_unspread 32 = .ok (.istore 5, 2) := by decide +kernel
theorem dX11_unspread_34 : decode cX11_unspread 34 = .ok (.iconst 1, 1) := by decide +kernel
theorem dX11_unspread_35 : decode cX11_unspread 35 = .ok (.istore 6, 2) := by decide +kernel
theorem dX11_unspread_37 : decode cX11_unspread 37 = .ok (.iconst 0, 1) := by decide +kernel
theorem dX11_unspread_38 : decode cX11_unspread 38 = .ok (.istore 7, 2) := by decide +kernel
theorem dX11_unspread_40 : decode cX11_unspread 40 = .ok (.iload 7, 2) := by decide +kernel
theorem dX11_unspread_42 : decode cX11_unspread 42 = .ok (.bipush 16, 2) := by decide +kernel
theorem dX11_unspread_44 : decode cX11_unspread 44 = .ok (.if_icmp .ge 54, 3) := by decide +kernel
theorem dX11_unspread_47 : decode cX11_unspread 47 = .ok (.iload 5, 2) := by decide +kernel
theorem dX11_unspread_49 : decode cX11_unspread 49 = .ok (.iload 6, 2) := by decide +kernel
theorem dX11_unspread_51 : decode cX11_unspread 51 = .ok (.aload_n 0, 1) := by decide +kernel
theorem dX11_unspread_52 : decode cX11_unspread 52 = .ok (.getfield 36, 3) := by decide +kernel
theorem dX11_unspread_55 : decode cX11_unspread 55 = .ok (.iload 4, 2) := by decide +kernel
theorem dX11_unspread_57 : decode cX11_unspread 57 = .ok (.bipush 16, 2) := by decide +kernel
theorem dX11_unspread_59 : decode cX11_unspread 59 = .ok (.idiv, 1) := by decide +kernel
theorem dX11_unspread_60 : decode cX11_unspread 60 = .ok (.bipush 16, 2) := by decide +kernel
theorem dX11_unspread_62 : decode cX11_unspread 62 = .ok (.imul, 1) := by decide +kernel
theorem dX11_unspread_63 : decode cX11_unspread 63 = .ok (.iload 4, 2) := by decide +kernel
theorem dX11_unspread_65 : decode cX11_unspread 65 = .ok (.bipush 16, 2) := by decide +kernel
theorem dX11_unspread_67 : decode cX11_unspread 67 = .ok (.iadd, 1) := by decide +kernel
theorem dX11_unspread_68 : decode cX11_unspread 68 = .ok (.iload 7, 2) := by decide +kernel
theorem dX11_unspread_70 : decode cX11_unspread 70 = .ok (.isub, 1) := by decide +kernel
theorem dX11_unspread_71 : decode cX11_unspread 71 = .ok (.bipush 16, 2) := by decide +kernel
theorem dX11_unspread_73 : decode cX11_unspread 73 = .ok (.irem, 1) := by decide +kernel
theorem dX11_unspread_74 : decode cX11_unspread 74 = .ok (.iadd, 1) := by decide +kernel
theorem dX11_unspread_75 : decode cX11_unspread 75 = .ok (.iaload, 1) := by decide +kernel
theorem dX11_unspread_76 : decode cX11_unspread 76 = .ok (.imul, 1) := by decide +kernel
theorem dX11_unspread_77 : decode cX11_unspread 77 = .ok (.iadd, 1) := by decide +kernel
theorem dX11_unspread_78 : decode cX11_unspread 78 = .ok (.bipush 97, 2) := by decide +kernel
theorem dX11_unspread_80 : decode cX11_unspread 80 = .ok (.irem, 1) := by decide +kernel
theorem dX11_unspread_81 : decode cX11_unspread 81 = .ok (.istore 5, 2) := by decide +kernel
theorem dX11_unspread_83 : decode cX11_unspread 83 = .ok (.iload 6, 2) := by decide +kernel
theorem dX11_unspread_85 : decode cX11_unspread 85 = .ok (.iload_n 3, 1) := by decide +kernel
theorem dX11_unspread_86 : decode cX11_unspread 86 = .ok (.imul, 1) := by decide +kernel
theorem dX11_unspread_87 : decode cX11_unspread 87 = .ok (.bipush 97, 2) := by decide +kernel
theorem dX11_unspread_89 : decode cX11_unspread 89 = .ok (.irem, 1) := by decide +kernel
theorem dX11_unspread_90 : decode cX11_unspread 90 = .ok (.istore 6, 2) := by decide +kernel
theorem dX11_unspread_92 : decode cX11_unspread 92 = .ok (.iinc 7 1, 3) := by decide +kernel
theorem dX11_unspread_95 : decode cX11_unspread 95 = .ok (.goto (-55), 3) := by decide +kernel
theorem dX11_unspread_98 : decode cX11_unspread 98 = .ok (.aload_n 0, 1) := by decide +kernel
theorem dX11_unspread_99 : decode cX11_unspread 99 = .ok (.getfield 39, 3) := by decide +kernel
theorem dX11_unspread_102 : decode cX11_unspread 102 = .ok (.iload 4, 2) := by decide +kernel
theorem dX11_unspread_104 : decode cX11_unspread 104 = .ok (.iload 5, 2) := by decide +kernel
theorem dX11_unspread_106 : decode cX11_unspread 106 = .ok (.iload_n 2, 1) := by decide +kernel
theorem dX11_unspread_107 : decode cX11_unspread 107 = .ok (.imul, 1) := by decide +kernel
theorem dX11_unspread_108 : decode cX11_unspread 108 = .ok (.bipush 97, 2) := by decide +kernel
theorem dX11_unspread_110 : decode cX11_unspread 110 = .ok (.irem, 1) := by decide +kernel
theorem dX11_unspread_111 : decode cX11_unspread 111 = .ok (.iastore, 1) := by decide +kernel
theorem dX11_unspread_112 : decode cX11_unspread 112 = .ok (.iinc 4 1, 3) := by decide +kernel
theorem dX11_unspread_115 : decode cX11_unspread 115 = .ok (.goto (-91), 3) := by decide +kernel
theorem dX11_unspread_118 : decode cX11_unspread 118 = .ok (.aload_n 0, 1) := by decide +kernel
theorem dX11_unspread_119 : decode cX11_unspread 119 = .ok (.invokevirtual 154, 3) := by decide +kernel
theorem dX11_unspread_122 : decode cX11_unspread 122 = .ok (.return_, 1) := by decide +kernel
theorem dX11_twist_0 : decode cX11_twist 0 = .ok (.iconst 0, 1) := by decide +kernel
theorem dX11_twist_1 : decode cX11_twist 1 = .ok (.istore 5, 2) := by decide +kernel
theorem dX11_twist_3 : decode cX11_twist 3 = .ok (.iload 5, 2) := by decide +kernel
theorem dX11_twist_5 : decode cX11_twist 5 = .ok (.bipush 16, 2) := by decide +kernel
theorem dX11_twist_7 : decode cX11_twist 7 = .ok (.if_icmp .ge 72, 3) := by decide +kernel
theorem dX11_twist_10 : decode cX11_twist 10 = .ok (.aload_n 0, 1) := by decide +kernel
theorem dX11_twist_11 : decode cX11_twist 11 = .ok (.getfield 36, 3) := by decide +kernel
theorem dX11_twist_14 : decode cX11_twist 14 = .ok (.iload 5, 2) := by decide +kernel
theorem dX11_twist_16 : decode cX11_twist 16 = .ok (.iaload, 1) := by decide +kernel
theorem dX11_twist_17 : decode cX11_twist 17 = .ok (.istore 6, 2) := by decide +kernel
theorem dX11_twist_19 : decode cX11_twist 19 = .ok (.aload_n 0, 1) := by decide +kernel
theorem dX11_twist_20 : decode cX11_twist 20 = .ok (.getfield 36, 3) := by decide +kernel
theorem dX11_twist_23 : decode cX11_twist 23 = .ok (.bipush 16, 2) := by decide +kernel
theorem dX11_twist_25 : decode cX11_twist 25 = .ok (.iload 5, 2) := by decide +kernel
theorem dX11_twist_27 : decode cX11_twist 27 = .ok (.iadd, 1) := by decide +kernel
theorem dX11_twist_28 : decode cX11_twist 28 = .ok (.iaload, 1) := by decide +kernel
theorem dX11_twist_29 : decode cX11_twist 29 = .ok (.istore 7, 2) := by decide +kernel
theorem dX11_twist_31 : decode cX11_twist 31 = .ok (.aload_n 0, 1) := by decide +kernel
theorem dX11_twist_32 : decode cX11_twist 32 = .ok (.getfield 36, 3) := by decide +kernel
theorem dX11_twist_35 : decode cX11_twist 35 = .ok (.iload 5, 2) := by decide +kernel
theorem dX11_twist_37 : decode cX11_twist 37 = .ok (.iload_n 1, 1) := by decide +kernel
theorem dX11_twist_38 : decode cX11_twist 38 = .ok (.iload 6, 2) := by decide +kernel
theorem dX11_twist_40 : decode cX11_twist 40 = .ok (.imul, 1) := by decide +kernel
theorem dX11_twist_41 : decode cX11_twist 41 = .ok (.iload_n 2, 1) := by decide +kernel
theorem dX11_twist_42 : decode cX11_twist 42 = .ok (.iload 7, 2) := by decide +kernel
theorem dX11_twist_44 : decode cX11_twist 44 = .ok (.imul, 1) := by decide +kernel
theorem dX11_twist_45 : decode cX11_twist 45 = .ok (.iadd, 1) := by decide +kernel
theorem dX11_twist_46 : decode cX11_twist 46 = .ok (.bipush 97, 2) := by decide +kernel
theorem dX11_twist_48 : decode cX11_twist 48 = .ok (.irem, 1) := by decide +kernel
theorem dX11_twist_49 : decode cX11_twist 49 = .ok (.iastore, 1) := by decide +kernel
theorem dX11_twist_50 : decode cX11_twist 50 = .ok (.aload_n 0, 1) := by decide +kernel
theorem dX11_twist_51 : decode cX11_twist 51 = .ok (.getfield 36, 3) := by decide +kernel
theorem dX11_twist_54 : decode cX11_twist 54 = .ok (.bipush 16, 2) := by decide +kernel
theorem dX11_twist_56 : decode cX11_twist 56 = .ok (.iload 5, 2) := by decide +kernel
theorem dX11_twist_58 : decode cX11_twist 58 = .ok (.iadd, 1) := by decide +kernel
theorem dX11_twist_59 : decode cX11_twist 59 = .ok (.iload_n 3, 1) := by decide +kernel
theorem dX11_twist_60 : decode cX11_twist 60 = .ok (.iload 6, 2) := by decide +kernel
theorem dX11_twist_62 : decode cX11_twist 62 = .ok (.imul, 1) := by decide +kernel
theorem dX11_twist_63 : decode cX11_twist 63 = .ok (.iload 4, 2) := by decide +kernel
theorem dX11_twist_65 : decode cX11_twist 65 = .ok (.iload 7, 2) := by decide +kernel
theorem dX11_twist_67 : decode cX11_twist 67 = .ok (.imul, 1) := by decide +kernel
theorem dX11_twist_68 : decode cX11_twist 68 = .ok (.iadd, 1) := by decide +kernel
theorem dX11_twist_69 : decode cX11_twist 69 = .ok (.bipush 97, 2) := by decide +kernel
theorem dX11_twist_71 : decode cX11_twist 71 = .ok (.irem, 1) := by decide +kernel
theorem dX11_twist_72 : decode cX11_twist 72 = .ok (.iastore, 1) := by decide +kernel
theorem dX11_twist_73 : decode cX11_twist 73 = .ok (.iinc 5 1, 3) := by decide +kernel
theorem dX11_twist_76 : decode cX11_twist 76 = .ok (.goto (-73), 3) := by decide +kernel
theorem dX11_twist_79 : decode cX11_twist 79 = .ok (.return_, 1) := by decide +kernel
theorem dX11_untwist_0 : decode cX11_untwist 0 = .ok (.iload_n 1, 1) := by decide +kernel
theorem dX11_untwist_1 : decode cX11_untwist 1 = .ok (.iload 4, 2) := by decide +kernel
theorem dX11_untwist_3 : decode cX11_untwist 3 = .ok (.imul, 1) := by decide +kernel
theorem dX11_untwist_4 : decode cX11_untwist 4 = .ok (.iload_n 2, 1) := by decide +kernel
theorem dX11_untwist_5 : decode cX11_untwist 5 = .ok (.iload_n 3, 1) := by decide +kernel
theorem dX11_untwist_6 : decode cX11_untwist 6 = .ok (.imul, 1) := by decide +kernel
theorem dX11_untwist_7 : decode cX11_untwist 7 = .ok (.isub, 1) := by decide +kernel
theorem dX11_untwist_8 : decode cX11_untwist 8 = .ok (.invokestatic 71, 3) := by decide +kernel
theorem dX11_untwist_11 : decode cX11_untwist 11 = .ok (.invokestatic 157, 3) := by decide +kernel
theorem dX11_untwist_14 : decode cX11_untwist 14 = .ok (.istore 5, 2) := by decide +kernel
theorem dX11_untwist_16 : decode cX11_untwist 16 = .ok (.aload_n 0, 1) := by decide +kernel
theorem dX11_untwist_17 : decode cX11_untwist 17 = .ok (.iload 4, 2) := by decide +kernel
theorem dX11_untwist_19 : decode cX11_untwist 19 = .ok (.iload 5, 2) := by decide +kernel
theorem dX11_untwist_21 : decode cX11_untwist 21 = .ok (.imul, 1) := by decide +kernel
theorem dX11_untwist_22 : decode cX11_untwist 22 = .ok (.bipush 97, 2) := by decide +kernel
theorem dX11_untwist_24 : decode cX11_untwist 24 = .ok (.irem, 1) := by decide +kernel
theorem dX11_untwist_25 : decode cX11_untwist 25 = .ok (.iload_n 2, 1) := by decide +kernel
theorem dX11_untwist_26 : decode cX11_untwist 26 = .ok (.ineg, 1) := by decide +kernel
theorem dX11_untwist_27 : decode cX11_untwist 27 = .ok (.iload 5, 2) := by decide +kernel
theorem dX11_untwist_29 : decode cX11_untwist 29 = .ok (.imul, 1) := by decide +kernel
theorem dX11_untwist_30 : decode cX11_untwist 30 = .ok (.invokestatic 71, 3) := by decide +kernel
theorem dX11_untwist_33 : decode cX11_untwist 33 = .ok (.iload_n 3, 1) := by decide +kernel
theorem dX11_untwist_34 : decode cX11_untwist 34 = .ok (.ineg, 1) := by decide +kernel
theorem dX11_untwist_35 : decode cX11_untwist 35 = .ok (.iload 5, 2) := by decide +kernel
theorem dX11_untwist_37 : decode cX11_untwist 37 = .ok (.imul, 1) := by decide +kernel
theorem dX11_untwist_38 : decode cX11_untwist 38 = .ok (.invokestatic 71, 3) := by decide +kernel
theorem dX11_untwist_41 : decode cX11_untwist 41 = .ok (.iload_n 1, 1) := by decide +kernel
theorem dX11_untwist_42 : decode cX11_untwist 42 = .ok (.iload 5, 2) := by decide +kernel
theorem dX11_untwist_44 : decode cX11_untwist 44 = .ok (.imul, 1) := by decide +kernel
theorem dX11_untwist_45 : decode cX11_untwist 45 = .ok (.bipush 97, 2) := by decide +kernel
theorem dX11_untwist_47 : decode cX11_untwist 47 = .ok (.irem, 1) := by decide +kernel
theorem dX11_untwist_48 : decode cX11_untwist 48 = .ok (.invokevirtual 160, 3) := by decide +kernel
theorem dX11_untwist_51 : decode cX11_untwist 51 = .ok (.return_, 1) := by decide +kernel
theorem dX11_slip_0 : decode cX11_slip 0 = .ok (.iload_n 1, 1) := by decide +kernel
theorem dX11_slip_1 : decode cX11_slip 1 = .ok (.istore_n 3, 1) := by decide +kernel
theorem dX11_slip_2 : decode cX11_slip 2 = .ok (.iload_n 3, 1) := by decide +kernel
theorem dX11_slip_3 : decode cX11_slip 3 = .ok (.bipush 16, 2) := by decide +kernel
theorem dX11_slip_5 : decode cX11_slip 5 = .ok (.if_icmp .ge 55, 3) := by decide +kernel
theorem dX11_slip_8 : decode cX11_slip 8 = .ok (.aload_n 0, 1) := by decide +kernel
theorem dX11_slip_9 : decode cX11_slip 9 = .ok (.getfield 36, 3) := by decide +kernel
theorem dX11_slip_12 : decode cX11_slip 12 = .ok (.iload_n 3, 1) := by decide +kernel
theorem dX11_slip_13 : decode cX11_slip 13 = .ok (.aload_n 0, 1) := by decide +kernel
theorem dX11_slip_14 : decode cX11_slip 14 = .ok (.getfield 36, 3) := by decide +kernel
theorem dX11_slip_17 : decode cX11_slip 17 = .ok (.iload_n 3, 1) := by decide +kernel
theorem dX11_slip_18 : decode cX11_slip 18 = .ok (.iaload, 1) := by decide +kernel
theorem dX11_slip_19 : decode cX11_slip 19 = .ok (.iload_n 2, 1) := by decide +kernel
theorem dX11_slip_20 : decode cX11_slip 20 = .ok (.invokestatic 67, 3) := by decide +kernel
theorem dX11_slip_23 : decode cX11_slip 23 = .ok (.imul, 1) := by decide +kernel
theorem dX11_slip_24 : decode cX11_slip 24 = .ok (.bipush 97, 2) := by decide +kernel
theorem dX11_slip_26 : decode cX11_slip 26 = .ok (.irem, 1) := by decide +kernel
theorem dX11_slip_27 : decode cX11_slip 27 = .ok (.iastore, 1) := by decide +kernel
theorem dX11_slip_28 : decode cX11_slip 28 = .ok (.aload_n 0, 1) := by decide +kernel
theorem dX11_slip_29 : decode cX11_slip 29 = .ok (.getfield 36, 3) := by decide +kernel
theorem dX11_slip_32 : decode cX11_slip 32 = .ok (.bipush 16, 2) := by decide +kernel
theorem dX11_slip_34 : decode cX11_slip 34 = .ok (.iload_n 3, 1) := by decide +kernel
theorem dX11_slip_35 : decode cX11_slip 35 = .ok (.iadd, 1) := by decide +kernel
theorem dX11_slip_36 : decode cX11_slip 36 = .ok (.aload_n 0, 1) := by decide +kernel
theorem dX11_slip_37 : decode cX11_slip 37 = .ok (.getfield 36, 3) := by decide +kernel
theorem dX11_slip_40 : decode cX11_slip 40 = .ok (.bipush 16, 2) := by decide +kernel
theorem dX11_slip_42 : decode cX11_slip 42 = .ok (.iload_n 3, 1) := by decide +kernel
theorem dX11_slip_43 : decode cX11_slip 43 = .ok (.iadd, 1) := by decide +kernel
theorem dX11_slip_44 : decode cX11_slip 44 = .ok (.iaload, 1) := by decide +kernel
theorem dX11_slip_45 : decode cX11_slip 45 = .ok (.iload_n 2, 1) := by decide +kernel
theorem dX11_slip_46 : decode cX11_slip 46 = .ok (.invokestatic 67, 3) := by decide +kernel
theorem dX11_slip_49 : decode cX11_slip 49 = .ok (.imul, 1) := by decide +kernel
theorem dX11_slip_50 : decode cX11_slip 50 = .ok (.bipush 97, 2) := by decide +kernel
theorem dX11_slip_52 : decode cX11_slip 52 = .ok (.irem, 1) := by decide +kernel
theorem dX11_slip_53 : decode cX11_slip 53 = .ok (.iastore, 1) := by decide +kernel
theorem dX11_slip_54 : decode cX11_slip 54 = .ok (.iinc 3 1, 3) := by decide +kernel
theorem dX11_slip_57 : decode cX11_slip 57 = .ok (.goto (-55), 3) := by decide +kernel
theorem dX11_slip_60 : decode cX11_slip 60 = .ok (.return_, 1) := by decide +kernel
theorem dX11_late_0 : decode cX11_late 0 = .ok (.iconst 0, 1) := by decide +kernel
theorem dX11_late_1 : decode cX11_late 1 = .ok (.istore_n 2, 1) := by decide +kernel
theorem dX11_late_2 : decode cX11_late 2 = .ok (.iload_n 2, 1) := by decide +kernel
theorem dX11_late_3 : decode cX11_late 3 = .ok (.bipush 32, 2) := by decide +kernel
theorem dX11_late_5 : decode cX11_late 5 = .ok (.if_icmp .ge 21, 3) := by decide +kernel
theorem dX11_late_8 : decode cX11_late 8 = .ok (.aload_n 0, 1) := by decide +kernel
theorem dX11_late_9 : decode cX11_late 9 = .ok (.getfield 39, 3) := by decide +kernel
theorem dX11_late_12 : decode cX11_late 12 = .ok (.iload_n 2, 1) := by decide +kernel
theorem dX11_late_13 : decode cX11_late 13 = .ok (.aload_n 0, 1) := by decide +kernel
theorem dX11_late_14 : decode cX11_late 14 = .ok (.getfield 36, 3) := by decide +kernel
theorem dX11_late_17 : decode cX11_late 17 = .ok (.iload_n 2, 1) := by decide +kernel
theorem dX11_late_18 : decode cX11_late 18 = .ok (.iaload, 1) := by decide +kernel
theorem dX11_late_19 : decode cX11_late 19 = .ok (.iastore, 1) := by decide +kernel
theorem dX11_late_20 : decode cX11_late 20 = .ok (.iinc 2 1, 3) := by decide +kernel
theorem dX11_late_23 : decode cX11_late 23 = .ok (.goto (-21), 3) := by decide +kernel
theorem dX11_late_26 : decode cX11_late 26 = .ok (.iconst 0, 1) := by decide +kernel
theorem dX11_late_27 : decode cX11_late 27 = .ok (.istore_n 2, 1) := by decide +kernel
theorem dX11_late_28 : decode cX11_late 28 = .ok (.iload_n 2, 1) := by decide +kernel
theorem dX11_late_29 : decode cX11_late 29 = .ok (.bipush 16, 2) := by decide +kernel
theorem dX11_late_31 : decode cX11_late 31 = .ok (.if_icmp .ge 32, 3) := by decide +kernel
theorem dX11_late_34 : decode cX11_late 34 = .ok (.aload_n 0, 1) := by decide +kernel
theorem dX11_late_35 : decode cX11_late 35 = .ok (.getfield 39, 3) := by decide +kernel
theorem dX11_late_38 : decode cX11_late 38 = .ok (.bipush 16, 2) := by decide +kernel
theorem dX11_late_40 : decode cX11_late 40 = .ok (.iload_n 2, 1) := by decide +kernel
theorem dX11_late_41 : decode cX11_late 41 = .ok (.iload_n 1, 1) := by decide +kernel
theorem dX11_late_42 : decode cX11_late 42 = .ok (.iadd, 1) := by decide +kernel
theorem dX11_late_43 : decode cX11_late 43 = .ok (.bipush 16, 2) := by decide +kernel
theorem dX11_late_45 : decode cX11_late 45 = .ok (.irem, 1) := by decide +kernel
theorem dX11_late_46 : decode cX11_late 46 = .ok (.iadd, 1) := by decide +kernel
theorem dX11_late_47 : decode cX11_late 47 = .ok (.aload_n 0, 1) := by decide +kernel
theorem dX11_late_48 : decode cX11_late 48 = .ok (.getfield 36, 3) := by decide +kernel
theorem dX11_late_51 : decode cX11_late 51 = .ok (.bipush 16, 2) := by decide +kernel
theorem dX11_late_53 : decode cX11_late 53 = .ok (.iload_n 2, 1) := by decide +kernel
theorem dX11_late_54 : decode cX11_late 54 = .ok (.iadd, 1) := by decide +kernel
theorem dX11_late_55 : decode cX11_late 55 = .ok (.iaload, 1) := by decide +kernel
theorem dX11_late_56 : decode cX11_late 56 = .ok (.iastore, 1) := by decide +kernel
theorem dX11_late_57 : decode cX11_late 57 = .ok (.iinc 2 1, 3) := by decide +kernel
theorem dX11_late_60 : decode cX11_late 60 = .ok (.goto (-32), 3) := by decide +kernel
theorem dX11_late_63 : decode cX11_late 63 = .ok (.aload_n 0, 1) := by decide +kernel
theorem dX11_late_64 : decode cX11_late 64 = .ok (.invokevirtual 154, 3) := by decide +kernel
theorem dX11_late_67 : decode cX11_late 67 = .ok (.return_, 1) := by decide +kernel
theorem dX11_isLight_0 : decode cX11_isLight 0 = .ok (.iload_n 0, 1) := by decide +kernel
theorem dX11_isLight_1 : decode cX11_isLight 1 = .ok (.iconst 1, 1) := by decide +kernel
theorem dX11_isLight_2 : decode cX11_isLight 2 = .ok (.if_icmp .eq 21, 3) := by decide +kernel
theorem dX11_isLight_5 : decode cX11_isLight 5 = .ok (.iload_n 0, 1) := by decide +kernel
theorem dX11_isLight_6 : decode cX11_isLight 6 = .ok (.bipush 22, 2) := by decide +kernel
theorem dX11_isLight_8 : decode cX11_isLight 8 = .ok (.if_icmp .eq 15, 3) := by decide +kernel
theorem dX11_isLight_11 : decode cX11_isLight 11 = .ok (.iload_n 0, 1) := by decide +kernel
theorem dX11_isLight_12 : decode cX11_isLight 12 = .ok (.bipush 96, 2) := by decide +kernel
theorem dX11_isLight_14 : decode cX11_isLight 14 = .ok (.if_icmp .eq 9, 3) := by decide +kernel
theorem dX11_isLight_17 : decode cX11_isLight 17 = .ok (.iload_n 0, 1) := by decide +kernel
theorem dX11_isLight_18 : decode cX11_isLight 18 = .ok (.bipush 75, 2) := by decide +kernel
theorem dX11_isLight_20 : decode cX11_isLight 20 = .ok (.if_icmp .ne 7, 3) := by decide +kernel
theorem dX11_isLight_23 : decode cX11_isLight 23 = .ok (.iconst 1, 1) := by decide +kernel
theorem dX11_isLight_24 : decode cX11_isLight 24 = .ok (.goto 4, 3) := by decide +kernel
theorem dX11_isLight_27 : decode cX11_isLight 27 = .ok (.iconst 0, 1) := by decide +kernel
theorem dX11_isLight_28 : decode cX11_isLight 28 = .ok (.ireturn, 1) := by decide +kernel
theorem dX11_blind_0 : decode cX11_blind 0 = .ok (.iconst 1, 1) := by decide +kernel
theorem dX11_blind_1 : decode cX11_blind 1 = .ok (.istore_n 1, 1) := by decide +kernel
theorem dX11_blind_2 : decode cX11_blind 2 = .ok (.iconst (-1), 1) := by decide +kernel
theorem dX11_blind_3 : decode cX11_blind 3 = .ok (.istore_n 2, 1) := by decide +kernel
theorem dX11_blind_4 : decode cX11_blind 4 = .ok (.iconst 1, 1) := by decide +kernel
theorem dX11_blind_5 : decode cX11_blind 5 = .ok (.istore_n 3, 1) := by decide +kernel
theorem dX11_blind_6 : decode cX11_blind 6 = .ok (.iload_n 3, 1) := by decide +kernel
theorem dX11_blind_7 : decode cX11_blind 7 = .ok (.bipush 97, 2) := by decide +kernel
theorem dX11_blind_9 : decode cX11_blind 9 = .ok (.if_icmp .ge 81, 3) := by decide +kernel
theorem dX11_blind_12 : decode cX11_blind 12 = .ok (.iconst 0, 1) := by decide +kernel
theorem dX11_blind_13 : decode cX11_blind 13 = .ok (.istore 4, 2) := by decide +kernel
theorem dX11_blind_15 : decode cX11_blind 15 = .ok (.iconst 0, 1) := by decide +kernel
theorem dX11_blind_16 : decode cX11_blind 16 = .ok (.istore 5, 2) := by decide +kernel
theorem dX11_blind_18 : decode cX11_blind 18 = .ok (.iload 5, 2) := by decide +kernel
theorem dX11_blind_20 : decode cX11_blind 20 = .ok (.bipush 32, 2) := by decide +kernel
theorem dX11_blind_22 : decode cX11_blind 22 = .ok (.if_icmp .ge 37, 3) := by decide +kernel
theorem dX11_blind_25 : decode cX11_blind 25 = .ok (.iload 4, 2) := by decide +kernel
theorem dX11_blind_27 : decode cX11_blind 27 = .ok (.iload_n 3, 1) := by decide +kernel
theorem dX11_blind_28 : decode cX11_blind 28 = .ok (.aload_n 0, 1) := by decide +kernel
theorem dX11_blind_29 : decode cX11_blind 29 = .ok (.getfield 36, 3) := by decide +kernel
theorem dX11_blind_32 : decode cX11_blind 32 = .ok (.iload 5, 2) := by decide +kernel
theorem dX11_blind_34 : decode cX11_blind 34 = .ok (.iaload, 1) := by decide +kernel
theorem dX11_blind_35 : decode cX11_blind 35 = .ok (.imul, 1) := by decide +kernel
theorem dX11_blind_36 : decode cX11_blind 36 = .ok (.bipush 97, 2) := by decide +kernel
theorem dX11_blind_38 : decode cX11_blind 38 = .ok (.irem, 1) := by decide +kernel
theorem dX11_blind_39 : decode cX11_blind 39 = .ok (.invokestatic 164, 3) := by decide +kernel
theorem dX11_blind_42 : decode cX11_blind 42 = .ok (.ifCond .eq 7, 3) := by decide +kernel
theorem dX11_blind_45 : decode cX11_blind 45 = .ok (.iconst 1, 1) := by decide +kernel
theorem dX11_blind_46 : decode cX11_blind 46 = .ok (.goto 4, 3) := by decide +kernel
theorem dX11_blind_49 : decode cX11_blind 49 = .ok (.iconst 0, 1) := by decide +kernel
theorem dX11_blind_50 : decode cX11_blind 50 = .ok (.iadd, 1) := by decide +kernel
theorem dX11_blind_51 : decode cX11_blind 51 = .ok (.istore 4, 2) := by decide +kernel
theorem dX11_blind_53 : decode cX11_blind 53 = .ok (.iinc 5 1, 3) := by decide +kernel
theorem dX11_blind_56 : decode cX11_blind 56 = .ok (.goto (-38), 3) := by decide +kernel
theorem dX11_blind_59 : decode cX11_blind 59 = .ok (.iload 4, 2) := by decide +kernel
theorem dX11_blind_61 : decode cX11_blind 61 = .ok (.iload_n 2, 1) := by decide +kernel
theorem dX11_blind_62 : decode cX11_blind 62 = .ok (.if_icmp .le 7, 3) := by decide +kernel
theorem dX11_blind_65 : decode cX11_blind 65 = .ok (.iload_n 3, 1) := by decide +kernel
theorem dX11_blind_66 : decode cX11_blind 66 = .ok (.goto 4, 3) := by decide +kernel
theorem dX11_blind_69 : decode cX11_blind 69 = .ok (.iload_n 1, 1) := by decide +kernel
theorem dX11_blind_70 : decode cX11_blind 70 = .ok (.istore_n 1, 1) := by decide +kernel
theorem dX11_blind_71 : decode cX11_blind 71 = .ok (.iload 4, 2) := by decide +kernel
theorem dX11_blind_73 : decode cX11_blind 73 = .ok (.iload_n 2, 1) := by decide +kernel
theorem dX11_blind_74 : decode cX11_blind 74 = .ok (.if_icmp .le 8, 3) := by decide +kernel
theorem dX11_blind_77 : decode cX11_blind 77 = .ok (.iload 4, 2) := by decide +kernel
theorem dX11_blind_79 : decode cX11_blind 79 = .ok (.goto 4, 3) := by decide +kernel
theorem dX11_blind_82 : decode cX11_blind 82 = .ok (.iload_n 2, 1) := by decide +kernel
theorem dX11_blind_83 : decode cX11_blind 83 = .ok (.istore_n 2, 1) := by decide +kernel
theorem dX11_blind_84 : decode cX11_blind 84 = .ok (.iinc 3 1, 3) := by decide +kernel
theorem dX11_blind_87 : decode cX11_blind 87 = .ok (.goto (-81), 3) := by decide +kernel
theorem dX11_blind_90 : decode cX11_blind 90 = .ok (.iconst 0, 1) := by decide +kernel
theorem dX11_blind_91 : decode cX11_blind 91 = .ok (.istore_n 3, 1) := by decide +kernel
theorem dX11_blind_92 : decode cX11_blind 92 = .ok (.iload_n 3, 1) := by decide +kernel
theorem dX11_blind_93 : decode cX11_blind 93 = .ok (.bipush 32, 2) := by decide +kernel
theorem dX11_blind_95 : decode cX11_blind 95 = .ok (.if_icmp .ge 26, 3) := by decide +kernel
theorem dX11_blind_98 : decode cX11_blind 98 = .ok (.aload_n 0, 1) := by decide +kernel
theorem dX11_blind_99 : decode cX11_blind 99 = .ok (.getfield 36, 3) := by decide +kernel
theorem dX11_blind_102 : decode cX11_blind 102 = .ok (.iload_n 3, 1) := by decide +kernel
theorem dX11_blind_103 : decode cX11_blind 103 = .ok (.iload_n 1, 1) := by decide +kernel
theorem dX11_blind_104 : decode cX11_blind 104 = .ok (.aload_n 0, 1) := by decide +kernel
theorem dX11_blind_105 : decode cX11_blind 105 = .ok (.getfield 36, 3) := by decide +kernel
theorem dX11_blind_108 : decode cX11_blind 108 = .ok (.iload_n 3, 1) := by decide +kernel
theorem dX11_blind_109 : decode cX11_blind 109 = .ok (.iaload, 1) := by decide +kernel
theorem dX11_blind_110 : decode cX11_blind 110 = .ok (.imul, 1) := by decide +kernel
theorem dX11_blind_111 : decode cX11_blind 111 = .ok (.bipush 97, 2) := by decide +kernel
theorem dX11_blind_113 : decode cX11_blind 113 = .ok (.irem, 1) := by decide +kernel
theorem dX11_blind_114 : decode cX11_blind 114 = .ok (.iastore, 1) := by decide +kernel
theorem dX11_blind_115 : decode cX11_blind 115 = .ok (.iinc 3 1, 3) := by decide +kernel
theorem dX11_blind_118 : decode cX11_blind 118 = .ok (.goto (-26), 3) := by decide +kernel
theorem dX11_blind_121 : decode cX11_blind 121 = .ok (.return_, 1) := by decide +kernel
theorem dX11_mend_0 : decode cX11_mend 0 = .ok (.iconst 0, 1) := by decide +kernel
theorem dX11_mend_1 : decode cX11_mend 1 = .ok (.istore_n 1, 1) := by decide +kernel
theorem dX11_mend_2 : decode cX11_mend 2 = .ok (.iload_n 1, 1) := by decide +kernel
theorem dX11_mend_3 : decode cX11_mend 3 = .ok (.bipush 16, 2) := by decide +kernel
theorem dX11_mend_5 : decode cX11_mend 5 = .ok (.if_icmp .ge 151, 3) := by decide +kernel
theorem dX11_mend_8 : decode cX11_mend 8 = .ok (.aload_n 0, 1) := by decide +kernel
theorem dX11_mend_9 : decode cX11_mend 9 = .ok (.getfield 7, 3) := by decide +kernel
theorem dX11_mend_12 : decode cX11_mend 12 = .ok (.bipush 32, 2) := by decide +kernel
theorem dX11_mend_14 : decode cX11_mend 14 = .ok (.iaload, 1) := by decide +kernel
theorem dX11_mend_15 : decode cX11_mend 15 = .ok (.iload_n 1, 1) := by decide +kernel
theorem dX11_mend_16 : decode cX11_mend 16 = .ok (.invokestatic 123, 3) := by decide +kernel
theorem dX11_mend_19 : decode cX11_mend 19 = .ok (.ifCond .eq 131, 3) := by decide +kernel
theorem dX11_mend_22 : decode cX11_mend 22 = .ok (.iconst 0, 1) := by decide +kernel
theorem dX11_mend_23 : decode cX11_mend 23 = .ok (.istore_n 2, 1) := by decide +kernel
theorem dX11_mend_24 : decode cX11_mend 24 = .ok (.iconst (-1), 1) := by decide +kernel
theorem dX11_mend_25 : decode cX11_mend 25 = .ok (.istore_n 3, 1) := by decide +kernel
theorem dX11_mend_26 : decode cX11_mend 26 = .ok (.iconst 0, 1) := by decide +kernel
theorem dX11_mend_27 : decode cX11_mend 27 = .ok (.istore 4, 2) := by decide +kernel
theorem dX11_mend_29 : decode cX11_mend 29 = .ok (.iload 4, 2) := by decide +kernel
theorem dX11_mend_31 : decode cX11_mend 31 = .ok (.iconst 4, 1) := by decide +kernel
theorem dX11_mend_32 : decode cX11_mend 32 = .ok (.if_icmp .ge 112, 3) := by decide +kernel
theorem dX11_mend_35 : decode cX11_mend 35 = .ok (.aload_n 0, 1) := by decide +kernel
theorem dX11_mend_36 : decode cX11_mend 36 = .ok (.getfield 36, 3) := by decide +kernel
theorem dX11_mend_39 : decode cX11_mend 39 = .ok (.iload_n 1, 1) := by decide +kernel
theorem dX11_mend_40 : decode cX11_mend 40 = .ok (.iaload, 1) := by decide +kernel
theorem dX11_mend_41 : decode cX11_mend 41 = .ok (.iload 4, 2) := by decide +kernel
theorem dX11_mend_43 : decode cX11_mend 43 = .ok (.invokestatic 67, 3) := by decide +kernel
theorem dX11_mend_46 : decode cX11_mend 46 = .ok (.imul, 1) := by decide +kernel
theorem dX11_mend_47 : decode cX11_mend 47 = .ok (.bipush 97, 2) := by decide +kernel
theorem dX11_mend_49 : decode cX11_mend 49 = .ok (.irem, 1) := by decide +kernel
theorem dX11_mend_50 : decode cX11_mend 50 = .ok (.invokestatic 168, 3) := by decide +kernel
theorem dX11_mend_53 : decode cX11_mend 53 = .ok (.aload_n 0, 1) := by decide +kernel
theorem dX11_mend_54 : decode cX11_mend 54 = .ok (.getfield 7, 3) := by decide +kernel
theorem dX11_mend_57 : decode cX11_mend 57 = .ok (.iload_n 1, 1) := by decide +kernel
theorem dX11_mend_58 : decode cX11_mend 58 = .ok (.iaload, 1) := by decide +kernel
theorem dX11_mend_59 : decode cX11_mend 59 = .ok (.if_icmp .ne 7, 3) := by decide +kernel
theorem dX11_mend_62 : decode cX11_mend 62 = .ok (.iconst 1, 1) := by decide +kernel
theorem dX11_mend_63 : decode cX11_mend 63 = .ok (.goto 4, 3) := by decide +kernel
theorem dX11_mend_66 : decode cX11_mend 66 = .ok (.iconst 0, 1) := by decide +kernel
theorem dX11_mend_67 : decode cX11_mend 67 = .ok (.istore 5, 2) := by decide +kernel
theorem dX11_mend_69 : decode cX11_mend 69 = .ok (.iload 5, 2) := by decide +kernel
theorem dX11_mend_71 : decode cX11_mend 71 = .ok (.aload_n 0, 1) := by decide +kernel
theorem dX11_mend_72 : decode cX11_mend 72 = .ok (.getfield 36, 3) := by decide +kernel
theorem dX11_mend_75 : decode cX11_mend 75 = .ok (.bipush 16, 2) := by decide +kernel
theorem dX11_mend_77 : decode cX11_mend 77 = .ok (.iload_n 1, 1) := by decide +kernel
theorem dX11_mend_78 : decode cX11_mend 78 = .ok (.iadd, 1) := by decide +kernel
theorem dX11_mend_79 : decode cX11_mend 79 = .ok (.iaload, 1) := by decide +kernel
theorem dX11_mend_80 : decode cX11_mend 80 = .ok (.iload 4, 2) := by decide +kernel
theorem dX11_mend_82 : decode cX11_mend 82 = .ok (.invokestatic 67, 3) := by decide +kernel
theorem dX11_mend_85 : decode cX11_mend 85 = .ok (.imul, 1) := by decide +kernel
theorem dX11_mend_86 : decode cX11_mend 86 = .ok (.bipush 97, 2) := by decide +kernel
theorem dX11_mend_88 : decode cX11_mend 88 = .ok (.irem, 1) := by decide +kernel
theorem dX11_mend_89 : decode cX11_mend 89 = .ok (.invokestatic 168, 3) := by decide +kernel
theorem dX11_mend_92 : decode cX11_mend 92 = .ok (.aload_n 0, 1) := by decide +kernel
theorem dX11_mend_93 : decode cX11_mend 93 = .ok (.getfield 7, 3) := by decide +kernel
theorem dX11_mend_96 : decode cX11_mend 96 = .ok (.bipush 16, 2) := by decide +kernel
theorem dX11_mend_98 : decode cX11_mend 98 = .ok (.iload_n 1, 1) := by decide +kernel
theorem dX11_mend_99 : decode cX11_mend 99 = .ok (.iadd, 1) := by decide +kernel
theorem dX11_mend_100 : decode cX11_mend 100 = .ok (.iaload, 1) := by decide +kernel
theorem dX11_mend_101 : decode cX11_mend 101 = .ok (.if_icmp .ne 7, 3) := by decide +kernel
theorem dX11_mend_104 : decode cX11_mend 104 = .ok (.iconst 1, 1) := by decide +kernel
theorem dX11_mend_105 : decode cX11_mend 105 = .ok (.goto 4, 3) := by decide +kernel
theorem dX11_mend_108 : decode cX11_mend 108 = .ok (.iconst 0, 1) := by decide +kernel
theorem dX11_mend_109 : decode cX11_mend 109 = .ok (.iadd, 1) := by decide +kernel
theorem dX11_mend_110 : decode cX11_mend 110 = .ok (.istore 5, 2) := by decide +kernel
theorem dX11_mend_112 : decode cX11_mend 112 = .ok (.iload 5, 2) := by decide +kernel
theorem dX11_mend_114 : decode cX11_mend 114 = .ok (.iload_n 3, 1) := by decide +kernel
theorem dX11_mend_115 : decode cX11_mend 115 = .ok (.if_icmp .le 8, 3) := by decide +kernel
theorem dX11_mend_118 : decode cX11_mend 118 = .ok (.iload 4, 2) := by decide +kernel
theorem dX11_mend_120 : decode cX11_mend 120 = .ok (.goto 4, 3) := by decide +kernel
theorem dX11_mend_123 : decode cX11_mend 123 = .ok (.iload_n 2, 1) := by decide +kernel
theorem dX11_mend_124 : decode cX11_mend 124 = .ok (.istore_n 2, 1) := by decide +kernel
theorem dX11_mend_125 : decode cX11_mend 125 = .ok (.iload 5, 2) := by decide +kernel
theorem dX11_mend_127 : decode cX11_mend 127 = .ok (.iload_n 3, 1) := by decide +kernel
theorem dX11_mend_128 : decode cX11_mend 128 = .ok (.if_icmp .le 8, 3) := by decide +kernel
theorem dX11_mend_131 : decode cX11_mend 131 = .ok (.iload 5, 2) := by decide +kernel
theorem dX11_mend_133 : decode cX11_mend 133 = .ok (.goto 4, 3) := by decide +kernel
theorem dX11_mend_136 : decode cX11_mend 136 = .ok (.iload_n 3, 1) := by decide +kernel
theorem dX11_mend_137 : decode cX11_mend 137 = .ok (.istore_n 3, 1) := by decide +kernel
theorem dX11_mend_138 : decode cX11_mend 138 = .ok (.iinc 4 1, 3) := by decide +kernel
theorem dX11_mend_141 : decode cX11_mend 141 = .ok (.goto (-112), 3) := by decide +kernel
theorem dX11_mend_144 : decode cX11_mend 144 = .ok (.aload_n 0, 1) := by decide +kernel
theorem dX11_mend_145 : decode cX11_mend 145 = .ok (.iload_n 1, 1) := by decide +kernel
theorem dX11_mend_146 : decode cX11_mend 146 = .ok (.iload_n 2, 1) := by decide +kernel
theorem dX11_mend_147 : decode cX11_mend 147 = .ok (.invokevirtual 171, 3) := by decide +kernel
theorem dX11_mend_150 : decode cX11_mend 150 = .ok (.iinc 1 1, 3) := by decide +kernel
theorem dX11_mend_153 : decode cX11_mend 153 = .ok (.goto (-151), 3) := by decide +kernel
theorem dX11_mend_156 : decode cX11_mend 156 = .ok (.return_, 1) := by decide +kernel
theorem dX11_mendFrom_0 : decode cX11_mendFrom 0 = .ok (.iload_n 1, 1) := by decide +kernel
theorem dX11_mendFrom_1 : decode cX11_mendFrom 1 = .ok (.istore_n 3, 1) := by decide +kernel
theorem dX11_mendFrom_2 : decode cX11_mendFrom 2 = .ok (.iconst 1, 1) := by decide +kernel
theorem dX11_mendFrom_3 : decode cX11_mendFrom 3 = .ok (.istore 4, 2) := by decide +kernel
theorem dX11_mendFrom_5 : decode cX11_mendFrom 5 = .ok (.iload 4, 2) := by decide +kernel
theorem dX11_mendFrom_7 : decode cX11_mendFrom 7 = .ok (.ifCond .eq 80, 3) := by decide +kernel
theorem dX11_mendFrom_10 : decode cX11_mendFrom 10 = .ok (.aload_n 0, 1) := by decide +kernel
theorem dX11_mendFrom_11 : decode cX11_mendFrom 11 = .ok (.getfield 36, 3) := by decide +kernel
theorem dX11_mendFrom_14 : decode cX11_mendFrom 14 = .ok (.iload_n 3, 1) := by decide +kernel
theorem dX11_mendFrom_15 : decode cX11_mendFrom 15 = .ok (.aload_n 0, 1) := by decide +kernel
theorem dX11_mendFrom_16 : decode cX11_mendFrom 16 = .ok (.getfield 36, 3) := by decide +kernel
theorem dX11_mendFrom_19 : decode cX11_mendFrom 19 = .ok (.iload_n 3, 1) := by decide +kernel
theorem dX11_mendFrom_20 : decode cX11_mendFrom 20 = .ok (.iaload, 1) := by decide +kernel
theorem dX11_mendFrom_21 : decode cX11_mendFrom 21 = .ok (.iload_n 2, 1) := by decide +kernel
theorem dX11_mendFrom_22 : decode cX11_mendFrom 22 = .ok (.invokestatic 67, 3) := by decide +kernel
theorem dX11_mendFrom_25 : decode cX11_mendFrom 25 = .ok (.imul, 1) := by decide +kernel
theorem dX11_mendFrom_26 : decode cX11_mendFrom 26 = .ok (.bipush 97, 2) := by decide +kernel
theorem dX11_mendFrom_28 : decode cX11_mendFrom 28 = .ok (.irem, 1) := by decide +kernel
theorem dX11_mendFrom_29 : decode cX11_mendFrom 29 = .ok (.iastore, 1) := by decide +kernel
theorem dX11_mendFrom_30 : decode cX11_mendFrom 30 = .ok (.aload_n 0, 1) := by decide +kernel
theorem dX11_mendFrom_31 : decode cX11_mendFrom 31 = .ok (.getfield 36, 3) := by decide +kernel
theorem dX11_mendFrom_34 : decode cX11_mendFrom 34 = .ok (.bipush 16, 2) := by decide +kernel
theorem dX11_mendFrom_36 : decode cX11_mendFrom 36 = .ok (.iload_n 3, 1) := by decide +kernel
theorem dX11_mendFrom_37 : decode cX11_mendFrom 37 = .ok (.iadd, 1) := by decide +kernel
theorem dX11_mendFrom_38 : decode cX11_mendFrom 38 = .ok (.aload_n 0, 1) := by decide +kernel
theorem dX11_mendFrom_39 : decode cX11_mendFrom 39 = .ok (.getfield 36, 3) := by decide +kernel
theorem dX11_mendFrom_42 : decode cX11_mendFrom 42 = .ok (.bipush 16, 2) := by decide +kernel
theorem dX11_mendFrom_44 : decode cX11_mendFrom 44 = .ok (.iload_n 3, 1) := by decide +kernel
theorem dX11_mendFrom_45 : decode cX11_mendFrom 45 = .ok (.iadd, 1) := by decide +kernel
theorem dX11_mendFrom_46 : decode cX11_mendFrom 46 = .ok (.iaload, 1) := by decide +kernel
theorem dX11_mendFrom_47 : decode cX11_mendFrom 47 = .ok (.iload_n 2, 1) := by decide +kernel
theorem dX11_mendFrom_48 : decode cX11_mendFrom 48 = .ok (.invokestatic 67, 3) := by decide +kernel
theorem dX11_mendFrom_51 : decode cX11_mendFrom 51 = .ok (.imul, 1) := by decide +kernel
theorem dX11_mendFrom_52 : decode cX11_mendFrom 52 = .ok (.bipush 97, 2) := by decide +kernel
theorem dX11_mendFrom_54 : decode cX11_mendFrom 54 = .ok (.irem, 1) := by decide +kernel
theorem dX11_mendFrom_55 : decode cX11_mendFrom 55 = .ok (.iastore, 1) := by decide +kernel
theorem dX11_mendFrom_56 : decode cX11_mendFrom 56 = .ok (.iload_n 3, 1) := by decide +kernel
theorem dX11_mendFrom_57 : decode cX11_mendFrom 57 = .ok (.iconst 1, 1) := by decide +kernel
theorem dX11_mendFrom_58 : decode cX11_mendFrom 58 = .ok (.iadd, 1) := by decide +kernel
theorem dX11_mendFrom_59 : decode cX11_mendFrom 59 = .ok (.bipush 16, 2) := by decide +kernel
theorem dX11_mendFrom_61 : decode cX11_mendFrom 61 = .ok (.irem, 1) := by decide +kernel
theorem dX11_mendFrom_62 : decode cX11_mendFrom 62 = .ok (.istore_n 3, 1) := by decide +kernel
theorem dX11_mendFrom_63 : decode cX11_mendFrom 63 = .ok (.aload_n 0, 1) := by decide +kernel
theorem dX11_mendFrom_64 : decode cX11_mendFrom 64 = .ok (.getfield 7, 3) := by decide +kernel
theorem dX11_mendFrom_67 : decode cX11_mendFrom 67 = .ok (.bipush 32, 2) := by decide +kernel
theorem dX11_mendFrom_69 : decode cX11_mendFrom 69 = .ok (.iaload, 1) := by decide +kernel
theorem dX11_mendFrom_70 : decode cX11_mendFrom 70 = .ok (.iload_n 3, 1) := by decide +kernel
theorem dX11_mendFrom_71 : decode cX11_mendFrom 71 = .ok (.invokestatic 123, 3) := by decide +kernel
theorem dX11_mendFrom_74 : decode cX11_mendFrom 74 = .ok (.ifCond .ne 7, 3) := by decide +kernel
theorem dX11_mendFrom_77 : decode cX11_mendFrom 77 = .ok (.iconst 1, 1) := by decide +kernel
theorem dX11_mendFrom_78 : decode cX11_mendFrom 78 = .ok (.goto 4, 3) := by decide +kernel
theorem dX11_mendFrom_81 : decode cX11_mendFrom 81 = .ok (.iconst 0, 1) := by decide +kernel
theorem dX11_mendFrom_82 : decode cX11_mendFrom 82 = .ok (.istore 4, 2) := by decide +kernel
theorem dX11_mendFrom_84 : decode cX11_mendFrom 84 = .ok (.goto (-79), 3) := by decide +kernel
theorem dX11_mendFrom_87 : decode cX11_mendFrom 87 = .ok (.return_, 1) := by decide +kernel
theorem dX11_doDeed_0 : decode cX11_doDeed 0 = .ok (.aload_n 0, 1) := by decide +kernel
theorem dX11_doDeed_1 : decode cX11_doDeed 1 = .ok (.getfield 7, 3) := by decide +kernel
theorem dX11_doDeed_4 : decode cX11_doDeed 4 = .ok (.iload_n 1, 1) := by decide +kernel
theorem dX11_doDeed_5 : decode cX11_doDeed 5 = .ok (.iconst 1, 1) := by decide +kernel
theorem dX11_doDeed_6 : decode cX11_doDeed 6 = .ok (.iadd, 1) := by decide +kernel
theorem dX11_doDeed_7 : decode cX11_doDeed 7 = .ok (.iaload, 1) := by decide +kernel
theorem dX11_doDeed_8 : decode cX11_doDeed 8 = .ok (.istore_n 2, 1) := by decide +kernel
theorem dX11_doDeed_9 : decode cX11_doDeed 9 = .ok (.aload_n 0, 1) := by decide +kernel
theorem dX11_doDeed_10 : decode cX11_doDeed 10 = .ok (.getfield 7, 3) := by decide +kernel
theorem dX11_doDeed_13 : decode cX11_doDeed 13 = .ok (.iload_n 1, 1) := by decide +kernel
theorem dX11_doDeed_14 : decode cX11_doDeed 14 = .ok (.iconst 2, 1) := by decide +kernel
theorem dX11_doDeed_15 : decode cX11_doDeed 15 = .ok (.iadd, 1) := by decide +kernel
theorem dX11_doDeed_16 : decode cX11_doDeed 16 = .ok (.iaload, 1) := by decide +kernel
theorem dX11_doDeed_17 : decode cX11_doDeed 17 = .ok (.istore_n 3, 1) := by decide +kernel
theorem dX11_doDeed_18 : decode cX11_doDeed 18 = .ok (.aload_n 0, 1) := by decide +kernel
theorem dX11_doDeed_19 : decode cX11_doDeed 19 = .ok (.getfield 7, 3) := by decide +kernel
theorem dX11_doDeed_22 : decode cX11_doDeed 22 = .ok (.iload_n 1, 1) := by decide +kernel
theorem dX11_doDeed_23 : decode cX11_doDeed 23 = .ok (.iaload, 1) := by decide +kernel
theorem dX11_doDeed_24 : decode cX11_doDeed 24 = .ok (.tableswitch 82 0 3 #[32, 40, 65, 74], 32) := by decide +kernel
theorem dX11_doDeed_56 : decode cX11_doDeed 56 = .ok (.aload_n 0, 1) := by decide +kernel
theorem dX11_doDeed_57 : decode cX11_doDeed 57 = .ok (.iload_n 2, 1) := by decide +kernel
theorem dX11_doDeed_58 : decode cX11_doDeed 58 = .ok (.invokevirtual 175, 3) := by decide +kernel
theorem dX11_doDeed_61 : decode cX11_doDeed 61 = .ok (.goto 79, 3) := by decide +kernel
theorem dX11_doDeed_64 : decode cX11_doDeed 64 = .ok (.aload_n 0, 1) := by decide +kernel
theorem dX11_doDeed_65 : decode cX11_doDeed 65 = .ok (.iload_n 2, 1) := by decide +kernel
theorem dX11_doDeed_66 : decode cX11_doDeed 66 = .ok (.iload_n 3, 1) := by decide +kernel
theorem dX11_doDeed_67 : decode cX11_doDeed 67 = .ok (.aload_n 0, 1) := by decide +kernel
theorem dX11_doDeed_68 : decode cX11_doDeed 68 = .ok (.getfield 7, 3) := by decide +kernel
theorem dX11_doDeed_71 : decode cX11_doDeed 71 = .ok (.iload_n 1, 1) := by decide +kernel
theorem dX11_doDeed_72 : decode cX11_doDeed 72 = .ok (.iconst 3, 1) := by decide +kernel
theorem dX11_doDeed_73 : decode cX11_doDeed 73 = .ok (.iadd, 1) := by decide +kernel
theorem dX11_doDeed_74 : decode cX11_doDeed 74 = .ok (.iaload, 1) := by decide +kernel
theorem dX11_doDeed_75 : decode cX11_doDeed 75 = .ok (.aload_n 0, 1) := by decide +kernel
theorem dX11_doDeed_76 : decode cX11_doDeed 76 = .ok (.getfield 7, 3) := by decide +kernel
theorem dX11_doDeed_79 : decode cX11_doDeed 79 = .ok (.iload_n 1, 1) := by decide +kernel
theorem dX11_doDeed_80 : decode cX11_doDeed 80 = .ok (.iconst 4, 1) := by decide +kernel
theorem dX11_doDeed_81 : decode cX11_doDeed 81 = .ok (.iadd, 1) := by decide +kernel
theorem dX11_doDeed_82 : decode cX11_doDeed 82 = .ok (.iaload, 1) := by decide +kernel
theorem dX11_doDeed_83 : decode cX11_doDeed 83 = .ok (.invokevirtual 160, 3) := by decide +kernel
theorem dX11_doDeed_86 : decode cX11_doDeed 86 = .ok (.goto 54, 3) := by decide +kernel
theorem dX11_doDeed_89 : decode cX11_doDeed 89 = .ok (.aload_n 0, 1) := by decide +kernel
theorem dX11_doDeed_90 : decode cX11_doDeed 90 = .ok (.iload_n 2, 1) := by decide +kernel
theorem dX11_doDeed_91 : decode cX11_doDeed 91 = .ok (.iload_n 3, 1) := by decide +kernel
theorem dX11_doDeed_92 : decode cX11_doDeed 92 = .ok (.invokevirtual 178, 3) := by decide +kernel
theorem dX11_doDeed_95 : decode cX11_doDeed 95 = .ok (.goto 45, 3) := by decide +kernel
theorem dX11_doDeed_98 : decode cX11_doDeed 98 = .ok (.aload_n 0, 1) := by decide +kernel
theorem dX11_doDeed_99 : decode cX11_doDeed 99 = .ok (.iload_n 2, 1) := by decide +kernel
theorem dX11_doDeed_100 : decode cX11_doDeed 100 = .ok (.invokevirtual 181, 3) := by decide +kernel
theorem dX11_doDeed_103 : decode cX11_doDeed 103 = .ok (.goto 37, 3) := by decide +kernel
theorem dX11_doDeed_106 : decode cX11_doDeed 106 = .ok (.aload_n 0, 1) := by decide +kernel
theorem dX11_doDeed_107 : decode cX11_doDeed 107 = .ok (.getfield 36, 3) := by decide +kernel
theorem dX11_doDeed_110 : decode cX11_doDeed 110 = .ok (.bipush 16, 2) := by decide +kernel
theorem dX11_doDeed_112 : decode cX11_doDeed 112 = .ok (.iload_n 2, 1) := by decide +kernel
theorem dX11_doDeed_113 : decode cX11_doDeed 113 = .ok (.imul, 1) := by decide +kernel
theorem dX11_doDeed_114 : decode cX11_doDeed 114 = .ok (.iload_n 3, 1) := by decide +kernel
theorem dX11_doDeed_115 : decode cX11_doDeed 115 = .ok (.iadd, 1) := by decide +kernel
theorem dX11_doDeed_116 : decode cX11_doDeed 116 = .ok (.aload_n 0, 1) := by decide +kernel
theorem dX11_doDeed_117 : decode cX11_doDeed 117 = .ok (.getfield 36, 3) := by decide +kernel
theorem dX11_doDeed_120 : decode cX11_doDeed 120 = .ok (.bipush 16, 2) := by decide +kernel
theorem dX11_doDeed_122 : decode cX11_doDeed 122 = .ok (.iload_n 2, 1) := by decide +kernel
theorem dX11_doDeed_123 : decode cX11_doDeed 123 = .ok (.imul, 1) := by decide +kernel
theorem dX11_doDeed_124 : decode cX11_doDeed 124 = .ok (.iload_n 3, 1) := by decide +kernel
theorem dX11_doDeed_125 : decode cX11_doDeed 125 = .ok (.iadd, 1) := by decide +kernel
theorem dX11_doDeed_126 : decode cX11_doDeed 126 = .ok (.iaload, 1) := by decide +kernel
theorem dX11_doDeed_127 : decode cX11_doDeed 127 = .ok (.aload_n 0, 1) := by decide +kernel
theorem dX11_doDeed_128 : decode cX11_doDeed 128 = .ok (.getfield 7, 3) := by decide +kernel
theorem dX11_doDeed_131 : decode cX11_doDeed 131 = .ok (.iload_n 1, 1) := by decide +kernel
theorem dX11_doDeed_132 : decode cX11_doDeed 132 = .ok (.iconst 3, 1) := by decide +kernel
theorem dX11_doDeed_133 : decode cX11_doDeed 133 = .ok (.iadd, 1) := by decide +kernel
theorem dX11_doDeed_134 : decode cX11_doDeed 134 = .ok (.iaload, 1) := by decide +kernel
theorem dX11_doDeed_135 : decode cX11_doDeed 135 = .ok (.iadd, 1) := by decide +kernel
theorem dX11_doDeed_136 : decode cX11_doDeed 136 = .ok (.bipush 97, 2) := by decide +kernel
theorem dX11_doDeed_138 : decode cX11_doDeed 138 = .ok (.irem, 1) := by decide +kernel
theorem dX11_doDeed_139 : decode cX11_doDeed 139 = .ok (.iastore, 1) := by decide +kernel
theorem dX11_doDeed_140 : decode cX11_doDeed 140 = .ok (.return_, 1) := by decide +kernel
theorem dX11_doStage_0 : decode cX11_doStage 0 = .ok (.aload_n 0, 1) := by decide +kernel
theorem dX11_doStage_1 : decode cX11_doStage 1 = .ok (.getfield 7, 3) := by decide +kernel
theorem dX11_doStage_4 : decode cX11_doStage 4 = .ok (.iload_n 1, 1) := by decide +kernel
theorem dX11_doStage_5 : decode cX11_doStage 5 = .ok (.iaload, 1) := by decide +kernel
theorem dX11_doStage_6 : decode cX11_doStage 6 = .ok (.tableswitch 109 0 3 #[30, 45, 84, 102], 30) := by decide +kernel
theorem dX11_doStage_36 : decode cX11_doStage 36 = .ok (.aload_n 0, 1) := by decide +kernel
theorem dX11_doStage_37 : decode cX11_doStage 37 = .ok (.aload_n 0, 1) := by decide +kernel
theorem dX11_doStage_38 : decode cX11_doStage 38 = .ok (.getfield 7, 3) := by decide +kernel
theorem dX11_doStage_41 : decode cX11_doStage 41 = .ok (.iload_n 1, 1) := by decide +kernel
theorem dX11_doStage_42 : decode cX11_doStage 42 = .ok (.iconst 1, 1) := by decide +kernel
theorem dX11_doStage_43 : decode cX11_doStage 43 = .ok (.iadd, 1) := by decide +kernel
theorem dX11_doStage_44 : decode cX11_doStage 44 = .ok (.iaload, 1) := by decide +kernel
theorem dX11_doStage_45 : decode cX11_doStage 45 = .ok (.invokevirtual 184, 3) := by decide +kernel
theorem dX11_doStage_48 : decode cX11_doStage 48 = .ok (.goto 71, 3) := by decide +kernel
theorem dX11_doStage_51 : decode cX11_doStage 51 = .ok (.aload_n 0, 1) := by decide +kernel
theorem dX11_doStage_52 : decode cX11_doStage 52 = .ok (.aload_n 0, 1) := by decide +kernel
theorem dX11_doStage_53 : decode cX11_doStage 53 = .ok (.getfield 7, 3) := by decide +kernel
theorem dX11_doStage_56 : decode cX11_doStage 56 = .ok (.iload_n 1, 1) := by decide +kernel
theorem dX11_doStage_57 : decode cX11_doStage 57 = .ok (.iconst 1, 1) := by decide +kernel
theorem dX11_doStage_58 : decode cX11_doStage 58 = .ok (.iadd, 1) := by decide +kernel
theorem dX11_doStage_59 : decode cX11_doStage 59 = .ok (.iaload, 1) := by decide +kernel
theorem dX11_doStage_60 : decode cX11_doStage 60 = .ok (.aload_n 0, 1) := by decide +kernel
theorem dX11_doStage_61 : decode cX11_doStage 61 = .ok (.getfield 7, 3) := by decide +kernel
theorem dX11_doStage_64 : decode cX11_doStage 64 = .ok (.iload_n 1, 1) := by decide +kernel
theorem dX11_doStage_65 : decode cX11_doStage 65 = .ok (.iconst 2, 1) := by decide +kernel
theorem dX11_doStage_66 : decode cX11_doStage 66 = .ok (.iadd, 1) := by decide +kernel
theorem dX11_doStage_67 : decode cX11_doStage 67 = .ok (.iaload, 1) := by decide +kernel
theorem dX11_doStage_68 : decode cX11_doStage 68 = .ok (.aload_n 0, 1) := by decide +kernel
theorem dX11_doStage_69 : decode cX11_doStage 69 = .ok (.getfield 7, 3) := by decide +kernel
theorem dX11_doStage_72 : decode cX11_doStage 72 = .ok (.iload_n 1, 1) := by decide +kernel
theorem dX11_doStage_73 : decode cX11_doStage 73 = .ok (.iconst 3, 1) := by decide +kernel
theorem dX11_doStage_74 : decode cX11_doStage 74 = .ok (.iadd, 1) := by decide +kernel
theorem dX11_doStage_75 : decode cX11_doStage 75 = .ok (.iaload, 1) := by decide +kernel
theorem dX11_doStage_76 : decode cX11_doStage 76 = .ok (.aload_n 0, 1) := by decide +kernel
theorem dX11_doStage_77 : decode cX11_doStage 77 = .ok (.getfield 7, 3) := by decide +kernel
theorem dX11_doStage_80 : decode cX11_doStage 80 = .ok (.iload_n 1, 1) := by decide +kernel
theorem dX11_doStage_81 : decode cX11_doStage 81 = .ok (.iconst 4, 1) := by decide +kernel
theorem dX11_doStage_82 : decode cX11_doStage 82 = .ok (.iadd, 1) := by decide +kernel
theorem dX11_doStage_83 : decode cX11_doStage 83 = .ok (.iaload, 1) := by decide +kernel
theorem dX11_doStage_84 : decode cX11_doStage 84 = .ok (.invokevirtual 187, 3) := by decide +kernel
theorem dX11_doStage_87 : decode cX11_doStage 87 = .ok (.goto 32, 3) := by decide +kernel
theorem dX11_doStage_90 : decode cX11_doStage 90 = .ok (.aload_n 0, 1) := by decide +kernel
theorem dX11_doStage_91 : decode cX11_doStage 91 = .ok (.bipush 16, 2) := by decide +kernel
theorem dX11_doStage_93 : decode cX11_doStage 93 = .ok (.aload_n 0, 1) := by decide +kernel
theorem dX11_doStage_94 : decode cX11_doStage 94 = .ok (.getfield 7, 3) := by decide +kernel
theorem dX11_doStage_97 : decode cX11_doStage 97 = .ok (.iload_n 1, 1) := by decide +kernel
theorem dX11_doStage_98 : decode cX11_doStage 98 = .ok (.iconst 1, 1) := by decide +kernel
theorem dX11_doStage_99 : decode cX11_doStage 99 = .ok (.iadd, 1) := by decide +kernel
theorem dX11_doStage_100 : decode cX11_doStage 100 = .ok (.iaload, 1) := by decide +kernel
theorem dX11_doStage_101 : decode cX11_doStage 101 = .ok (.isub, 1) := by decide +kernel
theorem dX11_doStage_102 : decode cX11_doStage 102 = .ok (.invokevirtual 181, 3) := by decide +kernel
theorem dX11_doStage_105 : decode cX11_doStage 105 = .ok (.goto 14, 3) := by decide +kernel
theorem dX11_doStage_108 : decode cX11_doStage 108 = .ok (.aload_n 0, 1) := by decide +kernel
theorem dX11_doStage_109 : decode cX11_doStage 109 = .ok (.invokevirtual 190, 3) := by decide +kernel
theorem dX11_doStage_112 : decode cX11_doStage 112 = .ok (.goto 7, 3) := by decide +kernel
theorem dX11_doStage_115 : decode cX11_doStage 115 = .ok (.aload_n 0, 1) := by decide +kernel
theorem dX11_doStage_116 : decode cX11_doStage 116 = .ok (.invokevirtual 193, 3) := by decide +kernel
theorem dX11_doStage_119 : decode cX11_doStage 119 = .ok (.return_, 1) := by decide +kernel
theorem dX11_layAir_0 : decode cX11_layAir 0 = .ok (.iconst 0, 1) := by decide +kernel
theorem dX11_layAir_1 : decode cX11_layAir 1 = .ok (.istore_n 1, 1) := by decide +kernel
theorem dX11_layAir_2 : decode cX11_layAir 2 = .ok (.iload_n 1, 1) := by decide +kernel
theorem dX11_layAir_3 : decode cX11_layAir 3 = .ok (.bipush 32, 2) := by decide +kernel
theorem dX11_layAir_5 : decode cX11_layAir 5 = .ok (.if_icmp .ge 24, 3) := by decide +kernel
theorem dX11_layAir_8 : decode cX11_layAir 8 = .ok (.aload_n 0, 1) := by decide +kernel
theorem dX11_layAir_9 : decode cX11_layAir 9 = .ok (.getfield 36, 3) := by decide +kernel
theorem dX11_layAir_12 : decode cX11_layAir 12 = .ok (.iload_n 1, 1) := by decide +kernel
theorem dX11_layAir_13 : decode cX11_layAir 13 = .ok (.aload_n 0, 1) := by decide +kernel
theorem dX11_layAir_14 : decode cX11_layAir 14 = .ok (.getfield 7, 3) := by decide +kernel
theorem dX11_layAir_17 : decode cX11_layAir 17 = .ok (.iload_n 1, 1) := by decide +kernel
theorem dX11_layAir_18 : decode cX11_layAir 18 = .ok (.iaload, 1) := by decide +kernel
theorem dX11_layAir_19 : decode cX11_layAir 19 = .ok (.invokestatic 67, 3) := by decide +kernel
theorem dX11_layAir_22 : decode cX11_layAir 22 = .ok (.iastore, 1) := by decide +kernel
theorem dX11_layAir_23 : decode cX11_layAir 23 = .ok (.iinc 1 1, 3) := by decide +kernel
theorem dX11_layAir_26 : decode cX11_layAir 26 = .ok (.goto (-24), 3) := by decide +kernel
theorem dX11_layAir_29 : decode cX11_layAir 29 = .ok (.iconst 0, 1) := by decide +kernel
theorem dX11_layAir_30 : decode cX11_layAir 30 = .ok (.istore_n 1, 1) := by decide +kernel
theorem dX11_layAir_31 : decode cX11_layAir 31 = .ok (.iload_n 1, 1) := by decide +kernel
theorem dX11_layAir_32 : decode cX11_layAir 32 = .ok (.aload_n 0, 1) := by decide +kernel
theorem dX11_layAir_33 : decode cX11_layAir 33 = .ok (.getfield 7, 3) := by decide +kernel
theorem dX11_layAir_36 : decode cX11_layAir 36 = .ok (.bipush 33, 2) := by decide +kernel
theorem dX11_layAir_38 : decode cX11_layAir 38 = .ok (.iaload, 1) := by decide +kernel
theorem dX11_layAir_39 : decode cX11_layAir 39 = .ok (.if_icmp .ge 19, 3) := by decide +kernel
theorem dX11_layAir_42 : decode cX11_layAir 42 = .ok (.aload_n 0, 1) := by decide +kernel
theorem dX11_layAir_43 : decode cX11_layAir 43 = .ok (.bipush 34, 2) := by decide +kernel
theorem dX11_layAir_45 : decode cX11_layAir 45 = .ok (.iconst 5, 1) := by decide +kernel
theorem dX11_layAir_46 : decode cX11_layAir 46 = .ok (.iload_n 1, 1) := by decide +kernel
theorem dX11_layAir_47 : decode cX11_layAir 47 = .ok (.imul, 1) := by decide +kernel
theorem dX11_layAir_48 : decode cX11_layAir 48 = .ok (.iadd, 1) := by decide +kernel
theorem dX11_layAir_49 : decode cX11_layAir 49 = .ok (.invokevirtual 196, 3) := by decide +kernel
theorem dX11_layAir_52 : decode cX11_layAir 52 = .ok (.iinc 1 1, 3) := by decide +kernel
theorem dX11_layAir_55 : decode cX11_layAir 55 = .ok (.goto (-24), 3) := by decide +kernel
theorem dX11_layAir_58 : decode cX11_layAir 58 = .ok (.return_, 1) := by decide +kernel
theorem dX11_goThrough_0 : decode cX11_goThrough 0 = .ok (.iconst 0, 1) := by decide +kernel
theorem dX11_goThrough_1 : decode cX11_goThrough 1 = .ok (.istore_n 2, 1) := by decide +kernel
theorem dX11_goThrough_2 : decode cX11_goThrough 2 = .ok (.iload_n 2, 1) := by decide +kernel
theorem dX11_goThrough_3 : decode cX11_goThrough 3 = .ok (.iload_n 1, 1) := by decide +kernel
theorem dX11_goThrough_4 : decode cX11_goThrough 4 = .ok (.if_icmp .ge 19, 3) := by decide +kernel
theorem dX11_goThrough_7 : decode cX11_goThrough 7 = .ok (.aload_n 0, 1) := by decide +kernel
theorem dX11_goThrough_8 : decode cX11_goThrough 8 = .ok (.bipush 65, 2) := by decide +kernel
theorem dX11_goThrough_10 : decode cX11_goThrough 10 = .ok (.iconst 5, 1) := by decide +kernel
theorem dX11_goThrough_11 : decode cX11_goThrough 11 = .ok (.iload_n 2, 1) := by decide +kernel
theorem dX11_goThrough_12 : decode cX11_goThrough 12 = .ok (.imul, 1) := by decide +kernel
theorem dX11_goThrough_13 : decode cX11_goThrough 13 = .ok (.iadd, 1) := by decide +kernel
theorem dX11_goThrough_14 : decode cX11_goThrough 14 = .ok (.invokevirtual 199, 3) := by decide +kernel
theorem dX11_goThrough_17 : decode cX11_goThrough 17 = .ok (.iinc 2 1, 3) := by decide +kernel
theorem dX11_goThrough_20 : decode cX11_goThrough 20 = .ok (.goto (-18), 3) := by decide +kernel
theorem dX11_goThrough_23 : decode cX11_goThrough 23 = .ok (.return_, 1) := by decide +kernel
theorem dX11_layReceived_0 : decode cX11_layReceived 0 = .ok (.aload_n 0, 1) := by decide +kernel
theorem dX11_layReceived_1 : decode cX11_layReceived 1 = .ok (.invokevirtual 202, 3) := by decide +kernel
theorem dX11_layReceived_4 : decode cX11_layReceived 4 = .ok (.aload_n 0, 1) := by decide +kernel
theorem dX11_layReceived_5 : decode cX11_layReceived 5 = .ok (.aload_n 0, 1) := by decide +kernel
theorem dX11_layReceived_6 : decode cX11_layReceived 6 = .ok (.getfield 7, 3) := by decide +kernel
theorem dX11_layReceived_9 : decode cX11_layReceived 9 = .ok (.bipush 64, 2) := by decide +kernel
theorem dX11_layReceived_11 : decode cX11_layReceived 11 = .ok (.iaload, 1) := by decide +kernel
theorem dX11_layReceived_12 : decode cX11_layReceived 12 = .ok (.invokevirtual 205, 3) := by decide +kernel
theorem dX11_layReceived_15 : decode cX11_layReceived 15 = .ok (.return_, 1) := by decide +kernel
theorem dX11_wrongNow_0 : decode cX11_wrongNow 0 = .ok (.iconst 0, 1) := by decide +kernel
theorem dX11_wrongNow_1 : decode cX11_wrongNow 1 = .ok (.istore_n 1, 1) := by decide +kernel
theorem dX11_wrongNow_2 : decode cX11_wrongNow 2 = .ok (.iconst 0, 1) := by decide +kernel
theorem dX11_wrongNow_3 : decode cX11_wrongNow 3 = .ok (.istore_n 2, 1) := by decide +kernel
theorem dX11_wrongNow_4 : decode cX11_wrongNow 4 = .ok (.iload_n 2, 1) := by decide +kernel
theorem dX11_wrongNow_5 : decode cX11_wrongNow 5 = .ok (.bipush 32, 2) := by decide +kernel
theorem dX11_wrongNow_7 : decode cX11_wrongNow 7 = .ok (.if_icmp .ge 35, 3) := by decide +kernel
theorem dX11_wrongNow_10 : decode cX11_wrongNow 10 = .ok (.iload_n 1, 1) := by decide +kernel
theorem dX11_wrongNow_11 : decode cX11_wrongNow 11 = .ok (.aload_n 0, 1) := by decide +kernel
theorem dX11_wrongNow_12 : decode cX11_wrongNow 12 = .ok (.getfield 36, 3) := by decide +kernel
theorem dX11_wrongNow_15 : decode cX11_wrongNow 15 = .ok (.iload_n 2, 1) := by decide +kernel
theorem dX11_wrongNow_16 : decode cX11_wrongNow 16 = .ok (.iaload, 1) := by decide +kernel
theorem dX11_wrongNow_17 : decode cX11_wrongNow 17 = .ok (.invokestatic 168, 3) := by decide +kernel
theorem dX11_wrongNow_20 : decode cX11_wrongNow 20 = .ok (.aload_n 0, 1) := by decide +kernel
theorem dX11_wrongNow_21 : decode cX11_wrongNow 21 = .ok (.getfield 7, 3) := by decide +kernel
theorem dX11_wrongNow_24 : decode cX11_wrongNow 24 = .ok (.iload_n 2, 1) := by decide +kernel
theorem dX11_wrongNow_25 : decode cX11_wrongNow 25 = .ok (.iaload, 1) := by decide +kernel
theorem dX11_wrongNow_26 : decode cX11_wrongNow 26 = .ok (.if_icmp .ne 7, 3) := by decide +kernel
theorem dX11_wrongNow_29 : decode cX11_wrongNow 29 = .ok (.iconst 0, 1) := by decide +kernel
theorem dX11_wrongNow_30 : decode cX11_wrongNow 30 = .ok (.goto 4, 3) := by decide +kernel
theorem dX11_wrongNow_33 : decode cX11_wrongNow 33 = .ok (.iconst 1, 1) := by decide +kernel
theorem dX11_wrongNow_34 : decode cX11_wrongNow 34 = .ok (.iadd, 1) := by decide +kernel
theorem dX11_wrongNow_35 : decode cX11_wrongNow 35 = .ok (.istore_n 1, 1) := by decide +kernel
theorem dX11_wrongNow_36 : decode cX11_wrongNow 36 = .ok (.iinc 2 1, 3) := by decide +kernel
theorem dX11_wrongNow_39 : decode cX11_wrongNow 39 = .ok (.goto (-35), 3) := by decide +kernel
theorem dX11_wrongNow_42 : decode cX11_wrongNow 42 = .ok (.iload_n 1, 1) := by decide +kernel
theorem dX11_wrongNow_43 : decode cX11_wrongNow 43 = .ok (.ireturn, 1) := by decide +kernel
theorem dX11_wrongAtMarks_0 : decode cX11_wrongAtMarks 0 = .ok (.iconst 0, 1) := by decide +kernel
theorem dX11_wrongAtMarks_1 : decode cX11_wrongAtMarks 1 = .ok (.istore_n 1, 1) := by decide +kernel
theorem dX11_wrongAtMarks_2 : decode cX11_wrongAtMarks 2 = .ok (.iconst 0, 1) := by decide +kernel
theorem dX11_wrongAtMarks_3 : decode cX11_wrongAtMarks 3 = .ok (.istore_n 2, 1) := by decide +kernel
theorem dX11_wrongAtMarks_4 : decode cX11_wrongAtMarks 4 = .ok (.iload_n 2, 1) := by decide +kernel
theorem dX11_wrongAtMarks_5 : decode cX11_wrongAtMarks 5 = .ok (.bipush 32, 2) := by decide +kernel
theorem dX11_wrongAtMarks_7 : decode cX11_wrongAtMarks 7 = .ok (.if_icmp .ge 52, 3) := by decide +kernel
theorem dX11_wrongAtMarks_10 : decode cX11_wrongAtMarks 10 = .ok (.iload_n 1, 1) := by decide +kernel
theorem dX11_wrongAtMarks_11 : decode cX11_wrongAtMarks 11 = .ok (.aload_n 0, 1) := by decide +kernel
theorem dX11_wrongAtMarks_12 : decode cX11_wrongAtMarks 12 = .ok (.getfield 7, 3) := by decide +kernel
theorem dX11_wrongAtMarks_15 : decode cX11_wrongAtMarks 15 = .ok (.bipush 32, 2) := by decide +kernel
theorem dX11_wrongAtMarks_17 : decode cX11_wrongAtMarks 17 = .ok (.iaload, 1) := by decide +kernel
theorem dX11_wrongAtMarks_18 : decode cX11_wrongAtMarks 18 = .ok (.iload_n 2, 1) := by decide +kernel
theorem dX11_wrongAtMarks_19 : decode cX11_wrongAtMarks 19 = .ok (.bipush 16, 2) := by decide +kernel
theorem dX11_wrongAtMarks_21 : decode cX11_wrongAtMarks 21 = .ok (.irem, 1) := by decide +kernel
theorem dX11_wrongAtMarks_22 : decode cX11_wrongAtMarks 22 = .ok (.invokestatic 123, 3) := by decide +kernel
theorem dX11_wrongAtMarks_25 : decode cX11_wrongAtMarks 25 = .ok (.ifCond .eq 25, 3) := by decide +kernel
theorem dX11_wrongAtMarks_28 : decode cX11_wrongAtMarks 28 = .ok (.aload_n 0, 1) := by decide +kernel
theorem dX11_wrongAtMarks_29 : decode cX11_wrongAtMarks 29 = .ok (.getfield 36, 3) := by decide +kernel
theorem dX11_wrongAtMarks_32 : decode cX11_wrongAtMarks 32 = .ok (.iload_n 2, 1) := by decide +kernel
theorem dX11_wrongAtMarks_33 : decode cX11_wrongAtMarks 33 = .ok (.iaload, 1) := by decide +kernel
theorem dX11_wrongAtMarks_34 : decode cX11_wrongAtMarks 34 = .ok (.invokestatic 168, 3) := by decide +kernel
theorem dX11_wrongAtMarks_37 : decode cX11_wrongAtMarks 37 = .ok (.aload_n 0, 1) := by decide +kernel
theorem dX11_wrongAtMarks_38 : decode cX11_wrongAtMarks 38 = .ok (.getfield 7, 3) := by decide +kernel
theorem dX11_wrongAtMarks_41 : decode cX11_wrongAtMarks 41 = .ok (.iload_n 2, 1) := by decide +kernel
theorem dX11_wrongAtMarks_42 : decode cX11_wrongAtMarks 42 = .ok (.iaload, 1) := by decide +kernel
theorem dX11_wrongAtMarks_43 : decode cX11_wrongAtMarks 43 = .ok (.if_icmp .eq 7, 3) := by decide +kernel
theorem dX11_wrongAtMarks_46 : decode cX11_wrongAtMarks 46 = .ok (.iconst 1, 1) := by decide +kernel
theorem dX11_wrongAtMarks_47 : decode cX11_wrongAtMarks 47 = .ok (.goto 4, 3) := by decide +kernel
theorem dX11_wrongAtMarks_50 : decode cX11_wrongAtMarks 50 = .ok (.iconst 0, 1) := by decide +kernel
theorem dX11_wrongAtMarks_51 : decode cX11_wrongAtMarks 51 = .ok (.iadd, 1) := by decide +kernel
theorem dX11_wrongAtMarks_52 : decode cX11_wrongAtMarks 52 = .ok (.istore_n 1, 1) := by decide +kernel
theorem dX11_wrongAtMarks_53 : decode cX11_wrongAtMarks 53 = .ok (.iinc 2 1, 3) := by decide +kernel
theorem dX11_wrongAtMarks_56 : decode cX11_wrongAtMarks 56 = .ok (.goto (-52), 3) := by decide +kernel
theorem dX11_wrongAtMarks_59 : decode cX11_wrongAtMarks 59 = .ok (.iload_n 1, 1) := by decide +kernel
theorem dX11_wrongAtMarks_60 : decode cX11_wrongAtMarks 60 = .ok (.ireturn, 1) := by decide +kernel
theorem dX11_wrongReceived_0 : decode cX11_wrongReceived 0 = .ok (.aload_n 0, 1) := by decide +kernel
theorem dX11_wrongReceived_1 : decode cX11_wrongReceived 1 = .ok (.invokevirtual 208, 3) := by decide +kernel
theorem dX11_wrongReceived_4 : decode cX11_wrongReceived 4 = .ok (.aload_n 0, 1) := by decide +kernel
theorem dX11_wrongReceived_5 : decode cX11_wrongReceived 5 = .ok (.invokevirtual 211, 3) := by decide +kernel
theorem dX11_wrongReceived_8 : decode cX11_wrongReceived 8 = .ok (.ireturn, 1) := by decide +kernel
theorem dX11_stages_0 : decode cX11_stages 0 = .ok (.iload_n 1, 1) := by decide +kernel
theorem dX11_stages_1 : decode cX11_stages 1 = .ok (.iload_n 2, 1) := by decide +kernel
theorem dX11_stages_2 : decode cX11_stages 2 = .ok (.iload_n 3, 1) := by decide +kernel
theorem dX11_stages_3 : decode cX11_stages 3 = .ok (.iload 4, 2) := by decide +kernel
theorem dX11_stages_5 : decode cX11_stages 5 = .ok (.iload 5, 2) := by decide +kernel
theorem dX11_stages_7 : decode cX11_stages 7 = .ok (.invokestatic 214, 3) := by decide +kernel
theorem dX11_stages_10 : decode cX11_stages 10 = .ok (.ifCond .ne 5, 3) := by decide +kernel
theorem dX11_stages_13 : decode cX11_stages 13 = .ok (.iconst (-1), 1) := by decide +kernel
theorem dX11_stages_14 : decode cX11_stages 14 = .ok (.ireturn, 1) := by decide +kernel
theorem dX11_stages_15 : decode cX11_stages 15 = .ok (.aload_n 0, 1) := by decide +kernel
theorem dX11_stages_16 : decode cX11_stages 16 = .ok (.getfield 7, 3) := by decide +kernel
theorem dX11_stages_19 : decode cX11_stages 19 = .ok (.bipush 64, 2) := by decide +kernel
theorem dX11_stages_21 : decode cX11_stages 21 = .ok (.iaload, 1) := by decide +kernel
theorem dX11_stages_22 : decode cX11_stages 22 = .ok (.iconst 4, 1) := by decide +kernel
theorem dX11_stages_23 : decode cX11_stages 23 = .ok (.if_icmp .ne 6, 3) := by decide +kernel
theorem dX11_stages_26 : decode cX11_stages 26 = .ok (.bipush (-3), 2) := by decide +kernel
theorem dX11_stages_28 : decode cX11_stages 28 = .ok (.ireturn, 1) := by decide +kernel
theorem dX11_stages_29 : decode cX11_stages 29 = .ok (.aload_n 0, 1) := by decide +kernel
theorem dX11_stages_30 : decode cX11_stages 30 = .ok (.invokevirtual 140, 3) := by decide +kernel
theorem dX11_stages_33 : decode cX11_stages 33 = .ok (.aload_n 0, 1) := by decide +kernel
theorem dX11_stages_34 : decode cX11_stages 34 = .ok (.bipush 65, 2) := by decide +kernel
theorem dX11_stages_36 : decode cX11_stages 36 = .ok (.iconst 5, 1) := by decide +kernel
theorem dX11_stages_37 : decode cX11_stages 37 = .ok (.aload_n 0, 1) := by decide +kernel
theorem dX11_stages_38 : decode cX11_stages 38 = .ok (.getfield 7, 3) := by decide +kernel
theorem dX11_stages_41 : decode cX11_stages 41 = .ok (.bipush 64, 2) := by decide +kernel
theorem dX11_stages_43 : decode cX11_stages 43 = .ok (.iaload, 1) := by decide +kernel
theorem dX11_stages_44 : decode cX11_stages 44 = .ok (.imul, 1) := by decide +kernel
theorem dX11_stages_45 : decode cX11_stages 45 = .ok (.iadd, 1) := by decide +kernel
theorem dX11_stages_46 : decode cX11_stages 46 = .ok (.iload_n 1, 1) := by decide +kernel
theorem dX11_stages_47 : decode cX11_stages 47 = .ok (.iload_n 2, 1) := by decide +kernel
theorem dX11_stages_48 : decode cX11_stages 48 = .ok (.iload_n 3, 1) := by decide +kernel
theorem dX11_stages_49 : decode cX11_stages 49 = .ok (.iload 4, 2) := by decide +kernel
theorem dX11_stages_51 : decode cX11_stages 51 = .ok (.iload 5, 2) := by decide +kernel
theorem dX11_stages_53 : decode cX11_stages 53 = .ok (.invokevirtual 150, 3) := by decide +kernel
theorem dX11_stages_56 : decode cX11_stages 56 = .ok (.aload_n 0, 1) := by decide +kernel
theorem dX11_stages_57 : decode cX11_stages 57 = .ok (.getfield 7, 3) := by decide +kernel
theorem dX11_stages_60 : decode cX11_stages 60 = .ok (.bipush 64, 2) := by decide +kernel
theorem dX11_stages_62 : decode cX11_stages 62 = .ok (.dup2, 1) := by decide +kernel
theorem dX11_stages_63 : decode cX11_stages 63 = .ok (.iaload, 1) := by decide +kernel
theorem dX11_stages_64 : decode cX11_stages 64 = .ok (.iconst 1, 1) := by decide +kernel
theorem dX11_stages_65 : decode cX11_stages 65 = .ok (.iadd, 1) := by decide +kernel
theorem dX11_stages_66 : decode cX11_stages 66 = .ok (.iastore, 1) := by decide +kernel
theorem dX11_stages_67 : decode cX11_stages 67 = .ok (.aload_n 0, 1) := by decide +kernel
theorem dX11_stages_68 : decode cX11_stages 68 = .ok (.getfield 7, 3) := by decide +kernel
theorem dX11_stages_71 : decode cX11_stages 71 = .ok (.bipush 64, 2) := by decide +kernel
theorem dX11_stages_73 : decode cX11_stages 73 = .ok (.iaload, 1) := by decide +kernel
theorem dX11_stages_74 : decode cX11_stages 74 = .ok (.ireturn, 1) := by decide +kernel
theorem dX11_drops_0 : decode cX11_drops 0 = .ok (.iload_n 1, 1) := by decide +kernel
theorem dX11_drops_1 : decode cX11_drops 1 = .ok (.iconst 0, 1) := by decide +kernel
theorem dX11_drops_2 : decode cX11_drops 2 = .ok (.aload_n 0, 1) := by decide +kernel
theorem dX11_drops_3 : decode cX11_drops 3 = .ok (.getfield 7, 3) := by decide +kernel
theorem dX11_drops_6 : decode cX11_drops 6 = .ok (.bipush 64, 2) := by decide +kernel
theorem dX11_drops_8 : decode cX11_drops 8 = .ok (.iaload, 1) := by decide +kernel
theorem dX11_drops_9 : decode cX11_drops 9 = .ok (.iconst 1, 1) := by decide +kernel
theorem dX11_drops_10 : decode cX11_drops 10 = .ok (.isub, 1) := by decide +kernel
theorem dX11_drops_11 : decode cX11_drops 11 = .ok (.invokestatic 82, 3) := by decide +kernel
theorem dX11_drops_14 : decode cX11_drops 14 = .ok (.ifCond .ne 5, 3) := by decide +kernel
theorem dX11_drops_17 : decode cX11_drops 17 = .ok (.iconst (-1), 1) := by decide +kernel
theorem dX11_drops_18 : decode cX11_drops 18 = .ok (.ireturn, 1) := by decide +kernel
theorem dX11_drops_19 : decode cX11_drops 19 = .ok (.aload_n 0, 1) := by decide +kernel
theorem dX11_drops_20 : decode cX11_drops 20 = .ok (.invokevirtual 140, 3) := by decide +kernel
theorem dX11_drops_23 : decode cX11_drops 23 = .ok (.bipush 65, 2) := by decide +kernel
theorem dX11_drops_25 : decode cX11_drops 25 = .ok (.iconst 5, 1) := by decide +kernel
theorem dX11_drops_26 : decode cX11_drops 26 = .ok (.iload_n 1, 1) := by decide +kernel
theorem dX11_drops_27 : decode cX11_drops 27 = .ok (.imul, 1) := by decide +kernel
theorem dX11_drops_28 : decode cX11_drops 28 = .ok (.iadd, 1) := by decide +kernel
theorem dX11_drops_29 : decode cX11_drops 29 = .ok (.istore_n 2, 1) := by decide +kernel
theorem dX11_drops_30 : decode cX11_drops 30 = .ok (.iload_n 2, 1) := by decide +kernel
theorem dX11_drops_31 : decode cX11_drops 31 = .ok (.bipush 80, 2) := by decide +kernel
theorem dX11_drops_33 : decode cX11_drops 33 = .ok (.if_icmp .ge 23, 3) := by decide +kernel
theorem dX11_drops_36 : decode cX11_drops 36 = .ok (.aload_n 0, 1) := by decide +kernel
theorem dX11_drops_37 : decode cX11_drops 37 = .ok (.getfield 7, 3) := by decide +kernel
theorem dX11_drops_40 : decode cX11_drops 40 = .ok (.iload_n 2, 1) := by decide +kernel
theorem dX11_drops_41 : decode cX11_drops 41 = .ok (.aload_n 0, 1) := by decide +kernel
theorem dX11_drops_42 : decode cX11_drops 42 = .ok (.getfield 7, 3) := by decide +kernel
theorem dX11_drops_45 : decode cX11_drops 45 = .ok (.iload_n 2, 1) := by decide +kernel
theorem dX11_drops_46 : decode cX11_drops 46 = .ok (.iconst 5, 1) := by decide +kernel
theorem dX11_drops_47 : decode cX11_drops 47 = .ok (.iadd, 1) := by decide +kernel
theorem dX11_drops_48 : decode cX11_drops 48 = .ok (.iaload, 1) := by decide +kernel
theorem dX11_drops_49 : decode cX11_drops 49 = .ok (.iastore, 1) := by decide +kernel
theorem dX11_drops_50 : decode cX11_drops 50 = .ok (.iinc 2 1, 3) := by decide +kernel
theorem dX11_drops_53 : decode cX11_drops 53 = .ok (.goto (-23), 3) := by decide +kernel
theorem dX11_drops_56 : decode cX11_drops 56 = .ok (.aload_n 0, 1) := by decide +kernel
theorem dX11_drops_57 : decode cX11_drops 57 = .ok (.getfield 7, 3) := by decide +kernel
theorem dX11_drops_60 : decode cX11_drops 60 = .ok (.bipush 64, 2) := by decide +kernel
theorem dX11_drops_62 : decode cX11_drops 62 = .ok (.dup2, 1) := by decide +kernel
theorem dX11_drops_63 : decode cX11_drops 63 = .ok (.iaload, 1) := by decide +kernel
theorem dX11_drops_64 : decode cX11_drops 64 = .ok (.iconst 1, 1) := by decide +kernel
theorem dX11_drops_65 : decode cX11_drops 65 = .ok (.isub, 1) := by decide +kernel
theorem dX11_drops_66 : decode cX11_drops 66 = .ok (.iastore, 1) := by decide +kernel
theorem dX11_drops_67 : decode cX11_drops 67 = .ok (.aload_n 0, 1) := by decide +kernel
theorem dX11_drops_68 : decode cX11_drops 68 = .ok (.getfield 7, 3) := by decide +kernel
theorem dX11_drops_71 : decode cX11_drops 71 = .ok (.bipush 64, 2) := by decide +kernel
theorem dX11_drops_73 : decode cX11_drops 73 = .ok (.iaload, 1) := by decide +kernel
theorem dX11_drops_74 : decode cX11_drops 74 = .ok (.ireturn, 1) := by decide +kernel
theorem dX11_findTaps_0 : decode cX11_findTaps 0 = .ok (.aload_n 0, 1) := by decide +kernel
theorem dX11_findTaps_1 : decode cX11_findTaps 1 = .ok (.getfield 36, 3) := by decide +kernel
theorem dX11_findTaps_4 : decode cX11_findTaps 4 = .ok (.iload_n 1, 1) := by decide +kernel
theorem dX11_findTaps_5 : decode cX11_findTaps 5 = .ok (.iaload, 1) := by decide +kernel
theorem dX11_findTaps_6 : decode cX11_findTaps 6 = .ok (.aload_n 0, 1) := by decide +kernel
theorem dX11_findTaps_7 : decode cX11_findTaps 7 = .ok (.getfield 36, 3) := by decide +kernel
theorem dX11_findTaps_10 : decode cX11_findTaps 10 = .ok (.bipush 16, 2) := by decide +kernel
theorem dX11_findTaps_12 : decode cX11_findTaps 12 = .ok (.iload_n 2, 1) := by decide +kernel
theorem dX11_findTaps_13 : decode cX11_findTaps 13 = .ok (.iadd, 1) := by decide +kernel
theorem dX11_findTaps_14 : decode cX11_findTaps 14 = .ok (.iaload, 1) := by decide +kernel
theorem dX11_findTaps_15 : decode cX11_findTaps 15 = .ok (.imul, 1) := by decide +kernel
theorem dX11_findTaps_16 : decode cX11_findTaps 16 = .ok (.aload_n 0, 1) := by decide +kernel
theorem dX11_findTaps_17 : decode cX11_findTaps 17 = .ok (.getfield 36, 3) := by decide +kernel
theorem dX11_findTaps_20 : decode cX11_findTaps 20 = .ok (.iload_n 2, 1) := by decide +kernel
theorem dX11_findTaps_21 : decode cX11_findTaps 21 = .ok (.iaload, 1) := by decide +kernel
theorem dX11_findTaps_22 : decode cX11_findTaps 22 = .ok (.aload_n 0, 1) := by decide +kernel
theorem dX11_findTaps_23 : decode cX11_findTaps 23 = .ok (.getfield 36, 3) := by decide +kernel
theorem dX11_findTaps_26 : decode cX11_findTaps 26 = .ok (.bipush 16, 2) := by decide +kernel
theorem dX11_findTaps_28 : decode cX11_findTaps 28 = .ok (.iload_n 1, 1) := by decide +kernel
theorem dX11_findTaps_29 : decode cX11_findTaps 29 = .ok (.iadd, 1) := by decide +kernel
theorem dX11_findTaps_30 : decode cX11_findTaps 30 = .ok (.iaload, 1) := by decide +kernel
theorem dX11_findTaps_31 : decode cX11_findTaps 31 = .ok (.imul, 1) := by decide +kernel
theorem dX11_findTaps_32 : decode cX11_findTaps 32 = .ok (.isub, 1) := by decide +kernel
theorem dX11_findTaps_33 : decode cX11_findTaps 33 = .ok (.invokestatic 71, 3) := by decide +kernel
theorem dX11_findTaps_36 : decode cX11_findTaps 36 = .ok (.istore 4, 2) := by decide +kernel
theorem dX11_findTaps_38 : decode cX11_findTaps 38 = .ok (.iload 4, 2) := by decide +kernel
theorem dX11_findTaps_40 : decode cX11_findTaps 40 = .ok (.ifCond .ne 5, 3) := by decide +kernel
theorem dX11_findTaps_43 : decode cX11_findTaps 43 = .ok (.iconst 0, 1) := by decide +kernel
theorem dX11_findTaps_44 : decode cX11_findTaps 44 = .ok (.ireturn, 1) := by decide +kernel
theorem dX11_findTaps_45 : decode cX11_findTaps 45 = .ok (.aload_n 0, 1) := by decide +kernel
theorem dX11_findTaps_46 : decode cX11_findTaps 46 = .ok (.getfield 7, 3) := by decide +kernel
theorem dX11_findTaps_49 : decode cX11_findTaps 49 = .ok (.bipush 16, 2) := by decide +kernel
theorem dX11_findTaps_51 : decode cX11_findTaps 51 = .ok (.iload_n 3, 1) := by decide +kernel
theorem dX11_findTaps_52 : decode cX11_findTaps 52 = .ok (.imul, 1) := by decide +kernel
theorem dX11_findTaps_53 : decode cX11_findTaps 53 = .ok (.iload_n 1, 1) := by decide +kernel
theorem dX11_findTaps_54 : decode cX11_findTaps 54 = .ok (.iadd, 1) := by decide +kernel
theorem dX11_findTaps_55 : decode cX11_findTaps 55 = .ok (.iaload, 1) := by decide +kernel
theorem dX11_findTaps_56 : decode cX11_findTaps 56 = .ok (.invokestatic 67, 3) := by decide +kernel
theorem dX11_findTaps_59 : decode cX11_findTaps 59 = .ok (.istore 5, 2) := by decide +kernel
theorem dX11_findTaps_61 : decode cX11_findTaps 61 = .ok (.aload_n 0, 1) := by decide +kernel
theorem dX11_findTaps_62 : decode cX11_findTaps 62 = .ok (.getfield 7, 3) := by decide +kernel
theorem dX11_findTaps_65 : decode cX11_findTaps 65 = .ok (.bipush 16, 2) := by decide +kernel
theorem dX11_findTaps_67 : decode cX11_findTaps 67 = .ok (.iload_n 3, 1) := by decide +kernel
theorem dX11_findTaps_68 : decode cX11_findTaps 68 = .ok (.imul, 1) := by decide +kernel
theorem dX11_findTaps_69 : decode cX11_findTaps 69 = .ok (.iload_n 2, 1) := by decide +kernel
theorem dX11_findTaps_70 : decode cX11_findTaps 70 = .ok (.iadd, 1) := by decide +kernel
theorem dX11_findTaps_71 : decode cX11_findTaps 71 = .ok (.iaload, 1) := by decide +kernel
theorem dX11_findTaps_72 : decode cX11_findTaps 72 = .ok (.invokestatic 67, 3) := by decide +kernel
theorem dX11_findTaps_75 : decode cX11_findTaps 75 = .ok (.istore 6, 2) := by decide +kernel
theorem dX11_findTaps_77 : decode cX11_findTaps 77 = .ok (.iload 4, 2) := by decide +kernel
theorem dX11_findTaps_79 : decode cX11_findTaps 79 = .ok (.invokestatic 157, 3) := by decide +kernel
theorem dX11_findTaps_82 : decode cX11_findTaps 82 = .ok (.istore 4, 2) := by decide +kernel
theorem dX11_findTaps_84 : decode cX11_findTaps 84 = .ok (.aload_n 0, 1) := by decide +kernel
theorem dX11_findTaps_85 : decode cX11_findTaps 85 = .ok (.iload 5, 2) := by decide +kernel
theorem dX11_findTaps_87 : decode cX11_findTaps 87 = .ok (.aload_n 0, 1) := by decide +kernel
theorem dX11_findTaps_88 : decode cX11_findTaps 88 = .ok (.getfield 36, 3) := by decide +kernel
theorem dX11_findTaps_91 : decode cX11_findTaps 91 = .ok (.bipush 16, 2) := by decide +kernel
theorem dX11_findTaps_93 : decode cX11_findTaps 93 = .ok (.iload_n 2, 1) := by decide +kernel
theorem dX11_findTaps_94 : decode cX11_findTaps 94 = .ok (.iadd, 1) := by decide +kernel
theorem dX11_findTaps_95 : decode cX11_findTaps 95 = .ok (.iaload, 1) := by decide +kernel
theorem dX11_findTaps_96 : decode cX11_findTaps 96 = .ok (.imul, 1) := by decide +kernel
theorem dX11_findTaps_97 : decode cX11_findTaps 97 = .ok (.iload 6, 2) := by decide +kernel
theorem dX11_findTaps_99 : decode cX11_findTaps 99 = .ok (.aload_n 0, 1) := by decide +kernel
theorem dX11_findTaps_100 : decode cX11_findTaps 100 = .ok (.getfield 36, 3) := by decide +kernel
theorem dX11_findTaps_103 : decode cX11_findTaps 103 = .ok (.bipush 16, 2) := by decide +kernel
theorem dX11_findTaps_105 : decode cX11_findTaps 105 = .ok (.iload_n 1, 1) := by decide +kernel
theorem dX11_findTaps_106 : decode cX11_findTaps 106 = .ok (.iadd, 1) := by decide +kernel
theorem dX11_findTaps_107 : decode cX11_findTaps 107 = .ok (.iaload, 1) := by decide +kernel
theorem dX11_findTaps_108 : decode cX11_findTaps 108 = .ok (.imul, 1) := by decide +kernel
theorem dX11_findTaps_109 : decode cX11_findTaps 109 = .ok (.isub, 1) := by decide +kernel
theorem dX11_findTaps_110 : decode cX11_findTaps 110 = .ok (.invokestatic 71, 3) := by decide +kernel
theorem dX11_findTaps_113 : decode cX11_findTaps 113 = .ok (.iload 4, 2) := by decide +kernel
theorem dX11_findTaps_115 : decode cX11_findTaps 115 = .ok (.imul, 1) := by decide +kernel
theorem dX11_findTaps_116 : decode cX11_findTaps 116 = .ok (.bipush 97, 2) := by decide +kernel
theorem dX11_findTaps_118 : decode cX11_findTaps 118 = .ok (.irem, 1) := by decide +kernel
theorem dX11_findTaps_119 : decode cX11_findTaps 119 = .ok (.putfield 217, 3) := by decide +kernel
theorem dX11_findTaps_122 : decode cX11_findTaps 122 = .ok (.aload_n 0, 1) := by decide +kernel
theorem dX11_findTaps_123 : decode cX11_findTaps 123 = .ok (.iload 6, 2) := by decide +kernel
theorem dX11_findTaps_125 : decode cX11_findTaps 125 = .ok (.aload_n 0, 1) := by decide +kernel
theorem dX11_findTaps_126 : decode cX11_findTaps 126 = .ok (.getfield 36, 3) := by decide +kernel
theorem dX11_findTaps_129 : decode cX11_findTaps 129 = .ok (.iload_n 1, 1) := by decide +kernel
theorem dX11_findTaps_130 : decode cX11_findTaps 130 = .ok (.iaload, 1) := by decide +kernel
theorem dX11_findTaps_131 : decode cX11_findTaps 131 = .ok (.imul, 1) := by decide +kernel
theorem dX11_findTaps_132 : decode cX11_findTaps 132 = .ok (.iload 5, 2) := by decide +kernel
theorem dX11_findTaps_134 : decode cX11_findTaps 134 = .ok (.aload_n 0, 1) := by decide +kernel
theorem dX11_findTaps_135 : decode cX11_findTaps 135 = .ok (.getfield 36, 3) := by decide +kernel
theorem dX11_findTaps_138 : decode cX11_findTaps 138 = .ok (.iload_n 2, 1) := by decide +kernel
theorem dX11_findTaps_139 : decode cX11_findTaps 139 = .ok (.iaload, 1) := by decide +kernel
theorem dX11_findTaps_140 : decode cX11_findTaps 140 = .ok (.imul, 1) := by decide +kernel
theorem dX11_findTaps_141 : decode cX11_findTaps 141 = .ok (.isub, 1) := by decide +kernel
theorem dX11_findTaps_142 : decode cX11_findTaps 142 = .ok (.invokestatic 71, 3) := by decide +kernel
theorem dX11_findTaps_145 : decode cX11_findTaps 145 = .ok (.iload 4, 2) := by decide +kernel
theorem dX11_findTaps_147 : decode cX11_findTaps 147 = .ok (.imul, 1) := by decide +kernel
theorem dX11_findTaps_148 : decode cX11_findTaps 148 = .ok (.bipush 97, 2) := by decide +kernel
theorem dX11_findTaps_150 : decode cX11_findTaps 150 = .ok (.irem, 1) := by decide +kernel
theorem dX11_findTaps_151 : decode cX11_findTaps 151 = .ok (.putfield 220, 3) := by decide +kernel
theorem dX11_findTaps_154 : decode cX11_findTaps 154 = .ok (.iconst 1, 1) := by decide +kernel
theorem dX11_findTaps_155 : decode cX11_findTaps 155 = .ok (.ireturn, 1) := by decide +kernel
theorem dX11_areTaps_0 : decode cX11_areTaps 0 = .ok (.aload_n 0, 1) := by decide +kernel
theorem dX11_areTaps_1 : decode cX11_areTaps 1 = .ok (.invokevirtual 208, 3) := by decide +kernel
theorem dX11_areTaps_4 : decode cX11_areTaps 4 = .ok (.iconst 0, 1) := by decide +kernel
theorem dX11_areTaps_5 : decode cX11_areTaps 5 = .ok (.istore_n 3, 1) := by decide +kernel
theorem dX11_areTaps_6 : decode cX11_areTaps 6 = .ok (.iload_n 3, 1) := by decide +kernel
theorem dX11_areTaps_7 : decode cX11_areTaps 7 = .ok (.iconst 2, 1) := by decide +kernel
theorem dX11_areTaps_8 : decode cX11_areTaps 8 = .ok (.if_icmp .ge 47, 3) := by decide +kernel
theorem dX11_areTaps_11 : decode cX11_areTaps 11 = .ok (.aload_n 0, 1) := by decide +kernel
theorem dX11_areTaps_12 : decode cX11_areTaps 12 = .ok (.iload_n 1, 1) := by decide +kernel
theorem dX11_areTaps_13 : decode cX11_areTaps 13 = .ok (.iload_n 2, 1) := by decide +kernel
theorem dX11_areTaps_14 : decode cX11_areTaps 14 = .ok (.iload_n 3, 1) := by decide +kernel
theorem dX11_areTaps_15 : decode cX11_areTaps 15 = .ok (.invokevirtual 223, 3) := by decide +kernel
theorem dX11_areTaps_18 : decode cX11_areTaps 18 = .ok (.ifCond .ne 5, 3) := by decide +kernel
theorem dX11_areTaps_21 : decode cX11_areTaps 21 = .ok (.iconst 0, 1) := by decide +kernel
theorem dX11_areTaps_22 : decode cX11_areTaps 22 = .ok (.ireturn, 1) := by decide +kernel
theorem dX11_areTaps_23 : decode cX11_areTaps 23 = .ok (.aload_n 0, 1) := by decide +kernel
theorem dX11_areTaps_24 : decode cX11_areTaps 24 = .ok (.getfield 42, 3) := by decide +kernel
theorem dX11_areTaps_27 : decode cX11_areTaps 27 = .ok (.iconst 2, 1) := by decide +kernel
theorem dX11_areTaps_28 : decode cX11_areTaps 28 = .ok (.iload_n 3, 1) := by decide +kernel
theorem dX11_areTaps_29 : decode cX11_areTaps 29 = .ok (.imul, 1) := by decide +kernel
theorem dX11_areTaps_30 : decode cX11_areTaps 30 = .ok (.aload_n 0, 1) := by decide +kernel
theorem dX11_areTaps_31 : decode cX11_areTaps 31 = .ok (.getfield 217, 3) := by decide +kernel
theorem dX11_areTaps_34 : decode cX11_areTaps 34 = .ok (.iastore, 1) := by decide +kernel
theorem dX11_areTaps_35 : decode cX11_areTaps 35 = .ok (.aload_n 0, 1) := by decide +kernel
theorem dX11_areTaps_36 : decode cX11_areTaps 36 = .ok (.getfield 42, 3) := by decide +kernel
theorem dX11_areTaps_39 : decode cX11_areTaps 39 = .ok (.iconst 2, 1) := by decide +kernel
theorem dX11_areTaps_40 : decode cX11_areTaps 40 = .ok (.iload_n 3, 1) := by decide +kernel
theorem dX11_areTaps_41 : decode cX11_areTaps 41 = .ok (.imul, 1) := by decide +kernel
theorem dX11_areTaps_42 : decode cX11_areTaps 42 = .ok (.iconst 1, 1) := by decide +kernel
theorem dX11_areTaps_43 : decode cX11_areTaps 43 = .ok (.iadd, 1) := by decide +kernel
theorem dX11_areTaps_44 : decode cX11_areTaps 44 = .ok (.aload_n 0, 1) := by decide +kernel
theorem dX11_areTaps_45 : decode cX11_areTaps 45 = .ok (.getfield 220, 3) := by decide +kernel
theorem dX11_areTaps_48 : decode cX11_areTaps 48 = .ok (.iastore, 1) := by decide +kernel
theorem dX11_areTaps_49 : decode cX11_areTaps 49 = .ok (.iinc 3 1, 3) := by decide +kernel
theorem dX11_areTaps_52 : decode cX11_areTaps 52 = .ok (.goto (-46), 3) := by decide +kernel
theorem dX11_areTaps_55 : decode cX11_areTaps 55 = .ok (.aload_n 0, 1) := by decide +kernel
theorem dX11_areTaps_56 : decode cX11_areTaps 56 = .ok (.getfield 42, 3) := by decide +kernel
theorem dX11_areTaps_59 : decode cX11_areTaps 59 = .ok (.iconst 0, 1) := by decide +kernel
theorem dX11_areTaps_60 : decode cX11_areTaps 60 = .ok (.iaload, 1) := by decide +kernel
theorem dX11_areTaps_61 : decode cX11_areTaps 61 = .ok (.aload_n 0, 1) := by decide +kernel
theorem dX11_areTaps_62 : decode cX11_areTaps 62 = .ok (.getfield 42, 3) := by decide +kernel
theorem dX11_areTaps_65 : decode cX11_areTaps 65 = .ok (.iconst 3, 1) := by decide +kernel
theorem dX11_areTaps_66 : decode cX11_areTaps 66 = .ok (.iaload, 1) := by decide +kernel
theorem dX11_areTaps_67 : decode cX11_areTaps 67 = .ok (.imul, 1) := by decide +kernel
theorem dX11_areTaps_68 : decode cX11_areTaps 68 = .ok (.aload_n 0, 1) := by decide +kernel
theorem dX11_areTaps_69 : decode cX11_areTaps 69 = .ok (.getfield 42, 3) := by decide +kernel
theorem dX11_areTaps_72 : decode cX11_areTaps 72 = .ok (.iconst 1, 1) := by decide +kernel
theorem dX11_areTaps_73 : decode cX11_areTaps 73 = .ok (.iaload, 1) := by decide +kernel
theorem dX11_areTaps_74 : decode cX11_areTaps 74 = .ok (.aload_n 0, 1) := by decide +kernel
theorem dX11_areTaps_75 : decode cX11_areTaps 75 = .ok (.getfield 42, 3) := by decide +kernel
theorem dX11_areTaps_78 : decode cX11_areTaps 78 = .ok (.iconst 2, 1) := by decide +kernel
theorem dX11_areTaps_79 : decode cX11_areTaps 79 = .ok (.iaload, 1) := by decide +kernel
theorem dX11_areTaps_80 : decode cX11_areTaps 80 = .ok (.imul, 1) := by decide +kernel
theorem dX11_areTaps_81 : decode cX11_areTaps 81 = .ok (.isub, 1) := by decide +kernel
theorem dX11_areTaps_82 : decode cX11_areTaps 82 = .ok (.invokestatic 71, 3) := by decide +kernel
theorem dX11_areTaps_85 : decode cX11_areTaps 85 = .ok (.ifCond .eq 7, 3) := by decide +kernel
theorem dX11_areTaps_88 : decode cX11_areTaps 88 = .ok (.iconst 1, 1) := by decide +kernel
theorem dX11_areTaps_89 : decode cX11_areTaps 89 = .ok (.goto 4, 3) := by decide +kernel
theorem dX11_areTaps_92 : decode cX11_areTaps 92 = .ok (.iconst 0, 1) := by decide +kernel
theorem dX11_areTaps_93 : decode cX11_areTaps 93 = .ok (.ireturn, 1) := by decide +kernel
theorem dX11_arePlaces_0 : decode cX11_arePlaces 0 = .ok (.iload_n 0, 1) := by decide +kernel
theorem dX11_arePlaces_1 : decode cX11_arePlaces 1 = .ok (.iconst 0, 1) := by decide +kernel
theorem dX11_arePlaces_2 : decode cX11_arePlaces 2 = .ok (.bipush 15, 2) := by decide +kernel
theorem dX11_arePlaces_4 : decode cX11_arePlaces 4 = .ok (.invokestatic 82, 3) := by decide +kernel
theorem dX11_arePlaces_7 : decode cX11_arePlaces 7 = .ok (.ifCond .eq 22, 3) := by decide +kernel
theorem dX11_arePlaces_10 : decode cX11_arePlaces 10 = .ok (.iload_n 1, 1) := by decide +kernel
theorem dX11_arePlaces_11 : decode cX11_arePlaces 11 = .ok (.iconst 0, 1) := by decide +kernel
theorem dX11_arePlaces_12 : decode cX11_arePlaces 12 = .ok (.bipush 15, 2) := by decide +kernel
theorem dX11_arePlaces_14 : decode cX11_arePlaces 14 = .ok (.invokestatic 82, 3) := by decide +kernel
theorem dX11_arePlaces_17 : decode cX11_arePlaces 17 = .ok (.ifCond .eq 12, 3) := by decide +kernel
theorem dX11_arePlaces_20 : decode cX11_arePlaces 20 = .ok (.iload_n 0, 1) := by decide +kernel
theorem dX11_arePlaces_21 : decode cX11_arePlaces 21 = .ok (.iload_n 1, 1) := by decide +kernel
theorem dX11_arePlaces_22 : decode cX11_arePlaces 22 = .ok (.if_icmp .eq 7, 3) := by decide +kernel
theorem dX11_arePlaces_25 : decode cX11_arePlaces 25 = .ok (.iconst 1, 1) := by decide +kernel
theorem dX11_arePlaces_26 : decode cX11_arePlaces 26 = .ok (.goto 4, 3) := by decide +kernel
theorem dX11_arePlaces_29 : decode cX11_arePlaces 29 = .ok (.iconst 0, 1) := by decide +kernel
theorem dX11_arePlaces_30 : decode cX11_arePlaces 30 = .ok (.ireturn, 1) := by decide +kernel
theorem dX11_learns_0 : decode cX11_learns 0 = .ok (.iload_n 1, 1) := by decide +kernel
theorem dX11_learns_1 : decode cX11_learns 1 = .ok (.iload_n 2, 1) := by decide +kernel
theorem dX11_learns_2 : decode cX11_learns 2 = .ok (.invokestatic 226, 3) := by decide +kernel
theorem dX11_learns_5 : decode cX11_learns 5 = .ok (.ifCond .ne 5, 3) := by decide +kernel
theorem dX11_learns_8 : decode cX11_learns 8 = .ok (.iconst (-1), 1) := by decide +kernel
theorem dX11_learns_9 : decode cX11_learns 9 = .ok (.ireturn, 1) := by decide +kernel
theorem dX11_learns_10 : decode cX11_learns 10 = .ok (.aload_n 0, 1) := by decide +kernel
theorem dX11_learns_11 : decode cX11_learns 11 = .ok (.iload_n 1, 1) := by decide +kernel
theorem dX11_learns_12 : decode cX11_learns 12 = .ok (.iload_n 2, 1) := by decide +kernel
theorem dX11_learns_13 : decode cX11_learns 13 = .ok (.invokevirtual 229, 3) := by decide +kernel
theorem dX11_learns_16 : decode cX11_learns 16 = .ok (.ifCond .ne 6, 3) := by decide +kernel
theorem dX11_learns_19 : decode cX11_learns 19 = .ok (.bipush (-2), 2) := by decide +kernel
theorem dX11_learns_21 : decode cX11_learns 21 = .ok (.ireturn, 1) := by decide +kernel
theorem dX11_learns_22 : decode cX11_learns 22 = .ok (.aload_n 0, 1) := by decide +kernel
theorem dX11_learns_23 : decode cX11_learns 23 = .ok (.getfield 7, 3) := by decide +kernel
theorem dX11_learns_26 : decode cX11_learns 26 = .ok (.bipush 64, 2) := by decide +kernel
theorem dX11_learns_28 : decode cX11_learns 28 = .ok (.iaload, 1) := by decide +kernel
theorem dX11_learns_29 : decode cX11_learns 29 = .ok (.iconst 4, 1) := by decide +kernel
theorem dX11_learns_30 : decode cX11_learns 30 = .ok (.if_icmp .ne 6, 3) := by decide +kernel
theorem dX11_learns_33 : decode cX11_learns 33 = .ok (.bipush (-3), 2) := by decide +kernel
theorem dX11_learns_35 : decode cX11_learns 35 = .ok (.ireturn, 1) := by decide +kernel
theorem dX11_learns_36 : decode cX11_learns 36 = .ok (.aload_n 0, 1) := by decide +kernel
theorem dX11_learns_37 : decode cX11_learns 37 = .ok (.invokevirtual 140, 3) := by decide +kernel
theorem dX11_learns_40 : decode cX11_learns 40 = .ok (.aload_n 0, 1) := by decide +kernel
theorem dX11_learns_41 : decode cX11_learns 41 = .ok (.getfield 42, 3) := by decide +kernel
theorem dX11_learns_44 : decode cX11_learns 44 = .ok (.iconst 0, 1) := by decide +kernel
theorem dX11_learns_45 : decode cX11_learns 45 = .ok (.iaload, 1) := by decide +kernel
theorem dX11_learns_46 : decode cX11_learns 46 = .ok (.aload_n 0, 1) := by decide +kernel
theorem dX11_learns_47 : decode cX11_learns 47 = .ok (.getfield 42, 3) := by decide +kernel
theorem dX11_learns_50 : decode cX11_learns 50 = .ok (.iconst 3, 1) := by decide +kernel
theorem dX11_learns_51 : decode cX11_learns 51 = .ok (.iaload, 1) := by decide +kernel
theorem dX11_learns_52 : decode cX11_learns 52 = .ok (.imul, 1) := by decide +kernel
theorem dX11_learns_53 : decode cX11_learns 53 = .ok (.aload_n 0, 1) := by decide +kernel
theorem dX11_learns_54 : decode cX11_learns 54 = .ok (.getfield 42, 3) := by decide +kernel
theorem dX11_learns_57 : decode cX11_learns 57 = .ok (.iconst 1, 1) := by decide +kernel
theorem dX11_learns_58 : decode cX11_learns 58 = .ok (.iaload, 1) := by decide +kernel
theorem dX11_learns_59 : decode cX11_learns 59 = .ok (.aload_n 0, 1) := by decide +kernel
theorem dX11_learns_60 : decode cX11_learns 60 = .ok (.getfield 42, 3) := by decide +kernel
theorem dX11_learns_63 : decode cX11_learns 63 = .ok (.iconst 2, 1) := by decide +kernel
theorem dX11_learns_64 : decode cX11_learns 64 = .ok (.iaload, 1) := by decide +kernel
theorem dX11_learns_65 : decode cX11_learns 65 = .ok (.imul, 1) := by decide +kernel
theorem dX11_learns_66 : decode cX11_learns 66 = .ok (.isub, 1) := by decide +kernel
theorem dX11_learns_67 : decode cX11_learns 67 = .ok (.invokestatic 71, 3) := by decide +kernel
theorem dX11_learns_70 : decode cX11_learns 70 = .ok (.invokestatic 157, 3) := by decide +kernel
theorem dX11_learns_73 : decode cX11_learns 73 = .ok (.istore_n 3, 1) := by decide +kernel
theorem dX11_learns_74 : decode cX11_learns 74 = .ok (.aload_n 0, 1) := by decide +kernel
theorem dX11_learns_75 : decode cX11_learns 75 = .ok (.bipush 65, 2) := by decide +kernel
theorem dX11_learns_77 : decode cX11_learns 77 = .ok (.iconst 5, 1) := by decide +kernel
theorem dX11_learns_78 : decode cX11_learns 78 = .ok (.aload_n 0, 1) := by decide +kernel
theorem dX11_learns_79 : decode cX11_learns 79 = .ok (.getfield 7, 3) := by decide +kernel
theorem dX11_learns_82 : decode cX11_learns 82 = .ok (.bipush 64, 2) := by decide +kernel
theorem dX11_learns_84 : decode cX11_learns 84 = .ok (.iaload, 1) := by decide +kernel
theorem dX11_learns_85 : decode cX11_learns 85 = .ok (.imul, 1) := by decide +kernel
theorem dX11_learns_86 : decode cX11_learns 86 = .ok (.iadd, 1) := by decide +kernel
theorem dX11_learns_87 : decode cX11_learns 87 = .ok (.iconst 1, 1) := by decide +kernel
theorem dX11_learns_88 : decode cX11_learns 88 = .ok (.aload_n 0, 1) := by decide +kernel
theorem dX11_learns_89 : decode cX11_learns 89 = .ok (.getfield 42, 3) := by decide +kernel
theorem dX11_learns_92 : decode cX11_learns 92 = .ok (.iconst 3, 1) := by decide +kernel
theorem dX11_learns_93 : decode cX11_learns 93 = .ok (.iaload, 1) := by decide +kernel
theorem dX11_learns_94 : decode cX11_learns 94 = .ok (.iload_n 3, 1) := by decide +kernel
theorem dX11_learns_95 : decode cX11_learns 95 = .ok (.imul, 1) := by decide +kernel
theorem dX11_learns_96 : decode cX11_learns 96 = .ok (.bipush 97, 2) := by decide +kernel
theorem dX11_learns_98 : decode cX11_learns 98 = .ok (.irem, 1) := by decide +kernel
theorem dX11_learns_99 : decode cX11_learns 99 = .ok (.aload_n 0, 1) := by decide +kernel
theorem dX11_learns_100 : decode cX11_learns 100 = .ok (.getfield 42, 3) := by decide +kernel
theorem dX11_learns_103 : decode cX11_learns 103 = .ok (.iconst 1, 1) := by decide +kernel
theorem dX11_learns_104 : decode cX11_learns 104 = .ok (.iaload, 1) := by decide +kernel
theorem dX11_learns_105 : decode cX11_learns 105 = .ok (.ineg, 1) := by decide +kernel
theorem dX11_learns_106 : decode cX11_learns 106 = .ok (.iload_n 3, 1) := by decide +kernel
theorem dX11_learns_107 : decode cX11_learns 107 = .ok (.imul, 1) := by decide +kernel
theorem dX11_learns_108 : decode cX11_learns 108 = .ok (.invokestatic 71, 3) := by decide +kernel
theorem dX11_learns_111 : decode cX11_learns 111 = .ok (.aload_n 0, 1) := by decide +kernel
theorem dX11_learns_112 : decode cX11_learns 112 = .ok (.getfield 42, 3) := by decide +kernel
theorem dX11_learns_115 : decode cX11_learns 115 = .ok (.iconst 2, 1) := by decide +kernel
theorem dX11_learns_116 : decode cX11_learns 116 = .ok (.iaload, 1) := by decide +kernel
theorem dX11_learns_117 : decode cX11_learns 117 = .ok (.ineg, 1) := by decide +kernel
theorem dX11_learns_118 : decode cX11_learns 118 = .ok (.iload_n 3, 1) := by decide +kernel
theorem dX11_learns_119 : decode cX11_learns 119 = .ok (.imul, 1) := by decide +kernel
theorem dX11_learns_120 : decode cX11_learns 120 = .ok (.invokestatic 71, 3) := by decide +kernel
theorem dX11_learns_123 : decode cX11_learns 123 = .ok (.aload_n 0, 1) := by decide +kernel
theorem dX11_learns_124 : decode cX11_learns 124 = .ok (.getfield 42, 3) := by decide +kernel
theorem dX11_learns_127 : decode cX11_learns 127 = .ok (.iconst 0, 1) := by decide +kernel
theorem dX11_learns_128 : decode cX11_learns 128 = .ok (.iaload, 1) := by decide +kernel
theorem dX11_learns_129 : decode cX11_learns 129 = .ok (.iload_n 3, 1) := by decide +kernel
theorem dX11_learns_130 : decode cX11_learns 130 = .ok (.imul, 1) := by decide +kernel
theorem dX11_learns_131 : decode cX11_learns 131 = .ok (.bipush 97, 2) := by decide +kernel
theorem dX11_learns_133 : decode cX11_learns 133 = .ok (.irem, 1) := by decide +kernel
theorem dX11_learns_134 : decode cX11_learns 134 = .ok (.invokevirtual 150, 3) := by decide +kernel
theorem dX11_learns_137 : decode cX11_learns 137 = .ok (.aload_n 0, 1) := by decide +kernel
theorem dX11_learns_138 : decode cX11_learns 138 = .ok (.getfield 7, 3) := by decide +kernel
theorem dX11_learns_141 : decode cX11_learns 141 = .ok (.bipush 64, 2) := by decide +kernel
theorem dX11_learns_143 : decode cX11_learns 143 = .ok (.dup2, 1) := by decide +kernel
theorem dX11_learns_144 : decode cX11_learns 144 = .ok (.iaload, 1) := by decide +kernel
theorem dX11_learns_145 : decode cX11_learns 145 = .ok (.iconst 1, 1) := by decide +kernel
theorem dX11_learns_146 : decode cX11_learns 146 = .ok (.iadd, 1) := by decide +kernel
theorem dX11_learns_147 : decode cX11_learns 147 = .ok (.iastore, 1) := by decide +kernel
theorem dX11_learns_148 : decode cX11_learns 148 = .ok (.aload_n 0, 1) := by decide +kernel
theorem dX11_learns_149 : decode cX11_learns 149 = .ok (.getfield 7, 3) := by decide +kernel
theorem dX11_learns_152 : decode cX11_learns 152 = .ok (.bipush 64, 2) := by decide +kernel
theorem dX11_learns_154 : decode cX11_learns 154 = .ok (.iaload, 1) := by decide +kernel
theorem dX11_learns_155 : decode cX11_learns 155 = .ok (.ireturn, 1) := by decide +kernel
theorem dX11_taps_0 : decode cX11_taps 0 = .ok (.iload_n 1, 1) := by decide +kernel
theorem dX11_taps_1 : decode cX11_taps 1 = .ok (.iload_n 2, 1) := by decide +kernel
theorem dX11_taps_2 : decode cX11_taps 2 = .ok (.invokestatic 226, 3) := by decide +kernel
theorem dX11_taps_5 : decode cX11_taps 5 = .ok (.ifCond .eq 12, 3) := by decide +kernel
theorem dX11_taps_8 : decode cX11_taps 8 = .ok (.iload_n 3, 1) := by decide +kernel
theorem dX11_taps_9 : decode cX11_taps 9 = .ok (.iconst 0, 1) := by decide +kernel
theorem dX11_taps_10 : decode cX11_taps 10 = .ok (.iconst 3, 1) := by decide +kernel
theorem dX11_taps_11 : decode cX11_taps 11 = .ok (.invokestatic 82, 3) := by decide +kernel
theorem dX11_taps_14 : decode cX11_taps 14 = .ok (.ifCond .ne 5, 3) := by decide +kernel
theorem dX11_taps_17 : decode cX11_taps 17 = .ok (.iconst (-1), 1) := by decide +kernel
theorem dX11_taps_18 : decode cX11_taps 18 = .ok (.ireturn, 1) := by decide +kernel
theorem dX11_taps_19 : decode cX11_taps 19 = .ok (.aload_n 0, 1) := by decide +kernel
theorem dX11_taps_20 : decode cX11_taps 20 = .ok (.iload_n 1, 1) := by decide +kernel
theorem dX11_taps_21 : decode cX11_taps 21 = .ok (.iload_n 2, 1) := by decide +kernel
theorem dX11_taps_22 : decode cX11_taps 22 = .ok (.invokevirtual 229, 3) := by decide +kernel
theorem dX11_taps_25 : decode cX11_taps 25 = .ok (.ifCond .eq 12, 3) := by decide +kernel
theorem dX11_taps_28 : decode cX11_taps 28 = .ok (.aload_n 0, 1) := by decide +kernel
theorem dX11_taps_29 : decode cX11_taps 29 = .ok (.getfield 42, 3) := by decide +kernel
theorem dX11_taps_32 : decode cX11_taps 32 = .ok (.iload_n 3, 1) := by decide +kernel
theorem dX11_taps_33 : decode cX11_taps 33 = .ok (.iaload, 1) := by decide +kernel
theorem dX11_taps_34 : decode cX11_taps 34 = .ok (.goto 5, 3) := by decide +kernel
theorem dX11_taps_37 : decode cX11_taps 37 = .ok (.bipush (-9), 2) := by decide +kernel
theorem dX11_taps_39 : decode cX11_taps 39 = .ok (.ireturn, 1) := by decide +kernel
theorem dX11_turnsOn_0 : decode cX11_turnsOn 0 = .ok (.iload_n 1, 1) := by decide +kernel
theorem dX11_turnsOn_1 : decode cX11_turnsOn 1 = .ok (.iconst 2, 1) := by decide +kernel
theorem dX11_turnsOn_2 : decode cX11_turnsOn 2 = .ok (.isub, 1) := by decide +kernel
theorem dX11_turnsOn_3 : decode cX11_turnsOn 3 = .ok (.istore_n 2, 1) := by decide +kernel
theorem dX11_turnsOn_4 : decode cX11_turnsOn 4 = .ok (.iload_n 2, 1) := by decide +kernel
theorem dX11_turnsOn_5 : decode cX11_turnsOn 5 = .ok (.ifCond .lt 26, 3) := by decide +kernel
theorem dX11_turnsOn_8 : decode cX11_turnsOn 8 = .ok (.aload_n 0, 1) := by decide +kernel
theorem dX11_turnsOn_9 : decode cX11_turnsOn 9 = .ok (.getfield 45, 3) := by decide +kernel
theorem dX11_turnsOn_12 : decode cX11_turnsOn 12 = .ok (.iload_n 2, 1) := by decide +kernel
theorem dX11_turnsOn_13 : decode cX11_turnsOn 13 = .ok (.iaload, 1) := by decide +kernel
theorem dX11_turnsOn_14 : decode cX11_turnsOn 14 = .ok (.aload_n 0, 1) := by decide +kernel
theorem dX11_turnsOn_15 : decode cX11_turnsOn 15 = .ok (.getfield 45, 3) := by decide +kernel
theorem dX11_turnsOn_18 : decode cX11_turnsOn 18 = .ok (.iload_n 2, 1) := by decide +kernel
theorem dX11_turnsOn_19 : decode cX11_turnsOn 19 = .ok (.iconst 1, 1) := by decide +kernel
theorem dX11_turnsOn_20 : decode cX11_turnsOn 20 = .ok (.iadd, 1) := by decide +kernel
theorem dX11_turnsOn_21 : decode cX11_turnsOn 21 = .ok (.iaload, 1) := by decide +kernel
theorem dX11_turnsOn_22 : decode cX11_turnsOn 22 = .ok (.if_icmp .le 9, 3) := by decide +kernel
theorem dX11_turnsOn_25 : decode cX11_turnsOn 25 = .ok (.iinc 2 (-1), 3) := by decide +kernel
theorem dX11_turnsOn_28 : decode cX11_turnsOn 28 = .ok (.goto (-24), 3) := by decide +kernel
theorem dX11_turnsOn_31 : decode cX11_turnsOn 31 = .ok (.iload_n 2, 1) := by decide +kernel
theorem dX11_turnsOn_32 : decode cX11_turnsOn 32 = .ok (.ifCond .ge 5, 3) := by decide +kernel
theorem dX11_turnsOn_35 : decode cX11_turnsOn 35 = .ok (.iconst 0, 1) := by decide +kernel
theorem dX11_turnsOn_36 : decode cX11_turnsOn 36 = .ok (.ireturn, 1) := by decide +kernel
theorem dX11_turnsOn_37 : decode cX11_turnsOn 37 = .ok (.iload_n 1, 1) := by decide +kernel
theorem dX11_turnsOn_38 : decode cX11_turnsOn 38 = .ok (.iconst 1, 1) := by decide +kernel
theorem dX11_turnsOn_39 : decode cX11_turnsOn 39 = .ok (.isub, 1) := by decide +kernel
theorem dX11_turnsOn_40 : decode cX11_turnsOn 40 = .ok (.istore_n 3, 1) := by decide +kernel
theorem dX11_turnsOn_41 : decode cX11_turnsOn 41 = .ok (.aload_n 0, 1) := by decide +kernel
theorem dX11_turnsOn_42 : decode cX11_turnsOn 42 = .ok (.getfield 45, 3) := by decide +kernel
theorem dX11_turnsOn_45 : decode cX11_turnsOn 45 = .ok (.iload_n 3, 1) := by decide +kernel
theorem dX11_turnsOn_46 : decode cX11_turnsOn 46 = .ok (.iaload, 1) := by decide +kernel
theorem dX11_turnsOn_47 : decode cX11_turnsOn 47 = .ok (.aload_n 0, 1) := by decide +kernel
theorem dX11_turnsOn_48 : decode cX11_turnsOn 48 = .ok (.getfield 45, 3) := by decide +kernel
theorem dX11_turnsOn_51 : decode cX11_turnsOn 51 = .ok (.iload_n 2, 1) := by decide +kernel
theorem dX11_turnsOn_52 : decode cX11_turnsOn 52 = .ok (.iaload, 1) := by decide +kernel
theorem dX11_turnsOn_53 : decode cX11_turnsOn 53 = .ok (.if_icmp .ge 9, 3) := by decide +kernel
theorem dX11_turnsOn_56 : decode cX11_turnsOn 56 = .ok (.iinc 3 (-1), 3) := by decide +kernel
theorem dX11_turnsOn_59 : decode cX11_turnsOn 59 = .ok (.goto (-18), 3) := by decide +kernel
theorem dX11_turnsOn_62 : decode cX11_turnsOn 62 = .ok (.aload_n 0, 1) := by decide +kernel
theorem dX11_turnsOn_63 : decode cX11_turnsOn 63 = .ok (.iload_n 2, 1) := by decide +kernel
theorem dX11_turnsOn_64 : decode cX11_turnsOn 64 = .ok (.iload_n 3, 1) := by decide +kernel
theorem dX11_turnsOn_65 : decode cX11_turnsOn 65 = .ok (.invokevirtual 232, 3) := by decide +kernel
theorem dX11_turnsOn_68 : decode cX11_turnsOn 68 = .ok (.iload_n 2, 1) := by decide +kernel
theorem dX11_turnsOn_69 : decode cX11_turnsOn 69 = .ok (.iconst 1, 1) := by decide +kernel
theorem dX11_turnsOn_70 : decode cX11_turnsOn 70 = .ok (.iadd, 1) := by decide +kernel
theorem dX11_turnsOn_71 : decode cX11_turnsOn 71 = .ok (.istore 4, 2) := by decide +kernel
theorem dX11_turnsOn_73 : decode cX11_turnsOn 73 = .ok (.iload_n 1, 1) := by decide +kernel
theorem dX11_turnsOn_74 : decode cX11_turnsOn 74 = .ok (.iconst 1, 1) := by decide +kernel
theorem dX11_turnsOn_75 : decode cX11_turnsOn 75 = .ok (.isub, 1) := by decide +kernel
theorem dX11_turnsOn_76 : decode cX11_turnsOn 76 = .ok (.istore 5, 2) := by decide +kernel
theorem dX11_turnsOn_78 : decode cX11_turnsOn 78 = .ok (.iload 4, 2) := by decide +kernel
theorem dX11_turnsOn_80 : decode cX11_turnsOn 80 = .ok (.iload 5, 2) := by decide +kernel
theorem dX11_turnsOn_82 : decode cX11_turnsOn 82 = .ok (.if_icmp .ge 20, 3) := by decide +kernel
theorem dX11_turnsOn_85 : decode cX11_turnsOn 85 = .ok (.aload_n 0, 1) := by decide +kernel
theorem dX11_turnsOn_86 : decode cX11_turnsOn 86 = .ok (.iload 4, 2) := by decide +kernel
theorem dX11_turnsOn_88 : decode cX11_turnsOn 88 = .ok (.iload 5, 2) := by decide +kernel
theorem dX11_turnsOn_90 : decode cX11_turnsOn 90 = .ok (.invokevirtual 232, 3) := by decide +kernel
theorem dX11_turnsOn_93 : decode cX11_turnsOn 93 = .ok (.iinc 4 1, 3) := by decide +kernel
theorem dX11_turnsOn_96 : decode cX11_turnsOn 96 = .ok (.iinc 5 (-1), 3) := by decide +kernel
theorem dX11_turnsOn_99 : decode cX11_turnsOn 99 = .ok (.goto (-21), 3) := by decide +kernel
theorem dX11_turnsOn_102 : decode cX11_turnsOn 102 = .ok (.iconst 1, 1) := by decide +kernel
theorem dX11_turnsOn_103 : decode cX11_turnsOn 103 = .ok (.ireturn, 1) := by decide +kernel
theorem dX11_swap_0 : decode cX11_swap 0 = .ok (.aload_n 0, 1) := by decide +kernel
theorem dX11_swap_1 : decode cX11_swap 1 = .ok (.getfield 45, 3) := by decide +kernel
theorem dX11_swap_4 : decode cX11_swap 4 = .ok (.iload_n 1, 1) := by decide +kernel
theorem dX11_swap_5 : decode cX11_swap 5 = .ok (.iaload, 1) := by decide +kernel
theorem dX11_swap_6 : decode cX11_swap 6 = .ok (.istore_n 3, 1) := by decide +kernel
theorem dX11_swap_7 : decode cX11_swap 7 = .ok (.aload_n 0, 1) := by decide +kernel
theorem dX11_swap_8 : decode cX11_swap 8 = .ok (.getfield 45, 3) := by decide +kernel
theorem dX11_swap_11 : decode cX11_swap 11 = .ok (.iload_n 1, 1) := by decide +kernel
theorem dX11_swap_12 : decode cX11_swap 12 = .ok (.aload_n 0, 1) := by decide +kernel
theorem dX11_swap_13 : decode cX11_swap 13 = .ok (.getfield 45, 3) := by decide +kernel
theorem dX11_swap_16 : decode cX11_swap 16 = .ok (.iload_n 2, 1) := by decide +kernel
theorem dX11_swap_17 : decode cX11_swap 17 = .ok (.iaload, 1) := by decide +kernel
theorem dX11_swap_18 : decode cX11_swap 18 = .ok (.iastore, 1) := by decide +kernel
theorem dX11_swap_19 : decode cX11_swap 19 = .ok (.aload_n 0, 1) := by decide +kernel
theorem dX11_swap_20 : decode cX11_swap 20 = .ok (.getfield 45, 3) := by decide +kernel
theorem dX11_swap_23 : decode cX11_swap 23 = .ok (.iload_n 2, 1) := by decide +kernel
theorem dX11_swap_24 : decode cX11_swap 24 = .ok (.iload_n 3, 1) := by decide +kernel
theorem dX11_swap_25 : decode cX11_swap 25 = .ok (.iastore, 1) := by decide +kernel
theorem dX11_swap_26 : decode cX11_swap 26 = .ok (.return_, 1) := by decide +kernel
theorem dX11_findOrder_0 : decode cX11_findOrder 0 = .ok (.aload_n 0, 1) := by decide +kernel
theorem dX11_findOrder_1 : decode cX11_findOrder 1 = .ok (.getfield 7, 3) := by decide +kernel
theorem dX11_findOrder_4 : decode cX11_findOrder 4 = .ok (.bipush 64, 2) := by decide +kernel
theorem dX11_findOrder_6 : decode cX11_findOrder 6 = .ok (.iaload, 1) := by decide +kernel
theorem dX11_findOrder_7 : decode cX11_findOrder 7 = .ok (.istore_n 1, 1) := by decide +kernel
theorem dX11_findOrder_8 : decode cX11_findOrder 8 = .ok (.iconst 0, 1) := by decide +kernel
theorem dX11_findOrder_9 : decode cX11_findOrder 9 = .ok (.istore_n 2, 1) := by decide +kernel
theorem dX11_findOrder_10 : decode cX11_findOrder 10 = .ok (.iload_n 2, 1) := by decide +kernel
theorem dX11_findOrder_11 : decode cX11_findOrder 11 = .ok (.iconst 4, 1) := by decide +kernel
theorem dX11_findOrder_12 : decode cX11_findOrder 12 = .ok (.if_icmp .ge 16, 3) := by decide +kernel
theorem dX11_findOrder_15 : decode cX11_findOrder 15 = .ok (.aload_n 0, 1) := by decide +kernel
theorem dX11_findOrder_16 : decode cX11_findOrder 16 = .ok (.getfield 45, 3) := by decide +kernel
theorem dX11_findOrder_19 : decode cX11_findOrder 19 = .ok (.iload_n 2, 1) := by decide +kernel
theorem dX11_findOrder_20 : decode cX11_findOrder 20 = .ok (.iload_n 2, 1) := by decide +kernel
theorem dX11_findOrder_21 : decode cX11_findOrder 21 = .ok (.iastore, 1) := by decide +kernel
theorem dX11_findOrder_22 : decode cX11_findOrder 22 = .ok (.iinc 2 1, 3) := by decide +kernel
theorem dX11_findOrder_25 : decode cX11_findOrder 25 = .ok (.goto (-15), 3) := by decide +kernel
theorem dX11_findOrder_28 : decode cX11_findOrder 28 = .ok (.aload_n 0, 1) := by decide +kernel
theorem dX11_findOrder_29 : decode cX11_findOrder 29 = .ok (.bipush 33, 2) := by decide +kernel
theorem dX11_findOrder_31 : decode cX11_findOrder 31 = .ok (.putfield 235, 3) := by decide +kernel
theorem dX11_findOrder_34 : decode cX11_findOrder 34 = .ok (.iconst 1, 1) := by decide +kernel
theorem dX11_findOrder_35 : decode cX11_findOrder 35 = .ok (.istore_n 2, 1) := by decide +kernel
theorem dX11_findOrder_36 : decode cX11_findOrder 36 = .ok (.iload_n 2, 1) := by decide +kernel
theorem dX11_findOrder_37 : decode cX11_findOrder 37 = .ok (.ifCond .eq 106, 3) := by decide +kernel
theorem dX11_findOrder_40 : decode cX11_findOrder 40 = .ok (.aload_n 0, 1) := by decide +kernel
theorem dX11_findOrder_41 : decode cX11_findOrder 41 = .ok (.invokevirtual 202, 3) := by decide +kernel
theorem dX11_findOrder_44 : decode cX11_findOrder 44 = .ok (.iconst 0, 1) := by decide +kernel
theorem dX11_findOrder_45 : decode cX11_findOrder 45 = .ok (.istore_n 3, 1) := by decide +kernel
theorem dX11_findOrder_46 : decode cX11_findOrder 46 = .ok (.iload_n 3, 1) := by decide +kernel
theorem dX11_findOrder_47 : decode cX11_findOrder 47 = .ok (.iload_n 1, 1) := by decide +kernel
theorem dX11_findOrder_48 : decode cX11_findOrder 48 = .ok (.if_icmp .ge 24, 3) := by decide +kernel
theorem dX11_findOrder_51 : decode cX11_findOrder 51 = .ok (.aload_n 0, 1) := by decide +kernel
theorem dX11_findOrder_52 : decode cX11_findOrder 52 = .ok (.bipush 65, 2) := by decide +kernel
theorem dX11_findOrder_54 : decode cX11_findOrder 54 = .ok (.iconst 5, 1) := by decide +kernel
theorem dX11_findOrder_55 : decode cX11_findOrder 55 = .ok (.aload_n 0, 1) := by decide +kernel
theorem dX11_findOrder_56 : decode cX11_findOrder 56 = .ok (.getfield 45, 3) := by decide +kernel
theorem dX11_findOrder_59 : decode cX11_findOrder 59 = .ok (.iload_n 3, 1) := by decide +kernel
theorem dX11_findOrder_60 : decode cX11_findOrder 60 = .ok (.iaload, 1) := by decide +kernel
theorem dX11_findOrder_61 : decode cX11_findOrder 61 = .ok (.imul, 1) := by decide +kernel
theorem dX11_findOrder_62 : decode cX11_findOrder 62 = .ok (.iadd, 1) := by decide +kernel
theorem dX11_findOrder_63 : decode cX11_findOrder 63 = .ok (.invokevirtual 199, 3) := by decide +kernel
theorem dX11_findOrder_66 : decode cX11_findOrder 66 = .ok (.iinc 3 1, 3) := by decide +kernel
theorem dX11_findOrder_69 : decode cX11_findOrder 69 = .ok (.goto (-23), 3) := by decide +kernel
theorem dX11_findOrder_72 : decode cX11_findOrder 72 = .ok (.aload_n 0, 1) := by decide +kernel
theorem dX11_findOrder_73 : decode cX11_findOrder 73 = .ok (.invokevirtual 211, 3) := by decide +kernel
theorem dX11_findOrder_76 : decode cX11_findOrder 76 = .ok (.istore_n 3, 1) := by decide +kernel
theorem dX11_findOrder_77 : decode cX11_findOrder 77 = .ok (.iconst 0, 1) := by decide +kernel
theorem dX11_findOrder_78 : decode cX11_findOrder 78 = .ok (.istore 4, 2) := by decide +kernel
theorem dX11_findOrder_80 : decode cX11_findOrder 80 = .ok (.iload 4, 2) := by decide +kernel
theorem dX11_findOrder_82 : decode cX11_findOrder 82 = .ok (.iconst 4, 1) := by decide +kernel
theorem dX11_findOrder_83 : decode cX11_findOrder 83 = .ok (.if_icmp .ge 31, 3) := by decide +kernel
theorem dX11_findOrder_86 : decode cX11_findOrder 86 = .ok (.iload_n 3, 1) := by decide +kernel
theorem dX11_findOrder_87 : decode cX11_findOrder 87 = .ok (.aload_n 0, 1) := by decide +kernel
theorem dX11_findOrder_88 : decode cX11_findOrder 88 = .ok (.getfield 235, 3) := by decide +kernel
theorem dX11_findOrder_91 : decode cX11_findOrder 91 = .ok (.if_icmp .ge 23, 3) := by decide +kernel
theorem dX11_findOrder_94 : decode cX11_findOrder 94 = .ok (.aload_n 0, 1) := by decide +kernel
theorem dX11_findOrder_95 : decode cX11_findOrder 95 = .ok (.getfield 48, 3) := by decide +kernel
theorem dX11_findOrder_98 : decode cX11_findOrder 98 = .ok (.iload 4, 2) := by decide +kernel
theorem dX11_findOrder_100 : decode cX11_findOrder 100 = .ok (.aload_n 0, 1) := by decide +kernel
theorem dX11_findOrder_101 : decode cX11_findOrder 101 = .ok (.getfield 45, 3) := by decide +kernel
theorem dX11_findOrder_104 : decode cX11_findOrder 104 = .ok (.iload 4, 2) := by decide +kernel
theorem dX11_findOrder_106 : decode cX11_findOrder 106 = .ok (.iaload, 1) := by decide +kernel
theorem dX11_findOrder_107 : decode cX11_findOrder 107 = .ok (.iastore, 1) := by decide +kernel
theorem dX11_findOrder_108 : decode cX11_findOrder 108 = .ok (.iinc 4 1, 3) := by decide +kernel
theorem dX11_findOrder_111 : decode cX11_findOrder 111 = .ok (.goto (-31), 3) := by decide +kernel
theorem dX11_findOrder_114 : decode cX11_findOrder 114 = .ok (.aload_n 0, 1) := by decide +kernel
theorem dX11_findOrder_115 : decode cX11_findOrder 115 = .ok (.iload_n 3, 1) := by decide +kernel
theorem dX11_findOrder_116 : decode cX11_findOrder 116 = .ok (.aload_n 0, 1) := by decide +kernel
theorem dX11_findOrder_117 : decode cX11_findOrder 117 = .ok (.getfield 235, 3) := by decide +kernel
theorem dX11_findOrder_120 : decode cX11_findOrder 120 = .ok (.if_icmp .ge 7, 3) := by decide +kernel
theorem dX11_findOrder_123 : decode cX11_findOrder 123 = .ok (.iload_n 3, 1) := by decide +kernel
theorem dX11_findOrder_124 : decode cX11_findOrder 124 = .ok (.goto 7, 3) := by decide +kernel
theorem dX11_findOrder_127 : decode cX11_findOrder 127 = .ok (.aload_n 0, 1) := by decide +kernel
theorem dX11_findOrder_128 : decode cX11_findOrder 128 = .ok (.getfield 235, 3) := by decide +kernel
theorem dX11_findOrder_131 : decode cX11_findOrder 131 = .ok (.putfield 235, 3) := by decide +kernel
theorem dX11_findOrder_134 : decode cX11_findOrder 134 = .ok (.aload_n 0, 1) := by decide +kernel
theorem dX11_findOrder_135 : decode cX11_findOrder 135 = .ok (.iload_n 1, 1) := by decide +kernel
theorem dX11_findOrder_136 : decode cX11_findOrder 136 = .ok (.invokevirtual 238, 3) := by decide +kernel
theorem dX11_findOrder_139 : decode cX11_findOrder 139 = .ok (.istore_n 2, 1) := by decide +kernel
theorem dX11_findOrder_140 : decode cX11_findOrder 140 = .ok (.goto (-104), 3) := by decide +kernel
theorem dX11_findOrder_143 : decode cX11_findOrder 143 = .ok (.return_, 1) := by decide +kernel
theorem dX11_order_0 : decode cX11_order 0 = .ok (.iload_n 1, 1) := by decide +kernel
theorem dX11_order_1 : decode cX11_order 1 = .ok (.iconst (-1), 1) := by decide +kernel
theorem dX11_order_2 : decode cX11_order 2 = .ok (.if_icmp .ge 5, 3) := by decide +kernel
theorem dX11_order_5 : decode cX11_order 5 = .ok (.iconst (-1), 1) := by decide +kernel
theorem dX11_order_6 : decode cX11_order 6 = .ok (.ireturn, 1) := by decide +kernel
theorem dX11_order_7 : decode cX11_order 7 = .ok (.aload_n 0, 1) := by decide +kernel
theorem dX11_order_8 : decode cX11_order 8 = .ok (.invokevirtual 241, 3) := by decide +kernel
theorem dX11_order_11 : decode cX11_order 11 = .ok (.iload_n 1, 1) := by decide +kernel
theorem dX11_order_12 : decode cX11_order 12 = .ok (.ifCond .ge 10, 3) := by decide +kernel
theorem dX11_order_15 : decode cX11_order 15 = .ok (.aload_n 0, 1) := by decide +kernel
theorem dX11_order_16 : decode cX11_order 16 = .ok (.getfield 235, 3) := by decide +kernel
theorem dX11_order_19 : decode cX11_order 19 = .ok (.goto 25, 3) := by decide +kernel
theorem dX11_order_22 : decode cX11_order 22 = .ok (.iload_n 1, 1) := by decide +kernel
theorem dX11_order_23 : decode cX11_order 23 = .ok (.aload_n 0, 1) := by decide +kernel
theorem dX11_order_24 : decode cX11_order 24 = .ok (.getfield 7, 3) := by decide +kernel
theorem dX11_order_27 : decode cX11_order 27 = .ok (.bipush 64, 2) := by decide +kernel
theorem dX11_order_29 : decode cX11_order 29 = .ok (.iaload, 1) := by decide +kernel
theorem dX11_order_30 : decode cX11_order 30 = .ok (.if_icmp .ge 12, 3) := by decide +kernel
theorem dX11_order_33 : decode cX11_order 33 = .ok (.aload_n 0, 1) := by decide +kernel
theorem dX11_order_34 : decode cX11_order 34 = .ok (.getfield 48, 3) := by decide +kernel
theorem dX11_order_37 : decode cX11_order 37 = .ok (.iload_n 1, 1) := by decide +kernel
theorem dX11_order_38 : decode cX11_order 38 = .ok (.iaload, 1) := by decide +kernel
theorem dX11_order_39 : decode cX11_order 39 = .ok (.goto 5, 3) := by decide +kernel
theorem dX11_order_42 : decode cX11_order 42 = .ok (.bipush (-9), 2) := by decide +kernel
theorem dX11_order_44 : decode cX11_order 44 = .ok (.ireturn, 1) := by decide +kernel
theorem dX11_orders_0 : decode cX11_orders 0 = .ok (.aload_n 0, 1) := by decide +kernel
theorem dX11_orders_1 : decode cX11_orders 1 = .ok (.invokevirtual 241, 3) := by decide +kernel
theorem dX11_orders_4 : decode cX11_orders 4 = .ok (.iconst 1, 1) := by decide +kernel
theorem dX11_orders_5 : decode cX11_orders 5 = .ok (.istore_n 1, 1) := by decide +kernel
theorem dX11_orders_6 : decode cX11_orders 6 = .ok (.iconst 0, 1) := by decide +kernel
theorem dX11_orders_7 : decode cX11_orders 7 = .ok (.istore_n 2, 1) := by decide +kernel
theorem dX11_orders_8 : decode cX11_orders 8 = .ok (.iload_n 2, 1) := by decide +kernel
theorem dX11_orders_9 : decode cX11_orders 9 = .ok (.aload_n 0, 1) := by decide +kernel
theorem dX11_orders_10 : decode cX11_orders 10 = .ok (.getfield 7, 3) := by decide +kernel
theorem dX11_orders_13 : decode cX11_orders 13 = .ok (.bipush 64, 2) := by decide +kernel
theorem dX11_orders_15 : decode cX11_orders 15 = .ok (.iaload, 1) := by decide +kernel
theorem dX11_orders_16 : decode cX11_orders 16 = .ok (.if_icmp .ge 29, 3) := by decide +kernel
theorem dX11_orders_19 : decode cX11_orders 19 = .ok (.iload_n 1, 1) := by decide +kernel
theorem dX11_orders_20 : decode cX11_orders 20 = .ok (.ifCond .eq 17, 3) := by decide +kernel
theorem dX11_orders_23 : decode cX11_orders 23 = .ok (.aload_n 0, 1) := by decide +kernel
theorem dX11_orders_24 : decode cX11_orders 24 = .ok (.getfield 48, 3) := by decide +kernel
theorem dX11_orders_27 : decode cX11_orders 27 = .ok (.iload_n 2, 1) := by decide +kernel
theorem dX11_orders_28 : decode cX11_orders 28 = .ok (.iaload, 1) := by decide +kernel
theorem dX11_orders_29 : decode cX11_orders 29 = .ok (.iload_n 2, 1) := by decide +kernel
theorem dX11_orders_30 : decode cX11_orders 30 = .ok (.if_icmp .ne 7, 3) := by decide +kernel
theorem dX11_orders_33 : decode cX11_orders 33 = .ok (.iconst 1, 1) := by decide +kernel
theorem dX11_orders_34 : decode cX11_orders 34 = .ok (.goto 4, 3) := by decide +kernel
theorem dX11_orders_37 : decode cX11_orders 37 = .ok (.iconst 0, 1) := by decide +kernel
theorem dX11_orders_38 : decode cX11_orders 38 = .ok (.istore_n 1, 1) := by decide +kernel
theorem dX11_orders_39 : decode cX11_orders 39 = .ok (.iinc 2 1, 3) := by decide +kernel
theorem dX11_orders_42 : decode cX11_orders 42 = .ok (.goto (-34), 3) := by decide +kernel
theorem dX11_orders_45 : decode cX11_orders 45 = .ok (.iload_n 1, 1) := by decide +kernel
theorem dX11_orders_46 : decode cX11_orders 46 = .ok (.ifCond .eq 6, 3) := by decide +kernel
theorem dX11_orders_49 : decode cX11_orders 49 = .ok (.bipush (-2), 2) := by decide +kernel
theorem dX11_orders_51 : decode cX11_orders 51 = .ok (.ireturn, 1) := by decide +kernel
theorem dX11_orders_52 : decode cX11_orders 52 = .ok (.aload_n 0, 1) := by decide +kernel
theorem dX11_orders_53 : decode cX11_orders 53 = .ok (.invokevirtual 140, 3) := by decide +kernel
theorem dX11_orders_56 : decode cX11_orders 56 = .ok (.iconst 0, 1) := by decide +kernel
theorem dX11_orders_57 : decode cX11_orders 57 = .ok (.istore_n 2, 1) := by decide +kernel
theorem dX11_orders_58 : decode cX11_orders 58 = .ok (.iload_n 2, 1) := by decide +kernel
theorem dX11_orders_59 : decode cX11_orders 59 = .ok (.bipush 20, 2) := by decide +kernel
theorem dX11_orders_61 : decode cX11_orders 61 = .ok (.if_icmp .ge 24, 3) := by decide +kernel
theorem dX11_orders_64 : decode cX11_orders 64 = .ok (.aload_n 0, 1) := by decide +kernel
theorem dX11_orders_65 : decode cX11_orders 65 = .ok (.getfield 51, 3) := by decide +kernel
theorem dX11_orders_68 : decode cX11_orders 68 = .ok (.iload_n 2, 1) := by decide +kernel
theorem dX11_orders_69 : decode cX11_orders 69 = .ok (.aload_n 0, 1) := by decide +kernel
theorem dX11_orders_70 : decode cX11_orders 70 = .ok (.getfield 7, 3) := by decide +kernel
theorem dX11_orders_73 : decode cX11_orders 73 = .ok (.bipush 65, 2) := by decide +kernel
theorem dX11_orders_75 : decode cX11_orders 75 = .ok (.iload_n 2, 1) := by decide +kernel
theorem dX11_orders_76 : decode cX11_orders 76 = .ok (.iadd, 1) := by decide +kernel
theorem dX11_orders_77 : decode cX11_orders 77 = .ok (.iaload, 1) := by decide +kernel
theorem dX11_orders_78 : decode cX11_orders 78 = .ok (.iastore, 1) := by decide +kernel
theorem dX11_orders_79 : decode cX11_orders 79 = .ok (.iinc 2 1, 3) := by decide +kernel
theorem dX11_orders_82 : decode cX11_orders 82 = .ok (.goto (-24), 3) := by decide +kernel
theorem dX11_orders_85 : decode cX11_orders 85 = .ok (.iconst 0, 1) := by decide +kernel
theorem dX11_orders_86 : decode cX11_orders 86 = .ok (.istore_n 2, 1) := by decide +kernel
theorem dX11_orders_87 : decode cX11_orders 87 = .ok (.iload_n 2, 1) := by decide +kernel
theorem dX11_orders_88 : decode cX11_orders 88 = .ok (.iconst 5, 1) := by decide +kernel
theorem dX11_orders_89 : decode cX11_orders 89 = .ok (.aload_n 0, 1) := by decide +kernel
theorem dX11_orders_90 : decode cX11_orders 90 = .ok (.getfield 7, 3) := by decide +kernel
theorem dX11_orders_93 : decode cX11_orders 93 = .ok (.bipush 64, 2) := by decide +kernel
theorem dX11_orders_95 : decode cX11_orders 95 = .ok (.iaload, 1) := by decide +kernel
theorem dX11_orders_96 : decode cX11_orders 96 = .ok (.imul, 1) := by decide +kernel
theorem dX11_orders_97 : decode cX11_orders 97 = .ok (.if_icmp .ge 37, 3) := by decide +kernel
theorem dX11_orders_100 : decode cX11_orders 100 = .ok (.aload_n 0, 1) := by decide +kernel
theorem dX11_orders_101 : decode cX11_orders 101 = .ok (.getfield 7, 3) := by decide +kernel
theorem dX11_orders_104 : decode cX11_orders 104 = .ok (.bipush 65, 2) := by decide +kernel
theorem dX11_orders_106 : decode cX11_orders 106 = .ok (.iload_n 2, 1) := by decide +kernel
theorem dX11_orders_107 : decode cX11_orders 107 = .ok (.iadd, 1) := by decide +kernel
theorem dX11_orders_108 : decode cX11_orders 108 = .ok (.aload_n 0, 1) := by decide +kernel
theorem dX11_orders_109 : decode cX11_orders 109 = .ok (.getfield 51, 3) := by decide +kernel
theorem dX11_orders_112 : decode cX11_orders 112 = .ok (.iconst 5, 1) := by decide +kernel
theorem dX11_orders_113 : decode cX11_orders 113 = .ok (.aload_n 0, 1) := by decide +kernel
theorem dX11_orders_114 : decode cX11_orders 114 = .ok (.getfield 48, 3) := by decide +kernel
theorem dX11_orders_117 : decode cX11_orders 117 = .ok (.iload_n 2, 1) := by decide +kernel
theorem dX11_orders_118 : decode cX11_orders 118 = .ok (.iconst 5, 1) := by decide +kernel
theorem dX11_orders_119 : decode cX11_orders 119 = .ok (.idiv, 1) := by decide +kernel
theorem dX11_orders_120 : decode cX11_orders 120 = .ok (.iaload, 1) := by decide +kernel
theorem dX11_orders_121 : decode cX11_orders 121 = .ok (.imul, 1) := by decide +kernel
theorem dX11_orders_122 : decode cX11_orders 122 = .ok (.iload_n 2, 1) := by decide +kernel
theorem dX11_orders_123 : decode cX11_orders 123 = .ok (.iconst 5, 1) := by decide +kernel
theorem dX11_orders_124 : decode cX11_orders 124 = .ok (.irem, 1) := by decide +kernel
theorem dX11_orders_125 : decode cX11_orders 125 = .ok (.iadd, 1) := by decide +kernel
theorem dX11_orders_126 : decode cX11_orders 126 = .ok (.iaload, 1) := by decide +kernel
theorem dX11_orders_127 : decode cX11_orders 127 = .ok (.iastore, 1) := by decide +kernel
theorem dX11_orders_128 : decode cX11_orders 128 = .ok (.iinc 2 1, 3) := by decide +kernel
theorem dX11_orders_131 : decode cX11_orders 131 = .ok (.goto (-44), 3) := by decide +kernel
theorem dX11_orders_134 : decode cX11_orders 134 = .ok (.aload_n 0, 1) := by decide +kernel
theorem dX11_orders_135 : decode cX11_orders 135 = .ok (.getfield 235, 3) := by decide +kernel
theorem dX11_orders_138 : decode cX11_orders 138 = .ok (.ireturn, 1) := by decide +kernel
theorem dX11_hears_0 : decode cX11_hears 0 = .ok (.aload_n 0, 1) := by decide +kernel
theorem dX11_hears_1 : decode cX11_hears 1 = .ok (.invokevirtual 244, 3) := by decide +kernel
theorem dX11_hears_4 : decode cX11_hears 4 = .ok (.istore_n 1, 1) := by decide +kernel
theorem dX11_hears_5 : decode cX11_hears 5 = .ok (.aload_n 0, 1) := by decide +kernel
theorem dX11_hears_6 : decode cX11_hears 6 = .ok (.invokevirtual 140, 3) := by decide +kernel
theorem dX11_hears_9 : decode cX11_hears 9 = .ok (.aload_n 0, 1) := by decide +kernel
theorem dX11_hears_10 : decode cX11_hears 10 = .ok (.getfield 7, 3) := by decide +kernel
theorem dX11_hears_13 : decode cX11_hears 13 = .ok (.bipush 85, 2) := by decide +kernel
theorem dX11_hears_15 : decode cX11_hears 15 = .ok (.dup2, 1) := by decide +kernel
theorem dX11_hears_16 : decode cX11_hears 16 = .ok (.iaload, 1) := by decide +kernel
theorem dX11_hears_17 : decode cX11_hears 17 = .ok (.iconst 1, 1) := by decide +kernel
theorem dX11_hears_18 : decode cX11_hears 18 = .ok (.iadd, 1) := by decide +kernel
theorem dX11_hears_19 : decode cX11_hears 19 = .ok (.iastore, 1) := by decide +kernel
theorem dX11_hears_20 : decode cX11_hears 20 = .ok (.aload_n 0, 1) := by decide +kernel
theorem dX11_hears_21 : decode cX11_hears 21 = .ok (.ldc 247, 2) := by decide +kernel
theorem dX11_hears_23 : decode cX11_hears 23 = .ok (.aload_n 0, 1) := by decide +kernel
theorem dX11_hears_24 : decode cX11_hears 24 = .ok (.getfield 78, 3) := by decide +kernel
theorem dX11_hears_27 : decode cX11_hears 27 = .ok (.fmul, 1) := by decide +kernel
theorem dX11_hears_28 : decode cX11_hears 28 = .ok (.ldc 248, 2) := by decide +kernel
theorem dX11_hears_30 : decode cX11_hears 30 = .ok (.iload_n 1, 1) := by decide +kernel
theorem dX11_hears_31 : decode cX11_hears 31 = .ok (.i2f, 1) := by decide +kernel
theorem dX11_hears_32 : decode cX11_hears 32 = .ok (.fmul, 1) := by decide +kernel
theorem dX11_hears_33 : decode cX11_hears 33 = .ok (.fadd, 1) := by decide +kernel
theorem dX11_hears_34 : decode cX11_hears 34 = .ok (.putfield 78, 3) := by decide +kernel
theorem dX11_hears_37 : decode cX11_hears 37 = .ok (.iload_n 1, 1) := by decide +kernel
theorem dX11_hears_38 : decode cX11_hears 38 = .ok (.ireturn, 1) := by decide +kernel
theorem dX11_at_0 : decode cX11_at 0 = .ok (.iload_n 1, 1) := by decide +kernel
theorem dX11_at_1 : decode cX11_at 1 = .ok (.iconst 0, 1) := by decide +kernel
theorem dX11_at_2 : decode cX11_at 2 = .ok (.iconst 1, 1) := by decide +kernel
theorem dX11_at_3 : decode cX11_at 3 = .ok (.invokestatic 82, 3) := by decide +kernel
theorem dX11_at_6 : decode cX11_at 6 = .ok (.ifCond .eq 22, 3) := by decide +kernel
theorem dX11_at_9 : decode cX11_at 9 = .ok (.iload_n 2, 1) := by decide +kernel
theorem dX11_at_10 : decode cX11_at 10 = .ok (.iconst 0, 1) := by decide +kernel
theorem dX11_at_11 : decode cX11_at 11 = .ok (.bipush 15, 2) := by decide +kernel
theorem dX11_at_13 : decode cX11_at 13 = .ok (.invokestatic 82, 3) := by decide +kernel
theorem dX11_at_16 : decode cX11_at 16 = .ok (.ifCond .eq 12, 3) := by decide +kernel
theorem dX11_at_19 : decode cX11_at 19 = .ok (.iload_n 3, 1) := by decide +kernel
theorem dX11_at_20 : decode cX11_at 20 = .ok (.iconst 0, 1) := by decide +kernel
theorem dX11_at_21 : decode cX11_at 21 = .ok (.iconst 3, 1) := by decide +kernel
theorem dX11_at_22 : decode cX11_at 22 = .ok (.invokestatic 82, 3) := by decide +kernel
theorem dX11_at_25 : decode cX11_at 25 = .ok (.ifCond .ne 5, 3) := by decide +kernel
theorem dX11_at_28 : decode cX11_at 28 = .ok (.iconst (-1), 1) := by decide +kernel
theorem dX11_at_29 : decode cX11_at 29 = .ok (.ireturn, 1) := by decide +kernel
theorem dX11_at_30 : decode cX11_at 30 = .ok (.bipush 16, 2) := by decide +kernel
theorem dX11_at_32 : decode cX11_at 32 = .ok (.iload_n 1, 1) := by decide +kernel
theorem dX11_at_33 : decode cX11_at 33 = .ok (.imul, 1) := by decide +kernel
theorem dX11_at_34 : decode cX11_at 34 = .ok (.iload_n 2, 1) := by decide +kernel
theorem dX11_at_35 : decode cX11_at 35 = .ok (.iadd, 1) := by decide +kernel
theorem dX11_at_36 : decode cX11_at 36 = .ok (.istore 4, 2) := by decide +kernel
theorem dX11_at_38 : decode cX11_at 38 = .ok (.iload_n 3, 1) := by decide +kernel
theorem dX11_at_39 : decode cX11_at 39 = .ok (.ifCond .ne 11, 3) := by decide +kernel
theorem dX11_at_42 : decode cX11_at 42 = .ok (.aload_n 0, 1) := by decide +kernel
theorem dX11_at_43 : decode cX11_at 43 = .ok (.getfield 7, 3) := by decide +kernel
theorem dX11_at_46 : decode cX11_at 46 = .ok (.iload 4, 2) := by decide +kernel
theorem dX11_at_48 : decode cX11_at 48 = .ok (.iaload, 1) := by decide +kernel
theorem dX11_at_49 : decode cX11_at 49 = .ok (.ireturn, 1) := by decide +kernel
theorem dX11_at_50 : decode cX11_at 50 = .ok (.aload_n 0, 1) := by decide +kernel
theorem dX11_at_51 : decode cX11_at 51 = .ok (.invokevirtual 202, 3) := by decide +kernel
theorem dX11_at_54 : decode cX11_at 54 = .ok (.iload_n 3, 1) := by decide +kernel
theorem dX11_at_55 : decode cX11_at 55 = .ok (.iconst 1, 1) := by decide +kernel
theorem dX11_at_56 : decode cX11_at 56 = .ok (.if_icmp .ne 11, 3) := by decide +kernel
theorem dX11_at_59 : decode cX11_at 59 = .ok (.aload_n 0, 1) := by decide +kernel
theorem dX11_at_60 : decode cX11_at 60 = .ok (.getfield 36, 3) := by decide +kernel
theorem dX11_at_63 : decode cX11_at 63 = .ok (.iload 4, 2) := by decide +kernel
theorem dX11_at_65 : decode cX11_at 65 = .ok (.iaload, 1) := by decide +kernel
theorem dX11_at_66 : decode cX11_at 66 = .ok (.ireturn, 1) := by decide +kernel
theorem dX11_at_67 : decode cX11_at 67 = .ok (.aload_n 0, 1) := by decide +kernel
theorem dX11_at_68 : decode cX11_at 68 = .ok (.aload_n 0, 1) := by decide +kernel
theorem dX11_at_69 : decode cX11_at 69 = .ok (.getfield 7, 3) := by decide +kernel
theorem dX11_at_72 : decode cX11_at 72 = .ok (.bipush 64, 2) := by decide +kernel
theorem dX11_at_74 : decode cX11_at 74 = .ok (.iaload, 1) := by decide +kernel
theorem dX11_at_75 : decode cX11_at 75 = .ok (.invokevirtual 205, 3) := by decide +kernel
theorem dX11_at_78 : decode cX11_at 78 = .ok (.iload_n 3, 1) := by decide +kernel
theorem dX11_at_79 : decode cX11_at 79 = .ok (.iconst 2, 1) := by decide +kernel
theorem dX11_at_80 : decode cX11_at 80 = .ok (.if_icmp .ne 13, 3) := by decide +kernel
theorem dX11_at_83 : decode cX11_at 83 = .ok (.aload_n 0, 1) := by decide +kernel
theorem dX11_at_84 : decode cX11_at 84 = .ok (.getfield 36, 3) := by decide +kernel
theorem dX11_at_87 : decode cX11_at 87 = .ok (.iload 4, 2) := by decide +kernel
theorem dX11_at_89 : decode cX11_at 89 = .ok (.iaload, 1) := by decide +kernel
theorem dX11_at_90 : decode cX11_at 90 = .ok (.goto 13, 3) := by decide +kernel
theorem dX11_at_93 : decode cX11_at 93 = .ok (.aload_n 0, 1) := by decide +kernel
theorem dX11_at_94 : decode cX11_at 94 = .ok (.getfield 36, 3) := by decide +kernel
theorem dX11_at_97 : decode cX11_at 97 = .ok (.iload 4, 2) := by decide +kernel
theorem dX11_at_99 : decode cX11_at 99 = .ok (.iaload, 1) := by decide +kernel
theorem dX11_at_100 : decode cX11_at 100 = .ok (.invokestatic 168, 3) := by decide +kernel
theorem dX11_at_103 : decode cX11_at 103 = .ok (.ireturn, 1) := by decide +kernel
theorem dX11_deed_0 : decode cX11_deed 0 = .ok (.iload_n 1, 1) := by decide +kernel
theorem dX11_deed_1 : decode cX11_deed 1 = .ok (.iconst 0, 1) := by decide +kernel
theorem dX11_deed_2 : decode cX11_deed 2 = .ok (.aload_n 0, 1) := by decide +kernel
theorem dX11_deed_3 : decode cX11_deed 3 = .ok (.getfield 7, 3) := by decide +kernel
theorem dX11_deed_6 : decode cX11_deed 6 = .ok (.bipush 33, 2) := by decide +kernel
theorem dX11_deed_8 : decode cX11_deed 8 = .ok (.iaload, 1) := by decide +kernel
theorem dX11_deed_9 : decode cX11_deed 9 = .ok (.iconst 1, 1) := by decide +kernel
theorem dX11_deed_10 : decode cX11_deed 10 = .ok (.isub, 1) := by decide +kernel
theorem dX11_deed_11 : decode cX11_deed 11 = .ok (.invokestatic 82, 3) := by decide +kernel
theorem dX11_deed_14 : decode cX11_deed 14 = .ok (.ifCond .eq 28, 3) := by decide +kernel
theorem dX11_deed_17 : decode cX11_deed 17 = .ok (.iload_n 2, 1) := by decide +kernel
theorem dX11_deed_18 : decode cX11_deed 18 = .ok (.iconst 0, 1) := by decide +kernel
theorem dX11_deed_19 : decode cX11_deed 19 = .ok (.iconst 4, 1) := by decide +kernel
theorem dX11_deed_20 : decode cX11_deed 20 = .ok (.invokestatic 82, 3) := by decide +kernel
theorem dX11_deed_23 : decode cX11_deed 23 = .ok (.ifCond .eq 19, 3) := by decide +kernel
theorem dX11_deed_26 : decode cX11_deed 26 = .ok (.aload_n 0, 1) := by decide +kernel
theorem dX11_deed_27 : decode cX11_deed 27 = .ok (.getfield 7, 3) := by decide +kernel
theorem dX11_deed_30 : decode cX11_deed 30 = .ok (.bipush 34, 2) := by decide +kernel
theorem dX11_deed_32 : decode cX11_deed 32 = .ok (.iconst 5, 1) := by decide +kernel
theorem dX11_deed_33 : decode cX11_deed 33 = .ok (.iload_n 1, 1) := by decide +kernel
theorem dX11_deed_34 : decode cX11_deed 34 = .ok (.imul, 1) := by decide +kernel
theorem dX11_deed_35 : decode cX11_deed 35 = .ok (.iadd, 1) := by decide +kernel
theorem dX11_deed_36 : decode cX11_deed 36 = .ok (.iload_n 2, 1) := by decide +kernel
theorem dX11_deed_37 : decode cX11_deed 37 = .ok (.iadd, 1) := by decide +kernel
theorem dX11_deed_38 : decode cX11_deed 38 = .ok (.iaload, 1) := by decide +kernel
theorem dX11_deed_39 : decode cX11_deed 39 = .ok (.goto 4, 3) := by decide +kernel
theorem dX11_deed_42 : decode cX11_deed 42 = .ok (.iconst (-1), 1) := by decide +kernel
theorem dX11_deed_43 : decode cX11_deed 43 = .ok (.ireturn, 1) := by decide +kernel
theorem dX11_stage_0 : decode cX11_stage 0 = .ok (.iload_n 1, 1) := by decide +kernel
theorem dX11_stage_1 : decode cX11_stage 1 = .ok (.iconst 0, 1) := by decide +kernel
theorem dX11_stage_2 : decode cX11_stage 2 = .ok (.aload_n 0, 1) := by decide +kernel
theorem dX11_stage_3 : decode cX11_stage 3 = .ok (.getfield 7, 3) := by decide +kernel
theorem dX11_stage_6 : decode cX11_stage 6 = .ok (.bipush 64, 2) := by decide +kernel
theorem dX11_stage_8 : decode cX11_stage 8 = .ok (.iaload, 1) := by decide +kernel
theorem dX11_stage_9 : decode cX11_stage 9 = .ok (.iconst 1, 1) := by decide +kernel
theorem dX11_stage_10 : decode cX11_stage 10 = .ok (.isub, 1) := by decide +kernel
theorem dX11_stage_11 : decode cX11_stage 11 = .ok (.invokestatic 82, 3) := by decide +kernel
theorem dX11_stage_14 : decode cX11_stage 14 = .ok (.ifCond .eq 28, 3) := by decide +kernel
theorem dX11_stage_17 : decode cX11_stage 17 = .ok (.iload_n 2, 1) := by decide +kernel
theorem dX11_stage_18 : decode cX11_stage 18 = .ok (.iconst 0, 1) := by decide +kernel
theorem dX11_stage_19 : decode cX11_stage 19 = .ok (.iconst 4, 1) := by decide +kernel
theorem dX11_stage_20 : decode cX11_stage 20 = .ok (.invokestatic 82, 3) := by decide +kernel
theorem dX11_stage_23 : decode cX11_stage 23 = .ok (.ifCond .eq 19, 3) := by decide +kernel
theorem dX11_stage_26 : decode cX11_stage 26 = .ok (.aload_n 0, 1) := by decide +kernel
theorem dX11_stage_27 : decode cX11_stage 27 = .ok (.getfield 7, 3) := by decide +kernel
theorem dX11_stage_30 : decode cX11_stage 30 = .ok (.bipush 65, 2) := by decide +kernel
theorem dX11_stage_32 : decode cX11_stage 32 = .ok (.iconst 5, 1) := by decide +kernel
theorem dX11_stage_33 : decode cX11_stage 33 = .ok (.iload_n 1, 1) := by decide +kernel
theorem dX11_stage_34 : decode cX11_stage 34 = .ok (.imul, 1) := by decide +kernel
theorem dX11_stage_35 : decode cX11_stage 35 = .ok (.iadd, 1) := by decide +kernel
theorem dX11_stage_36 : decode cX11_stage 36 = .ok (.iload_n 2, 1) := by decide +kernel
theorem dX11_stage_37 : decode cX11_stage 37 = .ok (.iadd, 1) := by decide +kernel
theorem dX11_stage_38 : decode cX11_stage 38 = .ok (.iaload, 1) := by decide +kernel
theorem dX11_stage_39 : decode cX11_stage 39 = .ok (.goto 4, 3) := by decide +kernel
theorem dX11_stage_42 : decode cX11_stage 42 = .ok (.iconst (-1), 1) := by decide +kernel
theorem dX11_stage_43 : decode cX11_stage 43 = .ok (.ireturn, 1) := by decide +kernel
theorem dX11_wrong_0 : decode cX11_wrong 0 = .ok (.iload_n 1, 1) := by decide +kernel
theorem dX11_wrong_1 : decode cX11_wrong 1 = .ok (.iconst 0, 1) := by decide +kernel
theorem dX11_wrong_2 : decode cX11_wrong 2 = .ok (.aload_n 0, 1) := by decide +kernel
theorem dX11_wrong_3 : decode cX11_wrong 3 = .ok (.getfield 7, 3) := by decide +kernel
theorem dX11_wrong_6 : decode cX11_wrong 6 = .ok (.bipush 64, 2) := by decide +kernel
theorem dX11_wrong_8 : decode cX11_wrong 8 = .ok (.iaload, 1) := by decide +kernel
theorem dX11_wrong_9 : decode cX11_wrong 9 = .ok (.invokestatic 82, 3) := by decide +kernel
theorem dX11_wrong_12 : decode cX11_wrong 12 = .ok (.ifCond .ne 5, 3) := by decide +kernel
theorem dX11_wrong_15 : decode cX11_wrong 15 = .ok (.iconst (-1), 1) := by decide +kernel
theorem dX11_wrong_16 : decode cX11_wrong 16 = .ok (.ireturn, 1) := by decide +kernel
theorem dX11_wrong_17 : decode cX11_wrong 17 = .ok (.aload_n 0, 1) := by decide +kernel
theorem dX11_wrong_18 : decode cX11_wrong 18 = .ok (.invokevirtual 202, 3) := by decide +kernel
theorem dX11_wrong_21 : decode cX11_wrong 21 = .ok (.aload_n 0, 1) := by decide +kernel
theorem dX11_wrong_22 : decode cX11_wrong 22 = .ok (.iload_n 1, 1) := by decide +kernel
theorem dX11_wrong_23 : decode cX11_wrong 23 = .ok (.invokevirtual 205, 3) := by decide +kernel
theorem dX11_wrong_26 : decode cX11_wrong 26 = .ok (.aload_n 0, 1) := by decide +kernel
theorem dX11_wrong_27 : decode cX11_wrong 27 = .ok (.invokevirtual 211, 3) := by decide +kernel
theorem dX11_wrong_30 : decode cX11_wrong 30 = .ok (.ireturn, 1) := by decide +kernel
theorem dX11_loss_0 : decode cX11_loss 0 = .ok (.ldc 249, 2) := by decide +kernel
theorem dX11_loss_2 : decode cX11_loss 2 = .ok (.aload_n 0, 1) := by decide +kernel
theorem dX11_loss_3 : decode cX11_loss 3 = .ok (.getfield 78, 3) := by decide +kernel
theorem dX11_loss_6 : decode cX11_loss 6 = .ok (.fmul, 1) := by decide +kernel
theorem dX11_loss_7 : decode cX11_loss 7 = .ok (.f2i, 1) := by decide +kernel
theorem dX11_loss_8 : decode cX11_loss 8 = .ok (.ireturn, 1) := by decide +kernel
theorem dX11_keepReceived_0 : decode cX11_keepReceived 0 = .ok (.aload_n 0, 1) := by decide +kernel
theorem dX11_keepReceived_1 : decode cX11_keepReceived 1 = .ok (.invokevirtual 208, 3) := by decide +kernel
theorem dX11_keepReceived_4 : decode cX11_keepReceived 4 = .ok (.iconst 0, 1) := by decide +kernel
theorem dX11_keepReceived_5 : decode cX11_keepReceived 5 = .ok (.istore_n 1, 1) := by decide +kernel
theorem dX11_keepReceived_6 : decode cX11_keepReceived 6 = .ok (.iload_n 1, 1) := by decide +kernel
theorem dX11_keepReceived_7 : decode cX11_keepReceived 7 = .ok (.bipush 32, 2) := by decide +kernel
theorem dX11_keepReceived_9 : decode cX11_keepReceived 9 = .ok (.if_icmp .ge 21, 3) := by decide +kernel
theorem dX11_keepReceived_12 : decode cX11_keepReceived 12 = .ok (.aload_n 0, 1) := by decide +kernel
theorem dX11_keepReceived_13 : decode cX11_keepReceived 13 = .ok (.getfield 54, 3) := by decide +kernel
theorem dX11_keepReceived_16 : decode cX11_keepReceived 16 = .ok (.iload_n 1, 1) := by decide +kernel
theorem dX11_keepReceived_17 : decode cX11_keepReceived 17 = .ok (.aload_n 0, 1) := by decide +kernel
theorem dX11_keepReceived_18 : decode cX11_keepReceived 18 = .ok (.getfield 36, 3) := by decide +kernel
theorem dX11_keepReceived_21 : decode cX11_keepReceived 21 = .ok (.iload_n 1, 1) := by decide +kernel
theorem dX11_keepReceived_22 : decode cX11_keepReceived 22 = .ok (.iaload, 1) := by decide +kernel
theorem dX11_keepReceived_23 : decode cX11_keepReceived 23 = .ok (.iastore, 1) := by decide +kernel
theorem dX11_keepReceived_24 : decode cX11_keepReceived 24 = .ok (.iinc 1 1, 3) := by decide +kernel
theorem dX11_keepReceived_27 : decode cX11_keepReceived 27 = .ok (.goto (-21), 3) := by decide +kernel
theorem dX11_keepReceived_30 : decode cX11_keepReceived 30 = .ok (.return_, 1) := by decide +kernel
theorem dX11_layKept_0 : decode cX11_layKept 0 = .ok (.iconst 0, 1) := by decide +kernel
theorem dX11_layKept_1 : decode cX11_layKept 1 = .ok (.istore_n 1, 1) := by decide +kernel
theorem dX11_layKept_2 : decode cX11_layKept 2 = .ok (.iload_n 1, 1) := by decide +kernel
theorem dX11_layKept_3 : decode cX11_layKept 3 = .ok (.bipush 32, 2) := by decide +kernel
theorem dX11_layKept_5 : decode cX11_layKept 5 = .ok (.if_icmp .ge 21, 3) := by decide +kernel
theorem dX11_layKept_8 : decode cX11_layKept 8 = .ok (.aload_n 0, 1) := by decide +kernel
theorem dX11_layKept_9 : decode cX11_layKept 9 = .ok (.getfield 36, 3) := by decide +kernel
theorem dX11_layKept_12 : decode cX11_layKept 12 = .ok (.iload_n 1, 1) := by decide +kernel
theorem dX11_layKept_13 : decode cX11_layKept 13 = .ok (.aload_n 0, 1) := by decide +kernel
theorem dX11_layKept_14 : decode cX11_layKept 14 = .ok (.getfield 54, 3) := by decide +kernel
theorem dX11_layKept_17 : decode cX11_layKept 17 = .ok (.iload_n 1, 1) := by decide +kernel
theorem dX11_layKept_18 : decode cX11_layKept 18 = .ok (.iaload, 1) := by decide +kernel
theorem dX11_layKept_19 : decode cX11_layKept 19 = .ok (.iastore, 1) := by decide +kernel
theorem dX11_layKept_20 : decode cX11_layKept 20 = .ok (.iinc 1 1, 3) := by decide +kernel
theorem dX11_layKept_23 : decode cX11_layKept 23 = .ok (.goto (-21), 3) := by decide +kernel
theorem dX11_layKept_26 : decode cX11_layKept 26 = .ok (.return_, 1) := by decide +kernel
theorem dX11_skew_0 : decode cX11_skew 0 = .ok (.aload_n 0, 1) := by decide +kernel
theorem dX11_skew_1 : decode cX11_skew 1 = .ok (.invokevirtual 250, 3) := by decide +kernel
theorem dX11_skew_4 : decode cX11_skew 4 = .ok (.iconst 0, 1) := by decide +kernel
theorem dX11_skew_5 : decode cX11_skew 5 = .ok (.istore_n 1, 1) := by decide +kernel
theorem dX11_skew_6 : decode cX11_skew 6 = .ok (.bipush 33, 2) := by decide +kernel
theorem dX11_skew_8 : decode cX11_skew 8 = .ok (.istore_n 2, 1) := by decide +kernel
theorem dX11_skew_9 : decode cX11_skew 9 = .ok (.iconst 0, 1) := by decide +kernel
theorem dX11_skew_10 : decode cX11_skew 10 = .ok (.istore_n 3, 1) := by decide +kernel
theorem dX11_skew_11 : decode cX11_skew 11 = .ok (.iload_n 3, 1) := by decide +kernel
theorem dX11_skew_12 : decode cX11_skew 12 = .ok (.bipush 16, 2) := by decide +kernel
theorem dX11_skew_14 : decode cX11_skew 14 = .ok (.if_icmp .ge 55, 3) := by decide +kernel
theorem dX11_skew_17 : decode cX11_skew 17 = .ok (.aload_n 0, 1) := by decide +kernel
theorem dX11_skew_18 : decode cX11_skew 18 = .ok (.invokevirtual 253, 3) := by decide +kernel
theorem dX11_skew_21 : decode cX11_skew 21 = .ok (.aload_n 0, 1) := by decide +kernel
theorem dX11_skew_22 : decode cX11_skew 22 = .ok (.bipush 16, 2) := by decide +kernel
theorem dX11_skew_24 : decode cX11_skew 24 = .ok (.iload_n 3, 1) := by decide +kernel
theorem dX11_skew_25 : decode cX11_skew 25 = .ok (.isub, 1) := by decide +kernel
theorem dX11_skew_26 : decode cX11_skew 26 = .ok (.bipush 16, 2) := by decide +kernel
theorem dX11_skew_28 : decode cX11_skew 28 = .ok (.irem, 1) := by decide +kernel
theorem dX11_skew_29 : decode cX11_skew 29 = .ok (.invokevirtual 181, 3) := by decide +kernel
theorem dX11_skew_32 : decode cX11_skew 32 = .ok (.aload_n 0, 1) := by decide +kernel
theorem dX11_skew_33 : decode cX11_skew 33 = .ok (.invokevirtual 256, 3) := by decide +kernel
theorem dX11_skew_36 : decode cX11_skew 36 = .ok (.istore 4, 2) := by decide +kernel
theorem dX11_skew_38 : decode cX11_skew 38 = .ok (.iload 4, 2) := by decide +kernel
theorem dX11_skew_40 : decode cX11_skew 40 = .ok (.iload_n 2, 1) := by decide +kernel
theorem dX11_skew_41 : decode cX11_skew 41 = .ok (.if_icmp .ge 7, 3) := by decide +kernel
theorem dX11_skew_44 : decode cX11_skew 44 = .ok (.iload_n 3, 1) := by decide +kernel
theorem dX11_skew_45 : decode cX11_skew 45 = .ok (.goto 4, 3) := by decide +kernel
theorem dX11_skew_48 : decode cX11_skew 48 = .ok (.iload_n 1, 1) := by decide +kernel
theorem dX11_skew_49 : decode cX11_skew 49 = .ok (.istore_n 1, 1) := by decide +kernel
theorem dX11_skew_50 : decode cX11_skew 50 = .ok (.iload 4, 2) := by decide +kernel
theorem dX11_skew_52 : decode cX11_skew 52 = .ok (.iload_n 2, 1) := by decide +kernel
theorem dX11_skew_53 : decode cX11_skew 53 = .ok (.if_icmp .ge 8, 3) := by decide +kernel
theorem dX11_skew_56 : decode cX11_skew 56 = .ok (.iload 4, 2) := by decide +kernel
theorem dX11_skew_58 : decode cX11_skew 58 = .ok (.goto 4, 3) := by decide +kernel
theorem dX11_skew_61 : decode cX11_skew 61 = .ok (.iload_n 2, 1) := by decide +kernel
theorem dX11_skew_62 : decode cX11_skew 62 = .ok (.istore_n 2, 1) := by decide +kernel
theorem dX11_skew_63 : decode cX11_skew 63 = .ok (.iinc 3 1, 3) := by decide +kernel
theorem dX11_skew_66 : decode cX11_skew 66 = .ok (.goto (-55), 3) := by decide +kernel
theorem dX11_skew_69 : decode cX11_skew 69 = .ok (.iload_n 1, 1) := by decide +kernel
theorem dX11_skew_70 : decode cX11_skew 70 = .ok (.ireturn, 1) := by decide +kernel
theorem dX11_spreads_0 : decode cX11_spreads 0 = .ok (.iload_n 1, 1) := by decide +kernel
theorem dX11_spreads_1 : decode cX11_spreads 1 = .ok (.iconst 0, 1) := by decide +kernel
theorem dX11_spreads_2 : decode cX11_spreads 2 = .ok (.iconst 1, 1) := by decide +kernel
theorem dX11_spreads_3 : decode cX11_spreads 3 = .ok (.invokestatic 82, 3) := by decide +kernel
theorem dX11_spreads_6 : decode cX11_spreads 6 = .ok (.ifCond .ne 5, 3) := by decide +kernel
theorem dX11_spreads_9 : decode cX11_spreads 9 = .ok (.iconst (-1), 1) := by decide +kernel
theorem dX11_spreads_10 : decode cX11_spreads 10 = .ok (.ireturn, 1) := by decide +kernel
theorem dX11_spreads_11 : decode cX11_spreads 11 = .ok (.aload_n 0, 1) := by decide +kernel
theorem dX11_spreads_12 : decode cX11_spreads 12 = .ok (.invokevirtual 250, 3) := by decide +kernel
theorem dX11_spreads_15 : decode cX11_spreads 15 = .ok (.iconst 0, 1) := by decide +kernel
theorem dX11_spreads_16 : decode cX11_spreads 16 = .ok (.istore_n 2, 1) := by decide +kernel
theorem dX11_spreads_17 : decode cX11_spreads 17 = .ok (.bipush (-9), 2) := by decide +kernel
theorem dX11_spreads_19 : decode cX11_spreads 19 = .ok (.istore_n 3, 1) := by decide +kernel
theorem dX11_spreads_20 : decode cX11_spreads 20 = .ok (.iconst 1, 1) := by decide +kernel
theorem dX11_spreads_21 : decode cX11_spreads 21 = .ok (.istore 4, 2) := by decide +kernel
theorem dX11_spreads_23 : decode cX11_spreads 23 = .ok (.iload 4, 2) := by decide +kernel
theorem dX11_spreads_25 : decode cX11_spreads 25 = .ok (.bipush 97, 2) := by decide +kernel
theorem dX11_spreads_27 : decode cX11_spreads 27 = .ok (.if_icmp .ge 51, 3) := by decide +kernel
theorem dX11_spreads_30 : decode cX11_spreads 30 = .ok (.iload 4, 2) := by decide +kernel
theorem dX11_spreads_32 : decode cX11_spreads 32 = .ok (.bipush 16, 2) := by decide +kernel
theorem dX11_spreads_34 : decode cX11_spreads 34 = .ok (.invokestatic 63, 3) := by decide +kernel
theorem dX11_spreads_37 : decode cX11_spreads 37 = .ok (.iconst 1, 1) := by decide +kernel
theorem dX11_spreads_38 : decode cX11_spreads 38 = .ok (.if_icmp .eq 34, 3) := by decide +kernel
theorem dX11_spreads_41 : decode cX11_spreads 41 = .ok (.aload_n 0, 1) := by decide +kernel
theorem dX11_spreads_42 : decode cX11_spreads 42 = .ok (.invokevirtual 253, 3) := by decide +kernel
theorem dX11_spreads_45 : decode cX11_spreads 45 = .ok (.aload_n 0, 1) := by decide +kernel
theorem dX11_spreads_46 : decode cX11_spreads 46 = .ok (.iload 4, 2) := by decide +kernel
theorem dX11_spreads_48 : decode cX11_spreads 48 = .ok (.invokevirtual 184, 3) := by decide +kernel
theorem dX11_spreads_51 : decode cX11_spreads 51 = .ok (.aload_n 0, 1) := by decide +kernel
theorem dX11_spreads_52 : decode cX11_spreads 52 = .ok (.invokevirtual 256, 3) := by decide +kernel
theorem dX11_spreads_55 : decode cX11_spreads 55 = .ok (.ifCond .ne 17, 3) := by decide +kernel
theorem dX11_spreads_58 : decode cX11_spreads 58 = .ok (.iload_n 2, 1) := by decide +kernel
theorem dX11_spreads_59 : decode cX11_spreads 59 = .ok (.ifCond .ne 8, 3) := by decide +kernel
theorem dX11_spreads_62 : decode cX11_spreads 62 = .ok (.iload 4, 2) := by decide +kernel
theorem dX11_spreads_64 : decode cX11_spreads 64 = .ok (.goto 4, 3) := by decide +kernel
theorem dX11_spreads_67 : decode cX11_spreads 67 = .ok (.iload_n 3, 1) := by decide +kernel
theorem dX11_spreads_68 : decode cX11_spreads 68 = .ok (.istore_n 3, 1) := by decide +kernel
theorem dX11_spreads_69 : decode cX11_spreads 69 = .ok (.iinc 2 1, 3) := by decide +kernel
theorem dX11_spreads_72 : decode cX11_spreads 72 = .ok (.iinc 4 1, 3) := by decide +kernel
theorem dX11_spreads_75 : decode cX11_spreads 75 = .ok (.goto (-52), 3) := by decide +kernel
theorem dX11_spreads_78 : decode cX11_spreads 78 = .ok (.iload_n 1, 1) := by decide +kernel
theorem dX11_spreads_79 : decode cX11_spreads 79 = .ok (.ifCond .ne 7, 3) := by decide +kernel
theorem dX11_spreads_82 : decode cX11_spreads 82 = .ok (.iload_n 2, 1) := by decide +kernel
theorem dX11_spreads_83 : decode cX11_spreads 83 = .ok (.goto 4, 3) := by decide +kernel
theorem dX11_spreads_86 : decode cX11_spreads 86 = .ok (.iload_n 3, 1) := by decide +kernel
theorem dX11_spreads_87 : decode cX11_spreads 87 = .ok (.ireturn, 1) := by decide +kernel
theorem dX11_lag_0 : decode cX11_lag 0 = .ok (.iload_n 1, 1) := by decide +kernel
theorem dX11_lag_1 : decode cX11_lag 1 = .ok (.iconst 0, 1) := by decide +kernel
theorem dX11_lag_2 : decode cX11_lag 2 = .ok (.bipush 15, 2) := by decide +kernel
theorem dX11_lag_4 : decode cX11_lag 4 = .ok (.invokestatic 82, 3) := by decide +kernel
theorem dX11_lag_7 : decode cX11_lag 7 = .ok (.ifCond .ne 5, 3) := by decide +kernel
theorem dX11_lag_10 : decode cX11_lag 10 = .ok (.iconst (-1), 1) := by decide +kernel
theorem dX11_lag_11 : decode cX11_lag 11 = .ok (.ireturn, 1) := by decide +kernel
theorem dX11_lag_12 : decode cX11_lag 12 = .ok (.iconst 0, 1) := by decide +kernel
theorem dX11_lag_13 : decode cX11_lag 13 = .ok (.istore_n 2, 1) := by decide +kernel
theorem dX11_lag_14 : decode cX11_lag 14 = .ok (.iload_n 2, 1) := by decide +kernel
theorem dX11_lag_15 : decode cX11_lag 15 = .ok (.bipush 16, 2) := by decide +kernel
theorem dX11_lag_17 : decode cX11_lag 17 = .ok (.if_icmp .ge 28, 3) := by decide +kernel
theorem dX11_lag_20 : decode cX11_lag 20 = .ok (.aload_n 0, 1) := by decide +kernel
theorem dX11_lag_21 : decode cX11_lag 21 = .ok (.getfield 7, 3) := by decide +kernel
theorem dX11_lag_24 : decode cX11_lag 24 = .ok (.bipush 32, 2) := by decide +kernel
theorem dX11_lag_26 : decode cX11_lag 26 = .ok (.iaload, 1) := by decide +kernel
theorem dX11_lag_27 : decode cX11_lag 27 = .ok (.iload_n 1, 1) := by decide +kernel
theorem dX11_lag_28 : decode cX11_lag 28 = .ok (.iload_n 2, 1) := by decide +kernel
theorem dX11_lag_29 : decode cX11_lag 29 = .ok (.iadd, 1) := by decide +kernel
theorem dX11_lag_30 : decode cX11_lag 30 = .ok (.bipush 16, 2) := by decide +kernel
theorem dX11_lag_32 : decode cX11_lag 32 = .ok (.irem, 1) := by decide +kernel
theorem dX11_lag_33 : decode cX11_lag 33 = .ok (.invokestatic 123, 3) := by decide +kernel
theorem dX11_lag_36 : decode cX11_lag 36 = .ok (.ifCond .ne 9, 3) := by decide +kernel
theorem dX11_lag_39 : decode cX11_lag 39 = .ok (.iinc 2 1, 3) := by decide +kernel
theorem dX11_lag_42 : decode cX11_lag 42 = .ok (.goto (-28), 3) := by decide +kernel
theorem dX11_lag_45 : decode cX11_lag 45 = .ok (.iload_n 2, 1) := by decide +kernel
theorem dX11_lag_46 : decode cX11_lag 46 = .ok (.ireturn, 1) := by decide +kernel
theorem dX11_sees_0 : decode cX11_sees 0 = .ok (.iload_n 1, 1) := by decide +kernel
theorem dX11_sees_1 : decode cX11_sees 1 = .ok (.iconst 0, 1) := by decide +kernel
theorem dX11_sees_2 : decode cX11_sees 2 = .ok (.iconst 1, 1) := by decide +kernel
theorem dX11_sees_3 : decode cX11_sees 3 = .ok (.invokestatic 82, 3) := by decide +kernel
theorem dX11_sees_6 : decode cX11_sees 6 = .ok (.ifCond .eq 22, 3) := by decide +kernel
theorem dX11_sees_9 : decode cX11_sees 9 = .ok (.iload_n 2, 1) := by decide +kernel
theorem dX11_sees_10 : decode cX11_sees 10 = .ok (.iconst 0, 1) := by decide +kernel
theorem dX11_sees_11 : decode cX11_sees 11 = .ok (.bipush 15, 2) := by decide +kernel
theorem dX11_sees_13 : decode cX11_sees 13 = .ok (.invokestatic 82, 3) := by decide +kernel
theorem dX11_sees_16 : decode cX11_sees 16 = .ok (.ifCond .eq 12, 3) := by decide +kernel
theorem dX11_sees_19 : decode cX11_sees 19 = .ok (.iload_n 3, 1) := by decide +kernel
theorem dX11_sees_20 : decode cX11_sees 20 = .ok (.iconst 0, 1) := by decide +kernel
theorem dX11_sees_21 : decode cX11_sees 21 = .ok (.iconst 3, 1) := by decide +kernel
theorem dX11_sees_22 : decode cX11_sees 22 = .ok (.invokestatic 82, 3) := by decide +kernel
theorem dX11_sees_25 : decode cX11_sees 25 = .ok (.ifCond .ne 5, 3) := by decide +kernel
theorem dX11_sees_28 : decode cX11_sees 28 = .ok (.iconst (-1), 1) := by decide +kernel
theorem dX11_sees_29 : decode cX11_sees 29 = .ok (.ireturn, 1) := by decide +kernel
theorem dX11_sees_30 : decode cX11_sees 30 = .ok (.aload_n 0, 1) := by decide +kernel
theorem dX11_sees_31 : decode cX11_sees 31 = .ok (.getfield 143, 3) := by decide +kernel
theorem dX11_sees_34 : decode cX11_sees 34 = .ok (.bipush 6, 2) := by decide +kernel
theorem dX11_sees_36 : decode cX11_sees 36 = .ok (.if_icmp .ne 6, 3) := by decide +kernel
theorem dX11_sees_39 : decode cX11_sees 39 = .ok (.bipush (-3), 2) := by decide +kernel
theorem dX11_sees_41 : decode cX11_sees 41 = .ok (.ireturn, 1) := by decide +kernel
theorem dX11_sees_42 : decode cX11_sees 42 = .ok (.aload_n 0, 1) := by decide +kernel
theorem dX11_sees_43 : decode cX11_sees 43 = .ok (.getfield 57, 3) := by decide +kernel
theorem dX11_sees_46 : decode cX11_sees 46 = .ok (.aload_n 0, 1) := by decide +kernel
theorem dX11_sees_47 : decode cX11_sees 47 = .ok (.getfield 143, 3) := by decide +kernel
theorem dX11_sees_50 : decode cX11_sees 50 = .ok (.bipush 16, 2) := by decide +kernel
theorem dX11_sees_52 : decode cX11_sees 52 = .ok (.iload_n 1, 1) := by decide +kernel
theorem dX11_sees_53 : decode cX11_sees 53 = .ok (.imul, 1) := by decide +kernel
theorem dX11_sees_54 : decode cX11_sees 54 = .ok (.iload_n 2, 1) := by decide +kernel
theorem dX11_sees_55 : decode cX11_sees 55 = .ok (.iadd, 1) := by decide +kernel
theorem dX11_sees_56 : decode cX11_sees 56 = .ok (.iastore, 1) := by decide +kernel
theorem dX11_sees_57 : decode cX11_sees 57 = .ok (.aload_n 0, 1) := by decide +kernel
theorem dX11_sees_58 : decode cX11_sees 58 = .ok (.getfield 60, 3) := by decide +kernel
theorem dX11_sees_61 : decode cX11_sees 61 = .ok (.aload_n 0, 1) := by decide +kernel
theorem dX11_sees_62 : decode cX11_sees 62 = .ok (.getfield 143, 3) := by decide +kernel
theorem dX11_sees_65 : decode cX11_sees 65 = .ok (.iload_n 3, 1) := by decide +kernel
theorem dX11_sees_66 : decode cX11_sees 66 = .ok (.iastore, 1) := by decide +kernel
theorem dX11_sees_67 : decode cX11_sees 67 = .ok (.aload_n 0, 1) := by decide +kernel
theorem dX11_sees_68 : decode cX11_sees 68 = .ok (.dup, 1) := by decide +kernel
theorem dX11_sees_69 : decode cX11_sees 69 = .ok (.getfield 143, 3) := by decide +kernel
theorem dX11_sees_72 : decode cX11_sees 72 = .ok (.iconst 1, 1) := by decide +kernel
theorem dX11_sees_73 : decode cX11_sees 73 = .ok (.iadd, 1) := by decide +kernel
theorem dX11_sees_74 : decode cX11_sees 74 = .ok (.putfield 143, 3) := by decide +kernel
theorem dX11_sees_77 : decode cX11_sees 77 = .ok (.aload_n 0, 1) := by decide +kernel
theorem dX11_sees_78 : decode cX11_sees 78 = .ok (.getfield 143, 3) := by decide +kernel
theorem dX11_sees_81 : decode cX11_sees 81 = .ok (.ireturn, 1) := by decide +kernel
theorem dX11_forget_0 : decode cX11_forget 0 = .ok (.aload_n 0, 1) := by decide +kernel
theorem dX11_forget_1 : decode cX11_forget 1 = .ok (.getfield 143, 3) := by decide +kernel
theorem dX11_forget_4 : decode cX11_forget 4 = .ok (.istore_n 1, 1) := by decide +kernel
theorem dX11_forget_5 : decode cX11_forget 5 = .ok (.aload_n 0, 1) := by decide +kernel
theorem dX11_forget_6 : decode cX11_forget 6 = .ok (.iconst 0, 1) := by decide +kernel
theorem dX11_forget_7 : decode cX11_forget 7 = .ok (.putfield 143, 3) := by decide +kernel
theorem dX11_forget_10 : decode cX11_forget 10 = .ok (.iload_n 1, 1) := by decide +kernel
theorem dX11_forget_11 : decode cX11_forget 11 = .ok (.ireturn, 1) := by decide +kernel
theorem dX11_isSeenBy_0 : decode cX11_isSeenBy 0 = .ok (.aload_n 0, 1) := by decide +kernel
theorem dX11_isSeenBy_1 : decode cX11_isSeenBy 1 = .ok (.invokevirtual 202, 3) := by decide +kernel
theorem dX11_isSeenBy_4 : decode cX11_isSeenBy 4 = .ok (.aload_n 0, 1) := by decide +kernel
theorem dX11_isSeenBy_5 : decode cX11_isSeenBy 5 = .ok (.iload_n 1, 1) := by decide +kernel
theorem dX11_isSeenBy_6 : decode cX11_isSeenBy 6 = .ok (.iload_n 2, 1) := by decide +kernel
theorem dX11_isSeenBy_7 : decode cX11_isSeenBy 7 = .ok (.invokevirtual 178, 3) := by decide +kernel
theorem dX11_isSeenBy_10 : decode cX11_isSeenBy 10 = .ok (.aload_n 0, 1) := by decide +kernel
theorem dX11_isSeenBy_11 : decode cX11_isSeenBy 11 = .ok (.aload_n 0, 1) := by decide +kernel
theorem dX11_isSeenBy_12 : decode cX11_isSeenBy 12 = .ok (.getfield 7, 3) := by decide +kernel
theorem dX11_isSeenBy_15 : decode cX11_isSeenBy 15 = .ok (.bipush 64, 2) := by decide +kernel
theorem dX11_isSeenBy_17 : decode cX11_isSeenBy 17 = .ok (.iaload, 1) := by decide +kernel
theorem dX11_isSeenBy_18 : decode cX11_isSeenBy 18 = .ok (.invokevirtual 205, 3) := by decide +kernel
theorem dX11_isSeenBy_21 : decode cX11_isSeenBy 21 = .ok (.iconst 1, 1) := by decide +kernel
theorem dX11_isSeenBy_22 : decode cX11_isSeenBy 22 = .ok (.istore_n 3, 1) := by decide +kernel
theorem dX11_isSeenBy_23 : decode cX11_isSeenBy 23 = .ok (.iconst 0, 1) := by decide +kernel
theorem dX11_isSeenBy_24 : decode cX11_isSeenBy 24 = .ok (.istore 4, 2) := by decide +kernel
theorem dX11_isSeenBy_26 : decode cX11_isSeenBy 26 = .ok (.iload 4, 2) := by decide +kernel
theorem dX11_isSeenBy_28 : decode cX11_isSeenBy 28 = .ok (.aload_n 0, 1) := by decide +kernel
theorem dX11_isSeenBy_29 : decode cX11_isSeenBy 29 = .ok (.getfield 143, 3) := by decide +kernel
theorem dX11_isSeenBy_32 : decode cX11_isSeenBy 32 = .ok (.if_icmp .ge 44, 3) := by decide +kernel
theorem dX11_isSeenBy_35 : decode cX11_isSeenBy 35 = .ok (.iload_n 3, 1) := by decide +kernel
theorem dX11_isSeenBy_36 : decode cX11_isSeenBy 36 = .ok (.ifCond .eq 32, 3) := by decide +kernel
theorem dX11_isSeenBy_39 : decode cX11_isSeenBy 39 = .ok (.aload_n 0, 1) := by decide +kernel
theorem dX11_isSeenBy_40 : decode cX11_isSeenBy 40 = .ok (.getfield 36, 3) := by decide +kernel
theorem dX11_isSeenBy_43 : decode cX11_isSeenBy 43 = .ok (.aload_n 0, 1) := by decide +kernel
theorem dX11_isSeenBy_44 : decode cX11_isSeenBy 44 = .ok (.getfield 57, 3) := by decide +kernel
theorem dX11_isSeenBy_47 : decode cX11_isSeenBy 47 = .ok (.iload 4, 2) := by decide +kernel
theorem dX11_isSeenBy_49 : decode cX11_isSeenBy 49 = .ok (.iaload, 1) := by decide +kernel
theorem dX11_isSeenBy_50 : decode cX11_isSeenBy 50 = .ok (.iaload, 1) := by decide +kernel
theorem dX11_isSeenBy_51 : decode cX11_isSeenBy 51 = .ok (.invokestatic 168, 3) := by decide +kernel
theorem dX11_isSeenBy_54 : decode cX11_isSeenBy 54 = .ok (.aload_n 0, 1) := by decide +kernel
theorem dX11_isSeenBy_55 : decode cX11_isSeenBy 55 = .ok (.getfield 60, 3) := by decide +kernel
theorem dX11_isSeenBy_58 : decode cX11_isSeenBy 58 = .ok (.iload 4, 2) := by decide +kernel
theorem dX11_isSeenBy_60 : decode cX11_isSeenBy 60 = .ok (.iaload, 1) := by decide +kernel
theorem dX11_isSeenBy_61 : decode cX11_isSeenBy 61 = .ok (.if_icmp .ne 7, 3) := by decide +kernel
theorem dX11_isSeenBy_64 : decode cX11_isSeenBy 64 = .ok (.iconst 1, 1) := by decide +kernel
theorem dX11_isSeenBy_65 : decode cX11_isSeenBy 65 = .ok (.goto 4, 3) := by decide +kernel
theorem dX11_isSeenBy_68 : decode cX11_isSeenBy 68 = .ok (.iconst 0, 1) := by decide +kernel
theorem dX11_isSeenBy_69 : decode cX11_isSeenBy 69 = .ok (.istore_n 3, 1) := by decide +kernel
theorem dX11_isSeenBy_70 : decode cX11_isSeenBy 70 = .ok (.iinc 4 1, 3) := by decide +kernel
theorem dX11_isSeenBy_73 : decode cX11_isSeenBy 73 = .ok (.goto (-47), 3) := by decide +kernel
theorem dX11_isSeenBy_76 : decode cX11_isSeenBy 76 = .ok (.iload_n 3, 1) := by decide +kernel
theorem dX11_isSeenBy_77 : decode cX11_isSeenBy 77 = .ok (.ireturn, 1) := by decide +kernel
theorem dX11_fits_0 : decode cX11_fits 0 = .ok (.iload_n 1, 1) := by decide +kernel
theorem dX11_fits_1 : decode cX11_fits 1 = .ok (.iconst 0, 1) := by decide +kernel
theorem dX11_fits_2 : decode cX11_fits 2 = .ok (.iconst 1, 1) := by decide +kernel
theorem dX11_fits_3 : decode cX11_fits 3 = .ok (.invokestatic 82, 3) := by decide +kernel
theorem dX11_fits_6 : decode cX11_fits 6 = .ok (.ifCond .ne 5, 3) := by decide +kernel
theorem dX11_fits_9 : decode cX11_fits 9 = .ok (.iconst (-1), 1) := by decide +kernel
theorem dX11_fits_10 : decode cX11_fits 10 = .ok (.ireturn, 1) := by decide +kernel
theorem dX11_fits_11 : decode cX11_fits 11 = .ok (.iconst 0, 1) := by decide +kernel
theorem dX11_fits_12 : decode cX11_fits 12 = .ok (.istore_n 2, 1) := by decide +kernel
theorem dX11_fits_13 : decode cX11_fits 13 = .ok (.bipush (-9), 2) := by decide +kernel
theorem dX11_fits_15 : decode cX11_fits 15 = .ok (.istore_n 3, 1) := by decide +kernel
theorem dX11_fits_16 : decode cX11_fits 16 = .ok (.iconst 0, 1) := by decide +kernel
theorem dX11_fits_17 : decode cX11_fits 17 = .ok (.istore 4, 2) := by decide +kernel
theorem dX11_fits_19 : decode cX11_fits 19 = .ok (.iload 4, 2) := by decide +kernel
theorem dX11_fits_21 : decode cX11_fits 21 = .ok (.bipush 16, 2) := by decide +kernel
theorem dX11_fits_23 : decode cX11_fits 23 = .ok (.if_icmp .ge 54, 3) := by decide +kernel
theorem dX11_fits_26 : decode cX11_fits 26 = .ok (.iconst 1, 1) := by decide +kernel
theorem dX11_fits_27 : decode cX11_fits 27 = .ok (.istore 5, 2) := by decide +kernel
theorem dX11_fits_29 : decode cX11_fits 29 = .ok (.iload 5, 2) := by decide +kernel
theorem dX11_fits_31 : decode cX11_fits 31 = .ok (.iconst 4, 1) := by decide +kernel
theorem dX11_fits_32 : decode cX11_fits 32 = .ok (.if_icmp .ge 39, 3) := by decide +kernel
theorem dX11_fits_35 : decode cX11_fits 35 = .ok (.aload_n 0, 1) := by decide +kernel
theorem dX11_fits_36 : decode cX11_fits 36 = .ok (.iload 4, 2) := by decide +kernel
theorem dX11_fits_38 : decode cX11_fits 38 = .ok (.iload 5, 2) := by decide +kernel
theorem dX11_fits_40 : decode cX11_fits 40 = .ok (.invokevirtual 259, 3) := by decide +kernel
theorem dX11_fits_43 : decode cX11_fits 43 = .ok (.ifCond .eq 22, 3) := by decide +kernel
theorem dX11_fits_46 : decode cX11_fits 46 = .ok (.iload_n 2, 1) := by decide +kernel
theorem dX11_fits_47 : decode cX11_fits 47 = .ok (.ifCond .ne 13, 3) := by decide +kernel
theorem dX11_fits_50 : decode cX11_fits 50 = .ok (.iconst 4, 1) := by decide +kernel
theorem dX11_fits_51 : decode cX11_fits 51 = .ok (.iload 4, 2) := by decide +kernel
theorem dX11_fits_53 : decode cX11_fits 53 = .ok (.imul, 1) := by decide +kernel
theorem dX11_fits_54 : decode cX11_fits 54 = .ok (.iload 5, 2) := by decide +kernel
theorem dX11_fits_56 : decode cX11_fits 56 = .ok (.iadd, 1) := by decide +kernel
theorem dX11_fits_57 : decode cX11_fits 57 = .ok (.goto 4, 3) := by decide +kernel
theorem dX11_fits_60 : decode cX11_fits 60 = .ok (.iload_n 3, 1) := by decide +kernel
theorem dX11_fits_61 : decode cX11_fits 61 = .ok (.istore_n 3, 1) := by decide +kernel
theorem dX11_fits_62 : decode cX11_fits 62 = .ok (.iinc 2 1, 3) := by decide +kernel
theorem dX11_fits_65 : decode cX11_fits 65 = .ok (.iinc 5 1, 3) := by decide +kernel
theorem dX11_fits_68 : decode cX11_fits 68 = .ok (.goto (-39), 3) := by decide +kernel
theorem dX11_fits_71 : decode cX11_fits 71 = .ok (.iinc 4 1, 3) := by decide +kernel
theorem dX11_fits_74 : decode cX11_fits 74 = .ok (.goto (-55), 3) := by decide +kernel
theorem dX11_fits_77 : decode cX11_fits 77 = .ok (.iload_n 1, 1) := by decide +kernel
theorem dX11_fits_78 : decode cX11_fits 78 = .ok (.ifCond .ne 7, 3) := by decide +kernel
theorem dX11_fits_81 : decode cX11_fits 81 = .ok (.iload_n 2, 1) := by decide +kernel
theorem dX11_fits_82 : decode cX11_fits 82 = .ok (.goto 4, 3) := by decide +kernel
theorem dX11_fits_85 : decode cX11_fits 85 = .ok (.iload_n 3, 1) := by decide +kernel
theorem dX11_fits_86 : decode cX11_fits 86 = .ok (.ireturn, 1) := by decide +kernel
theorem dX11_odds_0 : decode cX11_odds 0 = .ok (.iload_n 1, 1) := by decide +kernel
theorem dX11_odds_1 : decode cX11_odds 1 = .ok (.iconst 0, 1) := by decide +kernel
theorem dX11_odds_2 : decode cX11_odds 2 = .ok (.bipush 10, 2) := by decide +kernel
theorem dX11_odds_4 : decode cX11_odds 4 = .ok (.invokestatic 82, 3) := by decide +kernel
theorem dX11_odds_7 : decode cX11_odds 7 = .ok (.ifCond .eq 33, 3) := by decide +kernel
theorem dX11_odds_10 : decode cX11_odds 10 = .ok (.iload_n 2, 1) := by decide +kernel
theorem dX11_odds_11 : decode cX11_odds 11 = .ok (.iconst 0, 1) := by decide +kernel
theorem dX11_odds_12 : decode cX11_odds 12 = .ok (.bipush 8, 2) := by decide +kernel
theorem dX11_odds_14 : decode cX11_odds 14 = .ok (.invokestatic 82, 3) := by decide +kernel
theorem dX11_odds_17 : decode cX11_odds 17 = .ok (.ifCond .eq 23, 3) := by decide +kernel
theorem dX11_odds_20 : decode cX11_odds 20 = .ok (.iload_n 3, 1) := by decide +kernel
theorem dX11_odds_21 : decode cX11_odds 21 = .ok (.iconst 0, 1) := by decide +kernel
theorem dX11_odds_22 : decode cX11_odds 22 = .ok (.bipush 8, 2) := by decide +kernel
theorem dX11_odds_24 : decode cX11_odds 24 = .ok (.invokestatic 82, 3) := by decide +kernel
theorem dX11_odds_27 : decode cX11_odds 27 = .ok (.ifCond .eq 13, 3) := by decide +kernel
theorem dX11_odds_30 : decode cX11_odds 30 = .ok (.iload 4, 2) := by decide +kernel
theorem dX11_odds_32 : decode cX11_odds 32 = .ok (.iconst 0, 1) := by decide +kernel
theorem dX11_odds_33 : decode cX11_odds 33 = .ok (.iconst 1, 1) := by decide +kernel
theorem dX11_odds_34 : decode cX11_odds 34 = .ok (.invokestatic 82, 3) := by decide +kernel
theorem dX11_odds_37 : decode cX11_odds 37 = .ok (.ifCond .ne 5, 3) := by decide +kernel
theorem dX11_odds_40 : decode cX11_odds 40 = .ok (.iconst (-1), 1) := by decide +kernel
theorem dX11_odds_41 : decode cX11_odds 41 = .ok (.ireturn, 1) := by decide +kernel
theorem dX11_odds_42 : decode cX11_odds 42 = .ok (.iconst 0, 1) := by decide +kernel
theorem dX11_odds_43 : decode cX11_odds 43 = .ok (.istore 5, 2) := by decide +kernel
theorem dX11_odds_45 : decode cX11_odds 45 = .ok (.iconst 1, 1) := by decide +kernel
theorem dX11_odds_46 : decode cX11_odds 46 = .ok (.istore 6, 2) := by decide +kernel
theorem dX11_odds_48 : decode cX11_odds 48 = .ok (.iconst 1, 1) := by decide +kernel
theorem dX11_odds_49 : decode cX11_odds 49 = .ok (.istore 7, 2) := by decide +kernel
theorem dX11_odds_51 : decode cX11_odds 51 = .ok (.iconst 0, 1) := by decide +kernel
theorem dX11_odds_52 : decode cX11_odds 52 = .ok (.istore 8, 2) := by decide +kernel
theorem dX11_odds_54 : decode cX11_odds 54 = .ok (.iload 8, 2) := by decide +kernel
theorem dX11_odds_56 : decode cX11_odds 56 = .ok (.iload_n 2, 1) := by decide +kernel
theorem dX11_odds_57 : decode cX11_odds 57 = .ok (.if_icmp .gt 75, 3) := by decide +kernel
theorem dX11_odds_60 : decode cX11_odds 60 = .ok (.iload 8, 2) := by decide +kernel
theorem dX11_odds_62 : decode cX11_odds 62 = .ok (.iload_n 3, 1) := by decide +kernel
theorem dX11_odds_63 : decode cX11_odds 63 = .ok (.if_icmp .gt 69, 3) := by decide +kernel
theorem dX11_odds_66 : decode cX11_odds 66 = .ok (.iload 7, 2) := by decide +kernel
theorem dX11_odds_68 : decode cX11_odds 68 = .ok (.istore 9, 2) := by decide +kernel
theorem dX11_odds_70 : decode cX11_odds 70 = .ok (.iconst 0, 1) := by decide +kernel
theorem dX11_odds_71 : decode cX11_odds 71 = .ok (.istore 10, 2) := by decide +kernel
theorem dX11_odds_73 : decode cX11_odds 73 = .ok (.iload 10, 2) := by decide +kernel
theorem dX11_odds_75 : decode cX11_odds 75 = .ok (.iload_n 2, 1) := by decide +kernel
theorem dX11_odds_76 : decode cX11_odds 76 = .ok (.if_icmp .ge 29, 3) := by decide +kernel
theorem dX11_odds_79 : decode cX11_odds 79 = .ok (.iload 9, 2) := by decide +kernel
theorem dX11_odds_81 : decode cX11_odds 81 = .ok (.iload 10, 2) := by decide +kernel
theorem dX11_odds_83 : decode cX11_odds 83 = .ok (.iload 8, 2) := by decide +kernel
theorem dX11_odds_85 : decode cX11_odds 85 = .ok (.if_icmp .ge 7, 3) := by decide +kernel
theorem dX11_odds_88 : decode cX11_odds 88 = .ok (.iload_n 1, 1) := by decide +kernel
theorem dX11_odds_89 : decode cX11_odds 89 = .ok (.goto 7, 3) := by decide +kernel
theorem dX11_odds_92 : decode cX11_odds 92 = .ok (.bipush 10, 2) := by decide +kernel
theorem dX11_odds_94 : decode cX11_odds 94 = .ok (.iload_n 1, 1) := by decide +kernel
theorem dX11_odds_95 : decode cX11_odds 95 = .ok (.isub, 1) := by decide +kernel
theorem dX11_odds_96 : decode cX11_odds 96 = .ok (.imul, 1) := by decide +kernel
theorem dX11_odds_97 : decode cX11_odds 97 = .ok (.istore 9, 2) := by decide +kernel
theorem dX11_odds_99 : decode cX11_odds 99 = .ok (.iinc 10 1, 3) := by decide +kernel
theorem dX11_odds_102 : decode cX11_odds 102 = .ok (.goto (-29), 3) := by decide +kernel
theorem dX11_odds_105 : decode cX11_odds 105 = .ok (.iload 5, 2) := by decide +kernel
theorem dX11_odds_107 : decode cX11_odds 107 = .ok (.iload 9, 2) := by decide +kernel
theorem dX11_odds_109 : decode cX11_odds 109 = .ok (.iadd, 1) := by decide +kernel
theorem dX11_odds_110 : decode cX11_odds 110 = .ok (.istore 5, 2) := by decide +kernel
theorem dX11_odds_112 : decode cX11_odds 112 = .ok (.iload 7, 2) := by decide +kernel
theorem dX11_odds_114 : decode cX11_odds 114 = .ok (.iload_n 2, 1) := by decide +kernel
theorem dX11_odds_115 : decode cX11_odds 115 = .ok (.iload 8, 2) := by decide +kernel
theorem dX11_odds_117 : decode cX11_odds 117 = .ok (.isub, 1) := by decide +kernel
theorem dX11_odds_118 : decode cX11_odds 118 = .ok (.imul, 1) := by decide +kernel
theorem dX11_odds_119 : decode cX11_odds 119 = .ok (.iload 8, 2) := by decide +kernel
theorem dX11_odds_121 : decode cX11_odds 121 = .ok (.iconst 1, 1) := by decide +kernel
theorem dX11_odds_122 : decode cX11_odds 122 = .ok (.iadd, 1) := by decide +kernel
theorem dX11_odds_123 : decode cX11_odds 123 = .ok (.idiv, 1) := by decide +kernel
theorem dX11_odds_124 : decode cX11_odds 124 = .ok (.istore 7, 2) := by decide +kernel
theorem dX11_odds_126 : decode cX11_odds 126 = .ok (.iinc 8 1, 3) := by decide +kernel
theorem dX11_odds_129 : decode cX11_odds 129 = .ok (.goto (-75), 3) := by decide +kernel
theorem dX11_odds_132 : decode cX11_odds 132 = .ok (.iconst 0, 1) := by decide +kernel
theorem dX11_odds_133 : decode cX11_odds 133 = .ok (.istore 8, 2) := by decide +kernel
theorem dX11_odds_135 : decode cX11_odds 135 = .ok (.iload 8, 2) := by decide +kernel
theorem dX11_odds_137 : decode cX11_odds 137 = .ok (.iload_n 2, 1) := by decide +kernel
theorem dX11_odds_138 : decode cX11_odds 138 = .ok (.if_icmp .ge 16, 3) := by decide +kernel
theorem dX11_odds_141 : decode cX11_odds 141 = .ok (.iload 6, 2) := by decide +kernel
theorem dX11_odds_143 : decode cX11_odds 143 = .ok (.bipush 10, 2) := by decide +kernel
theorem dX11_odds_145 : decode cX11_odds 145 = .ok (.imul, 1) := by decide +kernel
theorem dX11_odds_146 : decode cX11_odds 146 = .ok (.istore 6, 2) := by decide +kernel
theorem dX11_odds_148 : decode cX11_odds 148 = .ok (.iinc 8 1, 3) := by decide +kernel
theorem dX11_odds_151 : decode cX11_odds 151 = .ok (.goto (-16), 3) := by decide +kernel
theorem dX11_odds_154 : decode cX11_odds 154 = .ok (.iload 5, 2) := by decide +kernel
theorem dX11_odds_156 : decode cX11_odds 156 = .ok (.istore 8, 2) := by decide +kernel
theorem dX11_odds_158 : decode cX11_odds 158 = .ok (.iload 6, 2) := by decide +kernel
theorem dX11_odds_160 : decode cX11_odds 160 = .ok (.istore 9, 2) := by decide +kernel
theorem dX11_odds_162 : decode cX11_odds 162 = .ok (.iload 9, 2) := by decide +kernel
theorem dX11_odds_164 : decode cX11_odds 164 = .ok (.ifCond .eq 21, 3) := by decide +kernel
theorem dX11_odds_167 : decode cX11_odds 167 = .ok (.iload 8, 2) := by decide +kernel
theorem dX11_odds_169 : decode cX11_odds 169 = .ok (.iload 9, 2) := by decide +kernel
theorem dX11_odds_171 : decode cX11_odds 171 = .ok (.irem, 1) := by decide +kernel
theorem dX11_odds_172 : decode cX11_odds 172 = .ok (.istore 10, 2) := by decide +kernel
theorem dX11_odds_174 : decode cX11_odds 174 = .ok (.iload 9, 2) := by decide +kernel
theorem dX11_odds_176 : decode cX11_odds 176 = .ok (.istore 8, 2) := by decide +kernel
theorem dX11_odds_178 : decode cX11_odds 178 = .ok (.iload 10, 2) := by decide +kernel
theorem dX11_odds_180 : decode cX11_odds 180 = .ok (.istore 9, 2) := by decide +kernel
theorem dX11_odds_182 : decode cX11_odds 182 = .ok (.goto (-20), 3) := by decide +kernel
theorem dX11_odds_185 : decode cX11_odds 185 = .ok (.iload 4, 2) := by decide +kernel
theorem dX11_odds_187 : decode cX11_odds 187 = .ok (.ifCond .ne 11, 3) := by decide +kernel
theorem dX11_odds_190 : decode cX11_odds 190 = .ok (.iload 5, 2) := by decide +kernel
theorem dX11_odds_192 : decode cX11_odds 192 = .ok (.iload 8, 2) := by decide +kernel
theorem dX11_odds_194 : decode cX11_odds 194 = .ok (.idiv, 1) := by decide +kernel
theorem dX11_odds_195 : decode cX11_odds 195 = .ok (.goto 8, 3) := by decide +kernel
theorem dX11_odds_198 : decode cX11_odds 198 = .ok (.iload 6, 2) := by decide +kernel
theorem dX11_odds_200 : decode cX11_odds 200 = .ok (.iload 8, 2) := by decide +kernel
theorem dX11_odds_202 : decode cX11_odds 202 = .ok (.idiv, 1) := by decide +kernel
theorem dX11_odds_203 : decode cX11_odds 203 = .ok (.ireturn, 1) := by decide +kernel
theorem dX11_keep_0 : decode cX11_keep 0 = .ok (.iload_n 1, 1) := by decide +kernel
theorem dX11_keep_1 : decode cX11_keep 1 = .ok (.iconst 0, 1) := by decide +kernel
theorem dX11_keep_2 : decode cX11_keep 2 = .ok (.iconst 1, 1) := by decide +kernel
theorem dX11_keep_3 : decode cX11_keep 3 = .ok (.invokestatic 82, 3) := by decide +kernel
theorem dX11_keep_6 : decode cX11_keep 6 = .ok (.ifCond .ne 5, 3) := by decide +kernel
theorem dX11_keep_9 : decode cX11_keep 9 = .ok (.iconst (-1), 1) := by decide +kernel
theorem dX11_keep_10 : decode cX11_keep 10 = .ok (.ireturn, 1) := by decide +kernel
theorem dX11_keep_11 : decode cX11_keep 11 = .ok (.iconst 0, 1) := by decide +kernel
theorem dX11_keep_12 : decode cX11_keep 12 = .ok (.istore_n 2, 1) := by decide +kernel
theorem dX11_keep_13 : decode cX11_keep 13 = .ok (.iload_n 2, 1) := by decide +kernel
theorem dX11_keep_14 : decode cX11_keep 14 = .ok (.bipush 86, 2) := by decide +kernel
theorem dX11_keep_16 : decode cX11_keep 16 = .ok (.if_icmp .ge 26, 3) := by decide +kernel
theorem dX11_keep_19 : decode cX11_keep 19 = .ok (.aload_n 0, 1) := by decide +kernel
theorem dX11_keep_20 : decode cX11_keep 20 = .ok (.getfield 20, 3) := by decide +kernel
theorem dX11_keep_23 : decode cX11_keep 23 = .ok (.bipush 86, 2) := by decide +kernel
theorem dX11_keep_25 : decode cX11_keep 25 = .ok (.iload_n 1, 1) := by decide +kernel
theorem dX11_keep_26 : decode cX11_keep 26 = .ok (.imul, 1) := by decide +kernel
theorem dX11_keep_27 : decode cX11_keep 27 = .ok (.iload_n 2, 1) := by decide +kernel
theorem dX11_keep_28 : decode cX11_keep 28 = .ok (.iadd, 1) := by decide +kernel
theorem dX11_keep_29 : decode cX11_keep 29 = .ok (.aload_n 0, 1) := by decide +kernel
theorem dX11_keep_30 : decode cX11_keep 30 = .ok (.getfield 7, 3) := by decide +kernel
theorem dX11_keep_33 : decode cX11_keep 33 = .ok (.iload_n 2, 1) := by decide +kernel
theorem dX11_keep_34 : decode cX11_keep 34 = .ok (.iaload, 1) := by decide +kernel
theorem dX11_keep_35 : decode cX11_keep 35 = .ok (.iastore, 1) := by decide +kernel
theorem dX11_keep_36 : decode cX11_keep 36 = .ok (.iinc 2 1, 3) := by decide +kernel
theorem dX11_keep_39 : decode cX11_keep 39 = .ok (.goto (-26), 3) := by decide +kernel
theorem dX11_keep_42 : decode cX11_keep 42 = .ok (.aload_n 0, 1) := by decide +kernel
theorem dX11_keep_43 : decode cX11_keep 43 = .ok (.getfield 23, 3) := by decide +kernel
theorem dX11_keep_46 : decode cX11_keep 46 = .ok (.iload_n 1, 1) := by decide +kernel
theorem dX11_keep_47 : decode cX11_keep 47 = .ok (.aload_n 0, 1) := by decide +kernel
theorem dX11_keep_48 : decode cX11_keep 48 = .ok (.getfield 78, 3) := by decide +kernel
theorem dX11_keep_51 : decode cX11_keep 51 = .ok (.fastore, 1) := by decide +kernel
theorem dX11_keep_52 : decode cX11_keep 52 = .ok (.aload_n 0, 1) := by decide +kernel
theorem dX11_keep_53 : decode cX11_keep 53 = .ok (.getfield 26, 3) := by decide +kernel
theorem dX11_keep_56 : decode cX11_keep 56 = .ok (.iload_n 1, 1) := by decide +kernel
theorem dX11_keep_57 : decode cX11_keep 57 = .ok (.iconst 1, 1) := by decide +kernel
theorem dX11_keep_58 : decode cX11_keep 58 = .ok (.bastore, 1) := by decide +kernel
theorem dX11_keep_59 : decode cX11_keep 59 = .ok (.aload_n 0, 1) := by decide +kernel
theorem dX11_keep_60 : decode cX11_keep 60 = .ok (.getfield 7, 3) := by decide +kernel
theorem dX11_keep_63 : decode cX11_keep 63 = .ok (.bipush 64, 2) := by decide +kernel
theorem dX11_keep_65 : decode cX11_keep 65 = .ok (.iaload, 1) := by decide +kernel
theorem dX11_keep_66 : decode cX11_keep 66 = .ok (.ireturn, 1) := by decide +kernel
theorem dX11_back_0 : decode cX11_back 0 = .ok (.iload_n 1, 1) := by decide +kernel
theorem dX11_back_1 : decode cX11_back 1 = .ok (.iconst 0, 1) := by decide +kernel
theorem dX11_back_2 : decode cX11_back 2 = .ok (.iconst 1, 1) := by decide +kernel
theorem dX11_back_3 : decode cX11_back 3 = .ok (.invokestatic 82, 3) := by decide +kernel
theorem dX11_back_6 : decode cX11_back 6 = .ok (.ifCond .ne 5, 3) := by decide +kernel
theorem dX11_back_9 : decode cX11_back 9 = .ok (.iconst (-1), 1) := by decide +kernel
theorem dX11_back_10 : decode cX11_back 10 = .ok (.ireturn, 1) := by decide +kernel
theorem dX11_back_11 : decode cX11_back 11 = .ok (.aload_n 0, 1) := by decide +kernel
theorem dX11_back_12 : decode cX11_back 12 = .ok (.getfield 26, 3) := by decide +kernel
theorem dX11_back_15 : decode cX11_back 15 = .ok (.iload_n 1, 1) := by decide +kernel
theorem dX11_back_16 : decode cX11_back 16 = .ok (.baload, 1) := by decide +kernel
theorem dX11_back_17 : decode cX11_back 17 = .ok (.ifCond .ne 6, 3) := by decide +kernel
theorem dX11_back_20 : decode cX11_back 20 = .ok (.bipush (-2), 2) := by decide +kernel
theorem dX11_back_22 : decode cX11_back 22 = .ok (.ireturn, 1) := by decide +kernel
theorem dX11_back_23 : decode cX11_back 23 = .ok (.iconst 0, 1) := by decide +kernel
theorem dX11_back_24 : decode cX11_back 24 = .ok (.istore_n 2, 1) := by decide +kernel
theorem dX11_back_25 : decode cX11_back 25 = .ok (.iload_n 2, 1) := by decide +kernel
theorem dX11_back_26 : decode cX11_back 26 = .ok (.bipush 86, 2) := by decide +kernel
theorem dX11_back_28 : decode cX11_back 28 = .ok (.if_icmp .ge 26, 3) := by decide +kernel
theorem dX11_back_31 : decode cX11_back 31 = .ok (.aload_n 0, 1) := by decide +kernel
theorem dX11_back_32 : decode cX11_back 32 = .ok (.getfield 7, 3) := by decide +kernel
theorem dX11_back_35 : decode cX11_back 35 = .ok (.iload_n 2, 1) := by decide +kernel
theorem dX11_back_36 : decode cX11_back 36 = .ok (.aload_n 0, 1) := by decide +kernel
theorem dX11_back_37 : decode cX11_back 37 = .ok (.getfield 20, 3) := by decide +kernel
theorem dX11_back_40 : decode cX11_back 40 = .ok (.bipush 86, 2) := by decide +kernel
theorem dX11_back_42 : decode cX11_back 42 = .ok (.iload_n 1, 1) := by decide +kernel
theorem dX11_back_43 : decode cX11_back 43 = .ok (.imul, 1) := by decide +kernel
theorem dX11_back_44 : decode cX11_back 44 = .ok (.iload_n 2, 1) := by decide +kernel
theorem dX11_back_45 : decode cX11_back 45 = .ok (.iadd, 1) := by decide +kernel
theorem dX11_back_46 : decode cX11_back 46 = .ok (.iaload, 1) := by decide +kernel
theorem dX11_back_47 : decode cX11_back 47 = .ok (.iastore, 1) := by decide +kernel
theorem dX11_back_48 : decode cX11_back 48 = .ok (.iinc 2 1, 3) := by decide +kernel
theorem dX11_back_51 : decode cX11_back 51 = .ok (.goto (-26), 3) := by decide +kernel
theorem dX11_back_54 : decode cX11_back 54 = .ok (.aload_n 0, 1) := by decide +kernel
theorem dX11_back_55 : decode cX11_back 55 = .ok (.aload_n 0, 1) := by decide +kernel
theorem dX11_back_56 : decode cX11_back 56 = .ok (.getfield 23, 3) := by decide +kernel
theorem dX11_back_59 : decode cX11_back 59 = .ok (.iload_n 1, 1) := by decide +kernel
theorem dX11_back_60 : decode cX11_back 60 = .ok (.faload, 1) := by decide +kernel
theorem dX11_back_61 : decode cX11_back 61 = .ok (.putfield 78, 3) := by decide +kernel
theorem dX11_back_64 : decode cX11_back 64 = .ok (.aload_n 0, 1) := by decide +kernel
theorem dX11_back_65 : decode cX11_back 65 = .ok (.iconst 0, 1) := by decide +kernel
theorem dX11_back_66 : decode cX11_back 66 = .ok (.putfield 74, 3) := by decide +kernel
theorem dX11_back_69 : decode cX11_back 69 = .ok (.aload_n 0, 1) := by decide +kernel
theorem dX11_back_70 : decode cX11_back 70 = .ok (.getfield 7, 3) := by decide +kernel
theorem dX11_back_73 : decode cX11_back 73 = .ok (.bipush 64, 2) := by decide +kernel
theorem dX11_back_75 : decode cX11_back 75 = .ok (.iaload, 1) := by decide +kernel
theorem dX11_back_76 : decode cX11_back 76 = .ok (.ireturn, 1) := by decide +kernel
theorem dX11_count_0 : decode cX11_count 0 = .ok (.iload_n 1, 1) := by decide +kernel
theorem dX11_count_1 : decode cX11_count 1 = .ok (.tableswitch 96 0 7 #[47, 55, 63, 68, 73, 81, 86, 91], 47) := by decide +kernel
theorem dX11_count_48 : decode cX11_count 48 = .ok (.aload_n 0, 1) := by decide +kernel
theorem dX11_count_49 : decode cX11_count 49 = .ok (.getfield 7, 3) := by decide +kernel
theorem dX11_count_52 : decode cX11_count 52 = .ok (.bipush 33, 2) := by decide +kernel
theorem dX11_count_54 : decode cX11_count 54 = .ok (.iaload, 1) := by decide +kernel
theorem dX11_count_55 : decode cX11_count 55 = .ok (.ireturn, 1) := by decide +kernel
theorem dX11_count_56 : decode cX11_count 56 = .ok (.aload_n 0, 1) := by decide +kernel
theorem dX11_count_57 : decode cX11_count 57 = .ok (.getfield 7, 3) := by decide +kernel
theorem dX11_count_60 : decode cX11_count 60 = .ok (.bipush 64, 2) := by decide +kernel
theorem dX11_count_62 : decode cX11_count 62 = .ok (.iaload, 1) := by decide +kernel
theorem dX11_count_63 : decode cX11_count 63 = .ok (.ireturn, 1) := by decide +kernel
theorem dX11_count_64 : decode cX11_count 64 = .ok (.aload_n 0, 1) := by decide +kernel
theorem dX11_count_65 : decode cX11_count 65 = .ok (.invokevirtual 146, 3) := by decide +kernel
theorem dX11_count_68 : decode cX11_count 68 = .ok (.ireturn, 1) := by decide +kernel
theorem dX11_count_69 : decode cX11_count 69 = .ok (.aload_n 0, 1) := by decide +kernel
theorem dX11_count_70 : decode cX11_count 70 = .ok (.invokevirtual 244, 3) := by decide +kernel
theorem dX11_count_73 : decode cX11_count 73 = .ok (.ireturn, 1) := by decide +kernel
theorem dX11_count_74 : decode cX11_count 74 = .ok (.aload_n 0, 1) := by decide +kernel
theorem dX11_count_75 : decode cX11_count 75 = .ok (.getfield 7, 3) := by decide +kernel
theorem dX11_count_78 : decode cX11_count 78 = .ok (.bipush 85, 2) := by decide +kernel
theorem dX11_count_80 : decode cX11_count 80 = .ok (.iaload, 1) := by decide +kernel
theorem dX11_count_81 : decode cX11_count 81 = .ok (.ireturn, 1) := by decide +kernel
theorem dX11_count_82 : decode cX11_count 82 = .ok (.aload_n 0, 1) := by decide +kernel
theorem dX11_count_83 : decode cX11_count 83 = .ok (.getfield 143, 3) := by decide +kernel
theorem dX11_count_86 : decode cX11_count 86 = .ok (.ireturn, 1) := by decide +kernel
theorem dX11_count_87 : decode cX11_count 87 = .ok (.aload_n 0, 1) := by decide +kernel
theorem dX11_count_88 : decode cX11_count 88 = .ok (.getfield 94, 3) := by decide +kernel
theorem dX11_count_91 : decode cX11_count 91 = .ok (.ireturn, 1) := by decide +kernel
theorem dX11_count_92 : decode cX11_count 92 = .ok (.aload_n 0, 1) := by decide +kernel
theorem dX11_count_93 : decode cX11_count 93 = .ok (.getfield 74, 3) := by decide +kernel
theorem dX11_count_96 : decode cX11_count 96 = .ok (.ireturn, 1) := by decide +kernel
theorem dX11_count_97 : decode cX11_count 97 = .ok (.iconst (-1), 1) := by decide +kernel
theorem dX11_count_98 : decode cX11_count 98 = .ok (.ireturn, 1) := by decide +kernel
theorem dL_law_0 : decode cL_law 0 = .ok (.new 7, 3) := by decide +kernel
theorem dL_law_3 : decode cL_law 3 = .ok (.dup, 1) := by decide +kernel
theorem dL_law_4 : decode cL_law 4 = .ok (.invokespecial 9, 3) := by decide +kernel
theorem dL_law_7 : decode cL_law 7 = .ok (.astore_n 1, 1) := by decide +kernel
theorem dL_law_8 : decode cL_law 8 = .ok (.new 10, 3) := by decide +kernel
theorem dL_law_11 : decode cL_law 11 = .ok (.dup, 1) := by decide +kernel
theorem dL_law_12 : decode cL_law 12 = .ok (.invokespecial 12, 3) := by decide +kernel
theorem dL_law_15 : decode cL_law 15 = .ok (.astore_n 2, 1) := by decide +kernel
theorem dL_law_16 : decode cL_law 16 = .ok (.iconst 0, 1) := by decide +kernel
theorem dL_law_17 : decode cL_law 17 = .ok (.istore_n 3, 1) := by decide +kernel
theorem dL_law_18 : decode cL_law 18 = .ok (.iload_n 3, 1) := by decide +kernel
theorem dL_law_19 : decode cL_law 19 = .ok (.aload_n 0, 1) := by decide +kernel
theorem dL_law_20 : decode cL_law 20 = .ok (.arraylength, 1) := by decide +kernel
theorem dL_law_21 : decode cL_law 21 = .ok (.bipush 6, 2) := by decide +kernel
theorem dL_law_23 : decode cL_law 23 = .ok (.isub, 1) := by decide +kernel
theorem dL_law_24 : decode cL_law 24 = .ok (.if_icmp .gt 980, 3) := by decide +kernel
theorem dL_law_27 : decode cL_law 27 = .ok (.aload_n 0, 1) := by decide +kernel
theorem dL_law_28 : decode cL_law 28 = .ok (.iload_n 3, 1) := by decide +kernel
theorem dL_law_29 : decode cL_law 29 = .ok (.iaload, 1) := by decide +kernel
theorem dL_law_30 : decode cL_law 30 = .ok (.bipush 31, 2) := by decide +kernel
theorem dL_law_32 : decode cL_law 32 = .ok (.iand, 1) := by decide +kernel
theorem dL_law_33 : decode cL_law 33 = .ok (.tableswitch 965 0 29 #[135, 158, 171, 184, 227, 260, 323, 336, 399, 422, 455, 468, 481, 494, 537, 570, 603, 626, 639, 682, 695, 718, 741, 764, 807, 820, 843, 896, 919, 942], 135) := by decide +kernel
theorem dL_law_168 : decode cL_law 168 = .ok (.aload_n 1, 1) := by decide +kernel
theorem dL_law_169 : decode cL_law 169 = .ok (.aload_n 0, 1) := by decide +kernel
theorem dL_law_170 : decode cL_law 170 = .ok (.iload_n 3, 1) := by decide +kernel
theorem dL_law_171 : decode cL_law 171 = .ok (.iconst 1, 1) := by decide +kernel
theorem dL_law_172 : decode cL_law 172 = .ok (.iadd, 1) := by decide +kernel
theorem dL_law_173 : decode cL_law 173 = .ok (.iaload, 1) := by decide +kernel
theorem dL_law_174 : decode cL_law 174 = .ok (.invokevirtual 13, 3) := by decide +kernel
theorem dL_law_177 : decode cL_law 177 = .ok (.aload_n 2, 1) := by decide +kernel
theorem dL_law_178 : decode cL_law 178 = .ok (.aload_n 0, 1) := by decide +kernel
theorem dL_law_179 : decode cL_law 179 = .ok (.iload_n 3, 1) := by decide +kernel
theorem dL_law_180 : decode cL_law 180 = .ok (.iconst 1, 1) := by decide +kernel
theorem dL_law_181 : decode cL_law 181 = .ok (.iadd, 1) := by decide +kernel
theorem dL_law_182 : decode cL_law 182 = .ok (.iaload, 1) := by decide +kernel
theorem dL_law_183 : decode cL_law 183 = .ok (.invokevirtual 17, 3) := by decide +kernel
theorem dL_law_186 : decode cL_law 186 = .ok (.if_icmp .eq 812, 3) := by decide +kernel
theorem dL_law_189 : decode cL_law 189 = .ok (.iconst 0, 1) := by decide +kernel
theorem dL_law_190 : decode cL_law 190 = .ok (.ireturn, 1) := by decide +kernel
theorem dL_law_191 : decode cL_law 191 = .ok (.aload_n 1, 1) := by decide +kernel
theorem dL_law_192 : decode cL_law 192 = .ok (.invokevirtual 18, 3) := by decide +kernel
theorem dL_law_195 : decode cL_law 195 = .ok (.aload_n 2, 1) := by decide +kernel
theorem dL_law_196 : decode cL_law 196 = .ok (.invokevirtual 22, 3) := by decide +kernel
theorem dL_law_199 : decode cL_law 199 = .ok (.if_icmp .eq 799, 3) := by decide +kernel
theorem dL_law_202 : decode cL_law 202 = .ok (.iconst 0, 1) := by decide +kernel
theorem dL_law_203 : decode cL_law 203 = .ok (.ireturn, 1) := by decide +kernel
theorem dL_law_204 : decode cL_law 204 = .ok (.aload_n 1, 1) := by decide +kernel
theorem dL_law_205 : decode cL_law 205 = .ok (.invokevirtual 23, 3) := by decide +kernel
theorem dL_law_208 : decode cL_law 208 = .ok (.aload_n 2, 1) := by decide +kernel
theorem dL_law_209 : decode cL_law 209 = .ok (.invokevirtual 26, 3) := by decide +kernel
theorem dL_law_212 : decode cL_law 212 = .ok (.if_icmp .eq 786, 3) := by decide +kernel
theorem dL_law_215 : decode cL_law 215 = .ok (.iconst 0, 1) := by decide +kernel
theorem dL_law_216 : decode cL_law 216 = .ok (.ireturn, 1) := by decide +kernel
theorem dL_law_217 : decode cL_law 217 = .ok (.aload_n 1, 1) := by decide +kernel
theorem dL_law_218 : decode cL_law 218 = .ok (.aload_n 0, 1) := by decide +kernel
theorem dL_law_219 : decode cL_law 219 = .ok (.iload_n 3, 1) := by decide +kernel
theorem dL_law_220 : decode cL_law 220 = .ok (.iconst 1, 1) := by decide +kernel
theorem dL_law_221 : decode cL_law 221 = .ok (.iadd, 1) := by decide +kernel
theorem dL_law_222 : decode cL_law 222 = .ok (.iaload, 1) := by decide +kernel
theorem dL_law_223 : decode cL_law 223 = .ok (.aload_n 0, 1) := by decide +kernel
theorem dL_law_224 : decode cL_law 224 = .ok (.iload_n 3, 1) := by decide +kernel
theorem dL_law_225 : decode cL_law 225 = .ok (.iconst 2, 1) := by decide +kernel
theorem dL_law_226 : decode cL_law 226 = .ok (.iadd, 1) := by decide +kernel
theorem dL_law_227 : decode cL_law 227 = .ok (.iaload, 1) := by decide +kernel
theorem dL_law_228 : decode cL_law 228 = .ok (.aload_n 0, 1) := by decide +kernel
theorem dL_law_229 : decode cL_law 229 = .ok (.iload_n 3, 1) := by decide +kernel
theorem dL_law_230 : decode cL_law 230 = .ok (.iconst 3, 1) := by decide +kernel
theorem dL_law_231 : decode cL_law 231 = .ok (.iadd, 1) := by decide +kernel
theorem dL_law_232 : decode cL_law 232 = .ok (.iaload, 1) := by decide +kernel
theorem dL_law_233 : decode cL_law 233 = .ok (.invokevirtual 27, 3) := by decide +kernel
theorem dL_law_236 : decode cL_law 236 = .ok (.aload_n 2, 1) := by decide +kernel
theorem dL_law_237 : decode cL_law 237 = .ok (.aload_n 0, 1) := by decide +kernel
theorem dL_law_238 : decode cL_law 238 = .ok (.iload_n 3, 1) := by decide +kernel
theorem dL_law_239 : decode cL_law 239 = .ok (.iconst 1, 1) := by decide +kernel
theorem dL_law_240 : decode cL_law 240 = .ok (.iadd, 1) := by decide +kernel
theorem dL_law_241 : decode cL_law 241 = .ok (.iaload, 1) := by decide +kernel
theorem dL_law_242 : decode cL_law 242 = .ok (.aload_n 0, 1) := by decide +kernel
theorem dL_law_243 : decode cL_law 243 = .ok (.iload_n 3, 1) := by decide +kernel
theorem dL_law_244 : decode cL_law 244 = .ok (.iconst 2, 1) := by decide +kernel
theorem dL_law_245 : decode cL_law 245 = .ok (.iadd, 1) := by decide +kernel
theorem dL_law_246 : decode cL_law 246 = .ok (.iaload, 1) := by decide +kernel
theorem dL_law_247 : decode cL_law 247 = .ok (.aload_n 0, 1) := by decide +kernel
theorem dL_law_248 : decode cL_law 248 = .ok (.iload_n 3, 1) := by decide +kernel
theorem dL_law_249 : decode cL_law 249 = .ok (.iconst 3, 1) := by decide +kernel
theorem dL_law_250 : decode cL_law 250 = .ok (.iadd, 1) := by decide +kernel
theorem dL_law_251 : decode cL_law 251 = .ok (.iaload, 1) := by decide +kernel
theorem dL_law_252 : decode cL_law 252 = .ok (.invokevirtual 31, 3) := by decide +kernel
theorem dL_law_255 : decode cL_law 255 = .ok (.if_icmp .eq 743, 3) := by decide +kernel
theorem dL_law_258 : decode cL_law 258 = .ok (.iconst 0, 1) := by decide +kernel
theorem dL_law_259 : decode cL_law 259 = .ok (.ireturn, 1) := by decide +kernel
theorem dL_law_260 : decode cL_law 260 = .ok (.aload_n 1, 1) := by decide +kernel
theorem dL_law_261 : decode cL_law 261 = .ok (.aload_n 0, 1) := by decide +kernel
theorem dL_law_262 : decode cL_law 262 = .ok (.iload_n 3, 1) := by decide +kernel
theorem dL_law_263 : decode cL_law 263 = .ok (.iconst 1, 1) := by decide +kernel
theorem dL_law_264 : decode cL_law 264 = .ok (.iadd, 1) := by decide +kernel
theorem dL_law_265 : decode cL_law 265 = .ok (.iaload, 1) := by decide +kernel
theorem dL_law_266 : decode cL_law 266 = .ok (.aload_n 0, 1) := by decide +kernel
theorem dL_law_267 : decode cL_law 267 = .ok (.iload_n 3, 1) := by decide +kernel
theorem dL_law_268 : decode cL_law 268 = .ok (.iconst 2, 1) := by decide +kernel
theorem dL_law_269 : decode cL_law 269 = .ok (.iadd, 1) := by decide +kernel
theorem dL_law_270 : decode cL_law 270 = .ok (.iaload, 1) := by decide +kernel
theorem dL_law_271 : decode cL_law 271 = .ok (.invokevirtual 32, 3) := by decide +kernel
theorem dL_law_274 : decode cL_law 274 = .ok (.aload_n 2, 1) := by decide +kernel
theorem dL_law_275 : decode cL_law 275 = .ok (.aload_n 0, 1) := by decide +kernel
theorem dL_law_276 : decode cL_law 276 = .ok (.iload_n 3, 1) := by decide +kernel
theorem dL_law_277 : decode cL_law 277 = .ok (.iconst 1, 1) := by decide +kernel
theorem dL_law_278 : decode cL_law 278 = .ok (.iadd, 1) := by decide +kernel
theorem dL_law_279 : decode cL_law 279 = .ok (.iaload, 1) := by decide +kernel
theorem dL_law_280 : decode cL_law 280 = .ok (.aload_n 0, 1) := by decide +kernel
theorem dL_law_281 : decode cL_law 281 = .ok (.iload_n 3, 1) := by decide +kernel
theorem dL_law_282 : decode cL_law 282 = .ok (.iconst 2, 1) := by decide +kernel
theorem dL_law_283 : decode cL_law 283 = .ok (.iadd, 1) := by decide +kernel
theorem dL_law_284 : decode cL_law 284 = .ok (.iaload, 1) := by decide +kernel
theorem dL_law_285 : decode cL_law 285 = .ok (.invokevirtual 36, 3) := by decide +kernel
theorem dL_law_288 : decode cL_law 288 = .ok (.if_icmp .eq 710, 3) := by decide +kernel
theorem dL_law_291 : decode cL_law 291 = .ok (.iconst 0, 1) := by decide +kernel
theorem dL_law_292 : decode cL_law 292 = .ok (.ireturn, 1) := by decide +kernel
theorem dL_law_293 : decode cL_law 293 = .ok (.aload_n 1, 1) := by decide +kernel
theorem dL_law_294 : decode cL_law 294 = .ok (.aload_n 0, 1) := by decide +kernel
theorem dL_law_295 : decode cL_law 295 = .ok (.iload_n 3, 1) := by decide +kernel
theorem dL_law_296 : decode cL_law 296 = .ok (.iconst 1, 1) := by decide +kernel
theorem dL_law_297 : decode cL_law 297 = .ok (.iadd, 1) := by decide +kernel
theorem dL_law_298 : decode cL_law 298 = .ok (.iaload, 1) := by decide +kernel
theorem dL_law_299 : decode cL_law 299 = .ok (.aload_n 0, 1) := by decide +kernel
theorem dL_law_300 : decode cL_law 300 = .ok (.iload_n 3, 1) := by decide +kernel
theorem dL_law_301 : decode cL_law 301 = .ok (.iconst 2, 1) := by decide +kernel
theorem dL_law_302 : decode cL_law 302 = .ok (.iadd, 1) := by decide +kernel
theorem dL_law_303 : decode cL_law 303 = .ok (.iaload, 1) := by decide +kernel
theorem dL_law_304 : decode cL_law 304 = .ok (.aload_n 0, 1) := by decide +kernel
theorem dL_law_305 : decode cL_law 305 = .ok (.iload_n 3, 1) := by decide +kernel
theorem dL_law_306 : decode cL_law 306 = .ok (.iconst 3, 1) := by decide +kernel
theorem dL_law_307 : decode cL_law 307 = .ok (.iadd, 1) := by decide +kernel
theorem dL_law_308 : decode cL_law 308 = .ok (.iaload, 1) := by decide +kernel
theorem dL_law_309 : decode cL_law 309 = .ok (.aload_n 0, 1) := by decide +kernel
theorem dL_law_310 : decode cL_law 310 = .ok (.iload_n 3, 1) := by decide +kernel
theorem dL_law_311 : decode cL_law 311 = .ok (.iconst 4, 1) := by decide +kernel
theorem dL_law_312 : decode cL_law 312 = .ok (.iadd, 1) := by decide +kernel
theorem dL_law_313 : decode cL_law 313 = .ok (.iaload, 1) := by decide +kernel
theorem dL_law_314 : decode cL_law 314 = .ok (.aload_n 0, 1) := by decide +kernel
theorem dL_law_315 : decode cL_law 315 = .ok (.iload_n 3, 1) := by decide +kernel
theorem dL_law_316 : decode cL_law 316 = .ok (.iconst 5, 1) := by decide +kernel
theorem dL_law_317 : decode cL_law 317 = .ok (.iadd, 1) := by decide +kernel
theorem dL_law_318 : decode cL_law 318 = .ok (.iaload, 1) := by decide +kernel
theorem dL_law_319 : decode cL_law 319 = .ok (.invokevirtual 37, 3) := by decide +kernel
theorem dL_law_322 : decode cL_law 322 = .ok (.aload_n 2, 1) := by decide +kernel
theorem dL_law_323 : decode cL_law 323 = .ok (.aload_n 0, 1) := by decide +kernel
theorem dL_law_324 : decode cL_law 324 = .ok (.iload_n 3, 1) := by decide +kernel
theorem dL_law_325 : decode cL_law 325 = .ok (.iconst 1, 1) := by decide +kernel
theorem dL_law_326 : decode cL_law 326 = .ok (.iadd, 1) := by decide +kernel
theorem dL_law_327 : decode cL_law 327 = .ok (.iaload, 1) := by decide +kernel
theorem dL_law_328 : decode cL_law 328 = .ok (.aload_n 0, 1) := by decide +kernel
theorem dL_law_329 : decode cL_law 329 = .ok (.iload_n 3, 1) := by decide +kernel
theorem dL_law_330 : decode cL_law 330 = .ok (.iconst 2, 1) := by decide +kernel
theorem dL_law_331 : decode cL_law 331 = .ok (.iadd, 1) := by decide +kernel
theorem dL_law_332 : decode cL_law 332 = .ok (.iaload, 1) := by decide +kernel
theorem dL_law_333 : decode cL_law 333 = .ok (.aload_n 0, 1) := by decide +kernel
theorem dL_law_334 : decode cL_law 334 = .ok (.iload_n 3, 1) := by decide +kernel
theorem dL_law_335 : decode cL_law 335 = .ok (.iconst 3, 1) := by decide +kernel
theorem dL_law_336 : decode cL_law 336 = .ok (.iadd, 1) := by decide +kernel
theorem dL_law_337 : decode cL_law 337 = .ok (.iaload, 1) := by decide +kernel
theorem dL_law_338 : decode cL_law 338 = .ok (.aload_n 0, 1) := by decide +kernel
theorem dL_law_339 : decode cL_law 339 = .ok (.iload_n 3, 1) := by decide +kernel
theorem dL_law_340 : decode cL_law 340 = .ok (.iconst 4, 1) := by decide +kernel
theorem dL_law_341 : decode cL_law 341 = .ok (.iadd, 1) := by decide +kernel
theorem dL_law_342 : decode cL_law 342 = .ok (.iaload, 1) := by decide +kernel
theorem dL_law_343 : decode cL_law 343 = .ok (.aload_n 0, 1) := by decide +kernel
theorem dL_law_344 : decode cL_law 344 = .ok (.iload_n 3, 1) := by decide +kernel
theorem dL_law_345 : decode cL_law 345 = .ok (.iconst 5, 1) := by decide +kernel
theorem dL_law_346 : decode cL_law 346 = .ok (.iadd, 1) := by decide +kernel
theorem dL_law_347 : decode cL_law 347 = .ok (.iaload, 1) := by decide +kernel
theorem dL_law_348 : decode cL_law 348 = .ok (.invokevirtual 41, 3) := by decide +kernel
theorem dL_law_351 : decode cL_law 351 = .ok (.if_icmp .eq 647, 3) := by decide +kernel
theorem dL_law_354 : decode cL_law 354 = .ok (.iconst 0, 1) := by decide +kernel
theorem dL_law_355 : decode cL_law 355 = .ok (.ireturn, 1) := by decide +kernel
theorem dL_law_356 : decode cL_law 356 = .ok (.aload_n 1, 1) := by decide +kernel
theorem dL_law_357 : decode cL_law 357 = .ok (.invokevirtual 42, 3) := by decide +kernel
theorem dL_law_360 : decode cL_law 360 = .ok (.aload_n 2, 1) := by decide +kernel
theorem dL_law_361 : decode cL_law 361 = .ok (.invokevirtual 45, 3) := by decide +kernel
theorem dL_law_364 : decode cL_law 364 = .ok (.if_icmp .eq 634, 3) := by decide +kernel
theorem dL_law_367 : decode cL_law 367 = .ok (.iconst 0, 1) := by decide +kernel
theorem dL_law_368 : decode cL_law 368 = .ok (.ireturn, 1) := by decide +kernel
theorem dL_law_369 : decode cL_law 369 = .ok (.aload_n 1, 1) := by decide +kernel
theorem dL_law_370 : decode cL_law 370 = .ok (.aload_n 0, 1) := by decide +kernel
theorem dL_law_371 : decode cL_law 371 = .ok (.iload_n 3, 1) := by decide +kernel
theorem dL_law_372 : decode cL_law 372 = .ok (.iconst 1, 1) := by decide +kernel
theorem dL_law_373 : decode cL_law 373 = .ok (.iadd, 1) := by decide +kernel
theorem dL_law_374 : decode cL_law 374 = .ok (.iaload, 1) := by decide +kernel
theorem dL_law_375 : decode cL_law 375 = .ok (.aload_n 0, 1) := by decide +kernel
theorem dL_law_376 : decode cL_law 376 = .ok (.iload_n 3, 1) := by decide +kernel
theorem dL_law_377 : decode cL_law 377 = .ok (.iconst 2, 1) := by decide +kernel
theorem dL_law_378 : decode cL_law 378 = .ok (.iadd, 1) := by decide +kernel
theorem dL_law_379 : decode cL_law 379 = .ok (.iaload, 1) := by decide +kernel
theorem dL_law_380 : decode cL_law 380 = .ok (.aload_n 0, 1) := by decide +kernel
theorem dL_law_381 : decode cL_law 381 = .ok (.iload_n 3, 1) := by decide +kernel
theorem dL_law_382 : decode cL_law 382 = .ok (.iconst 3, 1) := by decide +kernel
theorem dL_law_383 : decode cL_law 383 = .ok (.iadd, 1) := by decide +kernel
theorem dL_law_384 : decode cL_law 384 = .ok (.iaload, 1) := by decide +kernel
theorem dL_law_385 : decode cL_law 385 = .ok (.aload_n 0, 1) := by decide +kernel
theorem dL_law_386 : decode cL_law 386 = .ok (.iload_n 3, 1) := by decide +kernel
theorem dL_law_387 : decode cL_law 387 = .ok (.iconst 4, 1) := by decide +kernel
theorem dL_law_388 : decode cL_law 388 = .ok (.iadd, 1) := by decide +kernel
theorem dL_law_389 : decode cL_law 389 = .ok (.iaload, 1) := by decide +kernel
theorem dL_law_390 : decode cL_law 390 = .ok (.aload_n 0, 1) := by decide +kernel
theorem dL_law_391 : decode cL_law 391 = .ok (.iload_n 3, 1) := by decide +kernel
theorem dL_law_392 : decode cL_law 392 = .ok (.iconst 5, 1) := by decide +kernel
theorem dL_law_393 : decode cL_law 393 = .ok (.iadd, 1) := by decide +kernel
theorem dL_law_394 : decode cL_law 394 = .ok (.iaload, 1) := by decide +kernel
theorem dL_law_395 : decode cL_law 395 = .ok (.invokevirtual 46, 3) := by decide +kernel
theorem dL_law_398 : decode cL_law 398 = .ok (.aload_n 2, 1) := by decide +kernel
theorem dL_law_399 : decode cL_law 399 = .ok (.aload_n 0, 1) := by decide +kernel
theorem dL_law_400 : decode cL_law 400 = .ok (.iload_n 3, 1) := by decide +kernel
theorem dL_law_401 : decode cL_law 401 = .ok (.iconst 1, 1) := by decide +kernel
theorem dL_law_402 : decode cL_law 402 = .ok (.iadd, 1) := by decide +kernel
theorem dL_law_403 : decode cL_law 403 = .ok (.iaload, 1) := by decide +kernel
theorem dL_law_404 : decode cL_law 404 = .ok (.aload_n 0, 1) := by decide +kernel
theorem dL_law_405 : decode cL_law 405 = .ok (.iload_n 3, 1) := by decide +kernel
theorem dL_law_406 : decode cL_law 406 = .ok (.iconst 2, 1) := by decide +kernel
theorem dL_law_407 : decode cL_law 407 = .ok (.iadd, 1) := by decide +kernel
theorem dL_law_408 : decode cL_law 408 = .ok (.iaload, 1) := by decide +kernel
theorem dL_law_409 : decode cL_law 409 = .ok (.aload_n 0, 1) := by decide +kernel
theorem dL_law_410 : decode cL_law 410 = .ok (.iload_n 3, 1) := by decide +kernel
theorem dL_law_411 : decode cL_law 411 = .ok (.iconst 3, 1) := by decide +kernel
theorem dL_law_412 : decode cL_law 412 = .ok (.iadd, 1) := by decide +kernel
theorem dL_law_413 : decode cL_law 413 = .ok (.iaload, 1) := by decide +kernel
theorem dL_law_414 : decode cL_law 414 = .ok (.aload_n 0, 1) := by decide +kernel
theorem dL_law_415 : decode cL_law 415 = .ok (.iload_n 3, 1) := by decide +kernel
theorem dL_law_416 : decode cL_law 416 = .ok (.iconst 4, 1) := by decide +kernel
theorem dL_law_417 : decode cL_law 417 = .ok (.iadd, 1) := by decide +kernel
theorem dL_law_418 : decode cL_law 418 = .ok (.iaload, 1) := by decide +kernel
theorem dL_law_419 : decode cL_law 419 = .ok (.aload_n 0, 1) := by decide +kernel
theorem dL_law_420 : decode cL_law 420 = .ok (.iload_n 3, 1) := by decide +kernel
theorem dL_law_421 : decode cL_law 421 = .ok (.iconst 5, 1) := by decide +kernel
theorem dL_law_422 : decode cL_law 422 = .ok (.iadd, 1) := by decide +kernel
theorem dL_law_423 : decode cL_law 423 = .ok (.iaload, 1) := by decide +kernel
theorem dL_law_424 : decode cL_law 424 = .ok (.invokevirtual 49, 3) := by decide +kernel
theorem dL_law_427 : decode cL_law 427 = .ok (.if_icmp .eq 571, 3) := by decide +kernel
theorem dL_law_430 : decode cL_law 430 = .ok (.iconst 0, 1) := by decide +kernel
theorem dL_law_431 : decode cL_law 431 = .ok (.ireturn, 1) := by decide +kernel
theorem dL_law_432 : decode cL_law 432 = .ok (.aload_n 1, 1) := by decide +kernel
theorem dL_law_433 : decode cL_law 433 = .ok (.aload_n 0, 1) := by decide +kernel
theorem dL_law_434 : decode cL_law 434 = .ok (.iload_n 3, 1) := by decide +kernel
theorem dL_law_435 : decode cL_law 435 = .ok (.iconst 1, 1) := by decide +kernel
theorem dL_law_436 : decode cL_law 436 = .ok (.iadd, 1) := by decide +kernel
theorem dL_law_437 : decode cL_law 437 = .ok (.iaload, 1) := by decide +kernel
theorem dL_law_438 : decode cL_law 438 = .ok (.invokevirtual 50, 3) := by decide +kernel
theorem dL_law_441 : decode cL_law 441 = .ok (.aload_n 2, 1) := by decide +kernel
theorem dL_law_442 : decode cL_law 442 = .ok (.aload_n 0, 1) := by decide +kernel
theorem dL_law_443 : decode cL_law 443 = .ok (.iload_n 3, 1) := by decide +kernel
theorem dL_law_444 : decode cL_law 444 = .ok (.iconst 1, 1) := by decide +kernel
theorem dL_law_445 : decode cL_law 445 = .ok (.iadd, 1) := by decide +kernel
theorem dL_law_446 : decode cL_law 446 = .ok (.iaload, 1) := by decide +kernel
theorem dL_law_447 : decode cL_law 447 = .ok (.invokevirtual 53, 3) := by decide +kernel
theorem dL_law_450 : decode cL_law 450 = .ok (.if_icmp .eq 548, 3) := by decide +kernel
theorem dL_law_453 : decode cL_law 453 = .ok (.iconst 0, 1) := by decide +kernel
theorem dL_law_454 : decode cL_law 454 = .ok (.ireturn, 1) := by decide +kernel
theorem dL_law_455 : decode cL_law 455 = .ok (.aload_n 1, 1) := by decide +kernel
theorem dL_law_456 : decode cL_law 456 = .ok (.aload_n 0, 1) := by decide +kernel
theorem dL_law_457 : decode cL_law 457 = .ok (.iload_n 3, 1) := by decide +kernel
theorem dL_law_458 : decode cL_law 458 = .ok (.iconst 1, 1) := by decide +kernel
theorem dL_law_459 : decode cL_law 459 = .ok (.iadd, 1) := by decide +kernel
theorem dL_law_460 : decode cL_law 460 = .ok (.iaload, 1) := by decide +kernel
theorem dL_law_461 : decode cL_law 461 = .ok (.aload_n 0, 1) := by decide +kernel
theorem dL_law_462 : decode cL_law 462 = .ok (.iload_n 3, 1) := by decide +kernel
theorem dL_law_463 : decode cL_law 463 = .ok (.iconst 2, 1) := by decide +kernel
theorem dL_law_464 : decode cL_law 464 = .ok (.iadd, 1) := by decide +kernel
theorem dL_law_465 : decode cL_law 465 = .ok (.iaload, 1) := by decide +kernel
theorem dL_law_466 : decode cL_law 466 = .ok (.invokevirtual 54, 3) := by decide +kernel
theorem dL_law_469 : decode cL_law 469 = .ok (.aload_n 2, 1) := by decide +kernel
theorem dL_law_470 : decode cL_law 470 = .ok (.aload_n 0, 1) := by decide +kernel
theorem dL_law_471 : decode cL_law 471 = .ok (.iload_n 3, 1) := by decide +kernel
theorem dL_law_472 : decode cL_law 472 = .ok (.iconst 1, 1) := by decide +kernel
theorem dL_law_473 : decode cL_law 473 = .ok (.iadd, 1) := by decide +kernel
theorem dL_law_474 : decode cL_law 474 = .ok (.iaload, 1) := by decide +kernel
theorem dL_law_475 : decode cL_law 475 = .ok (.aload_n 0, 1) := by decide +kernel
theorem dL_law_476 : decode cL_law 476 = .ok (.iload_n 3, 1) := by decide +kernel
theorem dL_law_477 : decode cL_law 477 = .ok (.iconst 2, 1) := by decide +kernel
theorem dL_law_478 : decode cL_law 478 = .ok (.iadd, 1) := by decide +kernel
theorem dL_law_479 : decode cL_law 479 = .ok (.iaload, 1) := by decide +kernel
theorem dL_law_480 : decode cL_law 480 = .ok (.invokevirtual 57, 3) := by decide +kernel
theorem dL_law_483 : decode cL_law 483 = .ok (.if_icmp .eq 515, 3) := by decide +kernel
theorem dL_law_486 : decode cL_law 486 = .ok (.iconst 0, 1) := by decide +kernel
theorem dL_law_487 : decode cL_law 487 = .ok (.ireturn, 1) := by decide +kernel
theorem dL_law_488 : decode cL_law 488 = .ok (.aload_n 1, 1) := by decide +kernel
theorem dL_law_489 : decode cL_law 489 = .ok (.invokevirtual 58, 3) := by decide +kernel
theorem dL_law_492 : decode cL_law 492 = .ok (.aload_n 2, 1) := by decide +kernel
theorem dL_law_493 : decode cL_law 493 = .ok (.invokevirtual 61, 3) := by decide +kernel
theorem dL_law_496 : decode cL_law 496 = .ok (.if_icmp .eq 502, 3) := by decide +kernel
theorem dL_law_499 : decode cL_law 499 = .ok (.iconst 0, 1) := by decide +kernel
theorem dL_law_500 : decode cL_law 500 = .ok (.ireturn, 1) := by decide +kernel
theorem dL_law_501 : decode cL_law 501 = .ok (.aload_n 1, 1) := by decide +kernel
theorem dL_law_502 : decode cL_law 502 = .ok (.invokevirtual 62, 3) := by decide +kernel
theorem dL_law_505 : decode cL_law 505 = .ok (.aload_n 2, 1) := by decide +kernel
theorem dL_law_506 : decode cL_law 506 = .ok (.invokevirtual 65, 3) := by decide +kernel
theorem dL_law_509 : decode cL_law 509 = .ok (.if_icmp .eq 489, 3) := by decide +kernel
theorem dL_law_512 : decode cL_law 512 = .ok (.iconst 0, 1) := by decide +kernel
theorem dL_law_513 : decode cL_law 513 = .ok (.ireturn, 1) := by decide +kernel
theorem dL_law_514 : decode cL_law 514 = .ok (.aload_n 1, 1) := by decide +kernel
theorem dL_law_515 : decode cL_law 515 = .ok (.invokevirtual 66, 3) := by decide +kernel
theorem dL_law_518 : decode cL_law 518 = .ok (.aload_n 2, 1) := by decide +kernel
theorem dL_law_519 : decode cL_law 519 = .ok (.invokevirtual 69, 3) := by decide +kernel
theorem dL_law_522 : decode cL_law 522 = .ok (.if_icmp .eq 476, 3) := by decide +kernel
theorem dL_law_525 : decode cL_law 525 = .ok (.iconst 0, 1) := by decide +kernel
theorem dL_law_526 : decode cL_law 526 = .ok (.ireturn, 1) := by decide +kernel
theorem dL_law_527 : decode cL_law 527 = .ok (.aload_n 1, 1) := by decide +kernel
theorem dL_law_528 : decode cL_law 528 = .ok (.aload_n 0, 1) := by decide +kernel
theorem dL_law_529 : decode cL_law 529 = .ok (.iload_n 3, 1) := by decide +kernel
theorem dL_law_530 : decode cL_law 530 = .ok (.iconst 1, 1) := by decide +kernel
theorem dL_law_531 : decode cL_law 531 = .ok (.iadd, 1) := by decide +kernel
theorem dL_law_532 : decode cL_law 532 = .ok (.iaload, 1) := by decide +kernel
theorem dL_law_533 : decode cL_law 533 = .ok (.aload_n 0, 1) := by decide +kernel
theorem dL_law_534 : decode cL_law 534 = .ok (.iload_n 3, 1) := by decide +kernel
theorem dL_law_535 : decode cL_law 535 = .ok (.iconst 2, 1) := by decide +kernel
theorem dL_law_536 : decode cL_law 536 = .ok (.iadd, 1) := by decide +kernel
theorem dL_law_537 : decode cL_law 537 = .ok (.iaload, 1) := by decide +kernel
theorem dL_law_538 : decode cL_law 538 = .ok (.aload_n 0, 1) := by decide +kernel
theorem dL_law_539 : decode cL_law 539 = .ok (.iload_n 3, 1) := by decide +kernel
theorem dL_law_540 : decode cL_law 540 = .ok (.iconst 3, 1) := by decide +kernel
theorem dL_law_541 : decode cL_law 541 = .ok (.iadd, 1) := by decide +kernel
theorem dL_law_542 : decode cL_law 542 = .ok (.iaload, 1) := by decide +kernel
theorem dL_law_543 : decode cL_law 543 = .ok (.invokevirtual 70, 3) := by decide +kernel
theorem dL_law_546 : decode cL_law 546 = .ok (.aload_n 2, 1) := by decide +kernel
theorem dL_law_547 : decode cL_law 547 = .ok (.aload_n 0, 1) := by decide +kernel
theorem dL_law_548 : decode cL_law 548 = .ok (.iload_n 3, 1) := by decide +kernel
theorem dL_law_549 : decode cL_law 549 = .ok (.iconst 1, 1) := by decide +kernel
theorem dL_law_550 : decode cL_law 550 = .ok (.iadd, 1) := by decide +kernel
theorem dL_law_551 : decode cL_law 551 = .ok (.iaload, 1) := by decide +kernel
theorem dL_law_552 : decode cL_law 552 = .ok (.aload_n 0, 1) := by decide +kernel
theorem dL_law_553 : decode cL_law 553 = .ok (.iload_n 3, 1) := by decide +kernel
theorem dL_law_554 : decode cL_law 554 = .ok (.iconst 2, 1) := by decide +kernel
theorem dL_law_555 : decode cL_law 555 = .ok (.iadd, 1) := by decide +kernel
theorem dL_law_556 : decode cL_law 556 = .ok (.iaload, 1) := by decide +kernel
theorem dL_law_557 : decode cL_law 557 = .ok (.aload_n 0, 1) := by decide +kernel
theorem dL_law_558 : decode cL_law 558 = .ok (.iload_n 3, 1) := by decide +kernel
theorem dL_law_559 : decode cL_law 559 = .ok (.iconst 3, 1) := by decide +kernel
theorem dL_law_560 : decode cL_law 560 = .ok (.iadd, 1) := by decide +kernel
theorem dL_law_561 : decode cL_law 561 = .ok (.iaload, 1) := by decide +kernel
theorem dL_law_562 : decode cL_law 562 = .ok (.invokevirtual 73, 3) := by decide +kernel
theorem dL_law_565 : decode cL_law 565 = .ok (.if_icmp .eq 433, 3) := by decide +kernel
theorem dL_law_568 : decode cL_law 568 = .ok (.iconst 0, 1) := by decide +kernel
theorem dL_law_569 : decode cL_law 569 = .ok (.ireturn, 1) := by decide +kernel
theorem dL_law_570 : decode cL_law 570 = .ok (.aload_n 1, 1) := by decide +kernel
theorem dL_law_571 : decode cL_law 571 = .ok (.aload_n 0, 1) := by decide +kernel
theorem dL_law_572 : decode cL_law 572 = .ok (.iload_n 3, 1) := by decide +kernel
theorem dL_law_573 : decode cL_law 573 = .ok (.iconst 1, 1) := by decide +kernel
theorem dL_law_574 : decode cL_law 574 = .ok (.iadd, 1) := by decide +kernel
theorem dL_law_575 : decode cL_law 575 = .ok (.iaload, 1) := by decide +kernel
theorem dL_law_576 : decode cL_law 576 = .ok (.aload_n 0, 1) := by decide +kernel
theorem dL_law_577 : decode cL_law 577 = .ok (.iload_n 3, 1) := by decide +kernel
theorem dL_law_578 : decode cL_law 578 = .ok (.iconst 2, 1) := by decide +kernel
theorem dL_law_579 : decode cL_law 579 = .ok (.iadd, 1) := by decide +kernel
theorem dL_law_580 : decode cL_law 580 = .ok (.iaload, 1) := by decide +kernel
theorem dL_law_581 : decode cL_law 581 = .ok (.invokevirtual 74, 3) := by decide +kernel
theorem dL_law_584 : decode cL_law 584 = .ok (.aload_n 2, 1) := by decide +kernel
theorem dL_law_585 : decode cL_law 585 = .ok (.aload_n 0, 1) := by decide +kernel
theorem dL_law_586 : decode cL_law 586 = .ok (.iload_n 3, 1) := by decide +kernel
theorem dL_law_587 : decode cL_law 587 = .ok (.iconst 1, 1) := by decide +kernel
theorem dL_law_588 : decode cL_law 588 = .ok (.iadd, 1) := by decide +kernel
theorem dL_law_589 : decode cL_law 589 = .ok (.iaload, 1) := by decide +kernel
theorem dL_law_590 : decode cL_law 590 = .ok (.aload_n 0, 1) := by decide +kernel
theorem dL_law_591 : decode cL_law 591 = .ok (.iload_n 3, 1) := by decide +kernel
theorem dL_law_592 : decode cL_law 592 = .ok (.iconst 2, 1) := by decide +kernel
theorem dL_law_593 : decode cL_law 593 = .ok (.iadd, 1) := by decide +kernel
theorem dL_law_594 : decode cL_law 594 = .ok (.iaload, 1) := by decide +kernel
theorem dL_law_595 : decode cL_law 595 = .ok (.invokevirtual 77, 3) := by decide +kernel
theorem dL_law_598 : decode cL_law 598 = .ok (.if_icmp .eq 400, 3) := by decide +kernel
theorem dL_law_601 : decode cL_law 601 = .ok (.iconst 0, 1) := by decide +kernel
theorem dL_law_602 : decode cL_law 602 = .ok (.ireturn, 1) := by decide +kernel
theorem dL_law_603 : decode cL_law 603 = .ok (.aload_n 1, 1) := by decide +kernel
theorem dL_law_604 : decode cL_law 604 = .ok (.aload_n 0, 1) := by decide +kernel
theorem dL_law_605 : decode cL_law 605 = .ok (.iload_n 3, 1) := by decide +kernel
theorem dL_law_606 : decode cL_law 606 = .ok (.iconst 1, 1) := by decide +kernel
theorem dL_law_607 : decode cL_law 607 = .ok (.iadd, 1) := by decide +kernel
theorem dL_law_608 : decode cL_law 608 = .ok (.iaload, 1) := by decide +kernel
theorem dL_law_609 : decode cL_law 609 = .ok (.aload_n 0, 1) := by decide +kernel
theorem dL_law_610 : decode cL_law 610 = .ok (.iload_n 3, 1) := by decide +kernel
theorem dL_law_611 : decode cL_law 611 = .ok (.iconst 2, 1) := by decide +kernel
theorem dL_law_612 : decode cL_law 612 = .ok (.iadd, 1) := by decide +kernel
theorem dL_law_613 : decode cL_law 613 = .ok (.iaload, 1) := by decide +kernel
theorem dL_law_614 : decode cL_law 614 = .ok (.invokevirtual 78, 3) := by decide +kernel
theorem dL_law_617 : decode cL_law 617 = .ok (.aload_n 2, 1) := by decide +kernel
theorem dL_law_618 : decode cL_law 618 = .ok (.aload_n 0, 1) := by decide +kernel
theorem dL_law_619 : decode cL_law 619 = .ok (.iload_n 3, 1) := by decide +kernel
theorem dL_law_620 : decode cL_law 620 = .ok (.iconst 1, 1) := by decide +kernel
theorem dL_law_621 : decode cL_law 621 = .ok (.iadd, 1) := by decide +kernel
theorem dL_law_622 : decode cL_law 622 = .ok (.iaload, 1) := by decide +kernel
theorem dL_law_623 : decode cL_law 623 = .ok (.aload_n 0, 1) := by decide +kernel
theorem dL_law_624 : decode cL_law 624 = .ok (.iload_n 3, 1) := by decide +kernel
theorem dL_law_625 : decode cL_law 625 = .ok (.iconst 2, 1) := by decide +kernel
theorem dL_law_626 : decode cL_law 626 = .ok (.iadd, 1) := by decide +kernel
theorem dL_law_627 : decode cL_law 627 = .ok (.iaload, 1) := by decide +kernel
theorem dL_law_628 : decode cL_law 628 = .ok (.invokevirtual 81, 3) := by decide +kernel
theorem dL_law_631 : decode cL_law 631 = .ok (.if_icmp .eq 367, 3) := by decide +kernel
theorem dL_law_634 : decode cL_law 634 = .ok (.iconst 0, 1) := by decide +kernel
theorem dL_law_635 : decode cL_law 635 = .ok (.ireturn, 1) := by decide +kernel
theorem dL_law_636 : decode cL_law 636 = .ok (.aload_n 1, 1) := by decide +kernel
theorem dL_law_637 : decode cL_law 637 = .ok (.aload_n 0, 1) := by decide +kernel
theorem dL_law_638 : decode cL_law 638 = .ok (.iload_n 3, 1) := by decide +kernel
theorem dL_law_639 : decode cL_law 639 = .ok (.iconst 1, 1) := by decide +kernel
theorem dL_law_640 : decode cL_law 640 = .ok (.iadd, 1) := by decide +kernel
theorem dL_law_641 : decode cL_law 641 = .ok (.iaload, 1) := by decide +kernel
theorem dL_law_642 : decode cL_law 642 = .ok (.invokevirtual 82, 3) := by decide +kernel
theorem dL_law_645 : decode cL_law 645 = .ok (.aload_n 2, 1) := by decide +kernel
theorem dL_law_646 : decode cL_law 646 = .ok (.aload_n 0, 1) := by decide +kernel
theorem dL_law_647 : decode cL_law 647 = .ok (.iload_n 3, 1) := by decide +kernel
theorem dL_law_648 : decode cL_law 648 = .ok (.iconst 1, 1) := by decide +kernel
theorem dL_law_649 : decode cL_law 649 = .ok (.iadd, 1) := by decide +kernel
theorem dL_law_650 : decode cL_law 650 = .ok (.iaload, 1) := by decide +kernel
theorem dL_law_651 : decode cL_law 651 = .ok (.invokevirtual 85, 3) := by decide +kernel
theorem dL_law_654 : decode cL_law 654 = .ok (.if_icmp .eq 344, 3) := by decide +kernel
theorem dL_law_657 : decode cL_law 657 = .ok (.iconst 0, 1) := by decide +kernel
theorem dL_law_658 : decode cL_law 658 = .ok (.ireturn, 1) := by decide +kernel
theorem dL_law_659 : decode cL_law 659 = .ok (.aload_n 1, 1) := by decide +kernel
theorem dL_law_660 : decode cL_law 660 = .ok (.invokevirtual 86, 3) := by decide +kernel
theorem dL_law_663 : decode cL_law 663 = .ok (.aload_n 2, 1) := by decide +kernel
theorem dL_law_664 : decode cL_law 664 = .ok (.invokevirtual 89, 3) := by decide +kernel
theorem dL_law_667 : decode cL_law 667 = .ok (.if_icmp .eq 331, 3) := by decide +kernel
theorem dL_law_670 : decode cL_law 670 = .ok (.iconst 0, 1) := by decide +kernel
theorem dL_law_671 : decode cL_law 671 = .ok (.ireturn, 1) := by decide +kernel
theorem dL_law_672 : decode cL_law 672 = .ok (.aload_n 1, 1) := by decide +kernel
theorem dL_law_673 : decode cL_law 673 = .ok (.aload_n 0, 1) := by decide +kernel
theorem dL_law_674 : decode cL_law 674 = .ok (.iload_n 3, 1) := by decide +kernel
theorem dL_law_675 : decode cL_law 675 = .ok (.iconst 1, 1) := by decide +kernel
theorem dL_law_676 : decode cL_law 676 = .ok (.iadd, 1) := by decide +kernel
theorem dL_law_677 : decode cL_law 677 = .ok (.iaload, 1) := by decide +kernel
theorem dL_law_678 : decode cL_law 678 = .ok (.aload_n 0, 1) := by decide +kernel
theorem dL_law_679 : decode cL_law 679 = .ok (.iload_n 3, 1) := by decide +kernel
theorem dL_law_680 : decode cL_law 680 = .ok (.iconst 2, 1) := by decide +kernel
theorem dL_law_681 : decode cL_law 681 = .ok (.iadd, 1) := by decide +kernel
theorem dL_law_682 : decode cL_law 682 = .ok (.iaload, 1) := by decide +kernel
theorem dL_law_683 : decode cL_law 683 = .ok (.aload_n 0, 1) := by decide +kernel
theorem dL_law_684 : decode cL_law 684 = .ok (.iload_n 3, 1) := by decide +kernel
theorem dL_law_685 : decode cL_law 685 = .ok (.iconst 3, 1) := by decide +kernel
theorem dL_law_686 : decode cL_law 686 = .ok (.iadd, 1) := by decide +kernel
theorem dL_law_687 : decode cL_law 687 = .ok (.iaload, 1) := by decide +kernel
theorem dL_law_688 : decode cL_law 688 = .ok (.invokevirtual 90, 3) := by decide +kernel
theorem dL_law_691 : decode cL_law 691 = .ok (.aload_n 2, 1) := by decide +kernel
theorem dL_law_692 : decode cL_law 692 = .ok (.aload_n 0, 1) := by decide +kernel
theorem dL_law_693 : decode cL_law 693 = .ok (.iload_n 3, 1) := by decide +kernel
theorem dL_law_694 : decode cL_law 694 = .ok (.iconst 1, 1) := by decide +kernel
theorem dL_law_695 : decode cL_law 695 = .ok (.iadd, 1) := by decide +kernel
theorem dL_law_696 : decode cL_law 696 = .ok (.iaload, 1) := by decide +kernel
theorem dL_law_697 : decode cL_law 697 = .ok (.aload_n 0, 1) := by decide +kernel
theorem dL_law_698 : decode cL_law 698 = .ok (.iload_n 3, 1) := by decide +kernel
theorem dL_law_699 : decode cL_law 699 = .ok (.iconst 2, 1) := by decide +kernel
theorem dL_law_700 : decode cL_law 700 = .ok (.iadd, 1) := by decide +kernel
theorem dL_law_701 : decode cL_law 701 = .ok (.iaload, 1) := by decide +kernel
theorem dL_law_702 : decode cL_law 702 = .ok (.aload_n 0, 1) := by decide +kernel
theorem dL_law_703 : decode cL_law 703 = .ok (.iload_n 3, 1) := by decide +kernel
theorem dL_law_704 : decode cL_law 704 = .ok (.iconst 3, 1) := by decide +kernel
theorem dL_law_705 : decode cL_law 705 = .ok (.iadd, 1) := by decide +kernel
theorem dL_law_706 : decode cL_law 706 = .ok (.iaload, 1) := by decide +kernel
theorem dL_law_707 : decode cL_law 707 = .ok (.invokevirtual 93, 3) := by decide +kernel
theorem dL_law_710 : decode cL_law 710 = .ok (.if_icmp .eq 288, 3) := by decide +kernel
theorem dL_law_713 : decode cL_law 713 = .ok (.iconst 0, 1) := by decide +kernel
theorem dL_law_714 : decode cL_law 714 = .ok (.ireturn, 1) := by decide +kernel
theorem dL_law_715 : decode cL_law 715 = .ok (.aload_n 1, 1) := by decide +kernel
theorem dL_law_716 : decode cL_law 716 = .ok (.invokevirtual 94, 3) := by decide +kernel
theorem dL_law_719 : decode cL_law 719 = .ok (.aload_n 2, 1) := by decide +kernel
theorem dL_law_720 : decode cL_law 720 = .ok (.invokevirtual 97, 3) := by decide +kernel
theorem dL_law_723 : decode cL_law 723 = .ok (.if_icmp .eq 275, 3) := by decide +kernel
theorem dL_law_726 : decode cL_law 726 = .ok (.iconst 0, 1) := by decide +kernel
theorem dL_law_727 : decode cL_law 727 = .ok (.ireturn, 1) := by decide +kernel
theorem dL_law_728 : decode cL_law 728 = .ok (.aload_n 1, 1) := by decide +kernel
theorem dL_law_729 : decode cL_law 729 = .ok (.aload_n 0, 1) := by decide +kernel
theorem dL_law_730 : decode cL_law 730 = .ok (.iload_n 3, 1) := by decide +kernel
theorem dL_law_731 : decode cL_law 731 = .ok (.iconst 1, 1) := by decide +kernel
theorem dL_law_732 : decode cL_law 732 = .ok (.iadd, 1) := by decide +kernel
theorem dL_law_733 : decode cL_law 733 = .ok (.iaload, 1) := by decide +kernel
theorem dL_law_734 : decode cL_law 734 = .ok (.invokevirtual 98, 3) := by decide +kernel
theorem dL_law_737 : decode cL_law 737 = .ok (.aload_n 2, 1) := by decide +kernel
theorem dL_law_738 : decode cL_law 738 = .ok (.aload_n 0, 1) := by decide +kernel
theorem dL_law_739 : decode cL_law 739 = .ok (.iload_n 3, 1) := by decide +kernel
theorem dL_law_740 : decode cL_law 740 = .ok (.iconst 1, 1) := by decide +kernel
theorem dL_law_741 : decode cL_law 741 = .ok (.iadd, 1) := by decide +kernel
theorem dL_law_742 : decode cL_law 742 = .ok (.iaload, 1) := by decide +kernel
theorem dL_law_743 : decode cL_law 743 = .ok (.invokevirtual 101, 3) := by decide +kernel
theorem dL_law_746 : decode cL_law 746 = .ok (.if_icmp .eq 252, 3) := by decide +kernel
theorem dL_law_749 : decode cL_law 749 = .ok (.iconst 0, 1) := by decide +kernel
theorem dL_law_750 : decode cL_law 750 = .ok (.ireturn, 1) := by decide +kernel
theorem dL_law_751 : decode cL_law 751 = .ok (.aload_n 1, 1) := by decide +kernel
theorem dL_law_752 : decode cL_law 752 = .ok (.aload_n 0, 1) := by decide +kernel
theorem dL_law_753 : decode cL_law 753 = .ok (.iload_n 3, 1) := by decide +kernel
theorem dL_law_754 : decode cL_law 754 = .ok (.iconst 1, 1) := by decide +kernel
theorem dL_law_755 : decode cL_law 755 = .ok (.iadd, 1) := by decide +kernel
theorem dL_law_756 : decode cL_law 756 = .ok (.iaload, 1) := by decide +kernel
theorem dL_law_757 : decode cL_law 757 = .ok (.invokevirtual 102, 3) := by decide +kernel
theorem dL_law_760 : decode cL_law 760 = .ok (.aload_n 2, 1) := by decide +kernel
theorem dL_law_761 : decode cL_law 761 = .ok (.aload_n 0, 1) := by decide +kernel
theorem dL_law_762 : decode cL_law 762 = .ok (.iload_n 3, 1) := by decide +kernel
theorem dL_law_763 : decode cL_law 763 = .ok (.iconst 1, 1) := by decide +kernel
theorem dL_law_764 : decode cL_law 764 = .ok (.iadd, 1) := by decide +kernel
theorem dL_law_765 : decode cL_law 765 = .ok (.iaload, 1) := by decide +kernel
theorem dL_law_766 : decode cL_law 766 = .ok (.invokevirtual 105, 3) := by decide +kernel
theorem dL_law_769 : decode cL_law 769 = .ok (.if_icmp .eq 229, 3) := by decide +kernel
theorem dL_law_772 : decode cL_law 772 = .ok (.iconst 0, 1) := by decide +kernel
theorem dL_law_773 : decode cL_law 773 = .ok (.ireturn, 1) := by decide +kernel
theorem dL_law_774 : decode cL_law 774 = .ok (.aload_n 1, 1) := by decide +kernel
theorem dL_law_775 : decode cL_law 775 = .ok (.aload_n 0, 1) := by decide +kernel
theorem dL_law_776 : decode cL_law 776 = .ok (.iload_n 3, 1) := by decide +kernel
theorem dL_law_777 : decode cL_law 777 = .ok (.iconst 1, 1) := by decide +kernel
theorem dL_law_778 : decode cL_law 778 = .ok (.iadd, 1) := by decide +kernel
theorem dL_law_779 : decode cL_law 779 = .ok (.iaload, 1) := by decide +kernel
theorem dL_law_780 : decode cL_law 780 = .ok (.invokevirtual 106, 3) := by decide +kernel
theorem dL_law_783 : decode cL_law 783 = .ok (.aload_n 2, 1) := by decide +kernel
theorem dL_law_784 : decode cL_law 784 = .ok (.aload_n 0, 1) := by decide +kernel
theorem dL_law_785 : decode cL_law 785 = .ok (.iload_n 3, 1) := by decide +kernel
theorem dL_law_786 : decode cL_law 786 = .ok (.iconst 1, 1) := by decide +kernel
theorem dL_law_787 : decode cL_law 787 = .ok (.iadd, 1) := by decide +kernel
theorem dL_law_788 : decode cL_law 788 = .ok (.iaload, 1) := by decide +kernel
theorem dL_law_789 : decode cL_law 789 = .ok (.invokevirtual 109, 3) := by decide +kernel
theorem dL_law_792 : decode cL_law 792 = .ok (.if_icmp .eq 206, 3) := by decide +kernel
theorem dL_law_795 : decode cL_law 795 = .ok (.iconst 0, 1) := by decide +kernel
theorem dL_law_796 : decode cL_law 796 = .ok (.ireturn, 1) := by decide +kernel
theorem dL_law_797 : decode cL_law 797 = .ok (.aload_n 1, 1) := by decide +kernel
theorem dL_law_798 : decode cL_law 798 = .ok (.aload_n 0, 1) := by decide +kernel
theorem dL_law_799 : decode cL_law 799 = .ok (.iload_n 3, 1) := by decide +kernel
theorem dL_law_800 : decode cL_law 800 = .ok (.iconst 1, 1) := by decide +kernel
theorem dL_law_801 : decode cL_law 801 = .ok (.iadd, 1) := by decide +kernel
theorem dL_law_802 : decode cL_law 802 = .ok (.iaload, 1) := by decide +kernel
theorem dL_law_803 : decode cL_law 803 = .ok (.aload_n 0, 1) := by decide +kernel
theorem dL_law_804 : decode cL_law 804 = .ok (.iload_n 3, 1) := by decide +kernel
theorem dL_law_805 : decode cL_law 805 = .ok (.iconst 2, 1) := by decide +kernel
theorem dL_law_806 : decode cL_law 806 = .ok (.iadd, 1) := by decide +kernel
theorem dL_law_807 : decode cL_law 807 = .ok (.iaload, 1) := by decide +kernel
theorem dL_law_808 : decode cL_law 808 = .ok (.aload_n 0, 1) := by decide +kernel
theorem dL_law_809 : decode cL_law 809 = .ok (.iload_n 3, 1) := by decide +kernel
theorem dL_law_810 : decode cL_law 810 = .ok (.iconst 3, 1) := by decide +kernel
theorem dL_law_811 : decode cL_law 811 = .ok (.iadd, 1) := by decide +kernel
theorem dL_law_812 : decode cL_law 812 = .ok (.iaload, 1) := by decide +kernel
theorem dL_law_813 : decode cL_law 813 = .ok (.invokevirtual 110, 3) := by decide +kernel
theorem dL_law_816 : decode cL_law 816 = .ok (.aload_n 2, 1) := by decide +kernel
theorem dL_law_817 : decode cL_law 817 = .ok (.aload_n 0, 1) := by decide +kernel
theorem dL_law_818 : decode cL_law 818 = .ok (.iload_n 3, 1) := by decide +kernel
theorem dL_law_819 : decode cL_law 819 = .ok (.iconst 1, 1) := by decide +kernel
theorem dL_law_820 : decode cL_law 820 = .ok (.iadd, 1) := by decide +kernel
theorem dL_law_821 : decode cL_law 821 = .ok (.iaload, 1) := by decide +kernel
theorem dL_law_822 : decode cL_law 822 = .ok (.aload_n 0, 1) := by decide +kernel
theorem dL_law_823 : decode cL_law 823 = .ok (.iload_n 3, 1) := by decide +kernel
theorem dL_law_824 : decode cL_law 824 = .ok (.iconst 2, 1) := by decide +kernel
theorem dL_law_825 : decode cL_law 825 = .ok (.iadd, 1) := by decide +kernel
theorem dL_law_826 : decode cL_law 826 = .ok (.iaload, 1) := by decide +kernel
theorem dL_law_827 : decode cL_law 827 = .ok (.aload_n 0, 1) := by decide +kernel
theorem dL_law_828 : decode cL_law 828 = .ok (.iload_n 3, 1) := by decide +kernel
theorem dL_law_829 : decode cL_law 829 = .ok (.iconst 3, 1) := by decide +kernel
theorem dL_law_830 : decode cL_law 830 = .ok (.iadd, 1) := by decide +kernel
theorem dL_law_831 : decode cL_law 831 = .ok (.iaload, 1) := by decide +kernel
theorem dL_law_832 : decode cL_law 832 = .ok (.invokevirtual 113, 3) := by decide +kernel
theorem dL_law_835 : decode cL_law 835 = .ok (.if_icmp .eq 163, 3) := by decide +kernel
theorem dL_law_838 : decode cL_law 838 = .ok (.iconst 0, 1) := by decide +kernel
theorem dL_law_839 : decode cL_law 839 = .ok (.ireturn, 1) := by decide +kernel
theorem dL_law_840 : decode cL_law 840 = .ok (.aload_n 1, 1) := by decide +kernel
theorem dL_law_841 : decode cL_law 841 = .ok (.invokevirtual 114, 3) := by decide +kernel
theorem dL_law_844 : decode cL_law 844 = .ok (.aload_n 2, 1) := by decide +kernel
theorem dL_law_845 : decode cL_law 845 = .ok (.invokevirtual 117, 3) := by decide +kernel
theorem dL_law_848 : decode cL_law 848 = .ok (.if_icmp .eq 150, 3) := by decide +kernel
theorem dL_law_851 : decode cL_law 851 = .ok (.iconst 0, 1) := by decide +kernel
theorem dL_law_852 : decode cL_law 852 = .ok (.ireturn, 1) := by decide +kernel
theorem dL_law_853 : decode cL_law 853 = .ok (.aload_n 1, 1) := by decide +kernel
theorem dL_law_854 : decode cL_law 854 = .ok (.aload_n 0, 1) := by decide +kernel
theorem dL_law_855 : decode cL_law 855 = .ok (.iload_n 3, 1) := by decide +kernel
theorem dL_law_856 : decode cL_law 856 = .ok (.iconst 1, 1) := by decide +kernel
theorem dL_law_857 : decode cL_law 857 = .ok (.iadd, 1) := by decide +kernel
theorem dL_law_858 : decode cL_law 858 = .ok (.iaload, 1) := by decide +kernel
theorem dL_law_859 : decode cL_law 859 = .ok (.invokevirtual 118, 3) := by decide +kernel
theorem dL_law_862 : decode cL_law 862 = .ok (.aload_n 2, 1) := by decide +kernel
theorem dL_law_863 : decode cL_law 863 = .ok (.aload_n 0, 1) := by decide +kernel
theorem dL_law_864 : decode cL_law 864 = .ok (.iload_n 3, 1) := by decide +kernel
theorem dL_law_865 : decode cL_law 865 = .ok (.iconst 1, 1) := by decide +kernel
theorem dL_law_866 : decode cL_law 866 = .ok (.iadd, 1) := by decide +kernel
theorem dL_law_867 : decode cL_law 867 = .ok (.iaload, 1) := by decide +kernel
theorem dL_law_868 : decode cL_law 868 = .ok (.invokevirtual 121, 3) := by decide +kernel
theorem dL_law_871 : decode cL_law 871 = .ok (.if_icmp .eq 127, 3) := by decide +kernel
theorem dL_law_874 : decode cL_law 874 = .ok (.iconst 0, 1) := by decide +kernel
theorem dL_law_875 : decode cL_law 875 = .ok (.ireturn, 1) := by decide +kernel
theorem dL_law_876 : decode cL_law 876 = .ok (.aload_n 1, 1) := by decide +kernel
theorem dL_law_877 : decode cL_law 877 = .ok (.aload_n 0, 1) := by decide +kernel
theorem dL_law_878 : decode cL_law 878 = .ok (.iload_n 3, 1) := by decide +kernel
theorem dL_law_879 : decode cL_law 879 = .ok (.iconst 1, 1) := by decide +kernel
theorem dL_law_880 : decode cL_law 880 = .ok (.iadd, 1) := by decide +kernel
theorem dL_law_881 : decode cL_law 881 = .ok (.iaload, 1) := by decide +kernel
theorem dL_law_882 : decode cL_law 882 = .ok (.aload_n 0, 1) := by decide +kernel
theorem dL_law_883 : decode cL_law 883 = .ok (.iload_n 3, 1) := by decide +kernel
theorem dL_law_884 : decode cL_law 884 = .ok (.iconst 2, 1) := by decide +kernel
theorem dL_law_885 : decode cL_law 885 = .ok (.iadd, 1) := by decide +kernel
theorem dL_law_886 : decode cL_law 886 = .ok (.iaload, 1) := by decide +kernel
theorem dL_law_887 : decode cL_law 887 = .ok (.aload_n 0, 1) := by decide +kernel
theorem dL_law_888 : decode cL_law 888 = .ok (.iload_n 3, 1) := by decide +kernel
theorem dL_law_889 : decode cL_law 889 = .ok (.iconst 3, 1) := by decide +kernel
theorem dL_law_890 : decode cL_law 890 = .ok (.iadd, 1) := by decide +kernel
theorem dL_law_891 : decode cL_law 891 = .ok (.iaload, 1) := by decide +kernel
theorem dL_law_892 : decode cL_law 892 = .ok (.aload_n 0, 1) := by decide +kernel
theorem dL_law_893 : decode cL_law 893 = .ok (.iload_n 3, 1) := by decide +kernel
theorem dL_law_894 : decode cL_law 894 = .ok (.iconst 4, 1) := by decide +kernel
theorem dL_law_895 : decode cL_law 895 = .ok (.iadd, 1) := by decide +kernel
theorem dL_law_896 : decode cL_law 896 = .ok (.iaload, 1) := by decide +kernel
theorem dL_law_897 : decode cL_law 897 = .ok (.invokevirtual 122, 3) := by decide +kernel
theorem dL_law_900 : decode cL_law 900 = .ok (.aload_n 2, 1) := by decide +kernel
theorem dL_law_901 : decode cL_law 901 = .ok (.aload_n 0, 1) := by decide +kernel
theorem dL_law_902 : decode cL_law 902 = .ok (.iload_n 3, 1) := by decide +kernel
theorem dL_law_903 : decode cL_law 903 = .ok (.iconst 1, 1) := by decide +kernel
theorem dL_law_904 : decode cL_law 904 = .ok (.iadd, 1) := by decide +kernel
theorem dL_law_905 : decode cL_law 905 = .ok (.iaload, 1) := by decide +kernel
theorem dL_law_906 : decode cL_law 906 = .ok (.aload_n 0, 1) := by decide +kernel
theorem dL_law_907 : decode cL_law 907 = .ok (.iload_n 3, 1) := by decide +kernel
theorem dL_law_908 : decode cL_law 908 = .ok (.iconst 2, 1) := by decide +kernel
theorem dL_law_909 : decode cL_law 909 = .ok (.iadd, 1) := by decide +kernel
theorem dL_law_910 : decode cL_law 910 = .ok (.iaload, 1) := by decide +kernel
theorem dL_law_911 : decode cL_law 911 = .ok (.aload_n 0, 1) := by decide +kernel
theorem dL_law_912 : decode cL_law 912 = .ok (.iload_n 3, 1) := by decide +kernel
theorem dL_law_913 : decode cL_law 913 = .ok (.iconst 3, 1) := by decide +kernel
theorem dL_law_914 : decode cL_law 914 = .ok (.iadd, 1) := by decide +kernel
theorem dL_law_915 : decode cL_law 915 = .ok (.iaload, 1) := by decide +kernel
theorem dL_law_916 : decode cL_law 916 = .ok (.aload_n 0, 1) := by decide +kernel
theorem dL_law_917 : decode cL_law 917 = .ok (.iload_n 3, 1) := by decide +kernel
theorem dL_law_918 : decode cL_law 918 = .ok (.iconst 4, 1) := by decide +kernel
theorem dL_law_919 : decode cL_law 919 = .ok (.iadd, 1) := by decide +kernel
theorem dL_law_920 : decode cL_law 920 = .ok (.iaload, 1) := by decide +kernel
theorem dL_law_921 : decode cL_law 921 = .ok (.invokevirtual 126, 3) := by decide +kernel
theorem dL_law_924 : decode cL_law 924 = .ok (.if_icmp .eq 74, 3) := by decide +kernel
theorem dL_law_927 : decode cL_law 927 = .ok (.iconst 0, 1) := by decide +kernel
theorem dL_law_928 : decode cL_law 928 = .ok (.ireturn, 1) := by decide +kernel
theorem dL_law_929 : decode cL_law 929 = .ok (.aload_n 1, 1) := by decide +kernel
theorem dL_law_930 : decode cL_law 930 = .ok (.aload_n 0, 1) := by decide +kernel
theorem dL_law_931 : decode cL_law 931 = .ok (.iload_n 3, 1) := by decide +kernel
theorem dL_law_932 : decode cL_law 932 = .ok (.iconst 1, 1) := by decide +kernel
theorem dL_law_933 : decode cL_law 933 = .ok (.iadd, 1) := by decide +kernel
theorem dL_law_934 : decode cL_law 934 = .ok (.iaload, 1) := by decide +kernel
theorem dL_law_935 : decode cL_law 935 = .ok (.invokevirtual 127, 3) := by decide +kernel
theorem dL_law_938 : decode cL_law 938 = .ok (.aload_n 2, 1) := by decide +kernel
theorem dL_law_939 : decode cL_law 939 = .ok (.aload_n 0, 1) := by decide +kernel
theorem dL_law_940 : decode cL_law 940 = .ok (.iload_n 3, 1) := by decide +kernel
theorem dL_law_941 : decode cL_law 941 = .ok (.iconst 1, 1) := by decide +kernel
theorem dL_law_942 : decode cL_law 942 = .ok (.iadd, 1) := by decide +kernel
theorem dL_law_943 : decode cL_law 943 = .ok (.iaload, 1) := by decide +kernel
theorem dL_law_944 : decode cL_law 944 = .ok (.invokevirtual 130, 3) := by decide +kernel
theorem dL_law_947 : decode cL_law 947 = .ok (.if_icmp .eq 51, 3) := by decide +kernel
theorem dL_law_950 : decode cL_law 950 = .ok (.iconst 0, 1) := by decide +kernel
theorem dL_law_951 : decode cL_law 951 = .ok (.ireturn, 1) := by decide +kernel
theorem dL_law_952 : decode cL_law 952 = .ok (.aload_n 1, 1) := by decide +kernel
theorem dL_law_953 : decode cL_law 953 = .ok (.aload_n 0, 1) := by decide +kernel
theorem dL_law_954 : decode cL_law 954 = .ok (.iload_n 3, 1) := by decide +kernel
theorem dL_law_955 : decode cL_law 955 = .ok (.iconst 1, 1) := by decide +kernel
theorem dL_law_956 : decode cL_law 956 = .ok (.iadd, 1) := by decide +kernel
theorem dL_law_957 : decode cL_law 957 = .ok (.iaload, 1) := by decide +kernel
theorem dL_law_958 : decode cL_law 958 = .ok (.invokevirtual 131, 3) := by decide +kernel
theorem dL_law_961 : decode cL_law 961 = .ok (.aload_n 2, 1) := by decide +kernel
theorem dL_law_962 : decode cL_law 962 = .ok (.aload_n 0, 1) := by decide +kernel
theorem dL_law_963 : decode cL_law 963 = .ok (.iload_n 3, 1) := by decide +kernel
theorem dL_law_964 : decode cL_law 964 = .ok (.iconst 1, 1) := by decide +kernel
theorem dL_law_965 : decode cL_law 965 = .ok (.iadd, 1) := by decide +kernel
theorem dL_law_966 : decode cL_law 966 = .ok (.iaload, 1) := by decide +kernel
theorem dL_law_967 : decode cL_law 967 = .ok (.invokevirtual 134, 3) := by decide +kernel
theorem dL_law_970 : decode cL_law 970 = .ok (.if_icmp .eq 28, 3) := by decide +kernel
theorem dL_law_973 : decode cL_law 973 = .ok (.iconst 0, 1) := by decide +kernel
theorem dL_law_974 : decode cL_law 974 = .ok (.ireturn, 1) := by decide +kernel
theorem dL_law_975 : decode cL_law 975 = .ok (.aload_n 1, 1) := by decide +kernel
theorem dL_law_976 : decode cL_law 976 = .ok (.aload_n 0, 1) := by decide +kernel
theorem dL_law_977 : decode cL_law 977 = .ok (.iload_n 3, 1) := by decide +kernel
theorem dL_law_978 : decode cL_law 978 = .ok (.iconst 1, 1) := by decide +kernel
theorem dL_law_979 : decode cL_law 979 = .ok (.iadd, 1) := by decide +kernel
theorem dL_law_980 : decode cL_law 980 = .ok (.iaload, 1) := by decide +kernel
theorem dL_law_981 : decode cL_law 981 = .ok (.invokevirtual 135, 3) := by decide +kernel
theorem dL_law_984 : decode cL_law 984 = .ok (.aload_n 2, 1) := by decide +kernel
theorem dL_law_985 : decode cL_law 985 = .ok (.aload_n 0, 1) := by decide +kernel
theorem dL_law_986 : decode cL_law 986 = .ok (.iload_n 3, 1) := by decide +kernel
theorem dL_law_987 : decode cL_law 987 = .ok (.iconst 1, 1) := by decide +kernel
theorem dL_law_988 : decode cL_law 988 = .ok (.iadd, 1) := by decide +kernel
theorem dL_law_989 : decode cL_law 989 = .ok (.iaload, 1) := by decide +kernel
theorem dL_law_990 : decode cL_law 990 = .ok (.invokevirtual 138, 3) := by decide +kernel
theorem dL_law_993 : decode cL_law 993 = .ok (.if_icmp .eq 5, 3) := by decide +kernel
theorem dL_law_996 : decode cL_law 996 = .ok (.iconst 0, 1) := by decide +kernel
theorem dL_law_997 : decode cL_law 997 = .ok (.ireturn, 1) := by decide +kernel
theorem dL_law_998 : decode cL_law 998 = .ok (.iinc 3 6, 3) := by decide +kernel
theorem dL_law_1001 : decode cL_law 1001 = .ok (.goto (-983), 3) := by decide +kernel
theorem dL_law_1004 : decode cL_law 1004 = .ok (.iconst 1, 1) := by decide +kernel
theorem dL_law_1005 : decode cL_law 1005 = .ok (.ireturn, 1) := by decide +kernel
