theorem dX0_init_0 : decode cX0_init 0 = .ok (.aload_n 0, 1) := by decide +kernel
theorem dX0_init_1 : decode cX0_init 1 = .ok (.invokespecial 3, 3) := by decide +kernel
theorem dX0_init_4 : decode cX0_init 4 = .ok (.aload_n 0, 1) := by decide +kernel
theorem dX0_init_5 : decode cX0_init 5 = .ok (.iconst 4, 1) := by decide +kernel
theorem dX0_init_6 : decode cX0_init 6 = .ok (.newarray .long, 2) := by decide +kernel
theorem dX0_init_8 : decode cX0_init 8 = .ok (.putfield 9, 3) := by decide +kernel
theorem dX0_init_11 : decode cX0_init 11 = .ok (.aload_n 0, 1) := by decide +kernel
theorem dX0_init_12 : decode cX0_init 12 = .ok (.bipush 12, 2) := by decide +kernel
theorem dX0_init_14 : decode cX0_init 14 = .ok (.newarray .int, 2) := by decide +kernel
theorem dX0_init_16 : decode cX0_init 16 = .ok (.putfield 15, 3) := by decide +kernel
theorem dX0_init_19 : decode cX0_init 19 = .ok (.aload_n 0, 1) := by decide +kernel
theorem dX0_init_20 : decode cX0_init 20 = .ok (.bipush 12, 2) := by decide +kernel
theorem dX0_init_22 : decode cX0_init 22 = .ok (.newarray .int, 2) := by decide +kernel
theorem dX0_init_24 : decode cX0_init 24 = .ok (.putfield 19, 3) := by decide +kernel
theorem dX0_init_27 : decode cX0_init 27 = .ok (.aload_n 0, 1) := by decide +kernel
theorem dX0_init_28 : decode cX0_init 28 = .ok (.bipush 12, 2) := by decide +kernel
theorem dX0_init_30 : decode cX0_init 30 = .ok (.newarray .int, 2) := by decide +kernel
theorem dX0_init_32 : decode cX0_init 32 = .ok (.putfield 22, 3) := by decide +kernel
theorem dX0_init_35 : decode cX0_init 35 = .ok (.aload_n 0, 1) := by decide +kernel
theorem dX0_init_36 : decode cX0_init 36 = .ok (.bipush 12, 2) := by decide +kernel
theorem dX0_init_38 : decode cX0_init 38 = .ok (.newarray .long, 2) := by decide +kernel
theorem dX0_init_40 : decode cX0_init 40 = .ok (.putfield 25, 3) := by decide +kernel
theorem dX0_init_43 : decode cX0_init 43 = .ok (.aload_n 0, 1) := by decide +kernel
theorem dX0_init_44 : decode cX0_init 44 = .ok (.bipush 6, 2) := by decide +kernel
theorem dX0_init_46 : decode cX0_init 46 = .ok (.newarray .int, 2) := by decide +kernel
theorem dX0_init_48 : decode cX0_init 48 = .ok (.putfield 28, 3) := by decide +kernel
theorem dX0_init_51 : decode cX0_init 51 = .ok (.aload_n 0, 1) := by decide +kernel
theorem dX0_init_52 : decode cX0_init 52 = .ok (.bipush 6, 2) := by decide +kernel
theorem dX0_init_54 : decode cX0_init 54 = .ok (.newarray .int, 2) := by decide +kernel
theorem dX0_init_56 : decode cX0_init 56 = .ok (.putfield 31, 3) := by decide +kernel
theorem dX0_init_59 : decode cX0_init 59 = .ok (.return_, 1) := by decide +kernel
theorem dX0_copyFrom_0 : decode cX0_copyFrom 0 = .ok (.aload_n 0, 1) := by decide +kernel
theorem dX0_copyFrom_1 : decode cX0_copyFrom 1 = .ok (.aload_n 1, 1) := by decide +kernel
theorem dX0_copyFrom_2 : decode cX0_copyFrom 2 = .ok (.getfield 34, 3) := by decide +kernel
theorem dX0_copyFrom_5 : decode cX0_copyFrom 5 = .ok (.putfield 34, 3) := by decide +kernel
theorem dX0_copyFrom_8 : decode cX0_copyFrom 8 = .ok (.aload_n 0, 1) := by decide +kernel
theorem dX0_copyFrom_9 : decode cX0_copyFrom 9 = .ok (.aload_n 1, 1) := by decide +kernel
theorem dX0_copyFrom_10 : decode cX0_copyFrom 10 = .ok (.getfield 38, 3) := by decide +kernel
theorem dX0_copyFrom_13 : decode cX0_copyFrom 13 = .ok (.putfield 38, 3) := by decide +kernel
theorem dX0_copyFrom_16 : decode cX0_copyFrom 16 = .ok (.aload_n 0, 1) := by decide +kernel
theorem dX0_copyFrom_17 : decode cX0_copyFrom 17 = .ok (.aload_n 1, 1) := by decide +kernel
theorem dX0_copyFrom_18 : decode cX0_copyFrom 18 = .ok (.getfield 41, 3) := by decide +kernel
theorem dX0_copyFrom_21 : decode cX0_copyFrom 21 = .ok (.putfield 41, 3) := by decide +kernel
theorem dX0_copyFrom_24 : decode cX0_copyFrom 24 = .ok (.aload_n 0, 1) := by decide +kernel
theorem dX0_copyFrom_25 : decode cX0_copyFrom 25 = .ok (.aload_n 1, 1) := by decide +kernel
theorem dX0_copyFrom_26 : decode cX0_copyFrom 26 = .ok (.getfield 44, 3) := by decide +kernel
theorem dX0_copyFrom_29 : decode cX0_copyFrom 29 = .ok (.putfield 44, 3) := by decide +kernel
theorem dX0_copyFrom_32 : decode cX0_copyFrom 32 = .ok (.aload_n 1, 1) := by decide +kernel
theorem dX0_copyFrom_33 : decode cX0_copyFrom 33 = .ok (.getfield 9, 3) := by decide +kernel
theorem dX0_copyFrom_36 : decode cX0_copyFrom 36 = .ok (.iconst 0, 1) := by decide +kernel
theorem dX0_copyFrom_37 : decode cX0_copyFrom 37 = .ok (.aload_n 0, 1) := by decide +kernel
theorem dX0_copyFrom_38 : decode cX0_copyFrom 38 = .ok (.getfield 9, 3) := by decide +kernel
theorem dX0_copyFrom_41 : decode cX0_copyFrom 41 = .ok (.iconst 0, 1) := by decide +kernel
theorem dX0_copyFrom_42 : decode cX0_copyFrom 42 = .ok (.iconst 4, 1) := by decide +kernel
theorem dX0_copyFrom_43 : decode cX0_copyFrom 43 = .ok (.invokestatic 47, 3) := by decide +kernel
theorem dX0_copyFrom_46 : decode cX0_copyFrom 46 = .ok (.aload_n 1, 1) := by decide +kernel
theorem dX0_copyFrom_47 : decode cX0_copyFrom 47 = .ok (.getfield 15, 3) := by decide +kernel
theorem dX0_copyFrom_50 : decode cX0_copyFrom 50 = .ok (.iconst 0, 1) := by decide +kernel
theorem dX0_copyFrom_51 : decode cX0_copyFrom 51 = .ok (.aload_n 0, 1) := by decide +kernel
theorem dX0_copyFrom_52 : decode cX0_copyFrom 52 = .ok (.getfield 15, 3) := by decide +kernel
theorem dX0_copyFrom_55 : decode cX0_copyFrom 55 = .ok (.iconst 0, 1) := by decide +kernel
theorem dX0_copyFrom_56 : decode cX0_copyFrom 56 = .ok (.aload_n 0, 1) := by decide +kernel
theorem dX0_copyFrom_57 : decode cX0_copyFrom 57 = .ok (.getfield 44, 3) := by decide +kernel
theorem dX0_copyFrom_60 : decode cX0_copyFrom 60 = .ok (.invokestatic 47, 3) := by decide +kernel
theorem dX0_copyFrom_63 : decode cX0_copyFrom 63 = .ok (.aload_n 1, 1) := by decide +kernel
theorem dX0_copyFrom_64 : decode cX0_copyFrom 64 = .ok (.getfield 19, 3) := by decide +kernel
theorem dX0_copyFrom_67 : decode cX0_copyFrom 67 = .ok (.iconst 0, 1) := by decide +kernel
theorem dX0_copyFrom_68 : decode cX0_copyFrom 68 = .ok (.aload_n 0, 1) := by decide +kernel
theorem dX0_copyFrom_69 : decode cX0_copyFrom 69 = .ok (.getfield 19, 3) := by decide +kernel
theorem dX0_copyFrom_72 : decode cX0_copyFrom 72 = .ok (.iconst 0, 1) := by decide +kernel
theorem dX0_copyFrom_73 : decode cX0_copyFrom 73 = .ok (.aload_n 0, 1) := by decide +kernel
theorem dX0_copyFrom_74 : decode cX0_copyFrom 74 = .ok (.getfield 44, 3) := by decide +kernel
theorem dX0_copyFrom_77 : decode cX0_copyFrom 77 = .ok (.invokestatic 47, 3) := by decide +kernel
theorem dX0_copyFrom_80 : decode cX0_copyFrom 80 = .ok (.aload_n 1, 1) := by decide +kernel
theorem dX0_copyFrom_81 : decode cX0_copyFrom 81 = .ok (.getfield 22, 3) := by decide +kernel
theorem dX0_copyFrom_84 : decode cX0_copyFrom 84 = .ok (.iconst 0, 1) := by decide +kernel
theorem dX0_copyFrom_85 : decode cX0_copyFrom 85 = .ok (.aload_n 0, 1) := by decide +kernel
theorem dX0_copyFrom_86 : decode cX0_copyFrom 86 = .ok (.getfield 22, 3) := by decide +kernel
theorem dX0_copyFrom_89 : decode cX0_copyFrom 89 = .ok (.iconst 0, 1) := by decide +kernel
theorem dX0_copyFrom_90 : decode cX0_copyFrom 90 = .ok (.aload_n 0, 1) := by decide +kernel
theorem dX0_copyFrom_91 : decode cX0_copyFrom 91 = .ok (.getfield 44, 3) := by decide +kernel
theorem dX0_copyFrom_94 : decode cX0_copyFrom 94 = .ok (.invokestatic 47, 3) := by decide +kernel
theorem dX0_copyFrom_97 : decode cX0_copyFrom 97 = .ok (.aload_n 1, 1) := by decide +kernel
theorem dX0_copyFrom_98 : decode cX0_copyFrom 98 = .ok (.getfield 25, 3) := by decide +kernel
theorem dX0_copyFrom_101 : decode cX0_copyFrom 101 = .ok (.iconst 0, 1) := by decide +kernel
theorem dX0_copyFrom_102 : decode cX0_copyFrom 102 = .ok (.aload_n 0, 1) := by decide +kernel
theorem dX0_copyFrom_103 : decode cX0_copyFrom 103 = .ok (.getfield 25, 3) := by decide +kernel
theorem dX0_copyFrom_106 : decode cX0_copyFrom 106 = .ok (.iconst 0, 1) := by decide +kernel
theorem dX0_copyFrom_107 : decode cX0_copyFrom 107 = .ok (.aload_n 0, 1) := by decide +kernel
theorem dX0_copyFrom_108 : decode cX0_copyFrom 108 = .ok (.getfield 44, 3) := by decide +kernel
theorem dX0_copyFrom_111 : decode cX0_copyFrom 111 = .ok (.invokestatic 47, 3) := by decide +kernel
theorem dX0_copyFrom_114 : decode cX0_copyFrom 114 = .ok (.aload_n 1, 1) := by decide +kernel
theorem dX0_copyFrom_115 : decode cX0_copyFrom 115 = .ok (.getfield 28, 3) := by decide +kernel
theorem dX0_copyFrom_118 : decode cX0_copyFrom 118 = .ok (.iconst 0, 1) := by decide +kernel
theorem dX0_copyFrom_119 : decode cX0_copyFrom 119 = .ok (.aload_n 0, 1) := by decide +kernel
theorem dX0_copyFrom_120 : decode cX0_copyFrom 120 = .ok (.getfield 28, 3) := by decide +kernel
theorem dX0_copyFrom_123 : decode cX0_copyFrom 123 = .ok (.iconst 0, 1) := by decide +kernel
theorem dX0_copyFrom_124 : decode cX0_copyFrom 124 = .ok (.bipush 6, 2) := by decide +kernel
theorem dX0_copyFrom_126 : decode cX0_copyFrom 126 = .ok (.invokestatic 47, 3) := by decide +kernel
theorem dX0_copyFrom_129 : decode cX0_copyFrom 129 = .ok (.aload_n 1, 1) := by decide +kernel
theorem dX0_copyFrom_130 : decode cX0_copyFrom 130 = .ok (.getfield 31, 3) := by decide +kernel
theorem dX0_copyFrom_133 : decode cX0_copyFrom 133 = .ok (.iconst 0, 1) := by decide +kernel
theorem dX0_copyFrom_134 : decode cX0_copyFrom 134 = .ok (.aload_n 0, 1) := by decide +kernel
theorem dX0_copyFrom_135 : decode cX0_copyFrom 135 = .ok (.getfield 31, 3) := by decide +kernel
theorem dX0_copyFrom_138 : decode cX0_copyFrom 138 = .ok (.iconst 0, 1) := by decide +kernel
theorem dX0_copyFrom_139 : decode cX0_copyFrom 139 = .ok (.bipush 6, 2) := by decide +kernel
theorem dX0_copyFrom_141 : decode cX0_copyFrom 141 = .ok (.invokestatic 47, 3) := by decide +kernel
theorem dX0_copyFrom_144 : decode cX0_copyFrom 144 = .ok (.return_, 1) := by decide +kernel
theorem dX0_empty_0 : decode cX0_empty 0 = .ok (.aload_n 0, 1) := by decide +kernel
theorem dX0_empty_1 : decode cX0_empty 1 = .ok (.iconst 0, 1) := by decide +kernel
theorem dX0_empty_2 : decode cX0_empty 2 = .ok (.putfield 44, 3) := by decide +kernel
theorem dX0_empty_5 : decode cX0_empty 5 = .ok (.aload_n 0, 1) := by decide +kernel
theorem dX0_empty_6 : decode cX0_empty 6 = .ok (.getfield 9, 3) := by decide +kernel
theorem dX0_empty_9 : decode cX0_empty 9 = .ok (.lconst 0, 1) := by decide +kernel
theorem dX0_empty_10 : decode cX0_empty 10 = .ok (.invokestatic 53, 3) := by decide +kernel
theorem dX0_empty_13 : decode cX0_empty 13 = .ok (.aload_n 0, 1) := by decide +kernel
theorem dX0_empty_14 : decode cX0_empty 14 = .ok (.getfield 28, 3) := by decide +kernel
theorem dX0_empty_17 : decode cX0_empty 17 = .ok (.iconst 0, 1) := by decide +kernel
theorem dX0_empty_18 : decode cX0_empty 18 = .ok (.invokestatic 59, 3) := by decide +kernel
theorem dX0_empty_21 : decode cX0_empty 21 = .ok (.aload_n 0, 1) := by decide +kernel
theorem dX0_empty_22 : decode cX0_empty 22 = .ok (.getfield 31, 3) := by decide +kernel
theorem dX0_empty_25 : decode cX0_empty 25 = .ok (.iconst 0, 1) := by decide +kernel
theorem dX0_empty_26 : decode cX0_empty 26 = .ok (.invokestatic 59, 3) := by decide +kernel
theorem dX0_empty_29 : decode cX0_empty 29 = .ok (.return_, 1) := by decide +kernel
theorem dX0_canLeaveFor_0 : decode cX0_canLeaveFor 0 = .ok (.aload_n 0, 1) := by decide +kernel
theorem dX0_canLeaveFor_1 : decode cX0_canLeaveFor 1 = .ok (.getfield 34, 3) := by decide +kernel
theorem dX0_canLeaveFor_4 : decode cX0_canLeaveFor 4 = .ok (.iconst 1, 1) := by decide +kernel
theorem dX0_canLeaveFor_5 : decode cX0_canLeaveFor 5 = .ok (.if_icmp .eq 19, 3) := by decide +kernel
theorem dX0_canLeaveFor_8 : decode cX0_canLeaveFor 8 = .ok (.aload_n 0, 1) := by decide +kernel
theorem dX0_canLeaveFor_9 : decode cX0_canLeaveFor 9 = .ok (.getfield 34, 3) := by decide +kernel
theorem dX0_canLeaveFor_12 : decode cX0_canLeaveFor 12 = .ok (.iconst 2, 1) := by decide +kernel
theorem dX0_canLeaveFor_13 : decode cX0_canLeaveFor 13 = .ok (.if_icmp .ne 15, 3) := by decide +kernel
theorem dX0_canLeaveFor_16 : decode cX0_canLeaveFor 16 = .ok (.aload_n 0, 1) := by decide +kernel
theorem dX0_canLeaveFor_17 : decode cX0_canLeaveFor 17 = .ok (.getfield 41, 3) := by decide +kernel
theorem dX0_canLeaveFor_20 : decode cX0_canLeaveFor 20 = .ok (.iload_n 1, 1) := by decide +kernel
theorem dX0_canLeaveFor_21 : decode cX0_canLeaveFor 21 = .ok (.if_icmp .ne 7, 3) := by decide +kernel
theorem dX0_canLeaveFor_24 : decode cX0_canLeaveFor 24 = .ok (.iconst 1, 1) := by decide +kernel
theorem dX0_canLeaveFor_25 : decode cX0_canLeaveFor 25 = .ok (.goto 4, 3) := by decide +kernel
theorem dX0_canLeaveFor_28 : decode cX0_canLeaveFor 28 = .ok (.iconst 0, 1) := by decide +kernel
theorem dX0_canLeaveFor_29 : decode cX0_canLeaveFor 29 = .ok (.ireturn, 1) := by decide +kernel
theorem dX0_firstOf_0 : decode cX0_firstOf 0 = .ok (.iload_n 1, 1) := by decide +kernel
theorem dX0_firstOf_1 : decode cX0_firstOf 1 = .ok (.ifCond .lt 18, 3) := by decide +kernel
theorem dX0_firstOf_4 : decode cX0_firstOf 4 = .ok (.iload_n 1, 1) := by decide +kernel
theorem dX0_firstOf_5 : decode cX0_firstOf 5 = .ok (.bipush 6, 2) := by decide +kernel
theorem dX0_firstOf_7 : decode cX0_firstOf 7 = .ok (.if_icmp .ge 12, 3) := by decide +kernel
theorem dX0_firstOf_10 : decode cX0_firstOf 10 = .ok (.aload_n 0, 1) := by decide +kernel
theorem dX0_firstOf_11 : decode cX0_firstOf 11 = .ok (.getfield 31, 3) := by decide +kernel
theorem dX0_firstOf_14 : decode cX0_firstOf 14 = .ok (.iload_n 1, 1) := by decide +kernel
theorem dX0_firstOf_15 : decode cX0_firstOf 15 = .ok (.iaload, 1) := by decide +kernel
theorem dX0_firstOf_16 : decode cX0_firstOf 16 = .ok (.goto 4, 3) := by decide +kernel
theorem dX0_firstOf_19 : decode cX0_firstOf 19 = .ok (.iconst 0, 1) := by decide +kernel
theorem dX0_firstOf_20 : decode cX0_firstOf 20 = .ok (.ireturn, 1) := by decide +kernel
theorem dX0_know_0 : decode cX0_know 0 = .ok (.aload_n 1, 1) := by decide +kernel
theorem dX0_know_1 : decode cX0_know 1 = .ok (.getfield 62, 3) := by decide +kernel
theorem dX0_know_4 : decode cX0_know 4 = .ok (.istore_n 2, 1) := by decide +kernel
theorem dX0_know_5 : decode cX0_know 5 = .ok (.iload_n 2, 1) := by decide +kernel
theorem dX0_know_6 : decode cX0_know 6 = .ok (.ifCond .lt 9, 3) := by decide +kernel
theorem dX0_know_9 : decode cX0_know 9 = .ok (.iload_n 2, 1) := by decide +kernel
theorem dX0_know_10 : decode cX0_know 10 = .ok (.bipush 6, 2) := by decide +kernel
theorem dX0_know_12 : decode cX0_know 12 = .ok (.if_icmp .lt 5, 3) := by decide +kernel
theorem dX0_know_15 : decode cX0_know 15 = .ok (.iconst 0, 1) := by decide +kernel
theorem dX0_know_16 : decode cX0_know 16 = .ok (.ireturn, 1) := by decide +kernel
theorem dX0_know_17 : decode cX0_know 17 = .ok (.aload_n 1, 1) := by decide +kernel
theorem dX0_know_18 : decode cX0_know 18 = .ok (.getfield 67, 3) := by decide +kernel
theorem dX0_know_21 : decode cX0_know 21 = .ok (.aload_n 0, 1) := by decide +kernel
theorem dX0_know_22 : decode cX0_know 22 = .ok (.getfield 28, 3) := by decide +kernel
theorem dX0_know_25 : decode cX0_know 25 = .ok (.iload_n 2, 1) := by decide +kernel
theorem dX0_know_26 : decode cX0_know 26 = .ok (.iaload, 1) := by decide +kernel
theorem dX0_know_27 : decode cX0_know 27 = .ok (.if_icmp .le 32, 3) := by decide +kernel
theorem dX0_know_30 : decode cX0_know 30 = .ok (.aload_n 0, 1) := by decide +kernel
theorem dX0_know_31 : decode cX0_know 31 = .ok (.iload_n 2, 1) := by decide +kernel
theorem dX0_know_32 : decode cX0_know 32 = .ok (.ldc 72, 2) := by decide +kernel
theorem dX0_know_34 : decode cX0_know 34 = .ok (.invokevirtual 73, 3) := by decide +kernel
theorem dX0_know_37 : decode cX0_know 37 = .ok (.aload_n 0, 1) := by decide +kernel
theorem dX0_know_38 : decode cX0_know 38 = .ok (.getfield 28, 3) := by decide +kernel
theorem dX0_know_41 : decode cX0_know 41 = .ok (.iload_n 2, 1) := by decide +kernel
theorem dX0_know_42 : decode cX0_know 42 = .ok (.aload_n 1, 1) := by decide +kernel
theorem dX0_know_43 : decode cX0_know 43 = .ok (.getfield 67, 3) := by decide +kernel
theorem dX0_know_46 : decode cX0_know 46 = .ok (.iastore, 1) := by decide +kernel
theorem dX0_know_47 : decode cX0_know 47 = .ok (.aload_n 0, 1) := by decide +kernel
theorem dX0_know_48 : decode cX0_know 48 = .ok (.getfield 31, 3) := by decide +kernel
theorem dX0_know_51 : decode cX0_know 51 = .ok (.iload_n 2, 1) := by decide +kernel
theorem dX0_know_52 : decode cX0_know 52 = .ok (.aload_n 1, 1) := by decide +kernel
theorem dX0_know_53 : decode cX0_know 53 = .ok (.getfield 77, 3) := by decide +kernel
theorem dX0_know_56 : decode cX0_know 56 = .ok (.iastore, 1) := by decide +kernel
theorem dX0_know_57 : decode cX0_know 57 = .ok (.iconst 1, 1) := by decide +kernel
theorem dX0_know_58 : decode cX0_know 58 = .ok (.ireturn, 1) := by decide +kernel
theorem dX0_know_59 : decode cX0_know 59 = .ok (.aload_n 1, 1) := by decide +kernel
theorem dX0_know_60 : decode cX0_know 60 = .ok (.getfield 67, 3) := by decide +kernel
theorem dX0_know_63 : decode cX0_know 63 = .ok (.aload_n 0, 1) := by decide +kernel
theorem dX0_know_64 : decode cX0_know 64 = .ok (.getfield 28, 3) := by decide +kernel
theorem dX0_know_67 : decode cX0_know 67 = .ok (.iload_n 2, 1) := by decide +kernel
theorem dX0_know_68 : decode cX0_know 68 = .ok (.iaload, 1) := by decide +kernel
theorem dX0_know_69 : decode cX0_know 69 = .ok (.if_icmp .ne 37, 3) := by decide +kernel
theorem dX0_know_72 : decode cX0_know 72 = .ok (.aload_n 1, 1) := by decide +kernel
theorem dX0_know_73 : decode cX0_know 73 = .ok (.getfield 77, 3) := by decide +kernel
theorem dX0_know_76 : decode cX0_know 76 = .ok (.aload_n 0, 1) := by decide +kernel
theorem dX0_know_77 : decode cX0_know 77 = .ok (.getfield 31, 3) := by decide +kernel
theorem dX0_know_80 : decode cX0_know 80 = .ok (.iload_n 2, 1) := by decide +kernel
theorem dX0_know_81 : decode cX0_know 81 = .ok (.iaload, 1) := by decide +kernel
theorem dX0_know_82 : decode cX0_know 82 = .ok (.if_icmp .le 24, 3) := by decide +kernel
theorem dX0_know_85 : decode cX0_know 85 = .ok (.aload_n 0, 1) := by decide +kernel
theorem dX0_know_86 : decode cX0_know 86 = .ok (.iload_n 2, 1) := by decide +kernel
theorem dX0_know_87 : decode cX0_know 87 = .ok (.aload_n 1, 1) := by decide +kernel
theorem dX0_know_88 : decode cX0_know 88 = .ok (.getfield 77, 3) := by decide +kernel
theorem dX0_know_91 : decode cX0_know 91 = .ok (.invokevirtual 73, 3) := by decide +kernel
theorem dX0_know_94 : decode cX0_know 94 = .ok (.aload_n 0, 1) := by decide +kernel
theorem dX0_know_95 : decode cX0_know 95 = .ok (.getfield 31, 3) := by decide +kernel
theorem dX0_know_98 : decode cX0_know 98 = .ok (.iload_n 2, 1) := by decide +kernel
theorem dX0_know_99 : decode cX0_know 99 = .ok (.aload_n 1, 1) := by decide +kernel
theorem dX0_know_100 : decode cX0_know 100 = .ok (.getfield 77, 3) := by decide +kernel
theorem dX0_know_103 : decode cX0_know 103 = .ok (.iastore, 1) := by decide +kernel
theorem dX0_know_104 : decode cX0_know 104 = .ok (.iconst 1, 1) := by decide +kernel
theorem dX0_know_105 : decode cX0_know 105 = .ok (.ireturn, 1) := by decide +kernel
theorem dX0_know_106 : decode cX0_know 106 = .ok (.iconst 0, 1) := by decide +kernel
theorem dX0_know_107 : decode cX0_know 107 = .ok (.ireturn, 1) := by decide +kernel
theorem dX0_removeRecordsBelow_0 : decode cX0_removeRecordsBelow 0 = .ok (.aload_n 0, 1) := by decide +kernel
theorem dX0_removeRecordsBelow_1 : decode cX0_removeRecordsBelow 1 = .ok (.getfield 44, 3) := by decide +kernel
theorem dX0_removeRecordsBelow_4 : decode cX0_removeRecordsBelow 4 = .ok (.iconst 1, 1) := by decide +kernel
theorem dX0_removeRecordsBelow_5 : decode cX0_removeRecordsBelow 5 = .ok (.isub, 1) := by decide +kernel
theorem dX0_removeRecordsBelow_6 : decode cX0_removeRecordsBelow 6 = .ok (.istore_n 3, 1) := by decide +kernel
theorem dX0_removeRecordsBelow_7 : decode cX0_removeRecordsBelow 7 = .ok (.iload_n 3, 1) := by decide +kernel
theorem dX0_removeRecordsBelow_8 : decode cX0_removeRecordsBelow 8 = .ok (.ifCond .lt 34, 3) := by decide +kernel
theorem dX0_removeRecordsBelow_11 : decode cX0_removeRecordsBelow 11 = .ok (.aload_n 0, 1) := by decide +kernel
theorem dX0_removeRecordsBelow_12 : decode cX0_removeRecordsBelow 12 = .ok (.getfield 15, 3) := by decide +kernel
theorem dX0_removeRecordsBelow_15 : decode cX0_removeRecordsBelow 15 = .ok (.iload_n 3, 1) := by decide +kernel
theorem dX0_removeRecordsBelow_16 : decode cX0_removeRecordsBelow 16 = .ok (.iaload, 1) := by decide +kernel
theorem dX0_removeRecordsBelow_17 : decode cX0_removeRecordsBelow 17 = .ok (.iload_n 1, 1) := by decide +kernel
theorem dX0_removeRecordsBelow_18 : decode cX0_removeRecordsBelow 18 = .ok (.if_icmp .ne 18, 3) := by decide +kernel
theorem dX0_removeRecordsBelow_21 : decode cX0_removeRecordsBelow 21 = .ok (.aload_n 0, 1) := by decide +kernel
theorem dX0_removeRecordsBelow_22 : decode cX0_removeRecordsBelow 22 = .ok (.getfield 22, 3) := by decide +kernel
theorem dX0_removeRecordsBelow_25 : decode cX0_removeRecordsBelow 25 = .ok (.iload_n 3, 1) := by decide +kernel
theorem dX0_removeRecordsBelow_26 : decode cX0_removeRecordsBelow 26 = .ok (.iaload, 1) := by decide +kernel
theorem dX0_removeRecordsBelow_27 : decode cX0_removeRecordsBelow 27 = .ok (.iload_n 2, 1) := by decide +kernel
theorem dX0_removeRecordsBelow_28 : decode cX0_removeRecordsBelow 28 = .ok (.if_icmp .ge 8, 3) := by decide +kernel
theorem dX0_removeRecordsBelow_31 : decode cX0_removeRecordsBelow 31 = .ok (.aload_n 0, 1) := by decide +kernel
theorem dX0_removeRecordsBelow_32 : decode cX0_removeRecordsBelow 32 = .ok (.iload_n 3, 1) := by decide +kernel
theorem dX0_removeRecordsBelow_33 : decode cX0_removeRecordsBelow 33 = .ok (.invokevirtual 80, 3) := by decide +kernel
theorem dX0_removeRecordsBelow_36 : decode cX0_removeRecordsBelow 36 = .ok (.iinc 3 (-1), 3) := by decide +kernel
theorem dX0_removeRecordsBelow_39 : decode cX0_removeRecordsBelow 39 = .ok (.goto (-32), 3) := by decide +kernel
theorem dX0_removeRecordsBelow_42 : decode cX0_removeRecordsBelow 42 = .ok (.return_, 1) := by decide +kernel
theorem dX0_removeRecord_0 : decode cX0_removeRecord 0 = .ok (.iload_n 1, 1) := by decide +kernel
theorem dX0_removeRecord_1 : decode cX0_removeRecord 1 = .ok (.ifCond .lt 11, 3) := by decide +kernel
theorem dX0_removeRecord_4 : decode cX0_removeRecord 4 = .ok (.iload_n 1, 1) := by decide +kernel
theorem dX0_removeRecord_5 : decode cX0_removeRecord 5 = .ok (.aload_n 0, 1) := by decide +kernel
theorem dX0_removeRecord_6 : decode cX0_removeRecord 6 = .ok (.getfield 44, 3) := by decide +kernel
theorem dX0_removeRecord_9 : decode cX0_removeRecord 9 = .ok (.if_icmp .lt 4, 3) := by decide +kernel
theorem dX0_removeRecord_12 : decode cX0_removeRecord 12 = .ok (.return_, 1) := by decide +kernel
theorem dX0_removeRecord_13 : decode cX0_removeRecord 13 = .ok (.iload_n 1, 1) := by decide +kernel
theorem dX0_removeRecord_14 : decode cX0_removeRecord 14 = .ok (.iconst 1, 1) := by decide +kernel
theorem dX0_removeRecord_15 : decode cX0_removeRecord 15 = .ok (.iadd, 1) := by decide +kernel
theorem dX0_removeRecord_16 : decode cX0_removeRecord 16 = .ok (.istore_n 2, 1) := by decide +kernel
theorem dX0_removeRecord_17 : decode cX0_removeRecord 17 = .ok (.iload_n 2, 1) := by decide +kernel
theorem dX0_removeRecord_18 : decode cX0_removeRecord 18 = .ok (.aload_n 0, 1) := by decide +kernel
theorem dX0_removeRecord_19 : decode cX0_removeRecord 19 = .ok (.getfield 44, 3) := by decide +kernel
theorem dX0_removeRecord_22 : decode cX0_removeRecord 22 = .ok (.if_icmp .ge 65, 3) := by decide +kernel
theorem dX0_removeRecord_25 : decode cX0_removeRecord 25 = .ok (.aload_n 0, 1) := by decide +kernel
theorem dX0_removeRecord_26 : decode cX0_removeRecord 26 = .ok (.getfield 15, 3) := by decide +kernel
theorem dX0_removeRecord_29 : decode cX0_removeRecord 29 = .ok (.iload_n 2, 1) := by decide +kernel
theorem dX0_removeRecord_30 : decode cX0_removeRecord 30 = .ok (.iconst 1, 1) := by decide +kernel
theorem dX0_removeRecord_31 : decode cX0_removeRecord 31 = .ok (.isub, 1) := by decide +kernel
theorem dX0_removeRecord_32 : decode cX0_removeRecord 32 = .ok (.aload_n 0, 1) := by decide +kernel
theorem dX0_removeRecord_33 : decode cX0_removeRecord 33 = .ok (.getfield 15, 3) := by decide +kernel
theorem dX0_removeRecord_36 : decode cX0_removeRecord 36 = .ok (.iload_n 2, 1) := by decide +kernel
theorem dX0_removeRecord_37 : decode cX0_removeRecord 37 = .ok (.iaload, 1) := by decide +kernel
theorem dX0_removeRecord_38 : decode cX0_removeRecord 38 = .ok (.iastore, 1) := by decide +kernel
theorem dX0_removeRecord_39 : decode cX0_removeRecord 39 = .ok (.aload_n 0, 1) := by decide +kernel
theorem dX0_removeRecord_40 : decode cX0_removeRecord 40 = .ok (.getfield 19, 3) := by decide +kernel
theorem dX0_removeRecord_43 : decode cX0_removeRecord 43 = .ok (.iload_n 2, 1) := by decide +kernel
theorem dX0_removeRecord_44 : decode cX0_removeRecord 44 = .ok (.iconst 1, 1) := by decide +kernel
theorem dX0_removeRecord_45 : decode cX0_removeRecord 45 = .ok (.isub, 1) := by decide +kernel
theorem dX0_removeRecord_46 : decode cX0_removeRecord 46 = .ok (.aload_n 0, 1) := by decide +kernel
theorem dX0_removeRecord_47 : decode cX0_removeRecord 47 = .ok (.getfield 19, 3) := by decide +kernel
theorem dX0_removeRecord_50 : decode cX0_removeRecord 50 = .ok (.iload_n 2, 1) := by decide +kernel
theorem dX0_removeRecord_51 : decode cX0_removeRecord 51 = .ok (.iaload, 1) := by decide +kernel
theorem dX0_removeRecord_52 : decode cX0_removeRecord 52 = .ok (.iastore, 1) := by decide +kernel
theorem dX0_removeRecord_53 : decode cX0_removeRecord 53 = .ok (.aload_n 0, 1) := by decide +kernel
theorem dX0_removeRecord_54 : decode cX0_removeRecord 54 = .ok (.getfield 22, 3) := by decide +kernel
theorem dX0_removeRecord_57 : decode cX0_removeRecord 57 = .ok (.iload_n 2, 1) := by decide +kernel
theorem dX0_removeRecord_58 : decode cX0_removeRecord 58 = .ok (.iconst 1, 1) := by decide +kernel
theorem dX0_removeRecord_59 : decode cX0_removeRecord 59 = .ok (.isub, 1) := by decide +kernel
theorem dX0_removeRecord_60 : decode cX0_removeRecord 60 = .ok (.aload_n 0, 1) := by decide +kernel
theorem dX0_removeRecord_61 : decode cX0_removeRecord 61 = .ok (.getfield 22, 3) := by decide +kernel
theorem dX0_removeRecord_64 : decode cX0_removeRecord 64 = .ok (.iload_n 2, 1) := by decide +kernel
theorem dX0_removeRecord_65 : decode cX0_removeRecord 65 = .ok (.iaload, 1) := by decide +kernel
theorem dX0_removeRecord_66 : decode cX0_removeRecord 66 = .ok (.iastore, 1) := by decide +kernel
theorem dX0_removeRecord_67 : decode cX0_removeRecord 67 = .ok (.aload_n 0, 1) := by decide +kernel
theorem dX0_removeRecord_68 : decode cX0_removeRecord 68 = .ok (.getfield 25, 3) := by decide +kernel
theorem dX0_removeRecord_71 : decode cX0_removeRecord 71 = .ok (.iload_n 2, 1) := by decide +kernel
theorem dX0_removeRecord_72 : decode cX0_removeRecord 72 = .ok (.iconst 1, 1) := by decide +kernel
theorem dX0_removeRecord_73 : decode cX0_removeRecord 73 = .ok (.isub, 1) := by decide +kernel
theorem dX0_removeRecord_74 : decode cX0_removeRecord 74 = .ok (.aload_n 0, 1) := by decide +kernel
theorem dX0_removeRecord_75 : decode cX0_removeRecord 75 = .ok (.getfield 25, 3) := by decide +kernel
theorem dX0_removeRecord_78 : decode cX0_removeRecord 78 = .ok (.iload_n 2, 1) := by decide +kernel
theorem dX0_removeRecord_79 : decode cX0_removeRecord 79 = .ok (.laload, 1) := by decide +kernel
theorem dX0_removeRecord_80 : decode cX0_removeRecord 80 = .ok (.lastore, 1) := by decide +kernel
theorem dX0_removeRecord_81 : decode cX0_removeRecord 81 = .ok (.iinc 2 1, 3) := by decide +kernel
theorem dX0_removeRecord_84 : decode cX0_removeRecord 84 = .ok (.goto (-67), 3) := by decide +kernel
theorem dX0_removeRecord_87 : decode cX0_removeRecord 87 = .ok (.aload_n 0, 1) := by decide +kernel
theorem dX0_removeRecord_88 : decode cX0_removeRecord 88 = .ok (.dup, 1) := by decide +kernel
theorem dX0_removeRecord_89 : decode cX0_removeRecord 89 = .ok (.getfield 44, 3) := by decide +kernel
theorem dX0_removeRecord_92 : decode cX0_removeRecord 92 = .ok (.iconst 1, 1) := by decide +kernel
theorem dX0_removeRecord_93 : decode cX0_removeRecord 93 = .ok (.isub, 1) := by decide +kernel
theorem dX0_removeRecord_94 : decode cX0_removeRecord 94 = .ok (.putfield 44, 3) := by decide +kernel
theorem dX0_removeRecord_97 : decode cX0_removeRecord 97 = .ok (.return_, 1) := by decide +kernel
theorem dX0_find_0 : decode cX0_find 0 = .ok (.iconst 0, 1) := by decide +kernel
theorem dX0_find_1 : decode cX0_find 1 = .ok (.istore_n 2, 1) := by decide +kernel
theorem dX0_find_2 : decode cX0_find 2 = .ok (.iload_n 2, 1) := by decide +kernel
theorem dX0_find_3 : decode cX0_find 3 = .ok (.aload_n 0, 1) := by decide +kernel
theorem dX0_find_4 : decode cX0_find 4 = .ok (.getfield 44, 3) := by decide +kernel
theorem dX0_find_7 : decode cX0_find 7 = .ok (.if_icmp .ge 50, 3) := by decide +kernel
theorem dX0_find_10 : decode cX0_find 10 = .ok (.aload_n 0, 1) := by decide +kernel
theorem dX0_find_11 : decode cX0_find 11 = .ok (.getfield 15, 3) := by decide +kernel
theorem dX0_find_14 : decode cX0_find 14 = .ok (.iload_n 2, 1) := by decide +kernel
theorem dX0_find_15 : decode cX0_find 15 = .ok (.iaload, 1) := by decide +kernel
theorem dX0_find_16 : decode cX0_find 16 = .ok (.aload_n 1, 1) := by decide +kernel
theorem dX0_find_17 : decode cX0_find 17 = .ok (.getfield 62, 3) := by decide +kernel
theorem dX0_find_20 : decode cX0_find 20 = .ok (.if_icmp .ne 31, 3) := by decide +kernel
theorem dX0_find_23 : decode cX0_find 23 = .ok (.aload_n 0, 1) := by decide +kernel
theorem dX0_find_24 : decode cX0_find 24 = .ok (.getfield 19, 3) := by decide +kernel
theorem dX0_find_27 : decode cX0_find 27 = .ok (.iload_n 2, 1) := by decide +kernel
theorem dX0_find_28 : decode cX0_find 28 = .ok (.iaload, 1) := by decide +kernel
theorem dX0_find_29 : decode cX0_find 29 = .ok (.aload_n 1, 1) := by decide +kernel
theorem dX0_find_30 : decode cX0_find 30 = .ok (.getfield 67, 3) := by decide +kernel
theorem dX0_find_33 : decode cX0_find 33 = .ok (.if_icmp .ne 18, 3) := by decide +kernel
theorem dX0_find_36 : decode cX0_find 36 = .ok (.aload_n 0, 1) := by decide +kernel
theorem dX0_find_37 : decode cX0_find 37 = .ok (.getfield 22, 3) := by decide +kernel
theorem dX0_find_40 : decode cX0_find 40 = .ok (.iload_n 2, 1) := by decide +kernel
theorem dX0_find_41 : decode cX0_find 41 = .ok (.iaload, 1) := by decide +kernel
theorem dX0_find_42 : decode cX0_find 42 = .ok (.aload_n 1, 1) := by decide +kernel
theorem dX0_find_43 : decode cX0_find 43 = .ok (.getfield 84, 3) := by decide +kernel
theorem dX0_find_46 : decode cX0_find 46 = .ok (.if_icmp .ne 5, 3) := by decide +kernel
theorem dX0_find_49 : decode cX0_find 49 = .ok (.iload_n 2, 1) := by decide +kernel
theorem dX0_find_50 : decode cX0_find 50 = .ok (.ireturn, 1) := by decide +kernel
theorem dX0_find_51 : decode cX0_find 51 = .ok (.iinc 2 1, 3) := by decide +kernel
theorem dX0_find_54 : decode cX0_find 54 = .ok (.goto (-52), 3) := by decide +kernel
theorem dX0_find_57 : decode cX0_find 57 = .ok (.iconst (-1), 1) := by decide +kernel
theorem dX0_find_58 : decode cX0_find 58 = .ok (.ireturn, 1) := by decide +kernel
theorem dX0_addRecord_0 : decode cX0_addRecord 0 = .ok (.aload_n 0, 1) := by decide +kernel
theorem dX0_addRecord_1 : decode cX0_addRecord 1 = .ok (.getfield 44, 3) := by decide +kernel
theorem dX0_addRecord_4 : decode cX0_addRecord 4 = .ok (.bipush 12, 2) := by decide +kernel
theorem dX0_addRecord_6 : decode cX0_addRecord 6 = .ok (.if_icmp .lt 4, 3) := by decide +kernel
theorem dX0_addRecord_9 : decode cX0_addRecord 9 = .ok (.return_, 1) := by decide +kernel
theorem dX0_addRecord_10 : decode cX0_addRecord 10 = .ok (.aload_n 0, 1) := by decide +kernel
theorem dX0_addRecord_11 : decode cX0_addRecord 11 = .ok (.getfield 15, 3) := by decide +kernel
theorem dX0_addRecord_14 : decode cX0_addRecord 14 = .ok (.aload_n 0, 1) := by decide +kernel
theorem dX0_addRecord_15 : decode cX0_addRecord 15 = .ok (.getfield 44, 3) := by decide +kernel
theorem dX0_addRecord_18 : decode cX0_addRecord 18 = .ok (.aload_n 1, 1) := by decide +kernel
theorem dX0_addRecord_19 : decode cX0_addRecord 19 = .ok (.getfield 62, 3) := by decide +kernel
theorem dX0_addRecord_22 : decode cX0_addRecord 22 = .ok (.iastore, 1) := by decide +kernel
theorem dX0_addRecord_23 : decode cX0_addRecord 23 = .ok (.aload_n 0, 1) := by decide +kernel
theorem dX0_addRecord_24 : decode cX0_addRecord 24 = .ok (.getfield 19, 3) := by decide +kernel
theorem dX0_addRecord_27 : decode cX0_addRecord 27 = .ok (.aload_n 0, 1) := by decide +kernel
theorem dX0_addRecord_28 : decode cX0_addRecord 28 = .ok (.getfield 44, 3) := by decide +kernel
theorem dX0_addRecord_31 : decode cX0_addRecord 31 = .ok (.aload_n 1, 1) := by decide +kernel
theorem dX0_addRecord_32 : decode cX0_addRecord 32 = .ok (.getfield 67, 3) := by decide +kernel
theorem dX0_addRecord_35 : decode cX0_addRecord 35 = .ok (.iastore, 1) := by decide +kernel
theorem dX0_addRecord_36 : decode cX0_addRecord 36 = .ok (.aload_n 0, 1) := by decide +kernel
theorem dX0_addRecord_37 : decode cX0_addRecord 37 = .ok (.getfield 22, 3) := by decide +kernel
theorem dX0_addRecord_40 : decode cX0_addRecord 40 = .ok (.aload_n 0, 1) := by decide +kernel
theorem dX0_addRecord_41 : decode cX0_addRecord 41 = .ok (.getfield 44, 3) := by decide +kernel
theorem dX0_addRecord_44 : decode cX0_addRecord 44 = .ok (.aload_n 1, 1) := by decide +kernel
theorem dX0_addRecord_45 : decode cX0_addRecord 45 = .ok (.getfield 84, 3) := by decide +kernel
theorem dX0_addRecord_48 : decode cX0_addRecord 48 = .ok (.iastore, 1) := by decide +kernel
theorem dX0_addRecord_49 : decode cX0_addRecord 49 = .ok (.aload_n 0, 1) := by decide +kernel
theorem dX0_addRecord_50 : decode cX0_addRecord 50 = .ok (.getfield 25, 3) := by decide +kernel
theorem dX0_addRecord_53 : decode cX0_addRecord 53 = .ok (.aload_n 0, 1) := by decide +kernel
theorem dX0_addRecord_54 : decode cX0_addRecord 54 = .ok (.getfield 44, 3) := by decide +kernel
theorem dX0_addRecord_57 : decode cX0_addRecord 57 = .ok (.lload_n 2, 1) := by decide +kernel
theorem dX0_addRecord_58 : decode cX0_addRecord 58 = .ok (.lastore, 1) := by decide +kernel
theorem dX0_addRecord_59 : decode cX0_addRecord 59 = .ok (.aload_n 0, 1) := by decide +kernel
theorem dX0_addRecord_60 : decode cX0_addRecord 60 = .ok (.dup, 1) := by decide +kernel
theorem dX0_addRecord_61 : decode cX0_addRecord 61 = .ok (.getfield 44, 3) := by decide +kernel
theorem dX0_addRecord_64 : decode cX0_addRecord 64 = .ok (.iconst 1, 1) := by decide +kernel
theorem dX0_addRecord_65 : decode cX0_addRecord 65 = .ok (.iadd, 1) := by decide +kernel
theorem dX0_addRecord_66 : decode cX0_addRecord 66 = .ok (.putfield 44, 3) := by decide +kernel
theorem dX0_addRecord_69 : decode cX0_addRecord 69 = .ok (.return_, 1) := by decide +kernel
theorem dX0_doAct_0 : decode cX0_doAct 0 = .ok (.aload_n 1, 1) := by decide +kernel
theorem dX0_doAct_1 : decode cX0_doAct 1 = .ok (.getfield 87, 3) := by decide +kernel
theorem dX0_doAct_4 : decode cX0_doAct 4 = .ok (.invokestatic 90, 3) := by decide +kernel
theorem dX0_doAct_7 : decode cX0_doAct 7 = .ok (.istore_n 2, 1) := by decide +kernel
theorem dX0_doAct_8 : decode cX0_doAct 8 = .ok (.iload_n 2, 1) := by decide +kernel
theorem dX0_doAct_9 : decode cX0_doAct 9 = .ok (.ifCond .lt 8, 3) := by decide +kernel
theorem dX0_doAct_12 : decode cX0_doAct 12 = .ok (.iload_n 2, 1) := by decide +kernel
theorem dX0_doAct_13 : decode cX0_doAct 13 = .ok (.iconst 4, 1) := by decide +kernel
theorem dX0_doAct_14 : decode cX0_doAct 14 = .ok (.if_icmp .lt 5, 3) := by decide +kernel
theorem dX0_doAct_17 : decode cX0_doAct 17 = .ok (.lconst 0, 1) := by decide +kernel
theorem dX0_doAct_18 : decode cX0_doAct 18 = .ok (.lreturn, 1) := by decide +kernel
theorem dX0_doAct_19 : decode cX0_doAct 19 = .ok (.aload_n 0, 1) := by decide +kernel
theorem dX0_doAct_20 : decode cX0_doAct 20 = .ok (.getfield 9, 3) := by decide +kernel
theorem dX0_doAct_23 : decode cX0_doAct 23 = .ok (.iload_n 2, 1) := by decide +kernel
theorem dX0_doAct_24 : decode cX0_doAct 24 = .ok (.laload, 1) := by decide +kernel
theorem dX0_doAct_25 : decode cX0_doAct 25 = .ok (.lstore_n 3, 1) := by decide +kernel
theorem dX0_doAct_26 : decode cX0_doAct 26 = .ok (.aload_n 1, 1) := by decide +kernel
theorem dX0_doAct_27 : decode cX0_doAct 27 = .ok (.getfield 94, 3) := by decide +kernel
theorem dX0_doAct_30 : decode cX0_doAct 30 = .ok (.tableswitch 80 0 2 #[26, 38, 57], 26) := by decide +kernel
theorem dX0_doAct_56 : decode cX0_doAct 56 = .ok (.aload_n 0, 1) := by decide +kernel
theorem dX0_doAct_57 : decode cX0_doAct 57 = .ok (.getfield 9, 3) := by decide +kernel
theorem dX0_doAct_60 : decode cX0_doAct 60 = .ok (.iload_n 2, 1) := by decide +kernel
theorem dX0_doAct_61 : decode cX0_doAct 61 = .ok (.aload_n 1, 1) := by decide +kernel
theorem dX0_doAct_62 : decode cX0_doAct 62 = .ok (.getfield 97, 3) := by decide +kernel
theorem dX0_doAct_65 : decode cX0_doAct 65 = .ok (.lastore, 1) := by decide +kernel
theorem dX0_doAct_66 : decode cX0_doAct 66 = .ok (.lload_n 3, 1) := by decide +kernel
theorem dX0_doAct_67 : decode cX0_doAct 67 = .ok (.lreturn, 1) := by decide +kernel
theorem dX0_doAct_68 : decode cX0_doAct 68 = .ok (.aload_n 0, 1) := by decide +kernel
theorem dX0_doAct_69 : decode cX0_doAct 69 = .ok (.getfield 9, 3) := by decide +kernel
theorem dX0_doAct_72 : decode cX0_doAct 72 = .ok (.iload_n 2, 1) := by decide +kernel
theorem dX0_doAct_73 : decode cX0_doAct 73 = .ok (.lload_n 3, 1) := by decide +kernel
theorem dX0_doAct_74 : decode cX0_doAct 74 = .ok (.aload_n 1, 1) := by decide +kernel
theorem dX0_doAct_75 : decode cX0_doAct 75 = .ok (.getfield 97, 3) := by decide +kernel
theorem dX0_doAct_78 : decode cX0_doAct 78 = .ok (.ladd, 1) := by decide +kernel
theorem dX0_doAct_79 : decode cX0_doAct 79 = .ok (.lastore, 1) := by decide +kernel
theorem dX0_doAct_80 : decode cX0_doAct 80 = .ok (.aload_n 0, 1) := by decide +kernel
theorem dX0_doAct_81 : decode cX0_doAct 81 = .ok (.getfield 9, 3) := by decide +kernel
theorem dX0_doAct_84 : decode cX0_doAct 84 = .ok (.iload_n 2, 1) := by decide +kernel
theorem dX0_doAct_85 : decode cX0_doAct 85 = .ok (.laload, 1) := by decide +kernel
theorem dX0_doAct_86 : decode cX0_doAct 86 = .ok (.lreturn, 1) := by decide +kernel
theorem dX0_doAct_87 : decode cX0_doAct 87 = .ok (.lload_n 3, 1) := by decide +kernel
theorem dX0_doAct_88 : decode cX0_doAct 88 = .ok (.aload_n 1, 1) := by decide +kernel
theorem dX0_doAct_89 : decode cX0_doAct 89 = .ok (.getfield 97, 3) := by decide +kernel
theorem dX0_doAct_92 : decode cX0_doAct 92 = .ok (.lcmp, 1) := by decide +kernel
theorem dX0_doAct_93 : decode cX0_doAct 93 = .ok (.ifCond .eq 5, 3) := by decide +kernel
theorem dX0_doAct_96 : decode cX0_doAct 96 = .ok (.lconst 0, 1) := by decide +kernel
theorem dX0_doAct_97 : decode cX0_doAct 97 = .ok (.lreturn, 1) := by decide +kernel
theorem dX0_doAct_98 : decode cX0_doAct 98 = .ok (.aload_n 0, 1) := by decide +kernel
theorem dX0_doAct_99 : decode cX0_doAct 99 = .ok (.getfield 9, 3) := by decide +kernel
theorem dX0_doAct_102 : decode cX0_doAct 102 = .ok (.iload_n 2, 1) := by decide +kernel
theorem dX0_doAct_103 : decode cX0_doAct 103 = .ok (.aload_n 1, 1) := by decide +kernel
theorem dX0_doAct_104 : decode cX0_doAct 104 = .ok (.getfield 101, 3) := by decide +kernel
theorem dX0_doAct_107 : decode cX0_doAct 107 = .ok (.lastore, 1) := by decide +kernel
theorem dX0_doAct_108 : decode cX0_doAct 108 = .ok (.lconst 1, 1) := by decide +kernel
theorem dX0_doAct_109 : decode cX0_doAct 109 = .ok (.lreturn, 1) := by decide +kernel
theorem dX0_doAct_110 : decode cX0_doAct 110 = .ok (.aload_n 0, 1) := by decide +kernel
theorem dX0_doAct_111 : decode cX0_doAct 111 = .ok (.getfield 9, 3) := by decide +kernel
theorem dX0_doAct_114 : decode cX0_doAct 114 = .ok (.iload_n 2, 1) := by decide +kernel
theorem dX0_doAct_115 : decode cX0_doAct 115 = .ok (.lload_n 3, 1) := by decide +kernel
theorem dX0_doAct_116 : decode cX0_doAct 116 = .ok (.aload_n 1, 1) := by decide +kernel
theorem dX0_doAct_117 : decode cX0_doAct 117 = .ok (.getfield 97, 3) := by decide +kernel
theorem dX0_doAct_120 : decode cX0_doAct 120 = .ok (.lmul, 1) := by decide +kernel
theorem dX0_doAct_121 : decode cX0_doAct 121 = .ok (.lastore, 1) := by decide +kernel
theorem dX0_doAct_122 : decode cX0_doAct 122 = .ok (.aload_n 0, 1) := by decide +kernel
theorem dX0_doAct_123 : decode cX0_doAct 123 = .ok (.getfield 9, 3) := by decide +kernel
theorem dX0_doAct_126 : decode cX0_doAct 126 = .ok (.iload_n 2, 1) := by decide +kernel
theorem dX0_doAct_127 : decode cX0_doAct 127 = .ok (.laload, 1) := by decide +kernel
theorem dX0_doAct_128 : decode cX0_doAct 128 = .ok (.lreturn, 1) := by decide +kernel
theorem dX1_init_0 : decode cX1_init 0 = .ok (.aload_n 0, 1) := by decide +kernel
theorem dX1_init_1 : decode cX1_init 1 = .ok (.invokespecial 3, 3) := by decide +kernel
theorem dX1_init_4 : decode cX1_init 4 = .ok (.aload_n 0, 1) := by decide +kernel
theorem dX1_init_5 : decode cX1_init 5 = .ok (.bipush 8, 2) := by decide +kernel
theorem dX1_init_7 : decode cX1_init 7 = .ok (.newarray .int, 2) := by decide +kernel
theorem dX1_init_9 : decode cX1_init 9 = .ok (.putfield 9, 3) := by decide +kernel
theorem dX1_init_12 : decode cX1_init 12 = .ok (.aload_n 0, 1) := by decide +kernel
theorem dX1_init_13 : decode cX1_init 13 = .ok (.bipush 61, 2) := by decide +kernel
theorem dX1_init_15 : decode cX1_init 15 = .ok (.newarray .int, 2) := by decide +kernel
theorem dX1_init_17 : decode cX1_init 17 = .ok (.putfield 15, 3) := by decide +kernel
theorem dX1_init_20 : decode cX1_init 20 = .ok (.aload_n 0, 1) := by decide +kernel
theorem dX1_init_21 : decode cX1_init 21 = .ok (.bipush 61, 2) := by decide +kernel
theorem dX1_init_23 : decode cX1_init 23 = .ok (.newarray .int, 2) := by decide +kernel
theorem dX1_init_25 : decode cX1_init 25 = .ok (.putfield 18, 3) := by decide +kernel
theorem dX1_init_28 : decode cX1_init 28 = .ok (.aload_n 0, 1) := by decide +kernel
theorem dX1_init_29 : decode cX1_init 29 = .ok (.bipush 61, 2) := by decide +kernel
theorem dX1_init_31 : decode cX1_init 31 = .ok (.newarray .long, 2) := by decide +kernel
theorem dX1_init_33 : decode cX1_init 33 = .ok (.putfield 21, 3) := by decide +kernel
theorem dX1_init_36 : decode cX1_init 36 = .ok (.aload_n 0, 1) := by decide +kernel
theorem dX1_init_37 : decode cX1_init 37 = .ok (.bipush 61, 2) := by decide +kernel
theorem dX1_init_39 : decode cX1_init 39 = .ok (.newarray .long, 2) := by decide +kernel
theorem dX1_init_41 : decode cX1_init 41 = .ok (.putfield 25, 3) := by decide +kernel
theorem dX1_init_44 : decode cX1_init 44 = .ok (.aload_n 0, 1) := by decide +kernel
theorem dX1_init_45 : decode cX1_init 45 = .ok (.bipush 61, 2) := by decide +kernel
theorem dX1_init_47 : decode cX1_init 47 = .ok (.newarray .int, 2) := by decide +kernel
theorem dX1_init_49 : decode cX1_init 49 = .ok (.putfield 28, 3) := by decide +kernel
theorem dX1_init_52 : decode cX1_init 52 = .ok (.aload_n 0, 1) := by decide +kernel
theorem dX1_init_53 : decode cX1_init 53 = .ok (.bipush 61, 2) := by decide +kernel
theorem dX1_init_55 : decode cX1_init 55 = .ok (.newarray .long, 2) := by decide +kernel
theorem dX1_init_57 : decode cX1_init 57 = .ok (.putfield 31, 3) := by decide +kernel
theorem dX1_init_60 : decode cX1_init 60 = .ok (.aload_n 0, 1) := by decide +kernel
theorem dX1_init_61 : decode cX1_init 61 = .ok (.iload_n 1, 1) := by decide +kernel
theorem dX1_init_62 : decode cX1_init 62 = .ok (.putfield 34, 3) := by decide +kernel
theorem dX1_init_65 : decode cX1_init 65 = .ok (.iconst 1, 1) := by decide +kernel
theorem dX1_init_66 : decode cX1_init 66 = .ok (.iload_n 2, 1) := by decide +kernel
theorem dX1_init_67 : decode cX1_init 67 = .ok (.invokestatic 38, 3) := by decide +kernel
theorem dX1_init_70 : decode cX1_init 70 = .ok (.istore_n 3, 1) := by decide +kernel
theorem dX1_init_71 : decode cX1_init 71 = .ok (.iconst 0, 1) := by decide +kernel
theorem dX1_init_72 : decode cX1_init 72 = .ok (.istore 4, 2) := by decide +kernel
theorem dX1_init_74 : decode cX1_init 74 = .ok (.iload 4, 2) := by decide +kernel
theorem dX1_init_76 : decode cX1_init 76 = .ok (.bipush 8, 2) := by decide +kernel
theorem dX1_init_78 : decode cX1_init 78 = .ok (.if_icmp .ge 20, 3) := by decide +kernel
theorem dX1_init_81 : decode cX1_init 81 = .ok (.aload_n 0, 1) := by decide +kernel
theorem dX1_init_82 : decode cX1_init 82 = .ok (.getfield 9, 3) := by decide +kernel
theorem dX1_init_85 : decode cX1_init 85 = .ok (.iload 4, 2) := by decide +kernel
theorem dX1_init_87 : decode cX1_init 87 = .ok (.iload 4, 2) := by decide +kernel
theorem dX1_init_89 : decode cX1_init 89 = .ok (.iload_n 3, 1) := by decide +kernel
theorem dX1_init_90 : decode cX1_init 90 = .ok (.irem, 1) := by decide +kernel
theorem dX1_init_91 : decode cX1_init 91 = .ok (.iastore, 1) := by decide +kernel
theorem dX1_init_92 : decode cX1_init 92 = .ok (.iinc 4 1, 3) := by decide +kernel
theorem dX1_init_95 : decode cX1_init 95 = .ok (.goto (-21), 3) := by decide +kernel
theorem dX1_init_98 : decode cX1_init 98 = .ok (.return_, 1) := by decide +kernel
theorem dX1_hasCall_0 : decode cX1_hasCall 0 = .ok (.iload_n 1, 1) := by decide +kernel
theorem dX1_hasCall_1 : decode cX1_hasCall 1 = .ok (.iconst 1, 1) := by decide +kernel
theorem dX1_hasCall_2 : decode cX1_hasCall 2 = .ok (.if_icmp .lt 15, 3) := by decide +kernel
theorem dX1_hasCall_5 : decode cX1_hasCall 5 = .ok (.iload_n 1, 1) := by decide +kernel
theorem dX1_hasCall_6 : decode cX1_hasCall 6 = .ok (.aload_n 0, 1) := by decide +kernel
theorem dX1_hasCall_7 : decode cX1_hasCall 7 = .ok (.getfield 44, 3) := by decide +kernel
theorem dX1_hasCall_10 : decode cX1_hasCall 10 = .ok (.if_icmp .gt 7, 3) := by decide +kernel
theorem dX1_hasCall_13 : decode cX1_hasCall 13 = .ok (.iconst 1, 1) := by decide +kernel
theorem dX1_hasCall_14 : decode cX1_hasCall 14 = .ok (.goto 4, 3) := by decide +kernel
theorem dX1_hasCall_17 : decode cX1_hasCall 17 = .ok (.iconst 0, 1) := by decide +kernel
theorem dX1_hasCall_18 : decode cX1_hasCall 18 = .ok (.ireturn, 1) := by decide +kernel
theorem dX1_newCall_0 : decode cX1_newCall 0 = .ok (.aload_n 0, 1) := by decide +kernel
theorem dX1_newCall_1 : decode cX1_newCall 1 = .ok (.getfield 44, 3) := by decide +kernel
theorem dX1_newCall_4 : decode cX1_newCall 4 = .ok (.bipush 60, 2) := by decide +kernel
theorem dX1_newCall_6 : decode cX1_newCall 6 = .ok (.if_icmp .lt 6, 3) := by decide +kernel
theorem dX1_newCall_9 : decode cX1_newCall 9 = .ok (.bipush (-2), 2) := by decide +kernel
theorem dX1_newCall_11 : decode cX1_newCall 11 = .ok (.ireturn, 1) := by decide +kernel
theorem dX1_newCall_12 : decode cX1_newCall 12 = .ok (.aload_n 0, 1) := by decide +kernel
theorem dX1_newCall_13 : decode cX1_newCall 13 = .ok (.dup, 1) := by decide +kernel
theorem dX1_newCall_14 : decode cX1_newCall 14 = .ok (.getfield 44, 3) := by decide +kernel
theorem dX1_newCall_17 : decode cX1_newCall 17 = .ok (.iconst 1, 1) := by decide +kernel
theorem dX1_newCall_18 : decode cX1_newCall 18 = .ok (.iadd, 1) := by decide +kernel
theorem dX1_newCall_19 : decode cX1_newCall 19 = .ok (.putfield 44, 3) := by decide +kernel
theorem dX1_newCall_22 : decode cX1_newCall 22 = .ok (.aload_n 0, 1) := by decide +kernel
theorem dX1_newCall_23 : decode cX1_newCall 23 = .ok (.getfield 15, 3) := by decide +kernel
theorem dX1_newCall_26 : decode cX1_newCall 26 = .ok (.aload_n 0, 1) := by decide +kernel
theorem dX1_newCall_27 : decode cX1_newCall 27 = .ok (.getfield 44, 3) := by decide +kernel
theorem dX1_newCall_30 : decode cX1_newCall 30 = .ok (.iload_n 1, 1) := by decide +kernel
theorem dX1_newCall_31 : decode cX1_newCall 31 = .ok (.iastore, 1) := by decide +kernel
theorem dX1_newCall_32 : decode cX1_newCall 32 = .ok (.aload_n 0, 1) := by decide +kernel
theorem dX1_newCall_33 : decode cX1_newCall 33 = .ok (.getfield 18, 3) := by decide +kernel
theorem dX1_newCall_36 : decode cX1_newCall 36 = .ok (.aload_n 0, 1) := by decide +kernel
theorem dX1_newCall_37 : decode cX1_newCall 37 = .ok (.getfield 44, 3) := by decide +kernel
theorem dX1_newCall_40 : decode cX1_newCall 40 = .ok (.iload_n 2, 1) := by decide +kernel
theorem dX1_newCall_41 : decode cX1_newCall 41 = .ok (.iastore, 1) := by decide +kernel
theorem dX1_newCall_42 : decode cX1_newCall 42 = .ok (.aload_n 0, 1) := by decide +kernel
theorem dX1_newCall_43 : decode cX1_newCall 43 = .ok (.getfield 21, 3) := by decide +kernel
theorem dX1_newCall_46 : decode cX1_newCall 46 = .ok (.aload_n 0, 1) := by decide +kernel
theorem dX1_newCall_47 : decode cX1_newCall 47 = .ok (.getfield 44, 3) := by decide +kernel
theorem dX1_newCall_50 : decode cX1_newCall 50 = .ok (.lload_n 3, 1) := by decide +kernel
theorem dX1_newCall_51 : decode cX1_newCall 51 = .ok (.lastore, 1) := by decide +kernel
theorem dX1_newCall_52 : decode cX1_newCall 52 = .ok (.aload_n 0, 1) := by decide +kernel
theorem dX1_newCall_53 : decode cX1_newCall 53 = .ok (.getfield 25, 3) := by decide +kernel
theorem dX1_newCall_56 : decode cX1_newCall 56 = .ok (.aload_n 0, 1) := by decide +kernel
theorem dX1_newCall_57 : decode cX1_newCall 57 = .ok (.getfield 44, 3) := by decide +kernel
theorem dX1_newCall_60 : decode cX1_newCall 60 = .ok (.lload 5, 2) := by decide +kernel
theorem dX1_newCall_62 : decode cX1_newCall 62 = .ok (.lastore, 1) := by decide +kernel
theorem dX1_newCall_63 : decode cX1_newCall 63 = .ok (.aload_n 0, 1) := by decide +kernel
theorem dX1_newCall_64 : decode cX1_newCall 64 = .ok (.getfield 28, 3) := by decide +kernel
theorem dX1_newCall_67 : decode cX1_newCall 67 = .ok (.aload_n 0, 1) := by decide +kernel
theorem dX1_newCall_68 : decode cX1_newCall 68 = .ok (.getfield 44, 3) := by decide +kernel
theorem dX1_newCall_71 : decode cX1_newCall 71 = .ok (.iconst 0, 1) := by decide +kernel
theorem dX1_newCall_72 : decode cX1_newCall 72 = .ok (.iastore, 1) := by decide +kernel
theorem dX1_newCall_73 : decode cX1_newCall 73 = .ok (.aload_n 0, 1) := by decide +kernel
theorem dX1_newCall_74 : decode cX1_newCall 74 = .ok (.getfield 31, 3) := by decide +kernel
theorem dX1_newCall_77 : decode cX1_newCall 77 = .ok (.aload_n 0, 1) := by decide +kernel
theorem dX1_newCall_78 : decode cX1_newCall 78 = .ok (.getfield 44, 3) := by decide +kernel
theorem dX1_newCall_81 : decode cX1_newCall 81 = .ok (.lconst 0, 1) := by decide +kernel
theorem dX1_newCall_82 : decode cX1_newCall 82 = .ok (.lastore, 1) := by decide +kernel
theorem dX1_newCall_83 : decode cX1_newCall 83 = .ok (.aload_n 0, 1) := by decide +kernel
theorem dX1_newCall_84 : decode cX1_newCall 84 = .ok (.getfield 44, 3) := by decide +kernel
theorem dX1_newCall_87 : decode cX1_newCall 87 = .ok (.ireturn, 1) := by decide +kernel
theorem dX1_first_0 : decode cX1_first 0 = .ok (.iconst 1, 1) := by decide +kernel
theorem dX1_first_1 : decode cX1_first 1 = .ok (.istore_n 1, 1) := by decide +kernel
theorem dX1_first_2 : decode cX1_first 2 = .ok (.iload_n 1, 1) := by decide +kernel
theorem dX1_first_3 : decode cX1_first 3 = .ok (.aload_n 0, 1) := by decide +kernel
theorem dX1_first_4 : decode cX1_first 4 = .ok (.getfield 44, 3) := by decide +kernel
theorem dX1_first_7 : decode cX1_first 7 = .ok (.if_icmp .gt 20, 3) := by decide +kernel
theorem dX1_first_10 : decode cX1_first 10 = .ok (.aload_n 0, 1) := by decide +kernel
theorem dX1_first_11 : decode cX1_first 11 = .ok (.getfield 28, 3) := by decide +kernel
theorem dX1_first_14 : decode cX1_first 14 = .ok (.iload_n 1, 1) := by decide +kernel
theorem dX1_first_15 : decode cX1_first 15 = .ok (.iaload, 1) := by decide +kernel
theorem dX1_first_16 : decode cX1_first 16 = .ok (.ifCond .ne 5, 3) := by decide +kernel
theorem dX1_first_19 : decode cX1_first 19 = .ok (.iload_n 1, 1) := by decide +kernel
theorem dX1_first_20 : decode cX1_first 20 = .ok (.ireturn, 1) := by decide +kernel
theorem dX1_first_21 : decode cX1_first 21 = .ok (.iinc 1 1, 3) := by decide +kernel
theorem dX1_first_24 : decode cX1_first 24 = .ok (.goto (-22), 3) := by decide +kernel
theorem dX1_first_27 : decode cX1_first 27 = .ok (.aload_n 0, 1) := by decide +kernel
theorem dX1_first_28 : decode cX1_first 28 = .ok (.getfield 44, 3) := by decide +kernel
theorem dX1_first_31 : decode cX1_first 31 = .ok (.iconst 1, 1) := by decide +kernel
theorem dX1_first_32 : decode cX1_first 32 = .ok (.iadd, 1) := by decide +kernel
theorem dX1_first_33 : decode cX1_first 33 = .ok (.ireturn, 1) := by decide +kernel
theorem dX1_waiting_0 : decode cX1_waiting 0 = .ok (.iconst 0, 1) := by decide +kernel
theorem dX1_waiting_1 : decode cX1_waiting 1 = .ok (.istore_n 1, 1) := by decide +kernel
theorem dX1_waiting_2 : decode cX1_waiting 2 = .ok (.iconst 1, 1) := by decide +kernel
theorem dX1_waiting_3 : decode cX1_waiting 3 = .ok (.istore_n 2, 1) := by decide +kernel
theorem dX1_waiting_4 : decode cX1_waiting 4 = .ok (.iload_n 2, 1) := by decide +kernel
theorem dX1_waiting_5 : decode cX1_waiting 5 = .ok (.aload_n 0, 1) := by decide +kernel
theorem dX1_waiting_6 : decode cX1_waiting 6 = .ok (.getfield 44, 3) := by decide +kernel
theorem dX1_waiting_9 : decode cX1_waiting 9 = .ok (.if_icmp .gt 21, 3) := by decide +kernel
theorem dX1_waiting_12 : decode cX1_waiting 12 = .ok (.aload_n 0, 1) := by decide +kernel
theorem dX1_waiting_13 : decode cX1_waiting 13 = .ok (.getfield 28, 3) := by decide +kernel
theorem dX1_waiting_16 : decode cX1_waiting 16 = .ok (.iload_n 2, 1) := by decide +kernel
theorem dX1_waiting_17 : decode cX1_waiting 17 = .ok (.iaload, 1) := by decide +kernel
theorem dX1_waiting_18 : decode cX1_waiting 18 = .ok (.ifCond .ne 6, 3) := by decide +kernel
theorem dX1_waiting_21 : decode cX1_waiting 21 = .ok (.iinc 1 1, 3) := by decide +kernel
theorem dX1_waiting_24 : decode cX1_waiting 24 = .ok (.iinc 2 1, 3) := by decide +kernel
theorem dX1_waiting_27 : decode cX1_waiting 27 = .ok (.goto (-23), 3) := by decide +kernel
theorem dX1_waiting_30 : decode cX1_waiting 30 = .ok (.iload_n 1, 1) := by decide +kernel
theorem dX1_waiting_31 : decode cX1_waiting 31 = .ok (.ireturn, 1) := by decide +kernel
theorem dX1_refuseWaiting_0 : decode cX1_refuseWaiting 0 = .ok (.iconst 1, 1) := by decide +kernel
theorem dX1_refuseWaiting_1 : decode cX1_refuseWaiting 1 = .ok (.istore_n 1, 1) := by decide +kernel
theorem dX1_refuseWaiting_2 : decode cX1_refuseWaiting 2 = .ok (.iload_n 1, 1) := by decide +kernel
theorem dX1_refuseWaiting_3 : decode cX1_refuseWaiting 3 = .ok (.aload_n 0, 1) := by decide +kernel
theorem dX1_refuseWaiting_4 : decode cX1_refuseWaiting 4 = .ok (.getfield 44, 3) := by decide +kernel
theorem dX1_refuseWaiting_7 : decode cX1_refuseWaiting 7 = .ok (.if_icmp .gt 25, 3) := by decide +kernel
theorem dX1_refuseWaiting_10 : decode cX1_refuseWaiting 10 = .ok (.aload_n 0, 1) := by decide +kernel
theorem dX1_refuseWaiting_11 : decode cX1_refuseWaiting 11 = .ok (.getfield 28, 3) := by decide +kernel
theorem dX1_refuseWaiting_14 : decode cX1_refuseWaiting 14 = .ok (.iload_n 1, 1) := by decide +kernel
theorem dX1_refuseWaiting_15 : decode cX1_refuseWaiting 15 = .ok (.iaload, 1) := by decide +kernel
theorem dX1_refuseWaiting_16 : decode cX1_refuseWaiting 16 = .ok (.ifCond .ne 10, 3) := by decide +kernel
theorem dX1_refuseWaiting_19 : decode cX1_refuseWaiting 19 = .ok (.aload_n 0, 1) := by decide +kernel
theorem dX1_refuseWaiting_20 : decode cX1_refuseWaiting 20 = .ok (.getfield 28, 3) := by decide +kernel
theorem dX1_refuseWaiting_23 : decode cX1_refuseWaiting 23 = .ok (.iload_n 1, 1) := by decide +kernel
theorem dX1_refuseWaiting_24 : decode cX1_refuseWaiting 24 = .ok (.iconst 2, 1) := by decide +kernel
theorem dX1_refuseWaiting_25 : decode cX1_refuseWaiting 25 = .ok (.iastore, 1) := by decide +kernel
theorem dX1_refuseWaiting_26 : decode cX1_refuseWaiting 26 = .ok (.iinc 1 1, 3) := by decide +kernel
theorem dX1_refuseWaiting_29 : decode cX1_refuseWaiting 29 = .ok (.goto (-27), 3) := by decide +kernel
theorem dX1_refuseWaiting_32 : decode cX1_refuseWaiting 32 = .ok (.return_, 1) := by decide +kernel
theorem dX2_init_0 : decode cX2_init 0 = .ok (.aload_n 0, 1) := by decide +kernel
theorem dX2_init_1 : decode cX2_init 1 = .ok (.invokespecial 3, 3) := by decide +kernel
theorem dX2_init_4 : decode cX2_init 4 = .ok (.aload_n 0, 1) := by decide +kernel
theorem dX2_init_5 : decode cX2_init 5 = .ok (.iload_n 1, 1) := by decide +kernel
theorem dX2_init_6 : decode cX2_init 6 = .ok (.putfield 9, 3) := by decide +kernel
theorem dX2_init_9 : decode cX2_init 9 = .ok (.aload_n 0, 1) := by decide +kernel
theorem dX2_init_10 : decode cX2_init 10 = .ok (.iload_n 2, 1) := by decide +kernel
theorem dX2_init_11 : decode cX2_init 11 = .ok (.putfield 15, 3) := by decide +kernel
theorem dX2_init_14 : decode cX2_init 14 = .ok (.aload_n 0, 1) := by decide +kernel
theorem dX2_init_15 : decode cX2_init 15 = .ok (.iload_n 3, 1) := by decide +kernel
theorem dX2_init_16 : decode cX2_init 16 = .ok (.putfield 18, 3) := by decide +kernel
theorem dX2_init_19 : decode cX2_init 19 = .ok (.return_, 1) := by decide +kernel
theorem dX2_isBetweenServers_0 : decode cX2_isBetweenServers 0 = .ok (.aload_n 0, 1) := by decide +kernel
theorem dX2_isBetweenServers_1 : decode cX2_isBetweenServers 1 = .ok (.getfield 9, 3) := by decide +kernel
theorem dX2_isBetweenServers_4 : decode cX2_isBetweenServers 4 = .ok (.iconst 3, 1) := by decide +kernel
theorem dX2_isBetweenServers_5 : decode cX2_isBetweenServers 5 = .ok (.if_icmp .eq 11, 3) := by decide +kernel
theorem dX2_isBetweenServers_8 : decode cX2_isBetweenServers 8 = .ok (.aload_n 0, 1) := by decide +kernel
theorem dX2_isBetweenServers_9 : decode cX2_isBetweenServers 9 = .ok (.getfield 9, 3) := by decide +kernel
theorem dX2_isBetweenServers_12 : decode cX2_isBetweenServers 12 = .ok (.iconst 4, 1) := by decide +kernel
theorem dX2_isBetweenServers_13 : decode cX2_isBetweenServers 13 = .ok (.if_icmp .ne 7, 3) := by decide +kernel
theorem dX2_isBetweenServers_16 : decode cX2_isBetweenServers 16 = .ok (.iconst 1, 1) := by decide +kernel
theorem dX2_isBetweenServers_17 : decode cX2_isBetweenServers 17 = .ok (.goto 4, 3) := by decide +kernel
theorem dX2_isBetweenServers_20 : decode cX2_isBetweenServers 20 = .ok (.iconst 0, 1) := by decide +kernel
theorem dX2_isBetweenServers_21 : decode cX2_isBetweenServers 21 = .ok (.ireturn, 1) := by decide +kernel
theorem dX2_part_0 : decode cX2_part 0 = .ok (.iload_n 1, 1) := by decide +kernel
theorem dX2_part_1 : decode cX2_part 1 = .ok (.tableswitch 83 0 5 #[39, 44, 49, 54, 73, 78], 39) := by decide +kernel
theorem dX2_part_40 : decode cX2_part 40 = .ok (.aload_n 0, 1) := by decide +kernel
theorem dX2_part_41 : decode cX2_part 41 = .ok (.getfield 9, 3) := by decide +kernel
theorem dX2_part_44 : decode cX2_part 44 = .ok (.ireturn, 1) := by decide +kernel
theorem dX2_part_45 : decode cX2_part 45 = .ok (.aload_n 0, 1) := by decide +kernel
theorem dX2_part_46 : decode cX2_part 46 = .ok (.getfield 15, 3) := by decide +kernel
theorem dX2_part_49 : decode cX2_part 49 = .ok (.ireturn, 1) := by decide +kernel
theorem dX2_part_50 : decode cX2_part 50 = .ok (.aload_n 0, 1) := by decide +kernel
theorem dX2_part_51 : decode cX2_part 51 = .ok (.getfield 18, 3) := by decide +kernel
theorem dX2_part_54 : decode cX2_part 54 = .ok (.ireturn, 1) := by decide +kernel
theorem dX2_part_55 : decode cX2_part 55 = .ok (.aload_n 0, 1) := by decide +kernel
theorem dX2_part_56 : decode cX2_part 56 = .ok (.invokevirtual 21, 3) := by decide +kernel
theorem dX2_part_59 : decode cX2_part 59 = .ok (.ifCond .eq 10, 3) := by decide +kernel
theorem dX2_part_62 : decode cX2_part 62 = .ok (.aload_n 0, 1) := by decide +kernel
theorem dX2_part_63 : decode cX2_part 63 = .ok (.getfield 25, 3) := by decide +kernel
theorem dX2_part_66 : decode cX2_part 66 = .ok (.goto 7, 3) := by decide +kernel
theorem dX2_part_69 : decode cX2_part 69 = .ok (.aload_n 0, 1) := by decide +kernel
theorem dX2_part_70 : decode cX2_part 70 = .ok (.getfield 28, 3) := by decide +kernel
theorem dX2_part_73 : decode cX2_part 73 = .ok (.ireturn, 1) := by decide +kernel
theorem dX2_part_74 : decode cX2_part 74 = .ok (.aload_n 0, 1) := by decide +kernel
theorem dX2_part_75 : decode cX2_part 75 = .ok (.invokevirtual 31, 3) := by decide +kernel
theorem dX2_part_78 : decode cX2_part 78 = .ok (.ireturn, 1) := by decide +kernel
theorem dX2_part_79 : decode cX2_part 79 = .ok (.aload_n 0, 1) := by decide +kernel
theorem dX2_part_80 : decode cX2_part 80 = .ok (.invokevirtual 35, 3) := by decide +kernel
theorem dX2_part_83 : decode cX2_part 83 = .ok (.ireturn, 1) := by decide +kernel
theorem dX2_part_84 : decode cX2_part 84 = .ok (.iconst (-1), 1) := by decide +kernel
theorem dX2_part_85 : decode cX2_part 85 = .ok (.ireturn, 1) := by decide +kernel
theorem dX2_fourthPart_0 : decode cX2_fourthPart 0 = .ok (.aload_n 0, 1) := by decide +kernel
theorem dX2_fourthPart_1 : decode cX2_fourthPart 1 = .ok (.invokevirtual 21, 3) := by decide +kernel
theorem dX2_fourthPart_4 : decode cX2_fourthPart 4 = .ok (.ifCond .eq 8, 3) := by decide +kernel
theorem dX2_fourthPart_7 : decode cX2_fourthPart 7 = .ok (.aload_n 0, 1) := by decide +kernel
theorem dX2_fourthPart_8 : decode cX2_fourthPart 8 = .ok (.getfield 38, 3) := by decide +kernel
theorem dX2_fourthPart_11 : decode cX2_fourthPart 11 = .ok (.ireturn, 1) := by decide +kernel
theorem dX2_fourthPart_12 : decode cX2_fourthPart 12 = .ok (.aload_n 0, 1) := by decide +kernel
theorem dX2_fourthPart_13 : decode cX2_fourthPart 13 = .ok (.getfield 9, 3) := by decide +kernel
theorem dX2_fourthPart_16 : decode cX2_fourthPart 16 = .ok (.iconst 5, 1) := by decide +kernel
theorem dX2_fourthPart_17 : decode cX2_fourthPart 17 = .ok (.if_icmp .ne 10, 3) := by decide +kernel
theorem dX2_fourthPart_20 : decode cX2_fourthPart 20 = .ok (.aload_n 0, 1) := by decide +kernel
theorem dX2_fourthPart_21 : decode cX2_fourthPart 21 = .ok (.getfield 41, 3) := by decide +kernel
theorem dX2_fourthPart_24 : decode cX2_fourthPart 24 = .ok (.goto 7, 3) := by decide +kernel
theorem dX2_fourthPart_27 : decode cX2_fourthPart 27 = .ok (.aload_n 0, 1) := by decide +kernel
theorem dX2_fourthPart_28 : decode cX2_fourthPart 28 = .ok (.getfield 44, 3) := by decide +kernel
theorem dX2_fourthPart_31 : decode cX2_fourthPart 31 = .ok (.ireturn, 1) := by decide +kernel
theorem dX2_fifthPart_0 : decode cX2_fifthPart 0 = .ok (.aload_n 0, 1) := by decide +kernel
theorem dX2_fifthPart_1 : decode cX2_fifthPart 1 = .ok (.getfield 9, 3) := by decide +kernel
theorem dX2_fifthPart_4 : decode cX2_fifthPart 4 = .ok (.iconst 1, 1) := by decide +kernel
theorem dX2_fifthPart_5 : decode cX2_fifthPart 5 = .ok (.if_icmp .ne 8, 3) := by decide +kernel
theorem dX2_fifthPart_8 : decode cX2_fifthPart 8 = .ok (.aload_n 0, 1) := by decide +kernel
theorem dX2_fifthPart_9 : decode cX2_fifthPart 9 = .ok (.getfield 41, 3) := by decide +kernel
theorem dX2_fifthPart_12 : decode cX2_fifthPart 12 = .ok (.ireturn, 1) := by decide +kernel
theorem dX2_fifthPart_13 : decode cX2_fifthPart 13 = .ok (.aload_n 0, 1) := by decide +kernel
theorem dX2_fifthPart_14 : decode cX2_fifthPart 14 = .ok (.getfield 9, 3) := by decide +kernel
theorem dX2_fifthPart_17 : decode cX2_fifthPart 17 = .ok (.iconst 2, 1) := by decide +kernel
theorem dX2_fifthPart_18 : decode cX2_fifthPart 18 = .ok (.if_icmp .ne 8, 3) := by decide +kernel
theorem dX2_fifthPart_21 : decode cX2_fifthPart 21 = .ok (.aload_n 0, 1) := by decide +kernel
theorem dX2_fifthPart_22 : decode cX2_fifthPart 22 = .ok (.getfield 47, 3) := by decide +kernel
theorem dX2_fifthPart_25 : decode cX2_fifthPart 25 = .ok (.ireturn, 1) := by decide +kernel
theorem dX2_fifthPart_26 : decode cX2_fifthPart 26 = .ok (.aload_n 0, 1) := by decide +kernel
theorem dX2_fifthPart_27 : decode cX2_fifthPart 27 = .ok (.getfield 50, 3) := by decide +kernel
theorem dX2_fifthPart_30 : decode cX2_fifthPart 30 = .ok (.ifnonnull 7, 3) := by decide +kernel
theorem dX2_fifthPart_33 : decode cX2_fifthPart 33 = .ok (.iconst 0, 1) := by decide +kernel
theorem dX2_fifthPart_34 : decode cX2_fifthPart 34 = .ok (.goto 10, 3) := by decide +kernel
theorem dX2_fifthPart_37 : decode cX2_fifthPart 37 = .ok (.aload_n 0, 1) := by decide +kernel
theorem dX2_fifthPart_38 : decode cX2_fifthPart 38 = .ok (.getfield 50, 3) := by decide +kernel
theorem dX2_fifthPart_41 : decode cX2_fifthPart 41 = .ok (.getfield 54, 3) := by decide +kernel
theorem dX2_fifthPart_44 : decode cX2_fifthPart 44 = .ok (.ireturn, 1) := by decide +kernel
theorem dX3_init_0 : decode cX3_init 0 = .ok (.aload_n 0, 1) := by decide +kernel
theorem dX3_init_1 : decode cX3_init 1 = .ok (.invokespecial 1, 3) := by decide +kernel
theorem dX3_init_4 : decode cX3_init 4 = .ok (.aload_n 0, 1) := by decide +kernel
theorem dX3_init_5 : decode cX3_init 5 = .ok (.iconst 0, 1) := by decide +kernel
theorem dX3_init_6 : decode cX3_init 6 = .ok (.iload_n 1, 1) := by decide +kernel
theorem dX3_init_7 : decode cX3_init 7 = .ok (.invokestatic 7, 3) := by decide +kernel
theorem dX3_init_10 : decode cX3_init 10 = .ok (.anewarray 13, 3) := by decide +kernel
theorem dX3_init_13 : decode cX3_init 13 = .ok (.putfield 15, 3) := by decide +kernel
theorem dX3_init_16 : decode cX3_init 16 = .ok (.return_, 1) := by decide +kernel
theorem dX3_at_0 : decode cX3_at 0 = .ok (.iload_n 1, 1) := by decide +kernel
theorem dX3_at_1 : decode cX3_at 1 = .ok (.ifCond .lt 20, 3) := by decide +kernel
theorem dX3_at_4 : decode cX3_at 4 = .ok (.iload_n 1, 1) := by decide +kernel
theorem dX3_at_5 : decode cX3_at 5 = .ok (.aload_n 0, 1) := by decide +kernel
theorem dX3_at_6 : decode cX3_at 6 = .ok (.getfield 21, 3) := by decide +kernel
theorem dX3_at_9 : decode cX3_at 9 = .ok (.if_icmp .ge 12, 3) := by decide +kernel
theorem dX3_at_12 : decode cX3_at 12 = .ok (.aload_n 0, 1) := by decide +kernel
theorem dX3_at_13 : decode cX3_at 13 = .ok (.getfield 15, 3) := by decide +kernel
theorem dX3_at_16 : decode cX3_at 16 = .ok (.iload_n 1, 1) := by decide +kernel
theorem dX3_at_17 : decode cX3_at 17 = .ok (.aaload, 1) := by decide +kernel
theorem dX3_at_18 : decode cX3_at 18 = .ok (.goto 4, 3) := by decide +kernel
theorem dX3_at_21 : decode cX3_at 21 = .ok (.aconst_null, 1) := by decide +kernel
theorem dX3_at_22 : decode cX3_at 22 = .ok (.areturn, 1) := by decide +kernel
theorem dX3_append_0 : decode cX3_append 0 = .ok (.aload_n 0, 1) := by decide +kernel
theorem dX3_append_1 : decode cX3_append 1 = .ok (.getfield 21, 3) := by decide +kernel
theorem dX3_append_4 : decode cX3_append 4 = .ok (.aload_n 0, 1) := by decide +kernel
theorem dX3_append_5 : decode cX3_append 5 = .ok (.getfield 15, 3) := by decide +kernel
theorem dX3_append_8 : decode cX3_append 8 = .ok (.arraylength, 1) := by decide +kernel
theorem dX3_append_9 : decode cX3_append 9 = .ok (.if_icmp .lt 5, 3) := by decide +kernel
theorem dX3_append_12 : decode cX3_append 12 = .ok (.iconst 0, 1) := by decide +kernel
theorem dX3_append_13 : decode cX3_append 13 = .ok (.ireturn, 1) := by decide +kernel
theorem dX3_append_14 : decode cX3_append 14 = .ok (.aload_n 0, 1) := by decide +kernel
theorem dX3_append_15 : decode cX3_append 15 = .ok (.getfield 15, 3) := by decide +kernel
theorem dX3_append_18 : decode cX3_append 18 = .ok (.aload_n 0, 1) := by decide +kernel
theorem dX3_append_19 : decode cX3_append 19 = .ok (.getfield 21, 3) := by decide +kernel
theorem dX3_append_22 : decode cX3_append 22 = .ok (.aload_n 1, 1) := by decide +kernel
theorem dX3_append_23 : decode cX3_append 23 = .ok (.aastore, 1) := by decide +kernel
theorem dX3_append_24 : decode cX3_append 24 = .ok (.aload_n 0, 1) := by decide +kernel
theorem dX3_append_25 : decode cX3_append 25 = .ok (.dup, 1) := by decide +kernel
theorem dX3_append_26 : decode cX3_append 26 = .ok (.getfield 21, 3) := by decide +kernel
theorem dX3_append_29 : decode cX3_append 29 = .ok (.iconst 1, 1) := by decide +kernel
theorem dX3_append_30 : decode cX3_append 30 = .ok (.iadd, 1) := by decide +kernel
theorem dX3_append_31 : decode cX3_append 31 = .ok (.putfield 21, 3) := by decide +kernel
theorem dX3_append_34 : decode cX3_append 34 = .ok (.iconst 1, 1) := by decide +kernel
theorem dX3_append_35 : decode cX3_append 35 = .ok (.ireturn, 1) := by decide +kernel
theorem dX3_removeAt_0 : decode cX3_removeAt 0 = .ok (.iload_n 1, 1) := by decide +kernel
theorem dX3_removeAt_1 : decode cX3_removeAt 1 = .ok (.ifCond .lt 11, 3) := by decide +kernel
theorem dX3_removeAt_4 : decode cX3_removeAt 4 = .ok (.iload_n 1, 1) := by decide +kernel
theorem dX3_removeAt_5 : decode cX3_removeAt 5 = .ok (.aload_n 0, 1) := by decide +kernel
theorem dX3_removeAt_6 : decode cX3_removeAt 6 = .ok (.getfield 21, 3) := by decide +kernel
theorem dX3_removeAt_9 : decode cX3_removeAt 9 = .ok (.if_icmp .lt 4, 3) := by decide +kernel
theorem dX3_removeAt_12 : decode cX3_removeAt 12 = .ok (.return_, 1) := by decide +kernel
theorem dX3_removeAt_13 : decode cX3_removeAt 13 = .ok (.iload_n 1, 1) := by decide +kernel
theorem dX3_removeAt_14 : decode cX3_removeAt 14 = .ok (.iconst 1, 1) := by decide +kernel
theorem dX3_removeAt_15 : decode cX3_removeAt 15 = .ok (.iadd, 1) := by decide +kernel
theorem dX3_removeAt_16 : decode cX3_removeAt 16 = .ok (.istore_n 2, 1) := by decide +kernel
theorem dX3_removeAt_17 : decode cX3_removeAt 17 = .ok (.iload_n 2, 1) := by decide +kernel
theorem dX3_removeAt_18 : decode cX3_removeAt 18 = .ok (.aload_n 0, 1) := by decide +kernel
theorem dX3_removeAt_19 : decode cX3_removeAt 19 = .ok (.getfield 21, 3) := by decide +kernel
theorem dX3_removeAt_22 : decode cX3_removeAt 22 = .ok (.if_icmp .ge 23, 3) := by decide +kernel
theorem dX3_removeAt_25 : decode cX3_removeAt 25 = .ok (.aload_n 0, 1) := by decide +kernel
theorem dX3_removeAt_26 : decode cX3_removeAt 26 = .ok (.getfield 15, 3) := by decide +kernel
theorem dX3_removeAt_29 : decode cX3_removeAt 29 = .ok (.iload_n 2, 1) := by decide +kernel
theorem dX3_removeAt_30 : decode cX3_removeAt 30 = .ok (.iconst 1, 1) := by decide +kernel
theorem dX3_removeAt_31 : decode cX3_removeAt 31 = .ok (.isub, 1) := by decide +kernel
theorem dX3_removeAt_32 : decode cX3_removeAt 32 = .ok (.aload_n 0, 1) := by decide +kernel
theorem dX3_removeAt_33 : decode cX3_removeAt 33 = .ok (.getfield 15, 3) := by decide +kernel
theorem dX3_removeAt_36 : decode cX3_removeAt 36 = .ok (.iload_n 2, 1) := by decide +kernel
theorem dX3_removeAt_37 : decode cX3_removeAt 37 = .ok (.aaload, 1) := by decide +kernel
theorem dX3_removeAt_38 : decode cX3_removeAt 38 = .ok (.aastore, 1) := by decide +kernel
theorem dX3_removeAt_39 : decode cX3_removeAt 39 = .ok (.iinc 2 1, 3) := by decide +kernel
theorem dX3_removeAt_42 : decode cX3_removeAt 42 = .ok (.goto (-25), 3) := by decide +kernel
theorem dX3_removeAt_45 : decode cX3_removeAt 45 = .ok (.aload_n 0, 1) := by decide +kernel
theorem dX3_removeAt_46 : decode cX3_removeAt 46 = .ok (.dup, 1) := by decide +kernel
theorem dX3_removeAt_47 : decode cX3_removeAt 47 = .ok (.getfield 21, 3) := by decide +kernel
theorem dX3_removeAt_50 : decode cX3_removeAt 50 = .ok (.iconst 1, 1) := by decide +kernel
theorem dX3_removeAt_51 : decode cX3_removeAt 51 = .ok (.isub, 1) := by decide +kernel
theorem dX3_removeAt_52 : decode cX3_removeAt 52 = .ok (.putfield 21, 3) := by decide +kernel
theorem dX3_removeAt_55 : decode cX3_removeAt 55 = .ok (.aload_n 0, 1) := by decide +kernel
theorem dX3_removeAt_56 : decode cX3_removeAt 56 = .ok (.getfield 15, 3) := by decide +kernel
theorem dX3_removeAt_59 : decode cX3_removeAt 59 = .ok (.aload_n 0, 1) := by decide +kernel
theorem dX3_removeAt_60 : decode cX3_removeAt 60 = .ok (.getfield 21, 3) := by decide +kernel
theorem dX3_removeAt_63 : decode cX3_removeAt 63 = .ok (.aconst_null, 1) := by decide +kernel
theorem dX3_removeAt_64 : decode cX3_removeAt 64 = .ok (.aastore, 1) := by decide +kernel
theorem dX3_removeAt_65 : decode cX3_removeAt 65 = .ok (.return_, 1) := by decide +kernel
theorem dX3_clear_0 : decode cX3_clear 0 = .ok (.iconst 0, 1) := by decide +kernel
theorem dX3_clear_1 : decode cX3_clear 1 = .ok (.istore_n 1, 1) := by decide +kernel
theorem dX3_clear_2 : decode cX3_clear 2 = .ok (.iload_n 1, 1) := by decide +kernel
theorem dX3_clear_3 : decode cX3_clear 3 = .ok (.aload_n 0, 1) := by decide +kernel
theorem dX3_clear_4 : decode cX3_clear 4 = .ok (.getfield 21, 3) := by decide +kernel
theorem dX3_clear_7 : decode cX3_clear 7 = .ok (.if_icmp .ge 16, 3) := by decide +kernel
theorem dX3_clear_10 : decode cX3_clear 10 = .ok (.aload_n 0, 1) := by decide +kernel
theorem dX3_clear_11 : decode cX3_clear 11 = .ok (.getfield 15, 3) := by decide +kernel
theorem dX3_clear_14 : decode cX3_clear 14 = .ok (.iload_n 1, 1) := by decide +kernel
theorem dX3_clear_15 : decode cX3_clear 15 = .ok (.aconst_null, 1) := by decide +kernel
theorem dX3_clear_16 : decode cX3_clear 16 = .ok (.aastore, 1) := by decide +kernel
theorem dX3_clear_17 : decode cX3_clear 17 = .ok (.iinc 1 1, 3) := by decide +kernel
theorem dX3_clear_20 : decode cX3_clear 20 = .ok (.goto (-18), 3) := by decide +kernel
theorem dX3_clear_23 : decode cX3_clear 23 = .ok (.aload_n 0, 1) := by decide +kernel
theorem dX3_clear_24 : decode cX3_clear 24 = .ok (.iconst 0, 1) := by decide +kernel
theorem dX3_clear_25 : decode cX3_clear 25 = .ok (.putfield 21, 3) := by decide +kernel
theorem dX3_clear_28 : decode cX3_clear 28 = .ok (.return_, 1) := by decide +kernel
theorem dX4_init_0 : decode cX4_init 0 = .ok (.aload_n 0, 1) := by decide +kernel
theorem dX4_init_1 : decode cX4_init 1 = .ok (.invokespecial 3, 3) := by decide +kernel
theorem dX4_init_4 : decode cX4_init 4 = .ok (.aload_n 0, 1) := by decide +kernel
theorem dX4_init_5 : decode cX4_init 5 = .ok (.new 9, 3) := by decide +kernel
theorem dX4_init_8 : decode cX4_init 8 = .ok (.dup, 1) := by decide +kernel
theorem dX4_init_9 : decode cX4_init 9 = .ok (.sipush 512, 3) := by decide +kernel
theorem dX4_init_12 : decode cX4_init 12 = .ok (.invokespecial 11, 3) := by decide +kernel
theorem dX4_init_15 : decode cX4_init 15 = .ok (.putfield 14, 3) := by decide +kernel
theorem dX4_init_18 : decode cX4_init 18 = .ok (.aload_n 0, 1) := by decide +kernel
theorem dX4_init_19 : decode cX4_init 19 = .ok (.bipush 8, 2) := by decide +kernel
theorem dX4_init_21 : decode cX4_init 21 = .ok (.anewarray 20, 3) := by decide +kernel
theorem dX4_init_24 : decode cX4_init 24 = .ok (.putfield 22, 3) := by decide +kernel
theorem dX4_init_27 : decode cX4_init 27 = .ok (.aload_n 0, 1) := by decide +kernel
theorem dX4_init_28 : decode cX4_init 28 = .ok (.bipush 8, 2) := by decide +kernel
theorem dX4_init_30 : decode cX4_init 30 = .ok (.anewarray 20, 3) := by decide +kernel
theorem dX4_init_33 : decode cX4_init 33 = .ok (.putfield 26, 3) := by decide +kernel
theorem dX4_init_36 : decode cX4_init 36 = .ok (.aload_n 0, 1) := by decide +kernel
theorem dX4_init_37 : decode cX4_init 37 = .ok (.iconst 1, 1) := by decide +kernel
theorem dX4_init_38 : decode cX4_init 38 = .ok (.putfield 29, 3) := by decide +kernel
theorem dX4_init_41 : decode cX4_init 41 = .ok (.aload_n 0, 1) := by decide +kernel
theorem dX4_init_42 : decode cX4_init 42 = .ok (.iconst 1, 1) := by decide +kernel
theorem dX4_init_43 : decode cX4_init 43 = .ok (.putfield 33, 3) := by decide +kernel
theorem dX4_init_46 : decode cX4_init 46 = .ok (.aload_n 0, 1) := by decide +kernel
theorem dX4_init_47 : decode cX4_init 47 = .ok (.iload_n 1, 1) := by decide +kernel
theorem dX4_init_48 : decode cX4_init 48 = .ok (.putfield 36, 3) := by decide +kernel
theorem dX4_init_51 : decode cX4_init 51 = .ok (.iconst 1, 1) := by decide +kernel
theorem dX4_init_52 : decode cX4_init 52 = .ok (.iload_n 2, 1) := by decide +kernel
theorem dX4_init_53 : decode cX4_init 53 = .ok (.invokestatic 40, 3) := by decide +kernel
theorem dX4_init_56 : decode cX4_init 56 = .ok (.istore_n 3, 1) := by decide +kernel
theorem dX4_init_57 : decode cX4_init 57 = .ok (.iconst 0, 1) := by decide +kernel
theorem dX4_init_58 : decode cX4_init 58 = .ok (.istore 4, 2) := by decide +kernel
theorem dX4_init_60 : decode cX4_init 60 = .ok (.iload 4, 2) := by decide +kernel
theorem dX4_init_62 : decode cX4_init 62 = .ok (.bipush 8, 2) := by decide +kernel
theorem dX4_init_64 : decode cX4_init 64 = .ok (.if_icmp .ge 100, 3) := by decide +kernel
theorem dX4_init_67 : decode cX4_init 67 = .ok (.new 20, 3) := by decide +kernel
theorem dX4_init_70 : decode cX4_init 70 = .ok (.dup, 1) := by decide +kernel
theorem dX4_init_71 : decode cX4_init 71 = .ok (.invokespecial 46, 3) := by decide +kernel
theorem dX4_init_74 : decode cX4_init 74 = .ok (.astore 5, 2) := by decide +kernel
theorem dX4_init_76 : decode cX4_init 76 = .ok (.aload 5, 2) := by decide +kernel
theorem dX4_init_78 : decode cX4_init 78 = .ok (.iload 4, 2) := by decide +kernel
theorem dX4_init_80 : decode cX4_init 80 = .ok (.iload_n 3, 1) := by decide +kernel
theorem dX4_init_81 : decode cX4_init 81 = .ok (.irem, 1) := by decide +kernel
theorem dX4_init_82 : decode cX4_init 82 = .ok (.putfield 47, 3) := by decide +kernel
theorem dX4_init_85 : decode cX4_init 85 = .ok (.aload 5, 2) := by decide +kernel
theorem dX4_init_87 : decode cX4_init 87 = .ok (.aload 5, 2) := by decide +kernel
theorem dX4_init_89 : decode cX4_init 89 = .ok (.getfield 47, 3) := by decide +kernel
theorem dX4_init_92 : decode cX4_init 92 = .ok (.iload_n 1, 1) := by decide +kernel
theorem dX4_init_93 : decode cX4_init 93 = .ok (.if_icmp .ne 7, 3) := by decide +kernel
theorem dX4_init_96 : decode cX4_init 96 = .ok (.iconst 1, 1) := by decide +kernel
theorem dX4_init_97 : decode cX4_init 97 = .ok (.goto 4, 3) := by decide +kernel
theorem dX4_init_100 : decode cX4_init 100 = .ok (.iconst 0, 1) := by decide +kernel
theorem dX4_init_101 : decode cX4_init 101 = .ok (.putfield 50, 3) := by decide +kernel
theorem dX4_init_104 : decode cX4_init 104 = .ok (.aload 5, 2) := by decide +kernel
theorem dX4_init_106 : decode cX4_init 106 = .ok (.aload 5, 2) := by decide +kernel
theorem dX4_init_108 : decode cX4_init 108 = .ok (.getfield 47, 3) := by decide +kernel
theorem dX4_init_111 : decode cX4_init 111 = .ok (.iload_n 1, 1) := by decide +kernel
theorem dX4_init_112 : decode cX4_init 112 = .ok (.if_icmp .ne 7, 3) := by decide +kernel
theorem dX4_init_115 : decode cX4_init 115 = .ok (.iconst 1, 1) := by decide +kernel
theorem dX4_init_116 : decode cX4_init 116 = .ok (.goto 4, 3) := by decide +kernel
theorem dX4_init_119 : decode cX4_init 119 = .ok (.iconst 0, 1) := by decide +kernel
theorem dX4_init_120 : decode cX4_init 120 = .ok (.putfield 53, 3) := by decide +kernel
theorem dX4_init_123 : decode cX4_init 123 = .ok (.aload_n 0, 1) := by decide +kernel
theorem dX4_init_124 : decode cX4_init 124 = .ok (.getfield 22, 3) := by decide +kernel
theorem dX4_init_127 : decode cX4_init 127 = .ok (.iload 4, 2) := by decide +kernel
theorem dX4_init_129 : decode cX4_init 129 = .ok (.aload 5, 2) := by decide +kernel
theorem dX4_init_131 : decode cX4_init 131 = .ok (.aastore, 1) := by decide +kernel
theorem dX4_init_132 : decode cX4_init 132 = .ok (.aload_n 0, 1) := by decide +kernel
theorem dX4_init_133 : decode cX4_init 133 = .ok (.getfield 26, 3) := by decide +kernel
theorem dX4_init_136 : decode cX4_init 136 = .ok (.iload 4, 2) := by decide +kernel
theorem dX4_init_138 : decode cX4_init 138 = .ok (.new 20, 3) := by decide +kernel
theorem dX4_init_141 : decode cX4_init 141 = .ok (.dup, 1) := by decide +kernel
theorem dX4_init_142 : decode cX4_init 142 = .ok (.invokespecial 46, 3) := by decide +kernel
theorem dX4_init_145 : decode cX4_init 145 = .ok (.aastore, 1) := by decide +kernel
theorem dX4_init_146 : decode cX4_init 146 = .ok (.aload_n 0, 1) := by decide +kernel
theorem dX4_init_147 : decode cX4_init 147 = .ok (.getfield 26, 3) := by decide +kernel
theorem dX4_init_150 : decode cX4_init 150 = .ok (.iload 4, 2) := by decide +kernel
theorem dX4_init_152 : decode cX4_init 152 = .ok (.aaload, 1) := by decide +kernel
theorem dX4_init_153 : decode cX4_init 153 = .ok (.aload 5, 2) := by decide +kernel
theorem dX4_init_155 : decode cX4_init 155 = .ok (.invokevirtual 56, 3) := by decide +kernel
theorem dX4_init_158 : decode cX4_init 158 = .ok (.iinc 4 1, 3) := by decide +kernel
theorem dX4_init_161 : decode cX4_init 161 = .ok (.goto (-101), 3) := by decide +kernel
theorem dX4_init_164 : decode cX4_init 164 = .ok (.return_, 1) := by decide +kernel
theorem dX4_bucketAt_0 : decode cX4_bucketAt 0 = .ok (.iload_n 1, 1) := by decide +kernel
theorem dX4_bucketAt_1 : decode cX4_bucketAt 1 = .ok (.ifCond .lt 18, 3) := by decide +kernel
theorem dX4_bucketAt_4 : decode cX4_bucketAt 4 = .ok (.iload_n 1, 1) := by decide +kernel
theorem dX4_bucketAt_5 : decode cX4_bucketAt 5 = .ok (.bipush 8, 2) := by decide +kernel
theorem dX4_bucketAt_7 : decode cX4_bucketAt 7 = .ok (.if_icmp .ge 12, 3) := by decide +kernel
theorem dX4_bucketAt_10 : decode cX4_bucketAt 10 = .ok (.aload_n 0, 1) := by decide +kernel
theorem dX4_bucketAt_11 : decode cX4_bucketAt 11 = .ok (.getfield 22, 3) := by decide +kernel
theorem dX4_bucketAt_14 : decode cX4_bucketAt 14 = .ok (.iload_n 1, 1) := by decide +kernel
theorem dX4_bucketAt_15 : decode cX4_bucketAt 15 = .ok (.aaload, 1) := by decide +kernel
theorem dX4_bucketAt_16 : decode cX4_bucketAt 16 = .ok (.goto 4, 3) := by decide +kernel
theorem dX4_bucketAt_19 : decode cX4_bucketAt 19 = .ok (.aconst_null, 1) := by decide +kernel
theorem dX4_bucketAt_20 : decode cX4_bucketAt 20 = .ok (.areturn, 1) := by decide +kernel
theorem dX4_keep_0 : decode cX4_keep 0 = .ok (.iconst 0, 1) := by decide +kernel
theorem dX4_keep_1 : decode cX4_keep 1 = .ok (.istore_n 1, 1) := by decide +kernel
theorem dX4_keep_2 : decode cX4_keep 2 = .ok (.iload_n 1, 1) := by decide +kernel
theorem dX4_keep_3 : decode cX4_keep 3 = .ok (.bipush 8, 2) := by decide +kernel
theorem dX4_keep_5 : decode cX4_keep 5 = .ok (.if_icmp .ge 24, 3) := by decide +kernel
theorem dX4_keep_8 : decode cX4_keep 8 = .ok (.aload_n 0, 1) := by decide +kernel
theorem dX4_keep_9 : decode cX4_keep 9 = .ok (.getfield 26, 3) := by decide +kernel
theorem dX4_keep_12 : decode cX4_keep 12 = .ok (.iload_n 1, 1) := by decide +kernel
theorem dX4_keep_13 : decode cX4_keep 13 = .ok (.aaload, 1) := by decide +kernel
theorem dX4_keep_14 : decode cX4_keep 14 = .ok (.aload_n 0, 1) := by decide +kernel
theorem dX4_keep_15 : decode cX4_keep 15 = .ok (.getfield 22, 3) := by decide +kernel
theorem dX4_keep_18 : decode cX4_keep 18 = .ok (.iload_n 1, 1) := by decide +kernel
theorem dX4_keep_19 : decode cX4_keep 19 = .ok (.aaload, 1) := by decide +kernel
theorem dX4_keep_20 : decode cX4_keep 20 = .ok (.invokevirtual 56, 3) := by decide +kernel
theorem dX4_keep_23 : decode cX4_keep 23 = .ok (.iinc 1 1, 3) := by decide +kernel
theorem dX4_keep_26 : decode cX4_keep 26 = .ok (.goto (-24), 3) := by decide +kernel
theorem dX4_keep_29 : decode cX4_keep 29 = .ok (.aload_n 0, 1) := by decide +kernel
theorem dX4_keep_30 : decode cX4_keep 30 = .ok (.iconst 1, 1) := by decide +kernel
theorem dX4_keep_31 : decode cX4_keep 31 = .ok (.putfield 33, 3) := by decide +kernel
theorem dX4_keep_34 : decode cX4_keep 34 = .ok (.return_, 1) := by decide +kernel
theorem dX4_restore_0 : decode cX4_restore 0 = .ok (.iconst 0, 1) := by decide +kernel
theorem dX4_restore_1 : decode cX4_restore 1 = .ok (.istore_n 1, 1) := by decide +kernel
theorem dX4_restore_2 : decode cX4_restore 2 = .ok (.iload_n 1, 1) := by decide +kernel
theorem dX4_restore_3 : decode cX4_restore 3 = .ok (.bipush 8, 2) := by decide +kernel
theorem dX4_restore_5 : decode cX4_restore 5 = .ok (.if_icmp .ge 24, 3) := by decide +kernel
theorem dX4_restore_8 : decode cX4_restore 8 = .ok (.aload_n 0, 1) := by decide +kernel
theorem dX4_restore_9 : decode cX4_restore 9 = .ok (.getfield 22, 3) := by decide +kernel
theorem dX4_restore_12 : decode cX4_restore 12 = .ok (.iload_n 1, 1) := by decide +kernel
theorem dX4_restore_13 : decode cX4_restore 13 = .ok (.aaload, 1) := by decide +kernel
theorem dX4_restore_14 : decode cX4_restore 14 = .ok (.aload_n 0, 1) := by decide +kernel
theorem dX4_restore_15 : decode cX4_restore 15 = .ok (.getfield 26, 3) := by decide +kernel
theorem dX4_restore_18 : decode cX4_restore 18 = .ok (.iload_n 1, 1) := by decide +kernel
theorem dX4_restore_19 : decode cX4_restore 19 = .ok (.aaload, 1) := by decide +kernel
theorem dX4_restore_20 : decode cX4_restore 20 = .ok (.invokevirtual 56, 3) := by decide +kernel
theorem dX4_restore_23 : decode cX4_restore 23 = .ok (.iinc 1 1, 3) := by decide +kernel
theorem dX4_restore_26 : decode cX4_restore 26 = .ok (.goto (-24), 3) := by decide +kernel
theorem dX4_restore_29 : decode cX4_restore 29 = .ok (.aload_n 0, 1) := by decide +kernel
theorem dX4_restore_30 : decode cX4_restore 30 = .ok (.iconst 1, 1) := by decide +kernel
theorem dX4_restore_31 : decode cX4_restore 31 = .ok (.putfield 33, 3) := by decide +kernel
theorem dX4_restore_34 : decode cX4_restore 34 = .ok (.return_, 1) := by decide +kernel
theorem dX4_recordsInAll_0 : decode cX4_recordsInAll 0 = .ok (.iconst 0, 1) := by decide +kernel
theorem dX4_recordsInAll_1 : decode cX4_recordsInAll 1 = .ok (.istore_n 1, 1) := by decide +kernel
theorem dX4_recordsInAll_2 : decode cX4_recordsInAll 2 = .ok (.iconst 0, 1) := by decide +kernel
theorem dX4_recordsInAll_3 : decode cX4_recordsInAll 3 = .ok (.istore_n 2, 1) := by decide +kernel
theorem dX4_recordsInAll_4 : decode cX4_recordsInAll 4 = .ok (.iload_n 2, 1) := by decide +kernel
theorem dX4_recordsInAll_5 : decode cX4_recordsInAll 5 = .ok (.bipush 8, 2) := by decide +kernel
theorem dX4_recordsInAll_7 : decode cX4_recordsInAll 7 = .ok (.if_icmp .ge 21, 3) := by decide +kernel
theorem dX4_recordsInAll_10 : decode cX4_recordsInAll 10 = .ok (.iload_n 1, 1) := by decide +kernel
theorem dX4_recordsInAll_11 : decode cX4_recordsInAll 11 = .ok (.aload_n 0, 1) := by decide +kernel
theorem dX4_recordsInAll_12 : decode cX4_recordsInAll 12 = .ok (.getfield 22, 3) := by decide +kernel
theorem dX4_recordsInAll_15 : decode cX4_recordsInAll 15 = .ok (.iload_n 2, 1) := by decide +kernel
theorem dX4_recordsInAll_16 : decode cX4_recordsInAll 16 = .ok (.aaload, 1) := by decide +kernel
theorem dX4_recordsInAll_17 : decode cX4_recordsInAll 17 = .ok (.getfield 60, 3) := by decide +kernel
theorem dX4_recordsInAll_20 : decode cX4_recordsInAll 20 = .ok (.iadd, 1) := by decide +kernel
theorem dX4_recordsInAll_21 : decode cX4_recordsInAll 21 = .ok (.istore_n 1, 1) := by decide +kernel
theorem dX4_recordsInAll_22 : decode cX4_recordsInAll 22 = .ok (.iinc 2 1, 3) := by decide +kernel
theorem dX4_recordsInAll_25 : decode cX4_recordsInAll 25 = .ok (.goto (-21), 3) := by decide +kernel
theorem dX4_recordsInAll_28 : decode cX4_recordsInAll 28 = .ok (.iload_n 1, 1) := by decide +kernel
theorem dX4_recordsInAll_29 : decode cX4_recordsInAll 29 = .ok (.ireturn, 1) := by decide +kernel
theorem dJ9_max_7cf53_0 : decode cJ9_max_7cf53 0 = .ok (.iload_n 0, 1) := by decide +kernel
theorem dJ9_max_7cf53_1 : decode cJ9_max_7cf53 1 = .ok (.iload_n 1, 1) := by decide +kernel
theorem dJ9_max_7cf53_2 : decode cJ9_max_7cf53 2 = .ok (.if_icmp .lt 7, 3) := by decide +kernel
theorem dJ9_max_7cf53_5 : decode cJ9_max_7cf53 5 = .ok (.iload_n 0, 1) := by decide +kernel
theorem dJ9_max_7cf53_6 : decode cJ9_max_7cf53 6 = .ok (.goto 4, 3) := by decide +kernel
theorem dJ9_max_7cf53_9 : decode cJ9_max_7cf53 9 = .ok (.iload_n 1, 1) := by decide +kernel
theorem dJ9_max_7cf53_10 : decode cJ9_max_7cf53 10 = .ok (.ireturn, 1) := by decide +kernel
theorem dJ7_fill_d0a16_0 : decode cJ7_fill_d0a16 0 = .ok (.iconst 0, 1) := by decide +kernel
theorem dJ7_fill_d0a16_1 : decode cJ7_fill_d0a16 1 = .ok (.istore_n 3, 1) := by decide +kernel
theorem dJ7_fill_d0a16_2 : decode cJ7_fill_d0a16 2 = .ok (.aload_n 0, 1) := by decide +kernel
theorem dJ7_fill_d0a16_3 : decode cJ7_fill_d0a16 3 = .ok (.arraylength, 1) := by decide +kernel
theorem dJ7_fill_d0a16_4 : decode cJ7_fill_d0a16 4 = .ok (.istore 4, 2) := by decide +kernel
theorem dJ7_fill_d0a16_6 : decode cJ7_fill_d0a16 6 = .ok (.iload_n 3, 1) := by decide +kernel
theorem dJ7_fill_d0a16_7 : decode cJ7_fill_d0a16 7 = .ok (.iload 4, 2) := by decide +kernel
theorem dJ7_fill_d0a16_9 : decode cJ7_fill_d0a16 9 = .ok (.if_icmp .ge 13, 3) := by decide +kernel
theorem dJ7_fill_d0a16_12 : decode cJ7_fill_d0a16 12 = .ok (.aload_n 0, 1) := by decide +kernel
theorem dJ7_fill_d0a16_13 : decode cJ7_fill_d0a16 13 = .ok (.iload_n 3, 1) := by decide +kernel
theorem dJ7_fill_d0a16_14 : decode cJ7_fill_d0a16 14 = .ok (.lload_n 1, 1) := by decide +kernel
theorem dJ7_fill_d0a16_15 : decode cJ7_fill_d0a16 15 = .ok (.lastore, 1) := by decide +kernel
theorem dJ7_fill_d0a16_16 : decode cJ7_fill_d0a16 16 = .ok (.iinc 3 1, 3) := by decide +kernel
theorem dJ7_fill_d0a16_19 : decode cJ7_fill_d0a16 19 = .ok (.goto (-13), 3) := by decide +kernel
theorem dJ7_fill_d0a16_22 : decode cJ7_fill_d0a16 22 = .ok (.return_, 1) := by decide +kernel
theorem dJ7_fill_53178_0 : decode cJ7_fill_53178 0 = .ok (.iconst 0, 1) := by decide +kernel
theorem dJ7_fill_53178_1 : decode cJ7_fill_53178 1 = .ok (.istore_n 2, 1) := by decide +kernel
theorem dJ7_fill_53178_2 : decode cJ7_fill_53178 2 = .ok (.aload_n 0, 1) := by decide +kernel
theorem dJ7_fill_53178_3 : decode cJ7_fill_53178 3 = .ok (.arraylength, 1) := by decide +kernel
theorem dJ7_fill_53178_4 : decode cJ7_fill_53178 4 = .ok (.istore_n 3, 1) := by decide +kernel
theorem dJ7_fill_53178_5 : decode cJ7_fill_53178 5 = .ok (.iload_n 2, 1) := by decide +kernel
theorem dJ7_fill_53178_6 : decode cJ7_fill_53178 6 = .ok (.iload_n 3, 1) := by decide +kernel
theorem dJ7_fill_53178_7 : decode cJ7_fill_53178 7 = .ok (.if_icmp .ge 13, 3) := by decide +kernel
theorem dJ7_fill_53178_10 : decode cJ7_fill_53178 10 = .ok (.aload_n 0, 1) := by decide +kernel
theorem dJ7_fill_53178_11 : decode cJ7_fill_53178 11 = .ok (.iload_n 2, 1) := by decide +kernel
theorem dJ7_fill_53178_12 : decode cJ7_fill_53178 12 = .ok (.iload_n 1, 1) := by decide +kernel
theorem dJ7_fill_53178_13 : decode cJ7_fill_53178 13 = .ok (.iastore, 1) := by decide +kernel
theorem dJ7_fill_53178_14 : decode cJ7_fill_53178 14 = .ok (.iinc 2 1, 3) := by decide +kernel
theorem dJ7_fill_53178_17 : decode cJ7_fill_53178 17 = .ok (.goto (-12), 3) := by decide +kernel
theorem dJ7_fill_53178_20 : decode cJ7_fill_53178 20 = .ok (.return_, 1) := by decide +kernel
