theorem dX5_init_0 : decode cX5_init 0 = .ok (.aload_n 0, 1) := by decide +kernel
theorem dX5_init_1 : decode cX5_init 1 = .ok (.invokespecial 3, 3) := by decide +kernel
theorem dX5_init_4 : decode cX5_init 4 = .ok (.iload_n 1, 1) := by decide +kernel
theorem dX5_init_5 : decode cX5_init 5 = .ok (.iconst 2, 1) := by decide +kernel
theorem dX5_init_6 : decode cX5_init 6 = .ok (.if_icmp .lt 12, 3) := by decide +kernel
theorem dX5_init_9 : decode cX5_init 9 = .ok (.iload_n 1, 1) := by decide +kernel
theorem dX5_init_10 : decode cX5_init 10 = .ok (.iconst 4, 1) := by decide +kernel
theorem dX5_init_11 : decode cX5_init 11 = .ok (.if_icmp .gt 7, 3) := by decide +kernel
theorem dX5_init_14 : decode cX5_init 14 = .ok (.iload_n 1, 1) := by decide +kernel
theorem dX5_init_15 : decode cX5_init 15 = .ok (.goto 4, 3) := by decide +kernel
theorem dX5_init_18 : decode cX5_init 18 = .ok (.iconst 3, 1) := by decide +kernel
theorem dX5_init_19 : decode cX5_init 19 = .ok (.istore_n 3, 1) := by decide +kernel
theorem dX5_init_20 : decode cX5_init 20 = .ok (.aload_n 0, 1) := by decide +kernel
theorem dX5_init_21 : decode cX5_init 21 = .ok (.iload_n 2, 1) := by decide +kernel
theorem dX5_init_22 : decode cX5_init 22 = .ok (.iconst 1, 1) := by decide +kernel
theorem dX5_init_23 : decode cX5_init 23 = .ok (.if_icmp .lt 14, 3) := by decide +kernel
theorem dX5_init_26 : decode cX5_init 26 = .ok (.iload_n 2, 1) := by decide +kernel
theorem dX5_init_27 : decode cX5_init 27 = .ok (.sipush 1000, 3) := by decide +kernel
theorem dX5_init_30 : decode cX5_init 30 = .ok (.if_icmp .gt 7, 3) := by decide +kernel
theorem dX5_init_33 : decode cX5_init 33 = .ok (.iload_n 2, 1) := by decide +kernel
theorem dX5_init_34 : decode cX5_init 34 = .ok (.goto 5, 3) := by decide +kernel
theorem dX5_init_37 : decode cX5_init 37 = .ok (.bipush 50, 2) := by decide +kernel
theorem dX5_init_39 : decode cX5_init 39 = .ok (.putfield 9, 3) := by decide +kernel
theorem dX5_init_42 : decode cX5_init 42 = .ok (.aload_n 0, 1) := by decide +kernel
theorem dX5_init_43 : decode cX5_init 43 = .ok (.iload_n 3, 1) := by decide +kernel
theorem dX5_init_44 : decode cX5_init 44 = .ok (.anewarray 13, 3) := by decide +kernel
theorem dX5_init_47 : decode cX5_init 47 = .ok (.putfield 15, 3) := by decide +kernel
theorem dX5_init_50 : decode cX5_init 50 = .ok (.iconst 0, 1) := by decide +kernel
theorem dX5_init_51 : decode cX5_init 51 = .ok (.istore 4, 2) := by decide +kernel
theorem dX5_init_53 : decode cX5_init 53 = .ok (.iload 4, 2) := by decide +kernel
theorem dX5_init_55 : decode cX5_init 55 = .ok (.iload_n 3, 1) := by decide +kernel
theorem dX5_init_56 : decode cX5_init 56 = .ok (.if_icmp .ge 26, 3) := by decide +kernel
theorem dX5_init_59 : decode cX5_init 59 = .ok (.aload_n 0, 1) := by decide +kernel
theorem dX5_init_60 : decode cX5_init 60 = .ok (.getfield 15, 3) := by decide +kernel
theorem dX5_init_63 : decode cX5_init 63 = .ok (.iload 4, 2) := by decide +kernel
theorem dX5_init_65 : decode cX5_init 65 = .ok (.new 13, 3) := by decide +kernel
theorem dX5_init_68 : decode cX5_init 68 = .ok (.dup, 1) := by decide +kernel
theorem dX5_init_69 : decode cX5_init 69 = .ok (.iload 4, 2) := by decide +kernel
theorem dX5_init_71 : decode cX5_init 71 = .ok (.iload_n 3, 1) := by decide +kernel
theorem dX5_init_72 : decode cX5_init 72 = .ok (.invokespecial 19, 3) := by decide +kernel
theorem dX5_init_75 : decode cX5_init 75 = .ok (.aastore, 1) := by decide +kernel
theorem dX5_init_76 : decode cX5_init 76 = .ok (.iinc 4 1, 3) := by decide +kernel
theorem dX5_init_79 : decode cX5_init 79 = .ok (.goto (-26), 3) := by decide +kernel
theorem dX5_init_82 : decode cX5_init 82 = .ok (.aload_n 0, 1) := by decide +kernel
theorem dX5_init_83 : decode cX5_init 83 = .ok (.bipush 6, 2) := by decide +kernel
theorem dX5_init_85 : decode cX5_init 85 = .ok (.anewarray 22, 3) := by decide +kernel
theorem dX5_init_88 : decode cX5_init 88 = .ok (.putfield 24, 3) := by decide +kernel
theorem dX5_init_91 : decode cX5_init 91 = .ok (.iconst 0, 1) := by decide +kernel
theorem dX5_init_92 : decode cX5_init 92 = .ok (.istore 4, 2) := by decide +kernel
theorem dX5_init_94 : decode cX5_init 94 = .ok (.iload 4, 2) := by decide +kernel
theorem dX5_init_96 : decode cX5_init 96 = .ok (.bipush 6, 2) := by decide +kernel
theorem dX5_init_98 : decode cX5_init 98 = .ok (.if_icmp .ge 26, 3) := by decide +kernel
theorem dX5_init_101 : decode cX5_init 101 = .ok (.aload_n 0, 1) := by decide +kernel
theorem dX5_init_102 : decode cX5_init 102 = .ok (.getfield 24, 3) := by decide +kernel
theorem dX5_init_105 : decode cX5_init 105 = .ok (.iload 4, 2) := by decide +kernel
theorem dX5_init_107 : decode cX5_init 107 = .ok (.new 22, 3) := by decide +kernel
theorem dX5_init_110 : decode cX5_init 110 = .ok (.dup, 1) := by decide +kernel
theorem dX5_init_111 : decode cX5_init 111 = .ok (.iload 4, 2) := by decide +kernel
theorem dX5_init_113 : decode cX5_init 113 = .ok (.iload_n 3, 1) := by decide +kernel
theorem dX5_init_114 : decode cX5_init 114 = .ok (.invokespecial 28, 3) := by decide +kernel
theorem dX5_init_117 : decode cX5_init 117 = .ok (.aastore, 1) := by decide +kernel
theorem dX5_init_118 : decode cX5_init 118 = .ok (.iinc 4 1, 3) := by decide +kernel
theorem dX5_init_121 : decode cX5_init 121 = .ok (.goto (-27), 3) := by decide +kernel
theorem dX5_init_124 : decode cX5_init 124 = .ok (.aload_n 0, 1) := by decide +kernel
theorem dX5_init_125 : decode cX5_init 125 = .ok (.new 29, 3) := by decide +kernel
theorem dX5_init_128 : decode cX5_init 128 = .ok (.dup, 1) := by decide +kernel
theorem dX5_init_129 : decode cX5_init 129 = .ok (.sipush 400, 3) := by decide +kernel
theorem dX5_init_132 : decode cX5_init 132 = .ok (.invokespecial 31, 3) := by decide +kernel
theorem dX5_init_135 : decode cX5_init 135 = .ok (.putfield 34, 3) := by decide +kernel
theorem dX5_init_138 : decode cX5_init 138 = .ok (.return_, 1) := by decide +kernel
theorem dX5_open_0 : decode cX5_open 0 = .ok (.aload_n 0, 1) := by decide +kernel
theorem dX5_open_1 : decode cX5_open 1 = .ok (.iload_n 1, 1) := by decide +kernel
theorem dX5_open_2 : decode cX5_open 2 = .ok (.invokevirtual 38, 3) := by decide +kernel
theorem dX5_open_5 : decode cX5_open 5 = .ok (.astore_n 2, 1) := by decide +kernel
theorem dX5_open_6 : decode cX5_open 6 = .ok (.aload_n 2, 1) := by decide +kernel
theorem dX5_open_7 : decode cX5_open 7 = .ok (.ifnonnull 5, 3) := by decide +kernel
theorem dX5_open_10 : decode cX5_open 10 = .ok (.iconst (-1), 1) := by decide +kernel
theorem dX5_open_11 : decode cX5_open 11 = .ok (.ireturn, 1) := by decide +kernel
theorem dX5_open_12 : decode cX5_open 12 = .ok (.aload_n 0, 1) := by decide +kernel
theorem dX5_open_13 : decode cX5_open 13 = .ok (.dup, 1) := by decide +kernel
theorem dX5_open_14 : decode cX5_open 14 = .ok (.getfield 42, 3) := by decide +kernel
theorem dX5_open_17 : decode cX5_open 17 = .ok (.iconst 1, 1) := by decide +kernel
theorem dX5_open_18 : decode cX5_open 18 = .ok (.iadd, 1) := by decide +kernel
theorem dX5_open_19 : decode cX5_open 19 = .ok (.putfield 42, 3) := by decide +kernel
theorem dX5_open_22 : decode cX5_open 22 = .ok (.aload_n 2, 1) := by decide +kernel
theorem dX5_open_23 : decode cX5_open 23 = .ok (.aload_n 0, 1) := by decide +kernel
theorem dX5_open_24 : decode cX5_open 24 = .ok (.getfield 42, 3) := by decide +kernel
theorem dX5_open_27 : decode cX5_open 27 = .ok (.putfield 45, 3) := by decide +kernel
theorem dX5_open_30 : decode cX5_open 30 = .ok (.aload_n 2, 1) := by decide +kernel
theorem dX5_open_31 : decode cX5_open 31 = .ok (.iconst 0, 1) := by decide +kernel
theorem dX5_open_32 : decode cX5_open 32 = .ok (.putfield 48, 3) := by decide +kernel
theorem dX5_open_35 : decode cX5_open 35 = .ok (.aload_n 2, 1) := by decide +kernel
theorem dX5_open_36 : decode cX5_open 36 = .ok (.aload_n 0, 1) := by decide +kernel
theorem dX5_open_37 : decode cX5_open 37 = .ok (.getfield 51, 3) := by decide +kernel
theorem dX5_open_40 : decode cX5_open 40 = .ok (.aload_n 0, 1) := by decide +kernel
theorem dX5_open_41 : decode cX5_open 41 = .ok (.getfield 9, 3) := by decide +kernel
theorem dX5_open_44 : decode cX5_open 44 = .ok (.iadd, 1) := by decide +kernel
theorem dX5_open_45 : decode cX5_open 45 = .ok (.putfield 54, 3) := by decide +kernel
theorem dX5_open_48 : decode cX5_open 48 = .ok (.aload_n 2, 1) := by decide +kernel
theorem dX5_open_49 : decode cX5_open 49 = .ok (.getfield 45, 3) := by decide +kernel
theorem dX5_open_52 : decode cX5_open 52 = .ok (.ireturn, 1) := by decide +kernel
theorem dX5_renew_0 : decode cX5_renew 0 = .ok (.aload_n 0, 1) := by decide +kernel
theorem dX5_renew_1 : decode cX5_renew 1 = .ok (.iload_n 1, 1) := by decide +kernel
theorem dX5_renew_2 : decode cX5_renew 2 = .ok (.invokevirtual 38, 3) := by decide +kernel
theorem dX5_renew_5 : decode cX5_renew 5 = .ok (.astore_n 2, 1) := by decide +kernel
theorem dX5_renew_6 : decode cX5_renew 6 = .ok (.aload_n 2, 1) := by decide +kernel
theorem dX5_renew_7 : decode cX5_renew 7 = .ok (.ifnonnull 5, 3) := by decide +kernel
theorem dX5_renew_10 : decode cX5_renew 10 = .ok (.iconst (-1), 1) := by decide +kernel
theorem dX5_renew_11 : decode cX5_renew 11 = .ok (.ireturn, 1) := by decide +kernel
theorem dX5_renew_12 : decode cX5_renew 12 = .ok (.aload_n 0, 1) := by decide +kernel
theorem dX5_renew_13 : decode cX5_renew 13 = .ok (.iload_n 1, 1) := by decide +kernel
theorem dX5_renew_14 : decode cX5_renew 14 = .ok (.aload_n 2, 1) := by decide +kernel
theorem dX5_renew_15 : decode cX5_renew 15 = .ok (.getfield 45, 3) := by decide +kernel
theorem dX5_renew_18 : decode cX5_renew 18 = .ok (.invokevirtual 57, 3) := by decide +kernel
theorem dX5_renew_21 : decode cX5_renew 21 = .ok (.ifCond .ne 6, 3) := by decide +kernel
theorem dX5_renew_24 : decode cX5_renew 24 = .ok (.bipush (-3), 2) := by decide +kernel
theorem dX5_renew_26 : decode cX5_renew 26 = .ok (.ireturn, 1) := by decide +kernel
theorem dX5_renew_27 : decode cX5_renew 27 = .ok (.aload_n 2, 1) := by decide +kernel
theorem dX5_renew_28 : decode cX5_renew 28 = .ok (.aload_n 0, 1) := by decide +kernel
theorem dX5_renew_29 : decode cX5_renew 29 = .ok (.getfield 51, 3) := by decide +kernel
theorem dX5_renew_32 : decode cX5_renew 32 = .ok (.aload_n 0, 1) := by decide +kernel
theorem dX5_renew_33 : decode cX5_renew 33 = .ok (.getfield 9, 3) := by decide +kernel
theorem dX5_renew_36 : decode cX5_renew 36 = .ok (.iadd, 1) := by decide +kernel
theorem dX5_renew_37 : decode cX5_renew 37 = .ok (.putfield 54, 3) := by decide +kernel
theorem dX5_renew_40 : decode cX5_renew 40 = .ok (.aload_n 2, 1) := by decide +kernel
theorem dX5_renew_41 : decode cX5_renew 41 = .ok (.getfield 54, 3) := by decide +kernel
theorem dX5_renew_44 : decode cX5_renew 44 = .ok (.ireturn, 1) := by decide +kernel
theorem dX5_call_0 : decode cX5_call 0 = .ok (.aload_n 0, 1) := by decide +kernel
theorem dX5_call_1 : decode cX5_call 1 = .ok (.iload_n 1, 1) := by decide +kernel
theorem dX5_call_2 : decode cX5_call 2 = .ok (.invokevirtual 38, 3) := by decide +kernel
theorem dX5_call_5 : decode cX5_call 5 = .ok (.astore 8, 2) := by decide +kernel
theorem dX5_call_7 : decode cX5_call 7 = .ok (.aload 8, 2) := by decide +kernel
theorem dX5_call_9 : decode cX5_call 9 = .ok (.ifnull 22, 3) := by decide +kernel
theorem dX5_call_12 : decode cX5_call 12 = .ok (.iload_n 2, 1) := by decide +kernel
theorem dX5_call_13 : decode cX5_call 13 = .ok (.ifCond .lt 18, 3) := by decide +kernel
theorem dX5_call_16 : decode cX5_call 16 = .ok (.iload_n 2, 1) := by decide +kernel
theorem dX5_call_17 : decode cX5_call 17 = .ok (.bipush 32, 2) := by decide +kernel
theorem dX5_call_19 : decode cX5_call 19 = .ok (.if_icmp .ge 12, 3) := by decide +kernel
theorem dX5_call_22 : decode cX5_call 22 = .ok (.iload_n 3, 1) := by decide +kernel
theorem dX5_call_23 : decode cX5_call 23 = .ok (.ifCond .lt 8, 3) := by decide +kernel
theorem dX5_call_26 : decode cX5_call 26 = .ok (.iload_n 3, 1) := by decide +kernel
theorem dX5_call_27 : decode cX5_call 27 = .ok (.iconst 3, 1) := by decide +kernel
theorem dX5_call_28 : decode cX5_call 28 = .ok (.if_icmp .le 5, 3) := by decide +kernel
theorem dX5_call_31 : decode cX5_call 31 = .ok (.iconst (-1), 1) := by decide +kernel
theorem dX5_call_32 : decode cX5_call 32 = .ok (.ireturn, 1) := by decide +kernel
theorem dX5_call_33 : decode cX5_call 33 = .ok (.aload 8, 2) := by decide +kernel
theorem dX5_call_35 : decode cX5_call 35 = .ok (.getfield 45, 3) := by decide +kernel
theorem dX5_call_38 : decode cX5_call 38 = .ok (.ifCond .ne 6, 3) := by decide +kernel
theorem dX5_call_41 : decode cX5_call 41 = .ok (.bipush (-3), 2) := by decide +kernel
theorem dX5_call_43 : decode cX5_call 43 = .ok (.ireturn, 1) := by decide +kernel
theorem dX5_call_44 : decode cX5_call 44 = .ok (.aload 8, 2) := by decide +kernel
theorem dX5_call_46 : decode cX5_call 46 = .ok (.getfield 48, 3) := by decide +kernel
theorem dX5_call_49 : decode cX5_call 49 = .ok (.bipush 60, 2) := by decide +kernel
theorem dX5_call_51 : decode cX5_call 51 = .ok (.if_icmp .ge 12, 3) := by decide +kernel
theorem dX5_call_54 : decode cX5_call 54 = .ok (.aload 8, 2) := by decide +kernel
theorem dX5_call_56 : decode cX5_call 56 = .ok (.invokevirtual 61, 3) := by decide +kernel
theorem dX5_call_59 : decode cX5_call 59 = .ok (.iconst 4, 1) := by decide +kernel
theorem dX5_call_60 : decode cX5_call 60 = .ok (.if_icmp .lt 6, 3) := by decide +kernel
theorem dX5_call_63 : decode cX5_call 63 = .ok (.bipush (-2), 2) := by decide +kernel
theorem dX5_call_65 : decode cX5_call 65 = .ok (.ireturn, 1) := by decide +kernel
theorem dX5_call_66 : decode cX5_call 66 = .ok (.aload 8, 2) := by decide +kernel
theorem dX5_call_68 : decode cX5_call 68 = .ok (.iload_n 2, 1) := by decide +kernel
theorem dX5_call_69 : decode cX5_call 69 = .ok (.iload_n 3, 1) := by decide +kernel
theorem dX5_call_70 : decode cX5_call 70 = .ok (.lload 4, 2) := by decide +kernel
theorem dX5_call_72 : decode cX5_call 72 = .ok (.lload 6, 2) := by decide +kernel
theorem dX5_call_74 : decode cX5_call 74 = .ok (.invokevirtual 65, 3) := by decide +kernel
theorem dX5_call_77 : decode cX5_call 77 = .ok (.istore 9, 2) := by decide +kernel
theorem dX5_call_79 : decode cX5_call 79 = .ok (.aload_n 0, 1) := by decide +kernel
theorem dX5_call_80 : decode cX5_call 80 = .ok (.aload 8, 2) := by decide +kernel
theorem dX5_call_82 : decode cX5_call 82 = .ok (.iload 9, 2) := by decide +kernel
theorem dX5_call_84 : decode cX5_call 84 = .ok (.invokestatic 69, 3) := by decide +kernel
theorem dX5_call_87 : decode cX5_call 87 = .ok (.invokevirtual 73, 3) := by decide +kernel
theorem dX5_call_90 : decode cX5_call 90 = .ok (.iload 9, 2) := by decide +kernel
theorem dX5_call_92 : decode cX5_call 92 = .ok (.ireturn, 1) := by decide +kernel
theorem dX5_retry_0 : decode cX5_retry 0 = .ok (.aload_n 0, 1) := by decide +kernel
theorem dX5_retry_1 : decode cX5_retry 1 = .ok (.iload_n 1, 1) := by decide +kernel
theorem dX5_retry_2 : decode cX5_retry 2 = .ok (.invokevirtual 38, 3) := by decide +kernel
theorem dX5_retry_5 : decode cX5_retry 5 = .ok (.astore_n 3, 1) := by decide +kernel
theorem dX5_retry_6 : decode cX5_retry 6 = .ok (.aload_n 3, 1) := by decide +kernel
theorem dX5_retry_7 : decode cX5_retry 7 = .ok (.ifnull 11, 3) := by decide +kernel
theorem dX5_retry_10 : decode cX5_retry 10 = .ok (.aload_n 3, 1) := by decide +kernel
theorem dX5_retry_11 : decode cX5_retry 11 = .ok (.iload_n 2, 1) := by decide +kernel
theorem dX5_retry_12 : decode cX5_retry 12 = .ok (.invokevirtual 77, 3) := by decide +kernel
theorem dX5_retry_15 : decode cX5_retry 15 = .ok (.ifCond .ne 5, 3) := by decide +kernel
theorem dX5_retry_18 : decode cX5_retry 18 = .ok (.iconst (-1), 1) := by decide +kernel
theorem dX5_retry_19 : decode cX5_retry 19 = .ok (.ireturn, 1) := by decide +kernel
theorem dX5_retry_20 : decode cX5_retry 20 = .ok (.aload_n 3, 1) := by decide +kernel
theorem dX5_retry_21 : decode cX5_retry 21 = .ok (.getfield 81, 3) := by decide +kernel
theorem dX5_retry_24 : decode cX5_retry 24 = .ok (.iload_n 2, 1) := by decide +kernel
theorem dX5_retry_25 : decode cX5_retry 25 = .ok (.iaload, 1) := by decide +kernel
theorem dX5_retry_26 : decode cX5_retry 26 = .ok (.ifCond .eq 5, 3) := by decide +kernel
theorem dX5_retry_29 : decode cX5_retry 29 = .ok (.iconst 0, 1) := by decide +kernel
theorem dX5_retry_30 : decode cX5_retry 30 = .ok (.ireturn, 1) := by decide +kernel
theorem dX5_retry_31 : decode cX5_retry 31 = .ok (.aload_n 0, 1) := by decide +kernel
theorem dX5_retry_32 : decode cX5_retry 32 = .ok (.aload_n 3, 1) := by decide +kernel
theorem dX5_retry_33 : decode cX5_retry 33 = .ok (.iload_n 2, 1) := by decide +kernel
theorem dX5_retry_34 : decode cX5_retry 34 = .ok (.invokestatic 69, 3) := by decide +kernel
theorem dX5_retry_37 : decode cX5_retry 37 = .ok (.invokevirtual 73, 3) := by decide +kernel
theorem dX5_retry_40 : decode cX5_retry 40 = .ok (.iconst 1, 1) := by decide +kernel
theorem dX5_retry_41 : decode cX5_retry 41 = .ok (.ireturn, 1) := by decide +kernel
theorem dX5_ack_0 : decode cX5_ack 0 = .ok (.aload_n 0, 1) := by decide +kernel
theorem dX5_ack_1 : decode cX5_ack 1 = .ok (.iload_n 1, 1) := by decide +kernel
theorem dX5_ack_2 : decode cX5_ack 2 = .ok (.invokevirtual 38, 3) := by decide +kernel
theorem dX5_ack_5 : decode cX5_ack 5 = .ok (.astore_n 3, 1) := by decide +kernel
theorem dX5_ack_6 : decode cX5_ack 6 = .ok (.aload_n 3, 1) := by decide +kernel
theorem dX5_ack_7 : decode cX5_ack 7 = .ok (.ifnull 11, 3) := by decide +kernel
theorem dX5_ack_10 : decode cX5_ack 10 = .ok (.aload_n 0, 1) := by decide +kernel
theorem dX5_ack_11 : decode cX5_ack 11 = .ok (.iload_n 2, 1) := by decide +kernel
theorem dX5_ack_12 : decode cX5_ack 12 = .ok (.invokevirtual 85, 3) := by decide +kernel
theorem dX5_ack_15 : decode cX5_ack 15 = .ok (.ifnonnull 5, 3) := by decide +kernel
theorem dX5_ack_18 : decode cX5_ack 18 = .ok (.iconst (-1), 1) := by decide +kernel
theorem dX5_ack_19 : decode cX5_ack 19 = .ok (.ireturn, 1) := by decide +kernel
theorem dX5_ack_20 : decode cX5_ack 20 = .ok (.aload_n 3, 1) := by decide +kernel
theorem dX5_ack_21 : decode cX5_ack 21 = .ok (.getfield 45, 3) := by decide +kernel
theorem dX5_ack_24 : decode cX5_ack 24 = .ok (.ifCond .ne 6, 3) := by decide +kernel
theorem dX5_ack_27 : decode cX5_ack 27 = .ok (.bipush (-3), 2) := by decide +kernel
theorem dX5_ack_29 : decode cX5_ack 29 = .ok (.ireturn, 1) := by decide +kernel
theorem dX5_ack_30 : decode cX5_ack 30 = .ok (.new 89, 3) := by decide +kernel
theorem dX5_ack_33 : decode cX5_ack 33 = .ok (.dup, 1) := by decide +kernel
theorem dX5_ack_34 : decode cX5_ack 34 = .ok (.iconst 5, 1) := by decide +kernel
theorem dX5_ack_35 : decode cX5_ack 35 = .ok (.iload_n 2, 1) := by decide +kernel
theorem dX5_ack_36 : decode cX5_ack 36 = .ok (.iload_n 1, 1) := by decide +kernel
theorem dX5_ack_37 : decode cX5_ack 37 = .ok (.invokespecial 91, 3) := by decide +kernel
theorem dX5_ack_40 : decode cX5_ack 40 = .ok (.astore 4, 2) := by decide +kernel
theorem dX5_ack_42 : decode cX5_ack 42 = .ok (.aload 4, 2) := by decide +kernel
theorem dX5_ack_44 : decode cX5_ack 44 = .ok (.aload_n 3, 1) := by decide +kernel
theorem dX5_ack_45 : decode cX5_ack 45 = .ok (.getfield 45, 3) := by decide +kernel
theorem dX5_ack_48 : decode cX5_ack 48 = .ok (.putfield 94, 3) := by decide +kernel
theorem dX5_ack_51 : decode cX5_ack 51 = .ok (.aload 4, 2) := by decide +kernel
theorem dX5_ack_53 : decode cX5_ack 53 = .ok (.aload_n 3, 1) := by decide +kernel
theorem dX5_ack_54 : decode cX5_ack 54 = .ok (.invokevirtual 95, 3) := by decide +kernel
theorem dX5_ack_57 : decode cX5_ack 57 = .ok (.putfield 98, 3) := by decide +kernel
theorem dX5_ack_60 : decode cX5_ack 60 = .ok (.aload_n 0, 1) := by decide +kernel
theorem dX5_ack_61 : decode cX5_ack 61 = .ok (.aload 4, 2) := by decide +kernel
theorem dX5_ack_63 : decode cX5_ack 63 = .ok (.invokevirtual 73, 3) := by decide +kernel
theorem dX5_ack_66 : decode cX5_ack 66 = .ok (.aload 4, 2) := by decide +kernel
theorem dX5_ack_68 : decode cX5_ack 68 = .ok (.getfield 98, 3) := by decide +kernel
theorem dX5_ack_71 : decode cX5_ack 71 = .ok (.ireturn, 1) := by decide +kernel
theorem dX5_deliver_0 : decode cX5_deliver 0 = .ok (.aload_n 0, 1) := by decide +kernel
theorem dX5_deliver_1 : decode cX5_deliver 1 = .ok (.getfield 34, 3) := by decide +kernel
theorem dX5_deliver_4 : decode cX5_deliver 4 = .ok (.iload_n 1, 1) := by decide +kernel
theorem dX5_deliver_5 : decode cX5_deliver 5 = .ok (.invokevirtual 100, 3) := by decide +kernel
theorem dX5_deliver_8 : decode cX5_deliver 8 = .ok (.astore_n 2, 1) := by decide +kernel
theorem dX5_deliver_9 : decode cX5_deliver 9 = .ok (.aload_n 2, 1) := by decide +kernel
theorem dX5_deliver_10 : decode cX5_deliver 10 = .ok (.ifnonnull 5, 3) := by decide +kernel
theorem dX5_deliver_13 : decode cX5_deliver 13 = .ok (.iconst (-1), 1) := by decide +kernel
theorem dX5_deliver_14 : decode cX5_deliver 14 = .ok (.ireturn, 1) := by decide +kernel
theorem dX5_deliver_15 : decode cX5_deliver 15 = .ok (.aload_n 0, 1) := by decide +kernel
theorem dX5_deliver_16 : decode cX5_deliver 16 = .ok (.getfield 34, 3) := by decide +kernel
theorem dX5_deliver_19 : decode cX5_deliver 19 = .ok (.iload_n 1, 1) := by decide +kernel
theorem dX5_deliver_20 : decode cX5_deliver 20 = .ok (.invokevirtual 104, 3) := by decide +kernel
theorem dX5_deliver_23 : decode cX5_deliver 23 = .ok (.aload_n 2, 1) := by decide +kernel
theorem dX5_deliver_24 : decode cX5_deliver 24 = .ok (.getfield 107, 3) := by decide +kernel
theorem dX5_deliver_27 : decode cX5_deliver 27 = .ok (.iconst 2, 1) := by decide +kernel
theorem dX5_deliver_28 : decode cX5_deliver 28 = .ok (.if_icmp .ne 13, 3) := by decide +kernel
theorem dX5_deliver_31 : decode cX5_deliver 31 = .ok (.aload_n 0, 1) := by decide +kernel
theorem dX5_deliver_32 : decode cX5_deliver 32 = .ok (.aload_n 2, 1) := by decide +kernel
theorem dX5_deliver_33 : decode cX5_deliver 33 = .ok (.invokevirtual 110, 3) := by decide +kernel
theorem dX5_deliver_36 : decode cX5_deliver 36 = .ok (.aload_n 2, 1) := by decide +kernel
theorem dX5_deliver_37 : decode cX5_deliver 37 = .ok (.getfield 107, 3) := by decide +kernel
theorem dX5_deliver_40 : decode cX5_deliver 40 = .ok (.ireturn, 1) := by decide +kernel
theorem dX5_deliver_41 : decode cX5_deliver 41 = .ok (.aload_n 0, 1) := by decide +kernel
theorem dX5_deliver_42 : decode cX5_deliver 42 = .ok (.aload_n 2, 1) := by decide +kernel
theorem dX5_deliver_43 : decode cX5_deliver 43 = .ok (.getfield 113, 3) := by decide +kernel
theorem dX5_deliver_46 : decode cX5_deliver 46 = .ok (.invokevirtual 85, 3) := by decide +kernel
theorem dX5_deliver_49 : decode cX5_deliver 49 = .ok (.astore_n 3, 1) := by decide +kernel
theorem dX5_deliver_50 : decode cX5_deliver 50 = .ok (.aload_n 3, 1) := by decide +kernel
theorem dX5_deliver_51 : decode cX5_deliver 51 = .ok (.ifnull 10, 3) := by decide +kernel
theorem dX5_deliver_54 : decode cX5_deliver 54 = .ok (.aload_n 3, 1) := by decide +kernel
theorem dX5_deliver_55 : decode cX5_deliver 55 = .ok (.getfield 116, 3) := by decide +kernel
theorem dX5_deliver_58 : decode cX5_deliver 58 = .ok (.ifCond .ne 21, 3) := by decide +kernel
theorem dX5_deliver_61 : decode cX5_deliver 61 = .ok (.aload_n 0, 1) := by decide +kernel
theorem dX5_deliver_62 : decode cX5_deliver 62 = .ok (.dup, 1) := by decide +kernel
theorem dX5_deliver_63 : decode cX5_deliver 63 = .ok (.getfield 120, 3) := by decide +kernel
theorem dX5_deliver_66 : decode cX5_deliver 66 = .ok (.iconst 1, 1) := by decide +kernel
theorem dX5_deliver_67 : decode cX5_deliver 67 = .ok (.iadd, 1) := by decide +kernel
theorem dX5_deliver_68 : decode cX5_deliver 68 = .ok (.putfield 120, 3) := by decide +kernel
theorem dX5_deliver_71 : decode cX5_deliver 71 = .ok (.aload_n 2, 1) := by decide +kernel
theorem dX5_deliver_72 : decode cX5_deliver 72 = .ok (.getfield 107, 3) := by decide +kernel
theorem dX5_deliver_75 : decode cX5_deliver 75 = .ok (.bipush 10, 2) := by decide +kernel
theorem dX5_deliver_77 : decode cX5_deliver 77 = .ok (.iadd, 1) := by decide +kernel
theorem dX5_deliver_78 : decode cX5_deliver 78 = .ok (.ireturn, 1) := by decide +kernel
theorem dX5_deliver_79 : decode cX5_deliver 79 = .ok (.aload_n 0, 1) := by decide +kernel
theorem dX5_deliver_80 : decode cX5_deliver 80 = .ok (.aload_n 3, 1) := by decide +kernel
theorem dX5_deliver_81 : decode cX5_deliver 81 = .ok (.aload_n 2, 1) := by decide +kernel
theorem dX5_deliver_82 : decode cX5_deliver 82 = .ok (.invokevirtual 123, 3) := by decide +kernel
theorem dX5_deliver_85 : decode cX5_deliver 85 = .ok (.aload_n 2, 1) := by decide +kernel
theorem dX5_deliver_86 : decode cX5_deliver 86 = .ok (.getfield 107, 3) := by decide +kernel
theorem dX5_deliver_89 : decode cX5_deliver 89 = .ok (.ireturn, 1) := by decide +kernel
theorem dX5_drop_0 : decode cX5_drop 0 = .ok (.aload_n 0, 1) := by decide +kernel
theorem dX5_drop_1 : decode cX5_drop 1 = .ok (.getfield 34, 3) := by decide +kernel
theorem dX5_drop_4 : decode cX5_drop 4 = .ok (.iload_n 1, 1) := by decide +kernel
theorem dX5_drop_5 : decode cX5_drop 5 = .ok (.invokevirtual 100, 3) := by decide +kernel
theorem dX5_drop_8 : decode cX5_drop 8 = .ok (.astore_n 2, 1) := by decide +kernel
theorem dX5_drop_9 : decode cX5_drop 9 = .ok (.aload_n 2, 1) := by decide +kernel
theorem dX5_drop_10 : decode cX5_drop 10 = .ok (.ifnonnull 5, 3) := by decide +kernel
theorem dX5_drop_13 : decode cX5_drop 13 = .ok (.iconst (-1), 1) := by decide +kernel
theorem dX5_drop_14 : decode cX5_drop 14 = .ok (.ireturn, 1) := by decide +kernel
theorem dX5_drop_15 : decode cX5_drop 15 = .ok (.aload_n 0, 1) := by decide +kernel
theorem dX5_drop_16 : decode cX5_drop 16 = .ok (.getfield 34, 3) := by decide +kernel
theorem dX5_drop_19 : decode cX5_drop 19 = .ok (.iload_n 1, 1) := by decide +kernel
theorem dX5_drop_20 : decode cX5_drop 20 = .ok (.invokevirtual 104, 3) := by decide +kernel
theorem dX5_drop_23 : decode cX5_drop 23 = .ok (.aload_n 0, 1) := by decide +kernel
theorem dX5_drop_24 : decode cX5_drop 24 = .ok (.dup, 1) := by decide +kernel
theorem dX5_drop_25 : decode cX5_drop 25 = .ok (.getfield 120, 3) := by decide +kernel
theorem dX5_drop_28 : decode cX5_drop 28 = .ok (.iconst 1, 1) := by decide +kernel
theorem dX5_drop_29 : decode cX5_drop 29 = .ok (.iadd, 1) := by decide +kernel
theorem dX5_drop_30 : decode cX5_drop 30 = .ok (.putfield 120, 3) := by decide +kernel
theorem dX5_drop_33 : decode cX5_drop 33 = .ok (.aload_n 2, 1) := by decide +kernel
theorem dX5_drop_34 : decode cX5_drop 34 = .ok (.getfield 107, 3) := by decide +kernel
theorem dX5_drop_37 : decode cX5_drop 37 = .ok (.ireturn, 1) := by decide +kernel
theorem dX5_twin_0 : decode cX5_twin 0 = .ok (.aload_n 0, 1) := by decide +kernel
theorem dX5_twin_1 : decode cX5_twin 1 = .ok (.getfield 34, 3) := by decide +kernel
theorem dX5_twin_4 : decode cX5_twin 4 = .ok (.iload_n 1, 1) := by decide +kernel
theorem dX5_twin_5 : decode cX5_twin 5 = .ok (.invokevirtual 100, 3) := by decide +kernel
theorem dX5_twin_8 : decode cX5_twin 8 = .ok (.astore_n 2, 1) := by decide +kernel
theorem dX5_twin_9 : decode cX5_twin 9 = .ok (.aload_n 2, 1) := by decide +kernel
theorem dX5_twin_10 : decode cX5_twin 10 = .ok (.ifnonnull 5, 3) := by decide +kernel
theorem dX5_twin_13 : decode cX5_twin 13 = .ok (.iconst (-1), 1) := by decide +kernel
theorem dX5_twin_14 : decode cX5_twin 14 = .ok (.ireturn, 1) := by decide +kernel
theorem dX5_twin_15 : decode cX5_twin 15 = .ok (.aload_n 0, 1) := by decide +kernel
theorem dX5_twin_16 : decode cX5_twin 16 = .ok (.getfield 34, 3) := by decide +kernel
theorem dX5_twin_19 : decode cX5_twin 19 = .ok (.aload_n 2, 1) := by decide +kernel
theorem dX5_twin_20 : decode cX5_twin 20 = .ok (.invokevirtual 127, 3) := by decide +kernel
theorem dX5_twin_23 : decode cX5_twin 23 = .ok (.ifCond .eq 10, 3) := by decide +kernel
theorem dX5_twin_26 : decode cX5_twin 26 = .ok (.aload_n 2, 1) := by decide +kernel
theorem dX5_twin_27 : decode cX5_twin 27 = .ok (.getfield 107, 3) := by decide +kernel
theorem dX5_twin_30 : decode cX5_twin 30 = .ok (.goto 5, 3) := by decide +kernel
theorem dX5_twin_33 : decode cX5_twin 33 = .ok (.bipush (-2), 2) := by decide +kernel
theorem dX5_twin_35 : decode cX5_twin 35 = .ok (.ireturn, 1) := by decide +kernel
theorem dX5_sync_0 : decode cX5_sync 0 = .ok (.aload_n 0, 1) := by decide +kernel
theorem dX5_sync_1 : decode cX5_sync 1 = .ok (.iload_n 1, 1) := by decide +kernel
theorem dX5_sync_2 : decode cX5_sync 2 = .ok (.invokevirtual 85, 3) := by decide +kernel
theorem dX5_sync_5 : decode cX5_sync 5 = .ok (.astore_n 2, 1) := by decide +kernel
theorem dX5_sync_6 : decode cX5_sync 6 = .ok (.aload_n 2, 1) := by decide +kernel
theorem dX5_sync_7 : decode cX5_sync 7 = .ok (.ifnonnull 5, 3) := by decide +kernel
theorem dX5_sync_10 : decode cX5_sync 10 = .ok (.iconst (-1), 1) := by decide +kernel
theorem dX5_sync_11 : decode cX5_sync 11 = .ok (.ireturn, 1) := by decide +kernel
theorem dX5_sync_12 : decode cX5_sync 12 = .ok (.aload_n 2, 1) := by decide +kernel
theorem dX5_sync_13 : decode cX5_sync 13 = .ok (.getfield 116, 3) := by decide +kernel
theorem dX5_sync_16 : decode cX5_sync 16 = .ok (.ifCond .ne 6, 3) := by decide +kernel
theorem dX5_sync_19 : decode cX5_sync 19 = .ok (.bipush (-3), 2) := by decide +kernel
theorem dX5_sync_21 : decode cX5_sync 21 = .ok (.ireturn, 1) := by decide +kernel
theorem dX5_sync_22 : decode cX5_sync 22 = .ok (.aload_n 2, 1) := by decide +kernel
theorem dX5_sync_23 : decode cX5_sync 23 = .ok (.invokevirtual 131, 3) := by decide +kernel
theorem dX5_sync_26 : decode cX5_sync 26 = .ok (.aload_n 2, 1) := by decide +kernel
theorem dX5_sync_27 : decode cX5_sync 27 = .ok (.getfield 134, 3) := by decide +kernel
theorem dX5_sync_30 : decode cX5_sync 30 = .ok (.getfield 137, 3) := by decide +kernel
theorem dX5_sync_33 : decode cX5_sync 33 = .ok (.istore_n 3, 1) := by decide +kernel
theorem dX5_sync_34 : decode cX5_sync 34 = .ok (.iconst 0, 1) := by decide +kernel
theorem dX5_sync_35 : decode cX5_sync 35 = .ok (.istore 4, 2) := by decide +kernel
theorem dX5_sync_37 : decode cX5_sync 37 = .ok (.iload 4, 2) := by decide +kernel
theorem dX5_sync_39 : decode cX5_sync 39 = .ok (.iload_n 3, 1) := by decide +kernel
theorem dX5_sync_40 : decode cX5_sync 40 = .ok (.if_icmp .ge 22, 3) := by decide +kernel
theorem dX5_sync_43 : decode cX5_sync 43 = .ok (.aload_n 0, 1) := by decide +kernel
theorem dX5_sync_44 : decode cX5_sync 44 = .ok (.aload_n 2, 1) := by decide +kernel
theorem dX5_sync_45 : decode cX5_sync 45 = .ok (.getfield 134, 3) := by decide +kernel
theorem dX5_sync_48 : decode cX5_sync 48 = .ok (.iload 4, 2) := by decide +kernel
theorem dX5_sync_50 : decode cX5_sync 50 = .ok (.invokevirtual 100, 3) := by decide +kernel
theorem dX5_sync_53 : decode cX5_sync 53 = .ok (.invokevirtual 73, 3) := by decide +kernel
theorem dX5_sync_56 : decode cX5_sync 56 = .ok (.iinc 4 1, 3) := by decide +kernel
theorem dX5_sync_59 : decode cX5_sync 59 = .ok (.goto (-22), 3) := by decide +kernel
theorem dX5_sync_62 : decode cX5_sync 62 = .ok (.aload_n 2, 1) := by decide +kernel
theorem dX5_sync_63 : decode cX5_sync 63 = .ok (.getfield 134, 3) := by decide +kernel
theorem dX5_sync_66 : decode cX5_sync 66 = .ok (.invokevirtual 140, 3) := by decide +kernel
theorem dX5_sync_69 : decode cX5_sync 69 = .ok (.iload_n 3, 1) := by decide +kernel
theorem dX5_sync_70 : decode cX5_sync 70 = .ok (.ireturn, 1) := by decide +kernel
theorem dX5_crash_0 : decode cX5_crash 0 = .ok (.aload_n 0, 1) := by decide +kernel
theorem dX5_crash_1 : decode cX5_crash 1 = .ok (.iload_n 1, 1) := by decide +kernel
theorem dX5_crash_2 : decode cX5_crash 2 = .ok (.invokevirtual 85, 3) := by decide +kernel
theorem dX5_crash_5 : decode cX5_crash 5 = .ok (.astore_n 2, 1) := by decide +kernel
theorem dX5_crash_6 : decode cX5_crash 6 = .ok (.aload_n 2, 1) := by decide +kernel
theorem dX5_crash_7 : decode cX5_crash 7 = .ok (.ifnonnull 5, 3) := by decide +kernel
theorem dX5_crash_10 : decode cX5_crash 10 = .ok (.iconst (-1), 1) := by decide +kernel
theorem dX5_crash_11 : decode cX5_crash 11 = .ok (.ireturn, 1) := by decide +kernel
theorem dX5_crash_12 : decode cX5_crash 12 = .ok (.aload_n 2, 1) := by decide +kernel
theorem dX5_crash_13 : decode cX5_crash 13 = .ok (.getfield 116, 3) := by decide +kernel
theorem dX5_crash_16 : decode cX5_crash 16 = .ok (.ifCond .ne 6, 3) := by decide +kernel
theorem dX5_crash_19 : decode cX5_crash 19 = .ok (.bipush (-3), 2) := by decide +kernel
theorem dX5_crash_21 : decode cX5_crash 21 = .ok (.ireturn, 1) := by decide +kernel
theorem dX5_crash_22 : decode cX5_crash 22 = .ok (.aload_n 2, 1) := by decide +kernel
theorem dX5_crash_23 : decode cX5_crash 23 = .ok (.getfield 134, 3) := by decide +kernel
theorem dX5_crash_26 : decode cX5_crash 26 = .ok (.getfield 137, 3) := by decide +kernel
theorem dX5_crash_29 : decode cX5_crash 29 = .ok (.istore_n 3, 1) := by decide +kernel
theorem dX5_crash_30 : decode cX5_crash 30 = .ok (.aload_n 0, 1) := by decide +kernel
theorem dX5_crash_31 : decode cX5_crash 31 = .ok (.dup, 1) := by decide +kernel
theorem dX5_crash_32 : decode cX5_crash 32 = .ok (.getfield 120, 3) := by decide +kernel
theorem dX5_crash_35 : decode cX5_crash 35 = .ok (.iload_n 3, 1) := by decide +kernel
theorem dX5_crash_36 : decode cX5_crash 36 = .ok (.iadd, 1) := by decide +kernel
theorem dX5_crash_37 : decode cX5_crash 37 = .ok (.putfield 120, 3) := by decide +kernel
theorem dX5_crash_40 : decode cX5_crash 40 = .ok (.aload_n 2, 1) := by decide +kernel
theorem dX5_crash_41 : decode cX5_crash 41 = .ok (.getfield 134, 3) := by decide +kernel
theorem dX5_crash_44 : decode cX5_crash 44 = .ok (.invokevirtual 140, 3) := by decide +kernel
theorem dX5_crash_47 : decode cX5_crash 47 = .ok (.aload_n 2, 1) := by decide +kernel
theorem dX5_crash_48 : decode cX5_crash 48 = .ok (.iconst 0, 1) := by decide +kernel
theorem dX5_crash_49 : decode cX5_crash 49 = .ok (.putfield 116, 3) := by decide +kernel
theorem dX5_crash_52 : decode cX5_crash 52 = .ok (.aload_n 2, 1) := by decide +kernel
theorem dX5_crash_53 : decode cX5_crash 53 = .ok (.invokevirtual 143, 3) := by decide +kernel
theorem dX5_crash_56 : decode cX5_crash 56 = .ok (.iload_n 3, 1) := by decide +kernel
theorem dX5_crash_57 : decode cX5_crash 57 = .ok (.ireturn, 1) := by decide +kernel
theorem dX5_start_0 : decode cX5_start 0 = .ok (.aload_n 0, 1) := by decide +kernel
theorem dX5_start_1 : decode cX5_start 1 = .ok (.iload_n 1, 1) := by decide +kernel
theorem dX5_start_2 : decode cX5_start 2 = .ok (.invokevirtual 85, 3) := by decide +kernel
theorem dX5_start_5 : decode cX5_start 5 = .ok (.astore_n 2, 1) := by decide +kernel
theorem dX5_start_6 : decode cX5_start 6 = .ok (.aload_n 2, 1) := by decide +kernel
theorem dX5_start_7 : decode cX5_start 7 = .ok (.ifnonnull 5, 3) := by decide +kernel
theorem dX5_start_10 : decode cX5_start 10 = .ok (.iconst (-1), 1) := by decide +kernel
theorem dX5_start_11 : decode cX5_start 11 = .ok (.ireturn, 1) := by decide +kernel
theorem dX5_start_12 : decode cX5_start 12 = .ok (.aload_n 2, 1) := by decide +kernel
theorem dX5_start_13 : decode cX5_start 13 = .ok (.getfield 116, 3) := by decide +kernel
theorem dX5_start_16 : decode cX5_start 16 = .ok (.ifCond .eq 6, 3) := by decide +kernel
theorem dX5_start_19 : decode cX5_start 19 = .ok (.bipush (-3), 2) := by decide +kernel
theorem dX5_start_21 : decode cX5_start 21 = .ok (.ireturn, 1) := by decide +kernel
theorem dX5_start_22 : decode cX5_start 22 = .ok (.aload_n 2, 1) := by decide +kernel
theorem dX5_start_23 : decode cX5_start 23 = .ok (.iconst 1, 1) := by decide +kernel
theorem dX5_start_24 : decode cX5_start 24 = .ok (.putfield 116, 3) := by decide +kernel
theorem dX5_start_27 : decode cX5_start 27 = .ok (.iconst 1, 1) := by decide +kernel
theorem dX5_start_28 : decode cX5_start 28 = .ok (.ireturn, 1) := by decide +kernel
theorem dX5_move_0 : decode cX5_move 0 = .ok (.aload_n 0, 1) := by decide +kernel
theorem dX5_move_1 : decode cX5_move 1 = .ok (.iload_n 1, 1) := by decide +kernel
theorem dX5_move_2 : decode cX5_move 2 = .ok (.invokevirtual 85, 3) := by decide +kernel
theorem dX5_move_5 : decode cX5_move 5 = .ok (.astore 4, 2) := by decide +kernel
theorem dX5_move_7 : decode cX5_move 7 = .ok (.aload 4, 2) := by decide +kernel
theorem dX5_move_9 : decode cX5_move 9 = .ok (.ifnull 11, 3) := by decide +kernel
theorem dX5_move_12 : decode cX5_move 12 = .ok (.aload_n 0, 1) := by decide +kernel
theorem dX5_move_13 : decode cX5_move 13 = .ok (.iload_n 3, 1) := by decide +kernel
theorem dX5_move_14 : decode cX5_move 14 = .ok (.invokevirtual 85, 3) := by decide +kernel
theorem dX5_move_17 : decode cX5_move 17 = .ok (.ifnonnull 5, 3) := by decide +kernel
theorem dX5_move_20 : decode cX5_move 20 = .ok (.iconst (-1), 1) := by decide +kernel
theorem dX5_move_21 : decode cX5_move 21 = .ok (.ireturn, 1) := by decide +kernel
theorem dX5_move_22 : decode cX5_move 22 = .ok (.aload 4, 2) := by decide +kernel
theorem dX5_move_24 : decode cX5_move 24 = .ok (.iload_n 2, 1) := by decide +kernel
theorem dX5_move_25 : decode cX5_move 25 = .ok (.invokevirtual 146, 3) := by decide +kernel
theorem dX5_move_28 : decode cX5_move 28 = .ok (.astore 5, 2) := by decide +kernel
theorem dX5_move_30 : decode cX5_move 30 = .ok (.aload 5, 2) := by decide +kernel
theorem dX5_move_32 : decode cX5_move 32 = .ok (.ifnonnull 5, 3) := by decide +kernel
theorem dX5_move_35 : decode cX5_move 35 = .ok (.iconst (-1), 1) := by decide +kernel
theorem dX5_move_36 : decode cX5_move 36 = .ok (.ireturn, 1) := by decide +kernel
theorem dX5_move_37 : decode cX5_move 37 = .ok (.aload 4, 2) := by decide +kernel
theorem dX5_move_39 : decode cX5_move 39 = .ok (.getfield 116, 3) := by decide +kernel
theorem dX5_move_42 : decode cX5_move 42 = .ok (.ifCond .eq 17, 3) := by decide +kernel
theorem dX5_move_45 : decode cX5_move 45 = .ok (.iload_n 3, 1) := by decide +kernel
theorem dX5_move_46 : decode cX5_move 46 = .ok (.iload_n 1, 1) := by decide +kernel
theorem dX5_move_47 : decode cX5_move 47 = .ok (.if_icmp .eq 12, 3) := by decide +kernel
theorem dX5_move_50 : decode cX5_move 50 = .ok (.aload 5, 2) := by decide +kernel
theorem dX5_move_52 : decode cX5_move 52 = .ok (.iload_n 3, 1) := by decide +kernel
theorem dX5_move_53 : decode cX5_move 53 = .ok (.invokevirtual 150, 3) := by decide +kernel
theorem dX5_move_56 : decode cX5_move 56 = .ok (.ifCond .ne 6, 3) := by decide +kernel
theorem dX5_move_59 : decode cX5_move 59 = .ok (.bipush (-3), 2) := by decide +kernel
theorem dX5_move_61 : decode cX5_move 61 = .ok (.ireturn, 1) := by decide +kernel
theorem dX5_move_62 : decode cX5_move 62 = .ok (.aload 5, 2) := by decide +kernel
theorem dX5_move_64 : decode cX5_move 64 = .ok (.getfield 155, 3) := by decide +kernel
theorem dX5_move_67 : decode cX5_move 67 = .ok (.iconst 1, 1) := by decide +kernel
theorem dX5_move_68 : decode cX5_move 68 = .ok (.if_icmp .ne 21, 3) := by decide +kernel
theorem dX5_move_71 : decode cX5_move 71 = .ok (.aload 5, 2) := by decide +kernel
theorem dX5_move_73 : decode cX5_move 73 = .ok (.iconst 2, 1) := by decide +kernel
theorem dX5_move_74 : decode cX5_move 74 = .ok (.putfield 155, 3) := by decide +kernel
theorem dX5_move_77 : decode cX5_move 77 = .ok (.aload 5, 2) := by decide +kernel
theorem dX5_move_79 : decode cX5_move 79 = .ok (.iload_n 3, 1) := by decide +kernel
theorem dX5_move_80 : decode cX5_move 80 = .ok (.putfield 158, 3) := by decide +kernel
theorem dX5_move_83 : decode cX5_move 83 = .ok (.aload 4, 2) := by decide +kernel
theorem dX5_move_85 : decode cX5_move 85 = .ok (.iconst 0, 1) := by decide +kernel
theorem dX5_move_86 : decode cX5_move 86 = .ok (.putfield 161, 3) := by decide +kernel
theorem dX5_move_89 : decode cX5_move 89 = .ok (.new 89, 3) := by decide +kernel
theorem dX5_move_92 : decode cX5_move 92 = .ok (.dup, 1) := by decide +kernel
theorem dX5_move_93 : decode cX5_move 93 = .ok (.iconst 3, 1) := by decide +kernel
theorem dX5_move_94 : decode cX5_move 94 = .ok (.iload_n 3, 1) := by decide +kernel
theorem dX5_move_95 : decode cX5_move 95 = .ok (.iload_n 1, 1) := by decide +kernel
theorem dX5_move_96 : decode cX5_move 96 = .ok (.invokespecial 91, 3) := by decide +kernel
theorem dX5_move_99 : decode cX5_move 99 = .ok (.astore 6, 2) := by decide +kernel
theorem dX5_move_101 : decode cX5_move 101 = .ok (.aload 6, 2) := by decide +kernel
theorem dX5_move_103 : decode cX5_move 103 = .ok (.iload_n 2, 1) := by decide +kernel
theorem dX5_move_104 : decode cX5_move 104 = .ok (.putfield 164, 3) := by decide +kernel
theorem dX5_move_107 : decode cX5_move 107 = .ok (.aload 6, 2) := by decide +kernel
theorem dX5_move_109 : decode cX5_move 109 = .ok (.aload 5, 2) := by decide +kernel
theorem dX5_move_111 : decode cX5_move 111 = .ok (.getfield 167, 3) := by decide +kernel
theorem dX5_move_114 : decode cX5_move 114 = .ok (.iconst 1, 1) := by decide +kernel
theorem dX5_move_115 : decode cX5_move 115 = .ok (.iadd, 1) := by decide +kernel
theorem dX5_move_116 : decode cX5_move 116 = .ok (.putfield 170, 3) := by decide +kernel
theorem dX5_move_119 : decode cX5_move 119 = .ok (.aload 6, 2) := by decide +kernel
theorem dX5_move_121 : decode cX5_move 121 = .ok (.new 151, 3) := by decide +kernel
theorem dX5_move_124 : decode cX5_move 124 = .ok (.dup, 1) := by decide +kernel
theorem dX5_move_125 : decode cX5_move 125 = .ok (.invokespecial 171, 3) := by decide +kernel
theorem dX5_move_128 : decode cX5_move 128 = .ok (.putfield 172, 3) := by decide +kernel
theorem dX5_move_131 : decode cX5_move 131 = .ok (.aload 6, 2) := by decide +kernel
theorem dX5_move_133 : decode cX5_move 133 = .ok (.getfield 172, 3) := by decide +kernel
theorem dX5_move_136 : decode cX5_move 136 = .ok (.aload 5, 2) := by decide +kernel
theorem dX5_move_138 : decode cX5_move 138 = .ok (.invokevirtual 176, 3) := by decide +kernel
theorem dX5_move_141 : decode cX5_move 141 = .ok (.aload_n 0, 1) := by decide +kernel
theorem dX5_move_142 : decode cX5_move 142 = .ok (.aload 4, 2) := by decide +kernel
theorem dX5_move_144 : decode cX5_move 144 = .ok (.aload 6, 2) := by decide +kernel
theorem dX5_move_146 : decode cX5_move 146 = .ok (.invokevirtual 180, 3) := by decide +kernel
theorem dX5_move_149 : decode cX5_move 149 = .ok (.aload 6, 2) := by decide +kernel
theorem dX5_move_151 : decode cX5_move 151 = .ok (.getfield 170, 3) := by decide +kernel
theorem dX5_move_154 : decode cX5_move 154 = .ok (.ireturn, 1) := by decide +kernel
theorem dX5_collect_0 : decode cX5_collect 0 = .ok (.aload_n 0, 1) := by decide +kernel
theorem dX5_collect_1 : decode cX5_collect 1 = .ok (.iload_n 1, 1) := by decide +kernel
theorem dX5_collect_2 : decode cX5_collect 2 = .ok (.invokevirtual 85, 3) := by decide +kernel
theorem dX5_collect_5 : decode cX5_collect 5 = .ok (.astore_n 2, 1) := by decide +kernel
theorem dX5_collect_6 : decode cX5_collect 6 = .ok (.aload_n 2, 1) := by decide +kernel
theorem dX5_collect_7 : decode cX5_collect 7 = .ok (.ifnonnull 5, 3) := by decide +kernel
theorem dX5_collect_10 : decode cX5_collect 10 = .ok (.iconst (-1), 1) := by decide +kernel
theorem dX5_collect_11 : decode cX5_collect 11 = .ok (.ireturn, 1) := by decide +kernel
theorem dX5_collect_12 : decode cX5_collect 12 = .ok (.aload_n 2, 1) := by decide +kernel
theorem dX5_collect_13 : decode cX5_collect 13 = .ok (.getfield 116, 3) := by decide +kernel
theorem dX5_collect_16 : decode cX5_collect 16 = .ok (.ifCond .ne 6, 3) := by decide +kernel
theorem dX5_collect_19 : decode cX5_collect 19 = .ok (.bipush (-3), 2) := by decide +kernel
theorem dX5_collect_21 : decode cX5_collect 21 = .ok (.ireturn, 1) := by decide +kernel
theorem dX5_collect_22 : decode cX5_collect 22 = .ok (.iconst 0, 1) := by decide +kernel
theorem dX5_collect_23 : decode cX5_collect 23 = .ok (.istore_n 3, 1) := by decide +kernel
theorem dX5_collect_24 : decode cX5_collect 24 = .ok (.iconst 0, 1) := by decide +kernel
theorem dX5_collect_25 : decode cX5_collect 25 = .ok (.istore 4, 2) := by decide +kernel
theorem dX5_collect_27 : decode cX5_collect 27 = .ok (.iload 4, 2) := by decide +kernel
theorem dX5_collect_29 : decode cX5_collect 29 = .ok (.bipush 8, 2) := by decide +kernel
theorem dX5_collect_31 : decode cX5_collect 31 = .ok (.if_icmp .ge 40, 3) := by decide +kernel
theorem dX5_collect_34 : decode cX5_collect 34 = .ok (.aload_n 2, 1) := by decide +kernel
theorem dX5_collect_35 : decode cX5_collect 35 = .ok (.iload 4, 2) := by decide +kernel
theorem dX5_collect_37 : decode cX5_collect 37 = .ok (.invokevirtual 146, 3) := by decide +kernel
theorem dX5_collect_40 : decode cX5_collect 40 = .ok (.astore 5, 2) := by decide +kernel
theorem dX5_collect_42 : decode cX5_collect 42 = .ok (.aload 5, 2) := by decide +kernel
theorem dX5_collect_44 : decode cX5_collect 44 = .ok (.ifnull 21, 3) := by decide +kernel
theorem dX5_collect_47 : decode cX5_collect 47 = .ok (.aload 5, 2) := by decide +kernel
theorem dX5_collect_49 : decode cX5_collect 49 = .ok (.getfield 155, 3) := by decide +kernel
theorem dX5_collect_52 : decode cX5_collect 52 = .ok (.iconst 1, 1) := by decide +kernel
theorem dX5_collect_53 : decode cX5_collect 53 = .ok (.if_icmp .ne 12, 3) := by decide +kernel
theorem dX5_collect_56 : decode cX5_collect 56 = .ok (.iload_n 3, 1) := by decide +kernel
theorem dX5_collect_57 : decode cX5_collect 57 = .ok (.aload_n 0, 1) := by decide +kernel
theorem dX5_collect_58 : decode cX5_collect 58 = .ok (.aload 5, 2) := by decide +kernel
theorem dX5_collect_60 : decode cX5_collect 60 = .ok (.invokevirtual 183, 3) := by decide +kernel
theorem dX5_collect_63 : decode cX5_collect 63 = .ok (.iadd, 1) := by decide +kernel
theorem dX5_collect_64 : decode cX5_collect 64 = .ok (.istore_n 3, 1) := by decide +kernel
theorem dX5_collect_65 : decode cX5_collect 65 = .ok (.iinc 4 1, 3) := by decide +kernel
theorem dX5_collect_68 : decode cX5_collect 68 = .ok (.goto (-41), 3) := by decide +kernel
theorem dX5_collect_71 : decode cX5_collect 71 = .ok (.iload_n 3, 1) := by decide +kernel
theorem dX5_collect_72 : decode cX5_collect 72 = .ok (.ifCond .le 8, 3) := by decide +kernel
theorem dX5_collect_75 : decode cX5_collect 75 = .ok (.aload_n 2, 1) := by decide +kernel
theorem dX5_collect_76 : decode cX5_collect 76 = .ok (.iconst 0, 1) := by decide +kernel
theorem dX5_collect_77 : decode cX5_collect 77 = .ok (.putfield 161, 3) := by decide +kernel
theorem dX5_collect_80 : decode cX5_collect 80 = .ok (.iload_n 3, 1) := by decide +kernel
theorem dX5_collect_81 : decode cX5_collect 81 = .ok (.ireturn, 1) := by decide +kernel
theorem dX5_ticks_0 : decode cX5_ticks 0 = .ok (.iload_n 1, 1) := by decide +kernel
theorem dX5_ticks_1 : decode cX5_ticks 1 = .ok (.ifCond .lt 10, 3) := by decide +kernel
theorem dX5_ticks_4 : decode cX5_ticks 4 = .ok (.iload_n 1, 1) := by decide +kernel
theorem dX5_ticks_5 : decode cX5_ticks 5 = .ok (.sipush 1000, 3) := by decide +kernel
theorem dX5_ticks_8 : decode cX5_ticks 8 = .ok (.if_icmp .le 5, 3) := by decide +kernel
theorem dX5_ticks_11 : decode cX5_ticks 11 = .ok (.iconst (-1), 1) := by decide +kernel
theorem dX5_ticks_12 : decode cX5_ticks 12 = .ok (.ireturn, 1) := by decide +kernel
theorem dX5_ticks_13 : decode cX5_ticks 13 = .ok (.aload_n 0, 1) := by decide +kernel
theorem dX5_ticks_14 : decode cX5_ticks 14 = .ok (.dup, 1) := by decide +kernel
theorem dX5_ticks_15 : decode cX5_ticks 15 = .ok (.getfield 51, 3) := by decide +kernel
theorem dX5_ticks_18 : decode cX5_ticks 18 = .ok (.iload_n 1, 1) := by decide +kernel
theorem dX5_ticks_19 : decode cX5_ticks 19 = .ok (.iadd, 1) := by decide +kernel
theorem dX5_ticks_20 : decode cX5_ticks 20 = .ok (.putfield 51, 3) := by decide +kernel
theorem dX5_ticks_23 : decode cX5_ticks 23 = .ok (.aload_n 0, 1) := by decide +kernel
theorem dX5_ticks_24 : decode cX5_ticks 24 = .ok (.getfield 51, 3) := by decide +kernel
theorem dX5_ticks_27 : decode cX5_ticks 27 = .ok (.ireturn, 1) := by decide +kernel
theorem dX5_server_0 : decode cX5_server 0 = .ok (.aload_n 0, 1) := by decide +kernel
theorem dX5_server_1 : decode cX5_server 1 = .ok (.iload_n 1, 1) := by decide +kernel
theorem dX5_server_2 : decode cX5_server 2 = .ok (.invokevirtual 85, 3) := by decide +kernel
theorem dX5_server_5 : decode cX5_server 5 = .ok (.astore_n 3, 1) := by decide +kernel
theorem dX5_server_6 : decode cX5_server 6 = .ok (.aload_n 3, 1) := by decide +kernel
theorem dX5_server_7 : decode cX5_server 7 = .ok (.ifnonnull 5, 3) := by decide +kernel
theorem dX5_server_10 : decode cX5_server 10 = .ok (.iconst (-1), 1) := by decide +kernel
theorem dX5_server_11 : decode cX5_server 11 = .ok (.ireturn, 1) := by decide +kernel
theorem dX5_server_12 : decode cX5_server 12 = .ok (.iload_n 2, 1) := by decide +kernel
theorem dX5_server_13 : decode cX5_server 13 = .ok (.tableswitch 86 0 3 #[31, 39, 62, 70], 31) := by decide +kernel
theorem dX5_server_44 : decode cX5_server 44 = .ok (.aload_n 3, 1) := by decide +kernel
theorem dX5_server_45 : decode cX5_server 45 = .ok (.getfield 116, 3) := by decide +kernel
theorem dX5_server_48 : decode cX5_server 48 = .ok (.invokestatic 187, 3) := by decide +kernel
theorem dX5_server_51 : decode cX5_server 51 = .ok (.ireturn, 1) := by decide +kernel
theorem dX5_server_52 : decode cX5_server 52 = .ok (.aload_n 3, 1) := by decide +kernel
theorem dX5_server_53 : decode cX5_server 53 = .ok (.getfield 116, 3) := by decide +kernel
theorem dX5_server_56 : decode cX5_server 56 = .ok (.ifCond .eq 14, 3) := by decide +kernel
theorem dX5_server_59 : decode cX5_server 59 = .ok (.aload_n 3, 1) := by decide +kernel
theorem dX5_server_60 : decode cX5_server 60 = .ok (.getfield 161, 3) := by decide +kernel
theorem dX5_server_63 : decode cX5_server 63 = .ok (.ifCond .eq 7, 3) := by decide +kernel
theorem dX5_server_66 : decode cX5_server 66 = .ok (.iconst 1, 1) := by decide +kernel
theorem dX5_server_67 : decode cX5_server 67 = .ok (.goto 4, 3) := by decide +kernel
theorem dX5_server_70 : decode cX5_server 70 = .ok (.iconst 0, 1) := by decide +kernel
theorem dX5_server_71 : decode cX5_server 71 = .ok (.invokestatic 187, 3) := by decide +kernel
theorem dX5_server_74 : decode cX5_server 74 = .ok (.ireturn, 1) := by decide +kernel
theorem dX5_server_75 : decode cX5_server 75 = .ok (.aload_n 3, 1) := by decide +kernel
theorem dX5_server_76 : decode cX5_server 76 = .ok (.getfield 134, 3) := by decide +kernel
theorem dX5_server_79 : decode cX5_server 79 = .ok (.getfield 137, 3) := by decide +kernel
theorem dX5_server_82 : decode cX5_server 82 = .ok (.ireturn, 1) := by decide +kernel
theorem dX5_server_83 : decode cX5_server 83 = .ok (.aload_n 3, 1) := by decide +kernel
theorem dX5_server_84 : decode cX5_server 84 = .ok (.getfield 116, 3) := by decide +kernel
theorem dX5_server_87 : decode cX5_server 87 = .ok (.ifCond .eq 10, 3) := by decide +kernel
theorem dX5_server_90 : decode cX5_server 90 = .ok (.aload_n 3, 1) := by decide +kernel
theorem dX5_server_91 : decode cX5_server 91 = .ok (.invokevirtual 191, 3) := by decide +kernel
theorem dX5_server_94 : decode cX5_server 94 = .ok (.goto 4, 3) := by decide +kernel
theorem dX5_server_97 : decode cX5_server 97 = .ok (.iconst 0, 1) := by decide +kernel
theorem dX5_server_98 : decode cX5_server 98 = .ok (.ireturn, 1) := by decide +kernel
theorem dX5_server_99 : decode cX5_server 99 = .ok (.iconst (-1), 1) := by decide +kernel
theorem dX5_server_100 : decode cX5_server 100 = .ok (.ireturn, 1) := by decide +kernel
theorem dX5_bucket_0 : decode cX5_bucket 0 = .ok (.aload_n 0, 1) := by decide +kernel
theorem dX5_bucket_1 : decode cX5_bucket 1 = .ok (.iload_n 1, 1) := by decide +kernel
theorem dX5_bucket_2 : decode cX5_bucket 2 = .ok (.iload_n 2, 1) := by decide +kernel
theorem dX5_bucket_3 : decode cX5_bucket 3 = .ok (.invokevirtual 194, 3) := by decide +kernel
theorem dX5_bucket_6 : decode cX5_bucket 6 = .ok (.astore 4, 2) := by decide +kernel
theorem dX5_bucket_8 : decode cX5_bucket 8 = .ok (.aload 4, 2) := by decide +kernel
theorem dX5_bucket_10 : decode cX5_bucket 10 = .ok (.ifnonnull 5, 3) := by decide +kernel
theorem dX5_bucket_13 : decode cX5_bucket 13 = .ok (.iconst (-1), 1) := by decide +kernel
theorem dX5_bucket_14 : decode cX5_bucket 14 = .ok (.ireturn, 1) := by decide +kernel
theorem dX5_bucket_15 : decode cX5_bucket 15 = .ok (.iload_n 3, 1) := by decide +kernel
theorem dX5_bucket_16 : decode cX5_bucket 16 = .ok (.bipush 10, 2) := by decide +kernel
theorem dX5_bucket_18 : decode cX5_bucket 18 = .ok (.if_icmp .lt 20, 3) := by decide +kernel
theorem dX5_bucket_21 : decode cX5_bucket 21 = .ok (.iload_n 3, 1) := by decide +kernel
theorem dX5_bucket_22 : decode cX5_bucket 22 = .ok (.bipush 16, 2) := by decide +kernel
theorem dX5_bucket_24 : decode cX5_bucket 24 = .ok (.if_icmp .ge 14, 3) := by decide +kernel
theorem dX5_bucket_27 : decode cX5_bucket 27 = .ok (.aload 4, 2) := by decide +kernel
theorem dX5_bucket_29 : decode cX5_bucket 29 = .ok (.getfield 197, 3) := by decide +kernel
theorem dX5_bucket_32 : decode cX5_bucket 32 = .ok (.iload_n 3, 1) := by decide +kernel
theorem dX5_bucket_33 : decode cX5_bucket 33 = .ok (.bipush 10, 2) := by decide +kernel
theorem dX5_bucket_35 : decode cX5_bucket 35 = .ok (.isub, 1) := by decide +kernel
theorem dX5_bucket_36 : decode cX5_bucket 36 = .ok (.iaload, 1) := by decide +kernel
theorem dX5_bucket_37 : decode cX5_bucket 37 = .ok (.ireturn, 1) := by decide +kernel
theorem dX5_bucket_38 : decode cX5_bucket 38 = .ok (.iload_n 3, 1) := by decide +kernel
theorem dX5_bucket_39 : decode cX5_bucket 39 = .ok (.bipush 20, 2) := by decide +kernel
theorem dX5_bucket_41 : decode cX5_bucket 41 = .ok (.if_icmp .lt 20, 3) := by decide +kernel
theorem dX5_bucket_44 : decode cX5_bucket 44 = .ok (.iload_n 3, 1) := by decide +kernel
theorem dX5_bucket_45 : decode cX5_bucket 45 = .ok (.bipush 26, 2) := by decide +kernel
theorem dX5_bucket_47 : decode cX5_bucket 47 = .ok (.if_icmp .ge 14, 3) := by decide +kernel
theorem dX5_bucket_50 : decode cX5_bucket 50 = .ok (.aload 4, 2) := by decide +kernel
theorem dX5_bucket_52 : decode cX5_bucket 52 = .ok (.getfield 199, 3) := by decide +kernel
theorem dX5_bucket_55 : decode cX5_bucket 55 = .ok (.iload_n 3, 1) := by decide +kernel
theorem dX5_bucket_56 : decode cX5_bucket 56 = .ok (.bipush 20, 2) := by decide +kernel
theorem dX5_bucket_58 : decode cX5_bucket 58 = .ok (.isub, 1) := by decide +kernel
theorem dX5_bucket_59 : decode cX5_bucket 59 = .ok (.iaload, 1) := by decide +kernel
theorem dX5_bucket_60 : decode cX5_bucket 60 = .ok (.ireturn, 1) := by decide +kernel
theorem dX5_bucket_61 : decode cX5_bucket 61 = .ok (.iload_n 3, 1) := by decide +kernel
theorem dX5_bucket_62 : decode cX5_bucket 62 = .ok (.tableswitch 54 0 3 #[30, 36, 42, 48], 30) := by decide +kernel
theorem dX5_bucket_92 : decode cX5_bucket 92 = .ok (.aload 4, 2) := by decide +kernel
theorem dX5_bucket_94 : decode cX5_bucket 94 = .ok (.getfield 155, 3) := by decide +kernel
theorem dX5_bucket_97 : decode cX5_bucket 97 = .ok (.ireturn, 1) := by decide +kernel
theorem dX5_bucket_98 : decode cX5_bucket 98 = .ok (.aload 4, 2) := by decide +kernel
theorem dX5_bucket_100 : decode cX5_bucket 100 = .ok (.getfield 167, 3) := by decide +kernel
theorem dX5_bucket_103 : decode cX5_bucket 103 = .ok (.ireturn, 1) := by decide +kernel
theorem dX5_bucket_104 : decode cX5_bucket 104 = .ok (.aload 4, 2) := by decide +kernel
theorem dX5_bucket_106 : decode cX5_bucket 106 = .ok (.getfield 158, 3) := by decide +kernel
theorem dX5_bucket_109 : decode cX5_bucket 109 = .ok (.ireturn, 1) := by decide +kernel
theorem dX5_bucket_110 : decode cX5_bucket 110 = .ok (.aload 4, 2) := by decide +kernel
theorem dX5_bucket_112 : decode cX5_bucket 112 = .ok (.getfield 202, 3) := by decide +kernel
theorem dX5_bucket_115 : decode cX5_bucket 115 = .ok (.ireturn, 1) := by decide +kernel
theorem dX5_bucket_116 : decode cX5_bucket 116 = .ok (.iconst (-1), 1) := by decide +kernel
theorem dX5_bucket_117 : decode cX5_bucket 117 = .ok (.ireturn, 1) := by decide +kernel
theorem dX5_value_0 : decode cX5_value 0 = .ok (.iload_n 2, 1) := by decide +kernel
theorem dX5_value_1 : decode cX5_value 1 = .ok (.ifCond .lt 9, 3) := by decide +kernel
theorem dX5_value_4 : decode cX5_value 4 = .ok (.iload_n 2, 1) := by decide +kernel
theorem dX5_value_5 : decode cX5_value 5 = .ok (.bipush 32, 2) := by decide +kernel
theorem dX5_value_7 : decode cX5_value 7 = .ok (.if_icmp .lt 5, 3) := by decide +kernel
theorem dX5_value_10 : decode cX5_value 10 = .ok (.lconst 0, 1) := by decide +kernel
theorem dX5_value_11 : decode cX5_value 11 = .ok (.lreturn, 1) := by decide +kernel
theorem dX5_value_12 : decode cX5_value 12 = .ok (.aload_n 0, 1) := by decide +kernel
theorem dX5_value_13 : decode cX5_value 13 = .ok (.iload_n 1, 1) := by decide +kernel
theorem dX5_value_14 : decode cX5_value 14 = .ok (.iload_n 2, 1) := by decide +kernel
theorem dX5_value_15 : decode cX5_value 15 = .ok (.invokestatic 205, 3) := by decide +kernel
theorem dX5_value_18 : decode cX5_value 18 = .ok (.invokevirtual 194, 3) := by decide +kernel
theorem dX5_value_21 : decode cX5_value 21 = .ok (.astore_n 3, 1) := by decide +kernel
theorem dX5_value_22 : decode cX5_value 22 = .ok (.aload_n 3, 1) := by decide +kernel
theorem dX5_value_23 : decode cX5_value 23 = .ok (.ifnonnull 7, 3) := by decide +kernel
theorem dX5_value_26 : decode cX5_value 26 = .ok (.lconst 0, 1) := by decide +kernel
theorem dX5_value_27 : decode cX5_value 27 = .ok (.goto 12, 3) := by decide +kernel
theorem dX5_value_30 : decode cX5_value 30 = .ok (.aload_n 3, 1) := by decide +kernel
theorem dX5_value_31 : decode cX5_value 31 = .ok (.getfield 209, 3) := by decide +kernel
theorem dX5_value_34 : decode cX5_value 34 = .ok (.iload_n 2, 1) := by decide +kernel
theorem dX5_value_35 : decode cX5_value 35 = .ok (.invokestatic 213, 3) := by decide +kernel
theorem dX5_value_38 : decode cX5_value 38 = .ok (.laload, 1) := by decide +kernel
theorem dX5_value_39 : decode cX5_value 39 = .ok (.lreturn, 1) := by decide +kernel
theorem dX5_record_0 : decode cX5_record 0 = .ok (.aload_n 0, 1) := by decide +kernel
theorem dX5_record_1 : decode cX5_record 1 = .ok (.iload_n 1, 1) := by decide +kernel
theorem dX5_record_2 : decode cX5_record 2 = .ok (.iload_n 2, 1) := by decide +kernel
theorem dX5_record_3 : decode cX5_record 3 = .ok (.invokevirtual 194, 3) := by decide +kernel
theorem dX5_record_6 : decode cX5_record 6 = .ok (.astore 5, 2) := by decide +kernel
theorem dX5_record_8 : decode cX5_record 8 = .ok (.aload 5, 2) := by decide +kernel
theorem dX5_record_10 : decode cX5_record 10 = .ok (.ifnull 16, 3) := by decide +kernel
theorem dX5_record_13 : decode cX5_record 13 = .ok (.iload_n 3, 1) := by decide +kernel
theorem dX5_record_14 : decode cX5_record 14 = .ok (.ifCond .lt 12, 3) := by decide +kernel
theorem dX5_record_17 : decode cX5_record 17 = .ok (.iload_n 3, 1) := by decide +kernel
theorem dX5_record_18 : decode cX5_record 18 = .ok (.aload 5, 2) := by decide +kernel
theorem dX5_record_20 : decode cX5_record 20 = .ok (.getfield 202, 3) := by decide +kernel
theorem dX5_record_23 : decode cX5_record 23 = .ok (.if_icmp .lt 5, 3) := by decide +kernel
theorem dX5_record_26 : decode cX5_record 26 = .ok (.iconst (-1), 1) := by decide +kernel
theorem dX5_record_27 : decode cX5_record 27 = .ok (.ireturn, 1) := by decide +kernel
theorem dX5_record_28 : decode cX5_record 28 = .ok (.iload 4, 2) := by decide +kernel
theorem dX5_record_30 : decode cX5_record 30 = .ok (.tableswitch 50 0 2 #[26, 34, 42], 26) := by decide +kernel
theorem dX5_record_56 : decode cX5_record 56 = .ok (.aload 5, 2) := by decide +kernel
theorem dX5_record_58 : decode cX5_record 58 = .ok (.getfield 216, 3) := by decide +kernel
theorem dX5_record_61 : decode cX5_record 61 = .ok (.iload_n 3, 1) := by decide +kernel
theorem dX5_record_62 : decode cX5_record 62 = .ok (.iaload, 1) := by decide +kernel
theorem dX5_record_63 : decode cX5_record 63 = .ok (.ireturn, 1) := by decide +kernel
theorem dX5_record_64 : decode cX5_record 64 = .ok (.aload 5, 2) := by decide +kernel
theorem dX5_record_66 : decode cX5_record 66 = .ok (.getfield 219, 3) := by decide +kernel
theorem dX5_record_69 : decode cX5_record 69 = .ok (.iload_n 3, 1) := by decide +kernel
theorem dX5_record_70 : decode cX5_record 70 = .ok (.iaload, 1) := by decide +kernel
theorem dX5_record_71 : decode cX5_record 71 = .ok (.ireturn, 1) := by decide +kernel
theorem dX5_record_72 : decode cX5_record 72 = .ok (.aload 5, 2) := by decide +kernel
theorem dX5_record_74 : decode cX5_record 74 = .ok (.getfield 222, 3) := by decide +kernel
theorem dX5_record_77 : decode cX5_record 77 = .ok (.iload_n 3, 1) := by decide +kernel
theorem dX5_record_78 : decode cX5_record 78 = .ok (.iaload, 1) := by decide +kernel
theorem dX5_record_79 : decode cX5_record 79 = .ok (.ireturn, 1) := by decide +kernel
theorem dX5_record_80 : decode cX5_record 80 = .ok (.iconst (-1), 1) := by decide +kernel
theorem dX5_record_81 : decode cX5_record 81 = .ok (.ireturn, 1) := by decide +kernel
theorem dX5_client_0 : decode cX5_client 0 = .ok (.aload_n 0, 1) := by decide +kernel
theorem dX5_client_1 : decode cX5_client 1 = .ok (.iload_n 1, 1) := by decide +kernel
theorem dX5_client_2 : decode cX5_client 2 = .ok (.invokevirtual 38, 3) := by decide +kernel
theorem dX5_client_5 : decode cX5_client 5 = .ok (.astore_n 3, 1) := by decide +kernel
theorem dX5_client_6 : decode cX5_client 6 = .ok (.aload_n 3, 1) := by decide +kernel
theorem dX5_client_7 : decode cX5_client 7 = .ok (.ifnonnull 5, 3) := by decide +kernel
theorem dX5_client_10 : decode cX5_client 10 = .ok (.iconst (-1), 1) := by decide +kernel
theorem dX5_client_11 : decode cX5_client 11 = .ok (.ireturn, 1) := by decide +kernel
theorem dX5_client_12 : decode cX5_client 12 = .ok (.iload_n 2, 1) := by decide +kernel
theorem dX5_client_13 : decode cX5_client 13 = .ok (.bipush 10, 2) := by decide +kernel
theorem dX5_client_15 : decode cX5_client 15 = .ok (.if_icmp .lt 19, 3) := by decide +kernel
theorem dX5_client_18 : decode cX5_client 18 = .ok (.iload_n 2, 1) := by decide +kernel
theorem dX5_client_19 : decode cX5_client 19 = .ok (.bipush 18, 2) := by decide +kernel
theorem dX5_client_21 : decode cX5_client 21 = .ok (.if_icmp .ge 13, 3) := by decide +kernel
theorem dX5_client_24 : decode cX5_client 24 = .ok (.aload_n 3, 1) := by decide +kernel
theorem dX5_client_25 : decode cX5_client 25 = .ok (.getfield 225, 3) := by decide +kernel
theorem dX5_client_28 : decode cX5_client 28 = .ok (.iload_n 2, 1) := by decide +kernel
theorem dX5_client_29 : decode cX5_client 29 = .ok (.bipush 10, 2) := by decide +kernel
theorem dX5_client_31 : decode cX5_client 31 = .ok (.isub, 1) := by decide +kernel
theorem dX5_client_32 : decode cX5_client 32 = .ok (.iaload, 1) := by decide +kernel
theorem dX5_client_33 : decode cX5_client 33 = .ok (.ireturn, 1) := by decide +kernel
theorem dX5_client_34 : decode cX5_client 34 = .ok (.iload_n 2, 1) := by decide +kernel
theorem dX5_client_35 : decode cX5_client 35 = .ok (.tableswitch 75 0 5 #[37, 42, 47, 60, 65, 70], 37) := by decide +kernel
theorem dX5_client_72 : decode cX5_client 72 = .ok (.aload_n 3, 1) := by decide +kernel
theorem dX5_client_73 : decode cX5_client 73 = .ok (.getfield 45, 3) := by decide +kernel
theorem dX5_client_76 : decode cX5_client 76 = .ok (.ireturn, 1) := by decide +kernel
theorem dX5_client_77 : decode cX5_client 77 = .ok (.aload_n 3, 1) := by decide +kernel
theorem dX5_client_78 : decode cX5_client 78 = .ok (.getfield 54, 3) := by decide +kernel
theorem dX5_client_81 : decode cX5_client 81 = .ok (.ireturn, 1) := by decide +kernel
theorem dX5_client_82 : decode cX5_client 82 = .ok (.aload_n 0, 1) := by decide +kernel
theorem dX5_client_83 : decode cX5_client 83 = .ok (.iload_n 1, 1) := by decide +kernel
theorem dX5_client_84 : decode cX5_client 84 = .ok (.aload_n 3, 1) := by decide +kernel
theorem dX5_client_85 : decode cX5_client 85 = .ok (.getfield 45, 3) := by decide +kernel
theorem dX5_client_88 : decode cX5_client 88 = .ok (.invokevirtual 57, 3) := by decide +kernel
theorem dX5_client_91 : decode cX5_client 91 = .ok (.invokestatic 187, 3) := by decide +kernel
theorem dX5_client_94 : decode cX5_client 94 = .ok (.ireturn, 1) := by decide +kernel
theorem dX5_client_95 : decode cX5_client 95 = .ok (.aload_n 3, 1) := by decide +kernel
theorem dX5_client_96 : decode cX5_client 96 = .ok (.getfield 48, 3) := by decide +kernel
theorem dX5_client_99 : decode cX5_client 99 = .ok (.ireturn, 1) := by decide +kernel
theorem dX5_client_100 : decode cX5_client 100 = .ok (.aload_n 3, 1) := by decide +kernel
theorem dX5_client_101 : decode cX5_client 101 = .ok (.invokevirtual 95, 3) := by decide +kernel
theorem dX5_client_104 : decode cX5_client 104 = .ok (.ireturn, 1) := by decide +kernel
theorem dX5_client_105 : decode cX5_client 105 = .ok (.aload_n 3, 1) := by decide +kernel
theorem dX5_client_106 : decode cX5_client 106 = .ok (.invokevirtual 61, 3) := by decide +kernel
theorem dX5_client_109 : decode cX5_client 109 = .ok (.ireturn, 1) := by decide +kernel
theorem dX5_client_110 : decode cX5_client 110 = .ok (.iconst (-1), 1) := by decide +kernel
theorem dX5_client_111 : decode cX5_client 111 = .ok (.ireturn, 1) := by decide +kernel
theorem dX5_state_0 : decode cX5_state 0 = .ok (.aload_n 0, 1) := by decide +kernel
theorem dX5_state_1 : decode cX5_state 1 = .ok (.iload_n 1, 1) := by decide +kernel
theorem dX5_state_2 : decode cX5_state 2 = .ok (.invokevirtual 38, 3) := by decide +kernel
theorem dX5_state_5 : decode cX5_state 5 = .ok (.astore_n 3, 1) := by decide +kernel
theorem dX5_state_6 : decode cX5_state 6 = .ok (.aload_n 3, 1) := by decide +kernel
theorem dX5_state_7 : decode cX5_state 7 = .ok (.ifnull 11, 3) := by decide +kernel
theorem dX5_state_10 : decode cX5_state 10 = .ok (.aload_n 3, 1) := by decide +kernel
theorem dX5_state_11 : decode cX5_state 11 = .ok (.iload_n 2, 1) := by decide +kernel
theorem dX5_state_12 : decode cX5_state 12 = .ok (.invokevirtual 77, 3) := by decide +kernel
theorem dX5_state_15 : decode cX5_state 15 = .ok (.ifCond .ne 5, 3) := by decide +kernel
theorem dX5_state_18 : decode cX5_state 18 = .ok (.iconst (-1), 1) := by decide +kernel
theorem dX5_state_19 : decode cX5_state 19 = .ok (.ireturn, 1) := by decide +kernel
theorem dX5_state_20 : decode cX5_state 20 = .ok (.aload_n 3, 1) := by decide +kernel
theorem dX5_state_21 : decode cX5_state 21 = .ok (.getfield 81, 3) := by decide +kernel
theorem dX5_state_24 : decode cX5_state 24 = .ok (.iload_n 2, 1) := by decide +kernel
theorem dX5_state_25 : decode cX5_state 25 = .ok (.iaload, 1) := by decide +kernel
theorem dX5_state_26 : decode cX5_state 26 = .ok (.ireturn, 1) := by decide +kernel
theorem dX5_result_0 : decode cX5_result 0 = .ok (.aload_n 0, 1) := by decide +kernel
theorem dX5_result_1 : decode cX5_result 1 = .ok (.iload_n 1, 1) := by decide +kernel
theorem dX5_result_2 : decode cX5_result 2 = .ok (.invokevirtual 38, 3) := by decide +kernel
theorem dX5_result_5 : decode cX5_result 5 = .ok (.astore_n 3, 1) := by decide +kernel
theorem dX5_result_6 : decode cX5_result 6 = .ok (.aload_n 3, 1) := by decide +kernel
theorem dX5_result_7 : decode cX5_result 7 = .ok (.ifnull 21, 3) := by decide +kernel
theorem dX5_result_10 : decode cX5_result 10 = .ok (.aload_n 3, 1) := by decide +kernel
theorem dX5_result_11 : decode cX5_result 11 = .ok (.iload_n 2, 1) := by decide +kernel
theorem dX5_result_12 : decode cX5_result 12 = .ok (.invokevirtual 77, 3) := by decide +kernel
theorem dX5_result_15 : decode cX5_result 15 = .ok (.ifCond .eq 13, 3) := by decide +kernel
theorem dX5_result_18 : decode cX5_result 18 = .ok (.aload_n 3, 1) := by decide +kernel
theorem dX5_result_19 : decode cX5_result 19 = .ok (.getfield 81, 3) := by decide +kernel
theorem dX5_result_22 : decode cX5_result 22 = .ok (.iload_n 2, 1) := by decide +kernel
theorem dX5_result_23 : decode cX5_result 23 = .ok (.iaload, 1) := by decide +kernel
theorem dX5_result_24 : decode cX5_result 24 = .ok (.iconst 1, 1) := by decide +kernel
theorem dX5_result_25 : decode cX5_result 25 = .ok (.if_icmp .eq 5, 3) := by decide +kernel
theorem dX5_result_28 : decode cX5_result 28 = .ok (.lconst 0, 1) := by decide +kernel
theorem dX5_result_29 : decode cX5_result 29 = .ok (.lreturn, 1) := by decide +kernel
theorem dX5_result_30 : decode cX5_result 30 = .ok (.aload_n 3, 1) := by decide +kernel
theorem dX5_result_31 : decode cX5_result 31 = .ok (.getfield 228, 3) := by decide +kernel
theorem dX5_result_34 : decode cX5_result 34 = .ok (.iload_n 2, 1) := by decide +kernel
theorem dX5_result_35 : decode cX5_result 35 = .ok (.laload, 1) := by decide +kernel
theorem dX5_result_36 : decode cX5_result 36 = .ok (.lreturn, 1) := by decide +kernel
theorem dX5_letter_0 : decode cX5_letter 0 = .ok (.aload_n 0, 1) := by decide +kernel
theorem dX5_letter_1 : decode cX5_letter 1 = .ok (.getfield 34, 3) := by decide +kernel
theorem dX5_letter_4 : decode cX5_letter 4 = .ok (.iload_n 1, 1) := by decide +kernel
theorem dX5_letter_5 : decode cX5_letter 5 = .ok (.invokevirtual 100, 3) := by decide +kernel
theorem dX5_letter_8 : decode cX5_letter 8 = .ok (.astore_n 3, 1) := by decide +kernel
theorem dX5_letter_9 : decode cX5_letter 9 = .ok (.aload_n 3, 1) := by decide +kernel
theorem dX5_letter_10 : decode cX5_letter 10 = .ok (.ifnonnull 7, 3) := by decide +kernel
theorem dX5_letter_13 : decode cX5_letter 13 = .ok (.iconst (-1), 1) := by decide +kernel
theorem dX5_letter_14 : decode cX5_letter 14 = .ok (.goto 8, 3) := by decide +kernel
theorem dX5_letter_17 : decode cX5_letter 17 = .ok (.aload_n 3, 1) := by decide +kernel
theorem dX5_letter_18 : decode cX5_letter 18 = .ok (.iload_n 2, 1) := by decide +kernel
theorem dX5_letter_19 : decode cX5_letter 19 = .ok (.invokevirtual 231, 3) := by decide +kernel
theorem dX5_letter_22 : decode cX5_letter 22 = .ok (.ireturn, 1) := by decide +kernel
theorem dX5_count_0 : decode cX5_count 0 = .ok (.iload_n 1, 1) := by decide +kernel
theorem dX5_count_1 : decode cX5_count 1 = .ok (.tableswitch 63 0 4 #[35, 43, 48, 53, 58], 35) := by decide +kernel
theorem dX5_count_36 : decode cX5_count 36 = .ok (.aload_n 0, 1) := by decide +kernel
theorem dX5_count_37 : decode cX5_count 37 = .ok (.getfield 34, 3) := by decide +kernel
theorem dX5_count_40 : decode cX5_count 40 = .ok (.getfield 137, 3) := by decide +kernel
theorem dX5_count_43 : decode cX5_count 43 = .ok (.ireturn, 1) := by decide +kernel
theorem dX5_count_44 : decode cX5_count 44 = .ok (.aload_n 0, 1) := by decide +kernel
theorem dX5_count_45 : decode cX5_count 45 = .ok (.getfield 120, 3) := by decide +kernel
theorem dX5_count_48 : decode cX5_count 48 = .ok (.ireturn, 1) := by decide +kernel
theorem dX5_count_49 : decode cX5_count 49 = .ok (.aload_n 0, 1) := by decide +kernel
theorem dX5_count_50 : decode cX5_count 50 = .ok (.getfield 234, 3) := by decide +kernel
theorem dX5_count_53 : decode cX5_count 53 = .ok (.ireturn, 1) := by decide +kernel
theorem dX5_count_54 : decode cX5_count 54 = .ok (.aload_n 0, 1) := by decide +kernel
theorem dX5_count_55 : decode cX5_count 55 = .ok (.getfield 237, 3) := by decide +kernel
theorem dX5_count_58 : decode cX5_count 58 = .ok (.ireturn, 1) := by decide +kernel
theorem dX5_count_59 : decode cX5_count 59 = .ok (.aload_n 0, 1) := by decide +kernel
theorem dX5_count_60 : decode cX5_count 60 = .ok (.getfield 51, 3) := by decide +kernel
theorem dX5_count_63 : decode cX5_count 63 = .ok (.ireturn, 1) := by decide +kernel
theorem dX5_count_64 : decode cX5_count 64 = .ok (.iconst (-1), 1) := by decide +kernel
theorem dX5_count_65 : decode cX5_count 65 = .ok (.ireturn, 1) := by decide +kernel
theorem dX5_clientAt_0 : decode cX5_clientAt 0 = .ok (.iload_n 1, 1) := by decide +kernel
theorem dX5_clientAt_1 : decode cX5_clientAt 1 = .ok (.ifCond .lt 21, 3) := by decide +kernel
theorem dX5_clientAt_4 : decode cX5_clientAt 4 = .ok (.iload_n 1, 1) := by decide +kernel
theorem dX5_clientAt_5 : decode cX5_clientAt 5 = .ok (.aload_n 0, 1) := by decide +kernel
theorem dX5_clientAt_6 : decode cX5_clientAt 6 = .ok (.getfield 24, 3) := by decide +kernel
theorem dX5_clientAt_9 : decode cX5_clientAt 9 = .ok (.arraylength, 1) := by decide +kernel
theorem dX5_clientAt_10 : decode cX5_clientAt 10 = .ok (.if_icmp .ge 12, 3) := by decide +kernel
theorem dX5_clientAt_13 : decode cX5_clientAt 13 = .ok (.aload_n 0, 1) := by decide +kernel
theorem dX5_clientAt_14 : decode cX5_clientAt 14 = .ok (.getfield 24, 3) := by decide +kernel
theorem dX5_clientAt_17 : decode cX5_clientAt 17 = .ok (.iload_n 1, 1) := by decide +kernel
theorem dX5_clientAt_18 : decode cX5_clientAt 18 = .ok (.aaload, 1) := by decide +kernel
theorem dX5_clientAt_19 : decode cX5_clientAt 19 = .ok (.goto 4, 3) := by decide +kernel
theorem dX5_clientAt_22 : decode cX5_clientAt 22 = .ok (.aconst_null, 1) := by decide +kernel
theorem dX5_clientAt_23 : decode cX5_clientAt 23 = .ok (.areturn, 1) := by decide +kernel
theorem dX5_serverAt_0 : decode cX5_serverAt 0 = .ok (.iload_n 1, 1) := by decide +kernel
theorem dX5_serverAt_1 : decode cX5_serverAt 1 = .ok (.ifCond .lt 21, 3) := by decide +kernel
theorem dX5_serverAt_4 : decode cX5_serverAt 4 = .ok (.iload_n 1, 1) := by decide +kernel
theorem dX5_serverAt_5 : decode cX5_serverAt 5 = .ok (.aload_n 0, 1) := by decide +kernel
theorem dX5_serverAt_6 : decode cX5_serverAt 6 = .ok (.getfield 15, 3) := by decide +kernel
theorem dX5_serverAt_9 : decode cX5_serverAt 9 = .ok (.arraylength, 1) := by decide +kernel
theorem dX5_serverAt_10 : decode cX5_serverAt 10 = .ok (.if_icmp .ge 12, 3) := by decide +kernel
theorem dX5_serverAt_13 : decode cX5_serverAt 13 = .ok (.aload_n 0, 1) := by decide +kernel
theorem dX5_serverAt_14 : decode cX5_serverAt 14 = .ok (.getfield 15, 3) := by decide +kernel
theorem dX5_serverAt_17 : decode cX5_serverAt 17 = .ok (.iload_n 1, 1) := by decide +kernel
theorem dX5_serverAt_18 : decode cX5_serverAt 18 = .ok (.aaload, 1) := by decide +kernel
theorem dX5_serverAt_19 : decode cX5_serverAt 19 = .ok (.goto 4, 3) := by decide +kernel
theorem dX5_serverAt_22 : decode cX5_serverAt 22 = .ok (.aconst_null, 1) := by decide +kernel
theorem dX5_serverAt_23 : decode cX5_serverAt 23 = .ok (.areturn, 1) := by decide +kernel
theorem dX5_bucketAt_0 : decode cX5_bucketAt 0 = .ok (.aload_n 0, 1) := by decide +kernel
theorem dX5_bucketAt_1 : decode cX5_bucketAt 1 = .ok (.iload_n 1, 1) := by decide +kernel
theorem dX5_bucketAt_2 : decode cX5_bucketAt 2 = .ok (.invokevirtual 85, 3) := by decide +kernel
theorem dX5_bucketAt_5 : decode cX5_bucketAt 5 = .ok (.astore_n 3, 1) := by decide +kernel
theorem dX5_bucketAt_6 : decode cX5_bucketAt 6 = .ok (.aload_n 3, 1) := by decide +kernel
theorem dX5_bucketAt_7 : decode cX5_bucketAt 7 = .ok (.ifnonnull 7, 3) := by decide +kernel
theorem dX5_bucketAt_10 : decode cX5_bucketAt 10 = .ok (.aconst_null, 1) := by decide +kernel
theorem dX5_bucketAt_11 : decode cX5_bucketAt 11 = .ok (.goto 8, 3) := by decide +kernel
theorem dX5_bucketAt_14 : decode cX5_bucketAt 14 = .ok (.aload_n 3, 1) := by decide +kernel
theorem dX5_bucketAt_15 : decode cX5_bucketAt 15 = .ok (.iload_n 2, 1) := by decide +kernel
theorem dX5_bucketAt_16 : decode cX5_bucketAt 16 = .ok (.invokevirtual 146, 3) := by decide +kernel
theorem dX5_bucketAt_19 : decode cX5_bucketAt 19 = .ok (.areturn, 1) := by decide +kernel
theorem dX5_isLive_0 : decode cX5_isLive 0 = .ok (.aload_n 0, 1) := by decide +kernel
theorem dX5_isLive_1 : decode cX5_isLive 1 = .ok (.iload_n 1, 1) := by decide +kernel
theorem dX5_isLive_2 : decode cX5_isLive 2 = .ok (.invokevirtual 38, 3) := by decide +kernel
theorem dX5_isLive_5 : decode cX5_isLive 5 = .ok (.astore_n 3, 1) := by decide +kernel
theorem dX5_isLive_6 : decode cX5_isLive 6 = .ok (.aload_n 3, 1) := by decide +kernel
theorem dX5_isLive_7 : decode cX5_isLive 7 = .ok (.ifnull 33, 3) := by decide +kernel
theorem dX5_isLive_10 : decode cX5_isLive 10 = .ok (.aload_n 3, 1) := by decide +kernel
theorem dX5_isLive_11 : decode cX5_isLive 11 = .ok (.getfield 45, 3) := by decide +kernel
theorem dX5_isLive_14 : decode cX5_isLive 14 = .ok (.ifCond .eq 26, 3) := by decide +kernel
theorem dX5_isLive_17 : decode cX5_isLive 17 = .ok (.aload_n 3, 1) := by decide +kernel
theorem dX5_isLive_18 : decode cX5_isLive 18 = .ok (.getfield 45, 3) := by decide +kernel
theorem dX5_isLive_21 : decode cX5_isLive 21 = .ok (.iload_n 2, 1) := by decide +kernel
theorem dX5_isLive_22 : decode cX5_isLive 22 = .ok (.if_icmp .ne 18, 3) := by decide +kernel
theorem dX5_isLive_25 : decode cX5_isLive 25 = .ok (.aload_n 0, 1) := by decide +kernel
theorem dX5_isLive_26 : decode cX5_isLive 26 = .ok (.getfield 51, 3) := by decide +kernel
theorem dX5_isLive_29 : decode cX5_isLive 29 = .ok (.aload_n 3, 1) := by decide +kernel
theorem dX5_isLive_30 : decode cX5_isLive 30 = .ok (.getfield 54, 3) := by decide +kernel
theorem dX5_isLive_33 : decode cX5_isLive 33 = .ok (.if_icmp .gt 7, 3) := by decide +kernel
theorem dX5_isLive_36 : decode cX5_isLive 36 = .ok (.iconst 1, 1) := by decide +kernel
theorem dX5_isLive_37 : decode cX5_isLive 37 = .ok (.goto 4, 3) := by decide +kernel
theorem dX5_isLive_40 : decode cX5_isLive 40 = .ok (.iconst 0, 1) := by decide +kernel
theorem dX5_isLive_41 : decode cX5_isLive 41 = .ok (.ireturn, 1) := by decide +kernel
theorem dX5_send_0 : decode cX5_send 0 = .ok (.aload_n 1, 1) := by decide +kernel
theorem dX5_send_1 : decode cX5_send 1 = .ok (.ifnull 24, 3) := by decide +kernel
theorem dX5_send_4 : decode cX5_send 4 = .ok (.aload_n 0, 1) := by decide +kernel
theorem dX5_send_5 : decode cX5_send 5 = .ok (.getfield 34, 3) := by decide +kernel
theorem dX5_send_8 : decode cX5_send 8 = .ok (.aload_n 1, 1) := by decide +kernel
theorem dX5_send_9 : decode cX5_send 9 = .ok (.invokevirtual 127, 3) := by decide +kernel
theorem dX5_send_12 : decode cX5_send 12 = .ok (.ifCond .ne 13, 3) := by decide +kernel
theorem dX5_send_15 : decode cX5_send 15 = .ok (.aload_n 0, 1) := by decide +kernel
theorem dX5_send_16 : decode cX5_send 16 = .ok (.dup, 1) := by decide +kernel
theorem dX5_send_17 : decode cX5_send 17 = .ok (.getfield 120, 3) := by decide +kernel
theorem dX5_send_20 : decode cX5_send 20 = .ok (.iconst 1, 1) := by decide +kernel
theorem dX5_send_21 : decode cX5_send 21 = .ok (.iadd, 1) := by decide +kernel
theorem dX5_send_22 : decode cX5_send 22 = .ok (.putfield 120, 3) := by decide +kernel
theorem dX5_send_25 : decode cX5_send 25 = .ok (.return_, 1) := by decide +kernel
theorem dX5_sendFrom_0 : decode cX5_sendFrom 0 = .ok (.aload_n 1, 1) := by decide +kernel
theorem dX5_sendFrom_1 : decode cX5_sendFrom 1 = .ok (.getfield 161, 3) := by decide +kernel
theorem dX5_sendFrom_4 : decode cX5_sendFrom 4 = .ok (.ifCond .eq 10, 3) := by decide +kernel
theorem dX5_sendFrom_7 : decode cX5_sendFrom 7 = .ok (.aload_n 0, 1) := by decide +kernel
theorem dX5_sendFrom_8 : decode cX5_sendFrom 8 = .ok (.getfield 34, 3) := by decide +kernel
theorem dX5_sendFrom_11 : decode cX5_sendFrom 11 = .ok (.goto 7, 3) := by decide +kernel
theorem dX5_sendFrom_14 : decode cX5_sendFrom 14 = .ok (.aload_n 1, 1) := by decide +kernel
theorem dX5_sendFrom_15 : decode cX5_sendFrom 15 = .ok (.getfield 134, 3) := by decide +kernel
theorem dX5_sendFrom_18 : decode cX5_sendFrom 18 = .ok (.astore_n 3, 1) := by decide +kernel
theorem dX5_sendFrom_19 : decode cX5_sendFrom 19 = .ok (.aload_n 3, 1) := by decide +kernel
theorem dX5_sendFrom_20 : decode cX5_sendFrom 20 = .ok (.aload_n 2, 1) := by decide +kernel
theorem dX5_sendFrom_21 : decode cX5_sendFrom 21 = .ok (.invokevirtual 127, 3) := by decide +kernel
theorem dX5_sendFrom_24 : decode cX5_sendFrom 24 = .ok (.ifCond .ne 13, 3) := by decide +kernel
theorem dX5_sendFrom_27 : decode cX5_sendFrom 27 = .ok (.aload_n 0, 1) := by decide +kernel
theorem dX5_sendFrom_28 : decode cX5_sendFrom 28 = .ok (.dup, 1) := by decide +kernel
theorem dX5_sendFrom_29 : decode cX5_sendFrom 29 = .ok (.getfield 120, 3) := by decide +kernel
theorem dX5_sendFrom_32 : decode cX5_sendFrom 32 = .ok (.iconst 1, 1) := by decide +kernel
theorem dX5_sendFrom_33 : decode cX5_sendFrom 33 = .ok (.iadd, 1) := by decide +kernel
theorem dX5_sendFrom_34 : decode cX5_sendFrom 34 = .ok (.putfield 120, 3) := by decide +kernel
theorem dX5_sendFrom_37 : decode cX5_sendFrom 37 = .ok (.return_, 1) := by decide +kernel
theorem dX5_takeAnswer_0 : decode cX5_takeAnswer 0 = .ok (.aload_n 0, 1) := by decide +kernel
theorem dX5_takeAnswer_1 : decode cX5_takeAnswer 1 = .ok (.aload_n 1, 1) := by decide +kernel
theorem dX5_takeAnswer_2 : decode cX5_takeAnswer 2 = .ok (.getfield 113, 3) := by decide +kernel
theorem dX5_takeAnswer_5 : decode cX5_takeAnswer 5 = .ok (.invokevirtual 38, 3) := by decide +kernel
theorem dX5_takeAnswer_8 : decode cX5_takeAnswer 8 = .ok (.astore_n 2, 1) := by decide +kernel
theorem dX5_takeAnswer_9 : decode cX5_takeAnswer 9 = .ok (.aload_n 2, 1) := by decide +kernel
theorem dX5_takeAnswer_10 : decode cX5_takeAnswer 10 = .ok (.ifnull 37, 3) := by decide +kernel
theorem dX5_takeAnswer_13 : decode cX5_takeAnswer 13 = .ok (.aload_n 2, 1) := by decide +kernel
theorem dX5_takeAnswer_14 : decode cX5_takeAnswer 14 = .ok (.getfield 45, 3) := by decide +kernel
theorem dX5_takeAnswer_17 : decode cX5_takeAnswer 17 = .ok (.aload_n 1, 1) := by decide +kernel
theorem dX5_takeAnswer_18 : decode cX5_takeAnswer 18 = .ok (.getfield 94, 3) := by decide +kernel
theorem dX5_takeAnswer_21 : decode cX5_takeAnswer 21 = .ok (.if_icmp .ne 26, 3) := by decide +kernel
theorem dX5_takeAnswer_24 : decode cX5_takeAnswer 24 = .ok (.aload_n 2, 1) := by decide +kernel
theorem dX5_takeAnswer_25 : decode cX5_takeAnswer 25 = .ok (.aload_n 1, 1) := by decide +kernel
theorem dX5_takeAnswer_26 : decode cX5_takeAnswer 26 = .ok (.getfield 240, 3) := by decide +kernel
theorem dX5_takeAnswer_29 : decode cX5_takeAnswer 29 = .ok (.invokevirtual 77, 3) := by decide +kernel
theorem dX5_takeAnswer_32 : decode cX5_takeAnswer 32 = .ok (.ifCond .eq 15, 3) := by decide +kernel
theorem dX5_takeAnswer_35 : decode cX5_takeAnswer 35 = .ok (.aload_n 2, 1) := by decide +kernel
theorem dX5_takeAnswer_36 : decode cX5_takeAnswer 36 = .ok (.getfield 81, 3) := by decide +kernel
theorem dX5_takeAnswer_39 : decode cX5_takeAnswer 39 = .ok (.aload_n 1, 1) := by decide +kernel
theorem dX5_takeAnswer_40 : decode cX5_takeAnswer 40 = .ok (.getfield 240, 3) := by decide +kernel
theorem dX5_takeAnswer_43 : decode cX5_takeAnswer 43 = .ok (.iaload, 1) := by decide +kernel
theorem dX5_takeAnswer_44 : decode cX5_takeAnswer 44 = .ok (.ifCond .eq 4, 3) := by decide +kernel
theorem dX5_takeAnswer_47 : decode cX5_takeAnswer 47 = .ok (.return_, 1) := by decide +kernel
theorem dX5_takeAnswer_48 : decode cX5_takeAnswer 48 = .ok (.aload_n 1, 1) := by decide +kernel
theorem dX5_takeAnswer_49 : decode cX5_takeAnswer 49 = .ok (.getfield 243, 3) := by decide +kernel
theorem dX5_takeAnswer_52 : decode cX5_takeAnswer 52 = .ok (.ifCond .ne 39, 3) := by decide +kernel
theorem dX5_takeAnswer_55 : decode cX5_takeAnswer 55 = .ok (.aload_n 2, 1) := by decide +kernel
theorem dX5_takeAnswer_56 : decode cX5_takeAnswer 56 = .ok (.getfield 81, 3) := by decide +kernel
theorem dX5_takeAnswer_59 : decode cX5_takeAnswer 59 = .ok (.aload_n 1, 1) := by decide +kernel
theorem dX5_takeAnswer_60 : decode cX5_takeAnswer 60 = .ok (.getfield 240, 3) := by decide +kernel
theorem dX5_takeAnswer_63 : decode cX5_takeAnswer 63 = .ok (.iconst 1, 1) := by decide +kernel
theorem dX5_takeAnswer_64 : decode cX5_takeAnswer 64 = .ok (.iastore, 1) := by decide +kernel
theorem dX5_takeAnswer_65 : decode cX5_takeAnswer 65 = .ok (.aload_n 2, 1) := by decide +kernel
theorem dX5_takeAnswer_66 : decode cX5_takeAnswer 66 = .ok (.getfield 228, 3) := by decide +kernel
theorem dX5_takeAnswer_69 : decode cX5_takeAnswer 69 = .ok (.aload_n 1, 1) := by decide +kernel
theorem dX5_takeAnswer_70 : decode cX5_takeAnswer 70 = .ok (.getfield 240, 3) := by decide +kernel
theorem dX5_takeAnswer_73 : decode cX5_takeAnswer 73 = .ok (.aload_n 1, 1) := by decide +kernel
theorem dX5_takeAnswer_74 : decode cX5_takeAnswer 74 = .ok (.getfield 246, 3) := by decide +kernel
theorem dX5_takeAnswer_77 : decode cX5_takeAnswer 77 = .ok (.lastore, 1) := by decide +kernel
theorem dX5_takeAnswer_78 : decode cX5_takeAnswer 78 = .ok (.aload_n 0, 1) := by decide +kernel
theorem dX5_takeAnswer_79 : decode cX5_takeAnswer 79 = .ok (.dup, 1) := by decide +kernel
theorem dX5_takeAnswer_80 : decode cX5_takeAnswer 80 = .ok (.getfield 237, 3) := by decide +kernel
theorem dX5_takeAnswer_83 : decode cX5_takeAnswer 83 = .ok (.iconst 1, 1) := by decide +kernel
theorem dX5_takeAnswer_84 : decode cX5_takeAnswer 84 = .ok (.iadd, 1) := by decide +kernel
theorem dX5_takeAnswer_85 : decode cX5_takeAnswer 85 = .ok (.putfield 237, 3) := by decide +kernel
theorem dX5_takeAnswer_88 : decode cX5_takeAnswer 88 = .ok (.goto 48, 3) := by decide +kernel
theorem dX5_takeAnswer_91 : decode cX5_takeAnswer 91 = .ok (.aload_n 1, 1) := by decide +kernel
theorem dX5_takeAnswer_92 : decode cX5_takeAnswer 92 = .ok (.getfield 243, 3) := by decide +kernel
theorem dX5_takeAnswer_95 : decode cX5_takeAnswer 95 = .ok (.iconst 1, 1) := by decide +kernel
theorem dX5_takeAnswer_96 : decode cX5_takeAnswer 96 = .ok (.if_icmp .ne 28, 3) := by decide +kernel
theorem dX5_takeAnswer_99 : decode cX5_takeAnswer 99 = .ok (.aload_n 2, 1) := by decide +kernel
theorem dX5_takeAnswer_100 : decode cX5_takeAnswer 100 = .ok (.getfield 225, 3) := by decide +kernel
theorem dX5_takeAnswer_103 : decode cX5_takeAnswer 103 = .ok (.aload_n 2, 1) := by decide +kernel
theorem dX5_takeAnswer_104 : decode cX5_takeAnswer 104 = .ok (.getfield 250, 3) := by decide +kernel
theorem dX5_takeAnswer_107 : decode cX5_takeAnswer 107 = .ok (.aload_n 1, 1) := by decide +kernel
theorem dX5_takeAnswer_108 : decode cX5_takeAnswer 108 = .ok (.getfield 240, 3) := by decide +kernel
theorem dX5_takeAnswer_111 : decode cX5_takeAnswer 111 = .ok (.iaload, 1) := by decide +kernel
theorem dX5_takeAnswer_112 : decode cX5_takeAnswer 112 = .ok (.invokestatic 205, 3) := by decide +kernel
theorem dX5_takeAnswer_115 : decode cX5_takeAnswer 115 = .ok (.aload_n 1, 1) := by decide +kernel
theorem dX5_takeAnswer_116 : decode cX5_takeAnswer 116 = .ok (.getfield 246, 3) := by decide +kernel
theorem dX5_takeAnswer_119 : decode cX5_takeAnswer 119 = .ok (.l2i, 1) := by decide +kernel
theorem dX5_takeAnswer_120 : decode cX5_takeAnswer 120 = .ok (.iastore, 1) := by decide +kernel
theorem dX5_takeAnswer_121 : decode cX5_takeAnswer 121 = .ok (.goto 15, 3) := by decide +kernel
theorem dX5_takeAnswer_124 : decode cX5_takeAnswer 124 = .ok (.aload_n 1, 1) := by decide +kernel
theorem dX5_takeAnswer_125 : decode cX5_takeAnswer 125 = .ok (.getfield 243, 3) := by decide +kernel
theorem dX5_takeAnswer_128 : decode cX5_takeAnswer 128 = .ok (.iconst 3, 1) := by decide +kernel
theorem dX5_takeAnswer_129 : decode cX5_takeAnswer 129 = .ok (.if_icmp .ne 7, 3) := by decide +kernel
theorem dX5_takeAnswer_132 : decode cX5_takeAnswer 132 = .ok (.aload_n 2, 1) := by decide +kernel
theorem dX5_takeAnswer_133 : decode cX5_takeAnswer 133 = .ok (.invokevirtual 253, 3) := by decide +kernel
theorem dX5_takeAnswer_136 : decode cX5_takeAnswer 136 = .ok (.return_, 1) := by decide +kernel
theorem dX5_takeAtServer_0 : decode cX5_takeAtServer 0 = .ok (.aload_n 2, 1) := by decide +kernel
theorem dX5_takeAtServer_1 : decode cX5_takeAtServer 1 = .ok (.getfield 107, 3) := by decide +kernel
theorem dX5_takeAtServer_4 : decode cX5_takeAtServer 4 = .ok (.tableswitch 72 1 5 #[36, 72, 45, 54, 63], 36) := by decide +kernel
theorem dX5_takeAtServer_40 : decode cX5_takeAtServer 40 = .ok (.aload_n 0, 1) := by decide +kernel
theorem dX5_takeAtServer_41 : decode cX5_takeAtServer 41 = .ok (.aload_n 1, 1) := by decide +kernel
theorem dX5_takeAtServer_42 : decode cX5_takeAtServer 42 = .ok (.aload_n 2, 1) := by decide +kernel
theorem dX5_takeAtServer_43 : decode cX5_takeAtServer 43 = .ok (.invokevirtual 256, 3) := by decide +kernel
theorem dX5_takeAtServer_46 : decode cX5_takeAtServer 46 = .ok (.goto 30, 3) := by decide +kernel
theorem dX5_takeAtServer_49 : decode cX5_takeAtServer 49 = .ok (.aload_n 0, 1) := by decide +kernel
theorem dX5_takeAtServer_50 : decode cX5_takeAtServer 50 = .ok (.aload_n 1, 1) := by decide +kernel
theorem dX5_takeAtServer_51 : decode cX5_takeAtServer 51 = .ok (.aload_n 2, 1) := by decide +kernel
theorem dX5_takeAtServer_52 : decode cX5_takeAtServer 52 = .ok (.invokevirtual 259, 3) := by decide +kernel
theorem dX5_takeAtServer_55 : decode cX5_takeAtServer 55 = .ok (.goto 21, 3) := by decide +kernel
theorem dX5_takeAtServer_58 : decode cX5_takeAtServer 58 = .ok (.aload_n 0, 1) := by decide +kernel
theorem dX5_takeAtServer_59 : decode cX5_takeAtServer 59 = .ok (.aload_n 1, 1) := by decide +kernel
theorem dX5_takeAtServer_60 : decode cX5_takeAtServer 60 = .ok (.aload_n 2, 1) := by decide +kernel
theorem dX5_takeAtServer_61 : decode cX5_takeAtServer 61 = .ok (.invokevirtual 262, 3) := by decide +kernel
theorem dX5_takeAtServer_64 : decode cX5_takeAtServer 64 = .ok (.goto 12, 3) := by decide +kernel
theorem dX5_takeAtServer_67 : decode cX5_takeAtServer 67 = .ok (.aload_n 0, 1) := by decide +kernel
theorem dX5_takeAtServer_68 : decode cX5_takeAtServer 68 = .ok (.aload_n 1, 1) := by decide +kernel
theorem dX5_takeAtServer_69 : decode cX5_takeAtServer 69 = .ok (.aload_n 2, 1) := by decide +kernel
theorem dX5_takeAtServer_70 : decode cX5_takeAtServer 70 = .ok (.invokevirtual 265, 3) := by decide +kernel
theorem dX5_takeAtServer_73 : decode cX5_takeAtServer 73 = .ok (.goto 3, 3) := by decide +kernel
theorem dX5_takeAtServer_76 : decode cX5_takeAtServer 76 = .ok (.return_, 1) := by decide +kernel
theorem dX5_takeRequest_0 : decode cX5_takeRequest 0 = .ok (.aload_n 1, 1) := by decide +kernel
theorem dX5_takeRequest_1 : decode cX5_takeRequest 1 = .ok (.aload_n 2, 1) := by decide +kernel
theorem dX5_takeRequest_2 : decode cX5_takeRequest 2 = .ok (.getfield 268, 3) := by decide +kernel
theorem dX5_takeRequest_5 : decode cX5_takeRequest 5 = .ok (.invokestatic 205, 3) := by decide +kernel
theorem dX5_takeRequest_8 : decode cX5_takeRequest 8 = .ok (.invokevirtual 146, 3) := by decide +kernel
theorem dX5_takeRequest_11 : decode cX5_takeRequest 11 = .ok (.astore_n 3, 1) := by decide +kernel
theorem dX5_takeRequest_12 : decode cX5_takeRequest 12 = .ok (.aload_n 3, 1) := by decide +kernel
theorem dX5_takeRequest_13 : decode cX5_takeRequest 13 = .ok (.ifnonnull 4, 3) := by decide +kernel
theorem dX5_takeRequest_16 : decode cX5_takeRequest 16 = .ok (.return_, 1) := by decide +kernel
theorem dX5_takeRequest_17 : decode cX5_takeRequest 17 = .ok (.aload_n 0, 1) := by decide +kernel
theorem dX5_takeRequest_18 : decode cX5_takeRequest 18 = .ok (.aload_n 2, 1) := by decide +kernel
theorem dX5_takeRequest_19 : decode cX5_takeRequest 19 = .ok (.getfield 271, 3) := by decide +kernel
theorem dX5_takeRequest_22 : decode cX5_takeRequest 22 = .ok (.aload_n 2, 1) := by decide +kernel
theorem dX5_takeRequest_23 : decode cX5_takeRequest 23 = .ok (.getfield 94, 3) := by decide +kernel
theorem dX5_takeRequest_26 : decode cX5_takeRequest 26 = .ok (.invokevirtual 57, 3) := by decide +kernel
theorem dX5_takeRequest_29 : decode cX5_takeRequest 29 = .ok (.ifCond .ne 14, 3) := by decide +kernel
theorem dX5_takeRequest_32 : decode cX5_takeRequest 32 = .ok (.aload_n 0, 1) := by decide +kernel
theorem dX5_takeRequest_33 : decode cX5_takeRequest 33 = .ok (.aload_n 1, 1) := by decide +kernel
theorem dX5_takeRequest_34 : decode cX5_takeRequest 34 = .ok (.aload_n 2, 1) := by decide +kernel
theorem dX5_takeRequest_35 : decode cX5_takeRequest 35 = .ok (.iconst 3, 1) := by decide +kernel
theorem dX5_takeRequest_36 : decode cX5_takeRequest 36 = .ok (.lconst 0, 1) := by decide +kernel
theorem dX5_takeRequest_37 : decode cX5_takeRequest 37 = .ok (.invokevirtual 274, 3) := by decide +kernel
theorem dX5_takeRequest_40 : decode cX5_takeRequest 40 = .ok (.goto 51, 3) := by decide +kernel
theorem dX5_takeRequest_43 : decode cX5_takeRequest 43 = .ok (.aload_n 3, 1) := by decide +kernel
theorem dX5_takeRequest_44 : decode cX5_takeRequest 44 = .ok (.getfield 155, 3) := by decide +kernel
theorem dX5_takeRequest_47 : decode cX5_takeRequest 47 = .ok (.iconst 2, 1) := by decide +kernel
theorem dX5_takeRequest_48 : decode cX5_takeRequest 48 = .ok (.if_icmp .ne 14, 3) := by decide +kernel
theorem dX5_takeRequest_51 : decode cX5_takeRequest 51 = .ok (.aload_n 0, 1) := by decide +kernel
theorem dX5_takeRequest_52 : decode cX5_takeRequest 52 = .ok (.aload_n 1, 1) := by decide +kernel
theorem dX5_takeRequest_53 : decode cX5_takeRequest 53 = .ok (.aload_n 2, 1) := by decide +kernel
theorem dX5_takeRequest_54 : decode cX5_takeRequest 54 = .ok (.iconst 2, 1) := by decide +kernel
theorem dX5_takeRequest_55 : decode cX5_takeRequest 55 = .ok (.lconst 0, 1) := by decide +kernel
theorem dX5_takeRequest_56 : decode cX5_takeRequest 56 = .ok (.invokevirtual 274, 3) := by decide +kernel
theorem dX5_takeRequest_59 : decode cX5_takeRequest 59 = .ok (.goto 32, 3) := by decide +kernel
theorem dX5_takeRequest_62 : decode cX5_takeRequest 62 = .ok (.aload_n 3, 1) := by decide +kernel
theorem dX5_takeRequest_63 : decode cX5_takeRequest 63 = .ok (.getfield 155, 3) := by decide +kernel
theorem dX5_takeRequest_66 : decode cX5_takeRequest 66 = .ok (.ifCond .ne 18, 3) := by decide +kernel
theorem dX5_takeRequest_69 : decode cX5_takeRequest 69 = .ok (.aload_n 0, 1) := by decide +kernel
theorem dX5_takeRequest_70 : decode cX5_takeRequest 70 = .ok (.aload_n 1, 1) := by decide +kernel
theorem dX5_takeRequest_71 : decode cX5_takeRequest 71 = .ok (.aload_n 2, 1) := by decide +kernel
theorem dX5_takeRequest_72 : decode cX5_takeRequest 72 = .ok (.iconst 1, 1) := by decide +kernel
theorem dX5_takeRequest_73 : decode cX5_takeRequest 73 = .ok (.aload_n 3, 1) := by decide +kernel
theorem dX5_takeRequest_74 : decode cX5_takeRequest 74 = .ok (.getfield 158, 3) := by decide +kernel
theorem dX5_takeRequest_77 : decode cX5_takeRequest 77 = .ok (.i2l, 1) := by decide +kernel
theorem dX5_takeRequest_78 : decode cX5_takeRequest 78 = .ok (.invokevirtual 274, 3) := by decide +kernel
theorem dX5_takeRequest_81 : decode cX5_takeRequest 81 = .ok (.goto 10, 3) := by decide +kernel
theorem dX5_takeRequest_84 : decode cX5_takeRequest 84 = .ok (.aload_n 0, 1) := by decide +kernel
theorem dX5_takeRequest_85 : decode cX5_takeRequest 85 = .ok (.aload_n 1, 1) := by decide +kernel
theorem dX5_takeRequest_86 : decode cX5_takeRequest 86 = .ok (.aload_n 3, 1) := by decide +kernel
theorem dX5_takeRequest_87 : decode cX5_takeRequest 87 = .ok (.aload_n 2, 1) := by decide +kernel
theorem dX5_takeRequest_88 : decode cX5_takeRequest 88 = .ok (.invokevirtual 278, 3) := by decide +kernel
theorem dX5_takeRequest_91 : decode cX5_takeRequest 91 = .ok (.return_, 1) := by decide +kernel
theorem dX5_takeOwnRequest_0 : decode cX5_takeOwnRequest 0 = .ok (.aload_n 2, 1) := by decide +kernel
theorem dX5_takeOwnRequest_1 : decode cX5_takeOwnRequest 1 = .ok (.aload_n 3, 1) := by decide +kernel
theorem dX5_takeOwnRequest_2 : decode cX5_takeOwnRequest 2 = .ok (.invokevirtual 282, 3) := by decide +kernel
theorem dX5_takeOwnRequest_5 : decode cX5_takeOwnRequest 5 = .ok (.ifCond .eq 8, 3) := by decide +kernel
theorem dX5_takeOwnRequest_8 : decode cX5_takeOwnRequest 8 = .ok (.aload_n 1, 1) := by decide +kernel
theorem dX5_takeOwnRequest_9 : decode cX5_takeOwnRequest 9 = .ok (.iconst 0, 1) := by decide +kernel
theorem dX5_takeOwnRequest_10 : decode cX5_takeOwnRequest 10 = .ok (.putfield 161, 3) := by decide +kernel
theorem dX5_takeOwnRequest_13 : decode cX5_takeOwnRequest 13 = .ok (.aload_n 2, 1) := by decide +kernel
theorem dX5_takeOwnRequest_14 : decode cX5_takeOwnRequest 14 = .ok (.aload_n 3, 1) := by decide +kernel
theorem dX5_takeOwnRequest_15 : decode cX5_takeOwnRequest 15 = .ok (.invokevirtual 285, 3) := by decide +kernel
theorem dX5_takeOwnRequest_18 : decode cX5_takeOwnRequest 18 = .ok (.istore 4, 2) := by decide +kernel
theorem dX5_takeOwnRequest_20 : decode cX5_takeOwnRequest 20 = .ok (.aload_n 3, 1) := by decide +kernel
theorem dX5_takeOwnRequest_21 : decode cX5_takeOwnRequest 21 = .ok (.getfield 240, 3) := by decide +kernel
theorem dX5_takeOwnRequest_24 : decode cX5_takeOwnRequest 24 = .ok (.aload_n 2, 1) := by decide +kernel
theorem dX5_takeOwnRequest_25 : decode cX5_takeOwnRequest 25 = .ok (.aload_n 3, 1) := by decide +kernel
theorem dX5_takeOwnRequest_26 : decode cX5_takeOwnRequest 26 = .ok (.getfield 271, 3) := by decide +kernel
theorem dX5_takeOwnRequest_29 : decode cX5_takeOwnRequest 29 = .ok (.invokevirtual 289, 3) := by decide +kernel
theorem dX5_takeOwnRequest_32 : decode cX5_takeOwnRequest 32 = .ok (.if_icmp .ge 14, 3) := by decide +kernel
theorem dX5_takeOwnRequest_35 : decode cX5_takeOwnRequest 35 = .ok (.aload_n 0, 1) := by decide +kernel
theorem dX5_takeOwnRequest_36 : decode cX5_takeOwnRequest 36 = .ok (.aload_n 1, 1) := by decide +kernel
theorem dX5_takeOwnRequest_37 : decode cX5_takeOwnRequest 37 = .ok (.aload_n 3, 1) := by decide +kernel
theorem dX5_takeOwnRequest_38 : decode cX5_takeOwnRequest 38 = .ok (.iconst 4, 1) := by decide +kernel
theorem dX5_takeOwnRequest_39 : decode cX5_takeOwnRequest 39 = .ok (.lconst 0, 1) := by decide +kernel
theorem dX5_takeOwnRequest_40 : decode cX5_takeOwnRequest 40 = .ok (.invokevirtual 274, 3) := by decide +kernel
theorem dX5_takeOwnRequest_43 : decode cX5_takeOwnRequest 43 = .ok (.goto 83, 3) := by decide +kernel
theorem dX5_takeOwnRequest_46 : decode cX5_takeOwnRequest 46 = .ok (.iload 4, 2) := by decide +kernel
theorem dX5_takeOwnRequest_48 : decode cX5_takeOwnRequest 48 = .ok (.ifCond .lt 20, 3) := by decide +kernel
theorem dX5_takeOwnRequest_51 : decode cX5_takeOwnRequest 51 = .ok (.aload_n 0, 1) := by decide +kernel
theorem dX5_takeOwnRequest_52 : decode cX5_takeOwnRequest 52 = .ok (.aload_n 1, 1) := by decide +kernel
theorem dX5_takeOwnRequest_53 : decode cX5_takeOwnRequest 53 = .ok (.aload_n 3, 1) := by decide +kernel
theorem dX5_takeOwnRequest_54 : decode cX5_takeOwnRequest 54 = .ok (.iconst 0, 1) := by decide +kernel
theorem dX5_takeOwnRequest_55 : decode cX5_takeOwnRequest 55 = .ok (.aload_n 2, 1) := by decide +kernel
theorem dX5_takeOwnRequest_56 : decode cX5_takeOwnRequest 56 = .ok (.getfield 292, 3) := by decide +kernel
theorem dX5_takeOwnRequest_59 : decode cX5_takeOwnRequest 59 = .ok (.iload 4, 2) := by decide +kernel
theorem dX5_takeOwnRequest_61 : decode cX5_takeOwnRequest 61 = .ok (.laload, 1) := by decide +kernel
theorem dX5_takeOwnRequest_62 : decode cX5_takeOwnRequest 62 = .ok (.invokevirtual 274, 3) := by decide +kernel
theorem dX5_takeOwnRequest_65 : decode cX5_takeOwnRequest 65 = .ok (.goto 61, 3) := by decide +kernel
theorem dX5_takeOwnRequest_68 : decode cX5_takeOwnRequest 68 = .ok (.aload_n 2, 1) := by decide +kernel
theorem dX5_takeOwnRequest_69 : decode cX5_takeOwnRequest 69 = .ok (.getfield 202, 3) := by decide +kernel
theorem dX5_takeOwnRequest_72 : decode cX5_takeOwnRequest 72 = .ok (.bipush 12, 2) := by decide +kernel
theorem dX5_takeOwnRequest_74 : decode cX5_takeOwnRequest 74 = .ok (.if_icmp .lt 14, 3) := by decide +kernel
theorem dX5_takeOwnRequest_77 : decode cX5_takeOwnRequest 77 = .ok (.aload_n 0, 1) := by decide +kernel
theorem dX5_takeOwnRequest_78 : decode cX5_takeOwnRequest 78 = .ok (.aload_n 1, 1) := by decide +kernel
theorem dX5_takeOwnRequest_79 : decode cX5_takeOwnRequest 79 = .ok (.aload_n 3, 1) := by decide +kernel
theorem dX5_takeOwnRequest_80 : decode cX5_takeOwnRequest 80 = .ok (.iconst 2, 1) := by decide +kernel
theorem dX5_takeOwnRequest_81 : decode cX5_takeOwnRequest 81 = .ok (.lconst 0, 1) := by decide +kernel
theorem dX5_takeOwnRequest_82 : decode cX5_takeOwnRequest 82 = .ok (.invokevirtual 274, 3) := by decide +kernel
theorem dX5_takeOwnRequest_85 : decode cX5_takeOwnRequest 85 = .ok (.goto 41, 3) := by decide +kernel
theorem dX5_takeOwnRequest_88 : decode cX5_takeOwnRequest 88 = .ok (.aload_n 2, 1) := by decide +kernel
theorem dX5_takeOwnRequest_89 : decode cX5_takeOwnRequest 89 = .ok (.aload_n 3, 1) := by decide +kernel
theorem dX5_takeOwnRequest_90 : decode cX5_takeOwnRequest 90 = .ok (.invokevirtual 295, 3) := by decide +kernel
theorem dX5_takeOwnRequest_93 : decode cX5_takeOwnRequest 93 = .ok (.lstore 5, 2) := by decide +kernel
theorem dX5_takeOwnRequest_95 : decode cX5_takeOwnRequest 95 = .ok (.aload_n 2, 1) := by decide +kernel
theorem dX5_takeOwnRequest_96 : decode cX5_takeOwnRequest 96 = .ok (.aload_n 3, 1) := by decide +kernel
theorem dX5_takeOwnRequest_97 : decode cX5_takeOwnRequest 97 = .ok (.lload 5, 2) := by decide +kernel
theorem dX5_takeOwnRequest_99 : decode cX5_takeOwnRequest 99 = .ok (.invokevirtual 299, 3) := by decide +kernel
theorem dX5_takeOwnRequest_102 : decode cX5_takeOwnRequest 102 = .ok (.aload_n 1, 1) := by decide +kernel
theorem dX5_takeOwnRequest_103 : decode cX5_takeOwnRequest 103 = .ok (.iconst 0, 1) := by decide +kernel
theorem dX5_takeOwnRequest_104 : decode cX5_takeOwnRequest 104 = .ok (.putfield 161, 3) := by decide +kernel
theorem dX5_takeOwnRequest_107 : decode cX5_takeOwnRequest 107 = .ok (.aload_n 0, 1) := by decide +kernel
theorem dX5_takeOwnRequest_108 : decode cX5_takeOwnRequest 108 = .ok (.dup, 1) := by decide +kernel
theorem dX5_takeOwnRequest_109 : decode cX5_takeOwnRequest 109 = .ok (.getfield 234, 3) := by decide +kernel
theorem dX5_takeOwnRequest_112 : decode cX5_takeOwnRequest 112 = .ok (.iconst 1, 1) := by decide +kernel
theorem dX5_takeOwnRequest_113 : decode cX5_takeOwnRequest 113 = .ok (.iadd, 1) := by decide +kernel
theorem dX5_takeOwnRequest_114 : decode cX5_takeOwnRequest 114 = .ok (.putfield 234, 3) := by decide +kernel
theorem dX5_takeOwnRequest_117 : decode cX5_takeOwnRequest 117 = .ok (.aload_n 0, 1) := by decide +kernel
theorem dX5_takeOwnRequest_118 : decode cX5_takeOwnRequest 118 = .ok (.aload_n 1, 1) := by decide +kernel
theorem dX5_takeOwnRequest_119 : decode cX5_takeOwnRequest 119 = .ok (.aload_n 3, 1) := by decide +kernel
theorem dX5_takeOwnRequest_120 : decode cX5_takeOwnRequest 120 = .ok (.iconst 0, 1) := by decide +kernel
theorem dX5_takeOwnRequest_121 : decode cX5_takeOwnRequest 121 = .ok (.lload 5, 2) := by decide +kernel
theorem dX5_takeOwnRequest_123 : decode cX5_takeOwnRequest 123 = .ok (.invokevirtual 274, 3) := by decide +kernel
theorem dX5_takeOwnRequest_126 : decode cX5_takeOwnRequest 126 = .ok (.return_, 1) := by decide +kernel
theorem dX5_answer_0 : decode cX5_answer 0 = .ok (.new 89, 3) := by decide +kernel
theorem dX5_answer_3 : decode cX5_answer 3 = .ok (.dup, 1) := by decide +kernel
theorem dX5_answer_4 : decode cX5_answer 4 = .ok (.iconst 2, 1) := by decide +kernel
theorem dX5_answer_5 : decode cX5_answer 5 = .ok (.aload_n 2, 1) := by decide +kernel
theorem dX5_answer_6 : decode cX5_answer 6 = .ok (.getfield 271, 3) := by decide +kernel
theorem dX5_answer_9 : decode cX5_answer 9 = .ok (.aload_n 1, 1) := by decide +kernel
theorem dX5_answer_10 : decode cX5_answer 10 = .ok (.getfield 303, 3) := by decide +kernel
theorem dX5_answer_13 : decode cX5_answer 13 = .ok (.invokespecial 91, 3) := by decide +kernel
theorem dX5_answer_16 : decode cX5_answer 16 = .ok (.astore 6, 2) := by decide +kernel
theorem dX5_answer_18 : decode cX5_answer 18 = .ok (.aload 6, 2) := by decide +kernel
theorem dX5_answer_20 : decode cX5_answer 20 = .ok (.aload_n 2, 1) := by decide +kernel
theorem dX5_answer_21 : decode cX5_answer 21 = .ok (.getfield 94, 3) := by decide +kernel
theorem dX5_answer_24 : decode cX5_answer 24 = .ok (.putfield 94, 3) := by decide +kernel
theorem dX5_answer_27 : decode cX5_answer 27 = .ok (.aload 6, 2) := by decide +kernel
theorem dX5_answer_29 : decode cX5_answer 29 = .ok (.aload_n 2, 1) := by decide +kernel
theorem dX5_answer_30 : decode cX5_answer 30 = .ok (.getfield 240, 3) := by decide +kernel
theorem dX5_answer_33 : decode cX5_answer 33 = .ok (.putfield 240, 3) := by decide +kernel
theorem dX5_answer_36 : decode cX5_answer 36 = .ok (.aload 6, 2) := by decide +kernel
theorem dX5_answer_38 : decode cX5_answer 38 = .ok (.iload_n 3, 1) := by decide +kernel
theorem dX5_answer_39 : decode cX5_answer 39 = .ok (.putfield 243, 3) := by decide +kernel
theorem dX5_answer_42 : decode cX5_answer 42 = .ok (.aload 6, 2) := by decide +kernel
theorem dX5_answer_44 : decode cX5_answer 44 = .ok (.lload 4, 2) := by decide +kernel
theorem dX5_answer_46 : decode cX5_answer 46 = .ok (.putfield 246, 3) := by decide +kernel
theorem dX5_answer_49 : decode cX5_answer 49 = .ok (.aload_n 0, 1) := by decide +kernel
theorem dX5_answer_50 : decode cX5_answer 50 = .ok (.aload_n 1, 1) := by decide +kernel
theorem dX5_answer_51 : decode cX5_answer 51 = .ok (.aload 6, 2) := by decide +kernel
theorem dX5_answer_53 : decode cX5_answer 53 = .ok (.invokevirtual 180, 3) := by decide +kernel
theorem dX5_answer_56 : decode cX5_answer 56 = .ok (.return_, 1) := by decide +kernel
theorem dX5_takeMove_0 : decode cX5_takeMove 0 = .ok (.aload_n 1, 1) := by decide +kernel
theorem dX5_takeMove_1 : decode cX5_takeMove 1 = .ok (.aload_n 2, 1) := by decide +kernel
theorem dX5_takeMove_2 : decode cX5_takeMove 2 = .ok (.getfield 164, 3) := by decide +kernel
theorem dX5_takeMove_5 : decode cX5_takeMove 5 = .ok (.invokevirtual 146, 3) := by decide +kernel
theorem dX5_takeMove_8 : decode cX5_takeMove 8 = .ok (.astore_n 3, 1) := by decide +kernel
theorem dX5_takeMove_9 : decode cX5_takeMove 9 = .ok (.aload_n 3, 1) := by decide +kernel
theorem dX5_takeMove_10 : decode cX5_takeMove 10 = .ok (.ifnull 10, 3) := by decide +kernel
theorem dX5_takeMove_13 : decode cX5_takeMove 13 = .ok (.aload_n 2, 1) := by decide +kernel
theorem dX5_takeMove_14 : decode cX5_takeMove 14 = .ok (.getfield 172, 3) := by decide +kernel
theorem dX5_takeMove_17 : decode cX5_takeMove 17 = .ok (.ifnonnull 4, 3) := by decide +kernel
theorem dX5_takeMove_20 : decode cX5_takeMove 20 = .ok (.return_, 1) := by decide +kernel
theorem dX5_takeMove_21 : decode cX5_takeMove 21 = .ok (.aload_n 2, 1) := by decide +kernel
theorem dX5_takeMove_22 : decode cX5_takeMove 22 = .ok (.getfield 170, 3) := by decide +kernel
theorem dX5_takeMove_25 : decode cX5_takeMove 25 = .ok (.aload_n 3, 1) := by decide +kernel
theorem dX5_takeMove_26 : decode cX5_takeMove 26 = .ok (.getfield 167, 3) := by decide +kernel
theorem dX5_takeMove_29 : decode cX5_takeMove 29 = .ok (.if_icmp .le 37, 3) := by decide +kernel
theorem dX5_takeMove_32 : decode cX5_takeMove 32 = .ok (.aload_n 3, 1) := by decide +kernel
theorem dX5_takeMove_33 : decode cX5_takeMove 33 = .ok (.aload_n 2, 1) := by decide +kernel
theorem dX5_takeMove_34 : decode cX5_takeMove 34 = .ok (.getfield 172, 3) := by decide +kernel
theorem dX5_takeMove_37 : decode cX5_takeMove 37 = .ok (.invokevirtual 176, 3) := by decide +kernel
theorem dX5_takeMove_40 : decode cX5_takeMove 40 = .ok (.aload_n 3, 1) := by decide +kernel
theorem dX5_takeMove_41 : decode cX5_takeMove 41 = .ok (.iconst 1, 1) := by decide +kernel
theorem dX5_takeMove_42 : decode cX5_takeMove 42 = .ok (.putfield 155, 3) := by decide +kernel
theorem dX5_takeMove_45 : decode cX5_takeMove 45 = .ok (.aload_n 3, 1) := by decide +kernel
theorem dX5_takeMove_46 : decode cX5_takeMove 46 = .ok (.aload_n 2, 1) := by decide +kernel
theorem dX5_takeMove_47 : decode cX5_takeMove 47 = .ok (.getfield 170, 3) := by decide +kernel
theorem dX5_takeMove_50 : decode cX5_takeMove 50 = .ok (.putfield 167, 3) := by decide +kernel
theorem dX5_takeMove_53 : decode cX5_takeMove 53 = .ok (.aload_n 3, 1) := by decide +kernel
theorem dX5_takeMove_54 : decode cX5_takeMove 54 = .ok (.aload_n 1, 1) := by decide +kernel
theorem dX5_takeMove_55 : decode cX5_takeMove 55 = .ok (.getfield 303, 3) := by decide +kernel
theorem dX5_takeMove_58 : decode cX5_takeMove 58 = .ok (.putfield 158, 3) := by decide +kernel
theorem dX5_takeMove_61 : decode cX5_takeMove 61 = .ok (.aload_n 1, 1) := by decide +kernel
theorem dX5_takeMove_62 : decode cX5_takeMove 62 = .ok (.iconst 0, 1) := by decide +kernel
theorem dX5_takeMove_63 : decode cX5_takeMove 63 = .ok (.putfield 161, 3) := by decide +kernel
theorem dX5_takeMove_66 : decode cX5_takeMove 66 = .ok (.new 89, 3) := by decide +kernel
theorem dX5_takeMove_69 : decode cX5_takeMove 69 = .ok (.dup, 1) := by decide +kernel
theorem dX5_takeMove_70 : decode cX5_takeMove 70 = .ok (.iconst 4, 1) := by decide +kernel
theorem dX5_takeMove_71 : decode cX5_takeMove 71 = .ok (.aload_n 2, 1) := by decide +kernel
theorem dX5_takeMove_72 : decode cX5_takeMove 72 = .ok (.getfield 271, 3) := by decide +kernel
theorem dX5_takeMove_75 : decode cX5_takeMove 75 = .ok (.aload_n 1, 1) := by decide +kernel
theorem dX5_takeMove_76 : decode cX5_takeMove 76 = .ok (.getfield 303, 3) := by decide +kernel
theorem dX5_takeMove_79 : decode cX5_takeMove 79 = .ok (.invokespecial 91, 3) := by decide +kernel
theorem dX5_takeMove_82 : decode cX5_takeMove 82 = .ok (.astore 4, 2) := by decide +kernel
theorem dX5_takeMove_84 : decode cX5_takeMove 84 = .ok (.aload 4, 2) := by decide +kernel
theorem dX5_takeMove_86 : decode cX5_takeMove 86 = .ok (.aload_n 2, 1) := by decide +kernel
theorem dX5_takeMove_87 : decode cX5_takeMove 87 = .ok (.getfield 164, 3) := by decide +kernel
theorem dX5_takeMove_90 : decode cX5_takeMove 90 = .ok (.putfield 164, 3) := by decide +kernel
theorem dX5_takeMove_93 : decode cX5_takeMove 93 = .ok (.aload 4, 2) := by decide +kernel
theorem dX5_takeMove_95 : decode cX5_takeMove 95 = .ok (.aload_n 2, 1) := by decide +kernel
theorem dX5_takeMove_96 : decode cX5_takeMove 96 = .ok (.getfield 170, 3) := by decide +kernel
theorem dX5_takeMove_99 : decode cX5_takeMove 99 = .ok (.putfield 170, 3) := by decide +kernel
theorem dX5_takeMove_102 : decode cX5_takeMove 102 = .ok (.aload_n 0, 1) := by decide +kernel
theorem dX5_takeMove_103 : decode cX5_takeMove 103 = .ok (.aload_n 1, 1) := by decide +kernel
theorem dX5_takeMove_104 : decode cX5_takeMove 104 = .ok (.aload 4, 2) := by decide +kernel
theorem dX5_takeMove_106 : decode cX5_takeMove 106 = .ok (.invokevirtual 180, 3) := by decide +kernel
theorem dX5_takeMove_109 : decode cX5_takeMove 109 = .ok (.return_, 1) := by decide +kernel
theorem dX5_takeTaken_0 : decode cX5_takeTaken 0 = .ok (.aload_n 1, 1) := by decide +kernel
theorem dX5_takeTaken_1 : decode cX5_takeTaken 1 = .ok (.aload_n 2, 1) := by decide +kernel
theorem dX5_takeTaken_2 : decode cX5_takeTaken 2 = .ok (.getfield 164, 3) := by decide +kernel
theorem dX5_takeTaken_5 : decode cX5_takeTaken 5 = .ok (.invokevirtual 146, 3) := by decide +kernel
theorem dX5_takeTaken_8 : decode cX5_takeTaken 8 = .ok (.astore_n 3, 1) := by decide +kernel
theorem dX5_takeTaken_9 : decode cX5_takeTaken 9 = .ok (.aload_n 3, 1) := by decide +kernel
theorem dX5_takeTaken_10 : decode cX5_takeTaken 10 = .ok (.ifnull 46, 3) := by decide +kernel
theorem dX5_takeTaken_13 : decode cX5_takeTaken 13 = .ok (.aload_n 3, 1) := by decide +kernel
theorem dX5_takeTaken_14 : decode cX5_takeTaken 14 = .ok (.getfield 155, 3) := by decide +kernel
theorem dX5_takeTaken_17 : decode cX5_takeTaken 17 = .ok (.iconst 2, 1) := by decide +kernel
theorem dX5_takeTaken_18 : decode cX5_takeTaken 18 = .ok (.if_icmp .ne 38, 3) := by decide +kernel
theorem dX5_takeTaken_21 : decode cX5_takeTaken 21 = .ok (.aload_n 3, 1) := by decide +kernel
theorem dX5_takeTaken_22 : decode cX5_takeTaken 22 = .ok (.getfield 167, 3) := by decide +kernel
theorem dX5_takeTaken_25 : decode cX5_takeTaken 25 = .ok (.aload_n 2, 1) := by decide +kernel
theorem dX5_takeTaken_26 : decode cX5_takeTaken 26 = .ok (.getfield 170, 3) := by decide +kernel
theorem dX5_takeTaken_29 : decode cX5_takeTaken 29 = .ok (.iconst 1, 1) := by decide +kernel
theorem dX5_takeTaken_30 : decode cX5_takeTaken 30 = .ok (.isub, 1) := by decide +kernel
theorem dX5_takeTaken_31 : decode cX5_takeTaken 31 = .ok (.if_icmp .ne 25, 3) := by decide +kernel
theorem dX5_takeTaken_34 : decode cX5_takeTaken 34 = .ok (.aload_n 3, 1) := by decide +kernel
theorem dX5_takeTaken_35 : decode cX5_takeTaken 35 = .ok (.invokevirtual 306, 3) := by decide +kernel
theorem dX5_takeTaken_38 : decode cX5_takeTaken 38 = .ok (.aload_n 3, 1) := by decide +kernel
theorem dX5_takeTaken_39 : decode cX5_takeTaken 39 = .ok (.iconst 0, 1) := by decide +kernel
theorem dX5_takeTaken_40 : decode cX5_takeTaken 40 = .ok (.putfield 155, 3) := by decide +kernel
theorem dX5_takeTaken_43 : decode cX5_takeTaken 43 = .ok (.aload_n 3, 1) := by decide +kernel
theorem dX5_takeTaken_44 : decode cX5_takeTaken 44 = .ok (.aload_n 2, 1) := by decide +kernel
theorem dX5_takeTaken_45 : decode cX5_takeTaken 45 = .ok (.getfield 170, 3) := by decide +kernel
theorem dX5_takeTaken_48 : decode cX5_takeTaken 48 = .ok (.putfield 167, 3) := by decide +kernel
theorem dX5_takeTaken_51 : decode cX5_takeTaken 51 = .ok (.aload_n 1, 1) := by decide +kernel
theorem dX5_takeTaken_52 : decode cX5_takeTaken 52 = .ok (.iconst 0, 1) := by decide +kernel
theorem dX5_takeTaken_53 : decode cX5_takeTaken 53 = .ok (.putfield 161, 3) := by decide +kernel
theorem dX5_takeTaken_56 : decode cX5_takeTaken 56 = .ok (.return_, 1) := by decide +kernel
theorem dX5_takeAck_0 : decode cX5_takeAck 0 = .ok (.iconst 0, 1) := by decide +kernel
theorem dX5_takeAck_1 : decode cX5_takeAck 1 = .ok (.istore_n 3, 1) := by decide +kernel
theorem dX5_takeAck_2 : decode cX5_takeAck 2 = .ok (.iload_n 3, 1) := by decide +kernel
theorem dX5_takeAck_3 : decode cX5_takeAck 3 = .ok (.bipush 8, 2) := by decide +kernel
theorem dX5_takeAck_5 : decode cX5_takeAck 5 = .ok (.if_icmp .ge 44, 3) := by decide +kernel
theorem dX5_takeAck_8 : decode cX5_takeAck 8 = .ok (.aload_n 1, 1) := by decide +kernel
theorem dX5_takeAck_9 : decode cX5_takeAck 9 = .ok (.iload_n 3, 1) := by decide +kernel
theorem dX5_takeAck_10 : decode cX5_takeAck 10 = .ok (.invokevirtual 146, 3) := by decide +kernel
theorem dX5_takeAck_13 : decode cX5_takeAck 13 = .ok (.astore 4, 2) := by decide +kernel
theorem dX5_takeAck_15 : decode cX5_takeAck 15 = .ok (.aload 4, 2) := by decide +kernel
theorem dX5_takeAck_17 : decode cX5_takeAck 17 = .ok (.ifnull 26, 3) := by decide +kernel
theorem dX5_takeAck_20 : decode cX5_takeAck 20 = .ok (.aload 4, 2) := by decide +kernel
theorem dX5_takeAck_22 : decode cX5_takeAck 22 = .ok (.getfield 155, 3) := by decide +kernel
theorem dX5_takeAck_25 : decode cX5_takeAck 25 = .ok (.iconst 1, 1) := by decide +kernel
theorem dX5_takeAck_26 : decode cX5_takeAck 26 = .ok (.if_icmp .ne 17, 3) := by decide +kernel
theorem dX5_takeAck_29 : decode cX5_takeAck 29 = .ok (.aload 4, 2) := by decide +kernel
theorem dX5_takeAck_31 : decode cX5_takeAck 31 = .ok (.aload_n 2, 1) := by decide +kernel
theorem dX5_takeAck_32 : decode cX5_takeAck 32 = .ok (.invokevirtual 282, 3) := by decide +kernel
theorem dX5_takeAck_35 : decode cX5_takeAck 35 = .ok (.ifCond .eq 8, 3) := by decide +kernel
theorem dX5_takeAck_38 : decode cX5_takeAck 38 = .ok (.aload_n 1, 1) := by decide +kernel
theorem dX5_takeAck_39 : decode cX5_takeAck 39 = .ok (.iconst 0, 1) := by decide +kernel
theorem dX5_takeAck_40 : decode cX5_takeAck 40 = .ok (.putfield 161, 3) := by decide +kernel
theorem dX5_takeAck_43 : decode cX5_takeAck 43 = .ok (.iinc 3 1, 3) := by decide +kernel
theorem dX5_takeAck_46 : decode cX5_takeAck 46 = .ok (.goto (-44), 3) := by decide +kernel
theorem dX5_takeAck_49 : decode cX5_takeAck 49 = .ok (.return_, 1) := by decide +kernel
theorem dX5_removeDeadRecords_0 : decode cX5_removeDeadRecords 0 = .ok (.aload_n 1, 1) := by decide +kernel
theorem dX5_removeDeadRecords_1 : decode cX5_removeDeadRecords 1 = .ok (.getfield 202, 3) := by decide +kernel
theorem dX5_removeDeadRecords_4 : decode cX5_removeDeadRecords 4 = .ok (.istore_n 2, 1) := by decide +kernel
theorem dX5_removeDeadRecords_5 : decode cX5_removeDeadRecords 5 = .ok (.iload_n 2, 1) := by decide +kernel
theorem dX5_removeDeadRecords_6 : decode cX5_removeDeadRecords 6 = .ok (.iconst 1, 1) := by decide +kernel
theorem dX5_removeDeadRecords_7 : decode cX5_removeDeadRecords 7 = .ok (.isub, 1) := by decide +kernel
theorem dX5_removeDeadRecords_8 : decode cX5_removeDeadRecords 8 = .ok (.istore_n 3, 1) := by decide +kernel
theorem dX5_removeDeadRecords_9 : decode cX5_removeDeadRecords 9 = .ok (.iload_n 3, 1) := by decide +kernel
theorem dX5_removeDeadRecords_10 : decode cX5_removeDeadRecords 10 = .ok (.ifCond .lt 33, 3) := by decide +kernel
theorem dX5_removeDeadRecords_13 : decode cX5_removeDeadRecords 13 = .ok (.aload_n 0, 1) := by decide +kernel
theorem dX5_removeDeadRecords_14 : decode cX5_removeDeadRecords 14 = .ok (.aload_n 1, 1) := by decide +kernel
theorem dX5_removeDeadRecords_15 : decode cX5_removeDeadRecords 15 = .ok (.getfield 216, 3) := by decide +kernel
theorem dX5_removeDeadRecords_18 : decode cX5_removeDeadRecords 18 = .ok (.iload_n 3, 1) := by decide +kernel
theorem dX5_removeDeadRecords_19 : decode cX5_removeDeadRecords 19 = .ok (.iaload, 1) := by decide +kernel
theorem dX5_removeDeadRecords_20 : decode cX5_removeDeadRecords 20 = .ok (.aload_n 1, 1) := by decide +kernel
theorem dX5_removeDeadRecords_21 : decode cX5_removeDeadRecords 21 = .ok (.getfield 219, 3) := by decide +kernel
theorem dX5_removeDeadRecords_24 : decode cX5_removeDeadRecords 24 = .ok (.iload_n 3, 1) := by decide +kernel
theorem dX5_removeDeadRecords_25 : decode cX5_removeDeadRecords 25 = .ok (.iaload, 1) := by decide +kernel
theorem dX5_removeDeadRecords_26 : decode cX5_removeDeadRecords 26 = .ok (.invokevirtual 57, 3) := by decide +kernel
theorem dX5_removeDeadRecords_29 : decode cX5_removeDeadRecords 29 = .ok (.ifCond .ne 8, 3) := by decide +kernel
theorem dX5_removeDeadRecords_32 : decode cX5_removeDeadRecords 32 = .ok (.aload_n 1, 1) := by decide +kernel
theorem dX5_removeDeadRecords_33 : decode cX5_removeDeadRecords 33 = .ok (.iload_n 3, 1) := by decide +kernel
theorem dX5_removeDeadRecords_34 : decode cX5_removeDeadRecords 34 = .ok (.invokevirtual 309, 3) := by decide +kernel
theorem dX5_removeDeadRecords_37 : decode cX5_removeDeadRecords 37 = .ok (.iinc 3 (-1), 3) := by decide +kernel
theorem dX5_removeDeadRecords_40 : decode cX5_removeDeadRecords 40 = .ok (.goto (-31), 3) := by decide +kernel
theorem dX5_removeDeadRecords_43 : decode cX5_removeDeadRecords 43 = .ok (.iload_n 2, 1) := by decide +kernel
theorem dX5_removeDeadRecords_44 : decode cX5_removeDeadRecords 44 = .ok (.aload_n 1, 1) := by decide +kernel
theorem dX5_removeDeadRecords_45 : decode cX5_removeDeadRecords 45 = .ok (.getfield 202, 3) := by decide +kernel
theorem dX5_removeDeadRecords_48 : decode cX5_removeDeadRecords 48 = .ok (.isub, 1) := by decide +kernel
theorem dX5_removeDeadRecords_49 : decode cX5_removeDeadRecords 49 = .ok (.ireturn, 1) := by decide +kernel
theorem dX5_requestOf_0 : decode cX5_requestOf 0 = .ok (.aload_n 0, 1) := by decide +kernel
theorem dX5_requestOf_1 : decode cX5_requestOf 1 = .ok (.getfield 250, 3) := by decide +kernel
theorem dX5_requestOf_4 : decode cX5_requestOf 4 = .ok (.iload_n 1, 1) := by decide +kernel
theorem dX5_requestOf_5 : decode cX5_requestOf 5 = .ok (.iaload, 1) := by decide +kernel
theorem dX5_requestOf_6 : decode cX5_requestOf 6 = .ok (.istore_n 2, 1) := by decide +kernel
theorem dX5_requestOf_7 : decode cX5_requestOf 7 = .ok (.new 89, 3) := by decide +kernel
theorem dX5_requestOf_10 : decode cX5_requestOf 10 = .ok (.dup, 1) := by decide +kernel
theorem dX5_requestOf_11 : decode cX5_requestOf 11 = .ok (.iconst 1, 1) := by decide +kernel
theorem dX5_requestOf_12 : decode cX5_requestOf 12 = .ok (.aload_n 0, 1) := by decide +kernel
theorem dX5_requestOf_13 : decode cX5_requestOf 13 = .ok (.getfield 225, 3) := by decide +kernel
theorem dX5_requestOf_16 : decode cX5_requestOf 16 = .ok (.iload_n 2, 1) := by decide +kernel
theorem dX5_requestOf_17 : decode cX5_requestOf 17 = .ok (.invokestatic 205, 3) := by decide +kernel
theorem dX5_requestOf_20 : decode cX5_requestOf 20 = .ok (.iaload, 1) := by decide +kernel
theorem dX5_requestOf_21 : decode cX5_requestOf 21 = .ok (.aload_n 0, 1) := by decide +kernel
theorem dX5_requestOf_22 : decode cX5_requestOf 22 = .ok (.getfield 312, 3) := by decide +kernel
theorem dX5_requestOf_25 : decode cX5_requestOf 25 = .ok (.invokespecial 91, 3) := by decide +kernel
theorem dX5_requestOf_28 : decode cX5_requestOf 28 = .ok (.astore_n 3, 1) := by decide +kernel
theorem dX5_requestOf_29 : decode cX5_requestOf 29 = .ok (.aload_n 3, 1) := by decide +kernel
theorem dX5_requestOf_30 : decode cX5_requestOf 30 = .ok (.aload_n 0, 1) := by decide +kernel
theorem dX5_requestOf_31 : decode cX5_requestOf 31 = .ok (.getfield 45, 3) := by decide +kernel
theorem dX5_requestOf_34 : decode cX5_requestOf 34 = .ok (.putfield 94, 3) := by decide +kernel
theorem dX5_requestOf_37 : decode cX5_requestOf 37 = .ok (.aload_n 3, 1) := by decide +kernel
theorem dX5_requestOf_38 : decode cX5_requestOf 38 = .ok (.iload_n 1, 1) := by decide +kernel
theorem dX5_requestOf_39 : decode cX5_requestOf 39 = .ok (.putfield 240, 3) := by decide +kernel
theorem dX5_requestOf_42 : decode cX5_requestOf 42 = .ok (.aload_n 3, 1) := by decide +kernel
theorem dX5_requestOf_43 : decode cX5_requestOf 43 = .ok (.aload_n 0, 1) := by decide +kernel
theorem dX5_requestOf_44 : decode cX5_requestOf 44 = .ok (.invokevirtual 95, 3) := by decide +kernel
theorem dX5_requestOf_47 : decode cX5_requestOf 47 = .ok (.putfield 98, 3) := by decide +kernel
theorem dX5_requestOf_50 : decode cX5_requestOf 50 = .ok (.aload_n 3, 1) := by decide +kernel
theorem dX5_requestOf_51 : decode cX5_requestOf 51 = .ok (.iload_n 2, 1) := by decide +kernel
theorem dX5_requestOf_52 : decode cX5_requestOf 52 = .ok (.putfield 268, 3) := by decide +kernel
theorem dX5_requestOf_55 : decode cX5_requestOf 55 = .ok (.aload_n 3, 1) := by decide +kernel
theorem dX5_requestOf_56 : decode cX5_requestOf 56 = .ok (.aload_n 0, 1) := by decide +kernel
theorem dX5_requestOf_57 : decode cX5_requestOf 57 = .ok (.getfield 313, 3) := by decide +kernel
theorem dX5_requestOf_60 : decode cX5_requestOf 60 = .ok (.iload_n 1, 1) := by decide +kernel
theorem dX5_requestOf_61 : decode cX5_requestOf 61 = .ok (.iaload, 1) := by decide +kernel
theorem dX5_requestOf_62 : decode cX5_requestOf 62 = .ok (.putfield 316, 3) := by decide +kernel
theorem dX5_requestOf_65 : decode cX5_requestOf 65 = .ok (.aload_n 3, 1) := by decide +kernel
theorem dX5_requestOf_66 : decode cX5_requestOf 66 = .ok (.aload_n 0, 1) := by decide +kernel
theorem dX5_requestOf_67 : decode cX5_requestOf 67 = .ok (.getfield 319, 3) := by decide +kernel
theorem dX5_requestOf_70 : decode cX5_requestOf 70 = .ok (.iload_n 1, 1) := by decide +kernel
theorem dX5_requestOf_71 : decode cX5_requestOf 71 = .ok (.laload, 1) := by decide +kernel
theorem dX5_requestOf_72 : decode cX5_requestOf 72 = .ok (.putfield 322, 3) := by decide +kernel
theorem dX5_requestOf_75 : decode cX5_requestOf 75 = .ok (.aload_n 3, 1) := by decide +kernel
theorem dX5_requestOf_76 : decode cX5_requestOf 76 = .ok (.aload_n 0, 1) := by decide +kernel
theorem dX5_requestOf_77 : decode cX5_requestOf 77 = .ok (.getfield 325, 3) := by decide +kernel
theorem dX5_requestOf_80 : decode cX5_requestOf 80 = .ok (.iload_n 1, 1) := by decide +kernel
theorem dX5_requestOf_81 : decode cX5_requestOf 81 = .ok (.laload, 1) := by decide +kernel
theorem dX5_requestOf_82 : decode cX5_requestOf 82 = .ok (.putfield 328, 3) := by decide +kernel
theorem dX5_requestOf_85 : decode cX5_requestOf 85 = .ok (.aload_n 3, 1) := by decide +kernel
theorem dX5_requestOf_86 : decode cX5_requestOf 86 = .ok (.areturn, 1) := by decide +kernel
theorem dX5_bucketOf_0 : decode cX5_bucketOf 0 = .ok (.iload_n 0, 1) := by decide +kernel
theorem dX5_bucketOf_1 : decode cX5_bucketOf 1 = .ok (.bipush 8, 2) := by decide +kernel
theorem dX5_bucketOf_3 : decode cX5_bucketOf 3 = .ok (.irem, 1) := by decide +kernel
theorem dX5_bucketOf_4 : decode cX5_bucketOf 4 = .ok (.ireturn, 1) := by decide +kernel
theorem dX5_placeOf_0 : decode cX5_placeOf 0 = .ok (.iload_n 0, 1) := by decide +kernel
theorem dX5_placeOf_1 : decode cX5_placeOf 1 = .ok (.bipush 8, 2) := by decide +kernel
theorem dX5_placeOf_3 : decode cX5_placeOf 3 = .ok (.idiv, 1) := by decide +kernel
theorem dX5_placeOf_4 : decode cX5_placeOf 4 = .ok (.ireturn, 1) := by decide +kernel
theorem dX5_oneIf_0 : decode cX5_oneIf 0 = .ok (.iload_n 0, 1) := by decide +kernel
theorem dX5_oneIf_1 : decode cX5_oneIf 1 = .ok (.ifCond .eq 7, 3) := by decide +kernel
theorem dX5_oneIf_4 : decode cX5_oneIf 4 = .ok (.iconst 1, 1) := by decide +kernel
theorem dX5_oneIf_5 : decode cX5_oneIf 5 = .ok (.goto 4, 3) := by decide +kernel
theorem dX5_oneIf_8 : decode cX5_oneIf 8 = .ok (.iconst 0, 1) := by decide +kernel
theorem dX5_oneIf_9 : decode cX5_oneIf 9 = .ok (.ireturn, 1) := by decide +kernel
