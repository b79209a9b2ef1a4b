theorem dX11_feed_63 : decode cX11_feed 63 = .ok (.aload_n 0, 1) := by decide +kernel
theorem dX11_feed_64 : decode cX11_feed 64 = .ok (.dup, 1) := by decide +kernel
theorem dX11_feed_65 : decode cX11_feed 65 = .ok (.getfield 119, 3) := by decide +kernel
theorem dX11_feed_68 : decode cX11_feed 68 = .ok (.iconst 1, 1) := by decide +kernel
theorem dX11_feed_69 : decode cX11_feed 69 = .ok (.iadd, 1) := by decide +kernel
theorem dX11_feed_70 : decode cX11_feed 70 = .ok (.putfield 119, 3) := by decide +kernel
theorem dX11_feed_73 : decode cX11_feed 73 = .ok (.iinc 4 (-1), 3) := by decide +kernel
theorem dX11_feed_76 : decode cX11_feed 76 = .ok (.goto (-39), 3) := by decide +kernel
theorem dX11_feed_79 : decode cX11_feed 79 = .ok (.aload_n 0, 1) := by decide +kernel
theorem dX11_feed_80 : decode cX11_feed 80 = .ok (.getfield 119, 3) := by decide +kernel
theorem dX11_feed_83 : decode cX11_feed 83 = .ok (.ireturn, 1) := by decide +kernel
theorem dX11_here_0 : decode cX11_here 0 = .ok (.aload_n 0, 1) := by decide +kernel
theorem dX11_here_1 : decode cX11_here 1 = .ok (.getfield 124, 3) := by decide +kernel
theorem dX11_here_4 : decode cX11_here 4 = .ok (.aload_n 0, 1) := by decide +kernel
theorem dX11_here_5 : decode cX11_here 5 = .ok (.getfield 119, 3) := by decide +kernel
theorem dX11_here_8 : decode cX11_here 8 = .ok (.if_icmp .ge 30, 3) := by decide +kernel
theorem dX11_here_11 : decode cX11_here 11 = .ok (.aload_n 0, 1) := by decide +kernel
theorem dX11_here_12 : decode cX11_here 12 = .ok (.getfield 41, 3) := by decide +kernel
theorem dX11_here_15 : decode cX11_here 15 = .ok (.aload_n 0, 1) := by decide +kernel
theorem dX11_here_16 : decode cX11_here 16 = .ok (.getfield 124, 3) := by decide +kernel
theorem dX11_here_19 : decode cX11_here 19 = .ok (.iaload, 1) := by decide +kernel
theorem dX11_here_20 : decode cX11_here 20 = .ok (.bipush 32, 2) := by decide +kernel
theorem dX11_here_22 : decode cX11_here 22 = .ok (.if_icmp .ne 16, 3) := by decide +kernel
theorem dX11_here_25 : decode cX11_here 25 = .ok (.aload_n 0, 1) := by decide +kernel
theorem dX11_here_26 : decode cX11_here 26 = .ok (.dup, 1) := by decide +kernel
theorem dX11_here_27 : decode cX11_here 27 = .ok (.getfield 124, 3) := by decide +kernel
theorem dX11_here_30 : decode cX11_here 30 = .ok (.iconst 1, 1) := by decide +kernel
theorem dX11_here_31 : decode cX11_here 31 = .ok (.iadd, 1) := by decide +kernel
theorem dX11_here_32 : decode cX11_here 32 = .ok (.putfield 124, 3) := by decide +kernel
theorem dX11_here_35 : decode cX11_here 35 = .ok (.goto (-35), 3) := by decide +kernel
theorem dX11_here_38 : decode cX11_here 38 = .ok (.aload_n 0, 1) := by decide +kernel
theorem dX11_here_39 : decode cX11_here 39 = .ok (.getfield 124, 3) := by decide +kernel
theorem dX11_here_42 : decode cX11_here 42 = .ok (.aload_n 0, 1) := by decide +kernel
theorem dX11_here_43 : decode cX11_here 43 = .ok (.getfield 119, 3) := by decide +kernel
theorem dX11_here_46 : decode cX11_here 46 = .ok (.if_icmp .ge 15, 3) := by decide +kernel
theorem dX11_here_49 : decode cX11_here 49 = .ok (.aload_n 0, 1) := by decide +kernel
theorem dX11_here_50 : decode cX11_here 50 = .ok (.getfield 41, 3) := by decide +kernel
theorem dX11_here_53 : decode cX11_here 53 = .ok (.aload_n 0, 1) := by decide +kernel
theorem dX11_here_54 : decode cX11_here 54 = .ok (.getfield 124, 3) := by decide +kernel
theorem dX11_here_57 : decode cX11_here 57 = .ok (.iaload, 1) := by decide +kernel
theorem dX11_here_58 : decode cX11_here 58 = .ok (.goto 4, 3) := by decide +kernel
theorem dX11_here_61 : decode cX11_here 61 = .ok (.iconst (-1), 1) := by decide +kernel
theorem dX11_here_62 : decode cX11_here 62 = .ok (.ireturn, 1) := by decide +kernel
theorem dX11_fails_0 : decode cX11_fails 0 = .ok (.aload_n 0, 1) := by decide +kernel
theorem dX11_fails_1 : decode cX11_fails 1 = .ok (.iload_n 2, 1) := by decide +kernel
theorem dX11_fails_2 : decode cX11_fails 2 = .ok (.putfield 44, 3) := by decide +kernel
theorem dX11_fails_5 : decode cX11_fails 5 = .ok (.iload_n 1, 1) := by decide +kernel
theorem dX11_fails_6 : decode cX11_fails 6 = .ok (.ireturn, 1) := by decide +kernel
theorem dX11_readWord_0 : decode cX11_readWord 0 = .ok (.aload_n 0, 1) := by decide +kernel
theorem dX11_readWord_1 : decode cX11_readWord 1 = .ok (.invokevirtual 127, 3) := by decide +kernel
theorem dX11_readWord_4 : decode cX11_readWord 4 = .ok (.istore_n 1, 1) := by decide +kernel
theorem dX11_readWord_5 : decode cX11_readWord 5 = .ok (.aload_n 0, 1) := by decide +kernel
theorem dX11_readWord_6 : decode cX11_readWord 6 = .ok (.lconst 0, 1) := by decide +kernel
theorem dX11_readWord_7 : decode cX11_readWord 7 = .ok (.putfield 130, 3) := by decide +kernel
theorem dX11_readWord_10 : decode cX11_readWord 10 = .ok (.aload_n 0, 1) := by decide +kernel
theorem dX11_readWord_11 : decode cX11_readWord 11 = .ok (.aload_n 0, 1) := by decide +kernel
theorem dX11_readWord_12 : decode cX11_readWord 12 = .ok (.getfield 124, 3) := by decide +kernel
theorem dX11_readWord_15 : decode cX11_readWord 15 = .ok (.putfield 134, 3) := by decide +kernel
theorem dX11_readWord_18 : decode cX11_readWord 18 = .ok (.aload_n 0, 1) := by decide +kernel
theorem dX11_readWord_19 : decode cX11_readWord 19 = .ok (.getfield 134, 3) := by decide +kernel
theorem dX11_readWord_22 : decode cX11_readWord 22 = .ok (.aload_n 0, 1) := by decide +kernel
theorem dX11_readWord_23 : decode cX11_readWord 23 = .ok (.getfield 119, 3) := by decide +kernel
theorem dX11_readWord_26 : decode cX11_readWord 26 = .ok (.if_icmp .ge 82, 3) := by decide +kernel
theorem dX11_readWord_29 : decode cX11_readWord 29 = .ok (.aload_n 0, 1) := by decide +kernel
theorem dX11_readWord_30 : decode cX11_readWord 30 = .ok (.getfield 41, 3) := by decide +kernel
theorem dX11_readWord_33 : decode cX11_readWord 33 = .ok (.aload_n 0, 1) := by decide +kernel
theorem dX11_readWord_34 : decode cX11_readWord 34 = .ok (.getfield 134, 3) := by decide +kernel
theorem dX11_readWord_37 : decode cX11_readWord 37 = .ok (.iaload, 1) := by decide +kernel
theorem dX11_readWord_38 : decode cX11_readWord 38 = .ok (.i2l, 1) := by decide +kernel
theorem dX11_readWord_39 : decode cX11_readWord 39 = .ok (.ldc2_w 137, 3) := by decide +kernel
theorem dX11_readWord_42 : decode cX11_readWord 42 = .ok (.ldc2_w 139, 3) := by decide +kernel
theorem dX11_readWord_45 : decode cX11_readWord 45 = .ok (.invokestatic 107, 3) := by decide +kernel
theorem dX11_readWord_48 : decode cX11_readWord 48 = .ok (.ifCond .eq 60, 3) := by decide +kernel
theorem dX11_readWord_51 : decode cX11_readWord 51 = .ok (.aload_n 0, 1) := by decide +kernel
theorem dX11_readWord_52 : decode cX11_readWord 52 = .ok (.aload_n 0, 1) := by decide +kernel
theorem dX11_readWord_53 : decode cX11_readWord 53 = .ok (.getfield 130, 3) := by decide +kernel
theorem dX11_readWord_56 : decode cX11_readWord 56 = .ok (.ldc2_w 141, 3) := by decide +kernel
theorem dX11_readWord_59 : decode cX11_readWord 59 = .ok (.lcmp, 1) := by decide +kernel
theorem dX11_readWord_60 : decode cX11_readWord 60 = .ok (.ifCond .le 9, 3) := by decide +kernel
theorem dX11_readWord_63 : decode cX11_readWord 63 = .ok (.ldc2_w 143, 3) := by decide +kernel
theorem dX11_readWord_66 : decode cX11_readWord 66 = .ok (.goto 26, 3) := by decide +kernel
theorem dX11_readWord_69 : decode cX11_readWord 69 = .ok (.ldc2_w 145, 3) := by decide +kernel
theorem dX11_readWord_72 : decode cX11_readWord 72 = .ok (.aload_n 0, 1) := by decide +kernel
theorem dX11_readWord_73 : decode cX11_readWord 73 = .ok (.getfield 130, 3) := by decide +kernel
theorem dX11_readWord_76 : decode cX11_readWord 76 = .ok (.lmul, 1) := by decide +kernel
theorem dX11_readWord_77 : decode cX11_readWord 77 = .ok (.aload_n 0, 1) := by decide +kernel
theorem dX11_readWord_78 : decode cX11_readWord 78 = .ok (.getfield 41, 3) := by decide +kernel
theorem dX11_readWord_81 : decode cX11_readWord 81 = .ok (.aload_n 0, 1) := by decide +kernel
theorem dX11_readWord_82 : decode cX11_readWord 82 = .ok (.getfield 134, 3) := by decide +kernel
theorem dX11_readWord_85 : decode cX11_readWord 85 = .ok (.iaload, 1) := by decide +kernel
theorem dX11_readWord_86 : decode cX11_readWord 86 = .ok (.i2l, 1) := by decide +kernel
theorem dX11_readWord_87 : decode cX11_readWord 87 = .ok (.ladd, 1) := by decide +kernel
theorem dX11_readWord_88 : decode cX11_readWord 88 = .ok (.ldc2_w 147, 3) := by decide +kernel
theorem dX11_readWord_91 : decode cX11_readWord 91 = .ok (.lsub, 1) := by decide +kernel
theorem dX11_readWord_92 : decode cX11_readWord 92 = .ok (.putfield 130, 3) := by decide +kernel
theorem dX11_readWord_95 : decode cX11_readWord 95 = .ok (.aload_n 0, 1) := by decide +kernel
theorem dX11_readWord_96 : decode cX11_readWord 96 = .ok (.dup, 1) := by decide +kernel
theorem dX11_readWord_97 : decode cX11_readWord 97 = .ok (.getfield 134, 3) := by decide +kernel
theorem dX11_readWord_100 : decode cX11_readWord 100 = .ok (.iconst 1, 1) := by decide +kernel
theorem dX11_readWord_101 : decode cX11_readWord 101 = .ok (.iadd, 1) := by decide +kernel
theorem dX11_readWord_102 : decode cX11_readWord 102 = .ok (.putfield 134, 3) := by decide +kernel
theorem dX11_readWord_105 : decode cX11_readWord 105 = .ok (.goto (-87), 3) := by decide +kernel
theorem dX11_readWord_108 : decode cX11_readWord 108 = .ok (.return_, 1) := by decide +kernel
theorem dX11_code_0 : decode cX11_code 0 = .ok (.ldc2_w 145, 3) := by decide +kernel
theorem dX11_code_3 : decode cX11_code 3 = .ok (.ldc2_w 145, 3) := by decide +kernel
theorem dX11_code_6 : decode cX11_code 6 = .ok (.ldc2_w 145, 3) := by decide +kernel
theorem dX11_code_9 : decode cX11_code 9 = .ok (.iload_n 0, 1) := by decide +kernel
theorem dX11_code_10 : decode cX11_code 10 = .ok (.i2l, 1) := by decide +kernel
theorem dX11_code_11 : decode cX11_code 11 = .ok (.ldc2_w 147, 3) := by decide +kernel
theorem dX11_code_14 : decode cX11_code 14 = .ok (.lsub, 1) := by decide +kernel
theorem dX11_code_15 : decode cX11_code 15 = .ok (.lmul, 1) := by decide +kernel
theorem dX11_code_16 : decode cX11_code 16 = .ok (.iload_n 1, 1) := by decide +kernel
theorem dX11_code_17 : decode cX11_code 17 = .ok (.i2l, 1) := by decide +kernel
theorem dX11_code_18 : decode cX11_code 18 = .ok (.ladd, 1) := by decide +kernel
theorem dX11_code_19 : decode cX11_code 19 = .ok (.ldc2_w 147, 3) := by decide +kernel
theorem dX11_code_22 : decode cX11_code 22 = .ok (.lsub, 1) := by decide +kernel
theorem dX11_code_23 : decode cX11_code 23 = .ok (.lmul, 1) := by decide +kernel
theorem dX11_code_24 : decode cX11_code 24 = .ok (.iload_n 2, 1) := by decide +kernel
theorem dX11_code_25 : decode cX11_code 25 = .ok (.i2l, 1) := by decide +kernel
theorem dX11_code_26 : decode cX11_code 26 = .ok (.ladd, 1) := by decide +kernel
theorem dX11_code_27 : decode cX11_code 27 = .ok (.ldc2_w 147, 3) := by decide +kernel
theorem dX11_code_30 : decode cX11_code 30 = .ok (.lsub, 1) := by decide +kernel
theorem dX11_code_31 : decode cX11_code 31 = .ok (.lmul, 1) := by decide +kernel
theorem dX11_code_32 : decode cX11_code 32 = .ok (.iload_n 3, 1) := by decide +kernel
theorem dX11_code_33 : decode cX11_code 33 = .ok (.i2l, 1) := by decide +kernel
theorem dX11_code_34 : decode cX11_code 34 = .ok (.ladd, 1) := by decide +kernel
theorem dX11_code_35 : decode cX11_code 35 = .ok (.ldc2_w 147, 3) := by decide +kernel
theorem dX11_code_38 : decode cX11_code 38 = .ok (.lsub, 1) := by decide +kernel
theorem dX11_code_39 : decode cX11_code 39 = .ok (.lreturn, 1) := by decide +kernel
theorem dX11_longer_0 : decode cX11_longer 0 = .ok (.ldc2_w 145, 3) := by decide +kernel
theorem dX11_longer_3 : decode cX11_longer 3 = .ok (.lload_n 0, 1) := by decide +kernel
theorem dX11_longer_4 : decode cX11_longer 4 = .ok (.lmul, 1) := by decide +kernel
theorem dX11_longer_5 : decode cX11_longer 5 = .ok (.iload_n 2, 1) := by decide +kernel
theorem dX11_longer_6 : decode cX11_longer 6 = .ok (.i2l, 1) := by decide +kernel
theorem dX11_longer_7 : decode cX11_longer 7 = .ok (.ladd, 1) := by decide +kernel
theorem dX11_longer_8 : decode cX11_longer 8 = .ok (.ldc2_w 147, 3) := by decide +kernel
theorem dX11_longer_11 : decode cX11_longer 11 = .ok (.lsub, 1) := by decide +kernel
theorem dX11_longer_12 : decode cX11_longer 12 = .ok (.lreturn, 1) := by decide +kernel
theorem dX11_takeNumber_0 : decode cX11_takeNumber 0 = .ok (.aload_n 0, 1) := by decide +kernel
theorem dX11_takeNumber_1 : decode cX11_takeNumber 1 = .ok (.invokevirtual 127, 3) := by decide +kernel
theorem dX11_takeNumber_4 : decode cX11_takeNumber 4 = .ok (.istore_n 3, 1) := by decide +kernel
theorem dX11_takeNumber_5 : decode cX11_takeNumber 5 = .ok (.iload_n 3, 1) := by decide +kernel
theorem dX11_takeNumber_6 : decode cX11_takeNumber 6 = .ok (.i2l, 1) := by decide +kernel
theorem dX11_takeNumber_7 : decode cX11_takeNumber 7 = .ok (.ldc2_w 149, 3) := by decide +kernel
theorem dX11_takeNumber_10 : decode cX11_takeNumber 10 = .ok (.ldc2_w 151, 3) := by decide +kernel
theorem dX11_takeNumber_13 : decode cX11_takeNumber 13 = .ok (.invokestatic 107, 3) := by decide +kernel
theorem dX11_takeNumber_16 : decode cX11_takeNumber 16 = .ok (.ifCond .ne 13, 3) := by decide +kernel
theorem dX11_takeNumber_19 : decode cX11_takeNumber 19 = .ok (.aload_n 0, 1) := by decide +kernel
theorem dX11_takeNumber_20 : decode cX11_takeNumber 20 = .ok (.iconst 1, 1) := by decide +kernel
theorem dX11_takeNumber_21 : decode cX11_takeNumber 21 = .ok (.aload_n 0, 1) := by decide +kernel
theorem dX11_takeNumber_22 : decode cX11_takeNumber 22 = .ok (.getfield 124, 3) := by decide +kernel
theorem dX11_takeNumber_25 : decode cX11_takeNumber 25 = .ok (.invokevirtual 153, 3) := by decide +kernel
theorem dX11_takeNumber_28 : decode cX11_takeNumber 28 = .ok (.ireturn, 1) := by decide +kernel
theorem dX11_takeNumber_29 : decode cX11_takeNumber 29 = .ok (.aload_n 0, 1) := by decide +kernel
theorem dX11_takeNumber_30 : decode cX11_takeNumber 30 = .ok (.aload_n 0, 1) := by decide +kernel
theorem dX11_takeNumber_31 : decode cX11_takeNumber 31 = .ok (.getfield 124, 3) := by decide +kernel
theorem dX11_takeNumber_34 : decode cX11_takeNumber 34 = .ok (.putfield 157, 3) := by decide +kernel
theorem dX11_takeNumber_37 : decode cX11_takeNumber 37 = .ok (.aload_n 0, 1) := by decide +kernel
theorem dX11_takeNumber_38 : decode cX11_takeNumber 38 = .ok (.iconst 0, 1) := by decide +kernel
theorem dX11_takeNumber_39 : decode cX11_takeNumber 39 = .ok (.putfield 160, 3) := by decide +kernel
theorem dX11_takeNumber_42 : decode cX11_takeNumber 42 = .ok (.aload_n 0, 1) := by decide +kernel
theorem dX11_takeNumber_43 : decode cX11_takeNumber 43 = .ok (.getfield 124, 3) := by decide +kernel
theorem dX11_takeNumber_46 : decode cX11_takeNumber 46 = .ok (.aload_n 0, 1) := by decide +kernel
theorem dX11_takeNumber_47 : decode cX11_takeNumber 47 = .ok (.getfield 119, 3) := by decide +kernel
theorem dX11_takeNumber_50 : decode cX11_takeNumber 50 = .ok (.if_icmp .ge 79, 3) := by decide +kernel
theorem dX11_takeNumber_53 : decode cX11_takeNumber 53 = .ok (.aload_n 0, 1) := by decide +kernel
theorem dX11_takeNumber_54 : decode cX11_takeNumber 54 = .ok (.getfield 41, 3) := by decide +kernel
theorem dX11_takeNumber_57 : decode cX11_takeNumber 57 = .ok (.aload_n 0, 1) := by decide +kernel
theorem dX11_takeNumber_58 : decode cX11_takeNumber 58 = .ok (.getfield 124, 3) := by decide +kernel
theorem dX11_takeNumber_61 : decode cX11_takeNumber 61 = .ok (.iaload, 1) := by decide +kernel
theorem dX11_takeNumber_62 : decode cX11_takeNumber 62 = .ok (.i2l, 1) := by decide +kernel
theorem dX11_takeNumber_63 : decode cX11_takeNumber 63 = .ok (.ldc2_w 149, 3) := by decide +kernel
theorem dX11_takeNumber_66 : decode cX11_takeNumber 66 = .ok (.ldc2_w 151, 3) := by decide +kernel
theorem dX11_takeNumber_69 : decode cX11_takeNumber 69 = .ok (.invokestatic 107, 3) := by decide +kernel
theorem dX11_takeNumber_72 : decode cX11_takeNumber 72 = .ok (.ifCond .eq 57, 3) := by decide +kernel
theorem dX11_takeNumber_75 : decode cX11_takeNumber 75 = .ok (.aload_n 0, 1) := by decide +kernel
theorem dX11_takeNumber_76 : decode cX11_takeNumber 76 = .ok (.aload_n 0, 1) := by decide +kernel
theorem dX11_takeNumber_77 : decode cX11_takeNumber 77 = .ok (.getfield 160, 3) := by decide +kernel
theorem dX11_takeNumber_80 : decode cX11_takeNumber 80 = .ok (.sipush 10000, 3) := by decide +kernel
theorem dX11_takeNumber_83 : decode cX11_takeNumber 83 = .ok (.if_icmp .le 10, 3) := by decide +kernel
theorem dX11_takeNumber_86 : decode cX11_takeNumber 86 = .ok (.aload_n 0, 1) := by decide +kernel
theorem dX11_takeNumber_87 : decode cX11_takeNumber 87 = .ok (.getfield 160, 3) := by decide +kernel
theorem dX11_takeNumber_90 : decode cX11_takeNumber 90 = .ok (.goto 23, 3) := by decide +kernel
theorem dX11_takeNumber_93 : decode cX11_takeNumber 93 = .ok (.bipush 10, 2) := by decide +kernel
theorem dX11_takeNumber_95 : decode cX11_takeNumber 95 = .ok (.aload_n 0, 1) := by decide +kernel
theorem dX11_takeNumber_96 : decode cX11_takeNumber 96 = .ok (.getfield 160, 3) := by decide +kernel
theorem dX11_takeNumber_99 : decode cX11_takeNumber 99 = .ok (.imul, 1) := by decide +kernel
theorem dX11_takeNumber_100 : decode cX11_takeNumber 100 = .ok (.aload_n 0, 1) := by decide +kernel
theorem dX11_takeNumber_101 : decode cX11_takeNumber 101 = .ok (.getfield 41, 3) := by decide +kernel
theorem dX11_takeNumber_104 : decode cX11_takeNumber 104 = .ok (.aload_n 0, 1) := by decide +kernel
theorem dX11_takeNumber_105 : decode cX11_takeNumber 105 = .ok (.getfield 124, 3) := by decide +kernel
theorem dX11_takeNumber_108 : decode cX11_takeNumber 108 = .ok (.iaload, 1) := by decide +kernel
theorem dX11_takeNumber_109 : decode cX11_takeNumber 109 = .ok (.iadd, 1) := by decide +kernel
theorem dX11_takeNumber_110 : decode cX11_takeNumber 110 = .ok (.bipush 48, 2) := by decide +kernel
theorem dX11_takeNumber_112 : decode cX11_takeNumber 112 = .ok (.isub, 1) := by decide +kernel
theorem dX11_takeNumber_113 : decode cX11_takeNumber 113 = .ok (.putfield 160, 3) := by decide +kernel
theorem dX11_takeNumber_116 : decode cX11_takeNumber 116 = .ok (.aload_n 0, 1) := by decide +kernel
theorem dX11_takeNumber_117 : decode cX11_takeNumber 117 = .ok (.dup, 1) := by decide +kernel
theorem dX11_takeNumber_118 : decode cX11_takeNumber 118 = .ok (.getfield 124, 3) := by decide +kernel
theorem dX11_takeNumber_121 : decode cX11_takeNumber 121 = .ok (.iconst 1, 1) := by decide +kernel
theorem dX11_takeNumber_122 : decode cX11_takeNumber 122 = .ok (.iadd, 1) := by decide +kernel
theorem dX11_takeNumber_123 : decode cX11_takeNumber 123 = .ok (.putfield 124, 3) := by decide +kernel
theorem dX11_takeNumber_126 : decode cX11_takeNumber 126 = .ok (.goto (-84), 3) := by decide +kernel
theorem dX11_takeNumber_129 : decode cX11_takeNumber 129 = .ok (.aload_n 0, 1) := by decide +kernel
theorem dX11_takeNumber_130 : decode cX11_takeNumber 130 = .ok (.getfield 124, 3) := by decide +kernel
theorem dX11_takeNumber_133 : decode cX11_takeNumber 133 = .ok (.aload_n 0, 1) := by decide +kernel
theorem dX11_takeNumber_134 : decode cX11_takeNumber 134 = .ok (.getfield 157, 3) := by decide +kernel
theorem dX11_takeNumber_137 : decode cX11_takeNumber 137 = .ok (.isub, 1) := by decide +kernel
theorem dX11_takeNumber_138 : decode cX11_takeNumber 138 = .ok (.iconst 3, 1) := by decide +kernel
theorem dX11_takeNumber_139 : decode cX11_takeNumber 139 = .ok (.if_icmp .gt 18, 3) := by decide +kernel
theorem dX11_takeNumber_142 : decode cX11_takeNumber 142 = .ok (.aload_n 0, 1) := by decide +kernel
theorem dX11_takeNumber_143 : decode cX11_takeNumber 143 = .ok (.getfield 160, 3) := by decide +kernel
theorem dX11_takeNumber_146 : decode cX11_takeNumber 146 = .ok (.i2l, 1) := by decide +kernel
theorem dX11_takeNumber_147 : decode cX11_takeNumber 147 = .ok (.iload_n 1, 1) := by decide +kernel
theorem dX11_takeNumber_148 : decode cX11_takeNumber 148 = .ok (.i2l, 1) := by decide +kernel
theorem dX11_takeNumber_149 : decode cX11_takeNumber 149 = .ok (.iload_n 2, 1) := by decide +kernel
theorem dX11_takeNumber_150 : decode cX11_takeNumber 150 = .ok (.i2l, 1) := by decide +kernel
theorem dX11_takeNumber_151 : decode cX11_takeNumber 151 = .ok (.invokestatic 107, 3) := by decide +kernel
theorem dX11_takeNumber_154 : decode cX11_takeNumber 154 = .ok (.ifCond .ne 15, 3) := by decide +kernel
theorem dX11_takeNumber_157 : decode cX11_takeNumber 157 = .ok (.aload_n 0, 1) := by decide +kernel
theorem dX11_takeNumber_158 : decode cX11_takeNumber 158 = .ok (.iconst 2, 1) := by decide +kernel
theorem dX11_takeNumber_159 : decode cX11_takeNumber 159 = .ok (.aload_n 0, 1) := by decide +kernel
theorem dX11_takeNumber_160 : decode cX11_takeNumber 160 = .ok (.getfield 157, 3) := by decide +kernel
theorem dX11_takeNumber_163 : decode cX11_takeNumber 163 = .ok (.invokevirtual 153, 3) := by decide +kernel
theorem dX11_takeNumber_166 : decode cX11_takeNumber 166 = .ok (.goto 4, 3) := by decide +kernel
theorem dX11_takeNumber_169 : decode cX11_takeNumber 169 = .ok (.iconst 0, 1) := by decide +kernel
theorem dX11_takeNumber_170 : decode cX11_takeNumber 170 = .ok (.ireturn, 1) := by decide +kernel
theorem dX11_takeStop_0 : decode cX11_takeStop 0 = .ok (.aload_n 0, 1) := by decide +kernel
theorem dX11_takeStop_1 : decode cX11_takeStop 1 = .ok (.invokevirtual 127, 3) := by decide +kernel
theorem dX11_takeStop_4 : decode cX11_takeStop 4 = .ok (.bipush 59, 2) := by decide +kernel
theorem dX11_takeStop_6 : decode cX11_takeStop 6 = .ok (.if_icmp .eq 13, 3) := by decide +kernel
theorem dX11_takeStop_9 : decode cX11_takeStop 9 = .ok (.aload_n 0, 1) := by decide +kernel
theorem dX11_takeStop_10 : decode cX11_takeStop 10 = .ok (.iconst 1, 1) := by decide +kernel
theorem dX11_takeStop_11 : decode cX11_takeStop 11 = .ok (.aload_n 0, 1) := by decide +kernel
theorem dX11_takeStop_12 : decode cX11_takeStop 12 = .ok (.getfield 124, 3) := by decide +kernel
theorem dX11_takeStop_15 : decode cX11_takeStop 15 = .ok (.invokevirtual 153, 3) := by decide +kernel
theorem dX11_takeStop_18 : decode cX11_takeStop 18 = .ok (.ireturn, 1) := by decide +kernel
theorem dX11_takeStop_19 : decode cX11_takeStop 19 = .ok (.aload_n 0, 1) := by decide +kernel
theorem dX11_takeStop_20 : decode cX11_takeStop 20 = .ok (.dup, 1) := by decide +kernel
theorem dX11_takeStop_21 : decode cX11_takeStop 21 = .ok (.getfield 124, 3) := by decide +kernel
theorem dX11_takeStop_24 : decode cX11_takeStop 24 = .ok (.iconst 1, 1) := by decide +kernel
theorem dX11_takeStop_25 : decode cX11_takeStop 25 = .ok (.iadd, 1) := by decide +kernel
theorem dX11_takeStop_26 : decode cX11_takeStop 26 = .ok (.putfield 124, 3) := by decide +kernel
theorem dX11_takeStop_29 : decode cX11_takeStop 29 = .ok (.iconst 0, 1) := by decide +kernel
theorem dX11_takeStop_30 : decode cX11_takeStop 30 = .ok (.ireturn, 1) := by decide +kernel
theorem dX11_into_0 : decode cX11_into 0 = .ok (.aload_n 0, 1) := by decide +kernel
theorem dX11_into_1 : decode cX11_into 1 = .ok (.iload_n 3, 1) := by decide +kernel
theorem dX11_into_2 : decode cX11_into 2 = .ok (.iload 4, 2) := by decide +kernel
theorem dX11_into_4 : decode cX11_into 4 = .ok (.invokevirtual 163, 3) := by decide +kernel
theorem dX11_into_7 : decode cX11_into 7 = .ok (.istore 5, 2) := by decide +kernel
theorem dX11_into_9 : decode cX11_into 9 = .ok (.aload_n 1, 1) := by decide +kernel
theorem dX11_into_10 : decode cX11_into 10 = .ok (.iload_n 2, 1) := by decide +kernel
theorem dX11_into_11 : decode cX11_into 11 = .ok (.aload_n 0, 1) := by decide +kernel
theorem dX11_into_12 : decode cX11_into 12 = .ok (.getfield 160, 3) := by decide +kernel
theorem dX11_into_15 : decode cX11_into 15 = .ok (.iastore, 1) := by decide +kernel
theorem dX11_into_16 : decode cX11_into 16 = .ok (.iload 5, 2) := by decide +kernel
theorem dX11_into_18 : decode cX11_into 18 = .ok (.ireturn, 1) := by decide +kernel
theorem dX11_takeLamp_0 : decode cX11_takeLamp 0 = .ok (.iconst 4, 1) := by decide +kernel
theorem dX11_takeLamp_1 : decode cX11_takeLamp 1 = .ok (.aload_n 0, 1) := by decide +kernel
theorem dX11_takeLamp_2 : decode cX11_takeLamp 2 = .ok (.getfield 166, 3) := by decide +kernel
theorem dX11_takeLamp_5 : decode cX11_takeLamp 5 = .ok (.imul, 1) := by decide +kernel
theorem dX11_takeLamp_6 : decode cX11_takeLamp 6 = .ok (.istore_n 1, 1) := by decide +kernel
theorem dX11_takeLamp_7 : decode cX11_takeLamp 7 = .ok (.aload_n 0, 1) := by decide +kernel
theorem dX11_takeLamp_8 : decode cX11_takeLamp 8 = .ok (.dup, 1) := by decide +kernel
theorem dX11_takeLamp_9 : decode cX11_takeLamp 9 = .ok (.getfield 166, 3) := by decide +kernel
theorem dX11_takeLamp_12 : decode cX11_takeLamp 12 = .ok (.iconst 1, 1) := by decide +kernel
theorem dX11_takeLamp_13 : decode cX11_takeLamp 13 = .ok (.iadd, 1) := by decide +kernel
theorem dX11_takeLamp_14 : decode cX11_takeLamp 14 = .ok (.putfield 166, 3) := by decide +kernel
theorem dX11_takeLamp_17 : decode cX11_takeLamp 17 = .ok (.aload_n 0, 1) := by decide +kernel
theorem dX11_takeLamp_18 : decode cX11_takeLamp 18 = .ok (.aload_n 0, 1) := by decide +kernel
theorem dX11_takeLamp_19 : decode cX11_takeLamp 19 = .ok (.getfield 47, 3) := by decide +kernel
theorem dX11_takeLamp_22 : decode cX11_takeLamp 22 = .ok (.iload_n 1, 1) := by decide +kernel
theorem dX11_takeLamp_23 : decode cX11_takeLamp 23 = .ok (.iconst 0, 1) := by decide +kernel
theorem dX11_takeLamp_24 : decode cX11_takeLamp 24 = .ok (.bipush 49, 2) := by decide +kernel
theorem dX11_takeLamp_26 : decode cX11_takeLamp 26 = .ok (.invokevirtual 169, 3) := by decide +kernel
theorem dX11_takeLamp_29 : decode cX11_takeLamp 29 = .ok (.istore_n 2, 1) := by decide +kernel
theorem dX11_takeLamp_30 : decode cX11_takeLamp 30 = .ok (.iload_n 2, 1) := by decide +kernel
theorem dX11_takeLamp_31 : decode cX11_takeLamp 31 = .ok (.ifCond .le 7, 3) := by decide +kernel
theorem dX11_takeLamp_34 : decode cX11_takeLamp 34 = .ok (.iload_n 2, 1) := by decide +kernel
theorem dX11_takeLamp_35 : decode cX11_takeLamp 35 = .ok (.goto 17, 3) := by decide +kernel
theorem dX11_takeLamp_38 : decode cX11_takeLamp 38 = .ok (.aload_n 0, 1) := by decide +kernel
theorem dX11_takeLamp_39 : decode cX11_takeLamp 39 = .ok (.aload_n 0, 1) := by decide +kernel
theorem dX11_takeLamp_40 : decode cX11_takeLamp 40 = .ok (.getfield 47, 3) := by decide +kernel
theorem dX11_takeLamp_43 : decode cX11_takeLamp 43 = .ok (.iload_n 1, 1) := by decide +kernel
theorem dX11_takeLamp_44 : decode cX11_takeLamp 44 = .ok (.iconst 1, 1) := by decide +kernel
theorem dX11_takeLamp_45 : decode cX11_takeLamp 45 = .ok (.iadd, 1) := by decide +kernel
theorem dX11_takeLamp_46 : decode cX11_takeLamp 46 = .ok (.iconst 0, 1) := by decide +kernel
theorem dX11_takeLamp_47 : decode cX11_takeLamp 47 = .ok (.bipush 63, 2) := by decide +kernel
theorem dX11_takeLamp_49 : decode cX11_takeLamp 49 = .ok (.invokevirtual 169, 3) := by decide +kernel
theorem dX11_takeLamp_52 : decode cX11_takeLamp 52 = .ok (.istore_n 2, 1) := by decide +kernel
theorem dX11_takeLamp_53 : decode cX11_takeLamp 53 = .ok (.iload_n 2, 1) := by decide +kernel
theorem dX11_takeLamp_54 : decode cX11_takeLamp 54 = .ok (.ifCond .le 7, 3) := by decide +kernel
theorem dX11_takeLamp_57 : decode cX11_takeLamp 57 = .ok (.iload_n 2, 1) := by decide +kernel
theorem dX11_takeLamp_58 : decode cX11_takeLamp 58 = .ok (.goto 17, 3) := by decide +kernel
theorem dX11_takeLamp_61 : decode cX11_takeLamp 61 = .ok (.aload_n 0, 1) := by decide +kernel
theorem dX11_takeLamp_62 : decode cX11_takeLamp 62 = .ok (.aload_n 0, 1) := by decide +kernel
theorem dX11_takeLamp_63 : decode cX11_takeLamp 63 = .ok (.getfield 47, 3) := by decide +kernel
theorem dX11_takeLamp_66 : decode cX11_takeLamp 66 = .ok (.iload_n 1, 1) := by decide +kernel
theorem dX11_takeLamp_67 : decode cX11_takeLamp 67 = .ok (.iconst 2, 1) := by decide +kernel
theorem dX11_takeLamp_68 : decode cX11_takeLamp 68 = .ok (.iadd, 1) := by decide +kernel
theorem dX11_takeLamp_69 : decode cX11_takeLamp 69 = .ok (.iconst 0, 1) := by decide +kernel
theorem dX11_takeLamp_70 : decode cX11_takeLamp 70 = .ok (.bipush 9, 2) := by decide +kernel
theorem dX11_takeLamp_72 : decode cX11_takeLamp 72 = .ok (.invokevirtual 169, 3) := by decide +kernel
theorem dX11_takeLamp_75 : decode cX11_takeLamp 75 = .ok (.istore_n 2, 1) := by decide +kernel
theorem dX11_takeLamp_76 : decode cX11_takeLamp 76 = .ok (.iload_n 2, 1) := by decide +kernel
theorem dX11_takeLamp_77 : decode cX11_takeLamp 77 = .ok (.ifCond .le 7, 3) := by decide +kernel
theorem dX11_takeLamp_80 : decode cX11_takeLamp 80 = .ok (.iload_n 2, 1) := by decide +kernel
theorem dX11_takeLamp_81 : decode cX11_takeLamp 81 = .ok (.goto 16, 3) := by decide +kernel
theorem dX11_takeLamp_84 : decode cX11_takeLamp 84 = .ok (.aload_n 0, 1) := by decide +kernel
theorem dX11_takeLamp_85 : decode cX11_takeLamp 85 = .ok (.aload_n 0, 1) := by decide +kernel
theorem dX11_takeLamp_86 : decode cX11_takeLamp 86 = .ok (.getfield 47, 3) := by decide +kernel
theorem dX11_takeLamp_89 : decode cX11_takeLamp 89 = .ok (.iload_n 1, 1) := by decide +kernel
theorem dX11_takeLamp_90 : decode cX11_takeLamp 90 = .ok (.iconst 3, 1) := by decide +kernel
theorem dX11_takeLamp_91 : decode cX11_takeLamp 91 = .ok (.iadd, 1) := by decide +kernel
theorem dX11_takeLamp_92 : decode cX11_takeLamp 92 = .ok (.iconst 0, 1) := by decide +kernel
theorem dX11_takeLamp_93 : decode cX11_takeLamp 93 = .ok (.iconst 5, 1) := by decide +kernel
theorem dX11_takeLamp_94 : decode cX11_takeLamp 94 = .ok (.invokevirtual 169, 3) := by decide +kernel
theorem dX11_takeLamp_97 : decode cX11_takeLamp 97 = .ok (.ireturn, 1) := by decide +kernel
theorem dX11_takeSinger_0 : decode cX11_takeSinger 0 = .ok (.iconst 4, 1) := by decide +kernel
theorem dX11_takeSinger_1 : decode cX11_takeSinger 1 = .ok (.aload_n 0, 1) := by decide +kernel
theorem dX11_takeSinger_2 : decode cX11_takeSinger 2 = .ok (.getfield 173, 3) := by decide +kernel
theorem dX11_takeSinger_5 : decode cX11_takeSinger 5 = .ok (.imul, 1) := by decide +kernel
theorem dX11_takeSinger_6 : decode cX11_takeSinger 6 = .ok (.istore_n 1, 1) := by decide +kernel
theorem dX11_takeSinger_7 : decode cX11_takeSinger 7 = .ok (.aload_n 0, 1) := by decide +kernel
theorem dX11_takeSinger_8 : decode cX11_takeSinger 8 = .ok (.dup, 1) := by decide +kernel
theorem dX11_takeSinger_9 : decode cX11_takeSinger 9 = .ok (.getfield 173, 3) := by decide +kernel
theorem dX11_takeSinger_12 : decode cX11_takeSinger 12 = .ok (.iconst 1, 1) := by decide +kernel
theorem dX11_takeSinger_13 : decode cX11_takeSinger 13 = .ok (.iadd, 1) := by decide +kernel
theorem dX11_takeSinger_14 : decode cX11_takeSinger 14 = .ok (.putfield 173, 3) := by decide +kernel
theorem dX11_takeSinger_17 : decode cX11_takeSinger 17 = .ok (.aload_n 0, 1) := by decide +kernel
theorem dX11_takeSinger_18 : decode cX11_takeSinger 18 = .ok (.aload_n 0, 1) := by decide +kernel
theorem dX11_takeSinger_19 : decode cX11_takeSinger 19 = .ok (.getfield 50, 3) := by decide +kernel
theorem dX11_takeSinger_22 : decode cX11_takeSinger 22 = .ok (.iload_n 1, 1) := by decide +kernel
theorem dX11_takeSinger_23 : decode cX11_takeSinger 23 = .ok (.iconst 0, 1) := by decide +kernel
theorem dX11_takeSinger_24 : decode cX11_takeSinger 24 = .ok (.bipush 49, 2) := by decide +kernel
theorem dX11_takeSinger_26 : decode cX11_takeSinger 26 = .ok (.invokevirtual 169, 3) := by decide +kernel
theorem dX11_takeSinger_29 : decode cX11_takeSinger 29 = .ok (.istore_n 2, 1) := by decide +kernel
theorem dX11_takeSinger_30 : decode cX11_takeSinger 30 = .ok (.iload_n 2, 1) := by decide +kernel
theorem dX11_takeSinger_31 : decode cX11_takeSinger 31 = .ok (.ifCond .le 7, 3) := by decide +kernel
theorem dX11_takeSinger_34 : decode cX11_takeSinger 34 = .ok (.iload_n 2, 1) := by decide +kernel
theorem dX11_takeSinger_35 : decode cX11_takeSinger 35 = .ok (.goto 17, 3) := by decide +kernel
theorem dX11_takeSinger_38 : decode cX11_takeSinger 38 = .ok (.aload_n 0, 1) := by decide +kernel
theorem dX11_takeSinger_39 : decode cX11_takeSinger 39 = .ok (.aload_n 0, 1) := by decide +kernel
theorem dX11_takeSinger_40 : decode cX11_takeSinger 40 = .ok (.getfield 50, 3) := by decide +kernel
theorem dX11_takeSinger_43 : decode cX11_takeSinger 43 = .ok (.iload_n 1, 1) := by decide +kernel
theorem dX11_takeSinger_44 : decode cX11_takeSinger 44 = .ok (.iconst 1, 1) := by decide +kernel
theorem dX11_takeSinger_45 : decode cX11_takeSinger 45 = .ok (.iadd, 1) := by decide +kernel
theorem dX11_takeSinger_46 : decode cX11_takeSinger 46 = .ok (.iconst 1, 1) := by decide +kernel
theorem dX11_takeSinger_47 : decode cX11_takeSinger 47 = .ok (.bipush 50, 2) := by decide +kernel
theorem dX11_takeSinger_49 : decode cX11_takeSinger 49 = .ok (.invokevirtual 169, 3) := by decide +kernel
theorem dX11_takeSinger_52 : decode cX11_takeSinger 52 = .ok (.istore_n 2, 1) := by decide +kernel
theorem dX11_takeSinger_53 : decode cX11_takeSinger 53 = .ok (.iload_n 2, 1) := by decide +kernel
theorem dX11_takeSinger_54 : decode cX11_takeSinger 54 = .ok (.ifCond .le 7, 3) := by decide +kernel
theorem dX11_takeSinger_57 : decode cX11_takeSinger 57 = .ok (.iload_n 2, 1) := by decide +kernel
theorem dX11_takeSinger_58 : decode cX11_takeSinger 58 = .ok (.goto 17, 3) := by decide +kernel
theorem dX11_takeSinger_61 : decode cX11_takeSinger 61 = .ok (.aload_n 0, 1) := by decide +kernel
theorem dX11_takeSinger_62 : decode cX11_takeSinger 62 = .ok (.aload_n 0, 1) := by decide +kernel
theorem dX11_takeSinger_63 : decode cX11_takeSinger 63 = .ok (.getfield 50, 3) := by decide +kernel
theorem dX11_takeSinger_66 : decode cX11_takeSinger 66 = .ok (.iload_n 1, 1) := by decide +kernel
theorem dX11_takeSinger_67 : decode cX11_takeSinger 67 = .ok (.iconst 2, 1) := by decide +kernel
theorem dX11_takeSinger_68 : decode cX11_takeSinger 68 = .ok (.iadd, 1) := by decide +kernel
theorem dX11_takeSinger_69 : decode cX11_takeSinger 69 = .ok (.iconst 0, 1) := by decide +kernel
theorem dX11_takeSinger_70 : decode cX11_takeSinger 70 = .ok (.bipush 63, 2) := by decide +kernel
theorem dX11_takeSinger_72 : decode cX11_takeSinger 72 = .ok (.invokevirtual 169, 3) := by decide +kernel
theorem dX11_takeSinger_75 : decode cX11_takeSinger 75 = .ok (.istore_n 2, 1) := by decide +kernel
theorem dX11_takeSinger_76 : decode cX11_takeSinger 76 = .ok (.iload_n 2, 1) := by decide +kernel
theorem dX11_takeSinger_77 : decode cX11_takeSinger 77 = .ok (.ifCond .le 7, 3) := by decide +kernel
theorem dX11_takeSinger_80 : decode cX11_takeSinger 80 = .ok (.iload_n 2, 1) := by decide +kernel
theorem dX11_takeSinger_81 : decode cX11_takeSinger 81 = .ok (.goto 24, 3) := by decide +kernel
theorem dX11_takeSinger_84 : decode cX11_takeSinger 84 = .ok (.aload_n 0, 1) := by decide +kernel
theorem dX11_takeSinger_85 : decode cX11_takeSinger 85 = .ok (.aload_n 0, 1) := by decide +kernel
theorem dX11_takeSinger_86 : decode cX11_takeSinger 86 = .ok (.getfield 50, 3) := by decide +kernel
theorem dX11_takeSinger_89 : decode cX11_takeSinger 89 = .ok (.iload_n 1, 1) := by decide +kernel
theorem dX11_takeSinger_90 : decode cX11_takeSinger 90 = .ok (.iconst 3, 1) := by decide +kernel
theorem dX11_takeSinger_91 : decode cX11_takeSinger 91 = .ok (.iadd, 1) := by decide +kernel
theorem dX11_takeSinger_92 : decode cX11_takeSinger 92 = .ok (.aload_n 0, 1) := by decide +kernel
theorem dX11_takeSinger_93 : decode cX11_takeSinger 93 = .ok (.getfield 50, 3) := by decide +kernel
theorem dX11_takeSinger_96 : decode cX11_takeSinger 96 = .ok (.iload_n 1, 1) := by decide +kernel
theorem dX11_takeSinger_97 : decode cX11_takeSinger 97 = .ok (.iconst 2, 1) := by decide +kernel
theorem dX11_takeSinger_98 : decode cX11_takeSinger 98 = .ok (.iadd, 1) := by decide +kernel
theorem dX11_takeSinger_99 : decode cX11_takeSinger 99 = .ok (.iaload, 1) := by decide +kernel
theorem dX11_takeSinger_100 : decode cX11_takeSinger 100 = .ok (.bipush 63, 2) := by decide +kernel
theorem dX11_takeSinger_102 : decode cX11_takeSinger 102 = .ok (.invokevirtual 169, 3) := by decide +kernel
theorem dX11_takeSinger_105 : decode cX11_takeSinger 105 = .ok (.ireturn, 1) := by decide +kernel
theorem dX11_takeQuay_0 : decode cX11_takeQuay 0 = .ok (.aload_n 0, 1) := by decide +kernel
theorem dX11_takeQuay_1 : decode cX11_takeQuay 1 = .ok (.invokevirtual 176, 3) := by decide +kernel
theorem dX11_takeQuay_4 : decode cX11_takeQuay 4 = .ok (.aload_n 0, 1) := by decide +kernel
theorem dX11_takeQuay_5 : decode cX11_takeQuay 5 = .ok (.getfield 130, 3) := by decide +kernel
theorem dX11_takeQuay_8 : decode cX11_takeQuay 8 = .ok (.bipush 108, 2) := by decide +kernel
theorem dX11_takeQuay_10 : decode cX11_takeQuay 10 = .ok (.bipush 97, 2) := by decide +kernel
theorem dX11_takeQuay_12 : decode cX11_takeQuay 12 = .ok (.bipush 109, 2) := by decide +kernel
theorem dX11_takeQuay_14 : decode cX11_takeQuay 14 = .ok (.bipush 112, 2) := by decide +kernel
theorem dX11_takeQuay_16 : decode cX11_takeQuay 16 = .ok (.invokestatic 179, 3) := by decide +kernel
theorem dX11_takeQuay_19 : decode cX11_takeQuay 19 = .ok (.lcmp, 1) := by decide +kernel
theorem dX11_takeQuay_20 : decode cX11_takeQuay 20 = .ok (.ifCond .ne 7, 3) := by decide +kernel
theorem dX11_takeQuay_23 : decode cX11_takeQuay 23 = .ok (.iconst 0, 1) := by decide +kernel
theorem dX11_takeQuay_24 : decode cX11_takeQuay 24 = .ok (.goto 111, 3) := by decide +kernel
theorem dX11_takeQuay_27 : decode cX11_takeQuay 27 = .ok (.aload_n 0, 1) := by decide +kernel
theorem dX11_takeQuay_28 : decode cX11_takeQuay 28 = .ok (.getfield 130, 3) := by decide +kernel
theorem dX11_takeQuay_31 : decode cX11_takeQuay 31 = .ok (.bipush 115, 2) := by decide +kernel
theorem dX11_takeQuay_33 : decode cX11_takeQuay 33 = .ok (.bipush 105, 2) := by decide +kernel
theorem dX11_takeQuay_35 : decode cX11_takeQuay 35 = .ok (.bipush 110, 2) := by decide +kernel
theorem dX11_takeQuay_37 : decode cX11_takeQuay 37 = .ok (.bipush 103, 2) := by decide +kernel
theorem dX11_takeQuay_39 : decode cX11_takeQuay 39 = .ok (.invokestatic 179, 3) := by decide +kernel
theorem dX11_takeQuay_42 : decode cX11_takeQuay 42 = .ok (.bipush 101, 2) := by decide +kernel
theorem dX11_takeQuay_44 : decode cX11_takeQuay 44 = .ok (.invokestatic 183, 3) := by decide +kernel
theorem dX11_takeQuay_47 : decode cX11_takeQuay 47 = .ok (.bipush 114, 2) := by decide +kernel
theorem dX11_takeQuay_49 : decode cX11_takeQuay 49 = .ok (.invokestatic 183, 3) := by decide +kernel
theorem dX11_takeQuay_52 : decode cX11_takeQuay 52 = .ok (.lcmp, 1) := by decide +kernel
theorem dX11_takeQuay_53 : decode cX11_takeQuay 53 = .ok (.ifCond .ne 7, 3) := by decide +kernel
theorem dX11_takeQuay_56 : decode cX11_takeQuay 56 = .ok (.iconst 1, 1) := by decide +kernel
theorem dX11_takeQuay_57 : decode cX11_takeQuay 57 = .ok (.goto 78, 3) := by decide +kernel
theorem dX11_takeQuay_60 : decode cX11_takeQuay 60 = .ok (.aload_n 0, 1) := by decide +kernel
theorem dX11_takeQuay_61 : decode cX11_takeQuay 61 = .ok (.getfield 130, 3) := by decide +kernel
theorem dX11_takeQuay_64 : decode cX11_takeQuay 64 = .ok (.bipush 98, 2) := by decide +kernel
theorem dX11_takeQuay_66 : decode cX11_takeQuay 66 = .ok (.bipush 117, 2) := by decide +kernel
theorem dX11_takeQuay_68 : decode cX11_takeQuay 68 = .ok (.bipush 114, 2) := by decide +kernel
theorem dX11_takeQuay_70 : decode cX11_takeQuay 70 = .ok (.bipush 110, 2) := by decide +kernel
theorem dX11_takeQuay_72 : decode cX11_takeQuay 72 = .ok (.invokestatic 179, 3) := by decide +kernel
theorem dX11_takeQuay_75 : decode cX11_takeQuay 75 = .ok (.lcmp, 1) := by decide +kernel
theorem dX11_takeQuay_76 : decode cX11_takeQuay 76 = .ok (.ifCond .ne 7, 3) := by decide +kernel
theorem dX11_takeQuay_79 : decode cX11_takeQuay 79 = .ok (.iconst 2, 1) := by decide +kernel
theorem dX11_takeQuay_80 : decode cX11_takeQuay 80 = .ok (.goto 55, 3) := by decide +kernel
theorem dX11_takeQuay_83 : decode cX11_takeQuay 83 = .ok (.aload_n 0, 1) := by decide +kernel
theorem dX11_takeQuay_84 : decode cX11_takeQuay 84 = .ok (.getfield 130, 3) := by decide +kernel
theorem dX11_takeQuay_87 : decode cX11_takeQuay 87 = .ok (.bipush 109, 2) := by decide +kernel
theorem dX11_takeQuay_89 : decode cX11_takeQuay 89 = .ok (.bipush 111, 2) := by decide +kernel
theorem dX11_takeQuay_91 : decode cX11_takeQuay 91 = .ok (.bipush 116, 2) := by decide +kernel
theorem dX11_takeQuay_93 : decode cX11_takeQuay 93 = .ok (.bipush 104, 2) := by decide +kernel
theorem dX11_takeQuay_95 : decode cX11_takeQuay 95 = .ok (.invokestatic 179, 3) := by decide +kernel
theorem dX11_takeQuay_98 : decode cX11_takeQuay 98 = .ok (.bipush 115, 2) := by decide +kernel
theorem dX11_takeQuay_100 : decode cX11_takeQuay 100 = .ok (.invokestatic 183, 3) := by decide +kernel
theorem dX11_takeQuay_103 : decode cX11_takeQuay 103 = .ok (.lcmp, 1) := by decide +kernel
theorem dX11_takeQuay_104 : decode cX11_takeQuay 104 = .ok (.ifCond .ne 7, 3) := by decide +kernel
theorem dX11_takeQuay_107 : decode cX11_takeQuay 107 = .ok (.iconst 3, 1) := by decide +kernel
theorem dX11_takeQuay_108 : decode cX11_takeQuay 108 = .ok (.goto 27, 3) := by decide +kernel
theorem dX11_takeQuay_111 : decode cX11_takeQuay 111 = .ok (.aload_n 0, 1) := by decide +kernel
theorem dX11_takeQuay_112 : decode cX11_takeQuay 112 = .ok (.getfield 130, 3) := by decide +kernel
theorem dX11_takeQuay_115 : decode cX11_takeQuay 115 = .ok (.bipush 108, 2) := by decide +kernel
theorem dX11_takeQuay_117 : decode cX11_takeQuay 117 = .ok (.bipush 111, 2) := by decide +kernel
theorem dX11_takeQuay_119 : decode cX11_takeQuay 119 = .ok (.bipush 117, 2) := by decide +kernel
theorem dX11_takeQuay_121 : decode cX11_takeQuay 121 = .ok (.bipush 100, 2) := by decide +kernel
theorem dX11_takeQuay_123 : decode cX11_takeQuay 123 = .ok (.invokestatic 179, 3) := by decide +kernel
theorem dX11_takeQuay_126 : decode cX11_takeQuay 126 = .ok (.lcmp, 1) := by decide +kernel
theorem dX11_takeQuay_127 : decode cX11_takeQuay 127 = .ok (.ifCond .ne 7, 3) := by decide +kernel
theorem dX11_takeQuay_130 : decode cX11_takeQuay 130 = .ok (.iconst 4, 1) := by decide +kernel
theorem dX11_takeQuay_131 : decode cX11_takeQuay 131 = .ok (.goto 4, 3) := by decide +kernel
theorem dX11_takeQuay_134 : decode cX11_takeQuay 134 = .ok (.iconst (-1), 1) := by decide +kernel
theorem dX11_takeQuay_135 : decode cX11_takeQuay 135 = .ok (.istore_n 1, 1) := by decide +kernel
theorem dX11_takeQuay_136 : decode cX11_takeQuay 136 = .ok (.iload_n 1, 1) := by decide +kernel
theorem dX11_takeQuay_137 : decode cX11_takeQuay 137 = .ok (.ifCond .ge 13, 3) := by decide +kernel
theorem dX11_takeQuay_140 : decode cX11_takeQuay 140 = .ok (.aload_n 0, 1) := by decide +kernel
theorem dX11_takeQuay_141 : decode cX11_takeQuay 141 = .ok (.iconst 1, 1) := by decide +kernel
theorem dX11_takeQuay_142 : decode cX11_takeQuay 142 = .ok (.aload_n 0, 1) := by decide +kernel
theorem dX11_takeQuay_143 : decode cX11_takeQuay 143 = .ok (.getfield 124, 3) := by decide +kernel
theorem dX11_takeQuay_146 : decode cX11_takeQuay 146 = .ok (.invokevirtual 153, 3) := by decide +kernel
theorem dX11_takeQuay_149 : decode cX11_takeQuay 149 = .ok (.ireturn, 1) := by decide +kernel
theorem dX11_takeQuay_150 : decode cX11_takeQuay 150 = .ok (.iload_n 1, 1) := by decide +kernel
theorem dX11_takeQuay_151 : decode cX11_takeQuay 151 = .ok (.ifCond .ne 12, 3) := by decide +kernel
theorem dX11_takeQuay_154 : decode cX11_takeQuay 154 = .ok (.aload_n 0, 1) := by decide +kernel
theorem dX11_takeQuay_155 : decode cX11_takeQuay 155 = .ok (.getfield 166, 3) := by decide +kernel
theorem dX11_takeQuay_158 : decode cX11_takeQuay 158 = .ok (.bipush 10, 2) := by decide +kernel
theorem dX11_takeQuay_160 : decode cX11_takeQuay 160 = .ok (.if_icmp .eq 33, 3) := by decide +kernel
theorem dX11_takeQuay_163 : decode cX11_takeQuay 163 = .ok (.iload_n 1, 1) := by decide +kernel
theorem dX11_takeQuay_164 : decode cX11_takeQuay 164 = .ok (.iconst 1, 1) := by decide +kernel
theorem dX11_takeQuay_165 : decode cX11_takeQuay 165 = .ok (.if_icmp .ne 12, 3) := by decide +kernel
theorem dX11_takeQuay_168 : decode cX11_takeQuay 168 = .ok (.aload_n 0, 1) := by decide +kernel
theorem dX11_takeQuay_169 : decode cX11_takeQuay 169 = .ok (.getfield 173, 3) := by decide +kernel
theorem dX11_takeQuay_172 : decode cX11_takeQuay 172 = .ok (.bipush 8, 2) := by decide +kernel
theorem dX11_takeQuay_174 : decode cX11_takeQuay 174 = .ok (.if_icmp .eq 19, 3) := by decide +kernel
theorem dX11_takeQuay_177 : decode cX11_takeQuay 177 = .ok (.iload_n 1, 1) := by decide +kernel
theorem dX11_takeQuay_178 : decode cX11_takeQuay 178 = .ok (.iconst 1, 1) := by decide +kernel
theorem dX11_takeQuay_179 : decode cX11_takeQuay 179 = .ok (.if_icmp .le 24, 3) := by decide +kernel
theorem dX11_takeQuay_182 : decode cX11_takeQuay 182 = .ok (.aload_n 0, 1) := by decide +kernel
theorem dX11_takeQuay_183 : decode cX11_takeQuay 183 = .ok (.getfield 187, 3) := by decide +kernel
theorem dX11_takeQuay_186 : decode cX11_takeQuay 186 = .ok (.iload_n 1, 1) := by decide +kernel
theorem dX11_takeQuay_187 : decode cX11_takeQuay 187 = .ok (.invokestatic 190, 3) := by decide +kernel
theorem dX11_takeQuay_190 : decode cX11_takeQuay 190 = .ok (.ifCond .eq 13, 3) := by decide +kernel
theorem dX11_takeQuay_193 : decode cX11_takeQuay 193 = .ok (.aload_n 0, 1) := by decide +kernel
theorem dX11_takeQuay_194 : decode cX11_takeQuay 194 = .ok (.iconst 3, 1) := by decide +kernel
theorem dX11_takeQuay_195 : decode cX11_takeQuay 195 = .ok (.aload_n 0, 1) := by decide +kernel
theorem dX11_takeQuay_196 : decode cX11_takeQuay 196 = .ok (.getfield 124, 3) := by decide +kernel
theorem dX11_takeQuay_199 : decode cX11_takeQuay 199 = .ok (.invokevirtual 153, 3) := by decide +kernel
theorem dX11_takeQuay_202 : decode cX11_takeQuay 202 = .ok (.ireturn, 1) := by decide +kernel
theorem dX11_takeQuay_203 : decode cX11_takeQuay 203 = .ok (.aload_n 0, 1) := by decide +kernel
theorem dX11_takeQuay_204 : decode cX11_takeQuay 204 = .ok (.aload_n 0, 1) := by decide +kernel
theorem dX11_takeQuay_205 : decode cX11_takeQuay 205 = .ok (.getfield 134, 3) := by decide +kernel
theorem dX11_takeQuay_208 : decode cX11_takeQuay 208 = .ok (.putfield 124, 3) := by decide +kernel
theorem dX11_takeQuay_211 : decode cX11_takeQuay 211 = .ok (.aload_n 0, 1) := by decide +kernel
theorem dX11_takeQuay_212 : decode cX11_takeQuay 212 = .ok (.dup, 1) := by decide +kernel
theorem dX11_takeQuay_213 : decode cX11_takeQuay 213 = .ok (.getfield 187, 3) := by decide +kernel
theorem dX11_takeQuay_216 : decode cX11_takeQuay 216 = .ok (.iconst 1, 1) := by decide +kernel
theorem dX11_takeQuay_217 : decode cX11_takeQuay 217 = .ok (.iload_n 1, 1) := by decide +kernel
theorem dX11_takeQuay_218 : decode cX11_takeQuay 218 = .ok (.ishl, 1) := by decide +kernel
theorem dX11_takeQuay_219 : decode cX11_takeQuay 219 = .ok (.ior, 1) := by decide +kernel
theorem dX11_takeQuay_220 : decode cX11_takeQuay 220 = .ok (.putfield 187, 3) := by decide +kernel
theorem dX11_takeQuay_223 : decode cX11_takeQuay 223 = .ok (.iload_n 1, 1) := by decide +kernel
theorem dX11_takeQuay_224 : decode cX11_takeQuay 224 = .ok (.ifCond .ne 10, 3) := by decide +kernel
theorem dX11_takeQuay_227 : decode cX11_takeQuay 227 = .ok (.aload_n 0, 1) := by decide +kernel
theorem dX11_takeQuay_228 : decode cX11_takeQuay 228 = .ok (.invokevirtual 194, 3) := by decide +kernel
theorem dX11_takeQuay_231 : decode cX11_takeQuay 231 = .ok (.goto 39, 3) := by decide +kernel
theorem dX11_takeQuay_234 : decode cX11_takeQuay 234 = .ok (.iload_n 1, 1) := by decide +kernel
theorem dX11_takeQuay_235 : decode cX11_takeQuay 235 = .ok (.iconst 1, 1) := by decide +kernel
theorem dX11_takeQuay_236 : decode cX11_takeQuay 236 = .ok (.if_icmp .ne 10, 3) := by decide +kernel
theorem dX11_takeQuay_239 : decode cX11_takeQuay 239 = .ok (.aload_n 0, 1) := by decide +kernel
theorem dX11_takeQuay_240 : decode cX11_takeQuay 240 = .ok (.invokevirtual 197, 3) := by decide +kernel
theorem dX11_takeQuay_243 : decode cX11_takeQuay 243 = .ok (.goto 27, 3) := by decide +kernel
theorem dX11_takeQuay_246 : decode cX11_takeQuay 246 = .ok (.aload_n 0, 1) := by decide +kernel
theorem dX11_takeQuay_247 : decode cX11_takeQuay 247 = .ok (.aload_n 0, 1) := by decide +kernel
theorem dX11_takeQuay_248 : decode cX11_takeQuay 248 = .ok (.getfield 53, 3) := by decide +kernel
theorem dX11_takeQuay_251 : decode cX11_takeQuay 251 = .ok (.iload_n 1, 1) := by decide +kernel
theorem dX11_takeQuay_252 : decode cX11_takeQuay 252 = .ok (.iconst 2, 1) := by decide +kernel
theorem dX11_takeQuay_253 : decode cX11_takeQuay 253 = .ok (.isub, 1) := by decide +kernel
theorem dX11_takeQuay_254 : decode cX11_takeQuay 254 = .ok (.iconst 1, 1) := by decide +kernel
theorem dX11_takeQuay_255 : decode cX11_takeQuay 255 = .ok (.iload_n 1, 1) := by decide +kernel
theorem dX11_takeQuay_256 : decode cX11_takeQuay 256 = .ok (.iconst 4, 1) := by decide +kernel
theorem dX11_takeQuay_257 : decode cX11_takeQuay 257 = .ok (.if_icmp .ne 8, 3) := by decide +kernel
theorem dX11_takeQuay_260 : decode cX11_takeQuay 260 = .ok (.bipush 50, 2) := by decide +kernel
theorem dX11_takeQuay_262 : decode cX11_takeQuay 262 = .ok (.goto 5, 3) := by decide +kernel
theorem dX11_takeQuay_265 : decode cX11_takeQuay 265 = .ok (.bipush 99, 2) := by decide +kernel
theorem dX11_takeQuay_267 : decode cX11_takeQuay 267 = .ok (.invokevirtual 169, 3) := by decide +kernel
theorem dX11_takeQuay_270 : decode cX11_takeQuay 270 = .ok (.istore_n 2, 1) := by decide +kernel
theorem dX11_takeQuay_271 : decode cX11_takeQuay 271 = .ok (.iload_n 2, 1) := by decide +kernel
theorem dX11_takeQuay_272 : decode cX11_takeQuay 272 = .ok (.ifCond .le 7, 3) := by decide +kernel
theorem dX11_takeQuay_275 : decode cX11_takeQuay 275 = .ok (.iload_n 2, 1) := by decide +kernel
theorem dX11_takeQuay_276 : decode cX11_takeQuay 276 = .ok (.goto 7, 3) := by decide +kernel
theorem dX11_takeQuay_279 : decode cX11_takeQuay 279 = .ok (.aload_n 0, 1) := by decide +kernel
theorem dX11_takeQuay_280 : decode cX11_takeQuay 280 = .ok (.invokevirtual 200, 3) := by decide +kernel
theorem dX11_takeQuay_283 : decode cX11_takeQuay 283 = .ok (.ireturn, 1) := by decide +kernel
theorem dX11_quay_0 : decode cX11_quay 0 = .ok (.aload_n 0, 1) := by decide +kernel
theorem dX11_quay_1 : decode cX11_quay 1 = .ok (.iconst (-1), 1) := by decide +kernel
theorem dX11_quay_2 : decode cX11_quay 2 = .ok (.putfield 44, 3) := by decide +kernel
theorem dX11_quay_5 : decode cX11_quay 5 = .ok (.aload_n 0, 1) := by decide +kernel
theorem dX11_quay_6 : decode cX11_quay 6 = .ok (.iconst 0, 1) := by decide +kernel
theorem dX11_quay_7 : decode cX11_quay 7 = .ok (.putfield 124, 3) := by decide +kernel
theorem dX11_quay_10 : decode cX11_quay 10 = .ok (.aload_n 0, 1) := by decide +kernel
theorem dX11_quay_11 : decode cX11_quay 11 = .ok (.iconst 0, 1) := by decide +kernel
theorem dX11_quay_12 : decode cX11_quay 12 = .ok (.putfield 166, 3) := by decide +kernel
theorem dX11_quay_15 : decode cX11_quay 15 = .ok (.aload_n 0, 1) := by decide +kernel
theorem dX11_quay_16 : decode cX11_quay 16 = .ok (.iconst 0, 1) := by decide +kernel
theorem dX11_quay_17 : decode cX11_quay 17 = .ok (.putfield 173, 3) := by decide +kernel
theorem dX11_quay_20 : decode cX11_quay 20 = .ok (.aload_n 0, 1) := by decide +kernel
theorem dX11_quay_21 : decode cX11_quay 21 = .ok (.iconst 0, 1) := by decide +kernel
theorem dX11_quay_22 : decode cX11_quay 22 = .ok (.putfield 187, 3) := by decide +kernel
theorem dX11_quay_25 : decode cX11_quay 25 = .ok (.aload_n 0, 1) := by decide +kernel
theorem dX11_quay_26 : decode cX11_quay 26 = .ok (.getfield 53, 3) := by decide +kernel
theorem dX11_quay_29 : decode cX11_quay 29 = .ok (.iconst 0, 1) := by decide +kernel
theorem dX11_quay_30 : decode cX11_quay 30 = .ok (.bipush 20, 2) := by decide +kernel
theorem dX11_quay_32 : decode cX11_quay 32 = .ok (.iastore, 1) := by decide +kernel
theorem dX11_quay_33 : decode cX11_quay 33 = .ok (.aload_n 0, 1) := by decide +kernel
theorem dX11_quay_34 : decode cX11_quay 34 = .ok (.getfield 53, 3) := by decide +kernel
theorem dX11_quay_37 : decode cX11_quay 37 = .ok (.iconst 1, 1) := by decide +kernel
theorem dX11_quay_38 : decode cX11_quay 38 = .ok (.bipush 30, 2) := by decide +kernel
theorem dX11_quay_40 : decode cX11_quay 40 = .ok (.iastore, 1) := by decide +kernel
theorem dX11_quay_41 : decode cX11_quay 41 = .ok (.aload_n 0, 1) := by decide +kernel
theorem dX11_quay_42 : decode cX11_quay 42 = .ok (.getfield 53, 3) := by decide +kernel
theorem dX11_quay_45 : decode cX11_quay 45 = .ok (.iconst 2, 1) := by decide +kernel
theorem dX11_quay_46 : decode cX11_quay 46 = .ok (.iconst 5, 1) := by decide +kernel
theorem dX11_quay_47 : decode cX11_quay 47 = .ok (.iastore, 1) := by decide +kernel
theorem dX11_quay_48 : decode cX11_quay 48 = .ok (.iconst 0, 1) := by decide +kernel
theorem dX11_quay_49 : decode cX11_quay 49 = .ok (.istore_n 1, 1) := by decide +kernel
theorem dX11_quay_50 : decode cX11_quay 50 = .ok (.iload_n 1, 1) := by decide +kernel
theorem dX11_quay_51 : decode cX11_quay 51 = .ok (.ifCond .ne 18, 3) := by decide +kernel
theorem dX11_quay_54 : decode cX11_quay 54 = .ok (.aload_n 0, 1) := by decide +kernel
theorem dX11_quay_55 : decode cX11_quay 55 = .ok (.invokevirtual 127, 3) := by decide +kernel
theorem dX11_quay_58 : decode cX11_quay 58 = .ok (.ifCond .lt 11, 3) := by decide +kernel
theorem dX11_quay_61 : decode cX11_quay 61 = .ok (.aload_n 0, 1) := by decide +kernel
theorem dX11_quay_62 : decode cX11_quay 62 = .ok (.invokevirtual 203, 3) := by decide +kernel
theorem dX11_quay_65 : decode cX11_quay 65 = .ok (.istore_n 1, 1) := by decide +kernel
theorem dX11_quay_66 : decode cX11_quay 66 = .ok (.goto (-16), 3) := by decide +kernel
theorem dX11_quay_69 : decode cX11_quay 69 = .ok (.aload_n 0, 1) := by decide +kernel
theorem dX11_quay_70 : decode cX11_quay 70 = .ok (.iconst 0, 1) := by decide +kernel
theorem dX11_quay_71 : decode cX11_quay 71 = .ok (.putfield 119, 3) := by decide +kernel
theorem dX11_quay_74 : decode cX11_quay 74 = .ok (.iload_n 1, 1) := by decide +kernel
theorem dX11_quay_75 : decode cX11_quay 75 = .ok (.ifCond .le 8, 3) := by decide +kernel
theorem dX11_quay_78 : decode cX11_quay 78 = .ok (.bipush (-10), 2) := by decide +kernel
theorem dX11_quay_80 : decode cX11_quay 80 = .ok (.iload_n 1, 1) := by decide +kernel
theorem dX11_quay_81 : decode cX11_quay 81 = .ok (.isub, 1) := by decide +kernel
theorem dX11_quay_82 : decode cX11_quay 82 = .ok (.ireturn, 1) := by decide +kernel
theorem dX11_quay_83 : decode cX11_quay 83 = .ok (.aload_n 0, 1) := by decide +kernel
theorem dX11_quay_84 : decode cX11_quay 84 = .ok (.aload_n 0, 1) := by decide +kernel
theorem dX11_quay_85 : decode cX11_quay 85 = .ok (.getfield 166, 3) := by decide +kernel
theorem dX11_quay_88 : decode cX11_quay 88 = .ok (.putfield 104, 3) := by decide +kernel
theorem dX11_quay_91 : decode cX11_quay 91 = .ok (.aload_n 0, 1) := by decide +kernel
theorem dX11_quay_92 : decode cX11_quay 92 = .ok (.aload_n 0, 1) := by decide +kernel
theorem dX11_quay_93 : decode cX11_quay 93 = .ok (.getfield 173, 3) := by decide +kernel
theorem dX11_quay_96 : decode cX11_quay 96 = .ok (.putfield 206, 3) := by decide +kernel
theorem dX11_quay_99 : decode cX11_quay 99 = .ok (.iconst 0, 1) := by decide +kernel
theorem dX11_quay_100 : decode cX11_quay 100 = .ok (.istore_n 2, 1) := by decide +kernel
theorem dX11_quay_101 : decode cX11_quay 101 = .ok (.iload_n 2, 1) := by decide +kernel
theorem dX11_quay_102 : decode cX11_quay 102 = .ok (.bipush 40, 2) := by decide +kernel
theorem dX11_quay_104 : decode cX11_quay 104 = .ok (.if_icmp .ge 21, 3) := by decide +kernel
theorem dX11_quay_107 : decode cX11_quay 107 = .ok (.aload_n 0, 1) := by decide +kernel
theorem dX11_quay_108 : decode cX11_quay 108 = .ok (.getfield 7, 3) := by decide +kernel
theorem dX11_quay_111 : decode cX11_quay 111 = .ok (.iload_n 2, 1) := by decide +kernel
theorem dX11_quay_112 : decode cX11_quay 112 = .ok (.aload_n 0, 1) := by decide +kernel
theorem dX11_quay_113 : decode cX11_quay 113 = .ok (.getfield 47, 3) := by decide +kernel
theorem dX11_quay_116 : decode cX11_quay 116 = .ok (.iload_n 2, 1) := by decide +kernel
theorem dX11_quay_117 : decode cX11_quay 117 = .ok (.iaload, 1) := by decide +kernel
theorem dX11_quay_118 : decode cX11_quay 118 = .ok (.iastore, 1) := by decide +kernel
theorem dX11_quay_119 : decode cX11_quay 119 = .ok (.iinc 2 1, 3) := by decide +kernel
theorem dX11_quay_122 : decode cX11_quay 122 = .ok (.goto (-21), 3) := by decide +kernel
theorem dX11_quay_125 : decode cX11_quay 125 = .ok (.iconst 0, 1) := by decide +kernel
theorem dX11_quay_126 : decode cX11_quay 126 = .ok (.istore_n 2, 1) := by decide +kernel
theorem dX11_quay_127 : decode cX11_quay 127 = .ok (.iload_n 2, 1) := by decide +kernel
theorem dX11_quay_128 : decode cX11_quay 128 = .ok (.bipush 32, 2) := by decide +kernel
theorem dX11_quay_130 : decode cX11_quay 130 = .ok (.if_icmp .ge 21, 3) := by decide +kernel
theorem dX11_quay_133 : decode cX11_quay 133 = .ok (.aload_n 0, 1) := by decide +kernel
theorem dX11_quay_134 : decode cX11_quay 134 = .ok (.getfield 32, 3) := by decide +kernel
theorem dX11_quay_137 : decode cX11_quay 137 = .ok (.iload_n 2, 1) := by decide +kernel
theorem dX11_quay_138 : decode cX11_quay 138 = .ok (.aload_n 0, 1) := by decide +kernel
theorem dX11_quay_139 : decode cX11_quay 139 = .ok (.getfield 50, 3) := by decide +kernel
theorem dX11_quay_142 : decode cX11_quay 142 = .ok (.iload_n 2, 1) := by decide +kernel
theorem dX11_quay_143 : decode cX11_quay 143 = .ok (.iaload, 1) := by decide +kernel
theorem dX11_quay_144 : decode cX11_quay 144 = .ok (.iastore, 1) := by decide +kernel
theorem dX11_quay_145 : decode cX11_quay 145 = .ok (.iinc 2 1, 3) := by decide +kernel
theorem dX11_quay_148 : decode cX11_quay 148 = .ok (.goto (-21), 3) := by decide +kernel
theorem dX11_quay_151 : decode cX11_quay 151 = .ok (.aload_n 0, 1) := by decide +kernel
theorem dX11_quay_152 : decode cX11_quay 152 = .ok (.aload_n 0, 1) := by decide +kernel
theorem dX11_quay_153 : decode cX11_quay 153 = .ok (.getfield 53, 3) := by decide +kernel
theorem dX11_quay_156 : decode cX11_quay 156 = .ok (.iconst 0, 1) := by decide +kernel
theorem dX11_quay_157 : decode cX11_quay 157 = .ok (.iaload, 1) := by decide +kernel
theorem dX11_quay_158 : decode cX11_quay 158 = .ok (.putfield 22, 3) := by decide +kernel
theorem dX11_quay_161 : decode cX11_quay 161 = .ok (.aload_n 0, 1) := by decide +kernel
theorem dX11_quay_162 : decode cX11_quay 162 = .ok (.aload_n 0, 1) := by decide +kernel
theorem dX11_quay_163 : decode cX11_quay 163 = .ok (.getfield 53, 3) := by decide +kernel
theorem dX11_quay_166 : decode cX11_quay 166 = .ok (.iconst 1, 1) := by decide +kernel
theorem dX11_quay_167 : decode cX11_quay 167 = .ok (.iaload, 1) := by decide +kernel
theorem dX11_quay_168 : decode cX11_quay 168 = .ok (.putfield 26, 3) := by decide +kernel
theorem dX11_quay_171 : decode cX11_quay 171 = .ok (.aload_n 0, 1) := by decide +kernel
theorem dX11_quay_172 : decode cX11_quay 172 = .ok (.aload_n 0, 1) := by decide +kernel
theorem dX11_quay_173 : decode cX11_quay 173 = .ok (.getfield 53, 3) := by decide +kernel
theorem dX11_quay_176 : decode cX11_quay 176 = .ok (.iconst 2, 1) := by decide +kernel
theorem dX11_quay_177 : decode cX11_quay 177 = .ok (.iaload, 1) := by decide +kernel
theorem dX11_quay_178 : decode cX11_quay 178 = .ok (.putfield 29, 3) := by decide +kernel
theorem dX11_quay_181 : decode cX11_quay 181 = .ok (.aload_n 0, 1) := by decide +kernel
theorem dX11_quay_182 : decode cX11_quay 182 = .ok (.iconst 0, 1) := by decide +kernel
theorem dX11_quay_183 : decode cX11_quay 183 = .ok (.putfield 209, 3) := by decide +kernel
theorem dX11_quay_186 : decode cX11_quay 186 = .ok (.aload_n 0, 1) := by decide +kernel
theorem dX11_quay_187 : decode cX11_quay 187 = .ok (.iconst 0, 1) := by decide +kernel
theorem dX11_quay_188 : decode cX11_quay 188 = .ok (.putfield 212, 3) := by decide +kernel
theorem dX11_quay_191 : decode cX11_quay 191 = .ok (.aload_n 0, 1) := by decide +kernel
theorem dX11_quay_192 : decode cX11_quay 192 = .ok (.iconst 0, 1) := by decide +kernel
theorem dX11_quay_193 : decode cX11_quay 193 = .ok (.putfield 215, 3) := by decide +kernel
theorem dX11_quay_196 : decode cX11_quay 196 = .ok (.aload_n 0, 1) := by decide +kernel
theorem dX11_quay_197 : decode cX11_quay 197 = .ok (.iconst 0, 1) := by decide +kernel
theorem dX11_quay_198 : decode cX11_quay 198 = .ok (.putfield 218, 3) := by decide +kernel
theorem dX11_quay_201 : decode cX11_quay 201 = .ok (.aload_n 0, 1) := by decide +kernel
theorem dX11_quay_202 : decode cX11_quay 202 = .ok (.iconst 0, 1) := by decide +kernel
theorem dX11_quay_203 : decode cX11_quay 203 = .ok (.putfield 221, 3) := by decide +kernel
theorem dX11_quay_206 : decode cX11_quay 206 = .ok (.aload_n 0, 1) := by decide +kernel
theorem dX11_quay_207 : decode cX11_quay 207 = .ok (.getfield 101, 3) := by decide +kernel
theorem dX11_quay_210 : decode cX11_quay 210 = .ok (.iconst 0, 1) := by decide +kernel
theorem dX11_quay_211 : decode cX11_quay 211 = .ok (.iconst 0, 1) := by decide +kernel
theorem dX11_quay_212 : decode cX11_quay 212 = .ok (.bastore, 1) := by decide +kernel
theorem dX11_quay_213 : decode cX11_quay 213 = .ok (.aload_n 0, 1) := by decide +kernel
theorem dX11_quay_214 : decode cX11_quay 214 = .ok (.getfield 101, 3) := by decide +kernel
theorem dX11_quay_217 : decode cX11_quay 217 = .ok (.iconst 1, 1) := by decide +kernel
theorem dX11_quay_218 : decode cX11_quay 218 = .ok (.iconst 0, 1) := by decide +kernel
theorem dX11_quay_219 : decode cX11_quay 219 = .ok (.bastore, 1) := by decide +kernel
theorem dX11_quay_220 : decode cX11_quay 220 = .ok (.aload_n 0, 1) := by decide +kernel
theorem dX11_quay_221 : decode cX11_quay 221 = .ok (.invokevirtual 224, 3) := by decide +kernel
theorem dX11_quay_224 : decode cX11_quay 224 = .ok (.aload_n 0, 1) := by decide +kernel
theorem dX11_quay_225 : decode cX11_quay 225 = .ok (.getfield 104, 3) := by decide +kernel
theorem dX11_quay_228 : decode cX11_quay 228 = .ok (.ireturn, 1) := by decide +kernel
theorem dX11_allOut_0 : decode cX11_allOut 0 = .ok (.aload_n 0, 1) := by decide +kernel
theorem dX11_allOut_1 : decode cX11_allOut 1 = .ok (.iconst 0, 1) := by decide +kernel
theorem dX11_allOut_2 : decode cX11_allOut 2 = .ok (.putfield 227, 3) := by decide +kernel
theorem dX11_allOut_5 : decode cX11_allOut 5 = .ok (.iconst 0, 1) := by decide +kernel
theorem dX11_allOut_6 : decode cX11_allOut 6 = .ok (.istore_n 1, 1) := by decide +kernel
theorem dX11_allOut_7 : decode cX11_allOut 7 = .ok (.iload_n 1, 1) := by decide +kernel
theorem dX11_allOut_8 : decode cX11_allOut 8 = .ok (.bipush 10, 2) := by decide +kernel
theorem dX11_allOut_10 : decode cX11_allOut 10 = .ok (.if_icmp .ge 30, 3) := by decide +kernel
theorem dX11_allOut_13 : decode cX11_allOut 13 = .ok (.aload_n 0, 1) := by decide +kernel
theorem dX11_allOut_14 : decode cX11_allOut 14 = .ok (.getfield 13, 3) := by decide +kernel
theorem dX11_allOut_17 : decode cX11_allOut 17 = .ok (.iload_n 1, 1) := by decide +kernel
theorem dX11_allOut_18 : decode cX11_allOut 18 = .ok (.iconst 0, 1) := by decide +kernel
theorem dX11_allOut_19 : decode cX11_allOut 19 = .ok (.iastore, 1) := by decide +kernel
theorem dX11_allOut_20 : decode cX11_allOut 20 = .ok (.aload_n 0, 1) := by decide +kernel
theorem dX11_allOut_21 : decode cX11_allOut 21 = .ok (.getfield 16, 3) := by decide +kernel
theorem dX11_allOut_24 : decode cX11_allOut 24 = .ok (.iload_n 1, 1) := by decide +kernel
theorem dX11_allOut_25 : decode cX11_allOut 25 = .ok (.iconst 0, 1) := by decide +kernel
theorem dX11_allOut_26 : decode cX11_allOut 26 = .ok (.iastore, 1) := by decide +kernel
theorem dX11_allOut_27 : decode cX11_allOut 27 = .ok (.aload_n 0, 1) := by decide +kernel
theorem dX11_allOut_28 : decode cX11_allOut 28 = .ok (.getfield 19, 3) := by decide +kernel
theorem dX11_allOut_31 : decode cX11_allOut 31 = .ok (.iload_n 1, 1) := by decide +kernel
theorem dX11_allOut_32 : decode cX11_allOut 32 = .ok (.iconst (-1), 1) := by decide +kernel
theorem dX11_allOut_33 : decode cX11_allOut 33 = .ok (.iastore, 1) := by decide +kernel
theorem dX11_allOut_34 : decode cX11_allOut 34 = .ok (.iinc 1 1, 3) := by decide +kernel
theorem dX11_allOut_37 : decode cX11_allOut 37 = .ok (.goto (-30), 3) := by decide +kernel
theorem dX11_allOut_40 : decode cX11_allOut 40 = .ok (.return_, 1) := by decide +kernel
theorem dX11_takeSong_0 : decode cX11_takeSong 0 = .ok (.aload_n 0, 1) := by decide +kernel
theorem dX11_takeSong_1 : decode cX11_takeSong 1 = .ok (.invokevirtual 176, 3) := by decide +kernel
theorem dX11_takeSong_4 : decode cX11_takeSong 4 = .ok (.aload_n 0, 1) := by decide +kernel
theorem dX11_takeSong_5 : decode cX11_takeSong 5 = .ok (.getfield 130, 3) := by decide +kernel
theorem dX11_takeSong_8 : decode cX11_takeSong 8 = .ok (.bipush 115, 2) := by decide +kernel
theorem dX11_takeSong_10 : decode cX11_takeSong 10 = .ok (.bipush 105, 2) := by decide +kernel
theorem dX11_takeSong_12 : decode cX11_takeSong 12 = .ok (.bipush 110, 2) := by decide +kernel
theorem dX11_takeSong_14 : decode cX11_takeSong 14 = .ok (.bipush 103, 2) := by decide +kernel
theorem dX11_takeSong_16 : decode cX11_takeSong 16 = .ok (.invokestatic 179, 3) := by decide +kernel
theorem dX11_takeSong_19 : decode cX11_takeSong 19 = .ok (.lcmp, 1) := by decide +kernel
theorem dX11_takeSong_20 : decode cX11_takeSong 20 = .ok (.ifCond .eq 13, 3) := by decide +kernel
theorem dX11_takeSong_23 : decode cX11_takeSong 23 = .ok (.aload_n 0, 1) := by decide +kernel
theorem dX11_takeSong_24 : decode cX11_takeSong 24 = .ok (.iconst 1, 1) := by decide +kernel
theorem dX11_takeSong_25 : decode cX11_takeSong 25 = .ok (.aload_n 0, 1) := by decide +kernel
theorem dX11_takeSong_26 : decode cX11_takeSong 26 = .ok (.getfield 124, 3) := by decide +kernel
theorem dX11_takeSong_29 : decode cX11_takeSong 29 = .ok (.invokevirtual 153, 3) := by decide +kernel
theorem dX11_takeSong_32 : decode cX11_takeSong 32 = .ok (.ireturn, 1) := by decide +kernel
theorem dX11_takeSong_33 : decode cX11_takeSong 33 = .ok (.aload_n 0, 1) := by decide +kernel
theorem dX11_takeSong_34 : decode cX11_takeSong 34 = .ok (.getfield 230, 3) := by decide +kernel
theorem dX11_takeSong_37 : decode cX11_takeSong 37 = .ok (.bipush 30, 2) := by decide +kernel
theorem dX11_takeSong_39 : decode cX11_takeSong 39 = .ok (.if_icmp .ne 13, 3) := by decide +kernel
theorem dX11_takeSong_42 : decode cX11_takeSong 42 = .ok (.aload_n 0, 1) := by decide +kernel
theorem dX11_takeSong_43 : decode cX11_takeSong 43 = .ok (.iconst 3, 1) := by decide +kernel
theorem dX11_takeSong_44 : decode cX11_takeSong 44 = .ok (.aload_n 0, 1) := by decide +kernel
theorem dX11_takeSong_45 : decode cX11_takeSong 45 = .ok (.getfield 124, 3) := by decide +kernel
theorem dX11_takeSong_48 : decode cX11_takeSong 48 = .ok (.invokevirtual 153, 3) := by decide +kernel
theorem dX11_takeSong_51 : decode cX11_takeSong 51 = .ok (.ireturn, 1) := by decide +kernel
theorem dX11_takeSong_52 : decode cX11_takeSong 52 = .ok (.aload_n 0, 1) := by decide +kernel
theorem dX11_takeSong_53 : decode cX11_takeSong 53 = .ok (.aload_n 0, 1) := by decide +kernel
theorem dX11_takeSong_54 : decode cX11_takeSong 54 = .ok (.getfield 134, 3) := by decide +kernel
theorem dX11_takeSong_57 : decode cX11_takeSong 57 = .ok (.putfield 124, 3) := by decide +kernel
theorem dX11_takeSong_60 : decode cX11_takeSong 60 = .ok (.iconst 3, 1) := by decide +kernel
theorem dX11_takeSong_61 : decode cX11_takeSong 61 = .ok (.aload_n 0, 1) := by decide +kernel
theorem dX11_takeSong_62 : decode cX11_takeSong 62 = .ok (.getfield 230, 3) := by decide +kernel
theorem dX11_takeSong_65 : decode cX11_takeSong 65 = .ok (.imul, 1) := by decide +kernel
theorem dX11_takeSong_66 : decode cX11_takeSong 66 = .ok (.istore_n 1, 1) := by decide +kernel
theorem dX11_takeSong_67 : decode cX11_takeSong 67 = .ok (.aload_n 0, 1) := by decide +kernel
theorem dX11_takeSong_68 : decode cX11_takeSong 68 = .ok (.aload_n 0, 1) := by decide +kernel
theorem dX11_takeSong_69 : decode cX11_takeSong 69 = .ok (.getfield 56, 3) := by decide +kernel
theorem dX11_takeSong_72 : decode cX11_takeSong 72 = .ok (.iload_n 1, 1) := by decide +kernel
theorem dX11_takeSong_73 : decode cX11_takeSong 73 = .ok (.iconst 0, 1) := by decide +kernel
theorem dX11_takeSong_74 : decode cX11_takeSong 74 = .ok (.sipush 599, 3) := by decide +kernel
theorem dX11_takeSong_77 : decode cX11_takeSong 77 = .ok (.invokevirtual 169, 3) := by decide +kernel
theorem dX11_takeSong_80 : decode cX11_takeSong 80 = .ok (.istore_n 2, 1) := by decide +kernel
theorem dX11_takeSong_81 : decode cX11_takeSong 81 = .ok (.iload_n 2, 1) := by decide +kernel
theorem dX11_takeSong_82 : decode cX11_takeSong 82 = .ok (.ifCond .ne 37, 3) := by decide +kernel
theorem dX11_takeSong_85 : decode cX11_takeSong 85 = .ok (.aload_n 0, 1) := by decide +kernel
theorem dX11_takeSong_86 : decode cX11_takeSong 86 = .ok (.getfield 230, 3) := by decide +kernel
theorem dX11_takeSong_89 : decode cX11_takeSong 89 = .ok (.ifCond .le 30, 3) := by decide +kernel
theorem dX11_takeSong_92 : decode cX11_takeSong 92 = .ok (.aload_n 0, 1) := by decide +kernel
theorem dX11_takeSong_93 : decode cX11_takeSong 93 = .ok (.getfield 160, 3) := by decide +kernel
theorem dX11_takeSong_96 : decode cX11_takeSong 96 = .ok (.aload_n 0, 1) := by decide +kernel
theorem dX11_takeSong_97 : decode cX11_takeSong 97 = .ok (.getfield 56, 3) := by decide +kernel
theorem dX11_takeSong_100 : decode cX11_takeSong 100 = .ok (.iload_n 1, 1) := by decide +kernel
theorem dX11_takeSong_101 : decode cX11_takeSong 101 = .ok (.iconst 3, 1) := by decide +kernel
theorem dX11_takeSong_102 : decode cX11_takeSong 102 = .ok (.isub, 1) := by decide +kernel
theorem dX11_takeSong_103 : decode cX11_takeSong 103 = .ok (.iaload, 1) := by decide +kernel
theorem dX11_takeSong_104 : decode cX11_takeSong 104 = .ok (.if_icmp .ge 15, 3) := by decide +kernel
theorem dX11_takeSong_107 : decode cX11_takeSong 107 = .ok (.aload_n 0, 1) := by decide +kernel
theorem dX11_takeSong_108 : decode cX11_takeSong 108 = .ok (.iconst 4, 1) := by decide +kernel
theorem dX11_takeSong_109 : decode cX11_takeSong 109 = .ok (.aload_n 0, 1) := by decide +kernel
theorem dX11_takeSong_110 : decode cX11_takeSong 110 = .ok (.getfield 157, 3) := by decide +kernel
theorem dX11_takeSong_113 : decode cX11_takeSong 113 = .ok (.invokevirtual 153, 3) := by decide +kernel
theorem dX11_takeSong_116 : decode cX11_takeSong 116 = .ok (.goto 4, 3) := by decide +kernel
theorem dX11_takeSong_119 : decode cX11_takeSong 119 = .ok (.iload_n 2, 1) := by decide +kernel
theorem dX11_takeSong_120 : decode cX11_takeSong 120 = .ok (.istore_n 2, 1) := by decide +kernel
theorem dX11_takeSong_121 : decode cX11_takeSong 121 = .ok (.iload_n 2, 1) := by decide +kernel
theorem dX11_takeSong_122 : decode cX11_takeSong 122 = .ok (.ifCond .le 7, 3) := by decide +kernel
theorem dX11_takeSong_125 : decode cX11_takeSong 125 = .ok (.iload_n 2, 1) := by decide +kernel
theorem dX11_takeSong_126 : decode cX11_takeSong 126 = .ok (.goto 21, 3) := by decide +kernel
theorem dX11_takeSong_129 : decode cX11_takeSong 129 = .ok (.aload_n 0, 1) := by decide +kernel
theorem dX11_takeSong_130 : decode cX11_takeSong 130 = .ok (.aload_n 0, 1) := by decide +kernel
theorem dX11_takeSong_131 : decode cX11_takeSong 131 = .ok (.getfield 56, 3) := by decide +kernel
theorem dX11_takeSong_134 : decode cX11_takeSong 134 = .ok (.iload_n 1, 1) := by decide +kernel
theorem dX11_takeSong_135 : decode cX11_takeSong 135 = .ok (.iconst 1, 1) := by decide +kernel
theorem dX11_takeSong_136 : decode cX11_takeSong 136 = .ok (.iadd, 1) := by decide +kernel
theorem dX11_takeSong_137 : decode cX11_takeSong 137 = .ok (.iconst 0, 1) := by decide +kernel
theorem dX11_takeSong_138 : decode cX11_takeSong 138 = .ok (.aload_n 0, 1) := by decide +kernel
theorem dX11_takeSong_139 : decode cX11_takeSong 139 = .ok (.getfield 206, 3) := by decide +kernel
theorem dX11_takeSong_142 : decode cX11_takeSong 142 = .ok (.iconst 1, 1) := by decide +kernel
theorem dX11_takeSong_143 : decode cX11_takeSong 143 = .ok (.isub, 1) := by decide +kernel
theorem dX11_takeSong_144 : decode cX11_takeSong 144 = .ok (.invokevirtual 169, 3) := by decide +kernel
theorem dX11_takeSong_147 : decode cX11_takeSong 147 = .ok (.istore_n 2, 1) := by decide +kernel
theorem dX11_takeSong_148 : decode cX11_takeSong 148 = .ok (.iload_n 2, 1) := by decide +kernel
theorem dX11_takeSong_149 : decode cX11_takeSong 149 = .ok (.ifCond .le 5, 3) := by decide +kernel
theorem dX11_takeSong_152 : decode cX11_takeSong 152 = .ok (.iload_n 2, 1) := by decide +kernel
theorem dX11_takeSong_153 : decode cX11_takeSong 153 = .ok (.ireturn, 1) := by decide +kernel
theorem dX11_takeSong_154 : decode cX11_takeSong 154 = .ok (.aload_n 0, 1) := by decide +kernel
theorem dX11_takeSong_155 : decode cX11_takeSong 155 = .ok (.aload_n 0, 1) := by decide +kernel
theorem dX11_takeSong_156 : decode cX11_takeSong 156 = .ok (.getfield 56, 3) := by decide +kernel
theorem dX11_takeSong_159 : decode cX11_takeSong 159 = .ok (.iload_n 1, 1) := by decide +kernel
theorem dX11_takeSong_160 : decode cX11_takeSong 160 = .ok (.iconst 2, 1) := by decide +kernel
theorem dX11_takeSong_161 : decode cX11_takeSong 161 = .ok (.iadd, 1) := by decide +kernel
theorem dX11_takeSong_162 : decode cX11_takeSong 162 = .ok (.aload_n 0, 1) := by decide +kernel
theorem dX11_takeSong_163 : decode cX11_takeSong 163 = .ok (.getfield 32, 3) := by decide +kernel
theorem dX11_takeSong_166 : decode cX11_takeSong 166 = .ok (.iconst 4, 1) := by decide +kernel
theorem dX11_takeSong_167 : decode cX11_takeSong 167 = .ok (.aload_n 0, 1) := by decide +kernel
theorem dX11_takeSong_168 : decode cX11_takeSong 168 = .ok (.getfield 56, 3) := by decide +kernel
theorem dX11_takeSong_171 : decode cX11_takeSong 171 = .ok (.iload_n 1, 1) := by decide +kernel
theorem dX11_takeSong_172 : decode cX11_takeSong 172 = .ok (.iconst 1, 1) := by decide +kernel
theorem dX11_takeSong_173 : decode cX11_takeSong 173 = .ok (.iadd, 1) := by decide +kernel
theorem dX11_takeSong_174 : decode cX11_takeSong 174 = .ok (.iaload, 1) := by decide +kernel
theorem dX11_takeSong_175 : decode cX11_takeSong 175 = .ok (.imul, 1) := by decide +kernel
theorem dX11_takeSong_176 : decode cX11_takeSong 176 = .ok (.iconst 2, 1) := by decide +kernel
theorem dX11_takeSong_177 : decode cX11_takeSong 177 = .ok (.iadd, 1) := by decide +kernel
theorem dX11_takeSong_178 : decode cX11_takeSong 178 = .ok (.iaload, 1) := by decide +kernel
theorem dX11_takeSong_179 : decode cX11_takeSong 179 = .ok (.aload_n 0, 1) := by decide +kernel
theorem dX11_takeSong_180 : decode cX11_takeSong 180 = .ok (.getfield 32, 3) := by decide +kernel
theorem dX11_takeSong_183 : decode cX11_takeSong 183 = .ok (.iconst 4, 1) := by decide +kernel
theorem dX11_takeSong_184 : decode cX11_takeSong 184 = .ok (.aload_n 0, 1) := by decide +kernel
theorem dX11_takeSong_185 : decode cX11_takeSong 185 = .ok (.getfield 56, 3) := by decide +kernel
theorem dX11_takeSong_188 : decode cX11_takeSong 188 = .ok (.iload_n 1, 1) := by decide +kernel
theorem dX11_takeSong_189 : decode cX11_takeSong 189 = .ok (.iconst 1, 1) := by decide +kernel
theorem dX11_takeSong_190 : decode cX11_takeSong 190 = .ok (.iadd, 1) := by decide +kernel
theorem dX11_takeSong_191 : decode cX11_takeSong 191 = .ok (.iaload, 1) := by decide +kernel
theorem dX11_takeSong_192 : decode cX11_takeSong 192 = .ok (.imul, 1) := by decide +kernel
theorem dX11_takeSong_193 : decode cX11_takeSong 193 = .ok (.iconst 3, 1) := by decide +kernel
theorem dX11_takeSong_194 : decode cX11_takeSong 194 = .ok (.iadd, 1) := by decide +kernel
theorem dX11_takeSong_195 : decode cX11_takeSong 195 = .ok (.iaload, 1) := by decide +kernel
theorem dX11_takeSong_196 : decode cX11_takeSong 196 = .ok (.invokevirtual 169, 3) := by decide +kernel
theorem dX11_takeSong_199 : decode cX11_takeSong 199 = .ok (.istore_n 2, 1) := by decide +kernel
theorem dX11_takeSong_200 : decode cX11_takeSong 200 = .ok (.aload_n 0, 1) := by decide +kernel
theorem dX11_takeSong_201 : decode cX11_takeSong 201 = .ok (.dup, 1) := by decide +kernel
theorem dX11_takeSong_202 : decode cX11_takeSong 202 = .ok (.getfield 230, 3) := by decide +kernel
theorem dX11_takeSong_205 : decode cX11_takeSong 205 = .ok (.iconst 1, 1) := by decide +kernel
theorem dX11_takeSong_206 : decode cX11_takeSong 206 = .ok (.iadd, 1) := by decide +kernel
theorem dX11_takeSong_207 : decode cX11_takeSong 207 = .ok (.putfield 230, 3) := by decide +kernel
theorem dX11_takeSong_210 : decode cX11_takeSong 210 = .ok (.iload_n 2, 1) := by decide +kernel
theorem dX11_takeSong_211 : decode cX11_takeSong 211 = .ok (.ifCond .le 7, 3) := by decide +kernel
theorem dX11_takeSong_214 : decode cX11_takeSong 214 = .ok (.iload_n 2, 1) := by decide +kernel
theorem dX11_takeSong_215 : decode cX11_takeSong 215 = .ok (.goto 7, 3) := by decide +kernel
theorem dX11_takeSong_218 : decode cX11_takeSong 218 = .ok (.aload_n 0, 1) := by decide +kernel
theorem dX11_takeSong_219 : decode cX11_takeSong 219 = .ok (.invokevirtual 200, 3) := by decide +kernel
theorem dX11_takeSong_222 : decode cX11_takeSong 222 = .ok (.ireturn, 1) := by decide +kernel
theorem dX11_night_0 : decode cX11_night 0 = .ok (.aload_n 0, 1) := by decide +kernel
theorem dX11_night_1 : decode cX11_night 1 = .ok (.iconst (-1), 1) := by decide +kernel
theorem dX11_night_2 : decode cX11_night 2 = .ok (.putfield 44, 3) := by decide +kernel
theorem dX11_night_5 : decode cX11_night 5 = .ok (.aload_n 0, 1) := by decide +kernel
theorem dX11_night_6 : decode cX11_night 6 = .ok (.iconst 0, 1) := by decide +kernel
theorem dX11_night_7 : decode cX11_night 7 = .ok (.putfield 124, 3) := by decide +kernel
theorem dX11_night_10 : decode cX11_night 10 = .ok (.aload_n 0, 1) := by decide +kernel
theorem dX11_night_11 : decode cX11_night 11 = .ok (.iconst 0, 1) := by decide +kernel
theorem dX11_night_12 : decode cX11_night 12 = .ok (.putfield 230, 3) := by decide +kernel
theorem dX11_night_15 : decode cX11_night 15 = .ok (.iconst 0, 1) := by decide +kernel
theorem dX11_night_16 : decode cX11_night 16 = .ok (.istore_n 1, 1) := by decide +kernel
theorem dX11_night_17 : decode cX11_night 17 = .ok (.iload_n 1, 1) := by decide +kernel
theorem dX11_night_18 : decode cX11_night 18 = .ok (.ifCond .ne 18, 3) := by decide +kernel
theorem dX11_night_21 : decode cX11_night 21 = .ok (.aload_n 0, 1) := by decide +kernel
theorem dX11_night_22 : decode cX11_night 22 = .ok (.invokevirtual 127, 3) := by decide +kernel
theorem dX11_night_25 : decode cX11_night 25 = .ok (.ifCond .lt 11, 3) := by decide +kernel
theorem dX11_night_28 : decode cX11_night 28 = .ok (.aload_n 0, 1) := by decide +kernel
theorem dX11_night_29 : decode cX11_night 29 = .ok (.invokevirtual 233, 3) := by decide +kernel
theorem dX11_night_32 : decode cX11_night 32 = .ok (.istore_n 1, 1) := by decide +kernel
theorem dX11_night_33 : decode cX11_night 33 = .ok (.goto (-16), 3) := by decide +kernel
theorem dX11_night_36 : decode cX11_night 36 = .ok (.aload_n 0, 1) := by decide +kernel
theorem dX11_night_37 : decode cX11_night 37 = .ok (.iconst 0, 1) := by decide +kernel
theorem dX11_night_38 : decode cX11_night 38 = .ok (.putfield 119, 3) := by decide +kernel
theorem dX11_night_41 : decode cX11_night 41 = .ok (.iload_n 1, 1) := by decide +kernel
theorem dX11_night_42 : decode cX11_night 42 = .ok (.ifCond .le 8, 3) := by decide +kernel
theorem dX11_night_45 : decode cX11_night 45 = .ok (.bipush (-10), 2) := by decide +kernel
theorem dX11_night_47 : decode cX11_night 47 = .ok (.iload_n 1, 1) := by decide +kernel
theorem dX11_night_48 : decode cX11_night 48 = .ok (.isub, 1) := by decide +kernel
theorem dX11_night_49 : decode cX11_night 49 = .ok (.ireturn, 1) := by decide +kernel
theorem dX11_night_50 : decode cX11_night 50 = .ok (.aload_n 0, 1) := by decide +kernel
theorem dX11_night_51 : decode cX11_night 51 = .ok (.aload_n 0, 1) := by decide +kernel
theorem dX11_night_52 : decode cX11_night 52 = .ok (.getfield 230, 3) := by decide +kernel
theorem dX11_night_55 : decode cX11_night 55 = .ok (.putfield 209, 3) := by decide +kernel
theorem dX11_night_58 : decode cX11_night 58 = .ok (.iconst 0, 1) := by decide +kernel
theorem dX11_night_59 : decode cX11_night 59 = .ok (.istore_n 2, 1) := by decide +kernel
theorem dX11_night_60 : decode cX11_night 60 = .ok (.iload_n 2, 1) := by decide +kernel
theorem dX11_night_61 : decode cX11_night 61 = .ok (.bipush 90, 2) := by decide +kernel
theorem dX11_night_63 : decode cX11_night 63 = .ok (.if_icmp .ge 21, 3) := by decide +kernel
theorem dX11_night_66 : decode cX11_night 66 = .ok (.aload_n 0, 1) := by decide +kernel
theorem dX11_night_67 : decode cX11_night 67 = .ok (.getfield 35, 3) := by decide +kernel
theorem dX11_night_70 : decode cX11_night 70 = .ok (.iload_n 2, 1) := by decide +kernel
theorem dX11_night_71 : decode cX11_night 71 = .ok (.aload_n 0, 1) := by decide +kernel
theorem dX11_night_72 : decode cX11_night 72 = .ok (.getfield 56, 3) := by decide +kernel
theorem dX11_night_75 : decode cX11_night 75 = .ok (.iload_n 2, 1) := by decide +kernel
theorem dX11_night_76 : decode cX11_night 76 = .ok (.iaload, 1) := by decide +kernel
theorem dX11_night_77 : decode cX11_night 77 = .ok (.iastore, 1) := by decide +kernel
theorem dX11_night_78 : decode cX11_night 78 = .ok (.iinc 2 1, 3) := by decide +kernel
theorem dX11_night_81 : decode cX11_night 81 = .ok (.goto (-21), 3) := by decide +kernel
theorem dX11_night_84 : decode cX11_night 84 = .ok (.aload_n 0, 1) := by decide +kernel
theorem dX11_night_85 : decode cX11_night 85 = .ok (.getfield 209, 3) := by decide +kernel
theorem dX11_night_88 : decode cX11_night 88 = .ok (.ireturn, 1) := by decide +kernel
theorem dX11_takeDay_0 : decode cX11_takeDay 0 = .ok (.aload_n 0, 1) := by decide +kernel
theorem dX11_takeDay_1 : decode cX11_takeDay 1 = .ok (.invokevirtual 176, 3) := by decide +kernel
theorem dX11_takeDay_4 : decode cX11_takeDay 4 = .ok (.aload_n 0, 1) := by decide +kernel
theorem dX11_takeDay_5 : decode cX11_takeDay 5 = .ok (.getfield 130, 3) := by decide +kernel
theorem dX11_takeDay_8 : decode cX11_takeDay 8 = .ok (.bipush 102, 2) := by decide +kernel
theorem dX11_takeDay_10 : decode cX11_takeDay 10 = .ok (.bipush 114, 2) := by decide +kernel
theorem dX11_takeDay_12 : decode cX11_takeDay 12 = .ok (.bipush 111, 2) := by decide +kernel
theorem dX11_takeDay_14 : decode cX11_takeDay 14 = .ok (.bipush 115, 2) := by decide +kernel
theorem dX11_takeDay_16 : decode cX11_takeDay 16 = .ok (.invokestatic 179, 3) := by decide +kernel
theorem dX11_takeDay_19 : decode cX11_takeDay 19 = .ok (.bipush 116, 2) := by decide +kernel
theorem dX11_takeDay_21 : decode cX11_takeDay 21 = .ok (.invokestatic 183, 3) := by decide +kernel
theorem dX11_takeDay_24 : decode cX11_takeDay 24 = .ok (.lcmp, 1) := by decide +kernel
theorem dX11_takeDay_25 : decode cX11_takeDay 25 = .ok (.ifCond .eq 13, 3) := by decide +kernel
theorem dX11_takeDay_28 : decode cX11_takeDay 28 = .ok (.aload_n 0, 1) := by decide +kernel
theorem dX11_takeDay_29 : decode cX11_takeDay 29 = .ok (.iconst 1, 1) := by decide +kernel
theorem dX11_takeDay_30 : decode cX11_takeDay 30 = .ok (.aload_n 0, 1) := by decide +kernel
theorem dX11_takeDay_31 : decode cX11_takeDay 31 = .ok (.getfield 124, 3) := by decide +kernel
theorem dX11_takeDay_34 : decode cX11_takeDay 34 = .ok (.invokevirtual 153, 3) := by decide +kernel
theorem dX11_takeDay_37 : decode cX11_takeDay 37 = .ok (.ireturn, 1) := by decide +kernel
theorem dX11_takeDay_38 : decode cX11_takeDay 38 = .ok (.aload_n 0, 1) := by decide +kernel
theorem dX11_takeDay_39 : decode cX11_takeDay 39 = .ok (.getfield 230, 3) := by decide +kernel
theorem dX11_takeDay_42 : decode cX11_takeDay 42 = .ok (.bipush 30, 2) := by decide +kernel
theorem dX11_takeDay_44 : decode cX11_takeDay 44 = .ok (.if_icmp .ne 13, 3) := by decide +kernel
theorem dX11_takeDay_47 : decode cX11_takeDay 47 = .ok (.aload_n 0, 1) := by decide +kernel
theorem dX11_takeDay_48 : decode cX11_takeDay 48 = .ok (.iconst 3, 1) := by decide +kernel
theorem dX11_takeDay_49 : decode cX11_takeDay 49 = .ok (.aload_n 0, 1) := by decide +kernel
theorem dX11_takeDay_50 : decode cX11_takeDay 50 = .ok (.getfield 124, 3) := by decide +kernel
theorem dX11_takeDay_53 : decode cX11_takeDay 53 = .ok (.invokevirtual 153, 3) := by decide +kernel
theorem dX11_takeDay_56 : decode cX11_takeDay 56 = .ok (.ireturn, 1) := by decide +kernel
theorem dX11_takeDay_57 : decode cX11_takeDay 57 = .ok (.aload_n 0, 1) := by decide +kernel
theorem dX11_takeDay_58 : decode cX11_takeDay 58 = .ok (.aload_n 0, 1) := by decide +kernel
theorem dX11_takeDay_59 : decode cX11_takeDay 59 = .ok (.getfield 134, 3) := by decide +kernel
theorem dX11_takeDay_62 : decode cX11_takeDay 62 = .ok (.putfield 124, 3) := by decide +kernel
theorem dX11_takeDay_65 : decode cX11_takeDay 65 = .ok (.aload_n 0, 1) := by decide +kernel
theorem dX11_takeDay_66 : decode cX11_takeDay 66 = .ok (.aload_n 0, 1) := by decide +kernel
theorem dX11_takeDay_67 : decode cX11_takeDay 67 = .ok (.getfield 56, 3) := by decide +kernel
theorem dX11_takeDay_70 : decode cX11_takeDay 70 = .ok (.aload_n 0, 1) := by decide +kernel
theorem dX11_takeDay_71 : decode cX11_takeDay 71 = .ok (.getfield 230, 3) := by decide +kernel
theorem dX11_takeDay_74 : decode cX11_takeDay 74 = .ok (.iconst 0, 1) := by decide +kernel
theorem dX11_takeDay_75 : decode cX11_takeDay 75 = .ok (.bipush 9, 2) := by decide +kernel
theorem dX11_takeDay_77 : decode cX11_takeDay 77 = .ok (.invokevirtual 169, 3) := by decide +kernel
theorem dX11_takeDay_80 : decode cX11_takeDay 80 = .ok (.istore_n 1, 1) := by decide +kernel
theorem dX11_takeDay_81 : decode cX11_takeDay 81 = .ok (.aload_n 0, 1) := by decide +kernel
theorem dX11_takeDay_82 : decode cX11_takeDay 82 = .ok (.dup, 1) := by decide +kernel
theorem dX11_takeDay_83 : decode cX11_takeDay 83 = .ok (.getfield 230, 3) := by decide +kernel
theorem dX11_takeDay_86 : decode cX11_takeDay 86 = .ok (.iconst 1, 1) := by decide +kernel
theorem dX11_takeDay_87 : decode cX11_takeDay 87 = .ok (.iadd, 1) := by decide +kernel
theorem dX11_takeDay_88 : decode cX11_takeDay 88 = .ok (.putfield 230, 3) := by decide +kernel
theorem dX11_takeDay_91 : decode cX11_takeDay 91 = .ok (.iload_n 1, 1) := by decide +kernel
theorem dX11_takeDay_92 : decode cX11_takeDay 92 = .ok (.ifCond .le 7, 3) := by decide +kernel
theorem dX11_takeDay_95 : decode cX11_takeDay 95 = .ok (.iload_n 1, 1) := by decide +kernel
theorem dX11_takeDay_96 : decode cX11_takeDay 96 = .ok (.goto 7, 3) := by decide +kernel
theorem dX11_takeDay_99 : decode cX11_takeDay 99 = .ok (.aload_n 0, 1) := by decide +kernel
theorem dX11_takeDay_100 : decode cX11_takeDay 100 = .ok (.invokevirtual 200, 3) := by decide +kernel
theorem dX11_takeDay_103 : decode cX11_takeDay 103 = .ok (.ireturn, 1) := by decide +kernel
theorem dX11_month_0 : decode cX11_month 0 = .ok (.aload_n 0, 1) := by decide +kernel
theorem dX11_month_1 : decode cX11_month 1 = .ok (.getfield 119, 3) := by decide +kernel
theorem dX11_month_4 : decode cX11_month 4 = .ok (.sipush 200, 3) := by decide +kernel
theorem dX11_month_7 : decode cX11_month 7 = .ok (.if_icmp .le 7, 3) := by decide +kernel
theorem dX11_month_10 : decode cX11_month 10 = .ok (.sipush (-1003), 3) := by decide +kernel
theorem dX11_month_13 : decode cX11_month 13 = .ok (.ireturn, 1) := by decide +kernel
theorem dX11_month_14 : decode cX11_month 14 = .ok (.aload_n 0, 1) := by decide +kernel
theorem dX11_month_15 : decode cX11_month 15 = .ok (.iconst (-1), 1) := by decide +kernel
theorem dX11_month_16 : decode cX11_month 16 = .ok (.putfield 44, 3) := by decide +kernel
theorem dX11_month_19 : decode cX11_month 19 = .ok (.aload_n 0, 1) := by decide +kernel
theorem dX11_month_20 : decode cX11_month 20 = .ok (.iconst 0, 1) := by decide +kernel
theorem dX11_month_21 : decode cX11_month 21 = .ok (.putfield 124, 3) := by decide +kernel
theorem dX11_month_24 : decode cX11_month 24 = .ok (.aload_n 0, 1) := by decide +kernel
theorem dX11_month_25 : decode cX11_month 25 = .ok (.iconst 0, 1) := by decide +kernel
theorem dX11_month_26 : decode cX11_month 26 = .ok (.putfield 230, 3) := by decide +kernel
theorem dX11_month_29 : decode cX11_month 29 = .ok (.iconst 0, 1) := by decide +kernel
theorem dX11_month_30 : decode cX11_month 30 = .ok (.istore_n 1, 1) := by decide +kernel
theorem dX11_month_31 : decode cX11_month 31 = .ok (.iload_n 1, 1) := by decide +kernel
theorem dX11_month_32 : decode cX11_month 32 = .ok (.ifCond .ne 18, 3) := by decide +kernel
theorem dX11_month_35 : decode cX11_month 35 = .ok (.aload_n 0, 1) := by decide +kernel
theorem dX11_month_36 : decode cX11_month 36 = .ok (.invokevirtual 127, 3) := by decide +kernel
theorem dX11_month_39 : decode cX11_month 39 = .ok (.ifCond .lt 11, 3) := by decide +kernel
theorem dX11_month_42 : decode cX11_month 42 = .ok (.aload_n 0, 1) := by decide +kernel
theorem dX11_month_43 : decode cX11_month 43 = .ok (.invokevirtual 236, 3) := by decide +kernel
theorem dX11_month_46 : decode cX11_month 46 = .ok (.istore_n 1, 1) := by decide +kernel
theorem dX11_month_47 : decode cX11_month 47 = .ok (.goto (-16), 3) := by decide +kernel
theorem dX11_month_50 : decode cX11_month 50 = .ok (.aload_n 0, 1) := by decide +kernel
theorem dX11_month_51 : decode cX11_month 51 = .ok (.iconst 0, 1) := by decide +kernel
theorem dX11_month_52 : decode cX11_month 52 = .ok (.putfield 119, 3) := by decide +kernel
theorem dX11_month_55 : decode cX11_month 55 = .ok (.iload_n 1, 1) := by decide +kernel
theorem dX11_month_56 : decode cX11_month 56 = .ok (.ifCond .le 8, 3) := by decide +kernel
theorem dX11_month_59 : decode cX11_month 59 = .ok (.bipush (-10), 2) := by decide +kernel
theorem dX11_month_61 : decode cX11_month 61 = .ok (.iload_n 1, 1) := by decide +kernel
theorem dX11_month_62 : decode cX11_month 62 = .ok (.isub, 1) := by decide +kernel
theorem dX11_month_63 : decode cX11_month 63 = .ok (.ireturn, 1) := by decide +kernel
theorem dX11_month_64 : decode cX11_month 64 = .ok (.aload_n 0, 1) := by decide +kernel
theorem dX11_month_65 : decode cX11_month 65 = .ok (.aload_n 0, 1) := by decide +kernel
theorem dX11_month_66 : decode cX11_month 66 = .ok (.getfield 230, 3) := by decide +kernel
theorem dX11_month_69 : decode cX11_month 69 = .ok (.putfield 239, 3) := by decide +kernel
theorem dX11_month_72 : decode cX11_month 72 = .ok (.iconst 0, 1) := by decide +kernel
theorem dX11_month_73 : decode cX11_month 73 = .ok (.istore_n 2, 1) := by decide +kernel
theorem dX11_month_74 : decode cX11_month 74 = .ok (.iload_n 2, 1) := by decide +kernel
theorem dX11_month_75 : decode cX11_month 75 = .ok (.bipush 30, 2) := by decide +kernel
theorem dX11_month_77 : decode cX11_month 77 = .ok (.if_icmp .ge 21, 3) := by decide +kernel
theorem dX11_month_80 : decode cX11_month 80 = .ok (.aload_n 0, 1) := by decide +kernel
theorem dX11_month_81 : decode cX11_month 81 = .ok (.getfield 38, 3) := by decide +kernel
theorem dX11_month_84 : decode cX11_month 84 = .ok (.iload_n 2, 1) := by decide +kernel
theorem dX11_month_85 : decode cX11_month 85 = .ok (.aload_n 0, 1) := by decide +kernel
theorem dX11_month_86 : decode cX11_month 86 = .ok (.getfield 56, 3) := by decide +kernel
theorem dX11_month_89 : decode cX11_month 89 = .ok (.iload_n 2, 1) := by decide +kernel
theorem dX11_month_90 : decode cX11_month 90 = .ok (.iaload, 1) := by decide +kernel
theorem dX11_month_91 : decode cX11_month 91 = .ok (.iastore, 1) := by decide +kernel
theorem dX11_month_92 : decode cX11_month 92 = .ok (.iinc 2 1, 3) := by decide +kernel
theorem dX11_month_95 : decode cX11_month 95 = .ok (.goto (-21), 3) := by decide +kernel
theorem dX11_month_98 : decode cX11_month 98 = .ok (.aload_n 0, 1) := by decide +kernel
theorem dX11_month_99 : decode cX11_month 99 = .ok (.getfield 239, 3) := by decide +kernel
theorem dX11_month_102 : decode cX11_month 102 = .ok (.ireturn, 1) := by decide +kernel
theorem dX11_fault_0 : decode cX11_fault 0 = .ok (.aload_n 0, 1) := by decide +kernel
theorem dX11_fault_1 : decode cX11_fault 1 = .ok (.getfield 44, 3) := by decide +kernel
theorem dX11_fault_4 : decode cX11_fault 4 = .ok (.ireturn, 1) := by decide +kernel
theorem dX11_told_0 : decode cX11_told 0 = .ok (.iload_n 1, 1) := by decide +kernel
theorem dX11_told_1 : decode cX11_told 1 = .ok (.tableswitch 132 0 12 #[67, 72, 77, 82, 87, 92, 97, 102, 107, 112, 117, 122, 127], 67) := by decide +kernel
theorem dX11_told_68 : decode cX11_told 68 = .ok (.aload_n 0, 1) := by decide +kernel
theorem dX11_told_69 : decode cX11_told 69 = .ok (.getfield 104, 3) := by decide +kernel
theorem dX11_told_72 : decode cX11_told 72 = .ok (.ireturn, 1) := by decide +kernel
theorem dX11_told_73 : decode cX11_told 73 = .ok (.aload_n 0, 1) := by decide +kernel
theorem dX11_told_74 : decode cX11_told 74 = .ok (.getfield 206, 3) := by decide +kernel
theorem dX11_told_77 : decode cX11_told 77 = .ok (.ireturn, 1) := by decide +kernel
theorem dX11_told_78 : decode cX11_told 78 = .ok (.aload_n 0, 1) := by decide +kernel
theorem dX11_told_79 : decode cX11_told 79 = .ok (.getfield 209, 3) := by decide +kernel
theorem dX11_told_82 : decode cX11_told 82 = .ok (.ireturn, 1) := by decide +kernel
theorem dX11_told_83 : decode cX11_told 83 = .ok (.aload_n 0, 1) := by decide +kernel
theorem dX11_told_84 : decode cX11_told 84 = .ok (.getfield 239, 3) := by decide +kernel
theorem dX11_told_87 : decode cX11_told 87 = .ok (.ireturn, 1) := by decide +kernel
theorem dX11_told_88 : decode cX11_told 88 = .ok (.aload_n 0, 1) := by decide +kernel
theorem dX11_told_89 : decode cX11_told 89 = .ok (.getfield 212, 3) := by decide +kernel
theorem dX11_told_92 : decode cX11_told 92 = .ok (.ireturn, 1) := by decide +kernel
theorem dX11_told_93 : decode cX11_told 93 = .ok (.aload_n 0, 1) := by decide +kernel
theorem dX11_told_94 : decode cX11_told 94 = .ok (.getfield 215, 3) := by decide +kernel
theorem dX11_told_97 : decode cX11_told 97 = .ok (.ireturn, 1) := by decide +kernel
theorem dX11_told_98 : decode cX11_told 98 = .ok (.aload_n 0, 1) := by decide +kernel
theorem dX11_told_99 : decode cX11_told 99 = .ok (.getfield 119, 3) := by decide +kernel
theorem dX11_told_102 : decode cX11_told 102 = .ok (.ireturn, 1) := by decide +kernel
theorem dX11_told_103 : decode cX11_told 103 = .ok (.aload_n 0, 1) := by decide +kernel
theorem dX11_told_104 : decode cX11_told 104 = .ok (.getfield 22, 3) := by decide +kernel
theorem dX11_told_107 : decode cX11_told 107 = .ok (.ireturn, 1) := by decide +kernel
theorem dX11_told_108 : decode cX11_told 108 = .ok (.aload_n 0, 1) := by decide +kernel
theorem dX11_told_109 : decode cX11_told 109 = .ok (.getfield 26, 3) := by decide +kernel
theorem dX11_told_112 : decode cX11_told 112 = .ok (.ireturn, 1) := by decide +kernel
theorem dX11_told_113 : decode cX11_told 113 = .ok (.aload_n 0, 1) := by decide +kernel
theorem dX11_told_114 : decode cX11_told 114 = .ok (.getfield 29, 3) := by decide +kernel
theorem dX11_told_117 : decode cX11_told 117 = .ok (.ireturn, 1) := by decide +kernel
theorem dX11_told_118 : decode cX11_told 118 = .ok (.aload_n 0, 1) := by decide +kernel
theorem dX11_told_119 : decode cX11_told 119 = .ok (.getfield 227, 3) := by decide +kernel
theorem dX11_told_122 : decode cX11_told 122 = .ok (.ireturn, 1) := by decide +kernel
theorem dX11_told_123 : decode cX11_told 123 = .ok (.aload_n 0, 1) := by decide +kernel
theorem dX11_told_124 : decode cX11_told 124 = .ok (.getfield 218, 3) := by decide +kernel
theorem dX11_told_127 : decode cX11_told 127 = .ok (.ireturn, 1) := by decide +kernel
theorem dX11_told_128 : decode cX11_told 128 = .ok (.aload_n 0, 1) := by decide +kernel
theorem dX11_told_129 : decode cX11_told 129 = .ok (.getfield 221, 3) := by decide +kernel
theorem dX11_told_132 : decode cX11_told 132 = .ok (.ireturn, 1) := by decide +kernel
theorem dX11_told_133 : decode cX11_told 133 = .ok (.sipush (-1002), 3) := by decide +kernel
theorem dX11_told_136 : decode cX11_told 136 = .ok (.ireturn, 1) := by decide +kernel
theorem dX11_earOf_0 : decode cX11_earOf 0 = .ok (.aload_n 0, 1) := by decide +kernel
theorem dX11_earOf_1 : decode cX11_earOf 1 = .ok (.getfield 7, 3) := by decide +kernel
theorem dX11_earOf_4 : decode cX11_earOf 4 = .ok (.iconst 4, 1) := by decide +kernel
theorem dX11_earOf_5 : decode cX11_earOf 5 = .ok (.iload_n 1, 1) := by decide +kernel
theorem dX11_earOf_6 : decode cX11_earOf 6 = .ok (.imul, 1) := by decide +kernel
theorem dX11_earOf_7 : decode cX11_earOf 7 = .ok (.iconst 1, 1) := by decide +kernel
theorem dX11_earOf_8 : decode cX11_earOf 8 = .ok (.iadd, 1) := by decide +kernel
theorem dX11_earOf_9 : decode cX11_earOf 9 = .ok (.iaload, 1) := by decide +kernel
theorem dX11_earOf_10 : decode cX11_earOf 10 = .ok (.aload_n 0, 1) := by decide +kernel
theorem dX11_earOf_11 : decode cX11_earOf 11 = .ok (.getfield 7, 3) := by decide +kernel
theorem dX11_earOf_14 : decode cX11_earOf 14 = .ok (.iconst 4, 1) := by decide +kernel
theorem dX11_earOf_15 : decode cX11_earOf 15 = .ok (.iload_n 1, 1) := by decide +kernel
theorem dX11_earOf_16 : decode cX11_earOf 16 = .ok (.imul, 1) := by decide +kernel
theorem dX11_earOf_17 : decode cX11_earOf 17 = .ok (.iconst 3, 1) := by decide +kernel
theorem dX11_earOf_18 : decode cX11_earOf 18 = .ok (.iadd, 1) := by decide +kernel
theorem dX11_earOf_19 : decode cX11_earOf 19 = .ok (.iaload, 1) := by decide +kernel
theorem dX11_earOf_20 : decode cX11_earOf 20 = .ok (.iload_n 2, 1) := by decide +kernel
theorem dX11_earOf_21 : decode cX11_earOf 21 = .ok (.imul, 1) := by decide +kernel
theorem dX11_earOf_22 : decode cX11_earOf 22 = .ok (.isub, 1) := by decide +kernel
theorem dX11_earOf_23 : decode cX11_earOf 23 = .ok (.ireturn, 1) := by decide +kernel
theorem dX11_lamp_0 : decode cX11_lamp 0 = .ok (.aload_n 0, 1) := by decide +kernel
theorem dX11_lamp_1 : decode cX11_lamp 1 = .ok (.iload_n 1, 1) := by decide +kernel
theorem dX11_lamp_2 : decode cX11_lamp 2 = .ok (.invokevirtual 242, 3) := by decide +kernel
theorem dX11_lamp_5 : decode cX11_lamp 5 = .ok (.ifCond .ne 7, 3) := by decide +kernel
theorem dX11_lamp_8 : decode cX11_lamp 8 = .ok (.sipush (-1001), 3) := by decide +kernel
theorem dX11_lamp_11 : decode cX11_lamp 11 = .ok (.ireturn, 1) := by decide +kernel
theorem dX11_lamp_12 : decode cX11_lamp 12 = .ok (.iload_n 2, 1) := by decide +kernel
theorem dX11_lamp_13 : decode cX11_lamp 13 = .ok (.tableswitch 89 0 7 #[47, 47, 47, 47, 58, 68, 75, 82], 47) := by decide +kernel
theorem dX11_lamp_60 : decode cX11_lamp 60 = .ok (.aload_n 0, 1) := by decide +kernel
theorem dX11_lamp_61 : decode cX11_lamp 61 = .ok (.getfield 7, 3) := by decide +kernel
theorem dX11_lamp_64 : decode cX11_lamp 64 = .ok (.iconst 4, 1) := by decide +kernel
theorem dX11_lamp_65 : decode cX11_lamp 65 = .ok (.iload_n 1, 1) := by decide +kernel
theorem dX11_lamp_66 : decode cX11_lamp 66 = .ok (.imul, 1) := by decide +kernel
theorem dX11_lamp_67 : decode cX11_lamp 67 = .ok (.iload_n 2, 1) := by decide +kernel
theorem dX11_lamp_68 : decode cX11_lamp 68 = .ok (.iadd, 1) := by decide +kernel
theorem dX11_lamp_69 : decode cX11_lamp 69 = .ok (.iaload, 1) := by decide +kernel
theorem dX11_lamp_70 : decode cX11_lamp 70 = .ok (.ireturn, 1) := by decide +kernel
theorem dX11_lamp_71 : decode cX11_lamp 71 = .ok (.aload_n 0, 1) := by decide +kernel
theorem dX11_lamp_72 : decode cX11_lamp 72 = .ok (.iload_n 1, 1) := by decide +kernel
theorem dX11_lamp_73 : decode cX11_lamp 73 = .ok (.aload_n 0, 1) := by decide +kernel
theorem dX11_lamp_74 : decode cX11_lamp 74 = .ok (.getfield 218, 3) := by decide +kernel
theorem dX11_lamp_77 : decode cX11_lamp 77 = .ok (.invokevirtual 246, 3) := by decide +kernel
theorem dX11_lamp_80 : decode cX11_lamp 80 = .ok (.ireturn, 1) := by decide +kernel
theorem dX11_lamp_81 : decode cX11_lamp 81 = .ok (.aload_n 0, 1) := by decide +kernel
theorem dX11_lamp_82 : decode cX11_lamp 82 = .ok (.getfield 13, 3) := by decide +kernel
theorem dX11_lamp_85 : decode cX11_lamp 85 = .ok (.iload_n 1, 1) := by decide +kernel
theorem dX11_lamp_86 : decode cX11_lamp 86 = .ok (.iaload, 1) := by decide +kernel
theorem dX11_lamp_87 : decode cX11_lamp 87 = .ok (.ireturn, 1) := by decide +kernel
theorem dX11_lamp_88 : decode cX11_lamp 88 = .ok (.aload_n 0, 1) := by decide +kernel
theorem dX11_lamp_89 : decode cX11_lamp 89 = .ok (.getfield 16, 3) := by decide +kernel
theorem dX11_lamp_92 : decode cX11_lamp 92 = .ok (.iload_n 1, 1) := by decide +kernel
theorem dX11_lamp_93 : decode cX11_lamp 93 = .ok (.iaload, 1) := by decide +kernel
theorem dX11_lamp_94 : decode cX11_lamp 94 = .ok (.ireturn, 1) := by decide +kernel
theorem dX11_lamp_95 : decode cX11_lamp 95 = .ok (.aload_n 0, 1) := by decide +kernel
theorem dX11_lamp_96 : decode cX11_lamp 96 = .ok (.getfield 19, 3) := by decide +kernel
theorem dX11_lamp_99 : decode cX11_lamp 99 = .ok (.iload_n 1, 1) := by decide +kernel
theorem dX11_lamp_100 : decode cX11_lamp 100 = .ok (.iaload, 1) := by decide +kernel
theorem dX11_lamp_101 : decode cX11_lamp 101 = .ok (.ireturn, 1) := by decide +kernel
theorem dX11_lamp_102 : decode cX11_lamp 102 = .ok (.sipush (-1002), 3) := by decide +kernel
theorem dX11_lamp_105 : decode cX11_lamp 105 = .ok (.ireturn, 1) := by decide +kernel
theorem dX11_singer_0 : decode cX11_singer 0 = .ok (.iload_n 1, 1) := by decide +kernel
theorem dX11_singer_1 : decode cX11_singer 1 = .ok (.i2l, 1) := by decide +kernel
theorem dX11_singer_2 : decode cX11_singer 2 = .ok (.lconst 0, 1) := by decide +kernel
theorem dX11_singer_3 : decode cX11_singer 3 = .ok (.aload_n 0, 1) := by decide +kernel
theorem dX11_singer_4 : decode cX11_singer 4 = .ok (.getfield 206, 3) := by decide +kernel
theorem dX11_singer_7 : decode cX11_singer 7 = .ok (.iconst 1, 1) := by decide +kernel
theorem dX11_singer_8 : decode cX11_singer 8 = .ok (.isub, 1) := by decide +kernel
theorem dX11_singer_9 : decode cX11_singer 9 = .ok (.i2l, 1) := by decide +kernel
theorem dX11_singer_10 : decode cX11_singer 10 = .ok (.invokestatic 107, 3) := by decide +kernel
theorem dX11_singer_13 : decode cX11_singer 13 = .ok (.ifCond .ne 7, 3) := by decide +kernel
theorem dX11_singer_16 : decode cX11_singer 16 = .ok (.sipush (-1001), 3) := by decide +kernel
theorem dX11_singer_19 : decode cX11_singer 19 = .ok (.ireturn, 1) := by decide +kernel
theorem dX11_singer_20 : decode cX11_singer 20 = .ok (.iload_n 2, 1) := by decide +kernel
theorem dX11_singer_21 : decode cX11_singer 21 = .ok (.i2l, 1) := by decide +kernel
theorem dX11_singer_22 : decode cX11_singer 22 = .ok (.lconst 0, 1) := by decide +kernel
theorem dX11_singer_23 : decode cX11_singer 23 = .ok (.ldc2_w 249, 3) := by decide +kernel
theorem dX11_singer_26 : decode cX11_singer 26 = .ok (.invokestatic 107, 3) := by decide +kernel
theorem dX11_singer_29 : decode cX11_singer 29 = .ok (.ifCond .eq 16, 3) := by decide +kernel
theorem dX11_singer_32 : decode cX11_singer 32 = .ok (.aload_n 0, 1) := by decide +kernel
theorem dX11_singer_33 : decode cX11_singer 33 = .ok (.getfield 32, 3) := by decide +kernel
theorem dX11_singer_36 : decode cX11_singer 36 = .ok (.iconst 4, 1) := by decide +kernel
theorem dX11_singer_37 : decode cX11_singer 37 = .ok (.iload_n 1, 1) := by decide +kernel
theorem dX11_singer_38 : decode cX11_singer 38 = .ok (.imul, 1) := by decide +kernel
theorem dX11_singer_39 : decode cX11_singer 39 = .ok (.iload_n 2, 1) := by decide +kernel
theorem dX11_singer_40 : decode cX11_singer 40 = .ok (.iadd, 1) := by decide +kernel
theorem dX11_singer_41 : decode cX11_singer 41 = .ok (.iaload, 1) := by decide +kernel
theorem dX11_singer_42 : decode cX11_singer 42 = .ok (.goto 6, 3) := by decide +kernel
theorem dX11_singer_45 : decode cX11_singer 45 = .ok (.sipush (-1002), 3) := by decide +kernel
theorem dX11_singer_48 : decode cX11_singer 48 = .ok (.ireturn, 1) := by decide +kernel
theorem dX11_wakesBy_0 : decode cX11_wakesBy 0 = .ok (.iconst 0, 1) := by decide +kernel
theorem dX11_wakesBy_1 : decode cX11_wakesBy 1 = .ok (.istore 5, 2) := by decide +kernel
theorem dX11_wakesBy_3 : decode cX11_wakesBy 3 = .ok (.iconst 0, 1) := by decide +kernel
theorem dX11_wakesBy_4 : decode cX11_wakesBy 4 = .ok (.istore 6, 2) := by decide +kernel
theorem dX11_wakesBy_6 : decode cX11_wakesBy 6 = .ok (.iload 6, 2) := by decide +kernel
theorem dX11_wakesBy_8 : decode cX11_wakesBy 8 = .ok (.aload_n 0, 1) := by decide +kernel
theorem dX11_wakesBy_9 : decode cX11_wakesBy 9 = .ok (.getfield 104, 3) := by decide +kernel
theorem dX11_wakesBy_12 : decode cX11_wakesBy 12 = .ok (.if_icmp .ge 79, 3) := by decide +kernel
theorem dX11_wakesBy_15 : decode cX11_wakesBy 15 = .ok (.aload_n 0, 1) := by decide +kernel
theorem dX11_wakesBy_16 : decode cX11_wakesBy 16 = .ok (.iload 6, 2) := by decide +kernel
theorem dX11_wakesBy_18 : decode cX11_wakesBy 18 = .ok (.iload 4, 2) := by decide +kernel
theorem dX11_wakesBy_20 : decode cX11_wakesBy 20 = .ok (.invokevirtual 246, 3) := by decide +kernel
theorem dX11_wakesBy_23 : decode cX11_wakesBy 23 = .ok (.iload_n 2, 1) := by decide +kernel
theorem dX11_wakesBy_24 : decode cX11_wakesBy 24 = .ok (.isub, 1) := by decide +kernel
theorem dX11_wakesBy_25 : decode cX11_wakesBy 25 = .ok (.invokestatic 251, 3) := by decide +kernel
theorem dX11_wakesBy_28 : decode cX11_wakesBy 28 = .ok (.aload_n 0, 1) := by decide +kernel
theorem dX11_wakesBy_29 : decode cX11_wakesBy 29 = .ok (.getfield 7, 3) := by decide +kernel
theorem dX11_wakesBy_32 : decode cX11_wakesBy 32 = .ok (.iconst 4, 1) := by decide +kernel
theorem dX11_wakesBy_33 : decode cX11_wakesBy 33 = .ok (.iload 6, 2) := by decide +kernel
theorem dX11_wakesBy_35 : decode cX11_wakesBy 35 = .ok (.imul, 1) := by decide +kernel
theorem dX11_wakesBy_36 : decode cX11_wakesBy 36 = .ok (.iconst 2, 1) := by decide +kernel
theorem dX11_wakesBy_37 : decode cX11_wakesBy 37 = .ok (.iadd, 1) := by decide +kernel
theorem dX11_wakesBy_38 : decode cX11_wakesBy 38 = .ok (.iaload, 1) := by decide +kernel
theorem dX11_wakesBy_39 : decode cX11_wakesBy 39 = .ok (.if_icmp .gt 25, 3) := by decide +kernel
theorem dX11_wakesBy_42 : decode cX11_wakesBy 42 = .ok (.aload_n 0, 1) := by decide +kernel
theorem dX11_wakesBy_43 : decode cX11_wakesBy 43 = .ok (.getfield 7, 3) := by decide +kernel
theorem dX11_wakesBy_46 : decode cX11_wakesBy 46 = .ok (.iconst 4, 1) := by decide +kernel
theorem dX11_wakesBy_47 : decode cX11_wakesBy 47 = .ok (.iload 6, 2) := by decide +kernel
theorem dX11_wakesBy_49 : decode cX11_wakesBy 49 = .ok (.imul, 1) := by decide +kernel
theorem dX11_wakesBy_50 : decode cX11_wakesBy 50 = .ok (.iaload, 1) := by decide +kernel
theorem dX11_wakesBy_51 : decode cX11_wakesBy 51 = .ok (.iload_n 1, 1) := by decide +kernel
theorem dX11_wakesBy_52 : decode cX11_wakesBy 52 = .ok (.isub, 1) := by decide +kernel
theorem dX11_wakesBy_53 : decode cX11_wakesBy 53 = .ok (.invokestatic 251, 3) := by decide +kernel
theorem dX11_wakesBy_56 : decode cX11_wakesBy 56 = .ok (.iload_n 3, 1) := by decide +kernel
theorem dX11_wakesBy_57 : decode cX11_wakesBy 57 = .ok (.if_icmp .ge 7, 3) := by decide +kernel
theorem dX11_wakesBy_60 : decode cX11_wakesBy 60 = .ok (.iconst 1, 1) := by decide +kernel
theorem dX11_wakesBy_61 : decode cX11_wakesBy 61 = .ok (.goto 4, 3) := by decide +kernel
theorem dX11_wakesBy_64 : decode cX11_wakesBy 64 = .ok (.iconst 0, 1) := by decide +kernel
theorem dX11_wakesBy_65 : decode cX11_wakesBy 65 = .ok (.istore 7, 2) := by decide +kernel
theorem dX11_wakesBy_67 : decode cX11_wakesBy 67 = .ok (.iload 5, 2) := by decide +kernel
theorem dX11_wakesBy_69 : decode cX11_wakesBy 69 = .ok (.iload 7, 2) := by decide +kernel
theorem dX11_wakesBy_71 : decode cX11_wakesBy 71 = .ok (.ifCond .eq 10, 3) := by decide +kernel
theorem dX11_wakesBy_74 : decode cX11_wakesBy 74 = .ok (.iconst 1, 1) := by decide +kernel
theorem dX11_wakesBy_75 : decode cX11_wakesBy 75 = .ok (.iload 6, 2) := by decide +kernel
theorem dX11_wakesBy_77 : decode cX11_wakesBy 77 = .ok (.ishl, 1) := by decide +kernel
theorem dX11_wakesBy_78 : decode cX11_wakesBy 78 = .ok (.goto 4, 3) := by decide +kernel
theorem dX11_wakesBy_81 : decode cX11_wakesBy 81 = .ok (.iconst 0, 1) := by decide +kernel
theorem dX11_wakesBy_82 : decode cX11_wakesBy 82 = .ok (.ior, 1) := by decide +kernel
theorem dX11_wakesBy_83 : decode cX11_wakesBy 83 = .ok (.istore 5, 2) := by decide +kernel
theorem dX11_wakesBy_85 : decode cX11_wakesBy 85 = .ok (.iinc 6 1, 3) := by decide +kernel
theorem dX11_wakesBy_88 : decode cX11_wakesBy 88 = .ok (.goto (-82), 3) := by decide +kernel
theorem dX11_wakesBy_91 : decode cX11_wakesBy 91 = .ok (.iload 5, 2) := by decide +kernel
theorem dX11_wakesBy_93 : decode cX11_wakesBy 93 = .ok (.ireturn, 1) := by decide +kernel
theorem dX11_sound_0 : decode cX11_sound 0 = .ok (.aload_n 0, 1) := by decide +kernel
theorem dX11_sound_1 : decode cX11_sound 1 = .ok (.iload_n 1, 1) := by decide +kernel
theorem dX11_sound_2 : decode cX11_sound 2 = .ok (.iload_n 2, 1) := by decide +kernel
theorem dX11_sound_3 : decode cX11_sound 3 = .ok (.iload_n 3, 1) := by decide +kernel
theorem dX11_sound_4 : decode cX11_sound 4 = .ok (.aload_n 0, 1) := by decide +kernel
theorem dX11_sound_5 : decode cX11_sound 5 = .ok (.getfield 218, 3) := by decide +kernel
theorem dX11_sound_8 : decode cX11_sound 8 = .ok (.invokevirtual 255, 3) := by decide +kernel
theorem dX11_sound_11 : decode cX11_sound 11 = .ok (.istore 5, 2) := by decide +kernel
theorem dX11_sound_13 : decode cX11_sound 13 = .ok (.iconst 0, 1) := by decide +kernel
theorem dX11_sound_14 : decode cX11_sound 14 = .ok (.istore 6, 2) := by decide +kernel
theorem dX11_sound_16 : decode cX11_sound 16 = .ok (.iload 6, 2) := by decide +kernel
theorem dX11_sound_18 : decode cX11_sound 18 = .ok (.aload_n 0, 1) := by decide +kernel
theorem dX11_sound_19 : decode cX11_sound 19 = .ok (.getfield 104, 3) := by decide +kernel
theorem dX11_sound_22 : decode cX11_sound 22 = .ok (.if_icmp .ge 69, 3) := by decide +kernel
theorem dX11_sound_25 : decode cX11_sound 25 = .ok (.aload_n 0, 1) := by decide +kernel
theorem dX11_sound_26 : decode cX11_sound 26 = .ok (.getfield 13, 3) := by decide +kernel
theorem dX11_sound_29 : decode cX11_sound 29 = .ok (.iload 6, 2) := by decide +kernel
theorem dX11_sound_31 : decode cX11_sound 31 = .ok (.iload 5, 2) := by decide +kernel
theorem dX11_sound_33 : decode cX11_sound 33 = .ok (.iload 6, 2) := by decide +kernel
theorem dX11_sound_35 : decode cX11_sound 35 = .ok (.invokestatic 190, 3) := by decide +kernel
theorem dX11_sound_38 : decode cX11_sound 38 = .ok (.ifCond .eq 10, 3) := by decide +kernel
theorem dX11_sound_41 : decode cX11_sound 41 = .ok (.aload_n 0, 1) := by decide +kernel
theorem dX11_sound_42 : decode cX11_sound 42 = .ok (.getfield 22, 3) := by decide +kernel
theorem dX11_sound_45 : decode cX11_sound 45 = .ok (.goto 10, 3) := by decide +kernel
theorem dX11_sound_48 : decode cX11_sound 48 = .ok (.aload_n 0, 1) := by decide +kernel
theorem dX11_sound_49 : decode cX11_sound 49 = .ok (.getfield 13, 3) := by decide +kernel
theorem dX11_sound_52 : decode cX11_sound 52 = .ok (.iload 6, 2) := by decide +kernel
theorem dX11_sound_54 : decode cX11_sound 54 = .ok (.iaload, 1) := by decide +kernel
theorem dX11_sound_55 : decode cX11_sound 55 = .ok (.iastore, 1) := by decide +kernel
theorem dX11_sound_56 : decode cX11_sound 56 = .ok (.aload_n 0, 1) := by decide +kernel
theorem dX11_sound_57 : decode cX11_sound 57 = .ok (.getfield 19, 3) := by decide +kernel
theorem dX11_sound_60 : decode cX11_sound 60 = .ok (.iload 6, 2) := by decide +kernel
theorem dX11_sound_62 : decode cX11_sound 62 = .ok (.iload 5, 2) := by decide +kernel
theorem dX11_sound_64 : decode cX11_sound 64 = .ok (.iload 6, 2) := by decide +kernel
theorem dX11_sound_66 : decode cX11_sound 66 = .ok (.invokestatic 190, 3) := by decide +kernel
theorem dX11_sound_69 : decode cX11_sound 69 = .ok (.ifCond .eq 8, 3) := by decide +kernel
theorem dX11_sound_72 : decode cX11_sound 72 = .ok (.iload 4, 2) := by decide +kernel
theorem dX11_sound_74 : decode cX11_sound 74 = .ok (.goto 10, 3) := by decide +kernel
theorem dX11_sound_77 : decode cX11_sound 77 = .ok (.aload_n 0, 1) := by decide +kernel
theorem dX11_sound_78 : decode cX11_sound 78 = .ok (.getfield 19, 3) := by decide +kernel
theorem dX11_sound_81 : decode cX11_sound 81 = .ok (.iload 6, 2) := by decide +kernel
theorem dX11_sound_83 : decode cX11_sound 83 = .ok (.iaload, 1) := by decide +kernel
theorem dX11_sound_84 : decode cX11_sound 84 = .ok (.iastore, 1) := by decide +kernel
theorem dX11_sound_85 : decode cX11_sound 85 = .ok (.iinc 6 1, 3) := by decide +kernel
theorem dX11_sound_88 : decode cX11_sound 88 = .ok (.goto (-72), 3) := by decide +kernel
theorem dX11_sound_91 : decode cX11_sound 91 = .ok (.iload 5, 2) := by decide +kernel
theorem dX11_sound_93 : decode cX11_sound 93 = .ok (.ireturn, 1) := by decide +kernel
theorem dX11_weather_0 : decode cX11_weather 0 = .ok (.iload_n 1, 1) := by decide +kernel
theorem dX11_weather_1 : decode cX11_weather 1 = .ok (.i2l, 1) := by decide +kernel
theorem dX11_weather_2 : decode cX11_weather 2 = .ok (.lconst 0, 1) := by decide +kernel
theorem dX11_weather_3 : decode cX11_weather 3 = .ok (.lconst 1, 1) := by decide +kernel
theorem dX11_weather_4 : decode cX11_weather 4 = .ok (.invokestatic 107, 3) := by decide +kernel
theorem dX11_weather_7 : decode cX11_weather 7 = .ok (.ifCond .eq 25, 3) := by decide +kernel
theorem dX11_weather_10 : decode cX11_weather 10 = .ok (.iload_n 2, 1) := by decide +kernel
theorem dX11_weather_11 : decode cX11_weather 11 = .ok (.i2l, 1) := by decide +kernel
theorem dX11_weather_12 : decode cX11_weather 12 = .ok (.lconst 0, 1) := by decide +kernel
theorem dX11_weather_13 : decode cX11_weather 13 = .ok (.iload_n 1, 1) := by decide +kernel
theorem dX11_weather_14 : decode cX11_weather 14 = .ok (.ifCond .ne 9, 3) := by decide +kernel
theorem dX11_weather_17 : decode cX11_weather 17 = .ok (.ldc2_w 259, 3) := by decide +kernel
theorem dX11_weather_20 : decode cX11_weather 20 = .ok (.goto 6, 3) := by decide +kernel
theorem dX11_weather_23 : decode cX11_weather 23 = .ok (.ldc2_w 115, 3) := by decide +kernel
theorem dX11_weather_26 : decode cX11_weather 26 = .ok (.invokestatic 107, 3) := by decide +kernel
theorem dX11_weather_29 : decode cX11_weather 29 = .ok (.ifCond .ne 7, 3) := by decide +kernel
theorem dX11_weather_32 : decode cX11_weather 32 = .ok (.sipush (-1002), 3) := by decide +kernel
theorem dX11_weather_35 : decode cX11_weather 35 = .ok (.ireturn, 1) := by decide +kernel
theorem dX11_weather_36 : decode cX11_weather 36 = .ok (.iload_n 1, 1) := by decide +kernel
theorem dX11_weather_37 : decode cX11_weather 37 = .ok (.ifCond .ne 10, 3) := by decide +kernel
theorem dX11_weather_40 : decode cX11_weather 40 = .ok (.aload_n 0, 1) := by decide +kernel
theorem dX11_weather_41 : decode cX11_weather 41 = .ok (.getfield 218, 3) := by decide +kernel
theorem dX11_weather_44 : decode cX11_weather 44 = .ok (.goto 7, 3) := by decide +kernel
theorem dX11_weather_47 : decode cX11_weather 47 = .ok (.aload_n 0, 1) := by decide +kernel
theorem dX11_weather_48 : decode cX11_weather 48 = .ok (.getfield 221, 3) := by decide +kernel
theorem dX11_weather_51 : decode cX11_weather 51 = .ok (.istore_n 3, 1) := by decide +kernel
theorem dX11_weather_52 : decode cX11_weather 52 = .ok (.aload_n 0, 1) := by decide +kernel
theorem dX11_weather_53 : decode cX11_weather 53 = .ok (.iload_n 1, 1) := by decide +kernel
theorem dX11_weather_54 : decode cX11_weather 54 = .ok (.ifCond .ne 7, 3) := by decide +kernel
theorem dX11_weather_57 : decode cX11_weather 57 = .ok (.iload_n 2, 1) := by decide +kernel
theorem dX11_weather_58 : decode cX11_weather 58 = .ok (.goto 7, 3) := by decide +kernel
theorem dX11_weather_61 : decode cX11_weather 61 = .ok (.aload_n 0, 1) := by decide +kernel
theorem dX11_weather_62 : decode cX11_weather 62 = .ok (.getfield 218, 3) := by decide +kernel
theorem dX11_weather_65 : decode cX11_weather 65 = .ok (.putfield 218, 3) := by decide +kernel
theorem dX11_weather_68 : decode cX11_weather 68 = .ok (.aload_n 0, 1) := by decide +kernel
theorem dX11_weather_69 : decode cX11_weather 69 = .ok (.iload_n 1, 1) := by decide +kernel
theorem dX11_weather_70 : decode cX11_weather 70 = .ok (.iconst 1, 1) := by decide +kernel
theorem dX11_weather_71 : decode cX11_weather 71 = .ok (.if_icmp .ne 7, 3) := by decide +kernel
theorem dX11_weather_74 : decode cX11_weather 74 = .ok (.iload_n 2, 1) := by decide +kernel
theorem dX11_weather_75 : decode cX11_weather 75 = .ok (.goto 7, 3) := by decide +kernel
theorem dX11_weather_78 : decode cX11_weather 78 = .ok (.aload_n 0, 1) := by decide +kernel
theorem dX11_weather_79 : decode cX11_weather 79 = .ok (.getfield 221, 3) := by decide +kernel
theorem dX11_weather_82 : decode cX11_weather 82 = .ok (.putfield 221, 3) := by decide +kernel
theorem dX11_weather_85 : decode cX11_weather 85 = .ok (.iload_n 3, 1) := by decide +kernel
theorem dX11_weather_86 : decode cX11_weather 86 = .ok (.ireturn, 1) := by decide +kernel
theorem dX11_isSound_0 : decode cX11_isSound 0 = .ok (.iload_n 0, 1) := by decide +kernel
theorem dX11_isSound_1 : decode cX11_isSound 1 = .ok (.i2l, 1) := by decide +kernel
theorem dX11_isSound_2 : decode cX11_isSound 2 = .ok (.lconst 0, 1) := by decide +kernel
theorem dX11_isSound_3 : decode cX11_isSound 3 = .ok (.ldc2_w 261, 3) := by decide +kernel
theorem dX11_isSound_6 : decode cX11_isSound 6 = .ok (.invokestatic 107, 3) := by decide +kernel
theorem dX11_isSound_9 : decode cX11_isSound 9 = .ok (.ifCond .eq 19, 3) := by decide +kernel
theorem dX11_isSound_12 : decode cX11_isSound 12 = .ok (.iload_n 1, 1) := by decide +kernel
theorem dX11_isSound_13 : decode cX11_isSound 13 = .ok (.i2l, 1) := by decide +kernel
theorem dX11_isSound_14 : decode cX11_isSound 14 = .ok (.lconst 0, 1) := by decide +kernel
theorem dX11_isSound_15 : decode cX11_isSound 15 = .ok (.ldc2_w 263, 3) := by decide +kernel
theorem dX11_isSound_18 : decode cX11_isSound 18 = .ok (.invokestatic 107, 3) := by decide +kernel
theorem dX11_isSound_21 : decode cX11_isSound 21 = .ok (.ifCond .eq 7, 3) := by decide +kernel
theorem dX11_isSound_24 : decode cX11_isSound 24 = .ok (.iconst 1, 1) := by decide +kernel
theorem dX11_isSound_25 : decode cX11_isSound 25 = .ok (.goto 4, 3) := by decide +kernel
theorem dX11_isSound_28 : decode cX11_isSound 28 = .ok (.iconst 0, 1) := by decide +kernel
theorem dX11_isSound_29 : decode cX11_isSound 29 = .ok (.ireturn, 1) := by decide +kernel
theorem dX11_wakes_0 : decode cX11_wakes 0 = .ok (.iload_n 1, 1) := by decide +kernel
theorem dX11_wakes_1 : decode cX11_wakes 1 = .ok (.iload_n 2, 1) := by decide +kernel
theorem dX11_wakes_2 : decode cX11_wakes 2 = .ok (.invokestatic 265, 3) := by decide +kernel
theorem dX11_wakes_5 : decode cX11_wakes 5 = .ok (.ifCond .eq 24, 3) := by decide +kernel
theorem dX11_wakes_8 : decode cX11_wakes 8 = .ok (.iload_n 3, 1) := by decide +kernel
theorem dX11_wakes_9 : decode cX11_wakes 9 = .ok (.invokestatic 268, 3) := by decide +kernel
theorem dX11_wakes_12 : decode cX11_wakes 12 = .ok (.ifCond .eq 17, 3) := by decide +kernel
theorem dX11_wakes_15 : decode cX11_wakes 15 = .ok (.aload_n 0, 1) := by decide +kernel
theorem dX11_wakes_16 : decode cX11_wakes 16 = .ok (.iload_n 1, 1) := by decide +kernel
theorem dX11_wakes_17 : decode cX11_wakes 17 = .ok (.iload_n 2, 1) := by decide +kernel
theorem dX11_wakes_18 : decode cX11_wakes 18 = .ok (.iload_n 3, 1) := by decide +kernel
theorem dX11_wakes_19 : decode cX11_wakes 19 = .ok (.aload_n 0, 1) := by decide +kernel
theorem dX11_wakes_20 : decode cX11_wakes 20 = .ok (.getfield 218, 3) := by decide +kernel
theorem dX11_wakes_23 : decode cX11_wakes 23 = .ok (.invokevirtual 255, 3) := by decide +kernel
theorem dX11_wakes_26 : decode cX11_wakes 26 = .ok (.goto 6, 3) := by decide +kernel
theorem dX11_wakes_29 : decode cX11_wakes 29 = .ok (.sipush (-1002), 3) := by decide +kernel
theorem dX11_wakes_32 : decode cX11_wakes 32 = .ok (.ireturn, 1) := by decide +kernel
theorem dX11_hum_0 : decode cX11_hum 0 = .ok (.iload_n 1, 1) := by decide +kernel
theorem dX11_hum_1 : decode cX11_hum 1 = .ok (.iload_n 2, 1) := by decide +kernel
theorem dX11_hum_2 : decode cX11_hum 2 = .ok (.invokestatic 265, 3) := by decide +kernel
theorem dX11_hum_5 : decode cX11_hum 5 = .ok (.ifCond .eq 18, 3) := by decide +kernel
theorem dX11_hum_8 : decode cX11_hum 8 = .ok (.aload_n 0, 1) := by decide +kernel
theorem dX11_hum_9 : decode cX11_hum 9 = .ok (.iload_n 1, 1) := by decide +kernel
theorem dX11_hum_10 : decode cX11_hum 10 = .ok (.iload_n 2, 1) := by decide +kernel
theorem dX11_hum_11 : decode cX11_hum 11 = .ok (.aload_n 0, 1) := by decide +kernel
theorem dX11_hum_12 : decode cX11_hum 12 = .ok (.getfield 29, 3) := by decide +kernel
theorem dX11_hum_15 : decode cX11_hum 15 = .ok (.bipush (-3), 2) := by decide +kernel
theorem dX11_hum_17 : decode cX11_hum 17 = .ok (.invokevirtual 271, 3) := by decide +kernel
theorem dX11_hum_20 : decode cX11_hum 20 = .ok (.goto 6, 3) := by decide +kernel
theorem dX11_hum_23 : decode cX11_hum 23 = .ok (.sipush (-1002), 3) := by decide +kernel
theorem dX11_hum_26 : decode cX11_hum 26 = .ok (.ireturn, 1) := by decide +kernel
theorem dX11_draw_0 : decode cX11_draw 0 = .ok (.aload_n 0, 1) := by decide +kernel
theorem dX11_draw_1 : decode cX11_draw 1 = .ok (.aload_n 0, 1) := by decide +kernel
theorem dX11_draw_2 : decode cX11_draw 2 = .ok (.getfield 274, 3) := by decide +kernel
theorem dX11_draw_5 : decode cX11_draw 5 = .ok (.i2l, 1) := by decide +kernel
theorem dX11_draw_6 : decode cX11_draw 6 = .ok (.ldc2_w 277, 3) := by decide +kernel
theorem dX11_draw_9 : decode cX11_draw 9 = .ok (.lmul, 1) := by decide +kernel
theorem dX11_draw_10 : decode cX11_draw 10 = .ok (.ldc2_w 279, 3) := by decide +kernel
theorem dX11_draw_13 : decode cX11_draw 13 = .ok (.ladd, 1) := by decide +kernel
theorem dX11_draw_14 : decode cX11_draw 14 = .ok (.ldc2_w 281, 3) := by decide +kernel
theorem dX11_draw_17 : decode cX11_draw 17 = .ok (.lrem, 1) := by decide +kernel
theorem dX11_draw_18 : decode cX11_draw 18 = .ok (.l2i, 1) := by decide +kernel
theorem dX11_draw_19 : decode cX11_draw 19 = .ok (.putfield 274, 3) := by decide +kernel
theorem dX11_draw_22 : decode cX11_draw 22 = .ok (.aload_n 0, 1) := by decide +kernel
theorem dX11_draw_23 : decode cX11_draw 23 = .ok (.getfield 274, 3) := by decide +kernel
theorem dX11_draw_26 : decode cX11_draw 26 = .ok (.ldc_w 283, 3) := by decide +kernel
theorem dX11_draw_29 : decode cX11_draw 29 = .ok (.idiv, 1) := by decide +kernel
theorem dX11_draw_30 : decode cX11_draw 30 = .ok (.iload_n 1, 1) := by decide +kernel
theorem dX11_draw_31 : decode cX11_draw 31 = .ok (.irem, 1) := by decide +kernel
theorem dX11_draw_32 : decode cX11_draw 32 = .ok (.ireturn, 1) := by decide +kernel
theorem dX11_goOn_0 : decode cX11_goOn 0 = .ok (.iconst 0, 1) := by decide +kernel
theorem dX11_goOn_1 : decode cX11_goOn 1 = .ok (.istore_n 1, 1) := by decide +kernel
theorem dX11_goOn_2 : decode cX11_goOn 2 = .ok (.iload_n 1, 1) := by decide +kernel
theorem dX11_goOn_3 : decode cX11_goOn 3 = .ok (.aload_n 0, 1) := by decide +kernel
theorem dX11_goOn_4 : decode cX11_goOn 4 = .ok (.getfield 209, 3) := by decide +kernel
theorem dX11_goOn_7 : decode cX11_goOn 7 = .ok (.if_icmp .ge 69, 3) := by decide +kernel
theorem dX11_goOn_10 : decode cX11_goOn 10 = .ok (.aload_n 0, 1) := by decide +kernel
theorem dX11_goOn_11 : decode cX11_goOn 11 = .ok (.getfield 35, 3) := by decide +kernel
theorem dX11_goOn_14 : decode cX11_goOn 14 = .ok (.iconst 3, 1) := by decide +kernel
theorem dX11_goOn_15 : decode cX11_goOn 15 = .ok (.iload_n 1, 1) := by decide +kernel
theorem dX11_goOn_16 : decode cX11_goOn 16 = .ok (.imul, 1) := by decide +kernel
theorem dX11_goOn_17 : decode cX11_goOn 17 = .ok (.iaload, 1) := by decide +kernel
theorem dX11_goOn_18 : decode cX11_goOn 18 = .ok (.aload_n 0, 1) := by decide +kernel
theorem dX11_goOn_19 : decode cX11_goOn 19 = .ok (.getfield 227, 3) := by decide +kernel
theorem dX11_goOn_22 : decode cX11_goOn 22 = .ok (.if_icmp .ne 48, 3) := by decide +kernel
theorem dX11_goOn_25 : decode cX11_goOn 25 = .ok (.aload_n 0, 1) := by decide +kernel
theorem dX11_goOn_26 : decode cX11_goOn 26 = .ok (.getfield 35, 3) := by decide +kernel
theorem dX11_goOn_29 : decode cX11_goOn 29 = .ok (.iconst 3, 1) := by decide +kernel
theorem dX11_goOn_30 : decode cX11_goOn 30 = .ok (.iload_n 1, 1) := by decide +kernel
theorem dX11_goOn_31 : decode cX11_goOn 31 = .ok (.imul, 1) := by decide +kernel
theorem dX11_goOn_32 : decode cX11_goOn 32 = .ok (.iconst 1, 1) := by decide +kernel
theorem dX11_goOn_33 : decode cX11_goOn 33 = .ok (.iadd, 1) := by decide +kernel
theorem dX11_goOn_34 : decode cX11_goOn 34 = .ok (.iaload, 1) := by decide +kernel
theorem dX11_goOn_35 : decode cX11_goOn 35 = .ok (.istore_n 2, 1) := by decide +kernel
theorem dX11_goOn_36 : decode cX11_goOn 36 = .ok (.aload_n 0, 1) := by decide +kernel
theorem dX11_goOn_37 : decode cX11_goOn 37 = .ok (.aload_n 0, 1) := by decide +kernel
theorem dX11_goOn_38 : decode cX11_goOn 38 = .ok (.getfield 32, 3) := by decide +kernel
theorem dX11_goOn_41 : decode cX11_goOn 41 = .ok (.iconst 4, 1) := by decide +kernel
theorem dX11_goOn_42 : decode cX11_goOn 42 = .ok (.iload_n 2, 1) := by decide +kernel
theorem dX11_goOn_43 : decode cX11_goOn 43 = .ok (.imul, 1) := by decide +kernel
theorem dX11_goOn_44 : decode cX11_goOn 44 = .ok (.iaload, 1) := by decide +kernel
theorem dX11_goOn_45 : decode cX11_goOn 45 = .ok (.aload_n 0, 1) := by decide +kernel
theorem dX11_goOn_46 : decode cX11_goOn 46 = .ok (.getfield 35, 3) := by decide +kernel
theorem dX11_goOn_49 : decode cX11_goOn 49 = .ok (.iconst 3, 1) := by decide +kernel
theorem dX11_goOn_50 : decode cX11_goOn 50 = .ok (.iload_n 1, 1) := by decide +kernel
theorem dX11_goOn_51 : decode cX11_goOn 51 = .ok (.imul, 1) := by decide +kernel
theorem dX11_goOn_52 : decode cX11_goOn 52 = .ok (.iconst 2, 1) := by decide +kernel
theorem dX11_goOn_53 : decode cX11_goOn 53 = .ok (.iadd, 1) := by decide +kernel
theorem dX11_goOn_54 : decode cX11_goOn 54 = .ok (.iaload, 1) := by decide +kernel
theorem dX11_goOn_55 : decode cX11_goOn 55 = .ok (.aload_n 0, 1) := by decide +kernel
theorem dX11_goOn_56 : decode cX11_goOn 56 = .ok (.getfield 32, 3) := by decide +kernel
theorem dX11_goOn_59 : decode cX11_goOn 59 = .ok (.iconst 4, 1) := by decide +kernel
theorem dX11_goOn_60 : decode cX11_goOn 60 = .ok (.iload_n 2, 1) := by decide +kernel
theorem dX11_goOn_61 : decode cX11_goOn 61 = .ok (.imul, 1) := by decide +kernel
theorem dX11_goOn_62 : decode cX11_goOn 62 = .ok (.iconst 1, 1) := by decide +kernel
theorem dX11_goOn_63 : decode cX11_goOn 63 = .ok (.iadd, 1) := by decide +kernel
theorem dX11_goOn_64 : decode cX11_goOn 64 = .ok (.iaload, 1) := by decide +kernel
theorem dX11_goOn_65 : decode cX11_goOn 65 = .ok (.iload_n 2, 1) := by decide +kernel
theorem dX11_goOn_66 : decode cX11_goOn 66 = .ok (.invokevirtual 271, 3) := by decide +kernel
theorem dX11_goOn_69 : decode cX11_goOn 69 = .ok (.istore_n 3, 1) := by decide +kernel
theorem dX11_goOn_70 : decode cX11_goOn 70 = .ok (.iinc 1 1, 3) := by decide +kernel
theorem dX11_goOn_73 : decode cX11_goOn 73 = .ok (.goto (-71), 3) := by decide +kernel
theorem dX11_goOn_76 : decode cX11_goOn 76 = .ok (.aload_n 0, 1) := by decide +kernel
theorem dX11_goOn_77 : decode cX11_goOn 77 = .ok (.getfield 221, 3) := by decide +kernel
theorem dX11_goOn_80 : decode cX11_goOn 80 = .ok (.ifCond .le 28, 3) := by decide +kernel
theorem dX11_goOn_83 : decode cX11_goOn 83 = .ok (.aload_n 0, 1) := by decide +kernel
theorem dX11_goOn_84 : decode cX11_goOn 84 = .ok (.bipush 50, 2) := by decide +kernel
theorem dX11_goOn_86 : decode cX11_goOn 86 = .ok (.invokevirtual 284, 3) := by decide +kernel
theorem dX11_goOn_89 : decode cX11_goOn 89 = .ok (.istore_n 1, 1) := by decide +kernel
theorem dX11_goOn_90 : decode cX11_goOn 90 = .ok (.aload_n 0, 1) := by decide +kernel
theorem dX11_goOn_91 : decode cX11_goOn 91 = .ok (.iload_n 1, 1) := by decide +kernel
theorem dX11_goOn_92 : decode cX11_goOn 92 = .ok (.aload_n 0, 1) := by decide +kernel
theorem dX11_goOn_93 : decode cX11_goOn 93 = .ok (.bipush 64, 2) := by decide +kernel
theorem dX11_goOn_95 : decode cX11_goOn 95 = .ok (.invokevirtual 284, 3) := by decide +kernel
theorem dX11_goOn_98 : decode cX11_goOn 98 = .ok (.aload_n 0, 1) := by decide +kernel
theorem dX11_goOn_99 : decode cX11_goOn 99 = .ok (.getfield 221, 3) := by decide +kernel
theorem dX11_goOn_102 : decode cX11_goOn 102 = .ok (.bipush (-2), 2) := by decide +kernel
theorem dX11_goOn_104 : decode cX11_goOn 104 = .ok (.invokevirtual 271, 3) := by decide +kernel
theorem dX11_goOn_107 : decode cX11_goOn 107 = .ok (.istore_n 2, 1) := by decide +kernel
theorem dX11_goOn_108 : decode cX11_goOn 108 = .ok (.iconst 0, 1) := by decide +kernel
theorem dX11_goOn_109 : decode cX11_goOn 109 = .ok (.istore_n 1, 1) := by decide +kernel
theorem dX11_goOn_110 : decode cX11_goOn 110 = .ok (.iload_n 1, 1) := by decide +kernel
theorem dX11_goOn_111 : decode cX11_goOn 111 = .ok (.aload_n 0, 1) := by decide +kernel
theorem dX11_goOn_112 : decode cX11_goOn 112 = .ok (.getfield 104, 3) := by decide +kernel
theorem dX11_goOn_115 : decode cX11_goOn 115 = .ok (.if_icmp .ge 66, 3) := by decide +kernel
theorem dX11_goOn_118 : decode cX11_goOn 118 = .ok (.aload_n 0, 1) := by decide +kernel
theorem dX11_goOn_119 : decode cX11_goOn 119 = .ok (.getfield 13, 3) := by decide +kernel
theorem dX11_goOn_122 : decode cX11_goOn 122 = .ok (.iload_n 1, 1) := by decide +kernel
theorem dX11_goOn_123 : decode cX11_goOn 123 = .ok (.dup2, 1) := by decide +kernel
theorem dX11_goOn_124 : decode cX11_goOn 124 = .ok (.iaload, 1) := by decide +kernel
theorem dX11_goOn_125 : decode cX11_goOn 125 = .ok (.aload_n 0, 1) := by decide +kernel
theorem dX11_goOn_126 : decode cX11_goOn 126 = .ok (.getfield 13, 3) := by decide +kernel
theorem dX11_goOn_129 : decode cX11_goOn 129 = .ok (.iload_n 1, 1) := by decide +kernel
theorem dX11_goOn_130 : decode cX11_goOn 130 = .ok (.iaload, 1) := by decide +kernel
theorem dX11_goOn_131 : decode cX11_goOn 131 = .ok (.ifCond .le 7, 3) := by decide +kernel
theorem dX11_goOn_134 : decode cX11_goOn 134 = .ok (.iconst 1, 1) := by decide +kernel
theorem dX11_goOn_135 : decode cX11_goOn 135 = .ok (.goto 4, 3) := by decide +kernel
theorem dX11_goOn_138 : decode cX11_goOn 138 = .ok (.iconst 0, 1) := by decide +kernel
theorem dX11_goOn_139 : decode cX11_goOn 139 = .ok (.isub, 1) := by decide +kernel
theorem dX11_goOn_140 : decode cX11_goOn 140 = .ok (.iastore, 1) := by decide +kernel
theorem dX11_goOn_141 : decode cX11_goOn 141 = .ok (.aload_n 0, 1) := by decide +kernel
theorem dX11_goOn_142 : decode cX11_goOn 142 = .ok (.getfield 16, 3) := by decide +kernel
theorem dX11_goOn_145 : decode cX11_goOn 145 = .ok (.iload_n 1, 1) := by decide +kernel
theorem dX11_goOn_146 : decode cX11_goOn 146 = .ok (.dup2, 1) := by decide +kernel
theorem dX11_goOn_147 : decode cX11_goOn 147 = .ok (.iaload, 1) := by decide +kernel
theorem dX11_goOn_148 : decode cX11_goOn 148 = .ok (.aload_n 0, 1) := by decide +kernel
theorem dX11_goOn_149 : decode cX11_goOn 149 = .ok (.getfield 13, 3) := by decide +kernel
theorem dX11_goOn_152 : decode cX11_goOn 152 = .ok (.iload_n 1, 1) := by decide +kernel
theorem dX11_goOn_153 : decode cX11_goOn 153 = .ok (.iaload, 1) := by decide +kernel
theorem dX11_goOn_154 : decode cX11_goOn 154 = .ok (.ifCond .le 18, 3) := by decide +kernel
theorem dX11_goOn_157 : decode cX11_goOn 157 = .ok (.aload_n 0, 1) := by decide +kernel
theorem dX11_goOn_158 : decode cX11_goOn 158 = .ok (.getfield 16, 3) := by decide +kernel
theorem dX11_goOn_161 : decode cX11_goOn 161 = .ok (.iload_n 1, 1) := by decide +kernel
theorem dX11_goOn_162 : decode cX11_goOn 162 = .ok (.iaload, 1) := by decide +kernel
theorem dX11_goOn_163 : decode cX11_goOn 163 = .ok (.bipush 99, 2) := by decide +kernel
theorem dX11_goOn_165 : decode cX11_goOn 165 = .ok (.if_icmp .ge 7, 3) := by decide +kernel
theorem dX11_goOn_168 : decode cX11_goOn 168 = .ok (.iconst 1, 1) := by decide +kernel
theorem dX11_goOn_169 : decode cX11_goOn 169 = .ok (.goto 4, 3) := by decide +kernel
theorem dX11_goOn_172 : decode cX11_goOn 172 = .ok (.iconst 0, 1) := by decide +kernel
theorem dX11_goOn_173 : decode cX11_goOn 173 = .ok (.iadd, 1) := by decide +kernel
theorem dX11_goOn_174 : decode cX11_goOn 174 = .ok (.iastore, 1) := by decide +kernel
theorem dX11_goOn_175 : decode cX11_goOn 175 = .ok (.iinc 1 1, 3) := by decide +kernel
theorem dX11_goOn_178 : decode cX11_goOn 178 = .ok (.goto (-68), 3) := by decide +kernel
theorem dX11_goOn_181 : decode cX11_goOn 181 = .ok (.aload_n 0, 1) := by decide +kernel
theorem dX11_goOn_182 : decode cX11_goOn 182 = .ok (.dup, 1) := by decide +kernel
theorem dX11_goOn_183 : decode cX11_goOn 183 = .ok (.getfield 227, 3) := by decide +kernel
theorem dX11_goOn_186 : decode cX11_goOn 186 = .ok (.iconst 1, 1) := by decide +kernel
theorem dX11_goOn_187 : decode cX11_goOn 187 = .ok (.iadd, 1) := by decide +kernel
theorem dX11_goOn_188 : decode cX11_goOn 188 = .ok (.putfield 227, 3) := by decide +kernel
theorem dX11_goOn_191 : decode cX11_goOn 191 = .ok (.return_, 1) := by decide +kernel
theorem dX11_litNow_0 : decode cX11_litNow 0 = .ok (.iconst 0, 1) := by decide +kernel
theorem dX11_litNow_1 : decode cX11_litNow 1 = .ok (.istore_n 2, 1) := by decide +kernel
theorem dX11_litNow_2 : decode cX11_litNow 2 = .ok (.iconst 0, 1) := by decide +kernel
theorem dX11_litNow_3 : decode cX11_litNow 3 = .ok (.istore_n 3, 1) := by decide +kernel
theorem dX11_litNow_4 : decode cX11_litNow 4 = .ok (.iload_n 3, 1) := by decide +kernel
theorem dX11_litNow_5 : decode cX11_litNow 5 = .ok (.aload_n 0, 1) := by decide +kernel
theorem dX11_litNow_6 : decode cX11_litNow 6 = .ok (.getfield 104, 3) := by decide +kernel
theorem dX11_litNow_9 : decode cX11_litNow 9 = .ok (.if_icmp .ge 45, 3) := by decide +kernel
theorem dX11_litNow_12 : decode cX11_litNow 12 = .ok (.iload_n 2, 1) := by decide +kernel
theorem dX11_litNow_13 : decode cX11_litNow 13 = .ok (.aload_n 0, 1) := by decide +kernel
theorem dX11_litNow_14 : decode cX11_litNow 14 = .ok (.getfield 13, 3) := by decide +kernel
theorem dX11_litNow_17 : decode cX11_litNow 17 = .ok (.iload_n 3, 1) := by decide +kernel
theorem dX11_litNow_18 : decode cX11_litNow 18 = .ok (.iaload, 1) := by decide +kernel
theorem dX11_litNow_19 : decode cX11_litNow 19 = .ok (.ifCond .le 26, 3) := by decide +kernel
theorem dX11_litNow_22 : decode cX11_litNow 22 = .ok (.iload_n 1, 1) := by decide +kernel
theorem dX11_litNow_23 : decode cX11_litNow 23 = .ok (.ifCond .eq 16, 3) := by decide +kernel
theorem dX11_litNow_26 : decode cX11_litNow 26 = .ok (.aload_n 0, 1) := by decide +kernel
theorem dX11_litNow_27 : decode cX11_litNow 27 = .ok (.getfield 16, 3) := by decide +kernel
theorem dX11_litNow_30 : decode cX11_litNow 30 = .ok (.iload_n 3, 1) := by decide +kernel
theorem dX11_litNow_31 : decode cX11_litNow 31 = .ok (.iaload, 1) := by decide +kernel
theorem dX11_litNow_32 : decode cX11_litNow 32 = .ok (.aload_n 0, 1) := by decide +kernel
theorem dX11_litNow_33 : decode cX11_litNow 33 = .ok (.getfield 26, 3) := by decide +kernel
theorem dX11_litNow_36 : decode cX11_litNow 36 = .ok (.if_icmp .ge 9, 3) := by decide +kernel
theorem dX11_litNow_39 : decode cX11_litNow 39 = .ok (.iconst 1, 1) := by decide +kernel
theorem dX11_litNow_40 : decode cX11_litNow 40 = .ok (.iload_n 3, 1) := by decide +kernel
theorem dX11_litNow_41 : decode cX11_litNow 41 = .ok (.ishl, 1) := by decide +kernel
theorem dX11_litNow_42 : decode cX11_litNow 42 = .ok (.goto 4, 3) := by decide +kernel
theorem dX11_litNow_45 : decode cX11_litNow 45 = .ok (.iconst 0, 1) := by decide +kernel
theorem dX11_litNow_46 : decode cX11_litNow 46 = .ok (.ior, 1) := by decide +kernel
theorem dX11_litNow_47 : decode cX11_litNow 47 = .ok (.istore_n 2, 1) := by decide +kernel
theorem dX11_litNow_48 : decode cX11_litNow 48 = .ok (.iinc 3 1, 3) := by decide +kernel
theorem dX11_litNow_51 : decode cX11_litNow 51 = .ok (.goto (-47), 3) := by decide +kernel
theorem dX11_litNow_54 : decode cX11_litNow 54 = .ok (.iload_n 2, 1) := by decide +kernel
theorem dX11_litNow_55 : decode cX11_litNow 55 = .ok (.ireturn, 1) := by decide +kernel
theorem dX11_run_0 : decode cX11_run 0 = .ok (.iload_n 1, 1) := by decide +kernel
theorem dX11_run_1 : decode cX11_run 1 = .ok (.i2l, 1) := by decide +kernel
theorem dX11_run_2 : decode cX11_run 2 = .ok (.lconst 1, 1) := by decide +kernel
theorem dX11_run_3 : decode cX11_run 3 = .ok (.ldc2_w 287, 3) := by decide +kernel
theorem dX11_run_6 : decode cX11_run 6 = .ok (.invokestatic 107, 3) := by decide +kernel
theorem dX11_run_9 : decode cX11_run 9 = .ok (.ifCond .ne 7, 3) := by decide +kernel
theorem dX11_run_12 : decode cX11_run 12 = .ok (.sipush (-1002), 3) := by decide +kernel
theorem dX11_run_15 : decode cX11_run 15 = .ok (.ireturn, 1) := by decide +kernel
theorem dX11_run_16 : decode cX11_run 16 = .ok (.iconst 0, 1) := by decide +kernel
theorem dX11_run_17 : decode cX11_run 17 = .ok (.istore_n 2, 1) := by decide +kernel
theorem dX11_run_18 : decode cX11_run 18 = .ok (.iload_n 2, 1) := by decide +kernel
theorem dX11_run_19 : decode cX11_run 19 = .ok (.iload_n 1, 1) := by decide +kernel
theorem dX11_run_20 : decode cX11_run 20 = .ok (.if_icmp .ge 13, 3) := by decide +kernel
theorem dX11_run_23 : decode cX11_run 23 = .ok (.aload_n 0, 1) := by decide +kernel
theorem dX11_run_24 : decode cX11_run 24 = .ok (.invokevirtual 289, 3) := by decide +kernel
theorem dX11_run_27 : decode cX11_run 27 = .ok (.iinc 2 1, 3) := by decide +kernel
theorem dX11_run_30 : decode cX11_run 30 = .ok (.goto (-12), 3) := by decide +kernel
theorem dX11_run_33 : decode cX11_run 33 = .ok (.aload_n 0, 1) := by decide +kernel
theorem dX11_run_34 : decode cX11_run 34 = .ok (.iconst 0, 1) := by decide +kernel
theorem dX11_run_35 : decode cX11_run 35 = .ok (.invokevirtual 292, 3) := by decide +kernel
theorem dX11_run_38 : decode cX11_run 38 = .ok (.ireturn, 1) := by decide +kernel
theorem dX11_lit_0 : decode cX11_lit 0 = .ok (.iload_n 1, 1) := by decide +kernel
theorem dX11_lit_1 : decode cX11_lit 1 = .ok (.ifCond .ne 11, 3) := by decide +kernel
theorem dX11_lit_4 : decode cX11_lit 4 = .ok (.aload_n 0, 1) := by decide +kernel
theorem dX11_lit_5 : decode cX11_lit 5 = .ok (.iconst 0, 1) := by decide +kernel
theorem dX11_lit_6 : decode cX11_lit 6 = .ok (.invokevirtual 292, 3) := by decide +kernel
theorem dX11_lit_9 : decode cX11_lit 9 = .ok (.goto 19, 3) := by decide +kernel
theorem dX11_lit_12 : decode cX11_lit 12 = .ok (.iload_n 1, 1) := by decide +kernel
theorem dX11_lit_13 : decode cX11_lit 13 = .ok (.iconst 1, 1) := by decide +kernel
theorem dX11_lit_14 : decode cX11_lit 14 = .ok (.if_icmp .ne 11, 3) := by decide +kernel
theorem dX11_lit_17 : decode cX11_lit 17 = .ok (.aload_n 0, 1) := by decide +kernel
theorem dX11_lit_18 : decode cX11_lit 18 = .ok (.iconst 1, 1) := by decide +kernel
theorem dX11_lit_19 : decode cX11_lit 19 = .ok (.invokevirtual 292, 3) := by decide +kernel
theorem dX11_lit_22 : decode cX11_lit 22 = .ok (.goto 6, 3) := by decide +kernel
theorem dX11_lit_25 : decode cX11_lit 25 = .ok (.sipush (-1002), 3) := by decide +kernel
theorem dX11_lit_28 : decode cX11_lit 28 = .ok (.ireturn, 1) := by decide +kernel
theorem dX11_dark_0 : decode cX11_dark 0 = .ok (.aload_n 0, 1) := by decide +kernel
theorem dX11_dark_1 : decode cX11_dark 1 = .ok (.getfield 227, 3) := by decide +kernel
theorem dX11_dark_4 : decode cX11_dark 4 = .ok (.istore_n 1, 1) := by decide +kernel
theorem dX11_dark_5 : decode cX11_dark 5 = .ok (.aload_n 0, 1) := by decide +kernel
theorem dX11_dark_6 : decode cX11_dark 6 = .ok (.invokevirtual 224, 3) := by decide +kernel
theorem dX11_dark_9 : decode cX11_dark 9 = .ok (.iload_n 1, 1) := by decide +kernel
theorem dX11_dark_10 : decode cX11_dark 10 = .ok (.ireturn, 1) := by decide +kernel
theorem dX11_sweep_0 : decode cX11_sweep 0 = .ok (.aload_n 0, 1) := by decide +kernel
theorem dX11_sweep_1 : decode cX11_sweep 1 = .ok (.iload_n 1, 1) := by decide +kernel
theorem dX11_sweep_2 : decode cX11_sweep 2 = .ok (.invokevirtual 242, 3) := by decide +kernel
theorem dX11_sweep_5 : decode cX11_sweep 5 = .ok (.ifCond .ne 7, 3) := by decide +kernel
theorem dX11_sweep_8 : decode cX11_sweep 8 = .ok (.sipush (-1001), 3) := by decide +kernel
theorem dX11_sweep_11 : decode cX11_sweep 11 = .ok (.ireturn, 1) := by decide +kernel
theorem dX11_sweep_12 : decode cX11_sweep 12 = .ok (.aload_n 0, 1) := by decide +kernel
theorem dX11_sweep_13 : decode cX11_sweep 13 = .ok (.getfield 16, 3) := by decide +kernel
theorem dX11_sweep_16 : decode cX11_sweep 16 = .ok (.iload_n 1, 1) := by decide +kernel
theorem dX11_sweep_17 : decode cX11_sweep 17 = .ok (.iaload, 1) := by decide +kernel
theorem dX11_sweep_18 : decode cX11_sweep 18 = .ok (.istore_n 2, 1) := by decide +kernel
theorem dX11_sweep_19 : decode cX11_sweep 19 = .ok (.aload_n 0, 1) := by decide +kernel
theorem dX11_sweep_20 : decode cX11_sweep 20 = .ok (.getfield 16, 3) := by decide +kernel
theorem dX11_sweep_23 : decode cX11_sweep 23 = .ok (.iload_n 1, 1) := by decide +kernel
theorem dX11_sweep_24 : decode cX11_sweep 24 = .ok (.iconst 0, 1) := by decide +kernel
theorem dX11_sweep_25 : decode cX11_sweep 25 = .ok (.iastore, 1) := by decide +kernel
theorem dX11_sweep_26 : decode cX11_sweep 26 = .ok (.iload_n 2, 1) := by decide +kernel
theorem dX11_sweep_27 : decode cX11_sweep 27 = .ok (.ireturn, 1) := by decide +kernel
theorem dX11_lesser_0 : decode cX11_lesser 0 = .ok (.iload_n 0, 1) := by decide +kernel
theorem dX11_lesser_1 : decode cX11_lesser 1 = .ok (.iload_n 1, 1) := by decide +kernel
theorem dX11_lesser_2 : decode cX11_lesser 2 = .ok (.if_icmp .ge 7, 3) := by decide +kernel
theorem dX11_lesser_5 : decode cX11_lesser 5 = .ok (.iload_n 0, 1) := by decide +kernel
theorem dX11_lesser_6 : decode cX11_lesser 6 = .ok (.goto 4, 3) := by decide +kernel
theorem dX11_lesser_9 : decode cX11_lesser 9 = .ok (.iload_n 1, 1) := by decide +kernel
theorem dX11_lesser_10 : decode cX11_lesser 10 = .ok (.ireturn, 1) := by decide +kernel
theorem dX11_findRound_0 : decode cX11_findRound 0 = .ok (.iconst 0, 1) := by decide +kernel
theorem dX11_findRound_1 : decode cX11_findRound 1 = .ok (.istore_n 1, 1) := by decide +kernel
theorem dX11_findRound_2 : decode cX11_findRound 2 = .ok (.iload_n 1, 1) := by decide +kernel
theorem dX11_findRound_3 : decode cX11_findRound 3 = .ok (.sipush 3200, 3) := by decide +kernel
theorem dX11_findRound_6 : decode cX11_findRound 6 = .ok (.if_icmp .ge 35, 3) := by decide +kernel
theorem dX11_findRound_9 : decode cX11_findRound 9 = .ok (.aload_n 0, 1) := by decide +kernel
theorem dX11_findRound_10 : decode cX11_findRound 10 = .ok (.getfield 63, 3) := by decide +kernel
theorem dX11_findRound_13 : decode cX11_findRound 13 = .ok (.iload_n 1, 1) := by decide +kernel
theorem dX11_findRound_14 : decode cX11_findRound 14 = .ok (.aload_n 0, 1) := by decide +kernel
theorem dX11_findRound_15 : decode cX11_findRound 15 = .ok (.iload_n 1, 1) := by decide +kernel
theorem dX11_findRound_16 : decode cX11_findRound 16 = .ok (.bipush 64, 2) := by decide +kernel
theorem dX11_findRound_18 : decode cX11_findRound 18 = .ok (.idiv, 1) := by decide +kernel
theorem dX11_findRound_19 : decode cX11_findRound 19 = .ok (.iload_n 1, 1) := by decide +kernel
theorem dX11_findRound_20 : decode cX11_findRound 20 = .ok (.bipush 64, 2) := by decide +kernel
theorem dX11_findRound_22 : decode cX11_findRound 22 = .ok (.irem, 1) := by decide +kernel
theorem dX11_findRound_23 : decode cX11_findRound 23 = .ok (.aload_n 0, 1) := by decide +kernel
theorem dX11_findRound_24 : decode cX11_findRound 24 = .ok (.getfield 29, 3) := by decide +kernel
theorem dX11_findRound_27 : decode cX11_findRound 27 = .ok (.aload_n 0, 1) := by decide +kernel
theorem dX11_findRound_28 : decode cX11_findRound 28 = .ok (.getfield 218, 3) := by decide +kernel
theorem dX11_findRound_31 : decode cX11_findRound 31 = .ok (.invokevirtual 255, 3) := by decide +kernel
theorem dX11_findRound_34 : decode cX11_findRound 34 = .ok (.iastore, 1) := by decide +kernel
theorem dX11_findRound_35 : decode cX11_findRound 35 = .ok (.iinc 1 1, 3) := by decide +kernel
theorem dX11_findRound_38 : decode cX11_findRound 38 = .ok (.goto (-36), 3) := by decide +kernel
theorem dX11_findRound_41 : decode cX11_findRound 41 = .ok (.aload_n 0, 1) := by decide +kernel
theorem dX11_findRound_42 : decode cX11_findRound 42 = .ok (.invokevirtual 111, 3) := by decide +kernel
theorem dX11_findRound_45 : decode cX11_findRound 45 = .ok (.istore_n 1, 1) := by decide +kernel
theorem dX11_findRound_46 : decode cX11_findRound 46 = .ok (.iload_n 1, 1) := by decide +kernel
theorem dX11_findRound_47 : decode cX11_findRound 47 = .ok (.ifCond .lt 227, 3) := by decide +kernel
theorem dX11_findRound_50 : decode cX11_findRound 50 = .ok (.iconst 0, 1) := by decide +kernel
theorem dX11_findRound_51 : decode cX11_findRound 51 = .ok (.istore_n 2, 1) := by decide +kernel
theorem dX11_findRound_52 : decode cX11_findRound 52 = .ok (.iload_n 2, 1) := by decide +kernel
theorem dX11_findRound_53 : decode cX11_findRound 53 = .ok (.bipush 50, 2) := by decide +kernel
theorem dX11_findRound_55 : decode cX11_findRound 55 = .ok (.if_icmp .ge 106, 3) := by decide +kernel
theorem dX11_findRound_58 : decode cX11_findRound 58 = .ok (.iload_n 1, 1) := by decide +kernel
theorem dX11_findRound_59 : decode cX11_findRound 59 = .ok (.aload_n 0, 1) := by decide +kernel
theorem dX11_findRound_60 : decode cX11_findRound 60 = .ok (.invokevirtual 111, 3) := by decide +kernel
theorem dX11_findRound_63 : decode cX11_findRound 63 = .ok (.if_icmp .ne 7, 3) := by decide +kernel
theorem dX11_findRound_66 : decode cX11_findRound 66 = .ok (.iconst 0, 1) := by decide +kernel
theorem dX11_findRound_67 : decode cX11_findRound 67 = .ok (.goto 6, 3) := by decide +kernel
theorem dX11_findRound_70 : decode cX11_findRound 70 = .ok (.ldc_w 296, 3) := by decide +kernel
theorem dX11_findRound_73 : decode cX11_findRound 73 = .ok (.istore_n 3, 1) := by decide +kernel
theorem dX11_findRound_74 : decode cX11_findRound 74 = .ok (.iconst 0, 1) := by decide +kernel
theorem dX11_findRound_75 : decode cX11_findRound 75 = .ok (.istore 4, 2) := by decide +kernel
theorem dX11_findRound_77 : decode cX11_findRound 77 = .ok (.iload 4, 2) := by decide +kernel
theorem dX11_findRound_79 : decode cX11_findRound 79 = .ok (.bipush 64, 2) := by decide +kernel
theorem dX11_findRound_81 : decode cX11_findRound 81 = .ok (.if_icmp .ge 62, 3) := by decide +kernel
theorem dX11_findRound_84 : decode cX11_findRound 84 = .ok (.iload_n 1, 1) := by decide +kernel
theorem dX11_findRound_85 : decode cX11_findRound 85 = .ok (.aload_n 0, 1) := by decide +kernel
theorem dX11_findRound_86 : decode cX11_findRound 86 = .ok (.invokevirtual 111, 3) := by decide +kernel
theorem dX11_findRound_89 : decode cX11_findRound 89 = .ok (.if_icmp .eq 54, 3) := by decide +kernel
theorem dX11_findRound_92 : decode cX11_findRound 92 = .ok (.iload_n 1, 1) := by decide +kernel
theorem dX11_findRound_93 : decode cX11_findRound 93 = .ok (.aload_n 0, 1) := by decide +kernel
theorem dX11_findRound_94 : decode cX11_findRound 94 = .ok (.getfield 63, 3) := by decide +kernel
theorem dX11_findRound_97 : decode cX11_findRound 97 = .ok (.bipush 64, 2) := by decide +kernel
theorem dX11_findRound_99 : decode cX11_findRound 99 = .ok (.iload_n 2, 1) := by decide +kernel
theorem dX11_findRound_100 : decode cX11_findRound 100 = .ok (.imul, 1) := by decide +kernel
theorem dX11_findRound_101 : decode cX11_findRound 101 = .ok (.iload 4, 2) := by decide +kernel
theorem dX11_findRound_103 : decode cX11_findRound 103 = .ok (.iadd, 1) := by decide +kernel
theorem dX11_findRound_104 : decode cX11_findRound 104 = .ok (.iaload, 1) := by decide +kernel
theorem dX11_findRound_105 : decode cX11_findRound 105 = .ok (.ior, 1) := by decide +kernel
theorem dX11_findRound_106 : decode cX11_findRound 106 = .ok (.istore 5, 2) := by decide +kernel
theorem dX11_findRound_108 : decode cX11_findRound 108 = .ok (.iload 5, 2) := by decide +kernel
theorem dX11_findRound_110 : decode cX11_findRound 110 = .ok (.iload_n 1, 1) := by decide +kernel
theorem dX11_findRound_111 : decode cX11_findRound 111 = .ok (.if_icmp .ne 7, 3) := by decide +kernel
theorem dX11_findRound_114 : decode cX11_findRound 114 = .ok (.iload_n 3, 1) := by decide +kernel
theorem dX11_findRound_115 : decode cX11_findRound 115 = .ok (.goto 21, 3) := by decide +kernel
theorem dX11_findRound_118 : decode cX11_findRound 118 = .ok (.iload_n 3, 1) := by decide +kernel
theorem dX11_findRound_119 : decode cX11_findRound 119 = .ok (.iconst 1, 1) := by decide +kernel
theorem dX11_findRound_120 : decode cX11_findRound 120 = .ok (.aload_n 0, 1) := by decide +kernel
theorem dX11_findRound_121 : decode cX11_findRound 121 = .ok (.getfield 60, 3) := by decide +kernel
theorem dX11_findRound_124 : decode cX11_findRound 124 = .ok (.bipush 50, 2) := by decide +kernel
theorem dX11_findRound_126 : decode cX11_findRound 126 = .ok (.iload 5, 2) := by decide +kernel
theorem dX11_findRound_128 : decode cX11_findRound 128 = .ok (.imul, 1) := by decide +kernel
theorem dX11_findRound_129 : decode cX11_findRound 129 = .ok (.iload_n 2, 1) := by decide +kernel
theorem dX11_findRound_130 : decode cX11_findRound 130 = .ok (.iadd, 1) := by decide +kernel
theorem dX11_findRound_131 : decode cX11_findRound 131 = .ok (.iaload, 1) := by decide +kernel
theorem dX11_findRound_132 : decode cX11_findRound 132 = .ok (.iadd, 1) := by decide +kernel
theorem dX11_findRound_133 : decode cX11_findRound 133 = .ok (.invokestatic 297, 3) := by decide +kernel
theorem dX11_findRound_136 : decode cX11_findRound 136 = .ok (.istore_n 3, 1) := by decide +kernel
theorem dX11_findRound_137 : decode cX11_findRound 137 = .ok (.iinc 4 1, 3) := by decide +kernel
theorem dX11_findRound_140 : decode cX11_findRound 140 = .ok (.goto (-63), 3) := by decide +kernel
theorem dX11_findRound_143 : decode cX11_findRound 143 = .ok (.aload_n 0, 1) := by decide +kernel
theorem dX11_findRound_144 : decode cX11_findRound 144 = .ok (.getfield 60, 3) := by decide +kernel
theorem dX11_findRound_147 : decode cX11_findRound 147 = .ok (.bipush 50, 2) := by decide +kernel
theorem dX11_findRound_149 : decode cX11_findRound 149 = .ok (.iload_n 1, 1) := by decide +kernel
theorem dX11_findRound_150 : decode cX11_findRound 150 = .ok (.imul, 1) := by decide +kernel
theorem dX11_findRound_151 : decode cX11_findRound 151 = .ok (.iload_n 2, 1) := by decide +kernel
theorem dX11_findRound_152 : decode cX11_findRound 152 = .ok (.iadd, 1) := by decide +kernel
theorem dX11_findRound_153 : decode cX11_findRound 153 = .ok (.iload_n 3, 1) := by decide +kernel
theorem dX11_findRound_154 : decode cX11_findRound 154 = .ok (.iastore, 1) := by decide +kernel
theorem dX11_findRound_155 : decode cX11_findRound 155 = .ok (.iinc 2 1, 3) := by decide +kernel
theorem dX11_findRound_158 : decode cX11_findRound 158 = .ok (.goto (-106), 3) := by decide +kernel
theorem dX11_findRound_161 : decode cX11_findRound 161 = .ok (.iconst 1, 1) := by decide +kernel
theorem dX11_findRound_162 : decode cX11_findRound 162 = .ok (.istore_n 2, 1) := by decide +kernel
theorem dX11_findRound_163 : decode cX11_findRound 163 = .ok (.iload_n 2, 1) := by decide +kernel
theorem dX11_findRound_164 : decode cX11_findRound 164 = .ok (.bipush 50, 2) := by decide +kernel
theorem dX11_findRound_166 : decode cX11_findRound 166 = .ok (.if_icmp .ge 49, 3) := by decide +kernel
theorem dX11_findRound_169 : decode cX11_findRound 169 = .ok (.aload_n 0, 1) := by decide +kernel
theorem dX11_findRound_170 : decode cX11_findRound 170 = .ok (.getfield 60, 3) := by decide +kernel
theorem dX11_findRound_173 : decode cX11_findRound 173 = .ok (.bipush 50, 2) := by decide +kernel
theorem dX11_findRound_175 : decode cX11_findRound 175 = .ok (.iload_n 1, 1) := by decide +kernel
theorem dX11_findRound_176 : decode cX11_findRound 176 = .ok (.imul, 1) := by decide +kernel
theorem dX11_findRound_177 : decode cX11_findRound 177 = .ok (.iload_n 2, 1) := by decide +kernel
theorem dX11_findRound_178 : decode cX11_findRound 178 = .ok (.iadd, 1) := by decide +kernel
theorem dX11_findRound_179 : decode cX11_findRound 179 = .ok (.aload_n 0, 1) := by decide +kernel
theorem dX11_findRound_180 : decode cX11_findRound 180 = .ok (.getfield 60, 3) := by decide +kernel
theorem dX11_findRound_183 : decode cX11_findRound 183 = .ok (.bipush 50, 2) := by decide +kernel
theorem dX11_findRound_185 : decode cX11_findRound 185 = .ok (.iload_n 1, 1) := by decide +kernel
theorem dX11_findRound_186 : decode cX11_findRound 186 = .ok (.imul, 1) := by decide +kernel
theorem dX11_findRound_187 : decode cX11_findRound 187 = .ok (.iload_n 2, 1) := by decide +kernel
theorem dX11_findRound_188 : decode cX11_findRound 188 = .ok (.iadd, 1) := by decide +kernel
theorem dX11_findRound_189 : decode cX11_findRound 189 = .ok (.iaload, 1) := by decide +kernel
theorem dX11_findRound_190 : decode cX11_findRound 190 = .ok (.iconst 1, 1) := by decide +kernel
theorem dX11_findRound_191 : decode cX11_findRound 191 = .ok (.aload_n 0, 1) := by decide +kernel
theorem dX11_findRound_192 : decode cX11_findRound 192 = .ok (.getfield 60, 3) := by decide +kernel
theorem dX11_findRound_195 : decode cX11_findRound 195 = .ok (.bipush 50, 2) := by decide +kernel
theorem dX11_findRound_197 : decode cX11_findRound 197 = .ok (.iload_n 1, 1) := by decide +kernel
theorem dX11_findRound_198 : decode cX11_findRound 198 = .ok (.imul, 1) := by decide +kernel
theorem dX11_findRound_199 : decode cX11_findRound 199 = .ok (.iload_n 2, 1) := by decide +kernel
theorem dX11_findRound_200 : decode cX11_findRound 200 = .ok (.iadd, 1) := by decide +kernel
theorem dX11_findRound_201 : decode cX11_findRound 201 = .ok (.iconst 1, 1) := by decide +kernel
theorem dX11_findRound_202 : decode cX11_findRound 202 = .ok (.isub, 1) := by decide +kernel
theorem dX11_findRound_203 : decode cX11_findRound 203 = .ok (.iaload, 1) := by decide +kernel
theorem dX11_findRound_204 : decode cX11_findRound 204 = .ok (.iadd, 1) := by decide +kernel
theorem dX11_findRound_205 : decode cX11_findRound 205 = .ok (.invokestatic 297, 3) := by decide +kernel
theorem dX11_findRound_208 : decode cX11_findRound 208 = .ok (.iastore, 1) := by decide +kernel
theorem dX11_findRound_209 : decode cX11_findRound 209 = .ok (.iinc 2 1, 3) := by decide +kernel
theorem dX11_findRound_212 : decode cX11_findRound 212 = .ok (.goto (-49), 3) := by decide +kernel
theorem dX11_findRound_215 : decode cX11_findRound 215 = .ok (.bipush 48, 2) := by decide +kernel
theorem dX11_findRound_217 : decode cX11_findRound 217 = .ok (.istore_n 2, 1) := by decide +kernel
theorem dX11_findRound_218 : decode cX11_findRound 218 = .ok (.iload_n 2, 1) := by decide +kernel
theorem dX11_findRound_219 : decode cX11_findRound 219 = .ok (.ifCond .lt 49, 3) := by decide +kernel
theorem dX11_findRound_222 : decode cX11_findRound 222 = .ok (.aload_n 0, 1) := by decide +kernel
theorem dX11_findRound_223 : decode cX11_findRound 223 = .ok (.getfield 60, 3) := by decide +kernel
theorem dX11_findRound_226 : decode cX11_findRound 226 = .ok (.bipush 50, 2) := by decide +kernel
theorem dX11_findRound_228 : decode cX11_findRound 228 = .ok (.iload_n 1, 1) := by decide +kernel
theorem dX11_findRound_229 : decode cX11_findRound 229 = .ok (.imul, 1) := by decide +kernel
theorem dX11_findRound_230 : decode cX11_findRound 230 = .ok (.iload_n 2, 1) := by decide +kernel
theorem dX11_findRound_231 : decode cX11_findRound 231 = .ok (.iadd, 1) := by decide +kernel
theorem dX11_findRound_232 : decode cX11_findRound 232 = .ok (.aload_n 0, 1) := by decide +kernel
theorem dX11_findRound_233 : decode cX11_findRound 233 = .ok (.getfield 60, 3) := by decide +kernel
theorem dX11_findRound_236 : decode cX11_findRound 236 = .ok (.bipush 50, 2) := by decide +kernel
theorem dX11_findRound_238 : decode cX11_findRound 238 = .ok (.iload_n 1, 1) := by decide +kernel
theorem dX11_findRound_239 : decode cX11_findRound 239 = .ok (.imul, 1) := by decide +kernel
theorem dX11_findRound_240 : decode cX11_findRound 240 = .ok (.iload_n 2, 1) := by decide +kernel
theorem dX11_findRound_241 : decode cX11_findRound 241 = .ok (.iadd, 1) := by decide +kernel
theorem dX11_findRound_242 : decode cX11_findRound 242 = .ok (.iaload, 1) := by decide +kernel
theorem dX11_findRound_243 : decode cX11_findRound 243 = .ok (.iconst 1, 1) := by decide +kernel
theorem dX11_findRound_244 : decode cX11_findRound 244 = .ok (.aload_n 0, 1) := by decide +kernel
theorem dX11_findRound_245 : decode cX11_findRound 245 = .ok (.getfield 60, 3) := by decide +kernel
theorem dX11_findRound_248 : decode cX11_findRound 248 = .ok (.bipush 50, 2) := by decide +kernel
theorem dX11_findRound_250 : decode cX11_findRound 250 = .ok (.iload_n 1, 1) := by decide +kernel
theorem dX11_findRound_251 : decode cX11_findRound 251 = .ok (.imul, 1) := by decide +kernel
theorem dX11_findRound_252 : decode cX11_findRound 252 = .ok (.iload_n 2, 1) := by decide +kernel
theorem dX11_findRound_253 : decode cX11_findRound 253 = .ok (.iadd, 1) := by decide +kernel
theorem dX11_findRound_254 : decode cX11_findRound 254 = .ok (.iconst 1, 1) := by decide +kernel
theorem dX11_findRound_255 : decode cX11_findRound 255 = .ok (.iadd, 1) := by decide +kernel
theorem dX11_findRound_256 : decode cX11_findRound 256 = .ok (.iaload, 1) := by decide +kernel
theorem dX11_findRound_257 : decode cX11_findRound 257 = .ok (.iadd, 1) := by decide +kernel
theorem dX11_findRound_258 : decode cX11_findRound 258 = .ok (.invokestatic 297, 3) := by decide +kernel
theorem dX11_findRound_261 : decode cX11_findRound 261 = .ok (.iastore, 1) := by decide +kernel
theorem dX11_findRound_262 : decode cX11_findRound 262 = .ok (.iinc 2 (-1), 3) := by decide +kernel
theorem dX11_findRound_265 : decode cX11_findRound 265 = .ok (.goto (-47), 3) := by decide +kernel
theorem dX11_findRound_268 : decode cX11_findRound 268 = .ok (.iinc 1 (-1), 3) := by decide +kernel
theorem dX11_findRound_271 : decode cX11_findRound 271 = .ok (.goto (-225), 3) := by decide +kernel
theorem dX11_findRound_274 : decode cX11_findRound 274 = .ok (.return_, 1) := by decide +kernel
theorem dX11_step_0 : decode cX11_step 0 = .ok (.aload_n 0, 1) := by decide +kernel
theorem dX11_step_1 : decode cX11_step 1 = .ok (.getfield 60, 3) := by decide +kernel
theorem dX11_step_4 : decode cX11_step 4 = .ok (.bipush 50, 2) := by decide +kernel
theorem dX11_step_6 : decode cX11_step 6 = .ok (.aload_n 0, 1) := by decide +kernel
theorem dX11_step_7 : decode cX11_step 7 = .ok (.getfield 300, 3) := by decide +kernel
theorem dX11_step_10 : decode cX11_step 10 = .ok (.imul, 1) := by decide +kernel
theorem dX11_step_11 : decode cX11_step 11 = .ok (.aload_n 0, 1) := by decide +kernel
theorem dX11_step_12 : decode cX11_step 12 = .ok (.getfield 303, 3) := by decide +kernel
theorem dX11_step_15 : decode cX11_step 15 = .ok (.iadd, 1) := by decide +kernel
theorem dX11_step_16 : decode cX11_step 16 = .ok (.iaload, 1) := by decide +kernel
theorem dX11_step_17 : decode cX11_step 17 = .ok (.istore_n 1, 1) := by decide +kernel
theorem dX11_step_18 : decode cX11_step 18 = .ok (.iconst 0, 1) := by decide +kernel
theorem dX11_step_19 : decode cX11_step 19 = .ok (.istore_n 2, 1) := by decide +kernel
theorem dX11_step_20 : decode cX11_step 20 = .ok (.iload_n 2, 1) := by decide +kernel
theorem dX11_step_21 : decode cX11_step 21 = .ok (.bipush 64, 2) := by decide +kernel
theorem dX11_step_23 : decode cX11_step 23 = .ok (.if_icmp .ge 56, 3) := by decide +kernel
theorem dX11_step_26 : decode cX11_step 26 = .ok (.aload_n 0, 1) := by decide +kernel
theorem dX11_step_27 : decode cX11_step 27 = .ok (.getfield 300, 3) := by decide +kernel
theorem dX11_step_30 : decode cX11_step 30 = .ok (.aload_n 0, 1) := by decide +kernel
theorem dX11_step_31 : decode cX11_step 31 = .ok (.getfield 63, 3) := by decide +kernel
theorem dX11_step_34 : decode cX11_step 34 = .ok (.bipush 64, 2) := by decide +kernel
theorem dX11_step_36 : decode cX11_step 36 = .ok (.aload_n 0, 1) := by decide +kernel
theorem dX11_step_37 : decode cX11_step 37 = .ok (.getfield 303, 3) := by decide +kernel
theorem dX11_step_40 : decode cX11_step 40 = .ok (.imul, 1) := by decide +kernel
theorem dX11_step_41 : decode cX11_step 41 = .ok (.iload_n 2, 1) := by decide +kernel
theorem dX11_step_42 : decode cX11_step 42 = .ok (.iadd, 1) := by decide +kernel
theorem dX11_step_43 : decode cX11_step 43 = .ok (.iaload, 1) := by decide +kernel
theorem dX11_step_44 : decode cX11_step 44 = .ok (.ior, 1) := by decide +kernel
theorem dX11_step_45 : decode cX11_step 45 = .ok (.istore_n 3, 1) := by decide +kernel
theorem dX11_step_46 : decode cX11_step 46 = .ok (.aload_n 0, 1) := by decide +kernel
theorem dX11_step_47 : decode cX11_step 47 = .ok (.getfield 60, 3) := by decide +kernel
theorem dX11_step_50 : decode cX11_step 50 = .ok (.bipush 50, 2) := by decide +kernel
theorem dX11_step_52 : decode cX11_step 52 = .ok (.iload_n 3, 1) := by decide +kernel
theorem dX11_step_53 : decode cX11_step 53 = .ok (.imul, 1) := by decide +kernel
theorem dX11_step_54 : decode cX11_step 54 = .ok (.aload_n 0, 1) := by decide +kernel
theorem dX11_step_55 : decode cX11_step 55 = .ok (.getfield 303, 3) := by decide +kernel
theorem dX11_step_58 : decode cX11_step 58 = .ok (.iadd, 1) := by decide +kernel
theorem dX11_step_59 : decode cX11_step 59 = .ok (.iaload, 1) := by decide +kernel
theorem dX11_step_60 : decode cX11_step 60 = .ok (.iload_n 1, 1) := by decide +kernel
theorem dX11_step_61 : decode cX11_step 61 = .ok (.iconst 1, 1) := by decide +kernel
theorem dX11_step_62 : decode cX11_step 62 = .ok (.isub, 1) := by decide +kernel
theorem dX11_step_63 : decode cX11_step 63 = .ok (.if_icmp .ne 10, 3) := by decide +kernel
theorem dX11_step_66 : decode cX11_step 66 = .ok (.aload_n 0, 1) := by decide +kernel
theorem dX11_step_67 : decode cX11_step 67 = .ok (.iload_n 3, 1) := by decide +kernel
theorem dX11_step_68 : decode cX11_step 68 = .ok (.putfield 300, 3) := by decide +kernel
theorem dX11_step_71 : decode cX11_step 71 = .ok (.iload_n 2, 1) := by decide +kernel
theorem dX11_step_72 : decode cX11_step 72 = .ok (.ireturn, 1) := by decide +kernel
theorem dX11_step_73 : decode cX11_step 73 = .ok (.iinc 2 1, 3) := by decide +kernel
theorem dX11_step_76 : decode cX11_step 76 = .ok (.goto (-56), 3) := by decide +kernel
theorem dX11_step_79 : decode cX11_step 79 = .ok (.aload_n 0, 1) := by decide +kernel
theorem dX11_step_80 : decode cX11_step 80 = .ok (.getfield 303, 3) := by decide +kernel
theorem dX11_step_83 : decode cX11_step 83 = .ok (.bipush 49, 2) := by decide +kernel
theorem dX11_step_85 : decode cX11_step 85 = .ok (.if_icmp .ge 32, 3) := by decide +kernel
theorem dX11_step_88 : decode cX11_step 88 = .ok (.aload_n 0, 1) := by decide +kernel
theorem dX11_step_89 : decode cX11_step 89 = .ok (.getfield 60, 3) := by decide +kernel
theorem dX11_step_92 : decode cX11_step 92 = .ok (.bipush 50, 2) := by decide +kernel
theorem dX11_step_94 : decode cX11_step 94 = .ok (.aload_n 0, 1) := by decide +kernel
theorem dX11_step_95 : decode cX11_step 95 = .ok (.getfield 300, 3) := by decide +kernel
theorem dX11_step_98 : decode cX11_step 98 = .ok (.imul, 1) := by decide +kernel
theorem dX11_step_99 : decode cX11_step 99 = .ok (.aload_n 0, 1) := by decide +kernel
theorem dX11_step_100 : decode cX11_step 100 = .ok (.getfield 303, 3) := by decide +kernel
theorem dX11_step_103 : decode cX11_step 103 = .ok (.iadd, 1) := by decide +kernel
theorem dX11_step_104 : decode cX11_step 104 = .ok (.iconst 1, 1) := by decide +kernel
theorem dX11_step_105 : decode cX11_step 105 = .ok (.iadd, 1) := by decide +kernel
theorem dX11_step_106 : decode cX11_step 106 = .ok (.iaload, 1) := by decide +kernel
theorem dX11_step_107 : decode cX11_step 107 = .ok (.iload_n 1, 1) := by decide +kernel
theorem dX11_step_108 : decode cX11_step 108 = .ok (.iconst 1, 1) := by decide +kernel
theorem dX11_step_109 : decode cX11_step 109 = .ok (.isub, 1) := by decide +kernel
theorem dX11_step_110 : decode cX11_step 110 = .ok (.if_icmp .ne 7, 3) := by decide +kernel
theorem dX11_step_113 : decode cX11_step 113 = .ok (.iconst 1, 1) := by decide +kernel
theorem dX11_step_114 : decode cX11_step 114 = .ok (.goto 4, 3) := by decide +kernel
theorem dX11_step_117 : decode cX11_step 117 = .ok (.iconst 0, 1) := by decide +kernel
theorem dX11_step_118 : decode cX11_step 118 = .ok (.istore_n 2, 1) := by decide +kernel
theorem dX11_step_119 : decode cX11_step 119 = .ok (.aload_n 0, 1) := by decide +kernel
theorem dX11_step_120 : decode cX11_step 120 = .ok (.dup, 1) := by decide +kernel
theorem dX11_step_121 : decode cX11_step 121 = .ok (.getfield 303, 3) := by decide +kernel
theorem dX11_step_124 : decode cX11_step 124 = .ok (.iload_n 2, 1) := by decide +kernel
theorem dX11_step_125 : decode cX11_step 125 = .ok (.ifCond .eq 7, 3) := by decide +kernel
theorem dX11_step_128 : decode cX11_step 128 = .ok (.iconst 1, 1) := by decide +kernel
theorem dX11_step_129 : decode cX11_step 129 = .ok (.goto 4, 3) := by decide +kernel
theorem dX11_step_132 : decode cX11_step 132 = .ok (.iconst (-1), 1) := by decide +kernel
theorem dX11_step_133 : decode cX11_step 133 = .ok (.iadd, 1) := by decide +kernel
theorem dX11_step_134 : decode cX11_step 134 = .ok (.putfield 303, 3) := by decide +kernel
theorem dX11_step_137 : decode cX11_step 137 = .ok (.iload_n 2, 1) := by decide +kernel
theorem dX11_step_138 : decode cX11_step 138 = .ok (.ifCond .eq 8, 3) := by decide +kernel
theorem dX11_step_141 : decode cX11_step 141 = .ok (.bipush 64, 2) := by decide +kernel
theorem dX11_step_143 : decode cX11_step 143 = .ok (.goto 5, 3) := by decide +kernel
theorem dX11_step_146 : decode cX11_step 146 = .ok (.bipush 65, 2) := by decide +kernel
theorem dX11_step_148 : decode cX11_step 148 = .ok (.ireturn, 1) := by decide +kernel
theorem dX11_beginRound_0 : decode cX11_beginRound 0 = .ok (.aload_n 0, 1) := by decide +kernel
theorem dX11_beginRound_1 : decode cX11_beginRound 1 = .ok (.invokevirtual 306, 3) := by decide +kernel
theorem dX11_beginRound_4 : decode cX11_beginRound 4 = .ok (.aload_n 0, 1) := by decide +kernel
theorem dX11_beginRound_5 : decode cX11_beginRound 5 = .ok (.iconst 0, 1) := by decide +kernel
theorem dX11_beginRound_6 : decode cX11_beginRound 6 = .ok (.putfield 300, 3) := by decide +kernel
theorem dX11_beginRound_9 : decode cX11_beginRound 9 = .ok (.aload_n 0, 1) := by decide +kernel
theorem dX11_beginRound_10 : decode cX11_beginRound 10 = .ok (.iconst 0, 1) := by decide +kernel
theorem dX11_beginRound_11 : decode cX11_beginRound 11 = .ok (.putfield 303, 3) := by decide +kernel
theorem dX11_beginRound_14 : decode cX11_beginRound 14 = .ok (.aload_n 0, 1) := by decide +kernel
theorem dX11_beginRound_15 : decode cX11_beginRound 15 = .ok (.getfield 60, 3) := by decide +kernel
theorem dX11_beginRound_18 : decode cX11_beginRound 18 = .ok (.iconst 0, 1) := by decide +kernel
theorem dX11_beginRound_19 : decode cX11_beginRound 19 = .ok (.iaload, 1) := by decide +kernel
theorem dX11_beginRound_20 : decode cX11_beginRound 20 = .ok (.ldc_w 296, 3) := by decide +kernel
theorem dX11_beginRound_23 : decode cX11_beginRound 23 = .ok (.if_icmp .lt 7, 3) := by decide +kernel
theorem dX11_beginRound_26 : decode cX11_beginRound 26 = .ok (.iconst (-1), 1) := by decide +kernel
theorem dX11_beginRound_27 : decode cX11_beginRound 27 = .ok (.goto 9, 3) := by decide +kernel
theorem dX11_beginRound_30 : decode cX11_beginRound 30 = .ok (.aload_n 0, 1) := by decide +kernel
theorem dX11_beginRound_31 : decode cX11_beginRound 31 = .ok (.getfield 60, 3) := by decide +kernel
theorem dX11_beginRound_34 : decode cX11_beginRound 34 = .ok (.iconst 0, 1) := by decide +kernel
theorem dX11_beginRound_35 : decode cX11_beginRound 35 = .ok (.iaload, 1) := by decide +kernel
theorem dX11_beginRound_36 : decode cX11_beginRound 36 = .ok (.ireturn, 1) := by decide +kernel
theorem dX11_round_0 : decode cX11_round 0 = .ok (.aload_n 0, 1) := by decide +kernel
theorem dX11_round_1 : decode cX11_round 1 = .ok (.invokevirtual 309, 3) := by decide +kernel
theorem dX11_round_4 : decode cX11_round 4 = .ok (.istore_n 2, 1) := by decide +kernel
theorem dX11_round_5 : decode cX11_round 5 = .ok (.iload_n 2, 1) := by decide +kernel
theorem dX11_round_6 : decode cX11_round 6 = .ok (.ifCond .lt 8, 3) := by decide +kernel
theorem dX11_round_9 : decode cX11_round 9 = .ok (.iload_n 1, 1) := by decide +kernel
theorem dX11_round_10 : decode cX11_round 10 = .ok (.iconst (-1), 1) := by decide +kernel
theorem dX11_round_11 : decode cX11_round 11 = .ok (.if_icmp .ne 5, 3) := by decide +kernel
theorem dX11_round_14 : decode cX11_round 14 = .ok (.iload_n 2, 1) := by decide +kernel
theorem dX11_round_15 : decode cX11_round 15 = .ok (.ireturn, 1) := by decide +kernel
theorem dX11_round_16 : decode cX11_round 16 = .ok (.iload_n 1, 1) := by decide +kernel
theorem dX11_round_17 : decode cX11_round 17 = .ok (.i2l, 1) := by decide +kernel
theorem dX11_round_18 : decode cX11_round 18 = .ok (.lconst 0, 1) := by decide +kernel
theorem dX11_round_19 : decode cX11_round 19 = .ok (.iload_n 2, 1) := by decide +kernel
theorem dX11_round_20 : decode cX11_round 20 = .ok (.iconst 1, 1) := by decide +kernel
theorem dX11_round_21 : decode cX11_round 21 = .ok (.isub, 1) := by decide +kernel
theorem dX11_round_22 : decode cX11_round 22 = .ok (.i2l, 1) := by decide +kernel
theorem dX11_round_23 : decode cX11_round 23 = .ok (.invokestatic 107, 3) := by decide +kernel
theorem dX11_round_26 : decode cX11_round 26 = .ok (.ifCond .ne 5, 3) := by decide +kernel
theorem dX11_round_29 : decode cX11_round 29 = .ok (.iconst (-1), 1) := by decide +kernel
theorem dX11_round_30 : decode cX11_round 30 = .ok (.ireturn, 1) := by decide +kernel
theorem dX11_round_31 : decode cX11_round 31 = .ok (.iconst (-1), 1) := by decide +kernel
theorem dX11_round_32 : decode cX11_round 32 = .ok (.istore_n 3, 1) := by decide +kernel
theorem dX11_round_33 : decode cX11_round 33 = .ok (.iconst 0, 1) := by decide +kernel
theorem dX11_round_34 : decode cX11_round 34 = .ok (.istore 4, 2) := by decide +kernel
theorem dX11_round_36 : decode cX11_round 36 = .ok (.iload 4, 2) := by decide +kernel
theorem dX11_round_38 : decode cX11_round 38 = .ok (.iload_n 1, 1) := by decide +kernel
theorem dX11_round_39 : decode cX11_round 39 = .ok (.if_icmp .gt 14, 3) := by decide +kernel
theorem dX11_round_42 : decode cX11_round 42 = .ok (.aload_n 0, 1) := by decide +kernel
theorem dX11_round_43 : decode cX11_round 43 = .ok (.invokevirtual 312, 3) := by decide +kernel
theorem dX11_round_46 : decode cX11_round 46 = .ok (.istore_n 3, 1) := by decide +kernel
theorem dX11_round_47 : decode cX11_round 47 = .ok (.iinc 4 1, 3) := by decide +kernel
theorem dX11_round_50 : decode cX11_round 50 = .ok (.goto (-14), 3) := by decide +kernel
theorem dX11_round_53 : decode cX11_round 53 = .ok (.iload_n 3, 1) := by decide +kernel
theorem dX11_round_54 : decode cX11_round 54 = .ok (.ireturn, 1) := by decide +kernel
theorem dX11_signal_0 : decode cX11_signal 0 = .ok (.aload_n 0, 1) := by decide +kernel
theorem dX11_signal_1 : decode cX11_signal 1 = .ok (.iload_n 1, 1) := by decide +kernel
theorem dX11_signal_2 : decode cX11_signal 2 = .ok (.invokevirtual 315, 3) := by decide +kernel
theorem dX11_signal_5 : decode cX11_signal 5 = .ok (.ifCond .ne 7, 3) := by decide +kernel
theorem dX11_signal_8 : decode cX11_signal 8 = .ok (.sipush (-1001), 3) := by decide +kernel
theorem dX11_signal_11 : decode cX11_signal 11 = .ok (.ireturn, 1) := by decide +kernel
theorem dX11_signal_12 : decode cX11_signal 12 = .ok (.iconst 0, 1) := by decide +kernel
theorem dX11_signal_13 : decode cX11_signal 13 = .ok (.istore_n 2, 1) := by decide +kernel
theorem dX11_signal_14 : decode cX11_signal 14 = .ok (.iload_n 2, 1) := by decide +kernel
theorem dX11_signal_15 : decode cX11_signal 15 = .ok (.aload_n 0, 1) := by decide +kernel
theorem dX11_signal_16 : decode cX11_signal 16 = .ok (.getfield 212, 3) := by decide +kernel
theorem dX11_signal_19 : decode cX11_signal 19 = .ok (.if_icmp .ge 23, 3) := by decide +kernel
theorem dX11_signal_22 : decode cX11_signal 22 = .ok (.aload_n 0, 1) := by decide +kernel
theorem dX11_signal_23 : decode cX11_signal 23 = .ok (.getfield 66, 3) := by decide +kernel
theorem dX11_signal_26 : decode cX11_signal 26 = .ok (.iload_n 2, 1) := by decide +kernel
theorem dX11_signal_27 : decode cX11_signal 27 = .ok (.iaload, 1) := by decide +kernel
theorem dX11_signal_28 : decode cX11_signal 28 = .ok (.iload_n 1, 1) := by decide +kernel
theorem dX11_signal_29 : decode cX11_signal 29 = .ok (.if_icmp .ne 7, 3) := by decide +kernel
theorem dX11_signal_32 : decode cX11_signal 32 = .ok (.sipush (-1003), 3) := by decide +kernel
theorem dX11_signal_35 : decode cX11_signal 35 = .ok (.ireturn, 1) := by decide +kernel
theorem dX11_signal_36 : decode cX11_signal 36 = .ok (.iinc 2 1, 3) := by decide +kernel
theorem dX11_signal_39 : decode cX11_signal 39 = .ok (.goto (-25), 3) := by decide +kernel
theorem dX11_signal_42 : decode cX11_signal 42 = .ok (.aload_n 0, 1) := by decide +kernel
theorem dX11_signal_43 : decode cX11_signal 43 = .ok (.getfield 212, 3) := by decide +kernel
theorem dX11_signal_46 : decode cX11_signal 46 = .ok (.bipush 8, 2) := by decide +kernel
theorem dX11_signal_48 : decode cX11_signal 48 = .ok (.if_icmp .ne 7, 3) := by decide +kernel
theorem dX11_signal_51 : decode cX11_signal 51 = .ok (.sipush (-1004), 3) := by decide +kernel
theorem dX11_signal_54 : decode cX11_signal 54 = .ok (.ireturn, 1) := by decide +kernel
theorem dX11_signal_55 : decode cX11_signal 55 = .ok (.aload_n 0, 1) := by decide +kernel
theorem dX11_signal_56 : decode cX11_signal 56 = .ok (.getfield 66, 3) := by decide +kernel
theorem dX11_signal_59 : decode cX11_signal 59 = .ok (.aload_n 0, 1) := by decide +kernel
theorem dX11_signal_60 : decode cX11_signal 60 = .ok (.getfield 212, 3) := by decide +kernel
theorem dX11_signal_63 : decode cX11_signal 63 = .ok (.iload_n 1, 1) := by decide +kernel
theorem dX11_signal_64 : decode cX11_signal 64 = .ok (.iastore, 1) := by decide +kernel
theorem dX11_signal_65 : decode cX11_signal 65 = .ok (.aload_n 0, 1) := by decide +kernel
theorem dX11_signal_66 : decode cX11_signal 66 = .ok (.dup, 1) := by decide +kernel
theorem dX11_signal_67 : decode cX11_signal 67 = .ok (.getfield 212, 3) := by decide +kernel
theorem dX11_signal_70 : decode cX11_signal 70 = .ok (.iconst 1, 1) := by decide +kernel
theorem dX11_signal_71 : decode cX11_signal 71 = .ok (.iadd, 1) := by decide +kernel
theorem dX11_signal_72 : decode cX11_signal 72 = .ok (.putfield 212, 3) := by decide +kernel
theorem dX11_signal_75 : decode cX11_signal 75 = .ok (.aload_n 0, 1) := by decide +kernel
theorem dX11_signal_76 : decode cX11_signal 76 = .ok (.getfield 212, 3) := by decide +kernel
theorem dX11_signal_79 : decode cX11_signal 79 = .ok (.iconst 1, 1) := by decide +kernel
theorem dX11_signal_80 : decode cX11_signal 80 = .ok (.isub, 1) := by decide +kernel
theorem dX11_signal_81 : decode cX11_signal 81 = .ok (.ireturn, 1) := by decide +kernel
theorem dX11_forget_0 : decode cX11_forget 0 = .ok (.aload_n 0, 1) := by decide +kernel
theorem dX11_forget_1 : decode cX11_forget 1 = .ok (.getfield 212, 3) := by decide +kernel
theorem dX11_forget_4 : decode cX11_forget 4 = .ok (.istore_n 1, 1) := by decide +kernel
theorem dX11_forget_5 : decode cX11_forget 5 = .ok (.aload_n 0, 1) := by decide +kernel
theorem dX11_forget_6 : decode cX11_forget 6 = .ok (.iconst 0, 1) := by decide +kernel
theorem dX11_forget_7 : decode cX11_forget 7 = .ok (.putfield 212, 3) := by decide +kernel
theorem dX11_forget_10 : decode cX11_forget 10 = .ok (.iload_n 1, 1) := by decide +kernel
theorem dX11_forget_11 : decode cX11_forget 11 = .ok (.ireturn, 1) := by decide +kernel
theorem dX11_shows_0 : decode cX11_shows 0 = .ok (.aload_n 0, 1) := by decide +kernel
theorem dX11_shows_1 : decode cX11_shows 1 = .ok (.iconst 1, 1) := by decide +kernel
theorem dX11_shows_2 : decode cX11_shows 2 = .ok (.invokevirtual 292, 3) := by decide +kernel
theorem dX11_shows_5 : decode cX11_shows 5 = .ok (.istore_n 1, 1) := by decide +kernel
theorem dX11_shows_6 : decode cX11_shows 6 = .ok (.iconst 0, 1) := by decide +kernel
theorem dX11_shows_7 : decode cX11_shows 7 = .ok (.istore_n 2, 1) := by decide +kernel
theorem dX11_shows_8 : decode cX11_shows 8 = .ok (.iload_n 2, 1) := by decide +kernel
theorem dX11_shows_9 : decode cX11_shows 9 = .ok (.aload_n 0, 1) := by decide +kernel
theorem dX11_shows_10 : decode cX11_shows 10 = .ok (.getfield 212, 3) := by decide +kernel
theorem dX11_shows_13 : decode cX11_shows 13 = .ok (.if_icmp .ge 21, 3) := by decide +kernel
theorem dX11_shows_16 : decode cX11_shows 16 = .ok (.aload_n 0, 1) := by decide +kernel
theorem dX11_shows_17 : decode cX11_shows 17 = .ok (.getfield 66, 3) := by decide +kernel
theorem dX11_shows_20 : decode cX11_shows 20 = .ok (.iload_n 2, 1) := by decide +kernel
theorem dX11_shows_21 : decode cX11_shows 21 = .ok (.iaload, 1) := by decide +kernel
theorem dX11_shows_22 : decode cX11_shows 22 = .ok (.iload_n 1, 1) := by decide +kernel
theorem dX11_shows_23 : decode cX11_shows 23 = .ok (.if_icmp .ne 5, 3) := by decide +kernel
theorem dX11_shows_26 : decode cX11_shows 26 = .ok (.iload_n 2, 1) := by decide +kernel
theorem dX11_shows_27 : decode cX11_shows 27 = .ok (.ireturn, 1) := by decide +kernel
theorem dX11_shows_28 : decode cX11_shows 28 = .ok (.iinc 2 1, 3) := by decide +kernel
theorem dX11_shows_31 : decode cX11_shows 31 = .ok (.goto (-23), 3) := by decide +kernel
theorem dX11_shows_34 : decode cX11_shows 34 = .ok (.iconst (-1), 1) := by decide +kernel
theorem dX11_shows_35 : decode cX11_shows 35 = .ok (.ireturn, 1) := by decide +kernel
theorem dX11_isNote_0 : decode cX11_isNote 0 = .ok (.lload_n 0, 1) := by decide +kernel
theorem dX11_isNote_1 : decode cX11_isNote 1 = .ok (.iload_n 2, 1) := by decide +kernel
theorem dX11_isNote_2 : decode cX11_isNote 2 = .ok (.lshr, 1) := by decide +kernel
theorem dX11_isNote_3 : decode cX11_isNote 3 = .ok (.lconst 1, 1) := by decide +kernel
theorem dX11_isNote_4 : decode cX11_isNote 4 = .ok (.land, 1) := by decide +kernel
theorem dX11_isNote_5 : decode cX11_isNote 5 = .ok (.lconst 1, 1) := by decide +kernel
theorem dX11_isNote_6 : decode cX11_isNote 6 = .ok (.lcmp, 1) := by decide +kernel
theorem dX11_isNote_7 : decode cX11_isNote 7 = .ok (.ifCond .ne 7, 3) := by decide +kernel
theorem dX11_isNote_10 : decode cX11_isNote 10 = .ok (.iconst 1, 1) := by decide +kernel
theorem dX11_isNote_11 : decode cX11_isNote 11 = .ok (.goto 4, 3) := by decide +kernel
theorem dX11_isNote_14 : decode cX11_isNote 14 = .ok (.iconst 0, 1) := by decide +kernel
theorem dX11_isNote_15 : decode cX11_isNote 15 = .ok (.ireturn, 1) := by decide +kernel
theorem dX11_luredBy_0 : decode cX11_luredBy 0 = .ok (.iload_n 1, 1) := by decide +kernel
theorem dX11_luredBy_1 : decode cX11_luredBy 1 = .ok (.iload_n 2, 1) := by decide +kernel
theorem dX11_luredBy_2 : decode cX11_luredBy 2 = .ok (.iconst (-1), 1) := by decide +kernel
theorem dX11_luredBy_3 : decode cX11_luredBy 3 = .ok (.ixor, 1) := by decide +kernel
theorem dX11_luredBy_4 : decode cX11_luredBy 4 = .ok (.iand, 1) := by decide +kernel
theorem dX11_luredBy_5 : decode cX11_luredBy 5 = .ok (.ifCond .eq 5, 3) := by decide +kernel
theorem dX11_luredBy_8 : decode cX11_luredBy 8 = .ok (.iconst (-1), 1) := by decide +kernel
theorem dX11_luredBy_9 : decode cX11_luredBy 9 = .ok (.ireturn, 1) := by decide +kernel
theorem dX11_luredBy_10 : decode cX11_luredBy 10 = .ok (.iconst 0, 1) := by decide +kernel
theorem dX11_luredBy_11 : decode cX11_luredBy 11 = .ok (.istore 6, 2) := by decide +kernel
theorem dX11_luredBy_13 : decode cX11_luredBy 13 = .ok (.iload 6, 2) := by decide +kernel
theorem dX11_luredBy_15 : decode cX11_luredBy 15 = .ok (.aload_n 0, 1) := by decide +kernel
theorem dX11_luredBy_16 : decode cX11_luredBy 16 = .ok (.invokevirtual 111, 3) := by decide +kernel
theorem dX11_luredBy_19 : decode cX11_luredBy 19 = .ok (.if_icmp .gt 27, 3) := by decide +kernel
theorem dX11_luredBy_22 : decode cX11_luredBy 22 = .ok (.aload_n 0, 1) := by decide +kernel
theorem dX11_luredBy_23 : decode cX11_luredBy 23 = .ok (.getfield 69, 3) := by decide +kernel
theorem dX11_luredBy_26 : decode cX11_luredBy 26 = .ok (.iload 6, 2) := by decide +kernel
theorem dX11_luredBy_28 : decode cX11_luredBy 28 = .ok (.iconst 0, 1) := by decide +kernel
theorem dX11_luredBy_29 : decode cX11_luredBy 29 = .ok (.bastore, 1) := by decide +kernel
theorem dX11_luredBy_30 : decode cX11_luredBy 30 = .ok (.aload_n 0, 1) := by decide +kernel
theorem dX11_luredBy_31 : decode cX11_luredBy 31 = .ok (.getfield 73, 3) := by decide +kernel
theorem dX11_luredBy_34 : decode cX11_luredBy 34 = .ok (.iload 6, 2) := by decide +kernel
theorem dX11_luredBy_36 : decode cX11_luredBy 36 = .ok (.ldc_w 296, 3) := by decide +kernel
theorem dX11_luredBy_39 : decode cX11_luredBy 39 = .ok (.iastore, 1) := by decide +kernel
theorem dX11_luredBy_40 : decode cX11_luredBy 40 = .ok (.iinc 6 1, 3) := by decide +kernel
theorem dX11_luredBy_43 : decode cX11_luredBy 43 = .ok (.goto (-30), 3) := by decide +kernel
theorem dX11_luredBy_46 : decode cX11_luredBy 46 = .ok (.iconst 0, 1) := by decide +kernel
theorem dX11_luredBy_47 : decode cX11_luredBy 47 = .ok (.istore 6, 2) := by decide +kernel
theorem dX11_luredBy_49 : decode cX11_luredBy 49 = .ok (.iload 6, 2) := by decide +kernel
theorem dX11_luredBy_51 : decode cX11_luredBy 51 = .ok (.sipush 3200, 3) := by decide +kernel
theorem dX11_luredBy_54 : decode cX11_luredBy 54 = .ok (.if_icmp .ge 47, 3) := by decide +kernel
theorem dX11_luredBy_57 : decode cX11_luredBy 57 = .ok (.lload_n 3, 1) := by decide +kernel
theorem dX11_luredBy_58 : decode cX11_luredBy 58 = .ok (.iload 6, 2) := by decide +kernel
theorem dX11_luredBy_60 : decode cX11_luredBy 60 = .ok (.bipush 64, 2) := by decide +kernel
theorem dX11_luredBy_62 : decode cX11_luredBy 62 = .ok (.irem, 1) := by decide +kernel
theorem dX11_luredBy_63 : decode cX11_luredBy 63 = .ok (.invokestatic 318, 3) := by decide +kernel
theorem dX11_luredBy_66 : decode cX11_luredBy 66 = .ok (.ifCond .eq 29, 3) := by decide +kernel
theorem dX11_luredBy_69 : decode cX11_luredBy 69 = .ok (.aload_n 0, 1) := by decide +kernel
theorem dX11_luredBy_70 : decode cX11_luredBy 70 = .ok (.getfield 69, 3) := by decide +kernel
theorem dX11_luredBy_73 : decode cX11_luredBy 73 = .ok (.aload_n 0, 1) := by decide +kernel
theorem dX11_luredBy_74 : decode cX11_luredBy 74 = .ok (.iload 6, 2) := by decide +kernel
theorem dX11_luredBy_76 : decode cX11_luredBy 76 = .ok (.bipush 64, 2) := by decide +kernel
theorem dX11_luredBy_78 : decode cX11_luredBy 78 = .ok (.idiv, 1) := by decide +kernel
theorem dX11_luredBy_79 : decode cX11_luredBy 79 = .ok (.iload 6, 2) := by decide +kernel
theorem dX11_luredBy_81 : decode cX11_luredBy 81 = .ok (.bipush 64, 2) := by decide +kernel
theorem dX11_luredBy_83 : decode cX11_luredBy 83 = .ok (.irem, 1) := by decide +kernel
theorem dX11_luredBy_84 : decode cX11_luredBy 84 = .ok (.iload 5, 2) := by decide +kernel
theorem dX11_luredBy_86 : decode cX11_luredBy 86 = .ok (.aload_n 0, 1) := by decide +kernel
theorem dX11_luredBy_87 : decode cX11_luredBy 87 = .ok (.getfield 218, 3) := by decide +kernel
theorem dX11_luredBy_90 : decode cX11_luredBy 90 = .ok (.invokevirtual 255, 3) := by decide +kernel
theorem dX11_luredBy_93 : decode cX11_luredBy 93 = .ok (.iconst 1, 1) := by decide +kernel
theorem dX11_luredBy_94 : decode cX11_luredBy 94 = .ok (.bastore, 1) := by decide +kernel
theorem dX11_luredBy_95 : decode cX11_luredBy 95 = .ok (.iinc 6 1, 3) := by decide +kernel
theorem dX11_luredBy_98 : decode cX11_luredBy 98 = .ok (.goto (-49), 3) := by decide +kernel
theorem dX11_luredBy_101 : decode cX11_luredBy 101 = .ok (.aload_n 0, 1) := by decide +kernel
theorem dX11_luredBy_102 : decode cX11_luredBy 102 = .ok (.getfield 73, 3) := by decide +kernel
theorem dX11_luredBy_105 : decode cX11_luredBy 105 = .ok (.iload_n 1, 1) := by decide +kernel
theorem dX11_luredBy_106 : decode cX11_luredBy 106 = .ok (.iconst 0, 1) := by decide +kernel
theorem dX11_luredBy_107 : decode cX11_luredBy 107 = .ok (.iastore, 1) := by decide +kernel
theorem dX11_luredBy_108 : decode cX11_luredBy 108 = .ok (.iload_n 1, 1) := by decide +kernel
theorem dX11_luredBy_109 : decode cX11_luredBy 109 = .ok (.istore 6, 2) := by decide +kernel
theorem dX11_luredBy_111 : decode cX11_luredBy 111 = .ok (.iload 6, 2) := by decide +kernel
theorem dX11_luredBy_113 : decode cX11_luredBy 113 = .ok (.iload_n 2, 1) := by decide +kernel
theorem dX11_luredBy_114 : decode cX11_luredBy 114 = .ok (.if_icmp .gt 88, 3) := by decide +kernel
theorem dX11_luredBy_117 : decode cX11_luredBy 117 = .ok (.iconst 1, 1) := by decide +kernel
theorem dX11_luredBy_118 : decode cX11_luredBy 118 = .ok (.istore 7, 2) := by decide +kernel
theorem dX11_luredBy_120 : decode cX11_luredBy 120 = .ok (.iload 7, 2) := by decide +kernel
theorem dX11_luredBy_122 : decode cX11_luredBy 122 = .ok (.iload_n 2, 1) := by decide +kernel
theorem dX11_luredBy_123 : decode cX11_luredBy 123 = .ok (.if_icmp .gt 73, 3) := by decide +kernel
theorem dX11_luredBy_126 : decode cX11_luredBy 126 = .ok (.aload_n 0, 1) := by decide +kernel
theorem dX11_luredBy_127 : decode cX11_luredBy 127 = .ok (.getfield 73, 3) := by decide +kernel
theorem dX11_luredBy_130 : decode cX11_luredBy 130 = .ok (.iload 6, 2) := by decide +kernel
theorem dX11_luredBy_132 : decode cX11_luredBy 132 = .ok (.iaload, 1) := by decide +kernel
theorem dX11_luredBy_133 : decode cX11_luredBy 133 = .ok (.ldc_w 296, 3) := by decide +kernel
theorem dX11_luredBy_136 : decode cX11_luredBy 136 = .ok (.if_icmp .ge 60, 3) := by decide +kernel
theorem dX11_luredBy_139 : decode cX11_luredBy 139 = .ok (.aload_n 0, 1) := by decide +kernel
theorem dX11_luredBy_140 : decode cX11_luredBy 140 = .ok (.getfield 69, 3) := by decide +kernel
theorem dX11_luredBy_143 : decode cX11_luredBy 143 = .ok (.iload 7, 2) := by decide +kernel
theorem dX11_luredBy_145 : decode cX11_luredBy 145 = .ok (.baload, 1) := by decide +kernel
theorem dX11_luredBy_146 : decode cX11_luredBy 146 = .ok (.ifCond .eq 44, 3) := by decide +kernel
theorem dX11_luredBy_149 : decode cX11_luredBy 149 = .ok (.iload 7, 2) := by decide +kernel
theorem dX11_luredBy_151 : decode cX11_luredBy 151 = .ok (.iload_n 2, 1) := by decide +kernel
theorem dX11_luredBy_152 : decode cX11_luredBy 152 = .ok (.iconst (-1), 1) := by decide +kernel
theorem dX11_luredBy_153 : decode cX11_luredBy 153 = .ok (.ixor, 1) := by decide +kernel
theorem dX11_luredBy_154 : decode cX11_luredBy 154 = .ok (.iand, 1) := by decide +kernel
theorem dX11_luredBy_155 : decode cX11_luredBy 155 = .ok (.ifCond .ne 35, 3) := by decide +kernel
theorem dX11_luredBy_158 : decode cX11_luredBy 158 = .ok (.aload_n 0, 1) := by decide +kernel
theorem dX11_luredBy_159 : decode cX11_luredBy 159 = .ok (.getfield 73, 3) := by decide +kernel
theorem dX11_luredBy_162 : decode cX11_luredBy 162 = .ok (.iload 6, 2) := by decide +kernel
theorem dX11_luredBy_164 : decode cX11_luredBy 164 = .ok (.iload 7, 2) := by decide +kernel
theorem dX11_luredBy_166 : decode cX11_luredBy 166 = .ok (.ior, 1) := by decide +kernel
theorem dX11_luredBy_167 : decode cX11_luredBy 167 = .ok (.aload_n 0, 1) := by decide +kernel
theorem dX11_luredBy_168 : decode cX11_luredBy 168 = .ok (.getfield 73, 3) := by decide +kernel
theorem dX11_luredBy_171 : decode cX11_luredBy 171 = .ok (.iload 6, 2) := by decide +kernel
theorem dX11_luredBy_173 : decode cX11_luredBy 173 = .ok (.iload 7, 2) := by decide +kernel
theorem dX11_luredBy_175 : decode cX11_luredBy 175 = .ok (.ior, 1) := by decide +kernel
theorem dX11_luredBy_176 : decode cX11_luredBy 176 = .ok (.iaload, 1) := by decide +kernel
theorem dX11_luredBy_177 : decode cX11_luredBy 177 = .ok (.aload_n 0, 1) := by decide +kernel
theorem dX11_luredBy_178 : decode cX11_luredBy 178 = .ok (.getfield 73, 3) := by decide +kernel
theorem dX11_luredBy_181 : decode cX11_luredBy 181 = .ok (.iload 6, 2) := by decide +kernel
theorem dX11_luredBy_183 : decode cX11_luredBy 183 = .ok (.iaload, 1) := by decide +kernel
theorem dX11_luredBy_184 : decode cX11_luredBy 184 = .ok (.iconst 1, 1) := by decide +kernel
theorem dX11_luredBy_185 : decode cX11_luredBy 185 = .ok (.iadd, 1) := by decide +kernel
theorem dX11_luredBy_186 : decode cX11_luredBy 186 = .ok (.invokestatic 297, 3) := by decide +kernel
theorem dX11_luredBy_189 : decode cX11_luredBy 189 = .ok (.iastore, 1) := by decide +kernel
theorem dX11_luredBy_190 : decode cX11_luredBy 190 = .ok (.iinc 7 1, 3) := by decide +kernel
theorem dX11_luredBy_193 : decode cX11_luredBy 193 = .ok (.goto (-73), 3) := by decide +kernel
theorem dX11_luredBy_196 : decode cX11_luredBy 196 = .ok (.iinc 6 1, 3) := by decide +kernel
theorem dX11_luredBy_199 : decode cX11_luredBy 199 = .ok (.goto (-88), 3) := by decide +kernel
theorem dX11_luredBy_202 : decode cX11_luredBy 202 = .ok (.aload_n 0, 1) := by decide +kernel
theorem dX11_luredBy_203 : decode cX11_luredBy 203 = .ok (.getfield 73, 3) := by decide +kernel
theorem dX11_luredBy_206 : decode cX11_luredBy 206 = .ok (.iload_n 2, 1) := by decide +kernel
theorem dX11_luredBy_207 : decode cX11_luredBy 207 = .ok (.iaload, 1) := by decide +kernel
theorem dX11_luredBy_208 : decode cX11_luredBy 208 = .ok (.ldc_w 296, 3) := by decide +kernel
theorem dX11_luredBy_211 : decode cX11_luredBy 211 = .ok (.if_icmp .lt 7, 3) := by decide +kernel
theorem dX11_luredBy_214 : decode cX11_luredBy 214 = .ok (.iconst (-1), 1) := by decide +kernel
theorem dX11_luredBy_215 : decode cX11_luredBy 215 = .ok (.goto 9, 3) := by decide +kernel
theorem dX11_luredBy_218 : decode cX11_luredBy 218 = .ok (.aload_n 0, 1) := by decide +kernel
theorem dX11_luredBy_219 : decode cX11_luredBy 219 = .ok (.getfield 73, 3) := by decide +kernel
theorem dX11_luredBy_222 : decode cX11_luredBy 222 = .ok (.iload_n 2, 1) := by decide +kernel
theorem dX11_luredBy_223 : decode cX11_luredBy 223 = .ok (.iaload, 1) := by decide +kernel
theorem dX11_luredBy_224 : decode cX11_luredBy 224 = .ok (.ireturn, 1) := by decide +kernel
theorem dX11_lured_0 : decode cX11_lured 0 = .ok (.aload_n 0, 1) := by decide +kernel
theorem dX11_lured_1 : decode cX11_lured 1 = .ok (.iload_n 1, 1) := by decide +kernel
theorem dX11_lured_2 : decode cX11_lured 2 = .ok (.invokevirtual 315, 3) := by decide +kernel
theorem dX11_lured_5 : decode cX11_lured 5 = .ok (.ifCond .eq 11, 3) := by decide +kernel
theorem dX11_lured_8 : decode cX11_lured 8 = .ok (.aload_n 0, 1) := by decide +kernel
theorem dX11_lured_9 : decode cX11_lured 9 = .ok (.iload_n 2, 1) := by decide +kernel
theorem dX11_lured_10 : decode cX11_lured 10 = .ok (.invokevirtual 315, 3) := by decide +kernel
theorem dX11_lured_13 : decode cX11_lured 13 = .ok (.ifCond .ne 7, 3) := by decide +kernel
theorem dX11_lured_16 : decode cX11_lured 16 = .ok (.sipush (-1001), 3) := by decide +kernel
theorem dX11_lured_19 : decode cX11_lured 19 = .ok (.ireturn, 1) := by decide +kernel
theorem dX11_lured_20 : decode cX11_lured 20 = .ok (.iload 5, 2) := by decide +kernel
theorem dX11_lured_22 : decode cX11_lured 22 = .ok (.invokestatic 268, 3) := by decide +kernel
theorem dX11_lured_25 : decode cX11_lured 25 = .ok (.ifCond .eq 15, 3) := by decide +kernel
theorem dX11_lured_28 : decode cX11_lured 28 = .ok (.aload_n 0, 1) := by decide +kernel
theorem dX11_lured_29 : decode cX11_lured 29 = .ok (.iload_n 1, 1) := by decide +kernel
theorem dX11_lured_30 : decode cX11_lured 30 = .ok (.iload_n 2, 1) := by decide +kernel
theorem dX11_lured_31 : decode cX11_lured 31 = .ok (.lload_n 3, 1) := by decide +kernel
theorem dX11_lured_32 : decode cX11_lured 32 = .ok (.iload 5, 2) := by decide +kernel
theorem dX11_lured_34 : decode cX11_lured 34 = .ok (.invokevirtual 322, 3) := by decide +kernel
theorem dX11_lured_37 : decode cX11_lured 37 = .ok (.goto 6, 3) := by decide +kernel
theorem dX11_lured_40 : decode cX11_lured 40 = .ok (.sipush (-1002), 3) := by decide +kernel
theorem dX11_lured_43 : decode cX11_lured 43 = .ok (.ireturn, 1) := by decide +kernel
theorem dX11_apart_0 : decode cX11_apart 0 = .ok (.iload_n 3, 1) := by decide +kernel
theorem dX11_apart_1 : decode cX11_apart 1 = .ok (.invokestatic 268, 3) := by decide +kernel
theorem dX11_apart_4 : decode cX11_apart 4 = .ok (.ifCond .eq 16, 3) := by decide +kernel
theorem dX11_apart_7 : decode cX11_apart 7 = .ok (.iload 4, 2) := by decide +kernel
theorem dX11_apart_9 : decode cX11_apart 9 = .ok (.i2l, 1) := by decide +kernel
theorem dX11_apart_10 : decode cX11_apart 10 = .ok (.lconst 1, 1) := by decide +kernel
theorem dX11_apart_11 : decode cX11_apart 11 = .ok (.ldc2_w 259, 3) := by decide +kernel
theorem dX11_apart_14 : decode cX11_apart 14 = .ok (.invokestatic 107, 3) := by decide +kernel
theorem dX11_apart_17 : decode cX11_apart 17 = .ok (.ifCond .ne 7, 3) := by decide +kernel
theorem dX11_apart_20 : decode cX11_apart 20 = .ok (.sipush (-1002), 3) := by decide +kernel
theorem dX11_apart_23 : decode cX11_apart 23 = .ok (.ireturn, 1) := by decide +kernel
theorem dX11_apart_24 : decode cX11_apart 24 = .ok (.iconst 0, 1) := by decide +kernel
theorem dX11_apart_25 : decode cX11_apart 25 = .ok (.istore 6, 2) := by decide +kernel
theorem dX11_apart_27 : decode cX11_apart 27 = .ok (.iconst 0, 1) := by decide +kernel
theorem dX11_apart_28 : decode cX11_apart 28 = .ok (.istore 7, 2) := by decide +kernel
theorem dX11_apart_30 : decode cX11_apart 30 = .ok (.iload 7, 2) := by decide +kernel
theorem dX11_apart_32 : decode cX11_apart 32 = .ok (.aload_n 0, 1) := by decide +kernel
theorem dX11_apart_33 : decode cX11_apart 33 = .ok (.getfield 212, 3) := by decide +kernel
theorem dX11_apart_36 : decode cX11_apart 36 = .ok (.if_icmp .ge 94, 3) := by decide +kernel
theorem dX11_apart_39 : decode cX11_apart 39 = .ok (.iconst 0, 1) := by decide +kernel
theorem dX11_apart_40 : decode cX11_apart 40 = .ok (.istore 8, 2) := by decide +kernel
theorem dX11_apart_42 : decode cX11_apart 42 = .ok (.iload 8, 2) := by decide +kernel
theorem dX11_apart_44 : decode cX11_apart 44 = .ok (.aload_n 0, 1) := by decide +kernel
theorem dX11_apart_45 : decode cX11_apart 45 = .ok (.getfield 212, 3) := by decide +kernel
theorem dX11_apart_48 : decode cX11_apart 48 = .ok (.if_icmp .ge 76, 3) := by decide +kernel
theorem dX11_apart_51 : decode cX11_apart 51 = .ok (.iload 7, 2) := by decide +kernel
theorem dX11_apart_53 : decode cX11_apart 53 = .ok (.iload 8, 2) := by decide +kernel
theorem dX11_apart_55 : decode cX11_apart 55 = .ok (.if_icmp .ne 7, 3) := by decide +kernel
theorem dX11_apart_58 : decode cX11_apart 58 = .ok (.iconst (-1), 1) := by decide +kernel
theorem dX11_apart_59 : decode cX11_apart 59 = .ok (.goto 23, 3) := by decide +kernel
theorem dX11_apart_62 : decode cX11_apart 62 = .ok (.aload_n 0, 1) := by decide +kernel
theorem dX11_apart_63 : decode cX11_apart 63 = .ok (.aload_n 0, 1) := by decide +kernel
theorem dX11_apart_64 : decode cX11_apart 64 = .ok (.getfield 66, 3) := by decide +kernel
theorem dX11_apart_67 : decode cX11_apart 67 = .ok (.iload 7, 2) := by decide +kernel
theorem dX11_apart_69 : decode cX11_apart 69 = .ok (.iaload, 1) := by decide +kernel
theorem dX11_apart_70 : decode cX11_apart 70 = .ok (.aload_n 0, 1) := by decide +kernel
theorem dX11_apart_71 : decode cX11_apart 71 = .ok (.getfield 66, 3) := by decide +kernel
theorem dX11_apart_74 : decode cX11_apart 74 = .ok (.iload 8, 2) := by decide +kernel
theorem dX11_apart_76 : decode cX11_apart 76 = .ok (.iaload, 1) := by decide +kernel
theorem dX11_apart_77 : decode cX11_apart 77 = .ok (.lload_n 1, 1) := by decide +kernel
theorem dX11_apart_78 : decode cX11_apart 78 = .ok (.iload_n 3, 1) := by decide +kernel
theorem dX11_apart_79 : decode cX11_apart 79 = .ok (.invokevirtual 322, 3) := by decide +kernel
theorem dX11_apart_82 : decode cX11_apart 82 = .ok (.istore 9, 2) := by decide +kernel
theorem dX11_apart_84 : decode cX11_apart 84 = .ok (.iload 9, 2) := by decide +kernel
theorem dX11_apart_86 : decode cX11_apart 86 = .ok (.i2l, 1) := by decide +kernel
theorem dX11_apart_87 : decode cX11_apart 87 = .ok (.lconst 0, 1) := by decide +kernel
theorem dX11_apart_88 : decode cX11_apart 88 = .ok (.iload 4, 2) := by decide +kernel
theorem dX11_apart_90 : decode cX11_apart 90 = .ok (.iconst 1, 1) := by decide +kernel
theorem dX11_apart_91 : decode cX11_apart 91 = .ok (.isub, 1) := by decide +kernel
theorem dX11_apart_92 : decode cX11_apart 92 = .ok (.i2l, 1) := by decide +kernel
theorem dX11_apart_93 : decode cX11_apart 93 = .ok (.invokestatic 107, 3) := by decide +kernel
theorem dX11_apart_96 : decode cX11_apart 96 = .ok (.ifCond .eq 22, 3) := by decide +kernel
theorem dX11_apart_99 : decode cX11_apart 99 = .ok (.iload 6, 2) := by decide +kernel
theorem dX11_apart_101 : decode cX11_apart 101 = .ok (.iload 5, 2) := by decide +kernel
theorem dX11_apart_103 : decode cX11_apart 103 = .ok (.if_icmp .ne 12, 3) := by decide +kernel
theorem dX11_apart_106 : decode cX11_apart 106 = .ok (.bipush 100, 2) := by decide +kernel
theorem dX11_apart_108 : decode cX11_apart 108 = .ok (.iload 7, 2) := by decide +kernel
theorem dX11_apart_110 : decode cX11_apart 110 = .ok (.imul, 1) := by decide +kernel
theorem dX11_apart_111 : decode cX11_apart 111 = .ok (.iload 8, 2) := by decide +kernel
theorem dX11_apart_113 : decode cX11_apart 113 = .ok (.iadd, 1) := by decide +kernel
theorem dX11_apart_114 : decode cX11_apart 114 = .ok (.ireturn, 1) := by decide +kernel
theorem dX11_apart_115 : decode cX11_apart 115 = .ok (.iinc 6 1, 3) := by decide +kernel
theorem dX11_apart_118 : decode cX11_apart 118 = .ok (.iinc 8 1, 3) := by decide +kernel
theorem dX11_apart_121 : decode cX11_apart 121 = .ok (.goto (-79), 3) := by decide +kernel
theorem dX11_apart_124 : decode cX11_apart 124 = .ok (.iinc 7 1, 3) := by decide +kernel
theorem dX11_apart_127 : decode cX11_apart 127 = .ok (.goto (-97), 3) := by decide +kernel
theorem dX11_apart_130 : decode cX11_apart 130 = .ok (.iload 5, 2) := by decide +kernel
theorem dX11_apart_132 : decode cX11_apart 132 = .ok (.iconst (-1), 1) := by decide +kernel
theorem dX11_apart_133 : decode cX11_apart 133 = .ok (.if_icmp .ne 8, 3) := by decide +kernel
theorem dX11_apart_136 : decode cX11_apart 136 = .ok (.iload 6, 2) := by decide +kernel
theorem dX11_apart_138 : decode cX11_apart 138 = .ok (.goto 4, 3) := by decide +kernel
theorem dX11_apart_141 : decode cX11_apart 141 = .ok (.iconst (-1), 1) := by decide +kernel
theorem dX11_apart_142 : decode cX11_apart 142 = .ok (.ireturn, 1) := by decide +kernel
theorem dX11_fewest_0 : decode cX11_fewest 0 = .ok (.aload_n 0, 1) := by decide +kernel
theorem dX11_fewest_1 : decode cX11_fewest 1 = .ok (.iload_n 1, 1) := by decide +kernel
theorem dX11_fewest_2 : decode cX11_fewest 2 = .ok (.invokevirtual 315, 3) := by decide +kernel
theorem dX11_fewest_5 : decode cX11_fewest 5 = .ok (.ifCond .eq 11, 3) := by decide +kernel
theorem dX11_fewest_8 : decode cX11_fewest 8 = .ok (.aload_n 0, 1) := by decide +kernel
theorem dX11_fewest_9 : decode cX11_fewest 9 = .ok (.iload_n 2, 1) := by decide +kernel
theorem dX11_fewest_10 : decode cX11_fewest 10 = .ok (.invokevirtual 315, 3) := by decide +kernel
theorem dX11_fewest_13 : decode cX11_fewest 13 = .ok (.ifCond .ne 7, 3) := by decide +kernel
theorem dX11_fewest_16 : decode cX11_fewest 16 = .ok (.sipush (-1001), 3) := by decide +kernel
theorem dX11_fewest_19 : decode cX11_fewest 19 = .ok (.ireturn, 1) := by decide +kernel
theorem dX11_fewest_20 : decode cX11_fewest 20 = .ok (.iload_n 3, 1) := by decide +kernel
theorem dX11_fewest_21 : decode cX11_fewest 21 = .ok (.invokestatic 268, 3) := by decide +kernel
theorem dX11_fewest_24 : decode cX11_fewest 24 = .ok (.ifCond .ne 7, 3) := by decide +kernel
theorem dX11_fewest_27 : decode cX11_fewest 27 = .ok (.sipush (-1002), 3) := by decide +kernel
theorem dX11_fewest_30 : decode cX11_fewest 30 = .ok (.ireturn, 1) := by decide +kernel
theorem dX11_fewest_31 : decode cX11_fewest 31 = .ok (.iload_n 1, 1) := by decide +kernel
theorem dX11_fewest_32 : decode cX11_fewest 32 = .ok (.iload_n 2, 1) := by decide +kernel
theorem dX11_fewest_33 : decode cX11_fewest 33 = .ok (.iconst (-1), 1) := by decide +kernel
theorem dX11_fewest_34 : decode cX11_fewest 34 = .ok (.ixor, 1) := by decide +kernel
theorem dX11_fewest_35 : decode cX11_fewest 35 = .ok (.iand, 1) := by decide +kernel
theorem dX11_fewest_36 : decode cX11_fewest 36 = .ok (.ifCond .eq 5, 3) := by decide +kernel
theorem dX11_fewest_39 : decode cX11_fewest 39 = .ok (.iconst (-1), 1) := by decide +kernel
theorem dX11_fewest_40 : decode cX11_fewest 40 = .ok (.ireturn, 1) := by decide +kernel
theorem dX11_fewest_41 : decode cX11_fewest 41 = .ok (.iconst 0, 1) := by decide +kernel
theorem dX11_fewest_42 : decode cX11_fewest 42 = .ok (.istore 5, 2) := by decide +kernel
theorem dX11_fewest_44 : decode cX11_fewest 44 = .ok (.iload 5, 2) := by decide +kernel
theorem dX11_fewest_46 : decode cX11_fewest 46 = .ok (.bipush 64, 2) := by decide +kernel
theorem dX11_fewest_48 : decode cX11_fewest 48 = .ok (.if_icmp .ge 73, 3) := by decide +kernel
theorem dX11_fewest_51 : decode cX11_fewest 51 = .ok (.aload_n 0, 1) := by decide +kernel
theorem dX11_fewest_52 : decode cX11_fewest 52 = .ok (.getfield 76, 3) := by decide +kernel
theorem dX11_fewest_55 : decode cX11_fewest 55 = .ok (.iload 5, 2) := by decide +kernel
theorem dX11_fewest_57 : decode cX11_fewest 57 = .ok (.iconst 0, 1) := by decide +kernel
theorem dX11_fewest_58 : decode cX11_fewest 58 = .ok (.iastore, 1) := by decide +kernel
theorem dX11_fewest_59 : decode cX11_fewest 59 = .ok (.iconst 0, 1) := by decide +kernel
theorem dX11_fewest_60 : decode cX11_fewest 60 = .ok (.istore 6, 2) := by decide +kernel
theorem dX11_fewest_62 : decode cX11_fewest 62 = .ok (.iload 6, 2) := by decide +kernel
theorem dX11_fewest_64 : decode cX11_fewest 64 = .ok (.bipush 50, 2) := by decide +kernel
theorem dX11_fewest_66 : decode cX11_fewest 66 = .ok (.if_icmp .ge 49, 3) := by decide +kernel
theorem dX11_fewest_69 : decode cX11_fewest 69 = .ok (.aload_n 0, 1) := by decide +kernel
theorem dX11_fewest_70 : decode cX11_fewest 70 = .ok (.iload 6, 2) := by decide +kernel
theorem dX11_fewest_72 : decode cX11_fewest 72 = .ok (.iload 5, 2) := by decide +kernel
theorem dX11_fewest_74 : decode cX11_fewest 74 = .ok (.iload_n 3, 1) := by decide +kernel
theorem dX11_fewest_75 : decode cX11_fewest 75 = .ok (.aload_n 0, 1) := by decide +kernel
theorem dX11_fewest_76 : decode cX11_fewest 76 = .ok (.getfield 218, 3) := by decide +kernel
theorem dX11_fewest_79 : decode cX11_fewest 79 = .ok (.invokevirtual 255, 3) := by decide +kernel
theorem dX11_fewest_82 : decode cX11_fewest 82 = .ok (.istore 7, 2) := by decide +kernel
theorem dX11_fewest_84 : decode cX11_fewest 84 = .ok (.aload_n 0, 1) := by decide +kernel
theorem dX11_fewest_85 : decode cX11_fewest 85 = .ok (.getfield 76, 3) := by decide +kernel
theorem dX11_fewest_88 : decode cX11_fewest 88 = .ok (.iload 5, 2) := by decide +kernel
theorem dX11_fewest_90 : decode cX11_fewest 90 = .ok (.dup2, 1) := by decide +kernel
theorem dX11_fewest_91 : decode cX11_fewest 91 = .ok (.iaload, 1) := by decide +kernel
theorem dX11_fewest_92 : decode cX11_fewest 92 = .ok (.iload 7, 2) := by decide +kernel
theorem dX11_fewest_94 : decode cX11_fewest 94 = .ok (.iload_n 2, 1) := by decide +kernel
theorem dX11_fewest_95 : decode cX11_fewest 95 = .ok (.iconst (-1), 1) := by decide +kernel
theorem dX11_fewest_96 : decode cX11_fewest 96 = .ok (.ixor, 1) := by decide +kernel
theorem dX11_fewest_97 : decode cX11_fewest 97 = .ok (.iand, 1) := by decide +kernel
theorem dX11_fewest_98 : decode cX11_fewest 98 = .ok (.ifCond .ne 8, 3) := by decide +kernel
theorem dX11_fewest_101 : decode cX11_fewest 101 = .ok (.iload 7, 2) := by decide +kernel
theorem dX11_fewest_103 : decode cX11_fewest 103 = .ok (.goto 4, 3) := by decide +kernel
theorem dX11_fewest_106 : decode cX11_fewest 106 = .ok (.iconst 0, 1) := by decide +kernel
theorem dX11_fewest_107 : decode cX11_fewest 107 = .ok (.ior, 1) := by decide +kernel
theorem dX11_fewest_108 : decode cX11_fewest 108 = .ok (.iastore, 1) := by decide +kernel
theorem dX11_fewest_109 : decode cX11_fewest 109 = .ok (.iinc 6 1, 3) := by decide +kernel
theorem dX11_fewest_112 : decode cX11_fewest 112 = .ok (.goto (-50), 3) := by decide +kernel
theorem dX11_fewest_115 : decode cX11_fewest 115 = .ok (.iinc 5 1, 3) := by decide +kernel
theorem dX11_fewest_118 : decode cX11_fewest 118 = .ok (.goto (-74), 3) := by decide +kernel
theorem dX11_fewest_121 : decode cX11_fewest 121 = .ok (.bipush 64, 2) := by decide +kernel
theorem dX11_fewest_123 : decode cX11_fewest 123 = .ok (.istore 5, 2) := by decide +kernel
theorem dX11_fewest_125 : decode cX11_fewest 125 = .ok (.iload 5, 2) := by decide +kernel
theorem dX11_fewest_127 : decode cX11_fewest 127 = .ok (.ifCond .lt 131, 3) := by decide +kernel
theorem dX11_fewest_130 : decode cX11_fewest 130 = .ok (.iconst 0, 1) := by decide +kernel
theorem dX11_fewest_131 : decode cX11_fewest 131 = .ok (.istore 6, 2) := by decide +kernel
theorem dX11_fewest_133 : decode cX11_fewest 133 = .ok (.iload 6, 2) := by decide +kernel
theorem dX11_fewest_135 : decode cX11_fewest 135 = .ok (.aload_n 0, 1) := by decide +kernel
theorem dX11_fewest_136 : decode cX11_fewest 136 = .ok (.invokevirtual 111, 3) := by decide +kernel
theorem dX11_fewest_139 : decode cX11_fewest 139 = .ok (.if_icmp .gt 113, 3) := by decide +kernel
theorem dX11_fewest_142 : decode cX11_fewest 142 = .ok (.iload 5, 2) := by decide +kernel
theorem dX11_fewest_144 : decode cX11_fewest 144 = .ok (.bipush 64, 2) := by decide +kernel
theorem dX11_fewest_146 : decode cX11_fewest 146 = .ok (.if_icmp .ne 18, 3) := by decide +kernel
theorem dX11_fewest_149 : decode cX11_fewest 149 = .ok (.iload 6, 2) := by decide +kernel
theorem dX11_fewest_151 : decode cX11_fewest 151 = .ok (.ifCond .ne 7, 3) := by decide +kernel
theorem dX11_fewest_154 : decode cX11_fewest 154 = .ok (.iconst 0, 1) := by decide +kernel
theorem dX11_fewest_155 : decode cX11_fewest 155 = .ok (.goto 25, 3) := by decide +kernel
theorem dX11_fewest_158 : decode cX11_fewest 158 = .ok (.ldc_w 296, 3) := by decide +kernel
theorem dX11_fewest_161 : decode cX11_fewest 161 = .ok (.goto 19, 3) := by decide +kernel
theorem dX11_fewest_164 : decode cX11_fewest 164 = .ok (.aload_n 0, 1) := by decide +kernel
theorem dX11_fewest_165 : decode cX11_fewest 165 = .ok (.getfield 80, 3) := by decide +kernel
theorem dX11_fewest_168 : decode cX11_fewest 168 = .ok (.sipush 1024, 3) := by decide +kernel
theorem dX11_fewest_171 : decode cX11_fewest 171 = .ok (.iload 5, 2) := by decide +kernel
theorem dX11_fewest_173 : decode cX11_fewest 173 = .ok (.iconst 1, 1) := by decide +kernel
theorem dX11_fewest_174 : decode cX11_fewest 174 = .ok (.iadd, 1) := by decide +kernel
theorem dX11_fewest_175 : decode cX11_fewest 175 = .ok (.imul, 1) := by decide +kernel
theorem dX11_fewest_176 : decode cX11_fewest 176 = .ok (.iload 6, 2) := by decide +kernel
theorem dX11_fewest_178 : decode cX11_fewest 178 = .ok (.iadd, 1) := by decide +kernel
theorem dX11_fewest_179 : decode cX11_fewest 179 = .ok (.iaload, 1) := by decide +kernel
theorem dX11_fewest_180 : decode cX11_fewest 180 = .ok (.istore 7, 2) := by decide +kernel
theorem dX11_fewest_182 : decode cX11_fewest 182 = .ok (.iload 5, 2) := by decide +kernel
theorem dX11_fewest_184 : decode cX11_fewest 184 = .ok (.bipush 64, 2) := by decide +kernel
theorem dX11_fewest_186 : decode cX11_fewest 186 = .ok (.if_icmp .ne 9, 3) := by decide +kernel
theorem dX11_fewest_189 : decode cX11_fewest 189 = .ok (.ldc_w 296, 3) := by decide +kernel
theorem dX11_fewest_192 : decode cX11_fewest 192 = .ok (.goto 31, 3) := by decide +kernel
theorem dX11_fewest_195 : decode cX11_fewest 195 = .ok (.iconst 1, 1) := by decide +kernel
theorem dX11_fewest_196 : decode cX11_fewest 196 = .ok (.aload_n 0, 1) := by decide +kernel
theorem dX11_fewest_197 : decode cX11_fewest 197 = .ok (.getfield 80, 3) := by decide +kernel
theorem dX11_fewest_200 : decode cX11_fewest 200 = .ok (.sipush 1024, 3) := by decide +kernel
theorem dX11_fewest_203 : decode cX11_fewest 203 = .ok (.iload 5, 2) := by decide +kernel
theorem dX11_fewest_205 : decode cX11_fewest 205 = .ok (.iconst 1, 1) := by decide +kernel
theorem dX11_fewest_206 : decode cX11_fewest 206 = .ok (.iadd, 1) := by decide +kernel
theorem dX11_fewest_207 : decode cX11_fewest 207 = .ok (.imul, 1) := by decide +kernel
theorem dX11_fewest_208 : decode cX11_fewest 208 = .ok (.iload 6, 2) := by decide +kernel
theorem dX11_fewest_210 : decode cX11_fewest 210 = .ok (.aload_n 0, 1) := by decide +kernel
theorem dX11_fewest_211 : decode cX11_fewest 211 = .ok (.getfield 76, 3) := by decide +kernel
theorem dX11_fewest_214 : decode cX11_fewest 214 = .ok (.iload 5, 2) := by decide +kernel
theorem dX11_fewest_216 : decode cX11_fewest 216 = .ok (.iaload, 1) := by decide +kernel
theorem dX11_fewest_217 : decode cX11_fewest 217 = .ok (.iconst (-1), 1) := by decide +kernel
theorem dX11_fewest_218 : decode cX11_fewest 218 = .ok (.ixor, 1) := by decide +kernel
theorem dX11_fewest_219 : decode cX11_fewest 219 = .ok (.iand, 1) := by decide +kernel
theorem dX11_fewest_220 : decode cX11_fewest 220 = .ok (.iadd, 1) := by decide +kernel
theorem dX11_fewest_221 : decode cX11_fewest 221 = .ok (.iaload, 1) := by decide +kernel
theorem dX11_fewest_222 : decode cX11_fewest 222 = .ok (.iadd, 1) := by decide +kernel
theorem dX11_fewest_223 : decode cX11_fewest 223 = .ok (.istore 8, 2) := by decide +kernel
theorem dX11_fewest_225 : decode cX11_fewest 225 = .ok (.aload_n 0, 1) := by decide +kernel
theorem dX11_fewest_226 : decode cX11_fewest 226 = .ok (.getfield 80, 3) := by decide +kernel
theorem dX11_fewest_229 : decode cX11_fewest 229 = .ok (.sipush 1024, 3) := by decide +kernel
theorem dX11_fewest_232 : decode cX11_fewest 232 = .ok (.iload 5, 2) := by decide +kernel
theorem dX11_fewest_234 : decode cX11_fewest 234 = .ok (.imul, 1) := by decide +kernel
theorem dX11_fewest_235 : decode cX11_fewest 235 = .ok (.iload 6, 2) := by decide +kernel
theorem dX11_fewest_237 : decode cX11_fewest 237 = .ok (.iadd, 1) := by decide +kernel
theorem dX11_fewest_238 : decode cX11_fewest 238 = .ok (.iload 7, 2) := by decide +kernel
theorem dX11_fewest_240 : decode cX11_fewest 240 = .ok (.iload 8, 2) := by decide +kernel
theorem dX11_fewest_242 : decode cX11_fewest 242 = .ok (.invokestatic 297, 3) := by decide +kernel
theorem dX11_fewest_245 : decode cX11_fewest 245 = .ok (.iastore, 1) := by decide +kernel
theorem dX11_fewest_246 : decode cX11_fewest 246 = .ok (.iinc 6 1, 3) := by decide +kernel
theorem dX11_fewest_249 : decode cX11_fewest 249 = .ok (.goto (-116), 3) := by decide +kernel
theorem dX11_fewest_252 : decode cX11_fewest 252 = .ok (.iinc 5 (-1), 3) := by decide +kernel
theorem dX11_fewest_255 : decode cX11_fewest 255 = .ok (.goto (-130), 3) := by decide +kernel
theorem dX11_fewest_258 : decode cX11_fewest 258 = .ok (.aload_n 0, 1) := by decide +kernel
theorem dX11_fewest_259 : decode cX11_fewest 259 = .ok (.iload_n 2, 1) := by decide +kernel
theorem dX11_fewest_260 : decode cX11_fewest 260 = .ok (.iload_n 1, 1) := by decide +kernel
theorem dX11_fewest_261 : decode cX11_fewest 261 = .ok (.iconst (-1), 1) := by decide +kernel
theorem dX11_fewest_262 : decode cX11_fewest 262 = .ok (.ixor, 1) := by decide +kernel
theorem dX11_fewest_263 : decode cX11_fewest 263 = .ok (.iand, 1) := by decide +kernel
theorem dX11_fewest_264 : decode cX11_fewest 264 = .ok (.iload 4, 2) := by decide +kernel
theorem dX11_fewest_266 : decode cX11_fewest 266 = .ok (.invokevirtual 326, 3) := by decide +kernel
theorem dX11_fewest_269 : decode cX11_fewest 269 = .ok (.ireturn, 1) := by decide +kernel
theorem dX11_noteOf_0 : decode cX11_noteOf 0 = .ok (.aload_n 0, 1) := by decide +kernel
theorem dX11_noteOf_1 : decode cX11_noteOf 1 = .ok (.getfield 80, 3) := by decide +kernel
theorem dX11_noteOf_4 : decode cX11_noteOf 4 = .ok (.iload_n 1, 1) := by decide +kernel
theorem dX11_noteOf_5 : decode cX11_noteOf 5 = .ok (.iaload, 1) := by decide +kernel
theorem dX11_noteOf_6 : decode cX11_noteOf 6 = .ok (.istore_n 3, 1) := by decide +kernel
theorem dX11_noteOf_7 : decode cX11_noteOf 7 = .ok (.iload_n 3, 1) := by decide +kernel
theorem dX11_noteOf_8 : decode cX11_noteOf 8 = .ok (.ldc_w 296, 3) := by decide +kernel
theorem dX11_noteOf_11 : decode cX11_noteOf 11 = .ok (.if_icmp .ge 8, 3) := by decide +kernel
theorem dX11_noteOf_14 : decode cX11_noteOf 14 = .ok (.iload_n 2, 1) := by decide +kernel
theorem dX11_noteOf_15 : decode cX11_noteOf 15 = .ok (.iconst (-1), 1) := by decide +kernel
theorem dX11_noteOf_16 : decode cX11_noteOf 16 = .ok (.if_icmp .ne 16, 3) := by decide +kernel
theorem dX11_noteOf_19 : decode cX11_noteOf 19 = .ok (.iload_n 3, 1) := by decide +kernel
theorem dX11_noteOf_20 : decode cX11_noteOf 20 = .ok (.ldc_w 296, 3) := by decide +kernel
theorem dX11_noteOf_23 : decode cX11_noteOf 23 = .ok (.if_icmp .lt 7, 3) := by decide +kernel
theorem dX11_noteOf_26 : decode cX11_noteOf 26 = .ok (.iconst (-1), 1) := by decide +kernel
theorem dX11_noteOf_27 : decode cX11_noteOf 27 = .ok (.goto 4, 3) := by decide +kernel
theorem dX11_noteOf_30 : decode cX11_noteOf 30 = .ok (.iload_n 3, 1) := by decide +kernel
theorem dX11_noteOf_31 : decode cX11_noteOf 31 = .ok (.ireturn, 1) := by decide +kernel
theorem dX11_noteOf_32 : decode cX11_noteOf 32 = .ok (.iload_n 1, 1) := by decide +kernel
theorem dX11_noteOf_33 : decode cX11_noteOf 33 = .ok (.istore 4, 2) := by decide +kernel
theorem dX11_noteOf_35 : decode cX11_noteOf 35 = .ok (.iconst 0, 1) := by decide +kernel
theorem dX11_noteOf_36 : decode cX11_noteOf 36 = .ok (.istore 5, 2) := by decide +kernel
theorem dX11_noteOf_38 : decode cX11_noteOf 38 = .ok (.iconst 0, 1) := by decide +kernel
theorem dX11_noteOf_39 : decode cX11_noteOf 39 = .ok (.istore 6, 2) := by decide +kernel
theorem dX11_noteOf_41 : decode cX11_noteOf 41 = .ok (.iload 6, 2) := by decide +kernel
theorem dX11_noteOf_43 : decode cX11_noteOf 43 = .ok (.bipush 64, 2) := by decide +kernel
theorem dX11_noteOf_45 : decode cX11_noteOf 45 = .ok (.if_icmp .ge 109, 3) := by decide +kernel
theorem dX11_noteOf_48 : decode cX11_noteOf 48 = .ok (.aload_n 0, 1) := by decide +kernel
theorem dX11_noteOf_49 : decode cX11_noteOf 49 = .ok (.getfield 80, 3) := by decide +kernel
theorem dX11_noteOf_52 : decode cX11_noteOf 52 = .ok (.sipush 1024, 3) := by decide +kernel
theorem dX11_noteOf_55 : decode cX11_noteOf 55 = .ok (.iload 6, 2) := by decide +kernel
theorem dX11_noteOf_57 : decode cX11_noteOf 57 = .ok (.imul, 1) := by decide +kernel
theorem dX11_noteOf_58 : decode cX11_noteOf 58 = .ok (.iload 4, 2) := by decide +kernel
theorem dX11_noteOf_60 : decode cX11_noteOf 60 = .ok (.iadd, 1) := by decide +kernel
theorem dX11_noteOf_61 : decode cX11_noteOf 61 = .ok (.iaload, 1) := by decide +kernel
theorem dX11_noteOf_62 : decode cX11_noteOf 62 = .ok (.ifCond .le 52, 3) := by decide +kernel
theorem dX11_noteOf_65 : decode cX11_noteOf 65 = .ok (.iconst 1, 1) := by decide +kernel
theorem dX11_noteOf_66 : decode cX11_noteOf 66 = .ok (.aload_n 0, 1) := by decide +kernel
theorem dX11_noteOf_67 : decode cX11_noteOf 67 = .ok (.getfield 80, 3) := by decide +kernel
theorem dX11_noteOf_70 : decode cX11_noteOf 70 = .ok (.sipush 1024, 3) := by decide +kernel
theorem dX11_noteOf_73 : decode cX11_noteOf 73 = .ok (.iload 6, 2) := by decide +kernel
theorem dX11_noteOf_75 : decode cX11_noteOf 75 = .ok (.iconst 1, 1) := by decide +kernel
theorem dX11_noteOf_76 : decode cX11_noteOf 76 = .ok (.iadd, 1) := by decide +kernel
theorem dX11_noteOf_77 : decode cX11_noteOf 77 = .ok (.imul, 1) := by decide +kernel
theorem dX11_noteOf_78 : decode cX11_noteOf 78 = .ok (.iload 4, 2) := by decide +kernel
theorem dX11_noteOf_80 : decode cX11_noteOf 80 = .ok (.aload_n 0, 1) := by decide +kernel
theorem dX11_noteOf_81 : decode cX11_noteOf 81 = .ok (.getfield 76, 3) := by decide +kernel
theorem dX11_noteOf_84 : decode cX11_noteOf 84 = .ok (.iload 6, 2) := by decide +kernel
theorem dX11_noteOf_86 : decode cX11_noteOf 86 = .ok (.iaload, 1) := by decide +kernel
theorem dX11_noteOf_87 : decode cX11_noteOf 87 = .ok (.iconst (-1), 1) := by decide +kernel
theorem dX11_noteOf_88 : decode cX11_noteOf 88 = .ok (.ixor, 1) := by decide +kernel
theorem dX11_noteOf_89 : decode cX11_noteOf 89 = .ok (.iand, 1) := by decide +kernel
theorem dX11_noteOf_90 : decode cX11_noteOf 90 = .ok (.iadd, 1) := by decide +kernel
theorem dX11_noteOf_91 : decode cX11_noteOf 91 = .ok (.iaload, 1) := by decide +kernel
theorem dX11_noteOf_92 : decode cX11_noteOf 92 = .ok (.iadd, 1) := by decide +kernel
theorem dX11_noteOf_93 : decode cX11_noteOf 93 = .ok (.aload_n 0, 1) := by decide +kernel
theorem dX11_noteOf_94 : decode cX11_noteOf 94 = .ok (.getfield 80, 3) := by decide +kernel
theorem dX11_noteOf_97 : decode cX11_noteOf 97 = .ok (.sipush 1024, 3) := by decide +kernel
theorem dX11_noteOf_100 : decode cX11_noteOf 100 = .ok (.iload 6, 2) := by decide +kernel
theorem dX11_noteOf_102 : decode cX11_noteOf 102 = .ok (.imul, 1) := by decide +kernel
theorem dX11_noteOf_103 : decode cX11_noteOf 103 = .ok (.iload 4, 2) := by decide +kernel
theorem dX11_noteOf_105 : decode cX11_noteOf 105 = .ok (.iadd, 1) := by decide +kernel
theorem dX11_noteOf_106 : decode cX11_noteOf 106 = .ok (.iaload, 1) := by decide +kernel
theorem dX11_noteOf_107 : decode cX11_noteOf 107 = .ok (.if_icmp .ne 7, 3) := by decide +kernel
theorem dX11_noteOf_110 : decode cX11_noteOf 110 = .ok (.iconst 1, 1) := by decide +kernel
theorem dX11_noteOf_111 : decode cX11_noteOf 111 = .ok (.goto 4, 3) := by decide +kernel
theorem dX11_noteOf_114 : decode cX11_noteOf 114 = .ok (.iconst 0, 1) := by decide +kernel
theorem dX11_noteOf_115 : decode cX11_noteOf 115 = .ok (.istore 7, 2) := by decide +kernel
theorem dX11_noteOf_117 : decode cX11_noteOf 117 = .ok (.iload 7, 2) := by decide +kernel
theorem dX11_noteOf_119 : decode cX11_noteOf 119 = .ok (.ifCond .eq 29, 3) := by decide +kernel
theorem dX11_noteOf_122 : decode cX11_noteOf 122 = .ok (.iload 5, 2) := by decide +kernel
theorem dX11_noteOf_124 : decode cX11_noteOf 124 = .ok (.iload_n 2, 1) := by decide +kernel
theorem dX11_noteOf_125 : decode cX11_noteOf 125 = .ok (.if_icmp .ne 6, 3) := by decide +kernel
theorem dX11_noteOf_128 : decode cX11_noteOf 128 = .ok (.iload 6, 2) := by decide +kernel
theorem dX11_noteOf_130 : decode cX11_noteOf 130 = .ok (.ireturn, 1) := by decide +kernel
theorem dX11_noteOf_131 : decode cX11_noteOf 131 = .ok (.iinc 5 1, 3) := by decide +kernel
theorem dX11_noteOf_134 : decode cX11_noteOf 134 = .ok (.iload 4, 2) := by decide +kernel
theorem dX11_noteOf_136 : decode cX11_noteOf 136 = .ok (.aload_n 0, 1) := by decide +kernel
theorem dX11_noteOf_137 : decode cX11_noteOf 137 = .ok (.getfield 76, 3) := by decide +kernel
theorem dX11_noteOf_140 : decode cX11_noteOf 140 = .ok (.iload 6, 2) := by decide +kernel
theorem dX11_noteOf_142 : decode cX11_noteOf 142 = .ok (.iaload, 1) := by decide +kernel
theorem dX11_noteOf_143 : decode cX11_noteOf 143 = .ok (.iconst (-1), 1) := by decide +kernel
theorem dX11_noteOf_144 : decode cX11_noteOf 144 = .ok (.ixor, 1) := by decide +kernel
theorem dX11_noteOf_145 : decode cX11_noteOf 145 = .ok (.iand, 1) := by decide +kernel
theorem dX11_noteOf_146 : decode cX11_noteOf 146 = .ok (.istore 4, 2) := by decide +kernel
theorem dX11_noteOf_148 : decode cX11_noteOf 148 = .ok (.iinc 6 1, 3) := by decide +kernel
theorem dX11_noteOf_151 : decode cX11_noteOf 151 = .ok (.goto (-110), 3) := by decide +kernel
theorem dX11_noteOf_154 : decode cX11_noteOf 154 = .ok (.iconst (-1), 1) := by decide +kernel
theorem dX11_noteOf_155 : decode cX11_noteOf 155 = .ok (.ireturn, 1) := by decide +kernel
theorem dX11_who_0 : decode cX11_who 0 = .ok (.aload_n 0, 1) := by decide +kernel
theorem dX11_who_1 : decode cX11_who 1 = .ok (.iload_n 1, 1) := by decide +kernel
theorem dX11_who_2 : decode cX11_who 2 = .ok (.invokevirtual 315, 3) := by decide +kernel
theorem dX11_who_5 : decode cX11_who 5 = .ok (.ifCond .ne 7, 3) := by decide +kernel
theorem dX11_who_8 : decode cX11_who 8 = .ok (.sipush (-1001), 3) := by decide +kernel
theorem dX11_who_11 : decode cX11_who 11 = .ok (.ireturn, 1) := by decide +kernel
theorem dX11_who_12 : decode cX11_who 12 = .ok (.iconst 0, 1) := by decide +kernel
theorem dX11_who_13 : decode cX11_who 13 = .ok (.istore_n 2, 1) := by decide +kernel
theorem dX11_who_14 : decode cX11_who 14 = .ok (.iconst 0, 1) := by decide +kernel
theorem dX11_who_15 : decode cX11_who 15 = .ok (.istore_n 3, 1) := by decide +kernel
theorem dX11_who_16 : decode cX11_who 16 = .ok (.iload_n 3, 1) := by decide +kernel
theorem dX11_who_17 : decode cX11_who 17 = .ok (.aload_n 0, 1) := by decide +kernel
theorem dX11_who_18 : decode cX11_who 18 = .ok (.getfield 206, 3) := by decide +kernel
theorem dX11_who_21 : decode cX11_who 21 = .ok (.if_icmp .ge 104, 3) := by decide +kernel
theorem dX11_who_24 : decode cX11_who 24 = .ok (.iconst 0, 1) := by decide +kernel
theorem dX11_who_25 : decode cX11_who 25 = .ok (.istore 4, 2) := by decide +kernel
theorem dX11_who_27 : decode cX11_who 27 = .ok (.aload_n 0, 1) := by decide +kernel
theorem dX11_who_28 : decode cX11_who 28 = .ok (.getfield 32, 3) := by decide +kernel
theorem dX11_who_31 : decode cX11_who 31 = .ok (.iconst 4, 1) := by decide +kernel
theorem dX11_who_32 : decode cX11_who 32 = .ok (.iload_n 3, 1) := by decide +kernel
theorem dX11_who_33 : decode cX11_who 33 = .ok (.imul, 1) := by decide +kernel
theorem dX11_who_34 : decode cX11_who 34 = .ok (.iconst 2, 1) := by decide +kernel
theorem dX11_who_35 : decode cX11_who 35 = .ok (.iadd, 1) := by decide +kernel
theorem dX11_who_36 : decode cX11_who 36 = .ok (.iaload, 1) := by decide +kernel
theorem dX11_who_37 : decode cX11_who 37 = .ok (.istore 5, 2) := by decide +kernel
theorem dX11_who_39 : decode cX11_who 39 = .ok (.iload 5, 2) := by decide +kernel
theorem dX11_who_41 : decode cX11_who 41 = .ok (.aload_n 0, 1) := by decide +kernel
theorem dX11_who_42 : decode cX11_who 42 = .ok (.getfield 32, 3) := by decide +kernel
theorem dX11_who_45 : decode cX11_who 45 = .ok (.iconst 4, 1) := by decide +kernel
theorem dX11_who_46 : decode cX11_who 46 = .ok (.iload_n 3, 1) := by decide +kernel
theorem dX11_who_47 : decode cX11_who 47 = .ok (.imul, 1) := by decide +kernel
theorem dX11_who_48 : decode cX11_who 48 = .ok (.iconst 3, 1) := by decide +kernel
theorem dX11_who_49 : decode cX11_who 49 = .ok (.iadd, 1) := by decide +kernel
theorem dX11_who_50 : decode cX11_who 50 = .ok (.iaload, 1) := by decide +kernel
theorem dX11_who_51 : decode cX11_who 51 = .ok (.if_icmp .gt 53, 3) := by decide +kernel
theorem dX11_who_54 : decode cX11_who 54 = .ok (.iload 4, 2) := by decide +kernel
theorem dX11_who_56 : decode cX11_who 56 = .ok (.ifCond .ne 35, 3) := by decide +kernel
theorem dX11_who_59 : decode cX11_who 59 = .ok (.aload_n 0, 1) := by decide +kernel
theorem dX11_who_60 : decode cX11_who 60 = .ok (.aload_n 0, 1) := by decide +kernel
theorem dX11_who_61 : decode cX11_who 61 = .ok (.getfield 32, 3) := by decide +kernel
theorem dX11_who_64 : decode cX11_who 64 = .ok (.iconst 4, 1) := by decide +kernel
theorem dX11_who_65 : decode cX11_who 65 = .ok (.iload_n 3, 1) := by decide +kernel
theorem dX11_who_66 : decode cX11_who 66 = .ok (.imul, 1) := by decide +kernel
theorem dX11_who_67 : decode cX11_who 67 = .ok (.iaload, 1) := by decide +kernel
theorem dX11_who_68 : decode cX11_who 68 = .ok (.iload 5, 2) := by decide +kernel
theorem dX11_who_70 : decode cX11_who 70 = .ok (.aload_n 0, 1) := by decide +kernel
theorem dX11_who_71 : decode cX11_who 71 = .ok (.getfield 32, 3) := by decide +kernel
theorem dX11_who_74 : decode cX11_who 74 = .ok (.iconst 4, 1) := by decide +kernel
theorem dX11_who_75 : decode cX11_who 75 = .ok (.iload_n 3, 1) := by decide +kernel
theorem dX11_who_76 : decode cX11_who 76 = .ok (.imul, 1) := by decide +kernel
theorem dX11_who_77 : decode cX11_who 77 = .ok (.iconst 1, 1) := by decide +kernel
theorem dX11_who_78 : decode cX11_who 78 = .ok (.iadd, 1) := by decide +kernel
theorem dX11_who_79 : decode cX11_who 79 = .ok (.iaload, 1) := by decide +kernel
theorem dX11_who_80 : decode cX11_who 80 = .ok (.aload_n 0, 1) := by decide +kernel
theorem dX11_who_81 : decode cX11_who 81 = .ok (.getfield 218, 3) := by decide +kernel
theorem dX11_who_84 : decode cX11_who 84 = .ok (.invokevirtual 255, 3) := by decide +kernel
theorem dX11_who_87 : decode cX11_who 87 = .ok (.iload_n 1, 1) := by decide +kernel
theorem dX11_who_88 : decode cX11_who 88 = .ok (.if_icmp .ne 7, 3) := by decide +kernel
theorem dX11_who_91 : decode cX11_who 91 = .ok (.iconst 1, 1) := by decide +kernel
theorem dX11_who_92 : decode cX11_who 92 = .ok (.goto 4, 3) := by decide +kernel
theorem dX11_who_95 : decode cX11_who 95 = .ok (.iconst 0, 1) := by decide +kernel
theorem dX11_who_96 : decode cX11_who 96 = .ok (.istore 4, 2) := by decide +kernel
theorem dX11_who_98 : decode cX11_who 98 = .ok (.iinc 5 1, 3) := by decide +kernel
theorem dX11_who_101 : decode cX11_who 101 = .ok (.goto (-62), 3) := by decide +kernel
theorem dX11_who_104 : decode cX11_who 104 = .ok (.iload_n 2, 1) := by decide +kernel
theorem dX11_who_105 : decode cX11_who 105 = .ok (.iload 4, 2) := by decide +kernel
theorem dX11_who_107 : decode cX11_who 107 = .ok (.ifCond .eq 9, 3) := by decide +kernel
theorem dX11_who_110 : decode cX11_who 110 = .ok (.iconst 1, 1) := by decide +kernel
theorem dX11_who_111 : decode cX11_who 111 = .ok (.iload_n 3, 1) := by decide +kernel
theorem dX11_who_112 : decode cX11_who 112 = .ok (.ishl, 1) := by decide +kernel
theorem dX11_who_113 : decode cX11_who 113 = .ok (.goto 4, 3) := by decide +kernel
theorem dX11_who_116 : decode cX11_who 116 = .ok (.iconst 0, 1) := by decide +kernel
theorem dX11_who_117 : decode cX11_who 117 = .ok (.ior, 1) := by decide +kernel
theorem dX11_who_118 : decode cX11_who 118 = .ok (.istore_n 2, 1) := by decide +kernel
theorem dX11_who_119 : decode cX11_who 119 = .ok (.iinc 3 1, 3) := by decide +kernel
theorem dX11_who_122 : decode cX11_who 122 = .ok (.goto (-106), 3) := by decide +kernel
theorem dX11_who_125 : decode cX11_who 125 = .ok (.iload_n 2, 1) := by decide +kernel
theorem dX11_who_126 : decode cX11_who 126 = .ok (.ireturn, 1) := by decide +kernel
theorem dX11_where_0 : decode cX11_where 0 = .ok (.aload_n 0, 1) := by decide +kernel
theorem dX11_where_1 : decode cX11_where 1 = .ok (.iload_n 1, 1) := by decide +kernel
theorem dX11_where_2 : decode cX11_where 2 = .ok (.invokevirtual 315, 3) := by decide +kernel
theorem dX11_where_5 : decode cX11_where 5 = .ok (.ifCond .ne 7, 3) := by decide +kernel
theorem dX11_where_8 : decode cX11_where 8 = .ok (.sipush (-1001), 3) := by decide +kernel
theorem dX11_where_11 : decode cX11_where 11 = .ok (.ireturn, 1) := by decide +kernel
theorem dX11_where_12 : decode cX11_where 12 = .ok (.iload_n 2, 1) := by decide +kernel
theorem dX11_where_13 : decode cX11_where 13 = .ok (.invokestatic 268, 3) := by decide +kernel
theorem dX11_where_16 : decode cX11_where 16 = .ok (.ifCond .ne 7, 3) := by decide +kernel
theorem dX11_where_19 : decode cX11_where 19 = .ok (.sipush (-1002), 3) := by decide +kernel
theorem dX11_where_22 : decode cX11_where 22 = .ok (.ireturn, 1) := by decide +kernel
theorem dX11_where_23 : decode cX11_where 23 = .ok (.iconst 0, 1) := by decide +kernel
theorem dX11_where_24 : decode cX11_where 24 = .ok (.istore_n 3, 1) := by decide +kernel
theorem dX11_where_25 : decode cX11_where 25 = .ok (.iconst 0, 1) := by decide +kernel
theorem dX11_where_26 : decode cX11_where 26 = .ok (.istore 4, 2) := by decide +kernel
theorem dX11_where_28 : decode cX11_where 28 = .ok (.iload 4, 2) := by decide +kernel
theorem dX11_where_30 : decode cX11_where 30 = .ok (.bipush 50, 2) := by decide +kernel
theorem dX11_where_32 : decode cX11_where 32 = .ok (.if_icmp .ge 70, 3) := by decide +kernel
theorem dX11_where_35 : decode cX11_where 35 = .ok (.iconst 0, 1) := by decide +kernel
theorem dX11_where_36 : decode cX11_where 36 = .ok (.istore 5, 2) := by decide +kernel
theorem dX11_where_38 : decode cX11_where 38 = .ok (.iconst 0, 1) := by decide +kernel
theorem dX11_where_39 : decode cX11_where 39 = .ok (.istore 6, 2) := by decide +kernel
theorem dX11_where_41 : decode cX11_where 41 = .ok (.iload 6, 2) := by decide +kernel
theorem dX11_where_43 : decode cX11_where 43 = .ok (.bipush 64, 2) := by decide +kernel
theorem dX11_where_45 : decode cX11_where 45 = .ok (.if_icmp .ge 38, 3) := by decide +kernel
theorem dX11_where_48 : decode cX11_where 48 = .ok (.iload 5, 2) := by decide +kernel
theorem dX11_where_50 : decode cX11_where 50 = .ok (.ifCond .ne 20, 3) := by decide +kernel
theorem dX11_where_53 : decode cX11_where 53 = .ok (.aload_n 0, 1) := by decide +kernel
theorem dX11_where_54 : decode cX11_where 54 = .ok (.iload 4, 2) := by decide +kernel
theorem dX11_where_56 : decode cX11_where 56 = .ok (.iload 6, 2) := by decide +kernel
theorem dX11_where_58 : decode cX11_where 58 = .ok (.iload_n 2, 1) := by decide +kernel
theorem dX11_where_59 : decode cX11_where 59 = .ok (.aload_n 0, 1) := by decide +kernel
theorem dX11_where_60 : decode cX11_where 60 = .ok (.getfield 218, 3) := by decide +kernel
theorem dX11_where_63 : decode cX11_where 63 = .ok (.invokevirtual 255, 3) := by decide +kernel
theorem dX11_where_66 : decode cX11_where 66 = .ok (.iload_n 1, 1) := by decide +kernel
theorem dX11_where_67 : decode cX11_where 67 = .ok (.if_icmp .ne 7, 3) := by decide +kernel
theorem dX11_where_70 : decode cX11_where 70 = .ok (.iconst 1, 1) := by decide +kernel
theorem dX11_where_71 : decode cX11_where 71 = .ok (.goto 4, 3) := by decide +kernel
theorem dX11_where_74 : decode cX11_where 74 = .ok (.iconst 0, 1) := by decide +kernel
theorem dX11_where_75 : decode cX11_where 75 = .ok (.istore 5, 2) := by decide +kernel
theorem dX11_where_77 : decode cX11_where 77 = .ok (.iinc 6 1, 3) := by decide +kernel
theorem dX11_where_80 : decode cX11_where 80 = .ok (.goto (-39), 3) := by decide +kernel
theorem dX11_where_83 : decode cX11_where 83 = .ok (.iload_n 3, 1) := by decide +kernel
theorem dX11_where_84 : decode cX11_where 84 = .ok (.iload 5, 2) := by decide +kernel
theorem dX11_where_86 : decode cX11_where 86 = .ok (.ifCond .eq 7, 3) := by decide +kernel
theorem dX11_where_89 : decode cX11_where 89 = .ok (.iconst 1, 1) := by decide +kernel
theorem dX11_where_90 : decode cX11_where 90 = .ok (.goto 4, 3) := by decide +kernel
theorem dX11_where_93 : decode cX11_where 93 = .ok (.iconst 0, 1) := by decide +kernel
theorem dX11_where_94 : decode cX11_where 94 = .ok (.iadd, 1) := by decide +kernel
theorem dX11_where_95 : decode cX11_where 95 = .ok (.istore_n 3, 1) := by decide +kernel
theorem dX11_where_96 : decode cX11_where 96 = .ok (.iinc 4 1, 3) := by decide +kernel
theorem dX11_where_99 : decode cX11_where 99 = .ok (.goto (-71), 3) := by decide +kernel
theorem dX11_where_102 : decode cX11_where 102 = .ok (.iload_n 3, 1) := by decide +kernel
theorem dX11_where_103 : decode cX11_where 103 = .ok (.ireturn, 1) := by decide +kernel
theorem dX11_file_0 : decode cX11_file 0 = .ok (.aload_n 0, 1) := by decide +kernel
theorem dX11_file_1 : decode cX11_file 1 = .ok (.iload_n 1, 1) := by decide +kernel
theorem dX11_file_2 : decode cX11_file 2 = .ok (.invokevirtual 242, 3) := by decide +kernel
theorem dX11_file_5 : decode cX11_file 5 = .ok (.ifCond .ne 7, 3) := by decide +kernel
theorem dX11_file_8 : decode cX11_file 8 = .ok (.sipush (-1001), 3) := by decide +kernel
theorem dX11_file_11 : decode cX11_file 11 = .ok (.ireturn, 1) := by decide +kernel
theorem dX11_file_12 : decode cX11_file 12 = .ok (.aload_n 0, 1) := by decide +kernel
theorem dX11_file_13 : decode cX11_file 13 = .ok (.getfield 7, 3) := by decide +kernel
theorem dX11_file_16 : decode cX11_file 16 = .ok (.iconst 4, 1) := by decide +kernel
theorem dX11_file_17 : decode cX11_file 17 = .ok (.iload_n 1, 1) := by decide +kernel
theorem dX11_file_18 : decode cX11_file 18 = .ok (.imul, 1) := by decide +kernel
theorem dX11_file_19 : decode cX11_file 19 = .ok (.iconst 1, 1) := by decide +kernel
theorem dX11_file_20 : decode cX11_file 20 = .ok (.iadd, 1) := by decide +kernel
theorem dX11_file_21 : decode cX11_file 21 = .ok (.iaload, 1) := by decide +kernel
theorem dX11_file_22 : decode cX11_file 22 = .ok (.istore_n 3, 1) := by decide +kernel
theorem dX11_file_23 : decode cX11_file 23 = .ok (.iload_n 2, 1) := by decide +kernel
theorem dX11_file_24 : decode cX11_file 24 = .ok (.i2l, 1) := by decide +kernel
theorem dX11_file_25 : decode cX11_file 25 = .ok (.iload_n 3, 1) := by decide +kernel
theorem dX11_file_26 : decode cX11_file 26 = .ok (.iconst 1, 1) := by decide +kernel
theorem dX11_file_27 : decode cX11_file 27 = .ok (.iadd, 1) := by decide +kernel
theorem dX11_file_28 : decode cX11_file 28 = .ok (.i2l, 1) := by decide +kernel
theorem dX11_file_29 : decode cX11_file 29 = .ok (.ldc2_w 263, 3) := by decide +kernel
theorem dX11_file_32 : decode cX11_file 32 = .ok (.invokestatic 107, 3) := by decide +kernel
theorem dX11_file_35 : decode cX11_file 35 = .ok (.ifCond .ne 7, 3) := by decide +kernel
theorem dX11_file_38 : decode cX11_file 38 = .ok (.sipush (-1002), 3) := by decide +kernel
theorem dX11_file_41 : decode cX11_file 41 = .ok (.ireturn, 1) := by decide +kernel
theorem dX11_file_42 : decode cX11_file 42 = .ok (.aload_n 0, 1) := by decide +kernel
theorem dX11_file_43 : decode cX11_file 43 = .ok (.getfield 7, 3) := by decide +kernel
theorem dX11_file_46 : decode cX11_file 46 = .ok (.iconst 4, 1) := by decide +kernel
theorem dX11_file_47 : decode cX11_file 47 = .ok (.iload_n 1, 1) := by decide +kernel
theorem dX11_file_48 : decode cX11_file 48 = .ok (.imul, 1) := by decide +kernel
theorem dX11_file_49 : decode cX11_file 49 = .ok (.iconst 1, 1) := by decide +kernel
theorem dX11_file_50 : decode cX11_file 50 = .ok (.iadd, 1) := by decide +kernel
theorem dX11_file_51 : decode cX11_file 51 = .ok (.iload_n 2, 1) := by decide +kernel
theorem dX11_file_52 : decode cX11_file 52 = .ok (.iastore, 1) := by decide +kernel
theorem dX11_file_53 : decode cX11_file 53 = .ok (.iload_n 2, 1) := by decide +kernel
theorem dX11_file_54 : decode cX11_file 54 = .ok (.iload_n 3, 1) := by decide +kernel
theorem dX11_file_55 : decode cX11_file 55 = .ok (.isub, 1) := by decide +kernel
theorem dX11_file_56 : decode cX11_file 56 = .ok (.ireturn, 1) := by decide +kernel
theorem dX11_isTogether_0 : decode cX11_isTogether 0 = .ok (.aload_n 0, 1) := by decide +kernel
theorem dX11_isTogether_1 : decode cX11_isTogether 1 = .ok (.getfield 86, 3) := by decide +kernel
theorem dX11_isTogether_4 : decode cX11_isTogether 4 = .ok (.iload_n 1, 1) := by decide +kernel
theorem dX11_isTogether_5 : decode cX11_isTogether 5 = .ok (.iaload, 1) := by decide +kernel
theorem dX11_isTogether_6 : decode cX11_isTogether 6 = .ok (.aload_n 0, 1) := by decide +kernel
theorem dX11_isTogether_7 : decode cX11_isTogether 7 = .ok (.getfield 7, 3) := by decide +kernel
theorem dX11_isTogether_10 : decode cX11_isTogether 10 = .ok (.iconst 4, 1) := by decide +kernel
theorem dX11_isTogether_11 : decode cX11_isTogether 11 = .ok (.iload_n 1, 1) := by decide +kernel
theorem dX11_isTogether_12 : decode cX11_isTogether 12 = .ok (.imul, 1) := by decide +kernel
theorem dX11_isTogether_13 : decode cX11_isTogether 13 = .ok (.iconst 3, 1) := by decide +kernel
theorem dX11_isTogether_14 : decode cX11_isTogether 14 = .ok (.iadd, 1) := by decide +kernel
theorem dX11_isTogether_15 : decode cX11_isTogether 15 = .ok (.iaload, 1) := by decide +kernel
theorem dX11_isTogether_16 : decode cX11_isTogether 16 = .ok (.aload_n 0, 1) := by decide +kernel
theorem dX11_isTogether_17 : decode cX11_isTogether 17 = .ok (.getfield 218, 3) := by decide +kernel
theorem dX11_isTogether_20 : decode cX11_isTogether 20 = .ok (.imul, 1) := by decide +kernel
theorem dX11_isTogether_21 : decode cX11_isTogether 21 = .ok (.isub, 1) := by decide +kernel
theorem dX11_isTogether_22 : decode cX11_isTogether 22 = .ok (.istore_n 3, 1) := by decide +kernel
theorem dX11_isTogether_23 : decode cX11_isTogether 23 = .ok (.aload_n 0, 1) := by decide +kernel
theorem dX11_isTogether_24 : decode cX11_isTogether 24 = .ok (.getfield 86, 3) := by decide +kernel
theorem dX11_isTogether_27 : decode cX11_isTogether 27 = .ok (.iload_n 2, 1) := by decide +kernel
theorem dX11_isTogether_28 : decode cX11_isTogether 28 = .ok (.iaload, 1) := by decide +kernel
theorem dX11_isTogether_29 : decode cX11_isTogether 29 = .ok (.aload_n 0, 1) := by decide +kernel
theorem dX11_isTogether_30 : decode cX11_isTogether 30 = .ok (.getfield 7, 3) := by decide +kernel
theorem dX11_isTogether_33 : decode cX11_isTogether 33 = .ok (.iconst 4, 1) := by decide +kernel
theorem dX11_isTogether_34 : decode cX11_isTogether 34 = .ok (.iload_n 2, 1) := by decide +kernel
theorem dX11_isTogether_35 : decode cX11_isTogether 35 = .ok (.imul, 1) := by decide +kernel
theorem dX11_isTogether_36 : decode cX11_isTogether 36 = .ok (.iconst 3, 1) := by decide +kernel
theorem dX11_isTogether_37 : decode cX11_isTogether 37 = .ok (.iadd, 1) := by decide +kernel
theorem dX11_isTogether_38 : decode cX11_isTogether 38 = .ok (.iaload, 1) := by decide +kernel
theorem dX11_isTogether_39 : decode cX11_isTogether 39 = .ok (.aload_n 0, 1) := by decide +kernel
theorem dX11_isTogether_40 : decode cX11_isTogether 40 = .ok (.getfield 218, 3) := by decide +kernel
theorem dX11_isTogether_43 : decode cX11_isTogether 43 = .ok (.imul, 1) := by decide +kernel
theorem dX11_isTogether_44 : decode cX11_isTogether 44 = .ok (.isub, 1) := by decide +kernel
theorem dX11_isTogether_45 : decode cX11_isTogether 45 = .ok (.istore 4, 2) := by decide +kernel
theorem dX11_isTogether_47 : decode cX11_isTogether 47 = .ok (.iconst 0, 1) := by decide +kernel
theorem dX11_isTogether_48 : decode cX11_isTogether 48 = .ok (.istore 5, 2) := by decide +kernel
theorem dX11_isTogether_50 : decode cX11_isTogether 50 = .ok (.iconst 0, 1) := by decide +kernel
theorem dX11_isTogether_51 : decode cX11_isTogether 51 = .ok (.istore 6, 2) := by decide +kernel
theorem dX11_isTogether_53 : decode cX11_isTogether 53 = .ok (.iload 6, 2) := by decide +kernel
theorem dX11_isTogether_55 : decode cX11_isTogether 55 = .ok (.bipush 64, 2) := by decide +kernel
theorem dX11_isTogether_57 : decode cX11_isTogether 57 = .ok (.if_icmp .ge 62, 3) := by decide +kernel
theorem dX11_isTogether_60 : decode cX11_isTogether 60 = .ok (.iload 5, 2) := by decide +kernel
theorem dX11_isTogether_62 : decode cX11_isTogether 62 = .ok (.ifCond .ne 44, 3) := by decide +kernel
theorem dX11_isTogether_65 : decode cX11_isTogether 65 = .ok (.iload_n 3, 1) := by decide +kernel
theorem dX11_isTogether_66 : decode cX11_isTogether 66 = .ok (.iload 6, 2) := by decide +kernel
theorem dX11_isTogether_68 : decode cX11_isTogether 68 = .ok (.isub, 1) := by decide +kernel
theorem dX11_isTogether_69 : decode cX11_isTogether 69 = .ok (.invokestatic 251, 3) := by decide +kernel
theorem dX11_isTogether_72 : decode cX11_isTogether 72 = .ok (.aload_n 0, 1) := by decide +kernel
theorem dX11_isTogether_73 : decode cX11_isTogether 73 = .ok (.getfield 7, 3) := by decide +kernel
theorem dX11_isTogether_76 : decode cX11_isTogether 76 = .ok (.iconst 4, 1) := by decide +kernel
theorem dX11_isTogether_77 : decode cX11_isTogether 77 = .ok (.iload_n 1, 1) := by decide +kernel
theorem dX11_isTogether_78 : decode cX11_isTogether 78 = .ok (.imul, 1) := by decide +kernel
theorem dX11_isTogether_79 : decode cX11_isTogether 79 = .ok (.iconst 2, 1) := by decide +kernel
theorem dX11_isTogether_80 : decode cX11_isTogether 80 = .ok (.iadd, 1) := by decide +kernel
theorem dX11_isTogether_81 : decode cX11_isTogether 81 = .ok (.iaload, 1) := by decide +kernel
theorem dX11_isTogether_82 : decode cX11_isTogether 82 = .ok (.if_icmp .gt 28, 3) := by decide +kernel
theorem dX11_isTogether_85 : decode cX11_isTogether 85 = .ok (.iload 4, 2) := by decide +kernel
theorem dX11_isTogether_87 : decode cX11_isTogether 87 = .ok (.iload 6, 2) := by decide +kernel
theorem dX11_isTogether_89 : decode cX11_isTogether 89 = .ok (.isub, 1) := by decide +kernel
theorem dX11_isTogether_90 : decode cX11_isTogether 90 = .ok (.invokestatic 251, 3) := by decide +kernel
theorem dX11_isTogether_93 : decode cX11_isTogether 93 = .ok (.aload_n 0, 1) := by decide +kernel
theorem dX11_isTogether_94 : decode cX11_isTogether 94 = .ok (.getfield 7, 3) := by decide +kernel
theorem dX11_isTogether_97 : decode cX11_isTogether 97 = .ok (.iconst 4, 1) := by decide +kernel
theorem dX11_isTogether_98 : decode cX11_isTogether 98 = .ok (.iload_n 2, 1) := by decide +kernel
theorem dX11_isTogether_99 : decode cX11_isTogether 99 = .ok (.imul, 1) := by decide +kernel
theorem dX11_isTogether_100 : decode cX11_isTogether 100 = .ok (.iconst 2, 1) := by decide +kernel
theorem dX11_isTogether_101 : decode cX11_isTogether 101 = .ok (.iadd, 1) := by decide +kernel
theorem dX11_isTogether_102 : decode cX11_isTogether 102 = .ok (.iaload, 1) := by decide +kernel
theorem dX11_isTogether_103 : decode cX11_isTogether 103 = .ok (.if_icmp .gt 7, 3) := by decide +kernel
theorem dX11_isTogether_106 : decode cX11_isTogether 106 = .ok (.iconst 1, 1) := by decide +kernel
theorem dX11_isTogether_107 : decode cX11_isTogether 107 = .ok (.goto 4, 3) := by decide +kernel
theorem dX11_isTogether_110 : decode cX11_isTogether 110 = .ok (.iconst 0, 1) := by decide +kernel
theorem dX11_isTogether_111 : decode cX11_isTogether 111 = .ok (.istore 5, 2) := by decide +kernel
theorem dX11_isTogether_113 : decode cX11_isTogether 113 = .ok (.iinc 6 1, 3) := by decide +kernel
theorem dX11_isTogether_116 : decode cX11_isTogether 116 = .ok (.goto (-63), 3) := by decide +kernel
theorem dX11_isTogether_119 : decode cX11_isTogether 119 = .ok (.iconst 0, 1) := by decide +kernel
theorem dX11_isTogether_120 : decode cX11_isTogether 120 = .ok (.istore 6, 2) := by decide +kernel
theorem dX11_isTogether_122 : decode cX11_isTogether 122 = .ok (.iconst 0, 1) := by decide +kernel
theorem dX11_isTogether_123 : decode cX11_isTogether 123 = .ok (.istore 7, 2) := by decide +kernel
theorem dX11_isTogether_125 : decode cX11_isTogether 125 = .ok (.iload 7, 2) := by decide +kernel
theorem dX11_isTogether_127 : decode cX11_isTogether 127 = .ok (.bipush 50, 2) := by decide +kernel
theorem dX11_isTogether_129 : decode cX11_isTogether 129 = .ok (.if_icmp .ge 68, 3) := by decide +kernel
theorem dX11_isTogether_132 : decode cX11_isTogether 132 = .ok (.iload 5, 2) := by decide +kernel
theorem dX11_isTogether_134 : decode cX11_isTogether 134 = .ok (.ifCond .eq 63, 3) := by decide +kernel
theorem dX11_isTogether_137 : decode cX11_isTogether 137 = .ok (.iload 6, 2) := by decide +kernel
theorem dX11_isTogether_139 : decode cX11_isTogether 139 = .ok (.ifCond .ne 45, 3) := by decide +kernel
theorem dX11_isTogether_142 : decode cX11_isTogether 142 = .ok (.aload_n 0, 1) := by decide +kernel
theorem dX11_isTogether_143 : decode cX11_isTogether 143 = .ok (.getfield 7, 3) := by decide +kernel
theorem dX11_isTogether_146 : decode cX11_isTogether 146 = .ok (.iconst 4, 1) := by decide +kernel
theorem dX11_isTogether_147 : decode cX11_isTogether 147 = .ok (.iload_n 1, 1) := by decide +kernel
theorem dX11_isTogether_148 : decode cX11_isTogether 148 = .ok (.imul, 1) := by decide +kernel
theorem dX11_isTogether_149 : decode cX11_isTogether 149 = .ok (.iaload, 1) := by decide +kernel
theorem dX11_isTogether_150 : decode cX11_isTogether 150 = .ok (.iload 7, 2) := by decide +kernel
theorem dX11_isTogether_152 : decode cX11_isTogether 152 = .ok (.isub, 1) := by decide +kernel
theorem dX11_isTogether_153 : decode cX11_isTogether 153 = .ok (.invokestatic 251, 3) := by decide +kernel
theorem dX11_isTogether_156 : decode cX11_isTogether 156 = .ok (.aload_n 0, 1) := by decide +kernel
theorem dX11_isTogether_157 : decode cX11_isTogether 157 = .ok (.getfield 29, 3) := by decide +kernel
theorem dX11_isTogether_160 : decode cX11_isTogether 160 = .ok (.if_icmp .ge 28, 3) := by decide +kernel
theorem dX11_isTogether_163 : decode cX11_isTogether 163 = .ok (.aload_n 0, 1) := by decide +kernel
theorem dX11_isTogether_164 : decode cX11_isTogether 164 = .ok (.getfield 7, 3) := by decide +kernel
theorem dX11_isTogether_167 : decode cX11_isTogether 167 = .ok (.iconst 4, 1) := by decide +kernel
theorem dX11_isTogether_168 : decode cX11_isTogether 168 = .ok (.iload_n 2, 1) := by decide +kernel
theorem dX11_isTogether_169 : decode cX11_isTogether 169 = .ok (.imul, 1) := by decide +kernel
theorem dX11_isTogether_170 : decode cX11_isTogether 170 = .ok (.iaload, 1) := by decide +kernel
theorem dX11_isTogether_171 : decode cX11_isTogether 171 = .ok (.iload 7, 2) := by decide +kernel
theorem dX11_isTogether_173 : decode cX11_isTogether 173 = .ok (.isub, 1) := by decide +kernel
theorem dX11_isTogether_174 : decode cX11_isTogether 174 = .ok (.invokestatic 251, 3) := by decide +kernel
theorem dX11_isTogether_177 : decode cX11_isTogether 177 = .ok (.aload_n 0, 1) := by decide +kernel
theorem dX11_isTogether_178 : decode cX11_isTogether 178 = .ok (.getfield 29, 3) := by decide +kernel
theorem dX11_isTogether_181 : decode cX11_isTogether 181 = .ok (.if_icmp .ge 7, 3) := by decide +kernel
theorem dX11_isTogether_184 : decode cX11_isTogether 184 = .ok (.iconst 1, 1) := by decide +kernel
theorem dX11_isTogether_185 : decode cX11_isTogether 185 = .ok (.goto 4, 3) := by decide +kernel
theorem dX11_isTogether_188 : decode cX11_isTogether 188 = .ok (.iconst 0, 1) := by decide +kernel
theorem dX11_isTogether_189 : decode cX11_isTogether 189 = .ok (.istore 6, 2) := by decide +kernel
theorem dX11_isTogether_191 : decode cX11_isTogether 191 = .ok (.iinc 7 1, 3) := by decide +kernel
theorem dX11_isTogether_194 : decode cX11_isTogether 194 = .ok (.goto (-69), 3) := by decide +kernel
theorem dX11_isTogether_197 : decode cX11_isTogether 197 = .ok (.iload 5, 2) := by decide +kernel
theorem dX11_isTogether_199 : decode cX11_isTogether 199 = .ok (.ifCond .eq 12, 3) := by decide +kernel
theorem dX11_isTogether_202 : decode cX11_isTogether 202 = .ok (.iload 6, 2) := by decide +kernel
theorem dX11_isTogether_204 : decode cX11_isTogether 204 = .ok (.ifCond .eq 7, 3) := by decide +kernel
theorem dX11_isTogether_207 : decode cX11_isTogether 207 = .ok (.iconst 1, 1) := by decide +kernel
theorem dX11_isTogether_208 : decode cX11_isTogether 208 = .ok (.goto 4, 3) := by decide +kernel
theorem dX11_isTogether_211 : decode cX11_isTogether 211 = .ok (.iconst 0, 1) := by decide +kernel
theorem dX11_isTogether_212 : decode cX11_isTogether 212 = .ok (.ireturn, 1) := by decide +kernel
theorem dX11_isAlone_0 : decode cX11_isAlone 0 = .ok (.iconst 1, 1) := by decide +kernel
theorem dX11_isAlone_1 : decode cX11_isAlone 1 = .ok (.istore_n 2, 1) := by decide +kernel
theorem dX11_isAlone_2 : decode cX11_isAlone 2 = .ok (.iconst 0, 1) := by decide +kernel
theorem dX11_isAlone_3 : decode cX11_isAlone 3 = .ok (.istore_n 3, 1) := by decide +kernel
theorem dX11_isAlone_4 : decode cX11_isAlone 4 = .ok (.iload_n 3, 1) := by decide +kernel
theorem dX11_isAlone_5 : decode cX11_isAlone 5 = .ok (.iload_n 1, 1) := by decide +kernel
theorem dX11_isAlone_6 : decode cX11_isAlone 6 = .ok (.if_icmp .ge 38, 3) := by decide +kernel
theorem dX11_isAlone_9 : decode cX11_isAlone 9 = .ok (.iload_n 2, 1) := by decide +kernel
theorem dX11_isAlone_10 : decode cX11_isAlone 10 = .ok (.ifCond .eq 26, 3) := by decide +kernel
theorem dX11_isAlone_13 : decode cX11_isAlone 13 = .ok (.aload_n 0, 1) := by decide +kernel
theorem dX11_isAlone_14 : decode cX11_isAlone 14 = .ok (.aload_n 0, 1) := by decide +kernel
theorem dX11_isAlone_15 : decode cX11_isAlone 15 = .ok (.getfield 83, 3) := by decide +kernel
theorem dX11_isAlone_18 : decode cX11_isAlone 18 = .ok (.iload_n 1, 1) := by decide +kernel
theorem dX11_isAlone_19 : decode cX11_isAlone 19 = .ok (.iaload, 1) := by decide +kernel
theorem dX11_isAlone_20 : decode cX11_isAlone 20 = .ok (.aload_n 0, 1) := by decide +kernel
theorem dX11_isAlone_21 : decode cX11_isAlone 21 = .ok (.getfield 83, 3) := by decide +kernel
theorem dX11_isAlone_24 : decode cX11_isAlone 24 = .ok (.iload_n 3, 1) := by decide +kernel
theorem dX11_isAlone_25 : decode cX11_isAlone 25 = .ok (.iaload, 1) := by decide +kernel
theorem dX11_isAlone_26 : decode cX11_isAlone 26 = .ok (.invokevirtual 329, 3) := by decide +kernel
theorem dX11_isAlone_29 : decode cX11_isAlone 29 = .ok (.ifCond .ne 7, 3) := by decide +kernel
theorem dX11_isAlone_32 : decode cX11_isAlone 32 = .ok (.iconst 1, 1) := by decide +kernel
theorem dX11_isAlone_33 : decode cX11_isAlone 33 = .ok (.goto 4, 3) := by decide +kernel
theorem dX11_isAlone_36 : decode cX11_isAlone 36 = .ok (.iconst 0, 1) := by decide +kernel
theorem dX11_isAlone_37 : decode cX11_isAlone 37 = .ok (.istore_n 2, 1) := by decide +kernel
theorem dX11_isAlone_38 : decode cX11_isAlone 38 = .ok (.iinc 3 1, 3) := by decide +kernel
theorem dX11_isAlone_41 : decode cX11_isAlone 41 = .ok (.goto (-37), 3) := by decide +kernel
theorem dX11_isAlone_44 : decode cX11_isAlone 44 = .ok (.iload_n 2, 1) := by decide +kernel
theorem dX11_isAlone_45 : decode cX11_isAlone 45 = .ok (.ireturn, 1) := by decide +kernel
theorem dX11_fileAll_0 : decode cX11_fileAll 0 = .ok (.iconst 0, 1) := by decide +kernel
theorem dX11_fileAll_1 : decode cX11_fileAll 1 = .ok (.istore_n 1, 1) := by decide +kernel
theorem dX11_fileAll_2 : decode cX11_fileAll 2 = .ok (.iload_n 1, 1) := by decide +kernel
theorem dX11_fileAll_3 : decode cX11_fileAll 3 = .ok (.aload_n 0, 1) := by decide +kernel
theorem dX11_fileAll_4 : decode cX11_fileAll 4 = .ok (.getfield 104, 3) := by decide +kernel
theorem dX11_fileAll_7 : decode cX11_fileAll 7 = .ok (.if_icmp .ge 72, 3) := by decide +kernel
theorem dX11_fileAll_10 : decode cX11_fileAll 10 = .ok (.iload_n 1, 1) := by decide +kernel
theorem dX11_fileAll_11 : decode cX11_fileAll 11 = .ok (.istore_n 2, 1) := by decide +kernel
theorem dX11_fileAll_12 : decode cX11_fileAll 12 = .ok (.iload_n 2, 1) := by decide +kernel
theorem dX11_fileAll_13 : decode cX11_fileAll 13 = .ok (.ifCond .le 53, 3) := by decide +kernel
theorem dX11_fileAll_16 : decode cX11_fileAll 16 = .ok (.aload_n 0, 1) := by decide +kernel
theorem dX11_fileAll_17 : decode cX11_fileAll 17 = .ok (.getfield 7, 3) := by decide +kernel
theorem dX11_fileAll_20 : decode cX11_fileAll 20 = .ok (.iconst 4, 1) := by decide +kernel
theorem dX11_fileAll_21 : decode cX11_fileAll 21 = .ok (.aload_n 0, 1) := by decide +kernel
theorem dX11_fileAll_22 : decode cX11_fileAll 22 = .ok (.getfield 83, 3) := by decide +kernel
theorem dX11_fileAll_25 : decode cX11_fileAll 25 = .ok (.iload_n 2, 1) := by decide +kernel
theorem dX11_fileAll_26 : decode cX11_fileAll 26 = .ok (.iconst 1, 1) := by decide +kernel
theorem dX11_fileAll_27 : decode cX11_fileAll 27 = .ok (.isub, 1) := by decide +kernel
theorem dX11_fileAll_28 : decode cX11_fileAll 28 = .ok (.iaload, 1) := by decide +kernel
theorem dX11_fileAll_29 : decode cX11_fileAll 29 = .ok (.imul, 1) := by decide +kernel
theorem dX11_fileAll_30 : decode cX11_fileAll 30 = .ok (.iconst 1, 1) := by decide +kernel
theorem dX11_fileAll_31 : decode cX11_fileAll 31 = .ok (.iadd, 1) := by decide +kernel
theorem dX11_fileAll_32 : decode cX11_fileAll 32 = .ok (.iaload, 1) := by decide +kernel
theorem dX11_fileAll_33 : decode cX11_fileAll 33 = .ok (.aload_n 0, 1) := by decide +kernel
theorem dX11_fileAll_34 : decode cX11_fileAll 34 = .ok (.getfield 7, 3) := by decide +kernel
theorem dX11_fileAll_37 : decode cX11_fileAll 37 = .ok (.iconst 4, 1) := by decide +kernel
theorem dX11_fileAll_38 : decode cX11_fileAll 38 = .ok (.iload_n 1, 1) := by decide +kernel
theorem dX11_fileAll_39 : decode cX11_fileAll 39 = .ok (.imul, 1) := by decide +kernel
theorem dX11_fileAll_40 : decode cX11_fileAll 40 = .ok (.iconst 1, 1) := by decide +kernel
theorem dX11_fileAll_41 : decode cX11_fileAll 41 = .ok (.iadd, 1) := by decide +kernel
theorem dX11_fileAll_42 : decode cX11_fileAll 42 = .ok (.iaload, 1) := by decide +kernel
theorem dX11_fileAll_43 : decode cX11_fileAll 43 = .ok (.if_icmp .le 23, 3) := by decide +kernel
theorem dX11_fileAll_46 : decode cX11_fileAll 46 = .ok (.aload_n 0, 1) := by decide +kernel
theorem dX11_fileAll_47 : decode cX11_fileAll 47 = .ok (.getfield 83, 3) := by decide +kernel
theorem dX11_fileAll_50 : decode cX11_fileAll 50 = .ok (.iload_n 2, 1) := by decide +kernel
theorem dX11_fileAll_51 : decode cX11_fileAll 51 = .ok (.aload_n 0, 1) := by decide +kernel
theorem dX11_fileAll_52 : decode cX11_fileAll 52 = .ok (.getfield 83, 3) := by decide +kernel
theorem dX11_fileAll_55 : decode cX11_fileAll 55 = .ok (.iload_n 2, 1) := by decide +kernel
theorem dX11_fileAll_56 : decode cX11_fileAll 56 = .ok (.iconst 1, 1) := by decide +kernel
theorem dX11_fileAll_57 : decode cX11_fileAll 57 = .ok (.isub, 1) := by decide +kernel
theorem dX11_fileAll_58 : decode cX11_fileAll 58 = .ok (.iaload, 1) := by decide +kernel
theorem dX11_fileAll_59 : decode cX11_fileAll 59 = .ok (.iastore, 1) := by decide +kernel
theorem dX11_fileAll_60 : decode cX11_fileAll 60 = .ok (.iinc 2 (-1), 3) := by decide +kernel
theorem dX11_fileAll_63 : decode cX11_fileAll 63 = .ok (.goto (-51), 3) := by decide +kernel
theorem dX11_fileAll_66 : decode cX11_fileAll 66 = .ok (.aload_n 0, 1) := by decide +kernel
theorem dX11_fileAll_67 : decode cX11_fileAll 67 = .ok (.getfield 83, 3) := by decide +kernel
theorem dX11_fileAll_70 : decode cX11_fileAll 70 = .ok (.iload_n 2, 1) := by decide +kernel
theorem dX11_fileAll_71 : decode cX11_fileAll 71 = .ok (.iload_n 1, 1) := by decide +kernel
theorem dX11_fileAll_72 : decode cX11_fileAll 72 = .ok (.iastore, 1) := by decide +kernel
theorem dX11_fileAll_73 : decode cX11_fileAll 73 = .ok (.iinc 1 1, 3) := by decide +kernel
theorem dX11_fileAll_76 : decode cX11_fileAll 76 = .ok (.goto (-74), 3) := by decide +kernel
theorem dX11_fileAll_79 : decode cX11_fileAll 79 = .ok (.iconst 0, 1) := by decide +kernel
theorem dX11_fileAll_80 : decode cX11_fileAll 80 = .ok (.istore_n 1, 1) := by decide +kernel
theorem dX11_fileAll_81 : decode cX11_fileAll 81 = .ok (.iconst 0, 1) := by decide +kernel
theorem dX11_fileAll_82 : decode cX11_fileAll 82 = .ok (.istore_n 2, 1) := by decide +kernel
theorem dX11_fileAll_83 : decode cX11_fileAll 83 = .ok (.iconst 0, 1) := by decide +kernel
theorem dX11_fileAll_84 : decode cX11_fileAll 84 = .ok (.istore_n 3, 1) := by decide +kernel
theorem dX11_fileAll_85 : decode cX11_fileAll 85 = .ok (.iload_n 3, 1) := by decide +kernel
theorem dX11_fileAll_86 : decode cX11_fileAll 86 = .ok (.aload_n 0, 1) := by decide +kernel
theorem dX11_fileAll_87 : decode cX11_fileAll 87 = .ok (.getfield 104, 3) := by decide +kernel
theorem dX11_fileAll_90 : decode cX11_fileAll 90 = .ok (.if_icmp .ge 132, 3) := by decide +kernel
theorem dX11_fileAll_93 : decode cX11_fileAll 93 = .ok (.aload_n 0, 1) := by decide +kernel
theorem dX11_fileAll_94 : decode cX11_fileAll 94 = .ok (.getfield 83, 3) := by decide +kernel
theorem dX11_fileAll_97 : decode cX11_fileAll 97 = .ok (.iload_n 3, 1) := by decide +kernel
theorem dX11_fileAll_98 : decode cX11_fileAll 98 = .ok (.iaload, 1) := by decide +kernel
theorem dX11_fileAll_99 : decode cX11_fileAll 99 = .ok (.istore 4, 2) := by decide +kernel
theorem dX11_fileAll_101 : decode cX11_fileAll 101 = .ok (.aload_n 0, 1) := by decide +kernel
theorem dX11_fileAll_102 : decode cX11_fileAll 102 = .ok (.getfield 86, 3) := by decide +kernel
theorem dX11_fileAll_105 : decode cX11_fileAll 105 = .ok (.iload 4, 2) := by decide +kernel
theorem dX11_fileAll_107 : decode cX11_fileAll 107 = .ok (.aload_n 0, 1) := by decide +kernel
theorem dX11_fileAll_108 : decode cX11_fileAll 108 = .ok (.getfield 7, 3) := by decide +kernel
theorem dX11_fileAll_111 : decode cX11_fileAll 111 = .ok (.iconst 4, 1) := by decide +kernel
theorem dX11_fileAll_112 : decode cX11_fileAll 112 = .ok (.iload 4, 2) := by decide +kernel
theorem dX11_fileAll_114 : decode cX11_fileAll 114 = .ok (.imul, 1) := by decide +kernel
theorem dX11_fileAll_115 : decode cX11_fileAll 115 = .ok (.iconst 1, 1) := by decide +kernel
theorem dX11_fileAll_116 : decode cX11_fileAll 116 = .ok (.iadd, 1) := by decide +kernel
theorem dX11_fileAll_117 : decode cX11_fileAll 117 = .ok (.iaload, 1) := by decide +kernel
theorem dX11_fileAll_118 : decode cX11_fileAll 118 = .ok (.iload_n 2, 1) := by decide +kernel
theorem dX11_fileAll_119 : decode cX11_fileAll 119 = .ok (.if_icmp .le 17, 3) := by decide +kernel
theorem dX11_fileAll_122 : decode cX11_fileAll 122 = .ok (.aload_n 0, 1) := by decide +kernel
theorem dX11_fileAll_123 : decode cX11_fileAll 123 = .ok (.getfield 7, 3) := by decide +kernel
theorem dX11_fileAll_126 : decode cX11_fileAll 126 = .ok (.iconst 4, 1) := by decide +kernel
theorem dX11_fileAll_127 : decode cX11_fileAll 127 = .ok (.iload 4, 2) := by decide +kernel
theorem dX11_fileAll_129 : decode cX11_fileAll 129 = .ok (.imul, 1) := by decide +kernel
theorem dX11_fileAll_130 : decode cX11_fileAll 130 = .ok (.iconst 1, 1) := by decide +kernel
theorem dX11_fileAll_131 : decode cX11_fileAll 131 = .ok (.iadd, 1) := by decide +kernel
theorem dX11_fileAll_132 : decode cX11_fileAll 132 = .ok (.iaload, 1) := by decide +kernel
theorem dX11_fileAll_133 : decode cX11_fileAll 133 = .ok (.goto 4, 3) := by decide +kernel
theorem dX11_fileAll_136 : decode cX11_fileAll 136 = .ok (.iload_n 2, 1) := by decide +kernel
theorem dX11_fileAll_137 : decode cX11_fileAll 137 = .ok (.iastore, 1) := by decide +kernel
theorem dX11_fileAll_138 : decode cX11_fileAll 138 = .ok (.aload_n 0, 1) := by decide +kernel
theorem dX11_fileAll_139 : decode cX11_fileAll 139 = .ok (.getfield 86, 3) := by decide +kernel
theorem dX11_fileAll_142 : decode cX11_fileAll 142 = .ok (.iload 4, 2) := by decide +kernel
theorem dX11_fileAll_144 : decode cX11_fileAll 144 = .ok (.iaload, 1) := by decide +kernel
theorem dX11_fileAll_145 : decode cX11_fileAll 145 = .ok (.bipush 64, 2) := by decide +kernel
theorem dX11_fileAll_147 : decode cX11_fileAll 147 = .ok (.if_icmp .ge 25, 3) := by decide +kernel
theorem dX11_fileAll_150 : decode cX11_fileAll 150 = .ok (.aload_n 0, 1) := by decide +kernel
theorem dX11_fileAll_151 : decode cX11_fileAll 151 = .ok (.iload_n 3, 1) := by decide +kernel
theorem dX11_fileAll_152 : decode cX11_fileAll 152 = .ok (.invokevirtual 332, 3) := by decide +kernel
theorem dX11_fileAll_155 : decode cX11_fileAll 155 = .ok (.ifCond .ne 17, 3) := by decide +kernel
theorem dX11_fileAll_158 : decode cX11_fileAll 158 = .ok (.aload_n 0, 1) := by decide +kernel
theorem dX11_fileAll_159 : decode cX11_fileAll 159 = .ok (.getfield 86, 3) := by decide +kernel
theorem dX11_fileAll_162 : decode cX11_fileAll 162 = .ok (.iload 4, 2) := by decide +kernel
theorem dX11_fileAll_164 : decode cX11_fileAll 164 = .ok (.dup2, 1) := by decide +kernel
theorem dX11_fileAll_165 : decode cX11_fileAll 165 = .ok (.iaload, 1) := by decide +kernel
theorem dX11_fileAll_166 : decode cX11_fileAll 166 = .ok (.iconst 1, 1) := by decide +kernel
theorem dX11_fileAll_167 : decode cX11_fileAll 167 = .ok (.iadd, 1) := by decide +kernel
theorem dX11_fileAll_168 : decode cX11_fileAll 168 = .ok (.iastore, 1) := by decide +kernel
theorem dX11_fileAll_169 : decode cX11_fileAll 169 = .ok (.goto (-31), 3) := by decide +kernel
theorem dX11_fileAll_172 : decode cX11_fileAll 172 = .ok (.aload_n 0, 1) := by decide +kernel
theorem dX11_fileAll_173 : decode cX11_fileAll 173 = .ok (.getfield 86, 3) := by decide +kernel
theorem dX11_fileAll_176 : decode cX11_fileAll 176 = .ok (.iload 4, 2) := by decide +kernel
theorem dX11_fileAll_178 : decode cX11_fileAll 178 = .ok (.iaload, 1) := by decide +kernel
theorem dX11_fileAll_179 : decode cX11_fileAll 179 = .ok (.bipush 64, 2) := by decide +kernel
theorem dX11_fileAll_181 : decode cX11_fileAll 181 = .ok (.if_icmp .lt 5, 3) := by decide +kernel
theorem dX11_fileAll_184 : decode cX11_fileAll 184 = .ok (.iconst (-1), 1) := by decide +kernel
theorem dX11_fileAll_185 : decode cX11_fileAll 185 = .ok (.ireturn, 1) := by decide +kernel
theorem dX11_fileAll_186 : decode cX11_fileAll 186 = .ok (.iload_n 1, 1) := by decide +kernel
theorem dX11_fileAll_187 : decode cX11_fileAll 187 = .ok (.aload_n 0, 1) := by decide +kernel
theorem dX11_fileAll_188 : decode cX11_fileAll 188 = .ok (.getfield 86, 3) := by decide +kernel
theorem dX11_fileAll_191 : decode cX11_fileAll 191 = .ok (.iload 4, 2) := by decide +kernel
theorem dX11_fileAll_193 : decode cX11_fileAll 193 = .ok (.iaload, 1) := by decide +kernel
theorem dX11_fileAll_194 : decode cX11_fileAll 194 = .ok (.aload_n 0, 1) := by decide +kernel
theorem dX11_fileAll_195 : decode cX11_fileAll 195 = .ok (.getfield 7, 3) := by decide +kernel
theorem dX11_fileAll_198 : decode cX11_fileAll 198 = .ok (.iconst 4, 1) := by decide +kernel
theorem dX11_fileAll_199 : decode cX11_fileAll 199 = .ok (.iload 4, 2) := by decide +kernel
theorem dX11_fileAll_201 : decode cX11_fileAll 201 = .ok (.imul, 1) := by decide +kernel
theorem dX11_fileAll_202 : decode cX11_fileAll 202 = .ok (.iconst 1, 1) := by decide +kernel
theorem dX11_fileAll_203 : decode cX11_fileAll 203 = .ok (.iadd, 1) := by decide +kernel
theorem dX11_fileAll_204 : decode cX11_fileAll 204 = .ok (.iaload, 1) := by decide +kernel
theorem dX11_fileAll_205 : decode cX11_fileAll 205 = .ok (.isub, 1) := by decide +kernel
theorem dX11_fileAll_206 : decode cX11_fileAll 206 = .ok (.iadd, 1) := by decide +kernel
theorem dX11_fileAll_207 : decode cX11_fileAll 207 = .ok (.istore_n 1, 1) := by decide +kernel
theorem dX11_fileAll_208 : decode cX11_fileAll 208 = .ok (.aload_n 0, 1) := by decide +kernel
theorem dX11_fileAll_209 : decode cX11_fileAll 209 = .ok (.getfield 86, 3) := by decide +kernel
theorem dX11_fileAll_212 : decode cX11_fileAll 212 = .ok (.iload 4, 2) := by decide +kernel
theorem dX11_fileAll_214 : decode cX11_fileAll 214 = .ok (.iaload, 1) := by decide +kernel
theorem dX11_fileAll_215 : decode cX11_fileAll 215 = .ok (.istore_n 2, 1) := by decide +kernel
theorem dX11_fileAll_216 : decode cX11_fileAll 216 = .ok (.iinc 3 1, 3) := by decide +kernel
theorem dX11_fileAll_219 : decode cX11_fileAll 219 = .ok (.goto (-134), 3) := by decide +kernel
theorem dX11_fileAll_222 : decode cX11_fileAll 222 = .ok (.iload_n 1, 1) := by decide +kernel
theorem dX11_fileAll_223 : decode cX11_fileAll 223 = .ok (.ireturn, 1) := by decide +kernel
theorem dX11_alone_0 : decode cX11_alone 0 = .ok (.iload_n 1, 1) := by decide +kernel
theorem dX11_alone_1 : decode cX11_alone 1 = .ok (.iconst (-1), 1) := by decide +kernel
theorem dX11_alone_2 : decode cX11_alone 2 = .ok (.if_icmp .eq 15, 3) := by decide +kernel
theorem dX11_alone_5 : decode cX11_alone 5 = .ok (.aload_n 0, 1) := by decide +kernel
theorem dX11_alone_6 : decode cX11_alone 6 = .ok (.iload_n 1, 1) := by decide +kernel
theorem dX11_alone_7 : decode cX11_alone 7 = .ok (.invokevirtual 242, 3) := by decide +kernel
theorem dX11_alone_10 : decode cX11_alone 10 = .ok (.ifCond .ne 7, 3) := by decide +kernel
theorem dX11_alone_13 : decode cX11_alone 13 = .ok (.sipush (-1001), 3) := by decide +kernel
theorem dX11_alone_16 : decode cX11_alone 16 = .ok (.ireturn, 1) := by decide +kernel
theorem dX11_alone_17 : decode cX11_alone 17 = .ok (.aload_n 0, 1) := by decide +kernel
theorem dX11_alone_18 : decode cX11_alone 18 = .ok (.invokevirtual 335, 3) := by decide +kernel
theorem dX11_alone_21 : decode cX11_alone 21 = .ok (.istore_n 2, 1) := by decide +kernel
theorem dX11_alone_22 : decode cX11_alone 22 = .ok (.iload_n 2, 1) := by decide +kernel
theorem dX11_alone_23 : decode cX11_alone 23 = .ok (.ifCond .lt 8, 3) := by decide +kernel
theorem dX11_alone_26 : decode cX11_alone 26 = .ok (.iload_n 1, 1) := by decide +kernel
theorem dX11_alone_27 : decode cX11_alone 27 = .ok (.iconst (-1), 1) := by decide +kernel
theorem dX11_alone_28 : decode cX11_alone 28 = .ok (.if_icmp .ne 7, 3) := by decide +kernel
theorem dX11_alone_31 : decode cX11_alone 31 = .ok (.iload_n 2, 1) := by decide +kernel
theorem dX11_alone_32 : decode cX11_alone 32 = .ok (.goto 9, 3) := by decide +kernel
theorem dX11_alone_35 : decode cX11_alone 35 = .ok (.aload_n 0, 1) := by decide +kernel
theorem dX11_alone_36 : decode cX11_alone 36 = .ok (.getfield 86, 3) := by decide +kernel
theorem dX11_alone_39 : decode cX11_alone 39 = .ok (.iload_n 1, 1) := by decide +kernel
theorem dX11_alone_40 : decode cX11_alone 40 = .ok (.iaload, 1) := by decide +kernel
theorem dX11_alone_41 : decode cX11_alone 41 = .ok (.ireturn, 1) := by decide +kernel
theorem dX11_tuneBy_0 : decode cX11_tuneBy 0 = .ok (.aload_n 0, 1) := by decide +kernel
theorem dX11_tuneBy_1 : decode cX11_tuneBy 1 = .ok (.getfield 7, 3) := by decide +kernel
theorem dX11_tuneBy_4 : decode cX11_tuneBy 4 = .ok (.iconst 4, 1) := by decide +kernel
theorem dX11_tuneBy_5 : decode cX11_tuneBy 5 = .ok (.iload_n 2, 1) := by decide +kernel
theorem dX11_tuneBy_6 : decode cX11_tuneBy 6 = .ok (.imul, 1) := by decide +kernel
theorem dX11_tuneBy_7 : decode cX11_tuneBy 7 = .ok (.iconst 1, 1) := by decide +kernel
theorem dX11_tuneBy_8 : decode cX11_tuneBy 8 = .ok (.iadd, 1) := by decide +kernel
theorem dX11_tuneBy_9 : decode cX11_tuneBy 9 = .ok (.iaload, 1) := by decide +kernel
theorem dX11_tuneBy_10 : decode cX11_tuneBy 10 = .ok (.iload_n 3, 1) := by decide +kernel
theorem dX11_tuneBy_11 : decode cX11_tuneBy 11 = .ok (.if_icmp .gt 29, 3) := by decide +kernel
theorem dX11_tuneBy_14 : decode cX11_tuneBy 14 = .ok (.iload_n 3, 1) := by decide +kernel
theorem dX11_tuneBy_15 : decode cX11_tuneBy 15 = .ok (.aload_n 0, 1) := by decide +kernel
theorem dX11_tuneBy_16 : decode cX11_tuneBy 16 = .ok (.getfield 7, 3) := by decide +kernel
theorem dX11_tuneBy_19 : decode cX11_tuneBy 19 = .ok (.iconst 4, 1) := by decide +kernel
theorem dX11_tuneBy_20 : decode cX11_tuneBy 20 = .ok (.iload_n 2, 1) := by decide +kernel
theorem dX11_tuneBy_21 : decode cX11_tuneBy 21 = .ok (.imul, 1) := by decide +kernel
theorem dX11_tuneBy_22 : decode cX11_tuneBy 22 = .ok (.iconst 1, 1) := by decide +kernel
theorem dX11_tuneBy_23 : decode cX11_tuneBy 23 = .ok (.iadd, 1) := by decide +kernel
theorem dX11_tuneBy_24 : decode cX11_tuneBy 24 = .ok (.iaload, 1) := by decide +kernel
theorem dX11_tuneBy_25 : decode cX11_tuneBy 25 = .ok (.isub, 1) := by decide +kernel
theorem dX11_tuneBy_26 : decode cX11_tuneBy 26 = .ok (.aload_n 0, 1) := by decide +kernel
theorem dX11_tuneBy_27 : decode cX11_tuneBy 27 = .ok (.getfield 89, 3) := by decide +kernel
theorem dX11_tuneBy_30 : decode cX11_tuneBy 30 = .ok (.iload_n 1, 1) := by decide +kernel
theorem dX11_tuneBy_31 : decode cX11_tuneBy 31 = .ok (.iconst 1, 1) := by decide +kernel
theorem dX11_tuneBy_32 : decode cX11_tuneBy 32 = .ok (.iload_n 2, 1) := by decide +kernel
theorem dX11_tuneBy_33 : decode cX11_tuneBy 33 = .ok (.ishl, 1) := by decide +kernel
theorem dX11_tuneBy_34 : decode cX11_tuneBy 34 = .ok (.ior, 1) := by decide +kernel
theorem dX11_tuneBy_35 : decode cX11_tuneBy 35 = .ok (.iaload, 1) := by decide +kernel
theorem dX11_tuneBy_36 : decode cX11_tuneBy 36 = .ok (.iadd, 1) := by decide +kernel
theorem dX11_tuneBy_37 : decode cX11_tuneBy 37 = .ok (.goto 6, 3) := by decide +kernel
theorem dX11_tuneBy_40 : decode cX11_tuneBy 40 = .ok (.ldc_w 296, 3) := by decide +kernel
theorem dX11_tuneBy_43 : decode cX11_tuneBy 43 = .ok (.ireturn, 1) := by decide +kernel
theorem dX11_tuned_0 : decode cX11_tuned 0 = .ok (.iload_n 1, 1) := by decide +kernel
theorem dX11_tuned_1 : decode cX11_tuned 1 = .ok (.i2l, 1) := by decide +kernel
theorem dX11_tuned_2 : decode cX11_tuned 2 = .ok (.lconst 0, 1) := by decide +kernel
theorem dX11_tuned_3 : decode cX11_tuned 3 = .ok (.ldc2_w 263, 3) := by decide +kernel
theorem dX11_tuned_6 : decode cX11_tuned 6 = .ok (.invokestatic 107, 3) := by decide +kernel
theorem dX11_tuned_9 : decode cX11_tuned 9 = .ok (.ifCond .eq 27, 3) := by decide +kernel
theorem dX11_tuned_12 : decode cX11_tuned 12 = .ok (.iload_n 2, 1) := by decide +kernel
theorem dX11_tuned_13 : decode cX11_tuned 13 = .ok (.i2l, 1) := by decide +kernel
theorem dX11_tuned_14 : decode cX11_tuned 14 = .ok (.lconst 1, 1) := by decide +kernel
theorem dX11_tuned_15 : decode cX11_tuned 15 = .ok (.ldc2_w 259, 3) := by decide +kernel
theorem dX11_tuned_18 : decode cX11_tuned 18 = .ok (.invokestatic 107, 3) := by decide +kernel
theorem dX11_tuned_21 : decode cX11_tuned 21 = .ok (.ifCond .eq 15, 3) := by decide +kernel
theorem dX11_tuned_24 : decode cX11_tuned 24 = .ok (.iload_n 3, 1) := by decide +kernel
theorem dX11_tuned_25 : decode cX11_tuned 25 = .ok (.i2l, 1) := by decide +kernel
theorem dX11_tuned_26 : decode cX11_tuned 26 = .ok (.lconst 1, 1) := by decide +kernel
theorem dX11_tuned_27 : decode cX11_tuned 27 = .ok (.ldc2_w 338, 3) := by decide +kernel
theorem dX11_tuned_30 : decode cX11_tuned 30 = .ok (.invokestatic 107, 3) := by decide +kernel
theorem dX11_tuned_33 : decode cX11_tuned 33 = .ok (.ifCond .ne 7, 3) := by decide +kernel
theorem dX11_tuned_36 : decode cX11_tuned 36 = .ok (.sipush (-1002), 3) := by decide +kernel
theorem dX11_tuned_39 : decode cX11_tuned 39 = .ok (.ireturn, 1) := by decide +kernel
theorem dX11_tuned_40 : decode cX11_tuned 40 = .ok (.iload_n 3, 1) := by decide +kernel
theorem dX11_tuned_41 : decode cX11_tuned 41 = .ok (.aload_n 0, 1) := by decide +kernel
theorem dX11_tuned_42 : decode cX11_tuned 42 = .ok (.getfield 104, 3) := by decide +kernel
theorem dX11_tuned_45 : decode cX11_tuned 45 = .ok (.if_icmp .gt 15, 3) := by decide +kernel
theorem dX11_tuned_48 : decode cX11_tuned 48 = .ok (.iload_n 1, 1) := by decide +kernel
theorem dX11_tuned_49 : decode cX11_tuned 49 = .ok (.iload_n 2, 1) := by decide +kernel
theorem dX11_tuned_50 : decode cX11_tuned 50 = .ok (.iload_n 3, 1) := by decide +kernel
theorem dX11_tuned_51 : decode cX11_tuned 51 = .ok (.iconst 1, 1) := by decide +kernel
theorem dX11_tuned_52 : decode cX11_tuned 52 = .ok (.isub, 1) := by decide +kernel
theorem dX11_tuned_53 : decode cX11_tuned 53 = .ok (.imul, 1) := by decide +kernel
theorem dX11_tuned_54 : decode cX11_tuned 54 = .ok (.iadd, 1) := by decide +kernel
theorem dX11_tuned_55 : decode cX11_tuned 55 = .ok (.bipush 63, 2) := by decide +kernel
theorem dX11_tuned_57 : decode cX11_tuned 57 = .ok (.if_icmp .le 7, 3) := by decide +kernel
theorem dX11_tuned_60 : decode cX11_tuned 60 = .ok (.sipush (-1003), 3) := by decide +kernel
theorem dX11_tuned_63 : decode cX11_tuned 63 = .ok (.ireturn, 1) := by decide +kernel
theorem dX11_tuned_64 : decode cX11_tuned 64 = .ok (.aload_n 0, 1) := by decide +kernel
theorem dX11_tuned_65 : decode cX11_tuned 65 = .ok (.invokevirtual 111, 3) := by decide +kernel
theorem dX11_tuned_68 : decode cX11_tuned 68 = .ok (.istore 5, 2) := by decide +kernel
theorem dX11_tuned_70 : decode cX11_tuned 70 = .ok (.iload 5, 2) := by decide +kernel
theorem dX11_tuned_72 : decode cX11_tuned 72 = .ok (.ifCond .lt 111, 3) := by decide +kernel
theorem dX11_tuned_75 : decode cX11_tuned 75 = .ok (.iload 5, 2) := by decide +kernel
theorem dX11_tuned_77 : decode cX11_tuned 77 = .ok (.invokestatic 340, 3) := by decide +kernel
theorem dX11_tuned_80 : decode cX11_tuned 80 = .ok (.istore 6, 2) := by decide +kernel
theorem dX11_tuned_82 : decode cX11_tuned 82 = .ok (.aload_n 0, 1) := by decide +kernel
theorem dX11_tuned_83 : decode cX11_tuned 83 = .ok (.getfield 89, 3) := by decide +kernel
theorem dX11_tuned_86 : decode cX11_tuned 86 = .ok (.iload 5, 2) := by decide +kernel
theorem dX11_tuned_88 : decode cX11_tuned 88 = .ok (.iload 6, 2) := by decide +kernel
theorem dX11_tuned_90 : decode cX11_tuned 90 = .ok (.iload_n 3, 1) := by decide +kernel
theorem dX11_tuned_91 : decode cX11_tuned 91 = .ok (.if_icmp .lt 7, 3) := by decide +kernel
theorem dX11_tuned_94 : decode cX11_tuned 94 = .ok (.iconst 0, 1) := by decide +kernel
theorem dX11_tuned_95 : decode cX11_tuned 95 = .ok (.goto 6, 3) := by decide +kernel
theorem dX11_tuned_98 : decode cX11_tuned 98 = .ok (.ldc_w 296, 3) := by decide +kernel
theorem dX11_tuned_101 : decode cX11_tuned 101 = .ok (.iastore, 1) := by decide +kernel
theorem dX11_tuned_102 : decode cX11_tuned 102 = .ok (.iconst 0, 1) := by decide +kernel
theorem dX11_tuned_103 : decode cX11_tuned 103 = .ok (.istore 7, 2) := by decide +kernel
theorem dX11_tuned_105 : decode cX11_tuned 105 = .ok (.iload 7, 2) := by decide +kernel
theorem dX11_tuned_107 : decode cX11_tuned 107 = .ok (.aload_n 0, 1) := by decide +kernel
theorem dX11_tuned_108 : decode cX11_tuned 108 = .ok (.getfield 104, 3) := by decide +kernel
theorem dX11_tuned_111 : decode cX11_tuned 111 = .ok (.if_icmp .ge 66, 3) := by decide +kernel
theorem dX11_tuned_114 : decode cX11_tuned 114 = .ok (.iload 6, 2) := by decide +kernel
theorem dX11_tuned_116 : decode cX11_tuned 116 = .ok (.iload_n 3, 1) := by decide +kernel
theorem dX11_tuned_117 : decode cX11_tuned 117 = .ok (.if_icmp .ge 60, 3) := by decide +kernel
theorem dX11_tuned_120 : decode cX11_tuned 120 = .ok (.aload_n 0, 1) := by decide +kernel
theorem dX11_tuned_121 : decode cX11_tuned 121 = .ok (.getfield 89, 3) := by decide +kernel
theorem dX11_tuned_124 : decode cX11_tuned 124 = .ok (.iload 5, 2) := by decide +kernel
theorem dX11_tuned_126 : decode cX11_tuned 126 = .ok (.iload 5, 2) := by decide +kernel
theorem dX11_tuned_128 : decode cX11_tuned 128 = .ok (.iload 7, 2) := by decide +kernel
theorem dX11_tuned_130 : decode cX11_tuned 130 = .ok (.invokestatic 190, 3) := by decide +kernel
theorem dX11_tuned_133 : decode cX11_tuned 133 = .ok (.ifCond .eq 13, 3) := by decide +kernel
theorem dX11_tuned_136 : decode cX11_tuned 136 = .ok (.aload_n 0, 1) := by decide +kernel
theorem dX11_tuned_137 : decode cX11_tuned 137 = .ok (.getfield 89, 3) := by decide +kernel
theorem dX11_tuned_140 : decode cX11_tuned 140 = .ok (.iload 5, 2) := by decide +kernel
theorem dX11_tuned_142 : decode cX11_tuned 142 = .ok (.iaload, 1) := by decide +kernel
theorem dX11_tuned_143 : decode cX11_tuned 143 = .ok (.goto 27, 3) := by decide +kernel
