theorem dX0_init_0 : decode cX0_init 0 = .ok (.aload_n 0, 1) := by decide +kernel
theorem dX0_init_1 : decode cX0_init 1 = .ok (.invokespecial 3, 3) := by decide +kernel
theorem dX0_init_4 : decode cX0_init 4 = .ok (.aload_n 0, 1) := by decide +kernel
theorem dX0_init_5 : decode cX0_init 5 = .ok (.sipush 243, 3) := by decide +kernel
theorem dX0_init_8 : decode cX0_init 8 = .ok (.newarray .int, 2) := by decide +kernel
theorem dX0_init_10 : decode cX0_init 10 = .ok (.putfield 9, 3) := by decide +kernel
theorem dX0_init_13 : decode cX0_init 13 = .ok (.aload_n 0, 1) := by decide +kernel
theorem dX0_init_14 : decode cX0_init 14 = .ok (.sipush 19683, 3) := by decide +kernel
theorem dX0_init_17 : decode cX0_init 17 = .ok (.newarray .int, 2) := by decide +kernel
theorem dX0_init_19 : decode cX0_init 19 = .ok (.putfield 15, 3) := by decide +kernel
theorem dX0_init_22 : decode cX0_init 22 = .ok (.aload_n 0, 1) := by decide +kernel
theorem dX0_init_23 : decode cX0_init 23 = .ok (.iconst 5, 1) := by decide +kernel
theorem dX0_init_24 : decode cX0_init 24 = .ok (.newarray .int, 2) := by decide +kernel
theorem dX0_init_26 : decode cX0_init 26 = .ok (.putfield 18, 3) := by decide +kernel
theorem dX0_init_29 : decode cX0_init 29 = .ok (.aload_n 0, 1) := by decide +kernel
theorem dX0_init_30 : decode cX0_init 30 = .ok (.iconst 5, 1) := by decide +kernel
theorem dX0_init_31 : decode cX0_init 31 = .ok (.newarray .int, 2) := by decide +kernel
theorem dX0_init_33 : decode cX0_init 33 = .ok (.putfield 21, 3) := by decide +kernel
theorem dX0_init_36 : decode cX0_init 36 = .ok (.aload_n 0, 1) := by decide +kernel
theorem dX0_init_37 : decode cX0_init 37 = .ok (.iconst 4, 1) := by decide +kernel
theorem dX0_init_38 : decode cX0_init 38 = .ok (.newarray .int, 2) := by decide +kernel
theorem dX0_init_40 : decode cX0_init 40 = .ok (.putfield 24, 3) := by decide +kernel
theorem dX0_init_43 : decode cX0_init 43 = .ok (.aload_n 0, 1) := by decide +kernel
theorem dX0_init_44 : decode cX0_init 44 = .ok (.getfield 9, 3) := by decide +kernel
theorem dX0_init_47 : decode cX0_init 47 = .ok (.iconst (-1), 1) := by decide +kernel
theorem dX0_init_48 : decode cX0_init 48 = .ok (.invokestatic 27, 3) := by decide +kernel
theorem dX0_init_51 : decode cX0_init 51 = .ok (.return_, 1) := by decide +kernel
theorem dX0_follow_0 : decode cX0_follow 0 = .ok (.iconst 0, 1) := by decide +kernel
theorem dX0_follow_1 : decode cX0_follow 1 = .ok (.istore_n 2, 1) := by decide +kernel
theorem dX0_follow_2 : decode cX0_follow 2 = .ok (.iconst 0, 1) := by decide +kernel
theorem dX0_follow_3 : decode cX0_follow 3 = .ok (.istore_n 3, 1) := by decide +kernel
theorem dX0_follow_4 : decode cX0_follow 4 = .ok (.iload_n 3, 1) := by decide +kernel
theorem dX0_follow_5 : decode cX0_follow 5 = .ok (.bipush 81, 2) := by decide +kernel
theorem dX0_follow_7 : decode cX0_follow 7 = .ok (.if_icmp .ge 64, 3) := by decide +kernel
theorem dX0_follow_10 : decode cX0_follow 10 = .ok (.iconst 0, 1) := by decide +kernel
theorem dX0_follow_11 : decode cX0_follow 11 = .ok (.istore 4, 2) := by decide +kernel
theorem dX0_follow_13 : decode cX0_follow 13 = .ok (.iload 4, 2) := by decide +kernel
theorem dX0_follow_15 : decode cX0_follow 15 = .ok (.iconst 3, 1) := by decide +kernel
theorem dX0_follow_16 : decode cX0_follow 16 = .ok (.if_icmp .ge 49, 3) := by decide +kernel
theorem dX0_follow_19 : decode cX0_follow 19 = .ok (.aload_n 1, 1) := by decide +kernel
theorem dX0_follow_20 : decode cX0_follow 20 = .ok (.iload_n 3, 1) := by decide +kernel
theorem dX0_follow_21 : decode cX0_follow 21 = .ok (.iload 4, 2) := by decide +kernel
theorem dX0_follow_23 : decode cX0_follow 23 = .ok (.invokevirtual 33, 3) := by decide +kernel
theorem dX0_follow_26 : decode cX0_follow 26 = .ok (.istore 5, 2) := by decide +kernel
theorem dX0_follow_28 : decode cX0_follow 28 = .ok (.aload_n 0, 1) := by decide +kernel
theorem dX0_follow_29 : decode cX0_follow 29 = .ok (.getfield 9, 3) := by decide +kernel
theorem dX0_follow_32 : decode cX0_follow 32 = .ok (.iload_n 3, 1) := by decide +kernel
theorem dX0_follow_33 : decode cX0_follow 33 = .ok (.iconst 3, 1) := by decide +kernel
theorem dX0_follow_34 : decode cX0_follow 34 = .ok (.imul, 1) := by decide +kernel
theorem dX0_follow_35 : decode cX0_follow 35 = .ok (.iload 4, 2) := by decide +kernel
theorem dX0_follow_37 : decode cX0_follow 37 = .ok (.iadd, 1) := by decide +kernel
theorem dX0_follow_38 : decode cX0_follow 38 = .ok (.iaload, 1) := by decide +kernel
theorem dX0_follow_39 : decode cX0_follow 39 = .ok (.iload 5, 2) := by decide +kernel
theorem dX0_follow_41 : decode cX0_follow 41 = .ok (.if_icmp .eq 18, 3) := by decide +kernel
theorem dX0_follow_44 : decode cX0_follow 44 = .ok (.aload_n 0, 1) := by decide +kernel
theorem dX0_follow_45 : decode cX0_follow 45 = .ok (.getfield 9, 3) := by decide +kernel
theorem dX0_follow_48 : decode cX0_follow 48 = .ok (.iload_n 3, 1) := by decide +kernel
theorem dX0_follow_49 : decode cX0_follow 49 = .ok (.iconst 3, 1) := by decide +kernel
theorem dX0_follow_50 : decode cX0_follow 50 = .ok (.imul, 1) := by decide +kernel
theorem dX0_follow_51 : decode cX0_follow 51 = .ok (.iload 4, 2) := by decide +kernel
theorem dX0_follow_53 : decode cX0_follow 53 = .ok (.iadd, 1) := by decide +kernel
theorem dX0_follow_54 : decode cX0_follow 54 = .ok (.iload 5, 2) := by decide +kernel
theorem dX0_follow_56 : decode cX0_follow 56 = .ok (.iastore, 1) := by decide +kernel
theorem dX0_follow_57 : decode cX0_follow 57 = .ok (.iconst 1, 1) := by decide +kernel
theorem dX0_follow_58 : decode cX0_follow 58 = .ok (.istore_n 2, 1) := by decide +kernel
theorem dX0_follow_59 : decode cX0_follow 59 = .ok (.iinc 4 1, 3) := by decide +kernel
theorem dX0_follow_62 : decode cX0_follow 62 = .ok (.goto (-49), 3) := by decide +kernel
theorem dX0_follow_65 : decode cX0_follow 65 = .ok (.iinc 3 1, 3) := by decide +kernel
theorem dX0_follow_68 : decode cX0_follow 68 = .ok (.goto (-64), 3) := by decide +kernel
theorem dX0_follow_71 : decode cX0_follow 71 = .ok (.iload_n 2, 1) := by decide +kernel
theorem dX0_follow_72 : decode cX0_follow 72 = .ok (.ifCond .eq 23, 3) := by decide +kernel
theorem dX0_follow_75 : decode cX0_follow 75 = .ok (.iconst 0, 1) := by decide +kernel
theorem dX0_follow_76 : decode cX0_follow 76 = .ok (.istore_n 3, 1) := by decide +kernel
theorem dX0_follow_77 : decode cX0_follow 77 = .ok (.iload_n 3, 1) := by decide +kernel
theorem dX0_follow_78 : decode cX0_follow 78 = .ok (.sipush 6561, 3) := by decide +kernel
theorem dX0_follow_81 : decode cX0_follow 81 = .ok (.if_icmp .ge 14, 3) := by decide +kernel
theorem dX0_follow_84 : decode cX0_follow 84 = .ok (.aload_n 0, 1) := by decide +kernel
theorem dX0_follow_85 : decode cX0_follow 85 = .ok (.iload_n 3, 1) := by decide +kernel
theorem dX0_follow_86 : decode cX0_follow 86 = .ok (.invokevirtual 39, 3) := by decide +kernel
theorem dX0_follow_89 : decode cX0_follow 89 = .ok (.iinc 3 1, 3) := by decide +kernel
theorem dX0_follow_92 : decode cX0_follow 92 = .ok (.goto (-15), 3) := by decide +kernel
theorem dX0_follow_95 : decode cX0_follow 95 = .ok (.return_, 1) := by decide +kernel
theorem dX0_reckon_0 : decode cX0_reckon 0 = .ok (.aload_n 0, 1) := by decide +kernel
theorem dX0_reckon_1 : decode cX0_reckon 1 = .ok (.iload_n 1, 1) := by decide +kernel
theorem dX0_reckon_2 : decode cX0_reckon 2 = .ok (.invokevirtual 43, 3) := by decide +kernel
theorem dX0_reckon_5 : decode cX0_reckon 5 = .ok (.iconst 0, 1) := by decide +kernel
theorem dX0_reckon_6 : decode cX0_reckon 6 = .ok (.istore_n 2, 1) := by decide +kernel
theorem dX0_reckon_7 : decode cX0_reckon 7 = .ok (.iload_n 2, 1) := by decide +kernel
theorem dX0_reckon_8 : decode cX0_reckon 8 = .ok (.iconst 3, 1) := by decide +kernel
theorem dX0_reckon_9 : decode cX0_reckon 9 = .ok (.if_icmp .ge 64, 3) := by decide +kernel
theorem dX0_reckon_12 : decode cX0_reckon 12 = .ok (.iconst 0, 1) := by decide +kernel
theorem dX0_reckon_13 : decode cX0_reckon 13 = .ok (.istore_n 3, 1) := by decide +kernel
theorem dX0_reckon_14 : decode cX0_reckon 14 = .ok (.iconst 0, 1) := by decide +kernel
theorem dX0_reckon_15 : decode cX0_reckon 15 = .ok (.istore 4, 2) := by decide +kernel
theorem dX0_reckon_17 : decode cX0_reckon 17 = .ok (.iload 4, 2) := by decide +kernel
theorem dX0_reckon_19 : decode cX0_reckon 19 = .ok (.iconst 4, 1) := by decide +kernel
theorem dX0_reckon_20 : decode cX0_reckon 20 = .ok (.if_icmp .gt 36, 3) := by decide +kernel
theorem dX0_reckon_23 : decode cX0_reckon 23 = .ok (.iload_n 3, 1) := by decide +kernel
theorem dX0_reckon_24 : decode cX0_reckon 24 = .ok (.aload_n 0, 1) := by decide +kernel
theorem dX0_reckon_25 : decode cX0_reckon 25 = .ok (.getfield 21, 3) := by decide +kernel
theorem dX0_reckon_28 : decode cX0_reckon 28 = .ok (.iload 4, 2) := by decide +kernel
theorem dX0_reckon_30 : decode cX0_reckon 30 = .ok (.iaload, 1) := by decide +kernel
theorem dX0_reckon_31 : decode cX0_reckon 31 = .ok (.aload_n 0, 1) := by decide +kernel
theorem dX0_reckon_32 : decode cX0_reckon 32 = .ok (.getfield 9, 3) := by decide +kernel
theorem dX0_reckon_35 : decode cX0_reckon 35 = .ok (.aload_n 0, 1) := by decide +kernel
theorem dX0_reckon_36 : decode cX0_reckon 36 = .ok (.getfield 18, 3) := by decide +kernel
theorem dX0_reckon_39 : decode cX0_reckon 39 = .ok (.iload 4, 2) := by decide +kernel
theorem dX0_reckon_41 : decode cX0_reckon 41 = .ok (.iaload, 1) := by decide +kernel
theorem dX0_reckon_42 : decode cX0_reckon 42 = .ok (.iconst 3, 1) := by decide +kernel
theorem dX0_reckon_43 : decode cX0_reckon 43 = .ok (.imul, 1) := by decide +kernel
theorem dX0_reckon_44 : decode cX0_reckon 44 = .ok (.iload_n 2, 1) := by decide +kernel
theorem dX0_reckon_45 : decode cX0_reckon 45 = .ok (.iadd, 1) := by decide +kernel
theorem dX0_reckon_46 : decode cX0_reckon 46 = .ok (.iaload, 1) := by decide +kernel
theorem dX0_reckon_47 : decode cX0_reckon 47 = .ok (.imul, 1) := by decide +kernel
theorem dX0_reckon_48 : decode cX0_reckon 48 = .ok (.iadd, 1) := by decide +kernel
theorem dX0_reckon_49 : decode cX0_reckon 49 = .ok (.istore_n 3, 1) := by decide +kernel
theorem dX0_reckon_50 : decode cX0_reckon 50 = .ok (.iinc 4 1, 3) := by decide +kernel
theorem dX0_reckon_53 : decode cX0_reckon 53 = .ok (.goto (-36), 3) := by decide +kernel
theorem dX0_reckon_56 : decode cX0_reckon 56 = .ok (.aload_n 0, 1) := by decide +kernel
theorem dX0_reckon_57 : decode cX0_reckon 57 = .ok (.getfield 15, 3) := by decide +kernel
theorem dX0_reckon_60 : decode cX0_reckon 60 = .ok (.iload_n 1, 1) := by decide +kernel
theorem dX0_reckon_61 : decode cX0_reckon 61 = .ok (.iconst 3, 1) := by decide +kernel
theorem dX0_reckon_62 : decode cX0_reckon 62 = .ok (.imul, 1) := by decide +kernel
theorem dX0_reckon_63 : decode cX0_reckon 63 = .ok (.iload_n 2, 1) := by decide +kernel
theorem dX0_reckon_64 : decode cX0_reckon 64 = .ok (.iadd, 1) := by decide +kernel
theorem dX0_reckon_65 : decode cX0_reckon 65 = .ok (.iload_n 3, 1) := by decide +kernel
theorem dX0_reckon_66 : decode cX0_reckon 66 = .ok (.iastore, 1) := by decide +kernel
theorem dX0_reckon_67 : decode cX0_reckon 67 = .ok (.iinc 2 1, 3) := by decide +kernel
theorem dX0_reckon_70 : decode cX0_reckon 70 = .ok (.goto (-63), 3) := by decide +kernel
theorem dX0_reckon_73 : decode cX0_reckon 73 = .ok (.return_, 1) := by decide +kernel
theorem dX0_goTo_0 : decode cX0_goTo 0 = .ok (.iconst 0, 1) := by decide +kernel
theorem dX0_goTo_1 : decode cX0_goTo 1 = .ok (.istore_n 2, 1) := by decide +kernel
theorem dX0_goTo_2 : decode cX0_goTo 2 = .ok (.iconst 0, 1) := by decide +kernel
theorem dX0_goTo_3 : decode cX0_goTo 3 = .ok (.istore_n 3, 1) := by decide +kernel
theorem dX0_goTo_4 : decode cX0_goTo 4 = .ok (.iload_n 3, 1) := by decide +kernel
theorem dX0_goTo_5 : decode cX0_goTo 5 = .ok (.iconst 4, 1) := by decide +kernel
theorem dX0_goTo_6 : decode cX0_goTo 6 = .ok (.if_icmp .ge 53, 3) := by decide +kernel
theorem dX0_goTo_9 : decode cX0_goTo 9 = .ok (.iload_n 1, 1) := by decide +kernel
theorem dX0_goTo_10 : decode cX0_goTo 10 = .ok (.iload_n 3, 1) := by decide +kernel
theorem dX0_goTo_11 : decode cX0_goTo 11 = .ok (.invokestatic 46, 3) := by decide +kernel
theorem dX0_goTo_14 : decode cX0_goTo 14 = .ok (.istore 4, 2) := by decide +kernel
theorem dX0_goTo_16 : decode cX0_goTo 16 = .ok (.iload 4, 2) := by decide +kernel
theorem dX0_goTo_18 : decode cX0_goTo 18 = .ok (.iconst 4, 1) := by decide +kernel
theorem dX0_goTo_19 : decode cX0_goTo 19 = .ok (.if_icmp .ge 7, 3) := by decide +kernel
theorem dX0_goTo_22 : decode cX0_goTo 22 = .ok (.iconst 0, 1) := by decide +kernel
theorem dX0_goTo_23 : decode cX0_goTo 23 = .ok (.goto 4, 3) := by decide +kernel
theorem dX0_goTo_26 : decode cX0_goTo 26 = .ok (.iconst 1, 1) := by decide +kernel
theorem dX0_goTo_27 : decode cX0_goTo 27 = .ok (.istore 5, 2) := by decide +kernel
theorem dX0_goTo_29 : decode cX0_goTo 29 = .ok (.aload_n 0, 1) := by decide +kernel
theorem dX0_goTo_30 : decode cX0_goTo 30 = .ok (.getfield 24, 3) := by decide +kernel
theorem dX0_goTo_33 : decode cX0_goTo 33 = .ok (.iload_n 3, 1) := by decide +kernel
theorem dX0_goTo_34 : decode cX0_goTo 34 = .ok (.iload 4, 2) := by decide +kernel
theorem dX0_goTo_36 : decode cX0_goTo 36 = .ok (.iconst 4, 1) := by decide +kernel
theorem dX0_goTo_37 : decode cX0_goTo 37 = .ok (.iload 5, 2) := by decide +kernel
theorem dX0_goTo_39 : decode cX0_goTo 39 = .ok (.imul, 1) := by decide +kernel
theorem dX0_goTo_40 : decode cX0_goTo 40 = .ok (.isub, 1) := by decide +kernel
theorem dX0_goTo_41 : decode cX0_goTo 41 = .ok (.iastore, 1) := by decide +kernel
theorem dX0_goTo_42 : decode cX0_goTo 42 = .ok (.iload_n 2, 1) := by decide +kernel
theorem dX0_goTo_43 : decode cX0_goTo 43 = .ok (.iload 5, 2) := by decide +kernel
theorem dX0_goTo_45 : decode cX0_goTo 45 = .ok (.getstatic 49, 3) := by decide +kernel
theorem dX0_goTo_48 : decode cX0_goTo 48 = .ok (.iload_n 3, 1) := by decide +kernel
theorem dX0_goTo_49 : decode cX0_goTo 49 = .ok (.iaload, 1) := by decide +kernel
theorem dX0_goTo_50 : decode cX0_goTo 50 = .ok (.imul, 1) := by decide +kernel
theorem dX0_goTo_51 : decode cX0_goTo 51 = .ok (.iadd, 1) := by decide +kernel
theorem dX0_goTo_52 : decode cX0_goTo 52 = .ok (.istore_n 2, 1) := by decide +kernel
theorem dX0_goTo_53 : decode cX0_goTo 53 = .ok (.iinc 3 1, 3) := by decide +kernel
theorem dX0_goTo_56 : decode cX0_goTo 56 = .ok (.goto (-52), 3) := by decide +kernel
theorem dX0_goTo_59 : decode cX0_goTo 59 = .ok (.iconst 4, 1) := by decide +kernel
theorem dX0_goTo_60 : decode cX0_goTo 60 = .ok (.istore_n 3, 1) := by decide +kernel
theorem dX0_goTo_61 : decode cX0_goTo 61 = .ok (.iconst 0, 1) := by decide +kernel
theorem dX0_goTo_62 : decode cX0_goTo 62 = .ok (.istore 4, 2) := by decide +kernel
theorem dX0_goTo_64 : decode cX0_goTo 64 = .ok (.iload 4, 2) := by decide +kernel
theorem dX0_goTo_66 : decode cX0_goTo 66 = .ok (.iconst 4, 1) := by decide +kernel
theorem dX0_goTo_67 : decode cX0_goTo 67 = .ok (.if_icmp .ge 64, 3) := by decide +kernel
theorem dX0_goTo_70 : decode cX0_goTo 70 = .ok (.aload_n 0, 1) := by decide +kernel
theorem dX0_goTo_71 : decode cX0_goTo 71 = .ok (.invokevirtual 52, 3) := by decide +kernel
theorem dX0_goTo_74 : decode cX0_goTo 74 = .ok (.istore 5, 2) := by decide +kernel
theorem dX0_goTo_76 : decode cX0_goTo 76 = .ok (.aload_n 0, 1) := by decide +kernel
theorem dX0_goTo_77 : decode cX0_goTo 77 = .ok (.getfield 18, 3) := by decide +kernel
theorem dX0_goTo_80 : decode cX0_goTo 80 = .ok (.iload 4, 2) := by decide +kernel
theorem dX0_goTo_82 : decode cX0_goTo 82 = .ok (.iload_n 2, 1) := by decide +kernel
theorem dX0_goTo_83 : decode cX0_goTo 83 = .ok (.iastore, 1) := by decide +kernel
theorem dX0_goTo_84 : decode cX0_goTo 84 = .ok (.aload_n 0, 1) := by decide +kernel
theorem dX0_goTo_85 : decode cX0_goTo 85 = .ok (.getfield 21, 3) := by decide +kernel
theorem dX0_goTo_88 : decode cX0_goTo 88 = .ok (.iload 4, 2) := by decide +kernel
theorem dX0_goTo_90 : decode cX0_goTo 90 = .ok (.iload_n 3, 1) := by decide +kernel
theorem dX0_goTo_91 : decode cX0_goTo 91 = .ok (.aload_n 0, 1) := by decide +kernel
theorem dX0_goTo_92 : decode cX0_goTo 92 = .ok (.getfield 24, 3) := by decide +kernel
theorem dX0_goTo_95 : decode cX0_goTo 95 = .ok (.iload 5, 2) := by decide +kernel
theorem dX0_goTo_97 : decode cX0_goTo 97 = .ok (.iaload, 1) := by decide +kernel
theorem dX0_goTo_98 : decode cX0_goTo 98 = .ok (.isub, 1) := by decide +kernel
theorem dX0_goTo_99 : decode cX0_goTo 99 = .ok (.iastore, 1) := by decide +kernel
theorem dX0_goTo_100 : decode cX0_goTo 100 = .ok (.aload_n 0, 1) := by decide +kernel
theorem dX0_goTo_101 : decode cX0_goTo 101 = .ok (.getfield 24, 3) := by decide +kernel
theorem dX0_goTo_104 : decode cX0_goTo 104 = .ok (.iload 5, 2) := by decide +kernel
theorem dX0_goTo_106 : decode cX0_goTo 106 = .ok (.iaload, 1) := by decide +kernel
theorem dX0_goTo_107 : decode cX0_goTo 107 = .ok (.istore_n 3, 1) := by decide +kernel
theorem dX0_goTo_108 : decode cX0_goTo 108 = .ok (.iload_n 2, 1) := by decide +kernel
theorem dX0_goTo_109 : decode cX0_goTo 109 = .ok (.getstatic 49, 3) := by decide +kernel
theorem dX0_goTo_112 : decode cX0_goTo 112 = .ok (.iload 5, 2) := by decide +kernel
theorem dX0_goTo_114 : decode cX0_goTo 114 = .ok (.iaload, 1) := by decide +kernel
theorem dX0_goTo_115 : decode cX0_goTo 115 = .ok (.iadd, 1) := by decide +kernel
theorem dX0_goTo_116 : decode cX0_goTo 116 = .ok (.istore_n 2, 1) := by decide +kernel
theorem dX0_goTo_117 : decode cX0_goTo 117 = .ok (.aload_n 0, 1) := by decide +kernel
theorem dX0_goTo_118 : decode cX0_goTo 118 = .ok (.getfield 24, 3) := by decide +kernel
theorem dX0_goTo_121 : decode cX0_goTo 121 = .ok (.iload 5, 2) := by decide +kernel
theorem dX0_goTo_123 : decode cX0_goTo 123 = .ok (.iconst (-1), 1) := by decide +kernel
theorem dX0_goTo_124 : decode cX0_goTo 124 = .ok (.iastore, 1) := by decide +kernel
theorem dX0_goTo_125 : decode cX0_goTo 125 = .ok (.iinc 4 1, 3) := by decide +kernel
theorem dX0_goTo_128 : decode cX0_goTo 128 = .ok (.goto (-64), 3) := by decide +kernel
theorem dX0_goTo_131 : decode cX0_goTo 131 = .ok (.aload_n 0, 1) := by decide +kernel
theorem dX0_goTo_132 : decode cX0_goTo 132 = .ok (.getfield 18, 3) := by decide +kernel
theorem dX0_goTo_135 : decode cX0_goTo 135 = .ok (.iconst 4, 1) := by decide +kernel
theorem dX0_goTo_136 : decode cX0_goTo 136 = .ok (.iload_n 2, 1) := by decide +kernel
theorem dX0_goTo_137 : decode cX0_goTo 137 = .ok (.iastore, 1) := by decide +kernel
theorem dX0_goTo_138 : decode cX0_goTo 138 = .ok (.aload_n 0, 1) := by decide +kernel
theorem dX0_goTo_139 : decode cX0_goTo 139 = .ok (.getfield 21, 3) := by decide +kernel
theorem dX0_goTo_142 : decode cX0_goTo 142 = .ok (.iconst 4, 1) := by decide +kernel
theorem dX0_goTo_143 : decode cX0_goTo 143 = .ok (.iload_n 3, 1) := by decide +kernel
theorem dX0_goTo_144 : decode cX0_goTo 144 = .ok (.iastore, 1) := by decide +kernel
theorem dX0_goTo_145 : decode cX0_goTo 145 = .ok (.return_, 1) := by decide +kernel
theorem dX0_greatestRest_0 : decode cX0_greatestRest 0 = .ok (.iconst 0, 1) := by decide +kernel
theorem dX0_greatestRest_1 : decode cX0_greatestRest 1 = .ok (.istore_n 1, 1) := by decide +kernel
theorem dX0_greatestRest_2 : decode cX0_greatestRest 2 = .ok (.iconst 1, 1) := by decide +kernel
theorem dX0_greatestRest_3 : decode cX0_greatestRest 3 = .ok (.istore_n 2, 1) := by decide +kernel
theorem dX0_greatestRest_4 : decode cX0_greatestRest 4 = .ok (.iload_n 2, 1) := by decide +kernel
theorem dX0_greatestRest_5 : decode cX0_greatestRest 5 = .ok (.iconst 4, 1) := by decide +kernel
theorem dX0_greatestRest_6 : decode cX0_greatestRest 6 = .ok (.if_icmp .ge 26, 3) := by decide +kernel
theorem dX0_greatestRest_9 : decode cX0_greatestRest 9 = .ok (.aload_n 0, 1) := by decide +kernel
theorem dX0_greatestRest_10 : decode cX0_greatestRest 10 = .ok (.getfield 24, 3) := by decide +kernel
theorem dX0_greatestRest_13 : decode cX0_greatestRest 13 = .ok (.iload_n 2, 1) := by decide +kernel
theorem dX0_greatestRest_14 : decode cX0_greatestRest 14 = .ok (.iaload, 1) := by decide +kernel
theorem dX0_greatestRest_15 : decode cX0_greatestRest 15 = .ok (.aload_n 0, 1) := by decide +kernel
theorem dX0_greatestRest_16 : decode cX0_greatestRest 16 = .ok (.getfield 24, 3) := by decide +kernel
theorem dX0_greatestRest_19 : decode cX0_greatestRest 19 = .ok (.iload_n 1, 1) := by decide +kernel
theorem dX0_greatestRest_20 : decode cX0_greatestRest 20 = .ok (.iaload, 1) := by decide +kernel
theorem dX0_greatestRest_21 : decode cX0_greatestRest 21 = .ok (.if_icmp .le 5, 3) := by decide +kernel
theorem dX0_greatestRest_24 : decode cX0_greatestRest 24 = .ok (.iload_n 2, 1) := by decide +kernel
theorem dX0_greatestRest_25 : decode cX0_greatestRest 25 = .ok (.istore_n 1, 1) := by decide +kernel
theorem dX0_greatestRest_26 : decode cX0_greatestRest 26 = .ok (.iinc 2 1, 3) := by decide +kernel
theorem dX0_greatestRest_29 : decode cX0_greatestRest 29 = .ok (.goto (-25), 3) := by decide +kernel
theorem dX0_greatestRest_32 : decode cX0_greatestRest 32 = .ok (.iload_n 1, 1) := by decide +kernel
theorem dX0_greatestRest_33 : decode cX0_greatestRest 33 = .ok (.ireturn, 1) := by decide +kernel
theorem dX0_number_0 : decode cX0_number 0 = .ok (.aload_n 0, 1) := by decide +kernel
theorem dX0_number_1 : decode cX0_number 1 = .ok (.getfield 15, 3) := by decide +kernel
theorem dX0_number_4 : decode cX0_number 4 = .ok (.iload_n 1, 1) := by decide +kernel
theorem dX0_number_5 : decode cX0_number 5 = .ok (.iconst 3, 1) := by decide +kernel
theorem dX0_number_6 : decode cX0_number 6 = .ok (.imul, 1) := by decide +kernel
theorem dX0_number_7 : decode cX0_number 7 = .ok (.iload_n 2, 1) := by decide +kernel
theorem dX0_number_8 : decode cX0_number 8 = .ok (.iadd, 1) := by decide +kernel
theorem dX0_number_9 : decode cX0_number 9 = .ok (.iaload, 1) := by decide +kernel
theorem dX0_number_10 : decode cX0_number 10 = .ok (.ireturn, 1) := by decide +kernel
theorem dX0_sum_0 : decode cX0_sum 0 = .ok (.aload_n 0, 1) := by decide +kernel
theorem dX0_sum_1 : decode cX0_sum 1 = .ok (.iload_n 1, 1) := by decide +kernel
theorem dX0_sum_2 : decode cX0_sum 2 = .ok (.iconst 0, 1) := by decide +kernel
theorem dX0_sum_3 : decode cX0_sum 3 = .ok (.invokevirtual 56, 3) := by decide +kernel
theorem dX0_sum_6 : decode cX0_sum 6 = .ok (.aload_n 0, 1) := by decide +kernel
theorem dX0_sum_7 : decode cX0_sum 7 = .ok (.iload_n 1, 1) := by decide +kernel
theorem dX0_sum_8 : decode cX0_sum 8 = .ok (.iconst 1, 1) := by decide +kernel
theorem dX0_sum_9 : decode cX0_sum 9 = .ok (.invokevirtual 56, 3) := by decide +kernel
theorem dX0_sum_12 : decode cX0_sum 12 = .ok (.iadd, 1) := by decide +kernel
theorem dX0_sum_13 : decode cX0_sum 13 = .ok (.aload_n 0, 1) := by decide +kernel
theorem dX0_sum_14 : decode cX0_sum 14 = .ok (.iload_n 1, 1) := by decide +kernel
theorem dX0_sum_15 : decode cX0_sum 15 = .ok (.iconst 2, 1) := by decide +kernel
theorem dX0_sum_16 : decode cX0_sum 16 = .ok (.invokevirtual 56, 3) := by decide +kernel
theorem dX0_sum_19 : decode cX0_sum 19 = .ok (.iadd, 1) := by decide +kernel
theorem dX0_sum_20 : decode cX0_sum 20 = .ok (.ireturn, 1) := by decide +kernel
theorem dX0_widest_0 : decode cX0_widest 0 = .ok (.aload_n 0, 1) := by decide +kernel
theorem dX0_widest_1 : decode cX0_widest 1 = .ok (.iload_n 1, 1) := by decide +kernel
theorem dX0_widest_2 : decode cX0_widest 2 = .ok (.iconst 0, 1) := by decide +kernel
theorem dX0_widest_3 : decode cX0_widest 3 = .ok (.invokevirtual 56, 3) := by decide +kernel
theorem dX0_widest_6 : decode cX0_widest 6 = .ok (.aload_n 0, 1) := by decide +kernel
theorem dX0_widest_7 : decode cX0_widest 7 = .ok (.iload_n 1, 1) := by decide +kernel
theorem dX0_widest_8 : decode cX0_widest 8 = .ok (.iconst 1, 1) := by decide +kernel
theorem dX0_widest_9 : decode cX0_widest 9 = .ok (.invokevirtual 56, 3) := by decide +kernel
theorem dX0_widest_12 : decode cX0_widest 12 = .ok (.aload_n 0, 1) := by decide +kernel
theorem dX0_widest_13 : decode cX0_widest 13 = .ok (.iload_n 1, 1) := by decide +kernel
theorem dX0_widest_14 : decode cX0_widest 14 = .ok (.iconst 2, 1) := by decide +kernel
theorem dX0_widest_15 : decode cX0_widest 15 = .ok (.invokevirtual 56, 3) := by decide +kernel
theorem dX0_widest_18 : decode cX0_widest 18 = .ok (.invokestatic 59, 3) := by decide +kernel
theorem dX0_widest_21 : decode cX0_widest 21 = .ok (.invokestatic 59, 3) := by decide +kernel
theorem dX0_widest_24 : decode cX0_widest 24 = .ok (.istore_n 2, 1) := by decide +kernel
theorem dX0_widest_25 : decode cX0_widest 25 = .ok (.aload_n 0, 1) := by decide +kernel
theorem dX0_widest_26 : decode cX0_widest 26 = .ok (.iload_n 1, 1) := by decide +kernel
theorem dX0_widest_27 : decode cX0_widest 27 = .ok (.iconst 0, 1) := by decide +kernel
theorem dX0_widest_28 : decode cX0_widest 28 = .ok (.invokevirtual 56, 3) := by decide +kernel
theorem dX0_widest_31 : decode cX0_widest 31 = .ok (.aload_n 0, 1) := by decide +kernel
theorem dX0_widest_32 : decode cX0_widest 32 = .ok (.iload_n 1, 1) := by decide +kernel
theorem dX0_widest_33 : decode cX0_widest 33 = .ok (.iconst 1, 1) := by decide +kernel
theorem dX0_widest_34 : decode cX0_widest 34 = .ok (.invokevirtual 56, 3) := by decide +kernel
theorem dX0_widest_37 : decode cX0_widest 37 = .ok (.aload_n 0, 1) := by decide +kernel
theorem dX0_widest_38 : decode cX0_widest 38 = .ok (.iload_n 1, 1) := by decide +kernel
theorem dX0_widest_39 : decode cX0_widest 39 = .ok (.iconst 2, 1) := by decide +kernel
theorem dX0_widest_40 : decode cX0_widest 40 = .ok (.invokevirtual 56, 3) := by decide +kernel
theorem dX0_widest_43 : decode cX0_widest 43 = .ok (.invokestatic 64, 3) := by decide +kernel
theorem dX0_widest_46 : decode cX0_widest 46 = .ok (.invokestatic 64, 3) := by decide +kernel
theorem dX0_widest_49 : decode cX0_widest 49 = .ok (.istore_n 3, 1) := by decide +kernel
theorem dX0_widest_50 : decode cX0_widest 50 = .ok (.iload_n 2, 1) := by decide +kernel
theorem dX0_widest_51 : decode cX0_widest 51 = .ok (.iload_n 3, 1) := by decide +kernel
theorem dX0_widest_52 : decode cX0_widest 52 = .ok (.isub, 1) := by decide +kernel
theorem dX0_widest_53 : decode cX0_widest 53 = .ok (.ireturn, 1) := by decide +kernel
theorem dX0_packed_0 : decode cX0_packed 0 = .ok (.aload_n 0, 1) := by decide +kernel
theorem dX0_packed_1 : decode cX0_packed 1 = .ok (.iload_n 1, 1) := by decide +kernel
theorem dX0_packed_2 : decode cX0_packed 2 = .ok (.iconst 0, 1) := by decide +kernel
theorem dX0_packed_3 : decode cX0_packed 3 = .ok (.invokevirtual 56, 3) := by decide +kernel
theorem dX0_packed_6 : decode cX0_packed 6 = .ok (.sipush 512, 3) := by decide +kernel
theorem dX0_packed_9 : decode cX0_packed 9 = .ok (.imul, 1) := by decide +kernel
theorem dX0_packed_10 : decode cX0_packed 10 = .ok (.aload_n 0, 1) := by decide +kernel
theorem dX0_packed_11 : decode cX0_packed 11 = .ok (.iload_n 1, 1) := by decide +kernel
theorem dX0_packed_12 : decode cX0_packed 12 = .ok (.iconst 1, 1) := by decide +kernel
theorem dX0_packed_13 : decode cX0_packed 13 = .ok (.invokevirtual 56, 3) := by decide +kernel
theorem dX0_packed_16 : decode cX0_packed 16 = .ok (.iadd, 1) := by decide +kernel
theorem dX0_packed_17 : decode cX0_packed 17 = .ok (.sipush 512, 3) := by decide +kernel
theorem dX0_packed_20 : decode cX0_packed 20 = .ok (.imul, 1) := by decide +kernel
theorem dX0_packed_21 : decode cX0_packed 21 = .ok (.aload_n 0, 1) := by decide +kernel
theorem dX0_packed_22 : decode cX0_packed 22 = .ok (.iload_n 1, 1) := by decide +kernel
theorem dX0_packed_23 : decode cX0_packed 23 = .ok (.iconst 2, 1) := by decide +kernel
theorem dX0_packed_24 : decode cX0_packed 24 = .ok (.invokevirtual 56, 3) := by decide +kernel
theorem dX0_packed_27 : decode cX0_packed 27 = .ok (.iadd, 1) := by decide +kernel
theorem dX0_packed_28 : decode cX0_packed 28 = .ok (.ireturn, 1) := by decide +kernel
theorem dX0_onTheWay_0 : decode cX0_onTheWay 0 = .ok (.aload_n 0, 1) := by decide +kernel
theorem dX0_onTheWay_1 : decode cX0_onTheWay 1 = .ok (.iload_n 1, 1) := by decide +kernel
theorem dX0_onTheWay_2 : decode cX0_onTheWay 2 = .ok (.iload_n 3, 1) := by decide +kernel
theorem dX0_onTheWay_3 : decode cX0_onTheWay 3 = .ok (.invokevirtual 56, 3) := by decide +kernel
theorem dX0_onTheWay_6 : decode cX0_onTheWay 6 = .ok (.aload_n 0, 1) := by decide +kernel
theorem dX0_onTheWay_7 : decode cX0_onTheWay 7 = .ok (.iload_n 2, 1) := by decide +kernel
theorem dX0_onTheWay_8 : decode cX0_onTheWay 8 = .ok (.iload_n 3, 1) := by decide +kernel
theorem dX0_onTheWay_9 : decode cX0_onTheWay 9 = .ok (.invokevirtual 56, 3) := by decide +kernel
theorem dX0_onTheWay_12 : decode cX0_onTheWay 12 = .ok (.aload_n 0, 1) := by decide +kernel
theorem dX0_onTheWay_13 : decode cX0_onTheWay 13 = .ok (.iload_n 1, 1) := by decide +kernel
theorem dX0_onTheWay_14 : decode cX0_onTheWay 14 = .ok (.iload_n 3, 1) := by decide +kernel
theorem dX0_onTheWay_15 : decode cX0_onTheWay 15 = .ok (.invokevirtual 56, 3) := by decide +kernel
theorem dX0_onTheWay_18 : decode cX0_onTheWay 18 = .ok (.isub, 1) := by decide +kernel
theorem dX0_onTheWay_19 : decode cX0_onTheWay 19 = .ok (.iload 4, 2) := by decide +kernel
theorem dX0_onTheWay_21 : decode cX0_onTheWay 21 = .ok (.imul, 1) := by decide +kernel
theorem dX0_onTheWay_22 : decode cX0_onTheWay 22 = .ok (.bipush 8, 2) := by decide +kernel
theorem dX0_onTheWay_24 : decode cX0_onTheWay 24 = .ok (.idiv, 1) := by decide +kernel
theorem dX0_onTheWay_25 : decode cX0_onTheWay 25 = .ok (.iadd, 1) := by decide +kernel
theorem dX0_onTheWay_26 : decode cX0_onTheWay 26 = .ok (.ireturn, 1) := by decide +kernel
theorem dX0_distanceTo_0 : decode cX0_distanceTo 0 = .ok (.aload_n 1, 1) := by decide +kernel
theorem dX0_distanceTo_1 : decode cX0_distanceTo 1 = .ok (.aload_n 0, 1) := by decide +kernel
theorem dX0_distanceTo_2 : decode cX0_distanceTo 2 = .ok (.iload_n 2, 1) := by decide +kernel
theorem dX0_distanceTo_3 : decode cX0_distanceTo 3 = .ok (.iconst 0, 1) := by decide +kernel
theorem dX0_distanceTo_4 : decode cX0_distanceTo 4 = .ok (.invokevirtual 56, 3) := by decide +kernel
theorem dX0_distanceTo_7 : decode cX0_distanceTo 7 = .ok (.iload_n 3, 1) := by decide +kernel
theorem dX0_distanceTo_8 : decode cX0_distanceTo 8 = .ok (.isub, 1) := by decide +kernel
theorem dX0_distanceTo_9 : decode cX0_distanceTo 9 = .ok (.aload_n 0, 1) := by decide +kernel
theorem dX0_distanceTo_10 : decode cX0_distanceTo 10 = .ok (.iload_n 2, 1) := by decide +kernel
theorem dX0_distanceTo_11 : decode cX0_distanceTo 11 = .ok (.iconst 1, 1) := by decide +kernel
theorem dX0_distanceTo_12 : decode cX0_distanceTo 12 = .ok (.invokevirtual 56, 3) := by decide +kernel
theorem dX0_distanceTo_15 : decode cX0_distanceTo 15 = .ok (.iload 4, 2) := by decide +kernel
theorem dX0_distanceTo_17 : decode cX0_distanceTo 17 = .ok (.isub, 1) := by decide +kernel
theorem dX0_distanceTo_18 : decode cX0_distanceTo 18 = .ok (.aload_n 0, 1) := by decide +kernel
theorem dX0_distanceTo_19 : decode cX0_distanceTo 19 = .ok (.iload_n 2, 1) := by decide +kernel
theorem dX0_distanceTo_20 : decode cX0_distanceTo 20 = .ok (.iconst 2, 1) := by decide +kernel
theorem dX0_distanceTo_21 : decode cX0_distanceTo 21 = .ok (.invokevirtual 56, 3) := by decide +kernel
theorem dX0_distanceTo_24 : decode cX0_distanceTo 24 = .ok (.iload 5, 2) := by decide +kernel
theorem dX0_distanceTo_26 : decode cX0_distanceTo 26 = .ok (.isub, 1) := by decide +kernel
theorem dX0_distanceTo_27 : decode cX0_distanceTo 27 = .ok (.invokevirtual 67, 3) := by decide +kernel
theorem dX0_distanceTo_30 : decode cX0_distanceTo 30 = .ok (.ireturn, 1) := by decide +kernel
theorem dX0_distanceOf_0 : decode cX0_distanceOf 0 = .ok (.aload_n 0, 1) := by decide +kernel
theorem dX0_distanceOf_1 : decode cX0_distanceOf 1 = .ok (.aload_n 1, 1) := by decide +kernel
theorem dX0_distanceOf_2 : decode cX0_distanceOf 2 = .ok (.iload_n 2, 1) := by decide +kernel
theorem dX0_distanceOf_3 : decode cX0_distanceOf 3 = .ok (.aload_n 0, 1) := by decide +kernel
theorem dX0_distanceOf_4 : decode cX0_distanceOf 4 = .ok (.iload_n 3, 1) := by decide +kernel
theorem dX0_distanceOf_5 : decode cX0_distanceOf 5 = .ok (.iconst 0, 1) := by decide +kernel
theorem dX0_distanceOf_6 : decode cX0_distanceOf 6 = .ok (.invokevirtual 56, 3) := by decide +kernel
theorem dX0_distanceOf_9 : decode cX0_distanceOf 9 = .ok (.aload_n 0, 1) := by decide +kernel
theorem dX0_distanceOf_10 : decode cX0_distanceOf 10 = .ok (.iload_n 3, 1) := by decide +kernel
theorem dX0_distanceOf_11 : decode cX0_distanceOf 11 = .ok (.iconst 1, 1) := by decide +kernel
theorem dX0_distanceOf_12 : decode cX0_distanceOf 12 = .ok (.invokevirtual 56, 3) := by decide +kernel
theorem dX0_distanceOf_15 : decode cX0_distanceOf 15 = .ok (.aload_n 0, 1) := by decide +kernel
theorem dX0_distanceOf_16 : decode cX0_distanceOf 16 = .ok (.iload_n 3, 1) := by decide +kernel
theorem dX0_distanceOf_17 : decode cX0_distanceOf 17 = .ok (.iconst 2, 1) := by decide +kernel
theorem dX0_distanceOf_18 : decode cX0_distanceOf 18 = .ok (.invokevirtual 56, 3) := by decide +kernel
theorem dX0_distanceOf_21 : decode cX0_distanceOf 21 = .ok (.invokevirtual 71, 3) := by decide +kernel
theorem dX0_distanceOf_24 : decode cX0_distanceOf 24 = .ok (.ireturn, 1) := by decide +kernel
theorem dX0_risesAt_0 : decode cX0_risesAt 0 = .ok (.iload_n 1, 1) := by decide +kernel
theorem dX0_risesAt_1 : decode cX0_risesAt 1 = .ok (.iload_n 2, 1) := by decide +kernel
theorem dX0_risesAt_2 : decode cX0_risesAt 2 = .ok (.invokestatic 75, 3) := by decide +kernel
theorem dX0_risesAt_5 : decode cX0_risesAt 5 = .ok (.iconst 2, 1) := by decide +kernel
theorem dX0_risesAt_6 : decode cX0_risesAt 6 = .ok (.if_icmp .ge 36, 3) := by decide +kernel
theorem dX0_risesAt_9 : decode cX0_risesAt 9 = .ok (.aload_n 0, 1) := by decide +kernel
theorem dX0_risesAt_10 : decode cX0_risesAt 10 = .ok (.getfield 9, 3) := by decide +kernel
theorem dX0_risesAt_13 : decode cX0_risesAt 13 = .ok (.iload_n 1, 1) := by decide +kernel
theorem dX0_risesAt_14 : decode cX0_risesAt 14 = .ok (.getstatic 49, 3) := by decide +kernel
theorem dX0_risesAt_17 : decode cX0_risesAt 17 = .ok (.iload_n 2, 1) := by decide +kernel
theorem dX0_risesAt_18 : decode cX0_risesAt 18 = .ok (.iaload, 1) := by decide +kernel
theorem dX0_risesAt_19 : decode cX0_risesAt 19 = .ok (.iadd, 1) := by decide +kernel
theorem dX0_risesAt_20 : decode cX0_risesAt 20 = .ok (.iconst 3, 1) := by decide +kernel
theorem dX0_risesAt_21 : decode cX0_risesAt 21 = .ok (.imul, 1) := by decide +kernel
theorem dX0_risesAt_22 : decode cX0_risesAt 22 = .ok (.iload_n 3, 1) := by decide +kernel
theorem dX0_risesAt_23 : decode cX0_risesAt 23 = .ok (.iadd, 1) := by decide +kernel
theorem dX0_risesAt_24 : decode cX0_risesAt 24 = .ok (.iaload, 1) := by decide +kernel
theorem dX0_risesAt_25 : decode cX0_risesAt 25 = .ok (.aload_n 0, 1) := by decide +kernel
theorem dX0_risesAt_26 : decode cX0_risesAt 26 = .ok (.getfield 9, 3) := by decide +kernel
theorem dX0_risesAt_29 : decode cX0_risesAt 29 = .ok (.iload_n 1, 1) := by decide +kernel
theorem dX0_risesAt_30 : decode cX0_risesAt 30 = .ok (.iconst 3, 1) := by decide +kernel
theorem dX0_risesAt_31 : decode cX0_risesAt 31 = .ok (.imul, 1) := by decide +kernel
theorem dX0_risesAt_32 : decode cX0_risesAt 32 = .ok (.iload_n 3, 1) := by decide +kernel
theorem dX0_risesAt_33 : decode cX0_risesAt 33 = .ok (.iadd, 1) := by decide +kernel
theorem dX0_risesAt_34 : decode cX0_risesAt 34 = .ok (.iaload, 1) := by decide +kernel
theorem dX0_risesAt_35 : decode cX0_risesAt 35 = .ok (.if_icmp .le 7, 3) := by decide +kernel
theorem dX0_risesAt_38 : decode cX0_risesAt 38 = .ok (.iconst 1, 1) := by decide +kernel
theorem dX0_risesAt_39 : decode cX0_risesAt 39 = .ok (.goto 4, 3) := by decide +kernel
theorem dX0_risesAt_42 : decode cX0_risesAt 42 = .ok (.iconst 0, 1) := by decide +kernel
theorem dX0_risesAt_43 : decode cX0_risesAt 43 = .ok (.ireturn, 1) := by decide +kernel
theorem dX0_countRises_0 : decode cX0_countRises 0 = .ok (.iconst 0, 1) := by decide +kernel
theorem dX0_countRises_1 : decode cX0_countRises 1 = .ok (.istore_n 2, 1) := by decide +kernel
theorem dX0_countRises_2 : decode cX0_countRises 2 = .ok (.iconst 0, 1) := by decide +kernel
theorem dX0_countRises_3 : decode cX0_countRises 3 = .ok (.istore_n 3, 1) := by decide +kernel
theorem dX0_countRises_4 : decode cX0_countRises 4 = .ok (.iload_n 3, 1) := by decide +kernel
theorem dX0_countRises_5 : decode cX0_countRises 5 = .ok (.sipush 243, 3) := by decide +kernel
theorem dX0_countRises_8 : decode cX0_countRises 8 = .ok (.if_icmp .ge 26, 3) := by decide +kernel
theorem dX0_countRises_11 : decode cX0_countRises 11 = .ok (.aload_n 0, 1) := by decide +kernel
theorem dX0_countRises_12 : decode cX0_countRises 12 = .ok (.iload_n 3, 1) := by decide +kernel
theorem dX0_countRises_13 : decode cX0_countRises 13 = .ok (.iconst 3, 1) := by decide +kernel
theorem dX0_countRises_14 : decode cX0_countRises 14 = .ok (.idiv, 1) := by decide +kernel
theorem dX0_countRises_15 : decode cX0_countRises 15 = .ok (.iload_n 1, 1) := by decide +kernel
theorem dX0_countRises_16 : decode cX0_countRises 16 = .ok (.iload_n 3, 1) := by decide +kernel
theorem dX0_countRises_17 : decode cX0_countRises 17 = .ok (.iconst 3, 1) := by decide +kernel
theorem dX0_countRises_18 : decode cX0_countRises 18 = .ok (.irem, 1) := by decide +kernel
theorem dX0_countRises_19 : decode cX0_countRises 19 = .ok (.invokevirtual 78, 3) := by decide +kernel
theorem dX0_countRises_22 : decode cX0_countRises 22 = .ok (.ifCond .eq 6, 3) := by decide +kernel
theorem dX0_countRises_25 : decode cX0_countRises 25 = .ok (.iinc 2 1, 3) := by decide +kernel
theorem dX0_countRises_28 : decode cX0_countRises 28 = .ok (.iinc 3 1, 3) := by decide +kernel
theorem dX0_countRises_31 : decode cX0_countRises 31 = .ok (.goto (-27), 3) := by decide +kernel
theorem dX0_countRises_34 : decode cX0_countRises 34 = .ok (.iload_n 2, 1) := by decide +kernel
theorem dX0_countRises_35 : decode cX0_countRises 35 = .ok (.ireturn, 1) := by decide +kernel
theorem dX0_firstRise_0 : decode cX0_firstRise 0 = .ok (.iconst 0, 1) := by decide +kernel
theorem dX0_firstRise_1 : decode cX0_firstRise 1 = .ok (.istore_n 2, 1) := by decide +kernel
theorem dX0_firstRise_2 : decode cX0_firstRise 2 = .ok (.iload_n 2, 1) := by decide +kernel
theorem dX0_firstRise_3 : decode cX0_firstRise 3 = .ok (.sipush 243, 3) := by decide +kernel
theorem dX0_firstRise_6 : decode cX0_firstRise 6 = .ok (.if_icmp .ge 25, 3) := by decide +kernel
theorem dX0_firstRise_9 : decode cX0_firstRise 9 = .ok (.aload_n 0, 1) := by decide +kernel
theorem dX0_firstRise_10 : decode cX0_firstRise 10 = .ok (.iload_n 2, 1) := by decide +kernel
theorem dX0_firstRise_11 : decode cX0_firstRise 11 = .ok (.iconst 3, 1) := by decide +kernel
theorem dX0_firstRise_12 : decode cX0_firstRise 12 = .ok (.idiv, 1) := by decide +kernel
theorem dX0_firstRise_13 : decode cX0_firstRise 13 = .ok (.iload_n 1, 1) := by decide +kernel
theorem dX0_firstRise_14 : decode cX0_firstRise 14 = .ok (.iload_n 2, 1) := by decide +kernel
theorem dX0_firstRise_15 : decode cX0_firstRise 15 = .ok (.iconst 3, 1) := by decide +kernel
theorem dX0_firstRise_16 : decode cX0_firstRise 16 = .ok (.irem, 1) := by decide +kernel
theorem dX0_firstRise_17 : decode cX0_firstRise 17 = .ok (.invokevirtual 78, 3) := by decide +kernel
theorem dX0_firstRise_20 : decode cX0_firstRise 20 = .ok (.ifCond .eq 5, 3) := by decide +kernel
theorem dX0_firstRise_23 : decode cX0_firstRise 23 = .ok (.iload_n 2, 1) := by decide +kernel
theorem dX0_firstRise_24 : decode cX0_firstRise 24 = .ok (.ireturn, 1) := by decide +kernel
theorem dX0_firstRise_25 : decode cX0_firstRise 25 = .ok (.iinc 2 1, 3) := by decide +kernel
theorem dX0_firstRise_28 : decode cX0_firstRise 28 = .ok (.goto (-26), 3) := by decide +kernel
theorem dX0_firstRise_31 : decode cX0_firstRise 31 = .ok (.iconst (-1), 1) := by decide +kernel
theorem dX0_firstRise_32 : decode cX0_firstRise 32 = .ok (.ireturn, 1) := by decide +kernel
theorem dX1_init_0 : decode cX1_init 0 = .ok (.aload_n 0, 1) := by decide +kernel
theorem dX1_init_1 : decode cX1_init 1 = .ok (.invokespecial 3, 3) := by decide +kernel
theorem dX1_init_4 : decode cX1_init 4 = .ok (.aload_n 0, 1) := by decide +kernel
theorem dX1_init_5 : decode cX1_init 5 = .ok (.bipush 11, 2) := by decide +kernel
theorem dX1_init_7 : decode cX1_init 7 = .ok (.anewarray 9, 3) := by decide +kernel
theorem dX1_init_10 : decode cX1_init 10 = .ok (.putfield 11, 3) := by decide +kernel
theorem dX1_init_13 : decode cX1_init 13 = .ok (.iconst 0, 1) := by decide +kernel
theorem dX1_init_14 : decode cX1_init 14 = .ok (.istore_n 1, 1) := by decide +kernel
theorem dX1_init_15 : decode cX1_init 15 = .ok (.iload_n 1, 1) := by decide +kernel
theorem dX1_init_16 : decode cX1_init 16 = .ok (.bipush 10, 2) := by decide +kernel
theorem dX1_init_18 : decode cX1_init 18 = .ok (.if_icmp .gt 22, 3) := by decide +kernel
theorem dX1_init_21 : decode cX1_init 21 = .ok (.aload_n 0, 1) := by decide +kernel
theorem dX1_init_22 : decode cX1_init 22 = .ok (.getfield 11, 3) := by decide +kernel
theorem dX1_init_25 : decode cX1_init 25 = .ok (.iload_n 1, 1) := by decide +kernel
theorem dX1_init_26 : decode cX1_init 26 = .ok (.new 9, 3) := by decide +kernel
theorem dX1_init_29 : decode cX1_init 29 = .ok (.dup, 1) := by decide +kernel
theorem dX1_init_30 : decode cX1_init 30 = .ok (.invokespecial 17, 3) := by decide +kernel
theorem dX1_init_33 : decode cX1_init 33 = .ok (.aastore, 1) := by decide +kernel
theorem dX1_init_34 : decode cX1_init 34 = .ok (.iinc 1 1, 3) := by decide +kernel
theorem dX1_init_37 : decode cX1_init 37 = .ok (.goto (-22), 3) := by decide +kernel
theorem dX1_init_40 : decode cX1_init 40 = .ok (.return_, 1) := by decide +kernel
theorem dX1_draftSlot_0 : decode cX1_draftSlot 0 = .ok (.aload_n 0, 1) := by decide +kernel
theorem dX1_draftSlot_1 : decode cX1_draftSlot 1 = .ok (.getfield 18, 3) := by decide +kernel
theorem dX1_draftSlot_4 : decode cX1_draftSlot 4 = .ok (.aload_n 0, 1) := by decide +kernel
theorem dX1_draftSlot_5 : decode cX1_draftSlot 5 = .ok (.getfield 22, 3) := by decide +kernel
theorem dX1_draftSlot_8 : decode cX1_draftSlot 8 = .ok (.iadd, 1) := by decide +kernel
theorem dX1_draftSlot_9 : decode cX1_draftSlot 9 = .ok (.bipush 11, 2) := by decide +kernel
theorem dX1_draftSlot_11 : decode cX1_draftSlot 11 = .ok (.irem, 1) := by decide +kernel
theorem dX1_draftSlot_12 : decode cX1_draftSlot 12 = .ok (.ireturn, 1) := by decide +kernel
theorem dX1_draft_0 : decode cX1_draft 0 = .ok (.aload_n 0, 1) := by decide +kernel
theorem dX1_draft_1 : decode cX1_draft 1 = .ok (.getfield 11, 3) := by decide +kernel
theorem dX1_draft_4 : decode cX1_draft 4 = .ok (.aload_n 0, 1) := by decide +kernel
theorem dX1_draft_5 : decode cX1_draft 5 = .ok (.invokevirtual 25, 3) := by decide +kernel
theorem dX1_draft_8 : decode cX1_draft 8 = .ok (.aaload, 1) := by decide +kernel
theorem dX1_draft_9 : decode cX1_draft 9 = .ok (.aload_n 1, 1) := by decide +kernel
theorem dX1_draft_10 : decode cX1_draft 10 = .ok (.invokevirtual 29, 3) := by decide +kernel
theorem dX1_draft_13 : decode cX1_draft 13 = .ok (.return_, 1) := by decide +kernel
theorem dX1_settle_0 : decode cX1_settle 0 = .ok (.aload_n 0, 1) := by decide +kernel
theorem dX1_settle_1 : decode cX1_settle 1 = .ok (.getfield 22, 3) := by decide +kernel
theorem dX1_settle_4 : decode cX1_settle 4 = .ok (.bipush 10, 2) := by decide +kernel
theorem dX1_settle_6 : decode cX1_settle 6 = .ok (.if_icmp .ge 16, 3) := by decide +kernel
theorem dX1_settle_9 : decode cX1_settle 9 = .ok (.aload_n 0, 1) := by decide +kernel
theorem dX1_settle_10 : decode cX1_settle 10 = .ok (.dup, 1) := by decide +kernel
theorem dX1_settle_11 : decode cX1_settle 11 = .ok (.getfield 22, 3) := by decide +kernel
theorem dX1_settle_14 : decode cX1_settle 14 = .ok (.iconst 1, 1) := by decide +kernel
theorem dX1_settle_15 : decode cX1_settle 15 = .ok (.iadd, 1) := by decide +kernel
theorem dX1_settle_16 : decode cX1_settle 16 = .ok (.putfield 22, 3) := by decide +kernel
theorem dX1_settle_19 : decode cX1_settle 19 = .ok (.goto 16, 3) := by decide +kernel
theorem dX1_settle_22 : decode cX1_settle 22 = .ok (.aload_n 0, 1) := by decide +kernel
theorem dX1_settle_23 : decode cX1_settle 23 = .ok (.aload_n 0, 1) := by decide +kernel
theorem dX1_settle_24 : decode cX1_settle 24 = .ok (.getfield 18, 3) := by decide +kernel
theorem dX1_settle_27 : decode cX1_settle 27 = .ok (.iconst 1, 1) := by decide +kernel
theorem dX1_settle_28 : decode cX1_settle 28 = .ok (.iadd, 1) := by decide +kernel
theorem dX1_settle_29 : decode cX1_settle 29 = .ok (.bipush 11, 2) := by decide +kernel
theorem dX1_settle_31 : decode cX1_settle 31 = .ok (.irem, 1) := by decide +kernel
theorem dX1_settle_32 : decode cX1_settle 32 = .ok (.putfield 18, 3) := by decide +kernel
theorem dX1_settle_35 : decode cX1_settle 35 = .ok (.return_, 1) := by decide +kernel
theorem dX1_bringBack_0 : decode cX1_bringBack 0 = .ok (.aload_n 0, 1) := by decide +kernel
theorem dX1_bringBack_1 : decode cX1_bringBack 1 = .ok (.getfield 22, 3) := by decide +kernel
theorem dX1_bringBack_4 : decode cX1_bringBack 4 = .ok (.ifCond .le 26, 3) := by decide +kernel
theorem dX1_bringBack_7 : decode cX1_bringBack 7 = .ok (.aload_n 0, 1) := by decide +kernel
theorem dX1_bringBack_8 : decode cX1_bringBack 8 = .ok (.dup, 1) := by decide +kernel
theorem dX1_bringBack_9 : decode cX1_bringBack 9 = .ok (.getfield 22, 3) := by decide +kernel
theorem dX1_bringBack_12 : decode cX1_bringBack 12 = .ok (.iconst 1, 1) := by decide +kernel
theorem dX1_bringBack_13 : decode cX1_bringBack 13 = .ok (.isub, 1) := by decide +kernel
theorem dX1_bringBack_14 : decode cX1_bringBack 14 = .ok (.putfield 22, 3) := by decide +kernel
theorem dX1_bringBack_17 : decode cX1_bringBack 17 = .ok (.aload_n 1, 1) := by decide +kernel
theorem dX1_bringBack_18 : decode cX1_bringBack 18 = .ok (.aload_n 0, 1) := by decide +kernel
theorem dX1_bringBack_19 : decode cX1_bringBack 19 = .ok (.getfield 11, 3) := by decide +kernel
theorem dX1_bringBack_22 : decode cX1_bringBack 22 = .ok (.aload_n 0, 1) := by decide +kernel
theorem dX1_bringBack_23 : decode cX1_bringBack 23 = .ok (.invokevirtual 25, 3) := by decide +kernel
theorem dX1_bringBack_26 : decode cX1_bringBack 26 = .ok (.aaload, 1) := by decide +kernel
theorem dX1_bringBack_27 : decode cX1_bringBack 27 = .ok (.invokevirtual 29, 3) := by decide +kernel
theorem dX1_bringBack_30 : decode cX1_bringBack 30 = .ok (.return_, 1) := by decide +kernel
theorem dX2_init_0 : decode cX2_init 0 = .ok (.aload_n 0, 1) := by decide +kernel
theorem dX2_init_1 : decode cX2_init 1 = .ok (.invokespecial 3, 3) := by decide +kernel
theorem dX2_init_4 : decode cX2_init 4 = .ok (.aload_n 0, 1) := by decide +kernel
theorem dX2_init_5 : decode cX2_init 5 = .ok (.iconst 4, 1) := by decide +kernel
theorem dX2_init_6 : decode cX2_init 6 = .ok (.newarray .int, 2) := by decide +kernel
theorem dX2_init_8 : decode cX2_init 8 = .ok (.putfield 9, 3) := by decide +kernel
theorem dX2_init_11 : decode cX2_init 11 = .ok (.return_, 1) := by decide +kernel
theorem dX2_load_0 : decode cX2_load 0 = .ok (.iconst 0, 1) := by decide +kernel
theorem dX2_load_1 : decode cX2_load 1 = .ok (.istore_n 2, 1) := by decide +kernel
theorem dX2_load_2 : decode cX2_load 2 = .ok (.iload_n 2, 1) := by decide +kernel
theorem dX2_load_3 : decode cX2_load 3 = .ok (.iconst 4, 1) := by decide +kernel
theorem dX2_load_4 : decode cX2_load 4 = .ok (.if_icmp .ge 20, 3) := by decide +kernel
theorem dX2_load_7 : decode cX2_load 7 = .ok (.aload_n 0, 1) := by decide +kernel
theorem dX2_load_8 : decode cX2_load 8 = .ok (.getfield 9, 3) := by decide +kernel
theorem dX2_load_11 : decode cX2_load 11 = .ok (.iload_n 2, 1) := by decide +kernel
theorem dX2_load_12 : decode cX2_load 12 = .ok (.iload_n 1, 1) := by decide +kernel
theorem dX2_load_13 : decode cX2_load 13 = .ok (.iload_n 2, 1) := by decide +kernel
theorem dX2_load_14 : decode cX2_load 14 = .ok (.invokestatic 15, 3) := by decide +kernel
theorem dX2_load_17 : decode cX2_load 17 = .ok (.iastore, 1) := by decide +kernel
theorem dX2_load_18 : decode cX2_load 18 = .ok (.iinc 2 1, 3) := by decide +kernel
theorem dX2_load_21 : decode cX2_load 21 = .ok (.goto (-19), 3) := by decide +kernel
theorem dX2_load_24 : decode cX2_load 24 = .ok (.return_, 1) := by decide +kernel
theorem dX2_place_0 : decode cX2_place 0 = .ok (.iconst 0, 1) := by decide +kernel
theorem dX2_place_1 : decode cX2_place 1 = .ok (.istore_n 1, 1) := by decide +kernel
theorem dX2_place_2 : decode cX2_place 2 = .ok (.iconst 0, 1) := by decide +kernel
theorem dX2_place_3 : decode cX2_place 3 = .ok (.istore_n 2, 1) := by decide +kernel
theorem dX2_place_4 : decode cX2_place 4 = .ok (.iload_n 2, 1) := by decide +kernel
theorem dX2_place_5 : decode cX2_place 5 = .ok (.iconst 4, 1) := by decide +kernel
theorem dX2_place_6 : decode cX2_place 6 = .ok (.if_icmp .ge 24, 3) := by decide +kernel
theorem dX2_place_9 : decode cX2_place 9 = .ok (.iload_n 1, 1) := by decide +kernel
theorem dX2_place_10 : decode cX2_place 10 = .ok (.aload_n 0, 1) := by decide +kernel
theorem dX2_place_11 : decode cX2_place 11 = .ok (.getfield 9, 3) := by decide +kernel
theorem dX2_place_14 : decode cX2_place 14 = .ok (.iload_n 2, 1) := by decide +kernel
theorem dX2_place_15 : decode cX2_place 15 = .ok (.iaload, 1) := by decide +kernel
theorem dX2_place_16 : decode cX2_place 16 = .ok (.getstatic 19, 3) := by decide +kernel
theorem dX2_place_19 : decode cX2_place 19 = .ok (.iload_n 2, 1) := by decide +kernel
theorem dX2_place_20 : decode cX2_place 20 = .ok (.iaload, 1) := by decide +kernel
theorem dX2_place_21 : decode cX2_place 21 = .ok (.imul, 1) := by decide +kernel
theorem dX2_place_22 : decode cX2_place 22 = .ok (.iadd, 1) := by decide +kernel
theorem dX2_place_23 : decode cX2_place 23 = .ok (.istore_n 1, 1) := by decide +kernel
theorem dX2_place_24 : decode cX2_place 24 = .ok (.iinc 2 1, 3) := by decide +kernel
theorem dX2_place_27 : decode cX2_place 27 = .ok (.goto (-23), 3) := by decide +kernel
theorem dX2_place_30 : decode cX2_place 30 = .ok (.iload_n 1, 1) := by decide +kernel
theorem dX2_place_31 : decode cX2_place 31 = .ok (.ireturn, 1) := by decide +kernel
theorem dX2_limitTo_0 : decode cX2_limitTo 0 = .ok (.bipush 8, 2) := by decide +kernel
theorem dX2_limitTo_2 : decode cX2_limitTo 2 = .ok (.istore_n 2, 1) := by decide +kernel
theorem dX2_limitTo_3 : decode cX2_limitTo 3 = .ok (.iload_n 2, 1) := by decide +kernel
theorem dX2_limitTo_4 : decode cX2_limitTo 4 = .ok (.ifCond .le 18, 3) := by decide +kernel
theorem dX2_limitTo_7 : decode cX2_limitTo 7 = .ok (.aload_n 0, 1) := by decide +kernel
theorem dX2_limitTo_8 : decode cX2_limitTo 8 = .ok (.iload_n 2, 1) := by decide +kernel
theorem dX2_limitTo_9 : decode cX2_limitTo 9 = .ok (.invokevirtual 22, 3) := by decide +kernel
theorem dX2_limitTo_12 : decode cX2_limitTo 12 = .ok (.iload_n 1, 1) := by decide +kernel
theorem dX2_limitTo_13 : decode cX2_limitTo 13 = .ok (.if_icmp .le 9, 3) := by decide +kernel
theorem dX2_limitTo_16 : decode cX2_limitTo 16 = .ok (.iinc 2 (-1), 3) := by decide +kernel
theorem dX2_limitTo_19 : decode cX2_limitTo 19 = .ok (.goto (-16), 3) := by decide +kernel
theorem dX2_limitTo_22 : decode cX2_limitTo 22 = .ok (.iconst 0, 1) := by decide +kernel
theorem dX2_limitTo_23 : decode cX2_limitTo 23 = .ok (.istore_n 3, 1) := by decide +kernel
theorem dX2_limitTo_24 : decode cX2_limitTo 24 = .ok (.iload_n 3, 1) := by decide +kernel
theorem dX2_limitTo_25 : decode cX2_limitTo 25 = .ok (.iconst 3, 1) := by decide +kernel
theorem dX2_limitTo_26 : decode cX2_limitTo 26 = .ok (.if_icmp .ge 25, 3) := by decide +kernel
theorem dX2_limitTo_29 : decode cX2_limitTo 29 = .ok (.aload_n 0, 1) := by decide +kernel
theorem dX2_limitTo_30 : decode cX2_limitTo 30 = .ok (.getfield 9, 3) := by decide +kernel
theorem dX2_limitTo_33 : decode cX2_limitTo 33 = .ok (.iload_n 3, 1) := by decide +kernel
theorem dX2_limitTo_34 : decode cX2_limitTo 34 = .ok (.aload_n 0, 1) := by decide +kernel
theorem dX2_limitTo_35 : decode cX2_limitTo 35 = .ok (.getfield 9, 3) := by decide +kernel
theorem dX2_limitTo_38 : decode cX2_limitTo 38 = .ok (.iload_n 3, 1) := by decide +kernel
theorem dX2_limitTo_39 : decode cX2_limitTo 39 = .ok (.iaload, 1) := by decide +kernel
theorem dX2_limitTo_40 : decode cX2_limitTo 40 = .ok (.iload_n 2, 1) := by decide +kernel
theorem dX2_limitTo_41 : decode cX2_limitTo 41 = .ok (.invokestatic 26, 3) := by decide +kernel
theorem dX2_limitTo_44 : decode cX2_limitTo 44 = .ok (.iastore, 1) := by decide +kernel
theorem dX2_limitTo_45 : decode cX2_limitTo 45 = .ok (.iinc 3 1, 3) := by decide +kernel
theorem dX2_limitTo_48 : decode cX2_limitTo 48 = .ok (.goto (-24), 3) := by decide +kernel
theorem dX2_limitTo_51 : decode cX2_limitTo 51 = .ok (.return_, 1) := by decide +kernel
theorem dX2_totalWith_0 : decode cX2_totalWith 0 = .ok (.aload_n 0, 1) := by decide +kernel
theorem dX2_totalWith_1 : decode cX2_totalWith 1 = .ok (.getfield 9, 3) := by decide +kernel
theorem dX2_totalWith_4 : decode cX2_totalWith 4 = .ok (.iconst 0, 1) := by decide +kernel
theorem dX2_totalWith_5 : decode cX2_totalWith 5 = .ok (.iaload, 1) := by decide +kernel
theorem dX2_totalWith_6 : decode cX2_totalWith 6 = .ok (.iload_n 1, 1) := by decide +kernel
theorem dX2_totalWith_7 : decode cX2_totalWith 7 = .ok (.invokestatic 26, 3) := by decide +kernel
theorem dX2_totalWith_10 : decode cX2_totalWith 10 = .ok (.aload_n 0, 1) := by decide +kernel
theorem dX2_totalWith_11 : decode cX2_totalWith 11 = .ok (.getfield 9, 3) := by decide +kernel
theorem dX2_totalWith_14 : decode cX2_totalWith 14 = .ok (.iconst 1, 1) := by decide +kernel
theorem dX2_totalWith_15 : decode cX2_totalWith 15 = .ok (.iaload, 1) := by decide +kernel
theorem dX2_totalWith_16 : decode cX2_totalWith 16 = .ok (.iload_n 1, 1) := by decide +kernel
theorem dX2_totalWith_17 : decode cX2_totalWith 17 = .ok (.invokestatic 26, 3) := by decide +kernel
theorem dX2_totalWith_20 : decode cX2_totalWith 20 = .ok (.iadd, 1) := by decide +kernel
theorem dX2_totalWith_21 : decode cX2_totalWith 21 = .ok (.aload_n 0, 1) := by decide +kernel
theorem dX2_totalWith_22 : decode cX2_totalWith 22 = .ok (.getfield 9, 3) := by decide +kernel
theorem dX2_totalWith_25 : decode cX2_totalWith 25 = .ok (.iconst 2, 1) := by decide +kernel
theorem dX2_totalWith_26 : decode cX2_totalWith 26 = .ok (.iaload, 1) := by decide +kernel
theorem dX2_totalWith_27 : decode cX2_totalWith 27 = .ok (.iload_n 1, 1) := by decide +kernel
theorem dX2_totalWith_28 : decode cX2_totalWith 28 = .ok (.invokestatic 26, 3) := by decide +kernel
theorem dX2_totalWith_31 : decode cX2_totalWith 31 = .ok (.iadd, 1) := by decide +kernel
theorem dX2_totalWith_32 : decode cX2_totalWith 32 = .ok (.aload_n 0, 1) := by decide +kernel
theorem dX2_totalWith_33 : decode cX2_totalWith 33 = .ok (.getfield 9, 3) := by decide +kernel
theorem dX2_totalWith_36 : decode cX2_totalWith 36 = .ok (.iconst 3, 1) := by decide +kernel
theorem dX2_totalWith_37 : decode cX2_totalWith 37 = .ok (.iaload, 1) := by decide +kernel
theorem dX2_totalWith_38 : decode cX2_totalWith 38 = .ok (.iadd, 1) := by decide +kernel
theorem dX2_totalWith_39 : decode cX2_totalWith 39 = .ok (.ireturn, 1) := by decide +kernel
theorem dX2_doSteps_0 : decode cX2_doSteps 0 = .ok (.iload_n 3, 1) := by decide +kernel
theorem dX2_doSteps_1 : decode cX2_doSteps 1 = .ok (.bipush 40, 2) := by decide +kernel
theorem dX2_doSteps_3 : decode cX2_doSteps 3 = .ok (.if_icmp .le 4, 3) := by decide +kernel
theorem dX2_doSteps_6 : decode cX2_doSteps 6 = .ok (.return_, 1) := by decide +kernel
theorem dX2_doSteps_7 : decode cX2_doSteps 7 = .ok (.aload_n 1, 1) := by decide +kernel
theorem dX2_doSteps_8 : decode cX2_doSteps 8 = .ok (.astore 4, 2) := by decide +kernel
theorem dX2_doSteps_10 : decode cX2_doSteps 10 = .ok (.aload 4, 2) := by decide +kernel
theorem dX2_doSteps_12 : decode cX2_doSteps 12 = .ok (.ifnull 57, 3) := by decide +kernel
theorem dX2_doSteps_15 : decode cX2_doSteps 15 = .ok (.aload_n 0, 1) := by decide +kernel
theorem dX2_doSteps_16 : decode cX2_doSteps 16 = .ok (.aload 4, 2) := by decide +kernel
theorem dX2_doSteps_18 : decode cX2_doSteps 18 = .ok (.invokevirtual 31, 3) := by decide +kernel
theorem dX2_doSteps_21 : decode cX2_doSteps 21 = .ok (.istore 5, 2) := by decide +kernel
theorem dX2_doSteps_23 : decode cX2_doSteps 23 = .ok (.iconst 0, 1) := by decide +kernel
theorem dX2_doSteps_24 : decode cX2_doSteps 24 = .ok (.istore 6, 2) := by decide +kernel
theorem dX2_doSteps_26 : decode cX2_doSteps 26 = .ok (.iload 6, 2) := by decide +kernel
theorem dX2_doSteps_28 : decode cX2_doSteps 28 = .ok (.iload 5, 2) := by decide +kernel
theorem dX2_doSteps_30 : decode cX2_doSteps 30 = .ok (.if_icmp .ge 22, 3) := by decide +kernel
theorem dX2_doSteps_33 : decode cX2_doSteps 33 = .ok (.aload_n 0, 1) := by decide +kernel
theorem dX2_doSteps_34 : decode cX2_doSteps 34 = .ok (.aload 4, 2) := by decide +kernel
theorem dX2_doSteps_36 : decode cX2_doSteps 36 = .ok (.getfield 35, 3) := by decide +kernel
theorem dX2_doSteps_39 : decode cX2_doSteps 39 = .ok (.aload_n 2, 1) := by decide +kernel
theorem dX2_doSteps_40 : decode cX2_doSteps 40 = .ok (.iload_n 3, 1) := by decide +kernel
theorem dX2_doSteps_41 : decode cX2_doSteps 41 = .ok (.iconst 1, 1) := by decide +kernel
theorem dX2_doSteps_42 : decode cX2_doSteps 42 = .ok (.iadd, 1) := by decide +kernel
theorem dX2_doSteps_43 : decode cX2_doSteps 43 = .ok (.invokestatic 41, 3) := by decide +kernel
theorem dX2_doSteps_46 : decode cX2_doSteps 46 = .ok (.iinc 6 1, 3) := by decide +kernel
theorem dX2_doSteps_49 : decode cX2_doSteps 49 = .ok (.goto (-23), 3) := by decide +kernel
theorem dX2_doSteps_52 : decode cX2_doSteps 52 = .ok (.aload_n 0, 1) := by decide +kernel
theorem dX2_doSteps_53 : decode cX2_doSteps 53 = .ok (.aload 4, 2) := by decide +kernel
theorem dX2_doSteps_55 : decode cX2_doSteps 55 = .ok (.aload_n 2, 1) := by decide +kernel
theorem dX2_doSteps_56 : decode cX2_doSteps 56 = .ok (.invokevirtual 45, 3) := by decide +kernel
theorem dX2_doSteps_59 : decode cX2_doSteps 59 = .ok (.aload 4, 2) := by decide +kernel
theorem dX2_doSteps_61 : decode cX2_doSteps 61 = .ok (.getfield 49, 3) := by decide +kernel
theorem dX2_doSteps_64 : decode cX2_doSteps 64 = .ok (.astore 4, 2) := by decide +kernel
theorem dX2_doSteps_66 : decode cX2_doSteps 66 = .ok (.goto (-56), 3) := by decide +kernel
theorem dX2_doSteps_69 : decode cX2_doSteps 69 = .ok (.return_, 1) := by decide +kernel
theorem dX2_timesOf_0 : decode cX2_timesOf 0 = .ok (.aload_n 1, 1) := by decide +kernel
theorem dX2_timesOf_1 : decode cX2_timesOf 1 = .ok (.getfield 35, 3) := by decide +kernel
theorem dX2_timesOf_4 : decode cX2_timesOf 4 = .ok (.ifnonnull 5, 3) := by decide +kernel
theorem dX2_timesOf_7 : decode cX2_timesOf 7 = .ok (.iconst 0, 1) := by decide +kernel
theorem dX2_timesOf_8 : decode cX2_timesOf 8 = .ok (.ireturn, 1) := by decide +kernel
theorem dX2_timesOf_9 : decode cX2_timesOf 9 = .ok (.aload_n 1, 1) := by decide +kernel
theorem dX2_timesOf_10 : decode cX2_timesOf 10 = .ok (.getfield 52, 3) := by decide +kernel
theorem dX2_timesOf_13 : decode cX2_timesOf 13 = .ok (.tableswitch 113 105 112 #[62, 84, 113, 113, 113, 47, 52, 111], 47) := by decide +kernel
theorem dX2_timesOf_60 : decode cX2_timesOf 60 = .ok (.aload_n 1, 1) := by decide +kernel
theorem dX2_timesOf_61 : decode cX2_timesOf 61 = .ok (.getfield 56, 3) := by decide +kernel
theorem dX2_timesOf_64 : decode cX2_timesOf 64 = .ok (.ireturn, 1) := by decide +kernel
theorem dX2_timesOf_65 : decode cX2_timesOf 65 = .ok (.aload_n 0, 1) := by decide +kernel
theorem dX2_timesOf_66 : decode cX2_timesOf 66 = .ok (.getfield 9, 3) := by decide +kernel
theorem dX2_timesOf_69 : decode cX2_timesOf 69 = .ok (.aload_n 1, 1) := by decide +kernel
theorem dX2_timesOf_70 : decode cX2_timesOf 70 = .ok (.getfield 56, 3) := by decide +kernel
theorem dX2_timesOf_73 : decode cX2_timesOf 73 = .ok (.iaload, 1) := by decide +kernel
theorem dX2_timesOf_74 : decode cX2_timesOf 74 = .ok (.ireturn, 1) := by decide +kernel
theorem dX2_timesOf_75 : decode cX2_timesOf 75 = .ok (.aload_n 0, 1) := by decide +kernel
theorem dX2_timesOf_76 : decode cX2_timesOf 76 = .ok (.getfield 9, 3) := by decide +kernel
theorem dX2_timesOf_79 : decode cX2_timesOf 79 = .ok (.aload_n 1, 1) := by decide +kernel
theorem dX2_timesOf_80 : decode cX2_timesOf 80 = .ok (.getfield 56, 3) := by decide +kernel
theorem dX2_timesOf_83 : decode cX2_timesOf 83 = .ok (.iaload, 1) := by decide +kernel
theorem dX2_timesOf_84 : decode cX2_timesOf 84 = .ok (.aload_n 1, 1) := by decide +kernel
theorem dX2_timesOf_85 : decode cX2_timesOf 85 = .ok (.getfield 59, 3) := by decide +kernel
theorem dX2_timesOf_88 : decode cX2_timesOf 88 = .ok (.if_icmp .le 7, 3) := by decide +kernel
theorem dX2_timesOf_91 : decode cX2_timesOf 91 = .ok (.iconst 1, 1) := by decide +kernel
theorem dX2_timesOf_92 : decode cX2_timesOf 92 = .ok (.goto 4, 3) := by decide +kernel
theorem dX2_timesOf_95 : decode cX2_timesOf 95 = .ok (.iconst 0, 1) := by decide +kernel
theorem dX2_timesOf_96 : decode cX2_timesOf 96 = .ok (.ireturn, 1) := by decide +kernel
theorem dX2_timesOf_97 : decode cX2_timesOf 97 = .ok (.aload_n 0, 1) := by decide +kernel
theorem dX2_timesOf_98 : decode cX2_timesOf 98 = .ok (.getfield 9, 3) := by decide +kernel
theorem dX2_timesOf_101 : decode cX2_timesOf 101 = .ok (.aload_n 1, 1) := by decide +kernel
theorem dX2_timesOf_102 : decode cX2_timesOf 102 = .ok (.getfield 56, 3) := by decide +kernel
theorem dX2_timesOf_105 : decode cX2_timesOf 105 = .ok (.iaload, 1) := by decide +kernel
theorem dX2_timesOf_106 : decode cX2_timesOf 106 = .ok (.aload_n 0, 1) := by decide +kernel
theorem dX2_timesOf_107 : decode cX2_timesOf 107 = .ok (.getfield 9, 3) := by decide +kernel
theorem dX2_timesOf_110 : decode cX2_timesOf 110 = .ok (.aload_n 1, 1) := by decide +kernel
theorem dX2_timesOf_111 : decode cX2_timesOf 111 = .ok (.getfield 59, 3) := by decide +kernel
theorem dX2_timesOf_114 : decode cX2_timesOf 114 = .ok (.iaload, 1) := by decide +kernel
theorem dX2_timesOf_115 : decode cX2_timesOf 115 = .ok (.if_icmp .le 7, 3) := by decide +kernel
theorem dX2_timesOf_118 : decode cX2_timesOf 118 = .ok (.iconst 1, 1) := by decide +kernel
theorem dX2_timesOf_119 : decode cX2_timesOf 119 = .ok (.goto 4, 3) := by decide +kernel
theorem dX2_timesOf_122 : decode cX2_timesOf 122 = .ok (.iconst 0, 1) := by decide +kernel
theorem dX2_timesOf_123 : decode cX2_timesOf 123 = .ok (.ireturn, 1) := by decide +kernel
theorem dX2_timesOf_124 : decode cX2_timesOf 124 = .ok (.iconst 1, 1) := by decide +kernel
theorem dX2_timesOf_125 : decode cX2_timesOf 125 = .ok (.ireturn, 1) := by decide +kernel
theorem dX2_timesOf_126 : decode cX2_timesOf 126 = .ok (.iconst 0, 1) := by decide +kernel
theorem dX2_timesOf_127 : decode cX2_timesOf 127 = .ok (.ireturn, 1) := by decide +kernel
theorem dX2_doOne_0 : decode cX2_doOne 0 = .ok (.aload_n 1, 1) := by decide +kernel
theorem dX2_doOne_1 : decode cX2_doOne 1 = .ok (.getfield 52, 3) := by decide +kernel
theorem dX2_doOne_4 : decode cX2_doOne 4 = .ok (.tableswitch 273 97 120 #[153, 273, 273, 273, 273, 273, 131, 242, 273, 273, 273, 112, 273, 273, 273, 273, 273, 273, 184, 273, 142, 123, 214, 258], 112) := by decide +kernel
theorem dX2_doOne_116 : decode cX2_doOne 116 = .ok (.aload_n 0, 1) := by decide +kernel
theorem dX2_doOne_117 : decode cX2_doOne 117 = .ok (.aload_n 1, 1) := by decide +kernel
theorem dX2_doOne_118 : decode cX2_doOne 118 = .ok (.getfield 56, 3) := by decide +kernel
theorem dX2_doOne_121 : decode cX2_doOne 121 = .ok (.invokevirtual 62, 3) := by decide +kernel
theorem dX2_doOne_124 : decode cX2_doOne 124 = .ok (.goto 153, 3) := by decide +kernel
theorem dX2_doOne_127 : decode cX2_doOne 127 = .ok (.aload_n 0, 1) := by decide +kernel
theorem dX2_doOne_128 : decode cX2_doOne 128 = .ok (.aload_n 2, 1) := by decide +kernel
theorem dX2_doOne_129 : decode cX2_doOne 129 = .ok (.invokevirtual 66, 3) := by decide +kernel
theorem dX2_doOne_132 : decode cX2_doOne 132 = .ok (.goto 145, 3) := by decide +kernel
theorem dX2_doOne_135 : decode cX2_doOne 135 = .ok (.aload_n 0, 1) := by decide +kernel
theorem dX2_doOne_136 : decode cX2_doOne 136 = .ok (.aload_n 1, 1) := by decide +kernel
theorem dX2_doOne_137 : decode cX2_doOne 137 = .ok (.getfield 56, 3) := by decide +kernel
theorem dX2_doOne_140 : decode cX2_doOne 140 = .ok (.invokevirtual 70, 3) := by decide +kernel
theorem dX2_doOne_143 : decode cX2_doOne 143 = .ok (.goto 134, 3) := by decide +kernel
theorem dX2_doOne_146 : decode cX2_doOne 146 = .ok (.aload_n 0, 1) := by decide +kernel
theorem dX2_doOne_147 : decode cX2_doOne 147 = .ok (.aload_n 1, 1) := by decide +kernel
theorem dX2_doOne_148 : decode cX2_doOne 148 = .ok (.getfield 56, 3) := by decide +kernel
theorem dX2_doOne_151 : decode cX2_doOne 151 = .ok (.invokevirtual 73, 3) := by decide +kernel
theorem dX2_doOne_154 : decode cX2_doOne 154 = .ok (.goto 123, 3) := by decide +kernel
theorem dX2_doOne_157 : decode cX2_doOne 157 = .ok (.aload_n 0, 1) := by decide +kernel
theorem dX2_doOne_158 : decode cX2_doOne 158 = .ok (.getfield 9, 3) := by decide +kernel
theorem dX2_doOne_161 : decode cX2_doOne 161 = .ok (.aload_n 1, 1) := by decide +kernel
theorem dX2_doOne_162 : decode cX2_doOne 162 = .ok (.getfield 56, 3) := by decide +kernel
theorem dX2_doOne_165 : decode cX2_doOne 165 = .ok (.bipush 8, 2) := by decide +kernel
theorem dX2_doOne_167 : decode cX2_doOne 167 = .ok (.aload_n 0, 1) := by decide +kernel
theorem dX2_doOne_168 : decode cX2_doOne 168 = .ok (.getfield 9, 3) := by decide +kernel
theorem dX2_doOne_171 : decode cX2_doOne 171 = .ok (.aload_n 1, 1) := by decide +kernel
theorem dX2_doOne_172 : decode cX2_doOne 172 = .ok (.getfield 56, 3) := by decide +kernel
theorem dX2_doOne_175 : decode cX2_doOne 175 = .ok (.iaload, 1) := by decide +kernel
theorem dX2_doOne_176 : decode cX2_doOne 176 = .ok (.aload_n 1, 1) := by decide +kernel
theorem dX2_doOne_177 : decode cX2_doOne 177 = .ok (.getfield 59, 3) := by decide +kernel
theorem dX2_doOne_180 : decode cX2_doOne 180 = .ok (.iadd, 1) := by decide +kernel
theorem dX2_doOne_181 : decode cX2_doOne 181 = .ok (.invokestatic 26, 3) := by decide +kernel
theorem dX2_doOne_184 : decode cX2_doOne 184 = .ok (.iastore, 1) := by decide +kernel
theorem dX2_doOne_185 : decode cX2_doOne 185 = .ok (.goto 92, 3) := by decide +kernel
theorem dX2_doOne_188 : decode cX2_doOne 188 = .ok (.aload_n 0, 1) := by decide +kernel
theorem dX2_doOne_189 : decode cX2_doOne 189 = .ok (.getfield 9, 3) := by decide +kernel
theorem dX2_doOne_192 : decode cX2_doOne 192 = .ok (.aload_n 1, 1) := by decide +kernel
theorem dX2_doOne_193 : decode cX2_doOne 193 = .ok (.getfield 56, 3) := by decide +kernel
theorem dX2_doOne_196 : decode cX2_doOne 196 = .ok (.iconst 0, 1) := by decide +kernel
theorem dX2_doOne_197 : decode cX2_doOne 197 = .ok (.aload_n 0, 1) := by decide +kernel
theorem dX2_doOne_198 : decode cX2_doOne 198 = .ok (.getfield 9, 3) := by decide +kernel
theorem dX2_doOne_201 : decode cX2_doOne 201 = .ok (.aload_n 1, 1) := by decide +kernel
theorem dX2_doOne_202 : decode cX2_doOne 202 = .ok (.getfield 56, 3) := by decide +kernel
theorem dX2_doOne_205 : decode cX2_doOne 205 = .ok (.iaload, 1) := by decide +kernel
theorem dX2_doOne_206 : decode cX2_doOne 206 = .ok (.aload_n 1, 1) := by decide +kernel
theorem dX2_doOne_207 : decode cX2_doOne 207 = .ok (.getfield 59, 3) := by decide +kernel
theorem dX2_doOne_210 : decode cX2_doOne 210 = .ok (.isub, 1) := by decide +kernel
theorem dX2_doOne_211 : decode cX2_doOne 211 = .ok (.invokestatic 76, 3) := by decide +kernel
theorem dX2_doOne_214 : decode cX2_doOne 214 = .ok (.iastore, 1) := by decide +kernel
theorem dX2_doOne_215 : decode cX2_doOne 215 = .ok (.goto 62, 3) := by decide +kernel
theorem dX2_doOne_218 : decode cX2_doOne 218 = .ok (.aload_n 0, 1) := by decide +kernel
theorem dX2_doOne_219 : decode cX2_doOne 219 = .ok (.getfield 9, 3) := by decide +kernel
theorem dX2_doOne_222 : decode cX2_doOne 222 = .ok (.aload_n 1, 1) := by decide +kernel
theorem dX2_doOne_223 : decode cX2_doOne 223 = .ok (.getfield 56, 3) := by decide +kernel
theorem dX2_doOne_226 : decode cX2_doOne 226 = .ok (.aload_n 0, 1) := by decide +kernel
theorem dX2_doOne_227 : decode cX2_doOne 227 = .ok (.getfield 9, 3) := by decide +kernel
theorem dX2_doOne_230 : decode cX2_doOne 230 = .ok (.aload_n 1, 1) := by decide +kernel
theorem dX2_doOne_231 : decode cX2_doOne 231 = .ok (.getfield 56, 3) := by decide +kernel
theorem dX2_doOne_234 : decode cX2_doOne 234 = .ok (.iaload, 1) := by decide +kernel
theorem dX2_doOne_235 : decode cX2_doOne 235 = .ok (.aload_n 1, 1) := by decide +kernel
theorem dX2_doOne_236 : decode cX2_doOne 236 = .ok (.getfield 59, 3) := by decide +kernel
theorem dX2_doOne_239 : decode cX2_doOne 239 = .ok (.invokestatic 26, 3) := by decide +kernel
theorem dX2_doOne_242 : decode cX2_doOne 242 = .ok (.iastore, 1) := by decide +kernel
theorem dX2_doOne_243 : decode cX2_doOne 243 = .ok (.goto 34, 3) := by decide +kernel
theorem dX2_doOne_246 : decode cX2_doOne 246 = .ok (.aload_n 0, 1) := by decide +kernel
theorem dX2_doOne_247 : decode cX2_doOne 247 = .ok (.getfield 9, 3) := by decide +kernel
theorem dX2_doOne_250 : decode cX2_doOne 250 = .ok (.aload_n 1, 1) := by decide +kernel
theorem dX2_doOne_251 : decode cX2_doOne 251 = .ok (.getfield 56, 3) := by decide +kernel
theorem dX2_doOne_254 : decode cX2_doOne 254 = .ok (.dup2, 1) := by decide +kernel
theorem dX2_doOne_255 : decode cX2_doOne 255 = .ok (.iaload, 1) := by decide +kernel
theorem dX2_doOne_256 : decode cX2_doOne 256 = .ok (.iconst 2, 1) := by decide +kernel
theorem dX2_doOne_257 : decode cX2_doOne 257 = .ok (.idiv, 1) := by decide +kernel
theorem dX2_doOne_258 : decode cX2_doOne 258 = .ok (.iastore, 1) := by decide +kernel
theorem dX2_doOne_259 : decode cX2_doOne 259 = .ok (.goto 18, 3) := by decide +kernel
theorem dX2_doOne_262 : decode cX2_doOne 262 = .ok (.aload_n 0, 1) := by decide +kernel
theorem dX2_doOne_263 : decode cX2_doOne 263 = .ok (.aload_n 1, 1) := by decide +kernel
theorem dX2_doOne_264 : decode cX2_doOne 264 = .ok (.getfield 56, 3) := by decide +kernel
theorem dX2_doOne_267 : decode cX2_doOne 267 = .ok (.aload_n 1, 1) := by decide +kernel
theorem dX2_doOne_268 : decode cX2_doOne 268 = .ok (.getfield 59, 3) := by decide +kernel
theorem dX2_doOne_271 : decode cX2_doOne 271 = .ok (.invokevirtual 79, 3) := by decide +kernel
theorem dX2_doOne_274 : decode cX2_doOne 274 = .ok (.goto 3, 3) := by decide +kernel
theorem dX2_doOne_277 : decode cX2_doOne 277 = .ok (.return_, 1) := by decide +kernel
theorem dX2_exchange_0 : decode cX2_exchange 0 = .ok (.aload_n 0, 1) := by decide +kernel
theorem dX2_exchange_1 : decode cX2_exchange 1 = .ok (.getfield 9, 3) := by decide +kernel
theorem dX2_exchange_4 : decode cX2_exchange 4 = .ok (.iload_n 1, 1) := by decide +kernel
theorem dX2_exchange_5 : decode cX2_exchange 5 = .ok (.iaload, 1) := by decide +kernel
theorem dX2_exchange_6 : decode cX2_exchange 6 = .ok (.istore_n 3, 1) := by decide +kernel
theorem dX2_exchange_7 : decode cX2_exchange 7 = .ok (.aload_n 0, 1) := by decide +kernel
theorem dX2_exchange_8 : decode cX2_exchange 8 = .ok (.getfield 9, 3) := by decide +kernel
theorem dX2_exchange_11 : decode cX2_exchange 11 = .ok (.iload_n 1, 1) := by decide +kernel
theorem dX2_exchange_12 : decode cX2_exchange 12 = .ok (.aload_n 0, 1) := by decide +kernel
theorem dX2_exchange_13 : decode cX2_exchange 13 = .ok (.getfield 9, 3) := by decide +kernel
theorem dX2_exchange_16 : decode cX2_exchange 16 = .ok (.iload_n 2, 1) := by decide +kernel
theorem dX2_exchange_17 : decode cX2_exchange 17 = .ok (.iaload, 1) := by decide +kernel
theorem dX2_exchange_18 : decode cX2_exchange 18 = .ok (.iastore, 1) := by decide +kernel
theorem dX2_exchange_19 : decode cX2_exchange 19 = .ok (.aload_n 0, 1) := by decide +kernel
theorem dX2_exchange_20 : decode cX2_exchange 20 = .ok (.getfield 9, 3) := by decide +kernel
theorem dX2_exchange_23 : decode cX2_exchange 23 = .ok (.iload_n 2, 1) := by decide +kernel
theorem dX2_exchange_24 : decode cX2_exchange 24 = .ok (.iload_n 3, 1) := by decide +kernel
theorem dX2_exchange_25 : decode cX2_exchange 25 = .ok (.iastore, 1) := by decide +kernel
theorem dX2_exchange_26 : decode cX2_exchange 26 = .ok (.return_, 1) := by decide +kernel
theorem dX2_bend_0 : decode cX2_bend 0 = .ok (.iconst 0, 1) := by decide +kernel
theorem dX2_bend_1 : decode cX2_bend 1 = .ok (.istore_n 2, 1) := by decide +kernel
theorem dX2_bend_2 : decode cX2_bend 2 = .ok (.iload_n 2, 1) := by decide +kernel
theorem dX2_bend_3 : decode cX2_bend 3 = .ok (.iconst 4, 1) := by decide +kernel
theorem dX2_bend_4 : decode cX2_bend 4 = .ok (.if_icmp .ge 28, 3) := by decide +kernel
theorem dX2_bend_7 : decode cX2_bend 7 = .ok (.aload_n 0, 1) := by decide +kernel
theorem dX2_bend_8 : decode cX2_bend 8 = .ok (.getfield 9, 3) := by decide +kernel
theorem dX2_bend_11 : decode cX2_bend 11 = .ok (.iload_n 2, 1) := by decide +kernel
theorem dX2_bend_12 : decode cX2_bend 12 = .ok (.aload_n 1, 1) := by decide +kernel
theorem dX2_bend_13 : decode cX2_bend 13 = .ok (.iload_n 2, 1) := by decide +kernel
theorem dX2_bend_14 : decode cX2_bend 14 = .ok (.bipush 9, 2) := by decide +kernel
theorem dX2_bend_16 : decode cX2_bend 16 = .ok (.imul, 1) := by decide +kernel
theorem dX2_bend_17 : decode cX2_bend 17 = .ok (.aload_n 0, 1) := by decide +kernel
theorem dX2_bend_18 : decode cX2_bend 18 = .ok (.getfield 9, 3) := by decide +kernel
theorem dX2_bend_21 : decode cX2_bend 21 = .ok (.iload_n 2, 1) := by decide +kernel
theorem dX2_bend_22 : decode cX2_bend 22 = .ok (.iaload, 1) := by decide +kernel
theorem dX2_bend_23 : decode cX2_bend 23 = .ok (.iadd, 1) := by decide +kernel
theorem dX2_bend_24 : decode cX2_bend 24 = .ok (.iaload, 1) := by decide +kernel
theorem dX2_bend_25 : decode cX2_bend 25 = .ok (.iastore, 1) := by decide +kernel
theorem dX2_bend_26 : decode cX2_bend 26 = .ok (.iinc 2 1, 3) := by decide +kernel
theorem dX2_bend_29 : decode cX2_bend 29 = .ok (.goto (-27), 3) := by decide +kernel
theorem dX2_bend_32 : decode cX2_bend 32 = .ok (.return_, 1) := by decide +kernel
theorem dX2_greyToBlack_0 : decode cX2_greyToBlack 0 = .ok (.aload_n 0, 1) := by decide +kernel
theorem dX2_greyToBlack_1 : decode cX2_greyToBlack 1 = .ok (.getfield 9, 3) := by decide +kernel
theorem dX2_greyToBlack_4 : decode cX2_greyToBlack 4 = .ok (.iconst 0, 1) := by decide +kernel
theorem dX2_greyToBlack_5 : decode cX2_greyToBlack 5 = .ok (.iaload, 1) := by decide +kernel
theorem dX2_greyToBlack_6 : decode cX2_greyToBlack 6 = .ok (.aload_n 0, 1) := by decide +kernel
theorem dX2_greyToBlack_7 : decode cX2_greyToBlack 7 = .ok (.getfield 9, 3) := by decide +kernel
theorem dX2_greyToBlack_10 : decode cX2_greyToBlack 10 = .ok (.iconst 1, 1) := by decide +kernel
theorem dX2_greyToBlack_11 : decode cX2_greyToBlack 11 = .ok (.iaload, 1) := by decide +kernel
theorem dX2_greyToBlack_12 : decode cX2_greyToBlack 12 = .ok (.aload_n 0, 1) := by decide +kernel
theorem dX2_greyToBlack_13 : decode cX2_greyToBlack 13 = .ok (.getfield 9, 3) := by decide +kernel
theorem dX2_greyToBlack_16 : decode cX2_greyToBlack 16 = .ok (.iconst 2, 1) := by decide +kernel
theorem dX2_greyToBlack_17 : decode cX2_greyToBlack 17 = .ok (.iaload, 1) := by decide +kernel
theorem dX2_greyToBlack_18 : decode cX2_greyToBlack 18 = .ok (.invokestatic 26, 3) := by decide +kernel
theorem dX2_greyToBlack_21 : decode cX2_greyToBlack 21 = .ok (.invokestatic 26, 3) := by decide +kernel
theorem dX2_greyToBlack_24 : decode cX2_greyToBlack 24 = .ok (.istore_n 2, 1) := by decide +kernel
theorem dX2_greyToBlack_25 : decode cX2_greyToBlack 25 = .ok (.aload_n 0, 1) := by decide +kernel
theorem dX2_greyToBlack_26 : decode cX2_greyToBlack 26 = .ok (.iload_n 2, 1) := by decide +kernel
theorem dX2_greyToBlack_27 : decode cX2_greyToBlack 27 = .ok (.iload_n 1, 1) := by decide +kernel
theorem dX2_greyToBlack_28 : decode cX2_greyToBlack 28 = .ok (.imul, 1) := by decide +kernel
theorem dX2_greyToBlack_29 : decode cX2_greyToBlack 29 = .ok (.iconst 4, 1) := by decide +kernel
theorem dX2_greyToBlack_30 : decode cX2_greyToBlack 30 = .ok (.idiv, 1) := by decide +kernel
theorem dX2_greyToBlack_31 : decode cX2_greyToBlack 31 = .ok (.bipush 8, 2) := by decide +kernel
theorem dX2_greyToBlack_33 : decode cX2_greyToBlack 33 = .ok (.aload_n 0, 1) := by decide +kernel
theorem dX2_greyToBlack_34 : decode cX2_greyToBlack 34 = .ok (.getfield 9, 3) := by decide +kernel
theorem dX2_greyToBlack_37 : decode cX2_greyToBlack 37 = .ok (.iconst 3, 1) := by decide +kernel
theorem dX2_greyToBlack_38 : decode cX2_greyToBlack 38 = .ok (.iaload, 1) := by decide +kernel
theorem dX2_greyToBlack_39 : decode cX2_greyToBlack 39 = .ok (.isub, 1) := by decide +kernel
theorem dX2_greyToBlack_40 : decode cX2_greyToBlack 40 = .ok (.invokestatic 26, 3) := by decide +kernel
theorem dX2_greyToBlack_43 : decode cX2_greyToBlack 43 = .ok (.invokevirtual 83, 3) := by decide +kernel
theorem dX2_greyToBlack_46 : decode cX2_greyToBlack 46 = .ok (.return_, 1) := by decide +kernel
theorem dX2_blackToGrey_0 : decode cX2_blackToGrey 0 = .ok (.aload_n 0, 1) := by decide +kernel
theorem dX2_blackToGrey_1 : decode cX2_blackToGrey 1 = .ok (.getfield 9, 3) := by decide +kernel
theorem dX2_blackToGrey_4 : decode cX2_blackToGrey 4 = .ok (.iconst 0, 1) := by decide +kernel
theorem dX2_blackToGrey_5 : decode cX2_blackToGrey 5 = .ok (.iaload, 1) := by decide +kernel
theorem dX2_blackToGrey_6 : decode cX2_blackToGrey 6 = .ok (.aload_n 0, 1) := by decide +kernel
theorem dX2_blackToGrey_7 : decode cX2_blackToGrey 7 = .ok (.getfield 9, 3) := by decide +kernel
theorem dX2_blackToGrey_10 : decode cX2_blackToGrey 10 = .ok (.iconst 1, 1) := by decide +kernel
theorem dX2_blackToGrey_11 : decode cX2_blackToGrey 11 = .ok (.iaload, 1) := by decide +kernel
theorem dX2_blackToGrey_12 : decode cX2_blackToGrey 12 = .ok (.aload_n 0, 1) := by decide +kernel
theorem dX2_blackToGrey_13 : decode cX2_blackToGrey 13 = .ok (.getfield 9, 3) := by decide +kernel
theorem dX2_blackToGrey_16 : decode cX2_blackToGrey 16 = .ok (.iconst 2, 1) := by decide +kernel
theorem dX2_blackToGrey_17 : decode cX2_blackToGrey 17 = .ok (.iaload, 1) := by decide +kernel
theorem dX2_blackToGrey_18 : decode cX2_blackToGrey 18 = .ok (.invokestatic 76, 3) := by decide +kernel
theorem dX2_blackToGrey_21 : decode cX2_blackToGrey 21 = .ok (.invokestatic 76, 3) := by decide +kernel
theorem dX2_blackToGrey_24 : decode cX2_blackToGrey 24 = .ok (.istore_n 2, 1) := by decide +kernel
theorem dX2_blackToGrey_25 : decode cX2_blackToGrey 25 = .ok (.aload_n 0, 1) := by decide +kernel
theorem dX2_blackToGrey_26 : decode cX2_blackToGrey 26 = .ok (.iload_n 1, 1) := by decide +kernel
theorem dX2_blackToGrey_27 : decode cX2_blackToGrey 27 = .ok (.aload_n 0, 1) := by decide +kernel
theorem dX2_blackToGrey_28 : decode cX2_blackToGrey 28 = .ok (.getfield 9, 3) := by decide +kernel
theorem dX2_blackToGrey_31 : decode cX2_blackToGrey 31 = .ok (.iconst 3, 1) := by decide +kernel
theorem dX2_blackToGrey_32 : decode cX2_blackToGrey 32 = .ok (.iaload, 1) := by decide +kernel
theorem dX2_blackToGrey_33 : decode cX2_blackToGrey 33 = .ok (.bipush 8, 2) := by decide +kernel
theorem dX2_blackToGrey_35 : decode cX2_blackToGrey 35 = .ok (.iload_n 2, 1) := by decide +kernel
theorem dX2_blackToGrey_36 : decode cX2_blackToGrey 36 = .ok (.isub, 1) := by decide +kernel
theorem dX2_blackToGrey_37 : decode cX2_blackToGrey 37 = .ok (.invokestatic 26, 3) := by decide +kernel
theorem dX2_blackToGrey_40 : decode cX2_blackToGrey 40 = .ok (.invokestatic 26, 3) := by decide +kernel
theorem dX2_blackToGrey_43 : decode cX2_blackToGrey 43 = .ok (.ineg, 1) := by decide +kernel
theorem dX2_blackToGrey_44 : decode cX2_blackToGrey 44 = .ok (.invokevirtual 83, 3) := by decide +kernel
theorem dX2_blackToGrey_47 : decode cX2_blackToGrey 47 = .ok (.return_, 1) := by decide +kernel
theorem dX2_move_0 : decode cX2_move 0 = .ok (.iconst 0, 1) := by decide +kernel
theorem dX2_move_1 : decode cX2_move 1 = .ok (.istore_n 2, 1) := by decide +kernel
theorem dX2_move_2 : decode cX2_move 2 = .ok (.iload_n 2, 1) := by decide +kernel
theorem dX2_move_3 : decode cX2_move 3 = .ok (.iconst 3, 1) := by decide +kernel
theorem dX2_move_4 : decode cX2_move 4 = .ok (.if_icmp .ge 19, 3) := by decide +kernel
theorem dX2_move_7 : decode cX2_move 7 = .ok (.aload_n 0, 1) := by decide +kernel
theorem dX2_move_8 : decode cX2_move 8 = .ok (.getfield 9, 3) := by decide +kernel
theorem dX2_move_11 : decode cX2_move 11 = .ok (.iload_n 2, 1) := by decide +kernel
theorem dX2_move_12 : decode cX2_move 12 = .ok (.dup2, 1) := by decide +kernel
theorem dX2_move_13 : decode cX2_move 13 = .ok (.iaload, 1) := by decide +kernel
theorem dX2_move_14 : decode cX2_move 14 = .ok (.iload_n 1, 1) := by decide +kernel
theorem dX2_move_15 : decode cX2_move 15 = .ok (.isub, 1) := by decide +kernel
theorem dX2_move_16 : decode cX2_move 16 = .ok (.iastore, 1) := by decide +kernel
theorem dX2_move_17 : decode cX2_move 17 = .ok (.iinc 2 1, 3) := by decide +kernel
theorem dX2_move_20 : decode cX2_move 20 = .ok (.goto (-18), 3) := by decide +kernel
theorem dX2_move_23 : decode cX2_move 23 = .ok (.aload_n 0, 1) := by decide +kernel
theorem dX2_move_24 : decode cX2_move 24 = .ok (.getfield 9, 3) := by decide +kernel
theorem dX2_move_27 : decode cX2_move 27 = .ok (.iconst 3, 1) := by decide +kernel
theorem dX2_move_28 : decode cX2_move 28 = .ok (.dup2, 1) := by decide +kernel
theorem dX2_move_29 : decode cX2_move 29 = .ok (.iaload, 1) := by decide +kernel
theorem dX2_move_30 : decode cX2_move 30 = .ok (.iload_n 1, 1) := by decide +kernel
theorem dX2_move_31 : decode cX2_move 31 = .ok (.iadd, 1) := by decide +kernel
theorem dX2_move_32 : decode cX2_move 32 = .ok (.iastore, 1) := by decide +kernel
theorem dX2_move_33 : decode cX2_move 33 = .ok (.return_, 1) := by decide +kernel
theorem dX3_init_0 : decode cX3_init 0 = .ok (.aload_n 0, 1) := by decide +kernel
theorem dX3_init_1 : decode cX3_init 1 = .ok (.invokespecial 3, 3) := by decide +kernel
theorem dX3_init_4 : decode cX3_init 4 = .ok (.aload_n 0, 1) := by decide +kernel
theorem dX3_init_5 : decode cX3_init 5 = .ok (.aload_n 1, 1) := by decide +kernel
theorem dX3_init_6 : decode cX3_init 6 = .ok (.putfield 9, 3) := by decide +kernel
theorem dX3_init_9 : decode cX3_init 9 = .ok (.aload_n 0, 1) := by decide +kernel
theorem dX3_init_10 : decode cX3_init 10 = .ok (.iload_n 2, 1) := by decide +kernel
theorem dX3_init_11 : decode cX3_init 11 = .ok (.putfield 15, 3) := by decide +kernel
theorem dX3_init_14 : decode cX3_init 14 = .ok (.aload_n 0, 1) := by decide +kernel
theorem dX3_init_15 : decode cX3_init 15 = .ok (.iload_n 3, 1) := by decide +kernel
theorem dX3_init_16 : decode cX3_init 16 = .ok (.putfield 19, 3) := by decide +kernel
theorem dX3_init_19 : decode cX3_init 19 = .ok (.return_, 1) := by decide +kernel
theorem dX3_read_0 : decode cX3_read 0 = .ok (.new 22, 3) := by decide +kernel
theorem dX3_read_3 : decode cX3_read 3 = .ok (.dup, 1) := by decide +kernel
theorem dX3_read_4 : decode cX3_read 4 = .ok (.bipush 110, 2) := by decide +kernel
theorem dX3_read_6 : decode cX3_read 6 = .ok (.iconst 1, 1) := by decide +kernel
theorem dX3_read_7 : decode cX3_read 7 = .ok (.iconst 0, 1) := by decide +kernel
theorem dX3_read_8 : decode cX3_read 8 = .ok (.invokespecial 24, 3) := by decide +kernel
theorem dX3_read_11 : decode cX3_read 11 = .ok (.astore_n 3, 1) := by decide +kernel
theorem dX3_read_12 : decode cX3_read 12 = .ok (.iconst 4, 1) := by decide +kernel
theorem dX3_read_13 : decode cX3_read 13 = .ok (.anewarray 22, 3) := by decide +kernel
theorem dX3_read_16 : decode cX3_read 16 = .ok (.astore 4, 2) := by decide +kernel
theorem dX3_read_18 : decode cX3_read 18 = .ok (.aload 4, 2) := by decide +kernel
theorem dX3_read_20 : decode cX3_read 20 = .ok (.iconst 0, 1) := by decide +kernel
theorem dX3_read_21 : decode cX3_read 21 = .ok (.aload_n 3, 1) := by decide +kernel
theorem dX3_read_22 : decode cX3_read 22 = .ok (.aastore, 1) := by decide +kernel
theorem dX3_read_23 : decode cX3_read 23 = .ok (.iconst 0, 1) := by decide +kernel
theorem dX3_read_24 : decode cX3_read 24 = .ok (.istore 5, 2) := by decide +kernel
theorem dX3_read_26 : decode cX3_read 26 = .ok (.iconst 0, 1) := by decide +kernel
theorem dX3_read_27 : decode cX3_read 27 = .ok (.istore 6, 2) := by decide +kernel
theorem dX3_read_29 : decode cX3_read 29 = .ok (.iload 6, 2) := by decide +kernel
theorem dX3_read_31 : decode cX3_read 31 = .ok (.aload_n 0, 1) := by decide +kernel
theorem dX3_read_32 : decode cX3_read 32 = .ok (.getfield 27, 3) := by decide +kernel
theorem dX3_read_35 : decode cX3_read 35 = .ok (.if_icmp .ge 125, 3) := by decide +kernel
theorem dX3_read_38 : decode cX3_read 38 = .ok (.aload_n 0, 1) := by decide +kernel
theorem dX3_read_39 : decode cX3_read 39 = .ok (.iload 6, 2) := by decide +kernel
theorem dX3_read_41 : decode cX3_read 41 = .ok (.invokevirtual 32, 3) := by decide +kernel
theorem dX3_read_44 : decode cX3_read 44 = .ok (.bipush 41, 2) := by decide +kernel
theorem dX3_read_46 : decode cX3_read 46 = .ok (.if_icmp .ne 16, 3) := by decide +kernel
theorem dX3_read_49 : decode cX3_read 49 = .ok (.iconst 0, 1) := by decide +kernel
theorem dX3_read_50 : decode cX3_read 50 = .ok (.iload 5, 2) := by decide +kernel
theorem dX3_read_52 : decode cX3_read 52 = .ok (.iconst 1, 1) := by decide +kernel
theorem dX3_read_53 : decode cX3_read 53 = .ok (.isub, 1) := by decide +kernel
theorem dX3_read_54 : decode cX3_read 54 = .ok (.invokestatic 36, 3) := by decide +kernel
theorem dX3_read_57 : decode cX3_read 57 = .ok (.istore 5, 2) := by decide +kernel
theorem dX3_read_59 : decode cX3_read 59 = .ok (.goto 95, 3) := by decide +kernel
theorem dX3_read_62 : decode cX3_read 62 = .ok (.aload_n 0, 1) := by decide +kernel
theorem dX3_read_63 : decode cX3_read 63 = .ok (.iload 6, 2) := by decide +kernel
theorem dX3_read_65 : decode cX3_read 65 = .ok (.invokevirtual 32, 3) := by decide +kernel
theorem dX3_read_68 : decode cX3_read 68 = .ok (.invokestatic 42, 3) := by decide +kernel
theorem dX3_read_71 : decode cX3_read 71 = .ok (.astore 7, 2) := by decide +kernel
theorem dX3_read_73 : decode cX3_read 73 = .ok (.aload_n 0, 1) := by decide +kernel
theorem dX3_read_74 : decode cX3_read 74 = .ok (.iload 6, 2) := by decide +kernel
theorem dX3_read_76 : decode cX3_read 76 = .ok (.aload_n 1, 1) := by decide +kernel
theorem dX3_read_77 : decode cX3_read 77 = .ok (.iload_n 2, 1) := by decide +kernel
theorem dX3_read_78 : decode cX3_read 78 = .ok (.invokestatic 46, 3) := by decide +kernel
theorem dX3_read_81 : decode cX3_read 81 = .ok (.astore 8, 2) := by decide +kernel
theorem dX3_read_83 : decode cX3_read 83 = .ok (.aload 8, 2) := by decide +kernel
theorem dX3_read_85 : decode cX3_read 85 = .ok (.getfield 50, 3) := by decide +kernel
theorem dX3_read_88 : decode cX3_read 88 = .ok (.bipush 112, 2) := by decide +kernel
theorem dX3_read_90 : decode cX3_read 90 = .ok (.if_icmp .ne 11, 3) := by decide +kernel
theorem dX3_read_93 : decode cX3_read 93 = .ok (.aload 8, 2) := by decide +kernel
theorem dX3_read_95 : decode cX3_read 95 = .ok (.getfield 53, 3) := by decide +kernel
theorem dX3_read_98 : decode cX3_read 98 = .ok (.ifnull 13, 3) := by decide +kernel
theorem dX3_read_101 : decode cX3_read 101 = .ok (.aload 4, 2) := by decide +kernel
theorem dX3_read_103 : decode cX3_read 103 = .ok (.iload 5, 2) := by decide +kernel
theorem dX3_read_105 : decode cX3_read 105 = .ok (.aaload, 1) := by decide +kernel
theorem dX3_read_106 : decode cX3_read 106 = .ok (.aload 8, 2) := by decide +kernel
theorem dX3_read_108 : decode cX3_read 108 = .ok (.invokevirtual 56, 3) := by decide +kernel
theorem dX3_read_111 : decode cX3_read 111 = .ok (.iload 6, 2) := by decide +kernel
theorem dX3_read_113 : decode cX3_read 113 = .ok (.iconst 0, 1) := by decide +kernel
theorem dX3_read_114 : decode cX3_read 114 = .ok (.aload 7, 2) := by decide +kernel
theorem dX3_read_116 : decode cX3_read 116 = .ok (.invokevirtual 60, 3) := by decide +kernel
theorem dX3_read_119 : decode cX3_read 119 = .ok (.iconst 1, 1) := by decide +kernel
theorem dX3_read_120 : decode cX3_read 120 = .ok (.isub, 1) := by decide +kernel
theorem dX3_read_121 : decode cX3_read 121 = .ok (.invokestatic 36, 3) := by decide +kernel
theorem dX3_read_124 : decode cX3_read 124 = .ok (.iadd, 1) := by decide +kernel
theorem dX3_read_125 : decode cX3_read 125 = .ok (.istore 6, 2) := by decide +kernel
theorem dX3_read_127 : decode cX3_read 127 = .ok (.aload_n 0, 1) := by decide +kernel
theorem dX3_read_128 : decode cX3_read 128 = .ok (.iload 6, 2) := by decide +kernel
theorem dX3_read_130 : decode cX3_read 130 = .ok (.invokevirtual 32, 3) := by decide +kernel
theorem dX3_read_133 : decode cX3_read 133 = .ok (.bipush 40, 2) := by decide +kernel
theorem dX3_read_135 : decode cX3_read 135 = .ok (.if_icmp .ne 19, 3) := by decide +kernel
theorem dX3_read_138 : decode cX3_read 138 = .ok (.iload 5, 2) := by decide +kernel
theorem dX3_read_140 : decode cX3_read 140 = .ok (.iconst 3, 1) := by decide +kernel
theorem dX3_read_141 : decode cX3_read 141 = .ok (.if_icmp .ge 13, 3) := by decide +kernel
theorem dX3_read_144 : decode cX3_read 144 = .ok (.iinc 5 1, 3) := by decide +kernel
theorem dX3_read_147 : decode cX3_read 147 = .ok (.aload 4, 2) := by decide +kernel
theorem dX3_read_149 : decode cX3_read 149 = .ok (.iload 5, 2) := by decide +kernel
theorem dX3_read_151 : decode cX3_read 151 = .ok (.aload 8, 2) := by decide +kernel
theorem dX3_read_153 : decode cX3_read 153 = .ok (.aastore, 1) := by decide +kernel
theorem dX3_read_154 : decode cX3_read 154 = .ok (.iinc 6 1, 3) := by decide +kernel
theorem dX3_read_157 : decode cX3_read 157 = .ok (.goto (-128), 3) := by decide +kernel
theorem dX3_read_160 : decode cX3_read 160 = .ok (.aload_n 0, 1) := by decide +kernel
theorem dX3_read_161 : decode cX3_read 161 = .ok (.bipush 112, 2) := by decide +kernel
theorem dX3_read_163 : decode cX3_read 163 = .ok (.invokevirtual 65, 3) := by decide +kernel
theorem dX3_read_166 : decode cX3_read 166 = .ok (.ifCond .eq 12, 3) := by decide +kernel
theorem dX3_read_169 : decode cX3_read 169 = .ok (.aload_n 1, 1) := by decide +kernel
theorem dX3_read_170 : decode cX3_read 170 = .ok (.getfield 19, 3) := by decide +kernel
theorem dX3_read_173 : decode cX3_read 173 = .ok (.iconst 1, 1) := by decide +kernel
theorem dX3_read_174 : decode cX3_read 174 = .ok (.iadd, 1) := by decide +kernel
theorem dX3_read_175 : decode cX3_read 175 = .ok (.goto 11, 3) := by decide +kernel
theorem dX3_read_178 : decode cX3_read 178 = .ok (.aload_n 0, 1) := by decide +kernel
theorem dX3_read_179 : decode cX3_read 179 = .ok (.getfield 27, 3) := by decide +kernel
theorem dX3_read_182 : decode cX3_read 182 = .ok (.iconst 1, 1) := by decide +kernel
theorem dX3_read_183 : decode cX3_read 183 = .ok (.invokestatic 69, 3) := by decide +kernel
theorem dX3_read_186 : decode cX3_read 186 = .ok (.istore 6, 2) := by decide +kernel
theorem dX3_read_188 : decode cX3_read 188 = .ok (.new 10, 3) := by decide +kernel
theorem dX3_read_191 : decode cX3_read 191 = .ok (.dup, 1) := by decide +kernel
theorem dX3_read_192 : decode cX3_read 192 = .ok (.aload_n 3, 1) := by decide +kernel
theorem dX3_read_193 : decode cX3_read 193 = .ok (.getfield 53, 3) := by decide +kernel
theorem dX3_read_196 : decode cX3_read 196 = .ok (.aload_n 3, 1) := by decide +kernel
theorem dX3_read_197 : decode cX3_read 197 = .ok (.getfield 53, 3) := by decide +kernel
theorem dX3_read_200 : decode cX3_read 200 = .ok (.iconst 0, 1) := by decide +kernel
theorem dX3_read_201 : decode cX3_read 201 = .ok (.invokestatic 72, 3) := by decide +kernel
theorem dX3_read_204 : decode cX3_read 204 = .ok (.iload 6, 2) := by decide +kernel
theorem dX3_read_206 : decode cX3_read 206 = .ok (.invokespecial 76, 3) := by decide +kernel
theorem dX3_read_209 : decode cX3_read 209 = .ok (.areturn, 1) := by decide +kernel
theorem dX3_readStep_0 : decode cX3_readStep 0 = .ok (.aload_n 0, 1) := by decide +kernel
theorem dX3_readStep_1 : decode cX3_readStep 1 = .ok (.iload_n 1, 1) := by decide +kernel
theorem dX3_readStep_2 : decode cX3_readStep 2 = .ok (.invokevirtual 32, 3) := by decide +kernel
theorem dX3_readStep_5 : decode cX3_readStep 5 = .ok (.istore 4, 2) := by decide +kernel
theorem dX3_readStep_7 : decode cX3_readStep 7 = .ok (.iload 4, 2) := by decide +kernel
theorem dX3_readStep_9 : decode cX3_readStep 9 = .ok (.bipush 108, 2) := by decide +kernel
theorem dX3_readStep_11 : decode cX3_readStep 11 = .ok (.if_icmp .ne 15, 3) := by decide +kernel
theorem dX3_readStep_14 : decode cX3_readStep 14 = .ok (.new 22, 3) := by decide +kernel
theorem dX3_readStep_17 : decode cX3_readStep 17 = .ok (.dup, 1) := by decide +kernel
theorem dX3_readStep_18 : decode cX3_readStep 18 = .ok (.iload 4, 2) := by decide +kernel
theorem dX3_readStep_20 : decode cX3_readStep 20 = .ok (.iload_n 3, 1) := by decide +kernel
theorem dX3_readStep_21 : decode cX3_readStep 21 = .ok (.iconst 0, 1) := by decide +kernel
theorem dX3_readStep_22 : decode cX3_readStep 22 = .ok (.invokespecial 24, 3) := by decide +kernel
theorem dX3_readStep_25 : decode cX3_readStep 25 = .ok (.areturn, 1) := by decide +kernel
theorem dX3_readStep_26 : decode cX3_readStep 26 = .ok (.iload 4, 2) := by decide +kernel
theorem dX3_readStep_28 : decode cX3_readStep 28 = .ok (.bipush 112, 2) := by decide +kernel
theorem dX3_readStep_30 : decode cX3_readStep 30 = .ok (.if_icmp .ne 31, 3) := by decide +kernel
theorem dX3_readStep_33 : decode cX3_readStep 33 = .ok (.new 22, 3) := by decide +kernel
theorem dX3_readStep_36 : decode cX3_readStep 36 = .ok (.dup, 1) := by decide +kernel
theorem dX3_readStep_37 : decode cX3_readStep 37 = .ok (.iload 4, 2) := by decide +kernel
theorem dX3_readStep_39 : decode cX3_readStep 39 = .ok (.aload_n 2, 1) := by decide +kernel
theorem dX3_readStep_40 : decode cX3_readStep 40 = .ok (.getfield 15, 3) := by decide +kernel
theorem dX3_readStep_43 : decode cX3_readStep 43 = .ok (.iconst 0, 1) := by decide +kernel
theorem dX3_readStep_44 : decode cX3_readStep 44 = .ok (.invokespecial 24, 3) := by decide +kernel
theorem dX3_readStep_47 : decode cX3_readStep 47 = .ok (.astore 5, 2) := by decide +kernel
theorem dX3_readStep_49 : decode cX3_readStep 49 = .ok (.aload 5, 2) := by decide +kernel
theorem dX3_readStep_51 : decode cX3_readStep 51 = .ok (.aload_n 2, 1) := by decide +kernel
theorem dX3_readStep_52 : decode cX3_readStep 52 = .ok (.getfield 9, 3) := by decide +kernel
theorem dX3_readStep_55 : decode cX3_readStep 55 = .ok (.putfield 53, 3) := by decide +kernel
theorem dX3_readStep_58 : decode cX3_readStep 58 = .ok (.aload 5, 2) := by decide +kernel
theorem dX3_readStep_60 : decode cX3_readStep 60 = .ok (.areturn, 1) := by decide +kernel
theorem dX3_readStep_61 : decode cX3_readStep 61 = .ok (.new 22, 3) := by decide +kernel
theorem dX3_readStep_64 : decode cX3_readStep 64 = .ok (.dup, 1) := by decide +kernel
theorem dX3_readStep_65 : decode cX3_readStep 65 = .ok (.iload 4, 2) := by decide +kernel
theorem dX3_readStep_67 : decode cX3_readStep 67 = .ok (.aload_n 0, 1) := by decide +kernel
theorem dX3_readStep_68 : decode cX3_readStep 68 = .ok (.iload_n 1, 1) := by decide +kernel
theorem dX3_readStep_69 : decode cX3_readStep 69 = .ok (.iconst 1, 1) := by decide +kernel
theorem dX3_readStep_70 : decode cX3_readStep 70 = .ok (.iadd, 1) := by decide +kernel
theorem dX3_readStep_71 : decode cX3_readStep 71 = .ok (.invokevirtual 79, 3) := by decide +kernel
theorem dX3_readStep_74 : decode cX3_readStep 74 = .ok (.aload_n 0, 1) := by decide +kernel
theorem dX3_readStep_75 : decode cX3_readStep 75 = .ok (.iload_n 1, 1) := by decide +kernel
theorem dX3_readStep_76 : decode cX3_readStep 76 = .ok (.iconst 2, 1) := by decide +kernel
theorem dX3_readStep_77 : decode cX3_readStep 77 = .ok (.iadd, 1) := by decide +kernel
theorem dX3_readStep_78 : decode cX3_readStep 78 = .ok (.invokevirtual 79, 3) := by decide +kernel
theorem dX3_readStep_81 : decode cX3_readStep 81 = .ok (.invokespecial 24, 3) := by decide +kernel
theorem dX3_readStep_84 : decode cX3_readStep 84 = .ok (.areturn, 1) := by decide +kernel
theorem dX4_init_0 : decode cX4_init 0 = .ok (.aload_n 0, 1) := by decide +kernel
theorem dX4_init_1 : decode cX4_init 1 = .ok (.invokespecial 3, 3) := by decide +kernel
theorem dX4_init_4 : decode cX4_init 4 = .ok (.aload_n 0, 1) := by decide +kernel
theorem dX4_init_5 : decode cX4_init 5 = .ok (.sipush 6561, 3) := by decide +kernel
theorem dX4_init_8 : decode cX4_init 8 = .ok (.newarray .int, 2) := by decide +kernel
theorem dX4_init_10 : decode cX4_init 10 = .ok (.putfield 9, 3) := by decide +kernel
theorem dX4_init_13 : decode cX4_init 13 = .ok (.aload_n 0, 1) := by decide +kernel
theorem dX4_init_14 : decode cX4_init 14 = .ok (.iconst (-1), 1) := by decide +kernel
theorem dX4_init_15 : decode cX4_init 15 = .ok (.putfield 15, 3) := by decide +kernel
theorem dX4_init_18 : decode cX4_init 18 = .ok (.aload_n 0, 1) := by decide +kernel
theorem dX4_init_19 : decode cX4_init 19 = .ok (.iconst (-1), 1) := by decide +kernel
theorem dX4_init_20 : decode cX4_init 20 = .ok (.putfield 19, 3) := by decide +kernel
theorem dX4_init_23 : decode cX4_init 23 = .ok (.aload_n 0, 1) := by decide +kernel
theorem dX4_init_24 : decode cX4_init 24 = .ok (.sipush 6561, 3) := by decide +kernel
theorem dX4_init_27 : decode cX4_init 27 = .ok (.newarray .int, 2) := by decide +kernel
theorem dX4_init_29 : decode cX4_init 29 = .ok (.putfield 22, 3) := by decide +kernel
theorem dX4_init_32 : decode cX4_init 32 = .ok (.return_, 1) := by decide +kernel
theorem dX4_follow_0 : decode cX4_follow 0 = .ok (.aload_n 0, 1) := by decide +kernel
theorem dX4_follow_1 : decode cX4_follow 1 = .ok (.getfield 15, 3) := by decide +kernel
theorem dX4_follow_4 : decode cX4_follow 4 = .ok (.aload_n 1, 1) := by decide +kernel
theorem dX4_follow_5 : decode cX4_follow 5 = .ok (.getfield 25, 3) := by decide +kernel
theorem dX4_follow_8 : decode cX4_follow 8 = .ok (.iconst 0, 1) := by decide +kernel
theorem dX4_follow_9 : decode cX4_follow 9 = .ok (.iaload, 1) := by decide +kernel
theorem dX4_follow_10 : decode cX4_follow 10 = .ok (.if_icmp .ne 17, 3) := by decide +kernel
theorem dX4_follow_13 : decode cX4_follow 13 = .ok (.aload_n 0, 1) := by decide +kernel
theorem dX4_follow_14 : decode cX4_follow 14 = .ok (.getfield 19, 3) := by decide +kernel
theorem dX4_follow_17 : decode cX4_follow 17 = .ok (.aload_n 1, 1) := by decide +kernel
theorem dX4_follow_18 : decode cX4_follow 18 = .ok (.getfield 25, 3) := by decide +kernel
theorem dX4_follow_21 : decode cX4_follow 21 = .ok (.iconst 3, 1) := by decide +kernel
theorem dX4_follow_22 : decode cX4_follow 22 = .ok (.iaload, 1) := by decide +kernel
theorem dX4_follow_23 : decode cX4_follow 23 = .ok (.if_icmp .ne 4, 3) := by decide +kernel
theorem dX4_follow_26 : decode cX4_follow 26 = .ok (.return_, 1) := by decide +kernel
theorem dX4_follow_27 : decode cX4_follow 27 = .ok (.aload_n 0, 1) := by decide +kernel
theorem dX4_follow_28 : decode cX4_follow 28 = .ok (.aload_n 1, 1) := by decide +kernel
theorem dX4_follow_29 : decode cX4_follow 29 = .ok (.getfield 25, 3) := by decide +kernel
theorem dX4_follow_32 : decode cX4_follow 32 = .ok (.iconst 0, 1) := by decide +kernel
theorem dX4_follow_33 : decode cX4_follow 33 = .ok (.iaload, 1) := by decide +kernel
theorem dX4_follow_34 : decode cX4_follow 34 = .ok (.putfield 15, 3) := by decide +kernel
theorem dX4_follow_37 : decode cX4_follow 37 = .ok (.aload_n 0, 1) := by decide +kernel
theorem dX4_follow_38 : decode cX4_follow 38 = .ok (.aload_n 1, 1) := by decide +kernel
theorem dX4_follow_39 : decode cX4_follow 39 = .ok (.getfield 25, 3) := by decide +kernel
theorem dX4_follow_42 : decode cX4_follow 42 = .ok (.iconst 3, 1) := by decide +kernel
theorem dX4_follow_43 : decode cX4_follow 43 = .ok (.iaload, 1) := by decide +kernel
theorem dX4_follow_44 : decode cX4_follow 44 = .ok (.putfield 19, 3) := by decide +kernel
theorem dX4_follow_47 : decode cX4_follow 47 = .ok (.aload_n 0, 1) := by decide +kernel
theorem dX4_follow_48 : decode cX4_follow 48 = .ok (.iconst 0, 1) := by decide +kernel
theorem dX4_follow_49 : decode cX4_follow 49 = .ok (.putfield 30, 3) := by decide +kernel
theorem dX4_follow_52 : decode cX4_follow 52 = .ok (.iconst 0, 1) := by decide +kernel
theorem dX4_follow_53 : decode cX4_follow 53 = .ok (.istore_n 2, 1) := by decide +kernel
theorem dX4_follow_54 : decode cX4_follow 54 = .ok (.iload_n 2, 1) := by decide +kernel
theorem dX4_follow_55 : decode cX4_follow 55 = .ok (.sipush 6561, 3) := by decide +kernel
theorem dX4_follow_58 : decode cX4_follow 58 = .ok (.if_icmp .ge 37, 3) := by decide +kernel
theorem dX4_follow_61 : decode cX4_follow 61 = .ok (.aload_n 1, 1) := by decide +kernel
theorem dX4_follow_62 : decode cX4_follow 62 = .ok (.iload_n 2, 1) := by decide +kernel
theorem dX4_follow_63 : decode cX4_follow 63 = .ok (.invokevirtual 33, 3) := by decide +kernel
theorem dX4_follow_66 : decode cX4_follow 66 = .ok (.ifCond .eq 23, 3) := by decide +kernel
theorem dX4_follow_69 : decode cX4_follow 69 = .ok (.aload_n 0, 1) := by decide +kernel
theorem dX4_follow_70 : decode cX4_follow 70 = .ok (.getfield 9, 3) := by decide +kernel
theorem dX4_follow_73 : decode cX4_follow 73 = .ok (.aload_n 0, 1) := by decide +kernel
theorem dX4_follow_74 : decode cX4_follow 74 = .ok (.getfield 30, 3) := by decide +kernel
theorem dX4_follow_77 : decode cX4_follow 77 = .ok (.iload_n 2, 1) := by decide +kernel
theorem dX4_follow_78 : decode cX4_follow 78 = .ok (.iastore, 1) := by decide +kernel
theorem dX4_follow_79 : decode cX4_follow 79 = .ok (.aload_n 0, 1) := by decide +kernel
theorem dX4_follow_80 : decode cX4_follow 80 = .ok (.dup, 1) := by decide +kernel
theorem dX4_follow_81 : decode cX4_follow 81 = .ok (.getfield 30, 3) := by decide +kernel
theorem dX4_follow_84 : decode cX4_follow 84 = .ok (.iconst 1, 1) := by decide +kernel
theorem dX4_follow_85 : decode cX4_follow 85 = .ok (.iadd, 1) := by decide +kernel
theorem dX4_follow_86 : decode cX4_follow 86 = .ok (.putfield 30, 3) := by decide +kernel
theorem dX4_follow_89 : decode cX4_follow 89 = .ok (.iinc 2 1, 3) := by decide +kernel
theorem dX4_follow_92 : decode cX4_follow 92 = .ok (.goto (-38), 3) := by decide +kernel
theorem dX4_follow_95 : decode cX4_follow 95 = .ok (.return_, 1) := by decide +kernel
theorem dX4_leastDistance_0 : decode cX4_leastDistance 0 = .ok (.ldc 37, 2) := by decide +kernel
theorem dX4_leastDistance_2 : decode cX4_leastDistance 2 = .ok (.istore 6, 2) := by decide +kernel
theorem dX4_leastDistance_4 : decode cX4_leastDistance 4 = .ok (.iconst 0, 1) := by decide +kernel
theorem dX4_leastDistance_5 : decode cX4_leastDistance 5 = .ok (.istore 7, 2) := by decide +kernel
theorem dX4_leastDistance_7 : decode cX4_leastDistance 7 = .ok (.iload 7, 2) := by decide +kernel
theorem dX4_leastDistance_9 : decode cX4_leastDistance 9 = .ok (.aload_n 0, 1) := by decide +kernel
theorem dX4_leastDistance_10 : decode cX4_leastDistance 10 = .ok (.getfield 30, 3) := by decide +kernel
theorem dX4_leastDistance_13 : decode cX4_leastDistance 13 = .ok (.if_icmp .ge 47, 3) := by decide +kernel
theorem dX4_leastDistance_16 : decode cX4_leastDistance 16 = .ok (.aload_n 0, 1) := by decide +kernel
theorem dX4_leastDistance_17 : decode cX4_leastDistance 17 = .ok (.getfield 22, 3) := by decide +kernel
theorem dX4_leastDistance_20 : decode cX4_leastDistance 20 = .ok (.iload 7, 2) := by decide +kernel
theorem dX4_leastDistance_22 : decode cX4_leastDistance 22 = .ok (.aload_n 2, 1) := by decide +kernel
theorem dX4_leastDistance_23 : decode cX4_leastDistance 23 = .ok (.aload_n 1, 1) := by decide +kernel
theorem dX4_leastDistance_24 : decode cX4_leastDistance 24 = .ok (.aload_n 0, 1) := by decide +kernel
theorem dX4_leastDistance_25 : decode cX4_leastDistance 25 = .ok (.getfield 9, 3) := by decide +kernel
theorem dX4_leastDistance_28 : decode cX4_leastDistance 28 = .ok (.iload 7, 2) := by decide +kernel
theorem dX4_leastDistance_30 : decode cX4_leastDistance 30 = .ok (.iaload, 1) := by decide +kernel
theorem dX4_leastDistance_31 : decode cX4_leastDistance 31 = .ok (.iload_n 3, 1) := by decide +kernel
theorem dX4_leastDistance_32 : decode cX4_leastDistance 32 = .ok (.iload 4, 2) := by decide +kernel
theorem dX4_leastDistance_34 : decode cX4_leastDistance 34 = .ok (.iload 5, 2) := by decide +kernel
theorem dX4_leastDistance_36 : decode cX4_leastDistance 36 = .ok (.invokevirtual 38, 3) := by decide +kernel
theorem dX4_leastDistance_39 : decode cX4_leastDistance 39 = .ok (.iastore, 1) := by decide +kernel
theorem dX4_leastDistance_40 : decode cX4_leastDistance 40 = .ok (.iload 6, 2) := by decide +kernel
theorem dX4_leastDistance_42 : decode cX4_leastDistance 42 = .ok (.aload_n 0, 1) := by decide +kernel
theorem dX4_leastDistance_43 : decode cX4_leastDistance 43 = .ok (.getfield 22, 3) := by decide +kernel
theorem dX4_leastDistance_46 : decode cX4_leastDistance 46 = .ok (.iload 7, 2) := by decide +kernel
theorem dX4_leastDistance_48 : decode cX4_leastDistance 48 = .ok (.iaload, 1) := by decide +kernel
theorem dX4_leastDistance_49 : decode cX4_leastDistance 49 = .ok (.invokestatic 44, 3) := by decide +kernel
theorem dX4_leastDistance_52 : decode cX4_leastDistance 52 = .ok (.istore 6, 2) := by decide +kernel
theorem dX4_leastDistance_54 : decode cX4_leastDistance 54 = .ok (.iinc 7 1, 3) := by decide +kernel
theorem dX4_leastDistance_57 : decode cX4_leastDistance 57 = .ok (.goto (-50), 3) := by decide +kernel
theorem dX4_leastDistance_60 : decode cX4_leastDistance 60 = .ok (.iload 6, 2) := by decide +kernel
theorem dX4_leastDistance_62 : decode cX4_leastDistance 62 = .ok (.ireturn, 1) := by decide +kernel
theorem dX4_find_0 : decode cX4_find 0 = .ok (.aload_n 0, 1) := by decide +kernel
theorem dX4_find_1 : decode cX4_find 1 = .ok (.aload_n 1, 1) := by decide +kernel
theorem dX4_find_2 : decode cX4_find 2 = .ok (.aload_n 2, 1) := by decide +kernel
theorem dX4_find_3 : decode cX4_find 3 = .ok (.iload_n 3, 1) := by decide +kernel
theorem dX4_find_4 : decode cX4_find 4 = .ok (.iload 4, 2) := by decide +kernel
theorem dX4_find_6 : decode cX4_find 6 = .ok (.iload 5, 2) := by decide +kernel
theorem dX4_find_8 : decode cX4_find 8 = .ok (.invokevirtual 50, 3) := by decide +kernel
theorem dX4_find_11 : decode cX4_find 11 = .ok (.aload_n 1, 1) := by decide +kernel
theorem dX4_find_12 : decode cX4_find 12 = .ok (.getfield 25, 3) := by decide +kernel
theorem dX4_find_15 : decode cX4_find 15 = .ok (.iconst 2, 1) := by decide +kernel
theorem dX4_find_16 : decode cX4_find 16 = .ok (.iaload, 1) := by decide +kernel
theorem dX4_find_17 : decode cX4_find 17 = .ok (.iadd, 1) := by decide +kernel
theorem dX4_find_18 : decode cX4_find 18 = .ok (.istore 6, 2) := by decide +kernel
theorem dX4_find_20 : decode cX4_find 20 = .ok (.aload_n 0, 1) := by decide +kernel
theorem dX4_find_21 : decode cX4_find 21 = .ok (.iload 6, 2) := by decide +kernel
theorem dX4_find_23 : decode cX4_find 23 = .ok (.invokevirtual 54, 3) := by decide +kernel
theorem dX4_find_26 : decode cX4_find 26 = .ok (.aload_n 0, 1) := by decide +kernel
theorem dX4_find_27 : decode cX4_find 27 = .ok (.getfield 58, 3) := by decide +kernel
theorem dX4_find_30 : decode cX4_find 30 = .ok (.aload_n 0, 1) := by decide +kernel
theorem dX4_find_31 : decode cX4_find 31 = .ok (.getfield 61, 3) := by decide +kernel
theorem dX4_find_34 : decode cX4_find 34 = .ok (.aload_n 0, 1) := by decide +kernel
theorem dX4_find_35 : decode cX4_find 35 = .ok (.getfield 58, 3) := by decide +kernel
theorem dX4_find_38 : decode cX4_find 38 = .ok (.isub, 1) := by decide +kernel
theorem dX4_find_39 : decode cX4_find 39 = .ok (.aload_n 1, 1) := by decide +kernel
theorem dX4_find_40 : decode cX4_find 40 = .ok (.getfield 25, 3) := by decide +kernel
theorem dX4_find_43 : decode cX4_find 43 = .ok (.iconst 1, 1) := by decide +kernel
theorem dX4_find_44 : decode cX4_find 44 = .ok (.iaload, 1) := by decide +kernel
theorem dX4_find_45 : decode cX4_find 45 = .ok (.imul, 1) := by decide +kernel
theorem dX4_find_46 : decode cX4_find 46 = .ok (.iconst 4, 1) := by decide +kernel
theorem dX4_find_47 : decode cX4_find 47 = .ok (.idiv, 1) := by decide +kernel
theorem dX4_find_48 : decode cX4_find 48 = .ok (.iadd, 1) := by decide +kernel
theorem dX4_find_49 : decode cX4_find 49 = .ok (.istore 7, 2) := by decide +kernel
theorem dX4_find_51 : decode cX4_find 51 = .ok (.iconst 0, 1) := by decide +kernel
theorem dX4_find_52 : decode cX4_find 52 = .ok (.istore 8, 2) := by decide +kernel
theorem dX4_find_54 : decode cX4_find 54 = .ok (.ldc2_w 64, 3) := by decide +kernel
theorem dX4_find_57 : decode cX4_find 57 = .ok (.lstore 9, 2) := by decide +kernel
theorem dX4_find_59 : decode cX4_find 59 = .ok (.iconst 0, 1) := by decide +kernel
theorem dX4_find_60 : decode cX4_find 60 = .ok (.istore 11, 2) := by decide +kernel
theorem dX4_find_62 : decode cX4_find 62 = .ok (.iload 11, 2) := by decide +kernel
theorem dX4_find_64 : decode cX4_find 64 = .ok (.aload_n 0, 1) := by decide +kernel
theorem dX4_find_65 : decode cX4_find 65 = .ok (.getfield 30, 3) := by decide +kernel
theorem dX4_find_68 : decode cX4_find 68 = .ok (.if_icmp .ge 49, 3) := by decide +kernel
theorem dX4_find_71 : decode cX4_find 71 = .ok (.aload_n 0, 1) := by decide +kernel
theorem dX4_find_72 : decode cX4_find 72 = .ok (.getfield 22, 3) := by decide +kernel
theorem dX4_find_75 : decode cX4_find 75 = .ok (.iload 11, 2) := by decide +kernel
theorem dX4_find_77 : decode cX4_find 77 = .ok (.iaload, 1) := by decide +kernel
theorem dX4_find_78 : decode cX4_find 78 = .ok (.iload 6, 2) := by decide +kernel
theorem dX4_find_80 : decode cX4_find 80 = .ok (.if_icmp .gt 31, 3) := by decide +kernel
theorem dX4_find_83 : decode cX4_find 83 = .ok (.aload_n 0, 1) := by decide +kernel
theorem dX4_find_84 : decode cX4_find 84 = .ok (.iload 11, 2) := by decide +kernel
theorem dX4_find_86 : decode cX4_find 86 = .ok (.iload 7, 2) := by decide +kernel
theorem dX4_find_88 : decode cX4_find 88 = .ok (.invokevirtual 66, 3) := by decide +kernel
theorem dX4_find_91 : decode cX4_find 91 = .ok (.lload 9, 2) := by decide +kernel
theorem dX4_find_93 : decode cX4_find 93 = .ok (.lcmp, 1) := by decide +kernel
theorem dX4_find_94 : decode cX4_find 94 = .ok (.ifCond .ge 17, 3) := by decide +kernel
theorem dX4_find_97 : decode cX4_find 97 = .ok (.aload_n 0, 1) := by decide +kernel
theorem dX4_find_98 : decode cX4_find 98 = .ok (.iload 11, 2) := by decide +kernel
theorem dX4_find_100 : decode cX4_find 100 = .ok (.iload 7, 2) := by decide +kernel
theorem dX4_find_102 : decode cX4_find 102 = .ok (.invokevirtual 66, 3) := by decide +kernel
theorem dX4_find_105 : decode cX4_find 105 = .ok (.lstore 9, 2) := by decide +kernel
theorem dX4_find_107 : decode cX4_find 107 = .ok (.iload 11, 2) := by decide +kernel
theorem dX4_find_109 : decode cX4_find 109 = .ok (.istore 8, 2) := by decide +kernel
theorem dX4_find_111 : decode cX4_find 111 = .ok (.iinc 11 1, 3) := by decide +kernel
theorem dX4_find_114 : decode cX4_find 114 = .ok (.goto (-52), 3) := by decide +kernel
theorem dX4_find_117 : decode cX4_find 117 = .ok (.aload_n 0, 1) := by decide +kernel
theorem dX4_find_118 : decode cX4_find 118 = .ok (.aload_n 0, 1) := by decide +kernel
theorem dX4_find_119 : decode cX4_find 119 = .ok (.getfield 22, 3) := by decide +kernel
theorem dX4_find_122 : decode cX4_find 122 = .ok (.iload 8, 2) := by decide +kernel
theorem dX4_find_124 : decode cX4_find 124 = .ok (.iaload, 1) := by decide +kernel
theorem dX4_find_125 : decode cX4_find 125 = .ok (.putfield 70, 3) := by decide +kernel
theorem dX4_find_128 : decode cX4_find 128 = .ok (.aload_n 0, 1) := by decide +kernel
theorem dX4_find_129 : decode cX4_find 129 = .ok (.getfield 9, 3) := by decide +kernel
theorem dX4_find_132 : decode cX4_find 132 = .ok (.iload 8, 2) := by decide +kernel
theorem dX4_find_134 : decode cX4_find 134 = .ok (.iaload, 1) := by decide +kernel
theorem dX4_find_135 : decode cX4_find 135 = .ok (.ireturn, 1) := by decide +kernel
theorem dX4_countFits_0 : decode cX4_countFits 0 = .ok (.aload_n 0, 1) := by decide +kernel
theorem dX4_countFits_1 : decode cX4_countFits 1 = .ok (.iconst 0, 1) := by decide +kernel
theorem dX4_countFits_2 : decode cX4_countFits 2 = .ok (.putfield 73, 3) := by decide +kernel
theorem dX4_countFits_5 : decode cX4_countFits 5 = .ok (.aload_n 0, 1) := by decide +kernel
theorem dX4_countFits_6 : decode cX4_countFits 6 = .ok (.bipush 8, 2) := by decide +kernel
theorem dX4_countFits_8 : decode cX4_countFits 8 = .ok (.putfield 58, 3) := by decide +kernel
theorem dX4_countFits_11 : decode cX4_countFits 11 = .ok (.aload_n 0, 1) := by decide +kernel
theorem dX4_countFits_12 : decode cX4_countFits 12 = .ok (.iconst 0, 1) := by decide +kernel
theorem dX4_countFits_13 : decode cX4_countFits 13 = .ok (.putfield 61, 3) := by decide +kernel
theorem dX4_countFits_16 : decode cX4_countFits 16 = .ok (.iconst 0, 1) := by decide +kernel
theorem dX4_countFits_17 : decode cX4_countFits 17 = .ok (.istore_n 2, 1) := by decide +kernel
theorem dX4_countFits_18 : decode cX4_countFits 18 = .ok (.iload_n 2, 1) := by decide +kernel
theorem dX4_countFits_19 : decode cX4_countFits 19 = .ok (.aload_n 0, 1) := by decide +kernel
theorem dX4_countFits_20 : decode cX4_countFits 20 = .ok (.getfield 30, 3) := by decide +kernel
theorem dX4_countFits_23 : decode cX4_countFits 23 = .ok (.if_icmp .ge 71, 3) := by decide +kernel
theorem dX4_countFits_26 : decode cX4_countFits 26 = .ok (.aload_n 0, 1) := by decide +kernel
theorem dX4_countFits_27 : decode cX4_countFits 27 = .ok (.getfield 22, 3) := by decide +kernel
theorem dX4_countFits_30 : decode cX4_countFits 30 = .ok (.iload_n 2, 1) := by decide +kernel
theorem dX4_countFits_31 : decode cX4_countFits 31 = .ok (.iaload, 1) := by decide +kernel
theorem dX4_countFits_32 : decode cX4_countFits 32 = .ok (.iload_n 1, 1) := by decide +kernel
theorem dX4_countFits_33 : decode cX4_countFits 33 = .ok (.if_icmp .gt 55, 3) := by decide +kernel
theorem dX4_countFits_36 : decode cX4_countFits 36 = .ok (.aload_n 0, 1) := by decide +kernel
theorem dX4_countFits_37 : decode cX4_countFits 37 = .ok (.dup, 1) := by decide +kernel
theorem dX4_countFits_38 : decode cX4_countFits 38 = .ok (.getfield 73, 3) := by decide +kernel
theorem dX4_countFits_41 : decode cX4_countFits 41 = .ok (.iconst 1, 1) := by decide +kernel
theorem dX4_countFits_42 : decode cX4_countFits 42 = .ok (.iadd, 1) := by decide +kernel
theorem dX4_countFits_43 : decode cX4_countFits 43 = .ok (.putfield 73, 3) := by decide +kernel
theorem dX4_countFits_46 : decode cX4_countFits 46 = .ok (.aload_n 0, 1) := by decide +kernel
theorem dX4_countFits_47 : decode cX4_countFits 47 = .ok (.aload_n 0, 1) := by decide +kernel
theorem dX4_countFits_48 : decode cX4_countFits 48 = .ok (.getfield 58, 3) := by decide +kernel
theorem dX4_countFits_51 : decode cX4_countFits 51 = .ok (.aload_n 0, 1) := by decide +kernel
theorem dX4_countFits_52 : decode cX4_countFits 52 = .ok (.getfield 9, 3) := by decide +kernel
theorem dX4_countFits_55 : decode cX4_countFits 55 = .ok (.iload_n 2, 1) := by decide +kernel
theorem dX4_countFits_56 : decode cX4_countFits 56 = .ok (.iaload, 1) := by decide +kernel
theorem dX4_countFits_57 : decode cX4_countFits 57 = .ok (.iconst 3, 1) := by decide +kernel
theorem dX4_countFits_58 : decode cX4_countFits 58 = .ok (.invokestatic 76, 3) := by decide +kernel
theorem dX4_countFits_61 : decode cX4_countFits 61 = .ok (.invokestatic 44, 3) := by decide +kernel
theorem dX4_countFits_64 : decode cX4_countFits 64 = .ok (.putfield 58, 3) := by decide +kernel
theorem dX4_countFits_67 : decode cX4_countFits 67 = .ok (.aload_n 0, 1) := by decide +kernel
theorem dX4_countFits_68 : decode cX4_countFits 68 = .ok (.aload_n 0, 1) := by decide +kernel
theorem dX4_countFits_69 : decode cX4_countFits 69 = .ok (.getfield 61, 3) := by decide +kernel
theorem dX4_countFits_72 : decode cX4_countFits 72 = .ok (.aload_n 0, 1) := by decide +kernel
theorem dX4_countFits_73 : decode cX4_countFits 73 = .ok (.getfield 9, 3) := by decide +kernel
theorem dX4_countFits_76 : decode cX4_countFits 76 = .ok (.iload_n 2, 1) := by decide +kernel
theorem dX4_countFits_77 : decode cX4_countFits 77 = .ok (.iaload, 1) := by decide +kernel
theorem dX4_countFits_78 : decode cX4_countFits 78 = .ok (.iconst 3, 1) := by decide +kernel
theorem dX4_countFits_79 : decode cX4_countFits 79 = .ok (.invokestatic 76, 3) := by decide +kernel
theorem dX4_countFits_82 : decode cX4_countFits 82 = .ok (.invokestatic 79, 3) := by decide +kernel
theorem dX4_countFits_85 : decode cX4_countFits 85 = .ok (.putfield 61, 3) := by decide +kernel
theorem dX4_countFits_88 : decode cX4_countFits 88 = .ok (.iinc 2 1, 3) := by decide +kernel
theorem dX4_countFits_91 : decode cX4_countFits 91 = .ok (.goto (-73), 3) := by decide +kernel
theorem dX4_countFits_94 : decode cX4_countFits 94 = .ok (.return_, 1) := by decide +kernel
theorem dX4_rankOf_0 : decode cX4_rankOf 0 = .ok (.aload_n 0, 1) := by decide +kernel
theorem dX4_rankOf_1 : decode cX4_rankOf 1 = .ok (.getfield 9, 3) := by decide +kernel
theorem dX4_rankOf_4 : decode cX4_rankOf 4 = .ok (.iload_n 1, 1) := by decide +kernel
theorem dX4_rankOf_5 : decode cX4_rankOf 5 = .ok (.iaload, 1) := by decide +kernel
theorem dX4_rankOf_6 : decode cX4_rankOf 6 = .ok (.iconst 3, 1) := by decide +kernel
theorem dX4_rankOf_7 : decode cX4_rankOf 7 = .ok (.invokestatic 76, 3) := by decide +kernel
theorem dX4_rankOf_10 : decode cX4_rankOf 10 = .ok (.istore_n 3, 1) := by decide +kernel
theorem dX4_rankOf_11 : decode cX4_rankOf 11 = .ok (.iload_n 3, 1) := by decide +kernel
theorem dX4_rankOf_12 : decode cX4_rankOf 12 = .ok (.iload_n 2, 1) := by decide +kernel
theorem dX4_rankOf_13 : decode cX4_rankOf 13 = .ok (.isub, 1) := by decide +kernel
theorem dX4_rankOf_14 : decode cX4_rankOf 14 = .ok (.invokestatic 82, 3) := by decide +kernel
theorem dX4_rankOf_17 : decode cX4_rankOf 17 = .ok (.bipush 10, 2) := by decide +kernel
theorem dX4_rankOf_19 : decode cX4_rankOf 19 = .ok (.imul, 1) := by decide +kernel
theorem dX4_rankOf_20 : decode cX4_rankOf 20 = .ok (.iload_n 3, 1) := by decide +kernel
theorem dX4_rankOf_21 : decode cX4_rankOf 21 = .ok (.iadd, 1) := by decide +kernel
theorem dX4_rankOf_22 : decode cX4_rankOf 22 = .ok (.i2l, 1) := by decide +kernel
theorem dX4_rankOf_23 : decode cX4_rankOf 23 = .ok (.lstore 4, 2) := by decide +kernel
theorem dX4_rankOf_25 : decode cX4_rankOf 25 = .ok (.lload 4, 2) := by decide +kernel
theorem dX4_rankOf_27 : decode cX4_rankOf 27 = .ok (.ldc2_w 86, 3) := by decide +kernel
theorem dX4_rankOf_30 : decode cX4_rankOf 30 = .ok (.lmul, 1) := by decide +kernel
theorem dX4_rankOf_31 : decode cX4_rankOf 31 = .ok (.aload_n 0, 1) := by decide +kernel
theorem dX4_rankOf_32 : decode cX4_rankOf 32 = .ok (.getfield 22, 3) := by decide +kernel
theorem dX4_rankOf_35 : decode cX4_rankOf 35 = .ok (.iload_n 1, 1) := by decide +kernel
theorem dX4_rankOf_36 : decode cX4_rankOf 36 = .ok (.iaload, 1) := by decide +kernel
theorem dX4_rankOf_37 : decode cX4_rankOf 37 = .ok (.i2l, 1) := by decide +kernel
theorem dX4_rankOf_38 : decode cX4_rankOf 38 = .ok (.ladd, 1) := by decide +kernel
theorem dX4_rankOf_39 : decode cX4_rankOf 39 = .ok (.ldc2_w 88, 3) := by decide +kernel
theorem dX4_rankOf_42 : decode cX4_rankOf 42 = .ok (.lmul, 1) := by decide +kernel
theorem dX4_rankOf_43 : decode cX4_rankOf 43 = .ok (.aload_n 0, 1) := by decide +kernel
theorem dX4_rankOf_44 : decode cX4_rankOf 44 = .ok (.getfield 9, 3) := by decide +kernel
theorem dX4_rankOf_47 : decode cX4_rankOf 47 = .ok (.iload_n 1, 1) := by decide +kernel
theorem dX4_rankOf_48 : decode cX4_rankOf 48 = .ok (.iaload, 1) := by decide +kernel
theorem dX4_rankOf_49 : decode cX4_rankOf 49 = .ok (.invokestatic 90, 3) := by decide +kernel
theorem dX4_rankOf_52 : decode cX4_rankOf 52 = .ok (.i2l, 1) := by decide +kernel
theorem dX4_rankOf_53 : decode cX4_rankOf 53 = .ok (.ladd, 1) := by decide +kernel
theorem dX4_rankOf_54 : decode cX4_rankOf 54 = .ok (.lreturn, 1) := by decide +kernel
theorem dX5_init_0 : decode cX5_init 0 = .ok (.aload_n 0, 1) := by decide +kernel
theorem dX5_init_1 : decode cX5_init 1 = .ok (.invokespecial 3, 3) := by decide +kernel
theorem dX5_init_4 : decode cX5_init 4 = .ok (.aload_n 0, 1) := by decide +kernel
theorem dX5_init_5 : decode cX5_init 5 = .ok (.bipush 64, 2) := by decide +kernel
theorem dX5_init_7 : decode cX5_init 7 = .ok (.newarray .int, 2) := by decide +kernel
theorem dX5_init_9 : decode cX5_init 9 = .ok (.putfield 9, 3) := by decide +kernel
theorem dX5_init_12 : decode cX5_init 12 = .ok (.aload_n 0, 1) := by decide +kernel
theorem dX5_init_13 : decode cX5_init 13 = .ok (.sipush 192, 3) := by decide +kernel
theorem dX5_init_16 : decode cX5_init 16 = .ok (.newarray .int, 2) := by decide +kernel
theorem dX5_init_18 : decode cX5_init 18 = .ok (.putfield 15, 3) := by decide +kernel
theorem dX5_init_21 : decode cX5_init 21 = .ok (.aload_n 0, 1) := by decide +kernel
theorem dX5_init_22 : decode cX5_init 22 = .ok (.iconst 3, 1) := by decide +kernel
theorem dX5_init_23 : decode cX5_init 23 = .ok (.newarray .int, 2) := by decide +kernel
theorem dX5_init_25 : decode cX5_init 25 = .ok (.putfield 18, 3) := by decide +kernel
theorem dX5_init_28 : decode cX5_init 28 = .ok (.return_, 1) := by decide +kernel
theorem dX5_print_0 : decode cX5_print 0 = .ok (.aload_n 0, 1) := by decide +kernel
theorem dX5_print_1 : decode cX5_print 1 = .ok (.getfield 15, 3) := by decide +kernel
theorem dX5_print_4 : decode cX5_print 4 = .ok (.iconst 0, 1) := by decide +kernel
theorem dX5_print_5 : decode cX5_print 5 = .ok (.invokestatic 21, 3) := by decide +kernel
theorem dX5_print_8 : decode cX5_print 8 = .ok (.iconst 0, 1) := by decide +kernel
theorem dX5_print_9 : decode cX5_print 9 = .ok (.istore 6, 2) := by decide +kernel
theorem dX5_print_11 : decode cX5_print 11 = .ok (.iload 6, 2) := by decide +kernel
theorem dX5_print_13 : decode cX5_print 13 = .ok (.iload 5, 2) := by decide +kernel
theorem dX5_print_15 : decode cX5_print 15 = .ok (.if_icmp .ge 152, 3) := by decide +kernel
theorem dX5_print_18 : decode cX5_print 18 = .ok (.aload_n 1, 1) := by decide +kernel
theorem dX5_print_19 : decode cX5_print 19 = .ok (.iload 6, 2) := by decide +kernel
theorem dX5_print_21 : decode cX5_print 21 = .ok (.invokestatic 27, 3) := by decide +kernel
theorem dX5_print_24 : decode cX5_print 24 = .ok (.istore 7, 2) := by decide +kernel
theorem dX5_print_26 : decode cX5_print 26 = .ok (.iload 4, 2) := by decide +kernel
theorem dX5_print_28 : decode cX5_print 28 = .ok (.ifCond .ne 27, 3) := by decide +kernel
theorem dX5_print_31 : decode cX5_print 31 = .ok (.iload 7, 2) := by decide +kernel
theorem dX5_print_33 : decode cX5_print 33 = .ok (.iload 6, 2) := by decide +kernel
theorem dX5_print_35 : decode cX5_print 35 = .ok (.if_icmp .ge 20, 3) := by decide +kernel
theorem dX5_print_38 : decode cX5_print 38 = .ok (.aload_n 0, 1) := by decide +kernel
theorem dX5_print_39 : decode cX5_print 39 = .ok (.getfield 9, 3) := by decide +kernel
theorem dX5_print_42 : decode cX5_print 42 = .ok (.iload 6, 2) := by decide +kernel
theorem dX5_print_44 : decode cX5_print 44 = .ok (.aload_n 0, 1) := by decide +kernel
theorem dX5_print_45 : decode cX5_print 45 = .ok (.getfield 9, 3) := by decide +kernel
theorem dX5_print_48 : decode cX5_print 48 = .ok (.iload 7, 2) := by decide +kernel
theorem dX5_print_50 : decode cX5_print 50 = .ok (.iaload, 1) := by decide +kernel
theorem dX5_print_51 : decode cX5_print 51 = .ok (.iastore, 1) := by decide +kernel
theorem dX5_print_52 : decode cX5_print 52 = .ok (.goto 109, 3) := by decide +kernel
theorem dX5_print_55 : decode cX5_print 55 = .ok (.iconst 0, 1) := by decide +kernel
theorem dX5_print_56 : decode cX5_print 56 = .ok (.istore 8, 2) := by decide +kernel
theorem dX5_print_58 : decode cX5_print 58 = .ok (.iload 8, 2) := by decide +kernel
theorem dX5_print_60 : decode cX5_print 60 = .ok (.iconst 3, 1) := by decide +kernel
theorem dX5_print_61 : decode cX5_print 61 = .ok (.if_icmp .ge 56, 3) := by decide +kernel
theorem dX5_print_64 : decode cX5_print 64 = .ok (.aload_n 1, 1) := by decide +kernel
theorem dX5_print_65 : decode cX5_print 65 = .ok (.getfield 31, 3) := by decide +kernel
theorem dX5_print_68 : decode cX5_print 68 = .ok (.aload_n 1, 1) := by decide +kernel
theorem dX5_print_69 : decode cX5_print 69 = .ok (.getfield 36, 3) := by decide +kernel
theorem dX5_print_72 : decode cX5_print 72 = .ok (.iload 6, 2) := by decide +kernel
theorem dX5_print_74 : decode cX5_print 74 = .ok (.iaload, 1) := by decide +kernel
theorem dX5_print_75 : decode cX5_print 75 = .ok (.iconst 3, 1) := by decide +kernel
theorem dX5_print_76 : decode cX5_print 76 = .ok (.imul, 1) := by decide +kernel
theorem dX5_print_77 : decode cX5_print 77 = .ok (.iload 8, 2) := by decide +kernel
theorem dX5_print_79 : decode cX5_print 79 = .ok (.iadd, 1) := by decide +kernel
theorem dX5_print_80 : decode cX5_print 80 = .ok (.iaload, 1) := by decide +kernel
theorem dX5_print_81 : decode cX5_print 81 = .ok (.istore 9, 2) := by decide +kernel
theorem dX5_print_83 : decode cX5_print 83 = .ok (.aload_n 0, 1) := by decide +kernel
theorem dX5_print_84 : decode cX5_print 84 = .ok (.getfield 18, 3) := by decide +kernel
theorem dX5_print_87 : decode cX5_print 87 = .ok (.iload 8, 2) := by decide +kernel
theorem dX5_print_89 : decode cX5_print 89 = .ok (.iload 9, 2) := by decide +kernel
theorem dX5_print_91 : decode cX5_print 91 = .ok (.aload_n 0, 1) := by decide +kernel
theorem dX5_print_92 : decode cX5_print 92 = .ok (.getfield 15, 3) := by decide +kernel
theorem dX5_print_95 : decode cX5_print 95 = .ok (.iload 6, 2) := by decide +kernel
theorem dX5_print_97 : decode cX5_print 97 = .ok (.iconst 3, 1) := by decide +kernel
theorem dX5_print_98 : decode cX5_print 98 = .ok (.imul, 1) := by decide +kernel
theorem dX5_print_99 : decode cX5_print 99 = .ok (.iload 8, 2) := by decide +kernel
theorem dX5_print_101 : decode cX5_print 101 = .ok (.iadd, 1) := by decide +kernel
theorem dX5_print_102 : decode cX5_print 102 = .ok (.iaload, 1) := by decide +kernel
theorem dX5_print_103 : decode cX5_print 103 = .ok (.iadd, 1) := by decide +kernel
theorem dX5_print_104 : decode cX5_print 104 = .ok (.sipush 400, 3) := by decide +kernel
theorem dX5_print_107 : decode cX5_print 107 = .ok (.invokestatic 39, 3) := by decide +kernel
theorem dX5_print_110 : decode cX5_print 110 = .ok (.iastore, 1) := by decide +kernel
theorem dX5_print_111 : decode cX5_print 111 = .ok (.iinc 8 1, 3) := by decide +kernel
theorem dX5_print_114 : decode cX5_print 114 = .ok (.goto (-56), 3) := by decide +kernel
theorem dX5_print_117 : decode cX5_print 117 = .ok (.aload_n 0, 1) := by decide +kernel
theorem dX5_print_118 : decode cX5_print 118 = .ok (.getfield 9, 3) := by decide +kernel
theorem dX5_print_121 : decode cX5_print 121 = .ok (.iload 6, 2) := by decide +kernel
theorem dX5_print_123 : decode cX5_print 123 = .ok (.aload_n 3, 1) := by decide +kernel
theorem dX5_print_124 : decode cX5_print 124 = .ok (.aload_n 1, 1) := by decide +kernel
theorem dX5_print_125 : decode cX5_print 125 = .ok (.aload_n 2, 1) := by decide +kernel
theorem dX5_print_126 : decode cX5_print 126 = .ok (.aload_n 0, 1) := by decide +kernel
theorem dX5_print_127 : decode cX5_print 127 = .ok (.getfield 18, 3) := by decide +kernel
theorem dX5_print_130 : decode cX5_print 130 = .ok (.iconst 0, 1) := by decide +kernel
theorem dX5_print_131 : decode cX5_print 131 = .ok (.iaload, 1) := by decide +kernel
theorem dX5_print_132 : decode cX5_print 132 = .ok (.aload_n 0, 1) := by decide +kernel
theorem dX5_print_133 : decode cX5_print 133 = .ok (.getfield 18, 3) := by decide +kernel
theorem dX5_print_136 : decode cX5_print 136 = .ok (.iconst 1, 1) := by decide +kernel
theorem dX5_print_137 : decode cX5_print 137 = .ok (.iaload, 1) := by decide +kernel
theorem dX5_print_138 : decode cX5_print 138 = .ok (.aload_n 0, 1) := by decide +kernel
theorem dX5_print_139 : decode cX5_print 139 = .ok (.getfield 18, 3) := by decide +kernel
theorem dX5_print_142 : decode cX5_print 142 = .ok (.iconst 2, 1) := by decide +kernel
theorem dX5_print_143 : decode cX5_print 143 = .ok (.iaload, 1) := by decide +kernel
theorem dX5_print_144 : decode cX5_print 144 = .ok (.invokevirtual 43, 3) := by decide +kernel
theorem dX5_print_147 : decode cX5_print 147 = .ok (.iastore, 1) := by decide +kernel
theorem dX5_print_148 : decode cX5_print 148 = .ok (.iload 4, 2) := by decide +kernel
theorem dX5_print_150 : decode cX5_print 150 = .ok (.ifCond .eq 11, 3) := by decide +kernel
theorem dX5_print_153 : decode cX5_print 153 = .ok (.aload_n 0, 1) := by decide +kernel
theorem dX5_print_154 : decode cX5_print 154 = .ok (.aload_n 1, 1) := by decide +kernel
theorem dX5_print_155 : decode cX5_print 155 = .ok (.aload_n 2, 1) := by decide +kernel
theorem dX5_print_156 : decode cX5_print 156 = .ok (.iload 6, 2) := by decide +kernel
theorem dX5_print_158 : decode cX5_print 158 = .ok (.invokevirtual 49, 3) := by decide +kernel
theorem dX5_print_161 : decode cX5_print 161 = .ok (.iinc 6 1, 3) := by decide +kernel
theorem dX5_print_164 : decode cX5_print 164 = .ok (.goto (-153), 3) := by decide +kernel
theorem dX5_print_167 : decode cX5_print 167 = .ok (.return_, 1) := by decide +kernel
theorem dX5_firstOfLetter_0 : decode cX5_firstOfLetter 0 = .ok (.iconst 0, 1) := by decide +kernel
theorem dX5_firstOfLetter_1 : decode cX5_firstOfLetter 1 = .ok (.istore_n 2, 1) := by decide +kernel
theorem dX5_firstOfLetter_2 : decode cX5_firstOfLetter 2 = .ok (.iload_n 2, 1) := by decide +kernel
theorem dX5_firstOfLetter_3 : decode cX5_firstOfLetter 3 = .ok (.iload_n 1, 1) := by decide +kernel
theorem dX5_firstOfLetter_4 : decode cX5_firstOfLetter 4 = .ok (.if_icmp .ge 26, 3) := by decide +kernel
theorem dX5_firstOfLetter_7 : decode cX5_firstOfLetter 7 = .ok (.aload_n 0, 1) := by decide +kernel
theorem dX5_firstOfLetter_8 : decode cX5_firstOfLetter 8 = .ok (.getfield 36, 3) := by decide +kernel
theorem dX5_firstOfLetter_11 : decode cX5_firstOfLetter 11 = .ok (.iload_n 2, 1) := by decide +kernel
theorem dX5_firstOfLetter_12 : decode cX5_firstOfLetter 12 = .ok (.iaload, 1) := by decide +kernel
theorem dX5_firstOfLetter_13 : decode cX5_firstOfLetter 13 = .ok (.aload_n 0, 1) := by decide +kernel
theorem dX5_firstOfLetter_14 : decode cX5_firstOfLetter 14 = .ok (.getfield 36, 3) := by decide +kernel
theorem dX5_firstOfLetter_17 : decode cX5_firstOfLetter 17 = .ok (.iload_n 1, 1) := by decide +kernel
theorem dX5_firstOfLetter_18 : decode cX5_firstOfLetter 18 = .ok (.iaload, 1) := by decide +kernel
theorem dX5_firstOfLetter_19 : decode cX5_firstOfLetter 19 = .ok (.if_icmp .ne 5, 3) := by decide +kernel
theorem dX5_firstOfLetter_22 : decode cX5_firstOfLetter 22 = .ok (.iload_n 2, 1) := by decide +kernel
theorem dX5_firstOfLetter_23 : decode cX5_firstOfLetter 23 = .ok (.ireturn, 1) := by decide +kernel
theorem dX5_firstOfLetter_24 : decode cX5_firstOfLetter 24 = .ok (.iinc 2 1, 3) := by decide +kernel
theorem dX5_firstOfLetter_27 : decode cX5_firstOfLetter 27 = .ok (.goto (-25), 3) := by decide +kernel
theorem dX5_firstOfLetter_30 : decode cX5_firstOfLetter 30 = .ok (.iload_n 1, 1) := by decide +kernel
theorem dX5_firstOfLetter_31 : decode cX5_firstOfLetter 31 = .ok (.ireturn, 1) := by decide +kernel
theorem dX5_handOn_0 : decode cX5_handOn 0 = .ok (.iconst 0, 1) := by decide +kernel
theorem dX5_handOn_1 : decode cX5_handOn 1 = .ok (.istore 4, 2) := by decide +kernel
theorem dX5_handOn_3 : decode cX5_handOn 3 = .ok (.iload 4, 2) := by decide +kernel
theorem dX5_handOn_5 : decode cX5_handOn 5 = .ok (.iconst 3, 1) := by decide +kernel
theorem dX5_handOn_6 : decode cX5_handOn 6 = .ok (.if_icmp .ge 112, 3) := by decide +kernel
theorem dX5_handOn_9 : decode cX5_handOn 9 = .ok (.aload_n 0, 1) := by decide +kernel
theorem dX5_handOn_10 : decode cX5_handOn 10 = .ok (.getfield 18, 3) := by decide +kernel
theorem dX5_handOn_13 : decode cX5_handOn 13 = .ok (.iload 4, 2) := by decide +kernel
theorem dX5_handOn_15 : decode cX5_handOn 15 = .ok (.iaload, 1) := by decide +kernel
theorem dX5_handOn_16 : decode cX5_handOn 16 = .ok (.aload_n 2, 1) := by decide +kernel
theorem dX5_handOn_17 : decode cX5_handOn 17 = .ok (.aload_n 0, 1) := by decide +kernel
theorem dX5_handOn_18 : decode cX5_handOn 18 = .ok (.getfield 9, 3) := by decide +kernel
theorem dX5_handOn_21 : decode cX5_handOn 21 = .ok (.iload_n 3, 1) := by decide +kernel
theorem dX5_handOn_22 : decode cX5_handOn 22 = .ok (.iaload, 1) := by decide +kernel
theorem dX5_handOn_23 : decode cX5_handOn 23 = .ok (.iload 4, 2) := by decide +kernel
theorem dX5_handOn_25 : decode cX5_handOn 25 = .ok (.invokevirtual 53, 3) := by decide +kernel
theorem dX5_handOn_28 : decode cX5_handOn 28 = .ok (.isub, 1) := by decide +kernel
theorem dX5_handOn_29 : decode cX5_handOn 29 = .ok (.istore 5, 2) := by decide +kernel
theorem dX5_handOn_31 : decode cX5_handOn 31 = .ok (.aload_n 1, 1) := by decide +kernel
theorem dX5_handOn_32 : decode cX5_handOn 32 = .ok (.getfield 58, 3) := by decide +kernel
theorem dX5_handOn_35 : decode cX5_handOn 35 = .ok (.ifCond .le 38, 3) := by decide +kernel
theorem dX5_handOn_38 : decode cX5_handOn 38 = .ok (.iload_n 3, 1) := by decide +kernel
theorem dX5_handOn_39 : decode cX5_handOn 39 = .ok (.aload_n 1, 1) := by decide +kernel
theorem dX5_handOn_40 : decode cX5_handOn 40 = .ok (.getfield 58, 3) := by decide +kernel
theorem dX5_handOn_43 : decode cX5_handOn 43 = .ok (.irem, 1) := by decide +kernel
theorem dX5_handOn_44 : decode cX5_handOn 44 = .ok (.iconst 1, 1) := by decide +kernel
theorem dX5_handOn_45 : decode cX5_handOn 45 = .ok (.iadd, 1) := by decide +kernel
theorem dX5_handOn_46 : decode cX5_handOn 46 = .ok (.aload_n 1, 1) := by decide +kernel
theorem dX5_handOn_47 : decode cX5_handOn 47 = .ok (.getfield 58, 3) := by decide +kernel
theorem dX5_handOn_50 : decode cX5_handOn 50 = .ok (.if_icmp .ge 23, 3) := by decide +kernel
theorem dX5_handOn_53 : decode cX5_handOn 53 = .ok (.aload_n 0, 1) := by decide +kernel
theorem dX5_handOn_54 : decode cX5_handOn 54 = .ok (.getfield 15, 3) := by decide +kernel
theorem dX5_handOn_57 : decode cX5_handOn 57 = .ok (.iload_n 3, 1) := by decide +kernel
theorem dX5_handOn_58 : decode cX5_handOn 58 = .ok (.iconst 1, 1) := by decide +kernel
theorem dX5_handOn_59 : decode cX5_handOn 59 = .ok (.iadd, 1) := by decide +kernel
theorem dX5_handOn_60 : decode cX5_handOn 60 = .ok (.iconst 3, 1) := by decide +kernel
theorem dX5_handOn_61 : decode cX5_handOn 61 = .ok (.imul, 1) := by decide +kernel
theorem dX5_handOn_62 : decode cX5_handOn 62 = .ok (.iload 4, 2) := by decide +kernel
theorem dX5_handOn_64 : decode cX5_handOn 64 = .ok (.iadd, 1) := by decide +kernel
theorem dX5_handOn_65 : decode cX5_handOn 65 = .ok (.dup2, 1) := by decide +kernel
theorem dX5_handOn_66 : decode cX5_handOn 66 = .ok (.iaload, 1) := by decide +kernel
theorem dX5_handOn_67 : decode cX5_handOn 67 = .ok (.iload 5, 2) := by decide +kernel
theorem dX5_handOn_69 : decode cX5_handOn 69 = .ok (.iconst 2, 1) := by decide +kernel
theorem dX5_handOn_70 : decode cX5_handOn 70 = .ok (.idiv, 1) := by decide +kernel
theorem dX5_handOn_71 : decode cX5_handOn 71 = .ok (.iadd, 1) := by decide +kernel
theorem dX5_handOn_72 : decode cX5_handOn 72 = .ok (.iastore, 1) := by decide +kernel
theorem dX5_handOn_73 : decode cX5_handOn 73 = .ok (.iload_n 3, 1) := by decide +kernel
theorem dX5_handOn_74 : decode cX5_handOn 74 = .ok (.aload_n 1, 1) := by decide +kernel
theorem dX5_handOn_75 : decode cX5_handOn 75 = .ok (.getfield 58, 3) := by decide +kernel
theorem dX5_handOn_78 : decode cX5_handOn 78 = .ok (.iadd, 1) := by decide +kernel
theorem dX5_handOn_79 : decode cX5_handOn 79 = .ok (.aload_n 1, 1) := by decide +kernel
theorem dX5_handOn_80 : decode cX5_handOn 80 = .ok (.invokevirtual 62, 3) := by decide +kernel
theorem dX5_handOn_83 : decode cX5_handOn 83 = .ok (.if_icmp .ge 29, 3) := by decide +kernel
theorem dX5_handOn_86 : decode cX5_handOn 86 = .ok (.aload_n 0, 1) := by decide +kernel
theorem dX5_handOn_87 : decode cX5_handOn 87 = .ok (.getfield 15, 3) := by decide +kernel
theorem dX5_handOn_90 : decode cX5_handOn 90 = .ok (.iload_n 3, 1) := by decide +kernel
theorem dX5_handOn_91 : decode cX5_handOn 91 = .ok (.aload_n 1, 1) := by decide +kernel
theorem dX5_handOn_92 : decode cX5_handOn 92 = .ok (.getfield 58, 3) := by decide +kernel
theorem dX5_handOn_95 : decode cX5_handOn 95 = .ok (.iadd, 1) := by decide +kernel
theorem dX5_handOn_96 : decode cX5_handOn 96 = .ok (.iconst 3, 1) := by decide +kernel
theorem dX5_handOn_97 : decode cX5_handOn 97 = .ok (.imul, 1) := by decide +kernel
theorem dX5_handOn_98 : decode cX5_handOn 98 = .ok (.iload 4, 2) := by decide +kernel
theorem dX5_handOn_100 : decode cX5_handOn 100 = .ok (.iadd, 1) := by decide +kernel
theorem dX5_handOn_101 : decode cX5_handOn 101 = .ok (.dup2, 1) := by decide +kernel
theorem dX5_handOn_102 : decode cX5_handOn 102 = .ok (.iaload, 1) := by decide +kernel
theorem dX5_handOn_103 : decode cX5_handOn 103 = .ok (.iload 5, 2) := by decide +kernel
theorem dX5_handOn_105 : decode cX5_handOn 105 = .ok (.iload 5, 2) := by decide +kernel
theorem dX5_handOn_107 : decode cX5_handOn 107 = .ok (.iconst 2, 1) := by decide +kernel
theorem dX5_handOn_108 : decode cX5_handOn 108 = .ok (.idiv, 1) := by decide +kernel
theorem dX5_handOn_109 : decode cX5_handOn 109 = .ok (.isub, 1) := by decide +kernel
theorem dX5_handOn_110 : decode cX5_handOn 110 = .ok (.iadd, 1) := by decide +kernel
theorem dX5_handOn_111 : decode cX5_handOn 111 = .ok (.iastore, 1) := by decide +kernel
theorem dX5_handOn_112 : decode cX5_handOn 112 = .ok (.iinc 4 1, 3) := by decide +kernel
theorem dX5_handOn_115 : decode cX5_handOn 115 = .ok (.goto (-112), 3) := by decide +kernel
theorem dX5_handOn_118 : decode cX5_handOn 118 = .ok (.return_, 1) := by decide +kernel
theorem dX5_inkUsed_0 : decode cX5_inkUsed 0 = .ok (.iconst 0, 1) := by decide +kernel
theorem dX5_inkUsed_1 : decode cX5_inkUsed 1 = .ok (.istore_n 3, 1) := by decide +kernel
theorem dX5_inkUsed_2 : decode cX5_inkUsed 2 = .ok (.iconst 0, 1) := by decide +kernel
theorem dX5_inkUsed_3 : decode cX5_inkUsed 3 = .ok (.istore 4, 2) := by decide +kernel
theorem dX5_inkUsed_5 : decode cX5_inkUsed 5 = .ok (.iload 4, 2) := by decide +kernel
theorem dX5_inkUsed_7 : decode cX5_inkUsed 7 = .ok (.aload_n 1, 1) := by decide +kernel
theorem dX5_inkUsed_8 : decode cX5_inkUsed 8 = .ok (.invokevirtual 62, 3) := by decide +kernel
theorem dX5_inkUsed_11 : decode cX5_inkUsed 11 = .ok (.if_icmp .ge 23, 3) := by decide +kernel
theorem dX5_inkUsed_14 : decode cX5_inkUsed 14 = .ok (.iload_n 3, 1) := by decide +kernel
theorem dX5_inkUsed_15 : decode cX5_inkUsed 15 = .ok (.aload_n 0, 1) := by decide +kernel
theorem dX5_inkUsed_16 : decode cX5_inkUsed 16 = .ok (.getfield 9, 3) := by decide +kernel
theorem dX5_inkUsed_19 : decode cX5_inkUsed 19 = .ok (.iload 4, 2) := by decide +kernel
theorem dX5_inkUsed_21 : decode cX5_inkUsed 21 = .ok (.iaload, 1) := by decide +kernel
theorem dX5_inkUsed_22 : decode cX5_inkUsed 22 = .ok (.iload_n 2, 1) := by decide +kernel
theorem dX5_inkUsed_23 : decode cX5_inkUsed 23 = .ok (.invokestatic 66, 3) := by decide +kernel
theorem dX5_inkUsed_26 : decode cX5_inkUsed 26 = .ok (.iadd, 1) := by decide +kernel
theorem dX5_inkUsed_27 : decode cX5_inkUsed 27 = .ok (.istore_n 3, 1) := by decide +kernel
theorem dX5_inkUsed_28 : decode cX5_inkUsed 28 = .ok (.iinc 4 1, 3) := by decide +kernel
theorem dX5_inkUsed_31 : decode cX5_inkUsed 31 = .ok (.goto (-26), 3) := by decide +kernel
theorem dX5_inkUsed_34 : decode cX5_inkUsed 34 = .ok (.iload_n 3, 1) := by decide +kernel
theorem dX5_inkUsed_35 : decode cX5_inkUsed 35 = .ok (.ireturn, 1) := by decide +kernel
theorem dX5_farFromLetters_0 : decode cX5_farFromLetters 0 = .ok (.lconst 0, 1) := by decide +kernel
theorem dX5_farFromLetters_1 : decode cX5_farFromLetters 1 = .ok (.lstore_n 3, 1) := by decide +kernel
theorem dX5_farFromLetters_2 : decode cX5_farFromLetters 2 = .ok (.iconst 0, 1) := by decide +kernel
theorem dX5_farFromLetters_3 : decode cX5_farFromLetters 3 = .ok (.istore 5, 2) := by decide +kernel
theorem dX5_farFromLetters_5 : decode cX5_farFromLetters 5 = .ok (.iload 5, 2) := by decide +kernel
theorem dX5_farFromLetters_7 : decode cX5_farFromLetters 7 = .ok (.aload_n 1, 1) := by decide +kernel
theorem dX5_farFromLetters_8 : decode cX5_farFromLetters 8 = .ok (.invokevirtual 62, 3) := by decide +kernel
theorem dX5_farFromLetters_11 : decode cX5_farFromLetters 11 = .ok (.if_icmp .ge 61, 3) := by decide +kernel
theorem dX5_farFromLetters_14 : decode cX5_farFromLetters 14 = .ok (.aload_n 1, 1) := by decide +kernel
theorem dX5_farFromLetters_15 : decode cX5_farFromLetters 15 = .ok (.getfield 36, 3) := by decide +kernel
theorem dX5_farFromLetters_18 : decode cX5_farFromLetters 18 = .ok (.iload 5, 2) := by decide +kernel
theorem dX5_farFromLetters_20 : decode cX5_farFromLetters 20 = .ok (.iaload, 1) := by decide +kernel
theorem dX5_farFromLetters_21 : decode cX5_farFromLetters 21 = .ok (.iconst 3, 1) := by decide +kernel
theorem dX5_farFromLetters_22 : decode cX5_farFromLetters 22 = .ok (.imul, 1) := by decide +kernel
theorem dX5_farFromLetters_23 : decode cX5_farFromLetters 23 = .ok (.istore 6, 2) := by decide +kernel
theorem dX5_farFromLetters_25 : decode cX5_farFromLetters 25 = .ok (.lload_n 3, 1) := by decide +kernel
theorem dX5_farFromLetters_26 : decode cX5_farFromLetters 26 = .ok (.aload_n 2, 1) := by decide +kernel
theorem dX5_farFromLetters_27 : decode cX5_farFromLetters 27 = .ok (.aload_n 1, 1) := by decide +kernel
theorem dX5_farFromLetters_28 : decode cX5_farFromLetters 28 = .ok (.aload_n 0, 1) := by decide +kernel
theorem dX5_farFromLetters_29 : decode cX5_farFromLetters 29 = .ok (.getfield 9, 3) := by decide +kernel
theorem dX5_farFromLetters_32 : decode cX5_farFromLetters 32 = .ok (.iload 5, 2) := by decide +kernel
theorem dX5_farFromLetters_34 : decode cX5_farFromLetters 34 = .ok (.iaload, 1) := by decide +kernel
theorem dX5_farFromLetters_35 : decode cX5_farFromLetters 35 = .ok (.aload_n 1, 1) := by decide +kernel
theorem dX5_farFromLetters_36 : decode cX5_farFromLetters 36 = .ok (.getfield 31, 3) := by decide +kernel
theorem dX5_farFromLetters_39 : decode cX5_farFromLetters 39 = .ok (.iload 6, 2) := by decide +kernel
theorem dX5_farFromLetters_41 : decode cX5_farFromLetters 41 = .ok (.iaload, 1) := by decide +kernel
theorem dX5_farFromLetters_42 : decode cX5_farFromLetters 42 = .ok (.aload_n 1, 1) := by decide +kernel
theorem dX5_farFromLetters_43 : decode cX5_farFromLetters 43 = .ok (.getfield 31, 3) := by decide +kernel
theorem dX5_farFromLetters_46 : decode cX5_farFromLetters 46 = .ok (.iload 6, 2) := by decide +kernel
theorem dX5_farFromLetters_48 : decode cX5_farFromLetters 48 = .ok (.iconst 1, 1) := by decide +kernel
theorem dX5_farFromLetters_49 : decode cX5_farFromLetters 49 = .ok (.iadd, 1) := by decide +kernel
theorem dX5_farFromLetters_50 : decode cX5_farFromLetters 50 = .ok (.iaload, 1) := by decide +kernel
theorem dX5_farFromLetters_51 : decode cX5_farFromLetters 51 = .ok (.aload_n 1, 1) := by decide +kernel
theorem dX5_farFromLetters_52 : decode cX5_farFromLetters 52 = .ok (.getfield 31, 3) := by decide +kernel
theorem dX5_farFromLetters_55 : decode cX5_farFromLetters 55 = .ok (.iload 6, 2) := by decide +kernel
theorem dX5_farFromLetters_57 : decode cX5_farFromLetters 57 = .ok (.iconst 2, 1) := by decide +kernel
theorem dX5_farFromLetters_58 : decode cX5_farFromLetters 58 = .ok (.iadd, 1) := by decide +kernel
theorem dX5_farFromLetters_59 : decode cX5_farFromLetters 59 = .ok (.iaload, 1) := by decide +kernel
theorem dX5_farFromLetters_60 : decode cX5_farFromLetters 60 = .ok (.invokevirtual 69, 3) := by decide +kernel
theorem dX5_farFromLetters_63 : decode cX5_farFromLetters 63 = .ok (.i2l, 1) := by decide +kernel
theorem dX5_farFromLetters_64 : decode cX5_farFromLetters 64 = .ok (.ladd, 1) := by decide +kernel
theorem dX5_farFromLetters_65 : decode cX5_farFromLetters 65 = .ok (.lstore_n 3, 1) := by decide +kernel
theorem dX5_farFromLetters_66 : decode cX5_farFromLetters 66 = .ok (.iinc 5 1, 3) := by decide +kernel
theorem dX5_farFromLetters_69 : decode cX5_farFromLetters 69 = .ok (.goto (-64), 3) := by decide +kernel
theorem dX5_farFromLetters_72 : decode cX5_farFromLetters 72 = .ok (.lload_n 3, 1) := by decide +kernel
theorem dX5_farFromLetters_73 : decode cX5_farFromLetters 73 = .ok (.lreturn, 1) := by decide +kernel
theorem dX5_countDifferent_0 : decode cX5_countDifferent 0 = .ok (.iconst 0, 1) := by decide +kernel
theorem dX5_countDifferent_1 : decode cX5_countDifferent 1 = .ok (.istore_n 2, 1) := by decide +kernel
theorem dX5_countDifferent_2 : decode cX5_countDifferent 2 = .ok (.iconst 0, 1) := by decide +kernel
theorem dX5_countDifferent_3 : decode cX5_countDifferent 3 = .ok (.istore_n 3, 1) := by decide +kernel
theorem dX5_countDifferent_4 : decode cX5_countDifferent 4 = .ok (.iload_n 3, 1) := by decide +kernel
theorem dX5_countDifferent_5 : decode cX5_countDifferent 5 = .ok (.aload_n 1, 1) := by decide +kernel
theorem dX5_countDifferent_6 : decode cX5_countDifferent 6 = .ok (.invokevirtual 62, 3) := by decide +kernel
theorem dX5_countDifferent_9 : decode cX5_countDifferent 9 = .ok (.if_icmp .ge 63, 3) := by decide +kernel
theorem dX5_countDifferent_12 : decode cX5_countDifferent 12 = .ok (.iconst 1, 1) := by decide +kernel
theorem dX5_countDifferent_13 : decode cX5_countDifferent 13 = .ok (.istore 4, 2) := by decide +kernel
theorem dX5_countDifferent_15 : decode cX5_countDifferent 15 = .ok (.iconst 0, 1) := by decide +kernel
theorem dX5_countDifferent_16 : decode cX5_countDifferent 16 = .ok (.istore 5, 2) := by decide +kernel
theorem dX5_countDifferent_18 : decode cX5_countDifferent 18 = .ok (.iload 5, 2) := by decide +kernel
theorem dX5_countDifferent_20 : decode cX5_countDifferent 20 = .ok (.iload_n 3, 1) := by decide +kernel
theorem dX5_countDifferent_21 : decode cX5_countDifferent 21 = .ok (.if_icmp .ge 37, 3) := by decide +kernel
theorem dX5_countDifferent_24 : decode cX5_countDifferent 24 = .ok (.iload 4, 2) := by decide +kernel
theorem dX5_countDifferent_26 : decode cX5_countDifferent 26 = .ok (.ifCond .eq 32, 3) := by decide +kernel
theorem dX5_countDifferent_29 : decode cX5_countDifferent 29 = .ok (.aload_n 0, 1) := by decide +kernel
theorem dX5_countDifferent_30 : decode cX5_countDifferent 30 = .ok (.getfield 9, 3) := by decide +kernel
theorem dX5_countDifferent_33 : decode cX5_countDifferent 33 = .ok (.iload 5, 2) := by decide +kernel
theorem dX5_countDifferent_35 : decode cX5_countDifferent 35 = .ok (.iaload, 1) := by decide +kernel
theorem dX5_countDifferent_36 : decode cX5_countDifferent 36 = .ok (.aload_n 0, 1) := by decide +kernel
theorem dX5_countDifferent_37 : decode cX5_countDifferent 37 = .ok (.getfield 9, 3) := by decide +kernel
theorem dX5_countDifferent_40 : decode cX5_countDifferent 40 = .ok (.iload_n 3, 1) := by decide +kernel
theorem dX5_countDifferent_41 : decode cX5_countDifferent 41 = .ok (.iaload, 1) := by decide +kernel
theorem dX5_countDifferent_42 : decode cX5_countDifferent 42 = .ok (.if_icmp .eq 7, 3) := by decide +kernel
theorem dX5_countDifferent_45 : decode cX5_countDifferent 45 = .ok (.iconst 1, 1) := by decide +kernel
theorem dX5_countDifferent_46 : decode cX5_countDifferent 46 = .ok (.goto 4, 3) := by decide +kernel
theorem dX5_countDifferent_49 : decode cX5_countDifferent 49 = .ok (.iconst 0, 1) := by decide +kernel
theorem dX5_countDifferent_50 : decode cX5_countDifferent 50 = .ok (.istore 4, 2) := by decide +kernel
theorem dX5_countDifferent_52 : decode cX5_countDifferent 52 = .ok (.iinc 5 1, 3) := by decide +kernel
theorem dX5_countDifferent_55 : decode cX5_countDifferent 55 = .ok (.goto (-37), 3) := by decide +kernel
theorem dX5_countDifferent_58 : decode cX5_countDifferent 58 = .ok (.iload 4, 2) := by decide +kernel
theorem dX5_countDifferent_60 : decode cX5_countDifferent 60 = .ok (.ifCond .eq 6, 3) := by decide +kernel
theorem dX5_countDifferent_63 : decode cX5_countDifferent 63 = .ok (.iinc 2 1, 3) := by decide +kernel
theorem dX5_countDifferent_66 : decode cX5_countDifferent 66 = .ok (.iinc 3 1, 3) := by decide +kernel
theorem dX5_countDifferent_69 : decode cX5_countDifferent 69 = .ok (.goto (-65), 3) := by decide +kernel
theorem dX5_countDifferent_72 : decode cX5_countDifferent 72 = .ok (.iload_n 2, 1) := by decide +kernel
theorem dX5_countDifferent_73 : decode cX5_countDifferent 73 = .ok (.ireturn, 1) := by decide +kernel
theorem dX5_slipped_0 : decode cX5_slipped 0 = .ok (.aload_n 1, 1) := by decide +kernel
theorem dX5_slipped_1 : decode cX5_slipped 1 = .ok (.getfield 58, 3) := by decide +kernel
theorem dX5_slipped_4 : decode cX5_slipped 4 = .ok (.ifCond .ne 10, 3) := by decide +kernel
theorem dX5_slipped_7 : decode cX5_slipped 7 = .ok (.aload_n 0, 1) := by decide +kernel
theorem dX5_slipped_8 : decode cX5_slipped 8 = .ok (.getfield 9, 3) := by decide +kernel
theorem dX5_slipped_11 : decode cX5_slipped 11 = .ok (.iload_n 2, 1) := by decide +kernel
theorem dX5_slipped_12 : decode cX5_slipped 12 = .ok (.iaload, 1) := by decide +kernel
theorem dX5_slipped_13 : decode cX5_slipped 13 = .ok (.ireturn, 1) := by decide +kernel
theorem dX5_slipped_14 : decode cX5_slipped 14 = .ok (.iload_n 2, 1) := by decide +kernel
theorem dX5_slipped_15 : decode cX5_slipped 15 = .ok (.aload_n 1, 1) := by decide +kernel
theorem dX5_slipped_16 : decode cX5_slipped 16 = .ok (.getfield 58, 3) := by decide +kernel
theorem dX5_slipped_19 : decode cX5_slipped 19 = .ok (.irem, 1) := by decide +kernel
theorem dX5_slipped_20 : decode cX5_slipped 20 = .ok (.iload 4, 2) := by decide +kernel
theorem dX5_slipped_22 : decode cX5_slipped 22 = .ok (.isub, 1) := by decide +kernel
theorem dX5_slipped_23 : decode cX5_slipped 23 = .ok (.istore 6, 2) := by decide +kernel
theorem dX5_slipped_25 : decode cX5_slipped 25 = .ok (.iload_n 2, 1) := by decide +kernel
theorem dX5_slipped_26 : decode cX5_slipped 26 = .ok (.aload_n 1, 1) := by decide +kernel
theorem dX5_slipped_27 : decode cX5_slipped 27 = .ok (.getfield 58, 3) := by decide +kernel
theorem dX5_slipped_30 : decode cX5_slipped 30 = .ok (.idiv, 1) := by decide +kernel
theorem dX5_slipped_31 : decode cX5_slipped 31 = .ok (.iload 5, 2) := by decide +kernel
theorem dX5_slipped_33 : decode cX5_slipped 33 = .ok (.isub, 1) := by decide +kernel
theorem dX5_slipped_34 : decode cX5_slipped 34 = .ok (.istore 7, 2) := by decide +kernel
theorem dX5_slipped_36 : decode cX5_slipped 36 = .ok (.iconst 0, 1) := by decide +kernel
theorem dX5_slipped_37 : decode cX5_slipped 37 = .ok (.istore 8, 2) := by decide +kernel
theorem dX5_slipped_39 : decode cX5_slipped 39 = .ok (.iload 6, 2) := by decide +kernel
theorem dX5_slipped_41 : decode cX5_slipped 41 = .ok (.iconst 0, 1) := by decide +kernel
theorem dX5_slipped_42 : decode cX5_slipped 42 = .ok (.aload_n 1, 1) := by decide +kernel
theorem dX5_slipped_43 : decode cX5_slipped 43 = .ok (.getfield 58, 3) := by decide +kernel
theorem dX5_slipped_46 : decode cX5_slipped 46 = .ok (.iconst 1, 1) := by decide +kernel
theorem dX5_slipped_47 : decode cX5_slipped 47 = .ok (.isub, 1) := by decide +kernel
theorem dX5_slipped_48 : decode cX5_slipped 48 = .ok (.invokestatic 73, 3) := by decide +kernel
theorem dX5_slipped_51 : decode cX5_slipped 51 = .ok (.ifCond .eq 39, 3) := by decide +kernel
theorem dX5_slipped_54 : decode cX5_slipped 54 = .ok (.iload 7, 2) := by decide +kernel
theorem dX5_slipped_56 : decode cX5_slipped 56 = .ok (.iconst 0, 1) := by decide +kernel
theorem dX5_slipped_57 : decode cX5_slipped 57 = .ok (.aload_n 1, 1) := by decide +kernel
theorem dX5_slipped_58 : decode cX5_slipped 58 = .ok (.getfield 77, 3) := by decide +kernel
theorem dX5_slipped_61 : decode cX5_slipped 61 = .ok (.iconst 1, 1) := by decide +kernel
theorem dX5_slipped_62 : decode cX5_slipped 62 = .ok (.isub, 1) := by decide +kernel
theorem dX5_slipped_63 : decode cX5_slipped 63 = .ok (.invokestatic 73, 3) := by decide +kernel
theorem dX5_slipped_66 : decode cX5_slipped 66 = .ok (.ifCond .eq 24, 3) := by decide +kernel
theorem dX5_slipped_69 : decode cX5_slipped 69 = .ok (.aload_n 0, 1) := by decide +kernel
theorem dX5_slipped_70 : decode cX5_slipped 70 = .ok (.getfield 9, 3) := by decide +kernel
theorem dX5_slipped_73 : decode cX5_slipped 73 = .ok (.iload 7, 2) := by decide +kernel
theorem dX5_slipped_75 : decode cX5_slipped 75 = .ok (.aload_n 1, 1) := by decide +kernel
theorem dX5_slipped_76 : decode cX5_slipped 76 = .ok (.getfield 58, 3) := by decide +kernel
theorem dX5_slipped_79 : decode cX5_slipped 79 = .ok (.imul, 1) := by decide +kernel
theorem dX5_slipped_80 : decode cX5_slipped 80 = .ok (.iload 6, 2) := by decide +kernel
theorem dX5_slipped_82 : decode cX5_slipped 82 = .ok (.iadd, 1) := by decide +kernel
theorem dX5_slipped_83 : decode cX5_slipped 83 = .ok (.iaload, 1) := by decide +kernel
theorem dX5_slipped_84 : decode cX5_slipped 84 = .ok (.iload_n 3, 1) := by decide +kernel
theorem dX5_slipped_85 : decode cX5_slipped 85 = .ok (.invokestatic 66, 3) := by decide +kernel
theorem dX5_slipped_88 : decode cX5_slipped 88 = .ok (.istore 8, 2) := by decide +kernel
theorem dX5_slipped_90 : decode cX5_slipped 90 = .ok (.aload_n 0, 1) := by decide +kernel
theorem dX5_slipped_91 : decode cX5_slipped 91 = .ok (.getfield 9, 3) := by decide +kernel
theorem dX5_slipped_94 : decode cX5_slipped 94 = .ok (.iload_n 2, 1) := by decide +kernel
theorem dX5_slipped_95 : decode cX5_slipped 95 = .ok (.iaload, 1) := by decide +kernel
theorem dX5_slipped_96 : decode cX5_slipped 96 = .ok (.iload 8, 2) := by decide +kernel
theorem dX5_slipped_98 : decode cX5_slipped 98 = .ok (.aload_n 0, 1) := by decide +kernel
theorem dX5_slipped_99 : decode cX5_slipped 99 = .ok (.getfield 9, 3) := by decide +kernel
theorem dX5_slipped_102 : decode cX5_slipped 102 = .ok (.iload_n 2, 1) := by decide +kernel
theorem dX5_slipped_103 : decode cX5_slipped 103 = .ok (.iaload, 1) := by decide +kernel
theorem dX5_slipped_104 : decode cX5_slipped 104 = .ok (.iload_n 3, 1) := by decide +kernel
theorem dX5_slipped_105 : decode cX5_slipped 105 = .ok (.invokestatic 66, 3) := by decide +kernel
theorem dX5_slipped_108 : decode cX5_slipped 108 = .ok (.isub, 1) := by decide +kernel
theorem dX5_slipped_109 : decode cX5_slipped 109 = .ok (.getstatic 80, 3) := by decide +kernel
theorem dX5_slipped_112 : decode cX5_slipped 112 = .ok (.iload_n 3, 1) := by decide +kernel
theorem dX5_slipped_113 : decode cX5_slipped 113 = .ok (.iaload, 1) := by decide +kernel
theorem dX5_slipped_114 : decode cX5_slipped 114 = .ok (.imul, 1) := by decide +kernel
theorem dX5_slipped_115 : decode cX5_slipped 115 = .ok (.iadd, 1) := by decide +kernel
theorem dX5_slipped_116 : decode cX5_slipped 116 = .ok (.ireturn, 1) := by decide +kernel
theorem dX6_init_0 : decode cX6_init 0 = .ok (.aload_n 0, 1) := by decide +kernel
theorem dX6_init_1 : decode cX6_init 1 = .ok (.invokespecial 1, 3) := by decide +kernel
theorem dX6_init_4 : decode cX6_init 4 = .ok (.aload_n 0, 1) := by decide +kernel
theorem dX6_init_5 : decode cX6_init 5 = .ok (.bipush 9, 2) := by decide +kernel
theorem dX6_init_7 : decode cX6_init 7 = .ok (.newarray .long, 2) := by decide +kernel
theorem dX6_init_9 : decode cX6_init 9 = .ok (.putfield 7, 3) := by decide +kernel
theorem dX6_init_12 : decode cX6_init 12 = .ok (.return_, 1) := by decide +kernel
theorem dX6_clear_0 : decode cX6_clear 0 = .ok (.aload_n 0, 1) := by decide +kernel
theorem dX6_clear_1 : decode cX6_clear 1 = .ok (.iconst 0, 1) := by decide +kernel
theorem dX6_clear_2 : decode cX6_clear 2 = .ok (.putfield 13, 3) := by decide +kernel
theorem dX6_clear_5 : decode cX6_clear 5 = .ok (.return_, 1) := by decide +kernel
theorem dX6_append_0 : decode cX6_append 0 = .ok (.aload_n 0, 1) := by decide +kernel
theorem dX6_append_1 : decode cX6_append 1 = .ok (.getfield 13, 3) := by decide +kernel
theorem dX6_append_4 : decode cX6_append 4 = .ok (.aload_n 0, 1) := by decide +kernel
theorem dX6_append_5 : decode cX6_append 5 = .ok (.getfield 7, 3) := by decide +kernel
theorem dX6_append_8 : decode cX6_append 8 = .ok (.arraylength, 1) := by decide +kernel
theorem dX6_append_9 : decode cX6_append 9 = .ok (.if_icmp .ge 23, 3) := by decide +kernel
theorem dX6_append_12 : decode cX6_append 12 = .ok (.aload_n 0, 1) := by decide +kernel
theorem dX6_append_13 : decode cX6_append 13 = .ok (.getfield 7, 3) := by decide +kernel
theorem dX6_append_16 : decode cX6_append 16 = .ok (.aload_n 0, 1) := by decide +kernel
theorem dX6_append_17 : decode cX6_append 17 = .ok (.getfield 13, 3) := by decide +kernel
theorem dX6_append_20 : decode cX6_append 20 = .ok (.lload_n 1, 1) := by decide +kernel
theorem dX6_append_21 : decode cX6_append 21 = .ok (.lastore, 1) := by decide +kernel
theorem dX6_append_22 : decode cX6_append 22 = .ok (.aload_n 0, 1) := by decide +kernel
theorem dX6_append_23 : decode cX6_append 23 = .ok (.dup, 1) := by decide +kernel
theorem dX6_append_24 : decode cX6_append 24 = .ok (.getfield 13, 3) := by decide +kernel
theorem dX6_append_27 : decode cX6_append 27 = .ok (.iconst 1, 1) := by decide +kernel
theorem dX6_append_28 : decode cX6_append 28 = .ok (.iadd, 1) := by decide +kernel
theorem dX6_append_29 : decode cX6_append 29 = .ok (.putfield 13, 3) := by decide +kernel
theorem dX6_append_32 : decode cX6_append 32 = .ok (.return_, 1) := by decide +kernel
theorem dX7_init_0 : decode cX7_init 0 = .ok (.aload_n 0, 1) := by decide +kernel
theorem dX7_init_1 : decode cX7_init 1 = .ok (.invokespecial 3, 3) := by decide +kernel
theorem dX7_init_4 : decode cX7_init 4 = .ok (.aload_n 0, 1) := by decide +kernel
theorem dX7_init_5 : decode cX7_init 5 = .ok (.sipush 243, 3) := by decide +kernel
theorem dX7_init_8 : decode cX7_init 8 = .ok (.newarray .int, 2) := by decide +kernel
theorem dX7_init_10 : decode cX7_init 10 = .ok (.putfield 9, 3) := by decide +kernel
theorem dX7_init_13 : decode cX7_init 13 = .ok (.aload_n 0, 1) := by decide +kernel
theorem dX7_init_14 : decode cX7_init 14 = .ok (.bipush 81, 2) := by decide +kernel
theorem dX7_init_16 : decode cX7_init 16 = .ok (.newarray .boolean, 2) := by decide +kernel
theorem dX7_init_18 : decode cX7_init 18 = .ok (.putfield 15, 3) := by decide +kernel
theorem dX7_init_21 : decode cX7_init 21 = .ok (.aload_n 0, 1) := by decide +kernel
theorem dX7_init_22 : decode cX7_init 22 = .ok (.bipush 7, 2) := by decide +kernel
theorem dX7_init_24 : decode cX7_init 24 = .ok (.newarray .int, 2) := by decide +kernel
theorem dX7_init_26 : decode cX7_init 26 = .ok (.putfield 19, 3) := by decide +kernel
theorem dX7_init_29 : decode cX7_init 29 = .ok (.aload_n 0, 1) := by decide +kernel
theorem dX7_init_30 : decode cX7_init 30 = .ok (.bipush 36, 2) := by decide +kernel
theorem dX7_init_32 : decode cX7_init 32 = .ok (.newarray .int, 2) := by decide +kernel
theorem dX7_init_34 : decode cX7_init 34 = .ok (.putfield 22, 3) := by decide +kernel
theorem dX7_init_37 : decode cX7_init 37 = .ok (.aload_n 0, 1) := by decide +kernel
theorem dX7_init_38 : decode cX7_init 38 = .ok (.bipush 24, 2) := by decide +kernel
theorem dX7_init_40 : decode cX7_init 40 = .ok (.newarray .int, 2) := by decide +kernel
theorem dX7_init_42 : decode cX7_init 42 = .ok (.putfield 25, 3) := by decide +kernel
theorem dX7_init_45 : decode cX7_init 45 = .ok (.aload_n 0, 1) := by decide +kernel
theorem dX7_init_46 : decode cX7_init 46 = .ok (.bipush 64, 2) := by decide +kernel
theorem dX7_init_48 : decode cX7_init 48 = .ok (.newarray .int, 2) := by decide +kernel
theorem dX7_init_50 : decode cX7_init 50 = .ok (.putfield 28, 3) := by decide +kernel
theorem dX7_init_53 : decode cX7_init 53 = .ok (.iconst 0, 1) := by decide +kernel
theorem dX7_init_54 : decode cX7_init 54 = .ok (.istore_n 1, 1) := by decide +kernel
theorem dX7_init_55 : decode cX7_init 55 = .ok (.iload_n 1, 1) := by decide +kernel
theorem dX7_init_56 : decode cX7_init 56 = .ok (.bipush 7, 2) := by decide +kernel
theorem dX7_init_58 : decode cX7_init 58 = .ok (.if_icmp .ge 20, 3) := by decide +kernel
theorem dX7_init_61 : decode cX7_init 61 = .ok (.aload_n 0, 1) := by decide +kernel
theorem dX7_init_62 : decode cX7_init 62 = .ok (.getfield 19, 3) := by decide +kernel
theorem dX7_init_65 : decode cX7_init 65 = .ok (.iload_n 1, 1) := by decide +kernel
theorem dX7_init_66 : decode cX7_init 66 = .ok (.getstatic 31, 3) := by decide +kernel
theorem dX7_init_69 : decode cX7_init 69 = .ok (.iload_n 1, 1) := by decide +kernel
theorem dX7_init_70 : decode cX7_init 70 = .ok (.iaload, 1) := by decide +kernel
theorem dX7_init_71 : decode cX7_init 71 = .ok (.iastore, 1) := by decide +kernel
theorem dX7_init_72 : decode cX7_init 72 = .ok (.iinc 1 1, 3) := by decide +kernel
theorem dX7_init_75 : decode cX7_init 75 = .ok (.goto (-20), 3) := by decide +kernel
theorem dX7_init_78 : decode cX7_init 78 = .ok (.iconst 0, 1) := by decide +kernel
theorem dX7_init_79 : decode cX7_init 79 = .ok (.istore_n 1, 1) := by decide +kernel
theorem dX7_init_80 : decode cX7_init 80 = .ok (.iload_n 1, 1) := by decide +kernel
theorem dX7_init_81 : decode cX7_init 81 = .ok (.bipush 36, 2) := by decide +kernel
theorem dX7_init_83 : decode cX7_init 83 = .ok (.if_icmp .ge 19, 3) := by decide +kernel
theorem dX7_init_86 : decode cX7_init 86 = .ok (.aload_n 0, 1) := by decide +kernel
theorem dX7_init_87 : decode cX7_init 87 = .ok (.getfield 22, 3) := by decide +kernel
theorem dX7_init_90 : decode cX7_init 90 = .ok (.iload_n 1, 1) := by decide +kernel
theorem dX7_init_91 : decode cX7_init 91 = .ok (.iload_n 1, 1) := by decide +kernel
theorem dX7_init_92 : decode cX7_init 92 = .ok (.bipush 9, 2) := by decide +kernel
theorem dX7_init_94 : decode cX7_init 94 = .ok (.irem, 1) := by decide +kernel
theorem dX7_init_95 : decode cX7_init 95 = .ok (.iastore, 1) := by decide +kernel
theorem dX7_init_96 : decode cX7_init 96 = .ok (.iinc 1 1, 3) := by decide +kernel
theorem dX7_init_99 : decode cX7_init 99 = .ok (.goto (-19), 3) := by decide +kernel
theorem dX7_init_102 : decode cX7_init 102 = .ok (.iconst 0, 1) := by decide +kernel
theorem dX7_init_103 : decode cX7_init 103 = .ok (.istore_n 1, 1) := by decide +kernel
theorem dX7_init_104 : decode cX7_init 104 = .ok (.iload_n 1, 1) := by decide +kernel
theorem dX7_init_105 : decode cX7_init 105 = .ok (.iconst 3, 1) := by decide +kernel
theorem dX7_init_106 : decode cX7_init 106 = .ok (.if_icmp .ge 98, 3) := by decide +kernel
theorem dX7_init_109 : decode cX7_init 109 = .ok (.aload_n 0, 1) := by decide +kernel
theorem dX7_init_110 : decode cX7_init 110 = .ok (.getfield 9, 3) := by decide +kernel
theorem dX7_init_113 : decode cX7_init 113 = .ok (.iload_n 1, 1) := by decide +kernel
theorem dX7_init_114 : decode cX7_init 114 = .ok (.bipush 100, 2) := by decide +kernel
theorem dX7_init_116 : decode cX7_init 116 = .ok (.iastore, 1) := by decide +kernel
theorem dX7_init_117 : decode cX7_init 117 = .ok (.iconst 0, 1) := by decide +kernel
theorem dX7_init_118 : decode cX7_init 118 = .ok (.istore_n 2, 1) := by decide +kernel
theorem dX7_init_119 : decode cX7_init 119 = .ok (.iload_n 2, 1) := by decide +kernel
theorem dX7_init_120 : decode cX7_init 120 = .ok (.iconst 4, 1) := by decide +kernel
theorem dX7_init_121 : decode cX7_init 121 = .ok (.if_icmp .ge 77, 3) := by decide +kernel
theorem dX7_init_124 : decode cX7_init 124 = .ok (.iload_n 2, 1) := by decide +kernel
theorem dX7_init_125 : decode cX7_init 125 = .ok (.iload_n 1, 1) := by decide +kernel
theorem dX7_init_126 : decode cX7_init 126 = .ok (.if_icmp .eq 8, 3) := by decide +kernel
theorem dX7_init_129 : decode cX7_init 129 = .ok (.iload_n 2, 1) := by decide +kernel
theorem dX7_init_130 : decode cX7_init 130 = .ok (.iconst 3, 1) := by decide +kernel
theorem dX7_init_131 : decode cX7_init 131 = .ok (.if_icmp .ne 7, 3) := by decide +kernel
theorem dX7_init_134 : decode cX7_init 134 = .ok (.iconst 1, 1) := by decide +kernel
theorem dX7_init_135 : decode cX7_init 135 = .ok (.goto 4, 3) := by decide +kernel
theorem dX7_init_138 : decode cX7_init 138 = .ok (.iconst 0, 1) := by decide +kernel
theorem dX7_init_139 : decode cX7_init 139 = .ok (.istore_n 3, 1) := by decide +kernel
theorem dX7_init_140 : decode cX7_init 140 = .ok (.aload_n 0, 1) := by decide +kernel
theorem dX7_init_141 : decode cX7_init 141 = .ok (.getfield 9, 3) := by decide +kernel
theorem dX7_init_144 : decode cX7_init 144 = .ok (.getstatic 34, 3) := by decide +kernel
theorem dX7_init_147 : decode cX7_init 147 = .ok (.iload_n 2, 1) := by decide +kernel
theorem dX7_init_148 : decode cX7_init 148 = .ok (.iaload, 1) := by decide +kernel
theorem dX7_init_149 : decode cX7_init 149 = .ok (.iconst 3, 1) := by decide +kernel
theorem dX7_init_150 : decode cX7_init 150 = .ok (.imul, 1) := by decide +kernel
theorem dX7_init_151 : decode cX7_init 151 = .ok (.iload_n 1, 1) := by decide +kernel
theorem dX7_init_152 : decode cX7_init 152 = .ok (.iadd, 1) := by decide +kernel
theorem dX7_init_153 : decode cX7_init 153 = .ok (.iload_n 3, 1) := by decide +kernel
theorem dX7_init_154 : decode cX7_init 154 = .ok (.ifCond .eq 8, 3) := by decide +kernel
theorem dX7_init_157 : decode cX7_init 157 = .ok (.bipush 50, 2) := by decide +kernel
theorem dX7_init_159 : decode cX7_init 159 = .ok (.goto 5, 3) := by decide +kernel
theorem dX7_init_162 : decode cX7_init 162 = .ok (.bipush 90, 2) := by decide +kernel
theorem dX7_init_164 : decode cX7_init 164 = .ok (.iastore, 1) := by decide +kernel
theorem dX7_init_165 : decode cX7_init 165 = .ok (.aload_n 0, 1) := by decide +kernel
theorem dX7_init_166 : decode cX7_init 166 = .ok (.getfield 9, 3) := by decide +kernel
theorem dX7_init_169 : decode cX7_init 169 = .ok (.iconst 2, 1) := by decide +kernel
theorem dX7_init_170 : decode cX7_init 170 = .ok (.getstatic 34, 3) := by decide +kernel
theorem dX7_init_173 : decode cX7_init 173 = .ok (.iload_n 2, 1) := by decide +kernel
theorem dX7_init_174 : decode cX7_init 174 = .ok (.iaload, 1) := by decide +kernel
theorem dX7_init_175 : decode cX7_init 175 = .ok (.imul, 1) := by decide +kernel
theorem dX7_init_176 : decode cX7_init 176 = .ok (.iconst 3, 1) := by decide +kernel
theorem dX7_init_177 : decode cX7_init 177 = .ok (.imul, 1) := by decide +kernel
theorem dX7_init_178 : decode cX7_init 178 = .ok (.iload_n 1, 1) := by decide +kernel
theorem dX7_init_179 : decode cX7_init 179 = .ok (.iadd, 1) := by decide +kernel
theorem dX7_init_180 : decode cX7_init 180 = .ok (.iload_n 3, 1) := by decide +kernel
theorem dX7_init_181 : decode cX7_init 181 = .ok (.ifCond .eq 8, 3) := by decide +kernel
theorem dX7_init_184 : decode cX7_init 184 = .ok (.bipush 10, 2) := by decide +kernel
theorem dX7_init_186 : decode cX7_init 186 = .ok (.goto 5, 3) := by decide +kernel
theorem dX7_init_189 : decode cX7_init 189 = .ok (.bipush 80, 2) := by decide +kernel
theorem dX7_init_191 : decode cX7_init 191 = .ok (.iastore, 1) := by decide +kernel
theorem dX7_init_192 : decode cX7_init 192 = .ok (.iinc 2 1, 3) := by decide +kernel
theorem dX7_init_195 : decode cX7_init 195 = .ok (.goto (-76), 3) := by decide +kernel
theorem dX7_init_198 : decode cX7_init 198 = .ok (.iinc 1 1, 3) := by decide +kernel
theorem dX7_init_201 : decode cX7_init 201 = .ok (.goto (-97), 3) := by decide +kernel
theorem dX7_init_204 : decode cX7_init 204 = .ok (.aload_n 0, 1) := by decide +kernel
theorem dX7_init_205 : decode cX7_init 205 = .ok (.new 37, 3) := by decide +kernel
theorem dX7_init_208 : decode cX7_init 208 = .ok (.dup, 1) := by decide +kernel
theorem dX7_init_209 : decode cX7_init 209 = .ok (.aconst_null, 1) := by decide +kernel
theorem dX7_init_210 : decode cX7_init 210 = .ok (.iconst 0, 1) := by decide +kernel
theorem dX7_init_211 : decode cX7_init 211 = .ok (.iconst 0, 1) := by decide +kernel
theorem dX7_init_212 : decode cX7_init 212 = .ok (.invokespecial 39, 3) := by decide +kernel
theorem dX7_init_215 : decode cX7_init 215 = .ok (.putfield 42, 3) := by decide +kernel
theorem dX7_init_218 : decode cX7_init 218 = .ok (.return_, 1) := by decide +kernel
theorem dX7_copyFrom_0 : decode cX7_copyFrom 0 = .ok (.aload_n 1, 1) := by decide +kernel
theorem dX7_copyFrom_1 : decode cX7_copyFrom 1 = .ok (.getfield 9, 3) := by decide +kernel
theorem dX7_copyFrom_4 : decode cX7_copyFrom 4 = .ok (.iconst 0, 1) := by decide +kernel
theorem dX7_copyFrom_5 : decode cX7_copyFrom 5 = .ok (.aload_n 0, 1) := by decide +kernel
theorem dX7_copyFrom_6 : decode cX7_copyFrom 6 = .ok (.getfield 9, 3) := by decide +kernel
theorem dX7_copyFrom_9 : decode cX7_copyFrom 9 = .ok (.iconst 0, 1) := by decide +kernel
theorem dX7_copyFrom_10 : decode cX7_copyFrom 10 = .ok (.aload_n 0, 1) := by decide +kernel
theorem dX7_copyFrom_11 : decode cX7_copyFrom 11 = .ok (.getfield 9, 3) := by decide +kernel
theorem dX7_copyFrom_14 : decode cX7_copyFrom 14 = .ok (.arraylength, 1) := by decide +kernel
theorem dX7_copyFrom_15 : decode cX7_copyFrom 15 = .ok (.invokestatic 46, 3) := by decide +kernel
theorem dX7_copyFrom_18 : decode cX7_copyFrom 18 = .ok (.iconst 0, 1) := by decide +kernel
theorem dX7_copyFrom_19 : decode cX7_copyFrom 19 = .ok (.istore_n 2, 1) := by decide +kernel
theorem dX7_copyFrom_20 : decode cX7_copyFrom 20 = .ok (.iload_n 2, 1) := by decide +kernel
theorem dX7_copyFrom_21 : decode cX7_copyFrom 21 = .ok (.bipush 81, 2) := by decide +kernel
theorem dX7_copyFrom_23 : decode cX7_copyFrom 23 = .ok (.if_icmp .ge 21, 3) := by decide +kernel
theorem dX7_copyFrom_26 : decode cX7_copyFrom 26 = .ok (.aload_n 0, 1) := by decide +kernel
theorem dX7_copyFrom_27 : decode cX7_copyFrom 27 = .ok (.getfield 15, 3) := by decide +kernel
theorem dX7_copyFrom_30 : decode cX7_copyFrom 30 = .ok (.iload_n 2, 1) := by decide +kernel
theorem dX7_copyFrom_31 : decode cX7_copyFrom 31 = .ok (.aload_n 1, 1) := by decide +kernel
theorem dX7_copyFrom_32 : decode cX7_copyFrom 32 = .ok (.getfield 15, 3) := by decide +kernel
theorem dX7_copyFrom_35 : decode cX7_copyFrom 35 = .ok (.iload_n 2, 1) := by decide +kernel
theorem dX7_copyFrom_36 : decode cX7_copyFrom 36 = .ok (.baload, 1) := by decide +kernel
theorem dX7_copyFrom_37 : decode cX7_copyFrom 37 = .ok (.bastore, 1) := by decide +kernel
theorem dX7_copyFrom_38 : decode cX7_copyFrom 38 = .ok (.iinc 2 1, 3) := by decide +kernel
theorem dX7_copyFrom_41 : decode cX7_copyFrom 41 = .ok (.goto (-21), 3) := by decide +kernel
theorem dX7_copyFrom_44 : decode cX7_copyFrom 44 = .ok (.aload_n 1, 1) := by decide +kernel
theorem dX7_copyFrom_45 : decode cX7_copyFrom 45 = .ok (.getfield 19, 3) := by decide +kernel
theorem dX7_copyFrom_48 : decode cX7_copyFrom 48 = .ok (.iconst 0, 1) := by decide +kernel
theorem dX7_copyFrom_49 : decode cX7_copyFrom 49 = .ok (.aload_n 0, 1) := by decide +kernel
theorem dX7_copyFrom_50 : decode cX7_copyFrom 50 = .ok (.getfield 19, 3) := by decide +kernel
theorem dX7_copyFrom_53 : decode cX7_copyFrom 53 = .ok (.iconst 0, 1) := by decide +kernel
theorem dX7_copyFrom_54 : decode cX7_copyFrom 54 = .ok (.aload_n 0, 1) := by decide +kernel
theorem dX7_copyFrom_55 : decode cX7_copyFrom 55 = .ok (.getfield 19, 3) := by decide +kernel
theorem dX7_copyFrom_58 : decode cX7_copyFrom 58 = .ok (.arraylength, 1) := by decide +kernel
theorem dX7_copyFrom_59 : decode cX7_copyFrom 59 = .ok (.invokestatic 46, 3) := by decide +kernel
theorem dX7_copyFrom_62 : decode cX7_copyFrom 62 = .ok (.aload_n 1, 1) := by decide +kernel
theorem dX7_copyFrom_63 : decode cX7_copyFrom 63 = .ok (.getfield 22, 3) := by decide +kernel
theorem dX7_copyFrom_66 : decode cX7_copyFrom 66 = .ok (.iconst 0, 1) := by decide +kernel
theorem dX7_copyFrom_67 : decode cX7_copyFrom 67 = .ok (.aload_n 0, 1) := by decide +kernel
theorem dX7_copyFrom_68 : decode cX7_copyFrom 68 = .ok (.getfield 22, 3) := by decide +kernel
theorem dX7_copyFrom_71 : decode cX7_copyFrom 71 = .ok (.iconst 0, 1) := by decide +kernel
theorem dX7_copyFrom_72 : decode cX7_copyFrom 72 = .ok (.aload_n 0, 1) := by decide +kernel
theorem dX7_copyFrom_73 : decode cX7_copyFrom 73 = .ok (.getfield 22, 3) := by decide +kernel
theorem dX7_copyFrom_76 : decode cX7_copyFrom 76 = .ok (.arraylength, 1) := by decide +kernel
theorem dX7_copyFrom_77 : decode cX7_copyFrom 77 = .ok (.invokestatic 46, 3) := by decide +kernel
theorem dX7_copyFrom_80 : decode cX7_copyFrom 80 = .ok (.aload_n 1, 1) := by decide +kernel
theorem dX7_copyFrom_81 : decode cX7_copyFrom 81 = .ok (.getfield 25, 3) := by decide +kernel
theorem dX7_copyFrom_84 : decode cX7_copyFrom 84 = .ok (.iconst 0, 1) := by decide +kernel
theorem dX7_copyFrom_85 : decode cX7_copyFrom 85 = .ok (.aload_n 0, 1) := by decide +kernel
theorem dX7_copyFrom_86 : decode cX7_copyFrom 86 = .ok (.getfield 25, 3) := by decide +kernel
theorem dX7_copyFrom_89 : decode cX7_copyFrom 89 = .ok (.iconst 0, 1) := by decide +kernel
theorem dX7_copyFrom_90 : decode cX7_copyFrom 90 = .ok (.aload_n 0, 1) := by decide +kernel
theorem dX7_copyFrom_91 : decode cX7_copyFrom 91 = .ok (.getfield 25, 3) := by decide +kernel
theorem dX7_copyFrom_94 : decode cX7_copyFrom 94 = .ok (.arraylength, 1) := by decide +kernel
theorem dX7_copyFrom_95 : decode cX7_copyFrom 95 = .ok (.invokestatic 46, 3) := by decide +kernel
theorem dX7_copyFrom_98 : decode cX7_copyFrom 98 = .ok (.aload_n 1, 1) := by decide +kernel
theorem dX7_copyFrom_99 : decode cX7_copyFrom 99 = .ok (.getfield 28, 3) := by decide +kernel
theorem dX7_copyFrom_102 : decode cX7_copyFrom 102 = .ok (.iconst 0, 1) := by decide +kernel
theorem dX7_copyFrom_103 : decode cX7_copyFrom 103 = .ok (.aload_n 0, 1) := by decide +kernel
theorem dX7_copyFrom_104 : decode cX7_copyFrom 104 = .ok (.getfield 28, 3) := by decide +kernel
theorem dX7_copyFrom_107 : decode cX7_copyFrom 107 = .ok (.iconst 0, 1) := by decide +kernel
theorem dX7_copyFrom_108 : decode cX7_copyFrom 108 = .ok (.aload_n 0, 1) := by decide +kernel
theorem dX7_copyFrom_109 : decode cX7_copyFrom 109 = .ok (.getfield 28, 3) := by decide +kernel
theorem dX7_copyFrom_112 : decode cX7_copyFrom 112 = .ok (.arraylength, 1) := by decide +kernel
theorem dX7_copyFrom_113 : decode cX7_copyFrom 113 = .ok (.invokestatic 46, 3) := by decide +kernel
theorem dX7_copyFrom_116 : decode cX7_copyFrom 116 = .ok (.aload_n 0, 1) := by decide +kernel
theorem dX7_copyFrom_117 : decode cX7_copyFrom 117 = .ok (.aload_n 1, 1) := by decide +kernel
theorem dX7_copyFrom_118 : decode cX7_copyFrom 118 = .ok (.getfield 52, 3) := by decide +kernel
theorem dX7_copyFrom_121 : decode cX7_copyFrom 121 = .ok (.putfield 52, 3) := by decide +kernel
theorem dX7_copyFrom_124 : decode cX7_copyFrom 124 = .ok (.aload_n 0, 1) := by decide +kernel
theorem dX7_copyFrom_125 : decode cX7_copyFrom 125 = .ok (.aload_n 1, 1) := by decide +kernel
theorem dX7_copyFrom_126 : decode cX7_copyFrom 126 = .ok (.getfield 56, 3) := by decide +kernel
theorem dX7_copyFrom_129 : decode cX7_copyFrom 129 = .ok (.putfield 56, 3) := by decide +kernel
theorem dX7_copyFrom_132 : decode cX7_copyFrom 132 = .ok (.aload_n 0, 1) := by decide +kernel
theorem dX7_copyFrom_133 : decode cX7_copyFrom 133 = .ok (.aload_n 1, 1) := by decide +kernel
theorem dX7_copyFrom_134 : decode cX7_copyFrom 134 = .ok (.getfield 42, 3) := by decide +kernel
theorem dX7_copyFrom_137 : decode cX7_copyFrom 137 = .ok (.putfield 42, 3) := by decide +kernel
theorem dX7_copyFrom_140 : decode cX7_copyFrom 140 = .ok (.return_, 1) := by decide +kernel
theorem dX7_lightOf_0 : decode cX7_lightOf 0 = .ok (.aload_n 0, 1) := by decide +kernel
theorem dX7_lightOf_1 : decode cX7_lightOf 1 = .ok (.getfield 15, 3) := by decide +kernel
theorem dX7_lightOf_4 : decode cX7_lightOf 4 = .ok (.iload_n 1, 1) := by decide +kernel
theorem dX7_lightOf_5 : decode cX7_lightOf 5 = .ok (.baload, 1) := by decide +kernel
theorem dX7_lightOf_6 : decode cX7_lightOf 6 = .ok (.ifCond .ne 10, 3) := by decide +kernel
theorem dX7_lightOf_9 : decode cX7_lightOf 9 = .ok (.iload_n 1, 1) := by decide +kernel
theorem dX7_lightOf_10 : decode cX7_lightOf 10 = .ok (.invokestatic 59, 3) := by decide +kernel
theorem dX7_lightOf_13 : decode cX7_lightOf 13 = .ok (.ifCond .eq 16, 3) := by decide +kernel
theorem dX7_lightOf_16 : decode cX7_lightOf 16 = .ok (.aload_n 0, 1) := by decide +kernel
theorem dX7_lightOf_17 : decode cX7_lightOf 17 = .ok (.getfield 9, 3) := by decide +kernel
theorem dX7_lightOf_20 : decode cX7_lightOf 20 = .ok (.iload_n 1, 1) := by decide +kernel
theorem dX7_lightOf_21 : decode cX7_lightOf 21 = .ok (.iconst 3, 1) := by decide +kernel
theorem dX7_lightOf_22 : decode cX7_lightOf 22 = .ok (.imul, 1) := by decide +kernel
theorem dX7_lightOf_23 : decode cX7_lightOf 23 = .ok (.iload_n 2, 1) := by decide +kernel
theorem dX7_lightOf_24 : decode cX7_lightOf 24 = .ok (.iadd, 1) := by decide +kernel
theorem dX7_lightOf_25 : decode cX7_lightOf 25 = .ok (.iaload, 1) := by decide +kernel
theorem dX7_lightOf_26 : decode cX7_lightOf 26 = .ok (.goto 9, 3) := by decide +kernel
theorem dX7_lightOf_29 : decode cX7_lightOf 29 = .ok (.aload_n 0, 1) := by decide +kernel
theorem dX7_lightOf_30 : decode cX7_lightOf 30 = .ok (.iload_n 1, 1) := by decide +kernel
theorem dX7_lightOf_31 : decode cX7_lightOf 31 = .ok (.iload_n 2, 1) := by decide +kernel
theorem dX7_lightOf_32 : decode cX7_lightOf 32 = .ok (.invokevirtual 63, 3) := by decide +kernel
theorem dX7_lightOf_35 : decode cX7_lightOf 35 = .ok (.ireturn, 1) := by decide +kernel
theorem dX7_reckoned_0 : decode cX7_reckoned 0 = .ok (.aload_n 0, 1) := by decide +kernel
theorem dX7_reckoned_1 : decode cX7_reckoned 1 = .ok (.getfield 9, 3) := by decide +kernel
theorem dX7_reckoned_4 : decode cX7_reckoned 4 = .ok (.iload_n 2, 1) := by decide +kernel
theorem dX7_reckoned_5 : decode cX7_reckoned 5 = .ok (.iaload, 1) := by decide +kernel
theorem dX7_reckoned_6 : decode cX7_reckoned 6 = .ok (.istore_n 3, 1) := by decide +kernel
theorem dX7_reckoned_7 : decode cX7_reckoned 7 = .ok (.iload_n 3, 1) := by decide +kernel
theorem dX7_reckoned_8 : decode cX7_reckoned 8 = .ok (.istore 4, 2) := by decide +kernel
theorem dX7_reckoned_10 : decode cX7_reckoned 10 = .ok (.iconst 0, 1) := by decide +kernel
theorem dX7_reckoned_11 : decode cX7_reckoned 11 = .ok (.istore 5, 2) := by decide +kernel
theorem dX7_reckoned_13 : decode cX7_reckoned 13 = .ok (.iload 5, 2) := by decide +kernel
theorem dX7_reckoned_15 : decode cX7_reckoned 15 = .ok (.iconst 4, 1) := by decide +kernel
theorem dX7_reckoned_16 : decode cX7_reckoned 16 = .ok (.if_icmp .ge 64, 3) := by decide +kernel
theorem dX7_reckoned_19 : decode cX7_reckoned 19 = .ok (.iload_n 1, 1) := by decide +kernel
theorem dX7_reckoned_20 : decode cX7_reckoned 20 = .ok (.iload 5, 2) := by decide +kernel
theorem dX7_reckoned_22 : decode cX7_reckoned 22 = .ok (.invokestatic 67, 3) := by decide +kernel
theorem dX7_reckoned_25 : decode cX7_reckoned 25 = .ok (.istore 6, 2) := by decide +kernel
theorem dX7_reckoned_27 : decode cX7_reckoned 27 = .ok (.iload 6, 2) := by decide +kernel
theorem dX7_reckoned_29 : decode cX7_reckoned 29 = .ok (.ifCond .le 45, 3) := by decide +kernel
theorem dX7_reckoned_32 : decode cX7_reckoned 32 = .ok (.aload_n 0, 1) := by decide +kernel
theorem dX7_reckoned_33 : decode cX7_reckoned 33 = .ok (.getfield 9, 3) := by decide +kernel
theorem dX7_reckoned_36 : decode cX7_reckoned 36 = .ok (.iload 6, 2) := by decide +kernel
theorem dX7_reckoned_38 : decode cX7_reckoned 38 = .ok (.getstatic 34, 3) := by decide +kernel
theorem dX7_reckoned_41 : decode cX7_reckoned 41 = .ok (.iload 5, 2) := by decide +kernel
theorem dX7_reckoned_43 : decode cX7_reckoned 43 = .ok (.iaload, 1) := by decide +kernel
theorem dX7_reckoned_44 : decode cX7_reckoned 44 = .ok (.imul, 1) := by decide +kernel
theorem dX7_reckoned_45 : decode cX7_reckoned 45 = .ok (.iconst 3, 1) := by decide +kernel
theorem dX7_reckoned_46 : decode cX7_reckoned 46 = .ok (.imul, 1) := by decide +kernel
theorem dX7_reckoned_47 : decode cX7_reckoned 47 = .ok (.iload_n 2, 1) := by decide +kernel
theorem dX7_reckoned_48 : decode cX7_reckoned 48 = .ok (.iadd, 1) := by decide +kernel
theorem dX7_reckoned_49 : decode cX7_reckoned 49 = .ok (.iaload, 1) := by decide +kernel
theorem dX7_reckoned_50 : decode cX7_reckoned 50 = .ok (.istore 7, 2) := by decide +kernel
theorem dX7_reckoned_52 : decode cX7_reckoned 52 = .ok (.iload_n 3, 1) := by decide +kernel
theorem dX7_reckoned_53 : decode cX7_reckoned 53 = .ok (.ifCond .ne 7, 3) := by decide +kernel
theorem dX7_reckoned_56 : decode cX7_reckoned 56 = .ok (.iconst 0, 1) := by decide +kernel
theorem dX7_reckoned_57 : decode cX7_reckoned 57 = .ok (.goto 15, 3) := by decide +kernel
theorem dX7_reckoned_60 : decode cX7_reckoned 60 = .ok (.bipush 100, 2) := by decide +kernel
theorem dX7_reckoned_62 : decode cX7_reckoned 62 = .ok (.iload 4, 2) := by decide +kernel
theorem dX7_reckoned_64 : decode cX7_reckoned 64 = .ok (.iload 7, 2) := by decide +kernel
theorem dX7_reckoned_66 : decode cX7_reckoned 66 = .ok (.imul, 1) := by decide +kernel
theorem dX7_reckoned_67 : decode cX7_reckoned 67 = .ok (.iload_n 3, 1) := by decide +kernel
theorem dX7_reckoned_68 : decode cX7_reckoned 68 = .ok (.idiv, 1) := by decide +kernel
theorem dX7_reckoned_69 : decode cX7_reckoned 69 = .ok (.invokestatic 70, 3) := by decide +kernel
theorem dX7_reckoned_72 : decode cX7_reckoned 72 = .ok (.istore 4, 2) := by decide +kernel
theorem dX7_reckoned_74 : decode cX7_reckoned 74 = .ok (.iinc 5 1, 3) := by decide +kernel
theorem dX7_reckoned_77 : decode cX7_reckoned 77 = .ok (.goto (-64), 3) := by decide +kernel
theorem dX7_reckoned_80 : decode cX7_reckoned 80 = .ok (.iload 4, 2) := by decide +kernel
theorem dX7_reckoned_82 : decode cX7_reckoned 82 = .ok (.ireturn, 1) := by decide +kernel
theorem dX7_countMeasured_0 : decode cX7_countMeasured 0 = .ok (.iconst 0, 1) := by decide +kernel
theorem dX7_countMeasured_1 : decode cX7_countMeasured 1 = .ok (.istore_n 1, 1) := by decide +kernel
theorem dX7_countMeasured_2 : decode cX7_countMeasured 2 = .ok (.iconst 0, 1) := by decide +kernel
theorem dX7_countMeasured_3 : decode cX7_countMeasured 3 = .ok (.istore_n 2, 1) := by decide +kernel
theorem dX7_countMeasured_4 : decode cX7_countMeasured 4 = .ok (.iload_n 2, 1) := by decide +kernel
theorem dX7_countMeasured_5 : decode cX7_countMeasured 5 = .ok (.bipush 81, 2) := by decide +kernel
theorem dX7_countMeasured_7 : decode cX7_countMeasured 7 = .ok (.if_icmp .ge 21, 3) := by decide +kernel
theorem dX7_countMeasured_10 : decode cX7_countMeasured 10 = .ok (.aload_n 0, 1) := by decide +kernel
theorem dX7_countMeasured_11 : decode cX7_countMeasured 11 = .ok (.getfield 15, 3) := by decide +kernel
theorem dX7_countMeasured_14 : decode cX7_countMeasured 14 = .ok (.iload_n 2, 1) := by decide +kernel
theorem dX7_countMeasured_15 : decode cX7_countMeasured 15 = .ok (.baload, 1) := by decide +kernel
theorem dX7_countMeasured_16 : decode cX7_countMeasured 16 = .ok (.ifCond .eq 6, 3) := by decide +kernel
theorem dX7_countMeasured_19 : decode cX7_countMeasured 19 = .ok (.iinc 1 1, 3) := by decide +kernel
theorem dX7_countMeasured_22 : decode cX7_countMeasured 22 = .ok (.iinc 2 1, 3) := by decide +kernel
theorem dX7_countMeasured_25 : decode cX7_countMeasured 25 = .ok (.goto (-21), 3) := by decide +kernel
theorem dX7_countMeasured_28 : decode cX7_countMeasured 28 = .ok (.iload_n 1, 1) := by decide +kernel
theorem dX7_countMeasured_29 : decode cX7_countMeasured 29 = .ok (.ireturn, 1) := by decide +kernel
theorem dX7_tellPatch_0 : decode cX7_tellPatch 0 = .ok (.iload_n 1, 1) := by decide +kernel
theorem dX7_tellPatch_1 : decode cX7_tellPatch 1 = .ok (.invokestatic 75, 3) := by decide +kernel
theorem dX7_tellPatch_4 : decode cX7_tellPatch 4 = .ok (.ifCond .eq 34, 3) := by decide +kernel
theorem dX7_tellPatch_7 : decode cX7_tellPatch 7 = .ok (.iload_n 2, 1) := by decide +kernel
theorem dX7_tellPatch_8 : decode cX7_tellPatch 8 = .ok (.iconst 0, 1) := by decide +kernel
theorem dX7_tellPatch_9 : decode cX7_tellPatch 9 = .ok (.bipush 100, 2) := by decide +kernel
theorem dX7_tellPatch_11 : decode cX7_tellPatch 11 = .ok (.invokestatic 78, 3) := by decide +kernel
theorem dX7_tellPatch_14 : decode cX7_tellPatch 14 = .ok (.ifCond .eq 24, 3) := by decide +kernel
theorem dX7_tellPatch_17 : decode cX7_tellPatch 17 = .ok (.iload_n 3, 1) := by decide +kernel
theorem dX7_tellPatch_18 : decode cX7_tellPatch 18 = .ok (.iconst 0, 1) := by decide +kernel
theorem dX7_tellPatch_19 : decode cX7_tellPatch 19 = .ok (.bipush 100, 2) := by decide +kernel
theorem dX7_tellPatch_21 : decode cX7_tellPatch 21 = .ok (.invokestatic 78, 3) := by decide +kernel
theorem dX7_tellPatch_24 : decode cX7_tellPatch 24 = .ok (.ifCond .eq 14, 3) := by decide +kernel
theorem dX7_tellPatch_27 : decode cX7_tellPatch 27 = .ok (.iload 4, 2) := by decide +kernel
theorem dX7_tellPatch_29 : decode cX7_tellPatch 29 = .ok (.iconst 0, 1) := by decide +kernel
theorem dX7_tellPatch_30 : decode cX7_tellPatch 30 = .ok (.bipush 100, 2) := by decide +kernel
theorem dX7_tellPatch_32 : decode cX7_tellPatch 32 = .ok (.invokestatic 78, 3) := by decide +kernel
theorem dX7_tellPatch_35 : decode cX7_tellPatch 35 = .ok (.ifCond .ne 5, 3) := by decide +kernel
theorem dX7_tellPatch_38 : decode cX7_tellPatch 38 = .ok (.iconst (-1), 1) := by decide +kernel
theorem dX7_tellPatch_39 : decode cX7_tellPatch 39 = .ok (.ireturn, 1) := by decide +kernel
theorem dX7_tellPatch_40 : decode cX7_tellPatch 40 = .ok (.aload_n 0, 1) := by decide +kernel
theorem dX7_tellPatch_41 : decode cX7_tellPatch 41 = .ok (.getfield 9, 3) := by decide +kernel
theorem dX7_tellPatch_44 : decode cX7_tellPatch 44 = .ok (.iload_n 1, 1) := by decide +kernel
theorem dX7_tellPatch_45 : decode cX7_tellPatch 45 = .ok (.iconst 3, 1) := by decide +kernel
theorem dX7_tellPatch_46 : decode cX7_tellPatch 46 = .ok (.imul, 1) := by decide +kernel
theorem dX7_tellPatch_47 : decode cX7_tellPatch 47 = .ok (.iload_n 2, 1) := by decide +kernel
theorem dX7_tellPatch_48 : decode cX7_tellPatch 48 = .ok (.iastore, 1) := by decide +kernel
theorem dX7_tellPatch_49 : decode cX7_tellPatch 49 = .ok (.aload_n 0, 1) := by decide +kernel
theorem dX7_tellPatch_50 : decode cX7_tellPatch 50 = .ok (.getfield 9, 3) := by decide +kernel
theorem dX7_tellPatch_53 : decode cX7_tellPatch 53 = .ok (.iload_n 1, 1) := by decide +kernel
theorem dX7_tellPatch_54 : decode cX7_tellPatch 54 = .ok (.iconst 3, 1) := by decide +kernel
theorem dX7_tellPatch_55 : decode cX7_tellPatch 55 = .ok (.imul, 1) := by decide +kernel
theorem dX7_tellPatch_56 : decode cX7_tellPatch 56 = .ok (.iconst 1, 1) := by decide +kernel
theorem dX7_tellPatch_57 : decode cX7_tellPatch 57 = .ok (.iadd, 1) := by decide +kernel
theorem dX7_tellPatch_58 : decode cX7_tellPatch 58 = .ok (.iload_n 3, 1) := by decide +kernel
theorem dX7_tellPatch_59 : decode cX7_tellPatch 59 = .ok (.iastore, 1) := by decide +kernel
theorem dX7_tellPatch_60 : decode cX7_tellPatch 60 = .ok (.aload_n 0, 1) := by decide +kernel
theorem dX7_tellPatch_61 : decode cX7_tellPatch 61 = .ok (.getfield 9, 3) := by decide +kernel
theorem dX7_tellPatch_64 : decode cX7_tellPatch 64 = .ok (.iload_n 1, 1) := by decide +kernel
theorem dX7_tellPatch_65 : decode cX7_tellPatch 65 = .ok (.iconst 3, 1) := by decide +kernel
theorem dX7_tellPatch_66 : decode cX7_tellPatch 66 = .ok (.imul, 1) := by decide +kernel
theorem dX7_tellPatch_67 : decode cX7_tellPatch 67 = .ok (.iconst 2, 1) := by decide +kernel
theorem dX7_tellPatch_68 : decode cX7_tellPatch 68 = .ok (.iadd, 1) := by decide +kernel
theorem dX7_tellPatch_69 : decode cX7_tellPatch 69 = .ok (.iload 4, 2) := by decide +kernel
theorem dX7_tellPatch_71 : decode cX7_tellPatch 71 = .ok (.iastore, 1) := by decide +kernel
theorem dX7_tellPatch_72 : decode cX7_tellPatch 72 = .ok (.aload_n 0, 1) := by decide +kernel
theorem dX7_tellPatch_73 : decode cX7_tellPatch 73 = .ok (.getfield 15, 3) := by decide +kernel
theorem dX7_tellPatch_76 : decode cX7_tellPatch 76 = .ok (.iload_n 1, 1) := by decide +kernel
theorem dX7_tellPatch_77 : decode cX7_tellPatch 77 = .ok (.iload_n 1, 1) := by decide +kernel
theorem dX7_tellPatch_78 : decode cX7_tellPatch 78 = .ok (.invokestatic 59, 3) := by decide +kernel
theorem dX7_tellPatch_81 : decode cX7_tellPatch 81 = .ok (.ifCond .ne 7, 3) := by decide +kernel
theorem dX7_tellPatch_84 : decode cX7_tellPatch 84 = .ok (.iconst 1, 1) := by decide +kernel
theorem dX7_tellPatch_85 : decode cX7_tellPatch 85 = .ok (.goto 4, 3) := by decide +kernel
theorem dX7_tellPatch_88 : decode cX7_tellPatch 88 = .ok (.iconst 0, 1) := by decide +kernel
theorem dX7_tellPatch_89 : decode cX7_tellPatch 89 = .ok (.bastore, 1) := by decide +kernel
theorem dX7_tellPatch_90 : decode cX7_tellPatch 90 = .ok (.aload_n 0, 1) := by decide +kernel
theorem dX7_tellPatch_91 : decode cX7_tellPatch 91 = .ok (.invokevirtual 82, 3) := by decide +kernel
theorem dX7_tellPatch_94 : decode cX7_tellPatch 94 = .ok (.ireturn, 1) := by decide +kernel
theorem dX7_dropPatch_0 : decode cX7_dropPatch 0 = .ok (.iload_n 1, 1) := by decide +kernel
theorem dX7_dropPatch_1 : decode cX7_dropPatch 1 = .ok (.invokestatic 75, 3) := by decide +kernel
theorem dX7_dropPatch_4 : decode cX7_dropPatch 4 = .ok (.ifCond .ne 5, 3) := by decide +kernel
theorem dX7_dropPatch_7 : decode cX7_dropPatch 7 = .ok (.iconst (-1), 1) := by decide +kernel
theorem dX7_dropPatch_8 : decode cX7_dropPatch 8 = .ok (.ireturn, 1) := by decide +kernel
theorem dX7_dropPatch_9 : decode cX7_dropPatch 9 = .ok (.aload_n 0, 1) := by decide +kernel
theorem dX7_dropPatch_10 : decode cX7_dropPatch 10 = .ok (.getfield 15, 3) := by decide +kernel
theorem dX7_dropPatch_13 : decode cX7_dropPatch 13 = .ok (.iload_n 1, 1) := by decide +kernel
theorem dX7_dropPatch_14 : decode cX7_dropPatch 14 = .ok (.baload, 1) := by decide +kernel
theorem dX7_dropPatch_15 : decode cX7_dropPatch 15 = .ok (.ifCond .ne 6, 3) := by decide +kernel
theorem dX7_dropPatch_18 : decode cX7_dropPatch 18 = .ok (.bipush (-2), 2) := by decide +kernel
theorem dX7_dropPatch_20 : decode cX7_dropPatch 20 = .ok (.ireturn, 1) := by decide +kernel
theorem dX7_dropPatch_21 : decode cX7_dropPatch 21 = .ok (.aload_n 0, 1) := by decide +kernel
theorem dX7_dropPatch_22 : decode cX7_dropPatch 22 = .ok (.getfield 15, 3) := by decide +kernel
theorem dX7_dropPatch_25 : decode cX7_dropPatch 25 = .ok (.iload_n 1, 1) := by decide +kernel
theorem dX7_dropPatch_26 : decode cX7_dropPatch 26 = .ok (.iconst 0, 1) := by decide +kernel
theorem dX7_dropPatch_27 : decode cX7_dropPatch 27 = .ok (.bastore, 1) := by decide +kernel
theorem dX7_dropPatch_28 : decode cX7_dropPatch 28 = .ok (.aload_n 0, 1) := by decide +kernel
theorem dX7_dropPatch_29 : decode cX7_dropPatch 29 = .ok (.invokevirtual 82, 3) := by decide +kernel
theorem dX7_dropPatch_32 : decode cX7_dropPatch 32 = .ok (.ireturn, 1) := by decide +kernel
theorem dX7_change_0 : decode cX7_change 0 = .ok (.iload_n 1, 1) := by decide +kernel
theorem dX7_change_1 : decode cX7_change 1 = .ok (.iconst 0, 1) := by decide +kernel
theorem dX7_change_2 : decode cX7_change 2 = .ok (.bipush 6, 2) := by decide +kernel
theorem dX7_change_4 : decode cX7_change 4 = .ok (.invokestatic 78, 3) := by decide +kernel
theorem dX7_change_7 : decode cX7_change 7 = .ok (.ifCond .eq 20, 3) := by decide +kernel
theorem dX7_change_10 : decode cX7_change 10 = .ok (.iload_n 2, 1) := by decide +kernel
theorem dX7_change_11 : decode cX7_change 11 = .ok (.getstatic 86, 3) := by decide +kernel
theorem dX7_change_14 : decode cX7_change 14 = .ok (.iload_n 1, 1) := by decide +kernel
theorem dX7_change_15 : decode cX7_change 15 = .ok (.iaload, 1) := by decide +kernel
theorem dX7_change_16 : decode cX7_change 16 = .ok (.getstatic 89, 3) := by decide +kernel
theorem dX7_change_19 : decode cX7_change 19 = .ok (.iload_n 1, 1) := by decide +kernel
theorem dX7_change_20 : decode cX7_change 20 = .ok (.iaload, 1) := by decide +kernel
theorem dX7_change_21 : decode cX7_change 21 = .ok (.invokestatic 78, 3) := by decide +kernel
theorem dX7_change_24 : decode cX7_change 24 = .ok (.ifCond .ne 5, 3) := by decide +kernel
theorem dX7_change_27 : decode cX7_change 27 = .ok (.iconst (-1), 1) := by decide +kernel
theorem dX7_change_28 : decode cX7_change 28 = .ok (.ireturn, 1) := by decide +kernel
theorem dX7_change_29 : decode cX7_change 29 = .ok (.aload_n 0, 1) := by decide +kernel
theorem dX7_change_30 : decode cX7_change 30 = .ok (.getfield 19, 3) := by decide +kernel
theorem dX7_change_33 : decode cX7_change 33 = .ok (.iload_n 1, 1) := by decide +kernel
theorem dX7_change_34 : decode cX7_change 34 = .ok (.iaload, 1) := by decide +kernel
theorem dX7_change_35 : decode cX7_change 35 = .ok (.istore_n 3, 1) := by decide +kernel
theorem dX7_change_36 : decode cX7_change 36 = .ok (.aload_n 0, 1) := by decide +kernel
theorem dX7_change_37 : decode cX7_change 37 = .ok (.getfield 19, 3) := by decide +kernel
theorem dX7_change_40 : decode cX7_change 40 = .ok (.iload_n 1, 1) := by decide +kernel
theorem dX7_change_41 : decode cX7_change 41 = .ok (.iload_n 2, 1) := by decide +kernel
theorem dX7_change_42 : decode cX7_change 42 = .ok (.iastore, 1) := by decide +kernel
theorem dX7_change_43 : decode cX7_change 43 = .ok (.iload_n 3, 1) := by decide +kernel
theorem dX7_change_44 : decode cX7_change 44 = .ok (.iload_n 2, 1) := by decide +kernel
theorem dX7_change_45 : decode cX7_change 45 = .ok (.if_icmp .ne 8, 3) := by decide +kernel
theorem dX7_change_48 : decode cX7_change 48 = .ok (.bipush (-2), 2) := by decide +kernel
theorem dX7_change_50 : decode cX7_change 50 = .ok (.goto 4, 3) := by decide +kernel
theorem dX7_change_53 : decode cX7_change 53 = .ok (.iload_n 3, 1) := by decide +kernel
theorem dX7_change_54 : decode cX7_change 54 = .ok (.ireturn, 1) := by decide +kernel
theorem dX7_paintLetter_0 : decode cX7_paintLetter 0 = .ok (.iload_n 1, 1) := by decide +kernel
theorem dX7_paintLetter_1 : decode cX7_paintLetter 1 = .ok (.iconst 0, 1) := by decide +kernel
theorem dX7_paintLetter_2 : decode cX7_paintLetter 2 = .ok (.bipush 7, 2) := by decide +kernel
theorem dX7_paintLetter_4 : decode cX7_paintLetter 4 = .ok (.invokestatic 78, 3) := by decide +kernel
theorem dX7_paintLetter_7 : decode cX7_paintLetter 7 = .ok (.ifCond .eq 13, 3) := by decide +kernel
theorem dX7_paintLetter_10 : decode cX7_paintLetter 10 = .ok (.iload_n 2, 1) := by decide +kernel
theorem dX7_paintLetter_11 : decode cX7_paintLetter 11 = .ok (.iload_n 3, 1) := by decide +kernel
theorem dX7_paintLetter_12 : decode cX7_paintLetter 12 = .ok (.iload 4, 2) := by decide +kernel
theorem dX7_paintLetter_14 : decode cX7_paintLetter 14 = .ok (.invokestatic 92, 3) := by decide +kernel
theorem dX7_paintLetter_17 : decode cX7_paintLetter 17 = .ok (.ifCond .ne 5, 3) := by decide +kernel
theorem dX7_paintLetter_20 : decode cX7_paintLetter 20 = .ok (.iconst (-1), 1) := by decide +kernel
theorem dX7_paintLetter_21 : decode cX7_paintLetter 21 = .ok (.ireturn, 1) := by decide +kernel
theorem dX7_paintLetter_22 : decode cX7_paintLetter 22 = .ok (.iload_n 1, 1) := by decide +kernel
theorem dX7_paintLetter_23 : decode cX7_paintLetter 23 = .ok (.iconst 3, 1) := by decide +kernel
theorem dX7_paintLetter_24 : decode cX7_paintLetter 24 = .ok (.imul, 1) := by decide +kernel
theorem dX7_paintLetter_25 : decode cX7_paintLetter 25 = .ok (.istore 5, 2) := by decide +kernel
theorem dX7_paintLetter_27 : decode cX7_paintLetter 27 = .ok (.aload_n 0, 1) := by decide +kernel
theorem dX7_paintLetter_28 : decode cX7_paintLetter 28 = .ok (.aload_n 0, 1) := by decide +kernel
theorem dX7_paintLetter_29 : decode cX7_paintLetter 29 = .ok (.getfield 25, 3) := by decide +kernel
theorem dX7_paintLetter_32 : decode cX7_paintLetter 32 = .ok (.iload 5, 2) := by decide +kernel
theorem dX7_paintLetter_34 : decode cX7_paintLetter 34 = .ok (.iaload, 1) := by decide +kernel
theorem dX7_paintLetter_35 : decode cX7_paintLetter 35 = .ok (.iload_n 2, 1) := by decide +kernel
theorem dX7_paintLetter_36 : decode cX7_paintLetter 36 = .ok (.isub, 1) := by decide +kernel
theorem dX7_paintLetter_37 : decode cX7_paintLetter 37 = .ok (.aload_n 0, 1) := by decide +kernel
theorem dX7_paintLetter_38 : decode cX7_paintLetter 38 = .ok (.getfield 25, 3) := by decide +kernel
theorem dX7_paintLetter_41 : decode cX7_paintLetter 41 = .ok (.iload 5, 2) := by decide +kernel
theorem dX7_paintLetter_43 : decode cX7_paintLetter 43 = .ok (.iconst 1, 1) := by decide +kernel
theorem dX7_paintLetter_44 : decode cX7_paintLetter 44 = .ok (.iadd, 1) := by decide +kernel
theorem dX7_paintLetter_45 : decode cX7_paintLetter 45 = .ok (.iaload, 1) := by decide +kernel
theorem dX7_paintLetter_46 : decode cX7_paintLetter 46 = .ok (.iload_n 3, 1) := by decide +kernel
theorem dX7_paintLetter_47 : decode cX7_paintLetter 47 = .ok (.isub, 1) := by decide +kernel
theorem dX7_paintLetter_48 : decode cX7_paintLetter 48 = .ok (.aload_n 0, 1) := by decide +kernel
theorem dX7_paintLetter_49 : decode cX7_paintLetter 49 = .ok (.getfield 25, 3) := by decide +kernel
theorem dX7_paintLetter_52 : decode cX7_paintLetter 52 = .ok (.iload 5, 2) := by decide +kernel
theorem dX7_paintLetter_54 : decode cX7_paintLetter 54 = .ok (.iconst 2, 1) := by decide +kernel
theorem dX7_paintLetter_55 : decode cX7_paintLetter 55 = .ok (.iadd, 1) := by decide +kernel
theorem dX7_paintLetter_56 : decode cX7_paintLetter 56 = .ok (.iaload, 1) := by decide +kernel
theorem dX7_paintLetter_57 : decode cX7_paintLetter 57 = .ok (.iload 4, 2) := by decide +kernel
theorem dX7_paintLetter_59 : decode cX7_paintLetter 59 = .ok (.isub, 1) := by decide +kernel
theorem dX7_paintLetter_60 : decode cX7_paintLetter 60 = .ok (.invokevirtual 95, 3) := by decide +kernel
theorem dX7_paintLetter_63 : decode cX7_paintLetter 63 = .ok (.istore 6, 2) := by decide +kernel
theorem dX7_paintLetter_65 : decode cX7_paintLetter 65 = .ok (.aload_n 0, 1) := by decide +kernel
theorem dX7_paintLetter_66 : decode cX7_paintLetter 66 = .ok (.getfield 25, 3) := by decide +kernel
theorem dX7_paintLetter_69 : decode cX7_paintLetter 69 = .ok (.iload 5, 2) := by decide +kernel
theorem dX7_paintLetter_71 : decode cX7_paintLetter 71 = .ok (.iload_n 2, 1) := by decide +kernel
theorem dX7_paintLetter_72 : decode cX7_paintLetter 72 = .ok (.iastore, 1) := by decide +kernel
theorem dX7_paintLetter_73 : decode cX7_paintLetter 73 = .ok (.aload_n 0, 1) := by decide +kernel
theorem dX7_paintLetter_74 : decode cX7_paintLetter 74 = .ok (.getfield 25, 3) := by decide +kernel
theorem dX7_paintLetter_77 : decode cX7_paintLetter 77 = .ok (.iload 5, 2) := by decide +kernel
theorem dX7_paintLetter_79 : decode cX7_paintLetter 79 = .ok (.iconst 1, 1) := by decide +kernel
theorem dX7_paintLetter_80 : decode cX7_paintLetter 80 = .ok (.iadd, 1) := by decide +kernel
theorem dX7_paintLetter_81 : decode cX7_paintLetter 81 = .ok (.iload_n 3, 1) := by decide +kernel
theorem dX7_paintLetter_82 : decode cX7_paintLetter 82 = .ok (.iastore, 1) := by decide +kernel
theorem dX7_paintLetter_83 : decode cX7_paintLetter 83 = .ok (.aload_n 0, 1) := by decide +kernel
theorem dX7_paintLetter_84 : decode cX7_paintLetter 84 = .ok (.getfield 25, 3) := by decide +kernel
theorem dX7_paintLetter_87 : decode cX7_paintLetter 87 = .ok (.iload 5, 2) := by decide +kernel
theorem dX7_paintLetter_89 : decode cX7_paintLetter 89 = .ok (.iconst 2, 1) := by decide +kernel
theorem dX7_paintLetter_90 : decode cX7_paintLetter 90 = .ok (.iadd, 1) := by decide +kernel
theorem dX7_paintLetter_91 : decode cX7_paintLetter 91 = .ok (.iload 4, 2) := by decide +kernel
theorem dX7_paintLetter_93 : decode cX7_paintLetter 93 = .ok (.iastore, 1) := by decide +kernel
theorem dX7_paintLetter_94 : decode cX7_paintLetter 94 = .ok (.iload 6, 2) := by decide +kernel
theorem dX7_paintLetter_96 : decode cX7_paintLetter 96 = .ok (.ireturn, 1) := by decide +kernel
theorem dX7_hang_0 : decode cX7_hang 0 = .ok (.iconst 0, 1) := by decide +kernel
theorem dX7_hang_1 : decode cX7_hang 1 = .ok (.istore_n 2, 1) := by decide +kernel
theorem dX7_hang_2 : decode cX7_hang 2 = .ok (.aload_n 0, 1) := by decide +kernel
theorem dX7_hang_3 : decode cX7_hang 3 = .ok (.aload_n 1, 1) := by decide +kernel
theorem dX7_hang_4 : decode cX7_hang 4 = .ok (.getfield 99, 3) := by decide +kernel
theorem dX7_hang_7 : decode cX7_hang 7 = .ok (.ifCond .ne 7, 3) := by decide +kernel
theorem dX7_hang_10 : decode cX7_hang 10 = .ok (.iconst 0, 1) := by decide +kernel
theorem dX7_hang_11 : decode cX7_hang 11 = .ok (.goto 4, 3) := by decide +kernel
theorem dX7_hang_14 : decode cX7_hang 14 = .ok (.iconst 1, 1) := by decide +kernel
theorem dX7_hang_15 : decode cX7_hang 15 = .ok (.putfield 56, 3) := by decide +kernel
theorem dX7_hang_18 : decode cX7_hang 18 = .ok (.iconst 0, 1) := by decide +kernel
theorem dX7_hang_19 : decode cX7_hang 19 = .ok (.istore_n 3, 1) := by decide +kernel
theorem dX7_hang_20 : decode cX7_hang 20 = .ok (.iload_n 3, 1) := by decide +kernel
theorem dX7_hang_21 : decode cX7_hang 21 = .ok (.aload_n 1, 1) := by decide +kernel
theorem dX7_hang_22 : decode cX7_hang 22 = .ok (.getfield 99, 3) := by decide +kernel
theorem dX7_hang_25 : decode cX7_hang 25 = .ok (.if_icmp .ge 61, 3) := by decide +kernel
theorem dX7_hang_28 : decode cX7_hang 28 = .ok (.iload_n 2, 1) := by decide +kernel
theorem dX7_hang_29 : decode cX7_hang 29 = .ok (.bipush 64, 2) := by decide +kernel
theorem dX7_hang_31 : decode cX7_hang 31 = .ok (.if_icmp .gt 55, 3) := by decide +kernel
theorem dX7_hang_34 : decode cX7_hang 34 = .ok (.aload_n 1, 1) := by decide +kernel
theorem dX7_hang_35 : decode cX7_hang 35 = .ok (.iload_n 3, 1) := by decide +kernel
theorem dX7_hang_36 : decode cX7_hang 36 = .ok (.invokevirtual 104, 3) := by decide +kernel
theorem dX7_hang_39 : decode cX7_hang 39 = .ok (.bipush 47, 2) := by decide +kernel
theorem dX7_hang_41 : decode cX7_hang 41 = .ok (.if_icmp .ne 16, 3) := by decide +kernel
theorem dX7_hang_44 : decode cX7_hang 44 = .ok (.aload_n 0, 1) := by decide +kernel
theorem dX7_hang_45 : decode cX7_hang 45 = .ok (.dup, 1) := by decide +kernel
theorem dX7_hang_46 : decode cX7_hang 46 = .ok (.getfield 56, 3) := by decide +kernel
theorem dX7_hang_49 : decode cX7_hang 49 = .ok (.iconst 1, 1) := by decide +kernel
theorem dX7_hang_50 : decode cX7_hang 50 = .ok (.iadd, 1) := by decide +kernel
theorem dX7_hang_51 : decode cX7_hang 51 = .ok (.putfield 56, 3) := by decide +kernel
theorem dX7_hang_54 : decode cX7_hang 54 = .ok (.goto 26, 3) := by decide +kernel
theorem dX7_hang_57 : decode cX7_hang 57 = .ok (.iload_n 2, 1) := by decide +kernel
theorem dX7_hang_58 : decode cX7_hang 58 = .ok (.bipush 64, 2) := by decide +kernel
theorem dX7_hang_60 : decode cX7_hang 60 = .ok (.if_icmp .ge 20, 3) := by decide +kernel
theorem dX7_hang_63 : decode cX7_hang 63 = .ok (.aload_n 0, 1) := by decide +kernel
theorem dX7_hang_64 : decode cX7_hang 64 = .ok (.getfield 28, 3) := by decide +kernel
theorem dX7_hang_67 : decode cX7_hang 67 = .ok (.iload_n 2, 1) := by decide +kernel
theorem dX7_hang_68 : decode cX7_hang 68 = .ok (.aload_n 1, 1) := by decide +kernel
theorem dX7_hang_69 : decode cX7_hang 69 = .ok (.iload_n 3, 1) := by decide +kernel
theorem dX7_hang_70 : decode cX7_hang 70 = .ok (.invokevirtual 104, 3) := by decide +kernel
theorem dX7_hang_73 : decode cX7_hang 73 = .ok (.bipush 97, 2) := by decide +kernel
theorem dX7_hang_75 : decode cX7_hang 75 = .ok (.isub, 1) := by decide +kernel
theorem dX7_hang_76 : decode cX7_hang 76 = .ok (.iastore, 1) := by decide +kernel
theorem dX7_hang_77 : decode cX7_hang 77 = .ok (.iinc 2 1, 3) := by decide +kernel
theorem dX7_hang_80 : decode cX7_hang 80 = .ok (.iinc 3 1, 3) := by decide +kernel
theorem dX7_hang_83 : decode cX7_hang 83 = .ok (.goto (-63), 3) := by decide +kernel
theorem dX7_hang_86 : decode cX7_hang 86 = .ok (.aload_n 0, 1) := by decide +kernel
theorem dX7_hang_87 : decode cX7_hang 87 = .ok (.aload_n 0, 1) := by decide +kernel
theorem dX7_hang_88 : decode cX7_hang 88 = .ok (.getfield 56, 3) := by decide +kernel
theorem dX7_hang_91 : decode cX7_hang 91 = .ok (.ifCond .ne 7, 3) := by decide +kernel
theorem dX7_hang_94 : decode cX7_hang 94 = .ok (.iconst 0, 1) := by decide +kernel
theorem dX7_hang_95 : decode cX7_hang 95 = .ok (.goto 9, 3) := by decide +kernel
theorem dX7_hang_98 : decode cX7_hang 98 = .ok (.iload_n 2, 1) := by decide +kernel
theorem dX7_hang_99 : decode cX7_hang 99 = .ok (.aload_n 0, 1) := by decide +kernel
theorem dX7_hang_100 : decode cX7_hang 100 = .ok (.getfield 56, 3) := by decide +kernel
theorem dX7_hang_103 : decode cX7_hang 103 = .ok (.idiv, 1) := by decide +kernel
theorem dX7_hang_104 : decode cX7_hang 104 = .ok (.putfield 52, 3) := by decide +kernel
theorem dX7_hang_107 : decode cX7_hang 107 = .ok (.return_, 1) := by decide +kernel
theorem dX7_cellCount_0 : decode cX7_cellCount 0 = .ok (.aload_n 0, 1) := by decide +kernel
theorem dX7_cellCount_1 : decode cX7_cellCount 1 = .ok (.getfield 52, 3) := by decide +kernel
theorem dX7_cellCount_4 : decode cX7_cellCount 4 = .ok (.aload_n 0, 1) := by decide +kernel
theorem dX7_cellCount_5 : decode cX7_cellCount 5 = .ok (.getfield 56, 3) := by decide +kernel
theorem dX7_cellCount_8 : decode cX7_cellCount 8 = .ok (.imul, 1) := by decide +kernel
theorem dX7_cellCount_9 : decode cX7_cellCount 9 = .ok (.ireturn, 1) := by decide +kernel
theorem dX7_bentFromStraight_0 : decode cX7_bentFromStraight 0 = .ok (.iconst 0, 1) := by decide +kernel
theorem dX7_bentFromStraight_1 : decode cX7_bentFromStraight 1 = .ok (.istore_n 2, 1) := by decide +kernel
theorem dX7_bentFromStraight_2 : decode cX7_bentFromStraight 2 = .ok (.iconst 0, 1) := by decide +kernel
theorem dX7_bentFromStraight_3 : decode cX7_bentFromStraight 3 = .ok (.istore_n 3, 1) := by decide +kernel
theorem dX7_bentFromStraight_4 : decode cX7_bentFromStraight 4 = .ok (.iload_n 3, 1) := by decide +kernel
theorem dX7_bentFromStraight_5 : decode cX7_bentFromStraight 5 = .ok (.bipush 9, 2) := by decide +kernel
theorem dX7_bentFromStraight_7 : decode cX7_bentFromStraight 7 = .ok (.if_icmp .ge 28, 3) := by decide +kernel
theorem dX7_bentFromStraight_10 : decode cX7_bentFromStraight 10 = .ok (.iload_n 2, 1) := by decide +kernel
theorem dX7_bentFromStraight_11 : decode cX7_bentFromStraight 11 = .ok (.aload_n 0, 1) := by decide +kernel
theorem dX7_bentFromStraight_12 : decode cX7_bentFromStraight 12 = .ok (.getfield 22, 3) := by decide +kernel
theorem dX7_bentFromStraight_15 : decode cX7_bentFromStraight 15 = .ok (.iload_n 1, 1) := by decide +kernel
theorem dX7_bentFromStraight_16 : decode cX7_bentFromStraight 16 = .ok (.bipush 9, 2) := by decide +kernel
theorem dX7_bentFromStraight_18 : decode cX7_bentFromStraight 18 = .ok (.imul, 1) := by decide +kernel
theorem dX7_bentFromStraight_19 : decode cX7_bentFromStraight 19 = .ok (.iload_n 3, 1) := by decide +kernel
theorem dX7_bentFromStraight_20 : decode cX7_bentFromStraight 20 = .ok (.iadd, 1) := by decide +kernel
theorem dX7_bentFromStraight_21 : decode cX7_bentFromStraight 21 = .ok (.iaload, 1) := by decide +kernel
theorem dX7_bentFromStraight_22 : decode cX7_bentFromStraight 22 = .ok (.iload_n 3, 1) := by decide +kernel
theorem dX7_bentFromStraight_23 : decode cX7_bentFromStraight 23 = .ok (.isub, 1) := by decide +kernel
theorem dX7_bentFromStraight_24 : decode cX7_bentFromStraight 24 = .ok (.invokestatic 108, 3) := by decide +kernel
theorem dX7_bentFromStraight_27 : decode cX7_bentFromStraight 27 = .ok (.iadd, 1) := by decide +kernel
theorem dX7_bentFromStraight_28 : decode cX7_bentFromStraight 28 = .ok (.istore_n 2, 1) := by decide +kernel
theorem dX7_bentFromStraight_29 : decode cX7_bentFromStraight 29 = .ok (.iinc 3 1, 3) := by decide +kernel
theorem dX7_bentFromStraight_32 : decode cX7_bentFromStraight 32 = .ok (.goto (-28), 3) := by decide +kernel
theorem dX7_bentFromStraight_35 : decode cX7_bentFromStraight 35 = .ok (.iload_n 2, 1) := by decide +kernel
theorem dX7_bentFromStraight_36 : decode cX7_bentFromStraight 36 = .ok (.ireturn, 1) := by decide +kernel
theorem dX7_weighed_0 : decode cX7_weighed 0 = .ok (.aload_n 0, 1) := by decide +kernel
theorem dX7_weighed_1 : decode cX7_weighed 1 = .ok (.getfield 19, 3) := by decide +kernel
theorem dX7_weighed_4 : decode cX7_weighed 4 = .ok (.iconst 4, 1) := by decide +kernel
theorem dX7_weighed_5 : decode cX7_weighed 5 = .ok (.iaload, 1) := by decide +kernel
theorem dX7_weighed_6 : decode cX7_weighed 6 = .ok (.iload_n 1, 1) := by decide +kernel
theorem dX7_weighed_7 : decode cX7_weighed 7 = .ok (.imul, 1) := by decide +kernel
theorem dX7_weighed_8 : decode cX7_weighed 8 = .ok (.iload_n 1, 1) := by decide +kernel
theorem dX7_weighed_9 : decode cX7_weighed 9 = .ok (.imul, 1) := by decide +kernel
theorem dX7_weighed_10 : decode cX7_weighed 10 = .ok (.aload_n 0, 1) := by decide +kernel
theorem dX7_weighed_11 : decode cX7_weighed 11 = .ok (.getfield 19, 3) := by decide +kernel
theorem dX7_weighed_14 : decode cX7_weighed 14 = .ok (.iconst 5, 1) := by decide +kernel
theorem dX7_weighed_15 : decode cX7_weighed 15 = .ok (.iaload, 1) := by decide +kernel
theorem dX7_weighed_16 : decode cX7_weighed 16 = .ok (.iload_n 2, 1) := by decide +kernel
theorem dX7_weighed_17 : decode cX7_weighed 17 = .ok (.imul, 1) := by decide +kernel
theorem dX7_weighed_18 : decode cX7_weighed 18 = .ok (.iload_n 2, 1) := by decide +kernel
theorem dX7_weighed_19 : decode cX7_weighed 19 = .ok (.imul, 1) := by decide +kernel
theorem dX7_weighed_20 : decode cX7_weighed 20 = .ok (.iadd, 1) := by decide +kernel
theorem dX7_weighed_21 : decode cX7_weighed 21 = .ok (.aload_n 0, 1) := by decide +kernel
theorem dX7_weighed_22 : decode cX7_weighed 22 = .ok (.getfield 19, 3) := by decide +kernel
theorem dX7_weighed_25 : decode cX7_weighed 25 = .ok (.bipush 6, 2) := by decide +kernel
theorem dX7_weighed_27 : decode cX7_weighed 27 = .ok (.iaload, 1) := by decide +kernel
theorem dX7_weighed_28 : decode cX7_weighed 28 = .ok (.iload_n 3, 1) := by decide +kernel
theorem dX7_weighed_29 : decode cX7_weighed 29 = .ok (.imul, 1) := by decide +kernel
theorem dX7_weighed_30 : decode cX7_weighed 30 = .ok (.iload_n 3, 1) := by decide +kernel
theorem dX7_weighed_31 : decode cX7_weighed 31 = .ok (.imul, 1) := by decide +kernel
theorem dX7_weighed_32 : decode cX7_weighed 32 = .ok (.iadd, 1) := by decide +kernel
theorem dX7_weighed_33 : decode cX7_weighed 33 = .ok (.ireturn, 1) := by decide +kernel
theorem dX7_unlike_0 : decode cX7_unlike 0 = .ok (.aload_n 0, 1) := by decide +kernel
theorem dX7_unlike_1 : decode cX7_unlike 1 = .ok (.aload_n 0, 1) := by decide +kernel
theorem dX7_unlike_2 : decode cX7_unlike 2 = .ok (.iload_n 1, 1) := by decide +kernel
theorem dX7_unlike_3 : decode cX7_unlike 3 = .ok (.iconst 0, 1) := by decide +kernel
theorem dX7_unlike_4 : decode cX7_unlike 4 = .ok (.invokevirtual 111, 3) := by decide +kernel
theorem dX7_unlike_7 : decode cX7_unlike 7 = .ok (.aload_n 0, 1) := by decide +kernel
theorem dX7_unlike_8 : decode cX7_unlike 8 = .ok (.iload_n 1, 1) := by decide +kernel
theorem dX7_unlike_9 : decode cX7_unlike 9 = .ok (.iconst 0, 1) := by decide +kernel
theorem dX7_unlike_10 : decode cX7_unlike 10 = .ok (.invokevirtual 63, 3) := by decide +kernel
theorem dX7_unlike_13 : decode cX7_unlike 13 = .ok (.isub, 1) := by decide +kernel
theorem dX7_unlike_14 : decode cX7_unlike 14 = .ok (.aload_n 0, 1) := by decide +kernel
theorem dX7_unlike_15 : decode cX7_unlike 15 = .ok (.iload_n 1, 1) := by decide +kernel
theorem dX7_unlike_16 : decode cX7_unlike 16 = .ok (.iconst 1, 1) := by decide +kernel
theorem dX7_unlike_17 : decode cX7_unlike 17 = .ok (.invokevirtual 111, 3) := by decide +kernel
theorem dX7_unlike_20 : decode cX7_unlike 20 = .ok (.aload_n 0, 1) := by decide +kernel
theorem dX7_unlike_21 : decode cX7_unlike 21 = .ok (.iload_n 1, 1) := by decide +kernel
theorem dX7_unlike_22 : decode cX7_unlike 22 = .ok (.iconst 1, 1) := by decide +kernel
theorem dX7_unlike_23 : decode cX7_unlike 23 = .ok (.invokevirtual 63, 3) := by decide +kernel
theorem dX7_unlike_26 : decode cX7_unlike 26 = .ok (.isub, 1) := by decide +kernel
theorem dX7_unlike_27 : decode cX7_unlike 27 = .ok (.aload_n 0, 1) := by decide +kernel
theorem dX7_unlike_28 : decode cX7_unlike 28 = .ok (.iload_n 1, 1) := by decide +kernel
theorem dX7_unlike_29 : decode cX7_unlike 29 = .ok (.iconst 2, 1) := by decide +kernel
theorem dX7_unlike_30 : decode cX7_unlike 30 = .ok (.invokevirtual 111, 3) := by decide +kernel
theorem dX7_unlike_33 : decode cX7_unlike 33 = .ok (.aload_n 0, 1) := by decide +kernel
theorem dX7_unlike_34 : decode cX7_unlike 34 = .ok (.iload_n 1, 1) := by decide +kernel
theorem dX7_unlike_35 : decode cX7_unlike 35 = .ok (.iconst 2, 1) := by decide +kernel
theorem dX7_unlike_36 : decode cX7_unlike 36 = .ok (.invokevirtual 63, 3) := by decide +kernel
theorem dX7_unlike_39 : decode cX7_unlike 39 = .ok (.isub, 1) := by decide +kernel
theorem dX7_unlike_40 : decode cX7_unlike 40 = .ok (.invokevirtual 95, 3) := by decide +kernel
theorem dX7_unlike_43 : decode cX7_unlike 43 = .ok (.ireturn, 1) := by decide +kernel
theorem dX7_isOpen_0 : decode cX7_isOpen 0 = .ok (.iload_n 1, 1) := by decide +kernel
theorem dX7_isOpen_1 : decode cX7_isOpen 1 = .ok (.invokestatic 114, 3) := by decide +kernel
theorem dX7_isOpen_4 : decode cX7_isOpen 4 = .ok (.aload_n 0, 1) := by decide +kernel
theorem dX7_isOpen_5 : decode cX7_isOpen 5 = .ok (.getfield 19, 3) := by decide +kernel
theorem dX7_isOpen_8 : decode cX7_isOpen 8 = .ok (.iconst 0, 1) := by decide +kernel
theorem dX7_isOpen_9 : decode cX7_isOpen 9 = .ok (.iaload, 1) := by decide +kernel
theorem dX7_isOpen_10 : decode cX7_isOpen 10 = .ok (.if_icmp .gt 21, 3) := by decide +kernel
theorem dX7_isOpen_13 : decode cX7_isOpen 13 = .ok (.iload_n 1, 1) := by decide +kernel
theorem dX7_isOpen_14 : decode cX7_isOpen 14 = .ok (.iconst 3, 1) := by decide +kernel
theorem dX7_isOpen_15 : decode cX7_isOpen 15 = .ok (.invokestatic 117, 3) := by decide +kernel
theorem dX7_isOpen_18 : decode cX7_isOpen 18 = .ok (.aload_n 0, 1) := by decide +kernel
theorem dX7_isOpen_19 : decode cX7_isOpen 19 = .ok (.getfield 19, 3) := by decide +kernel
theorem dX7_isOpen_22 : decode cX7_isOpen 22 = .ok (.iconst 3, 1) := by decide +kernel
theorem dX7_isOpen_23 : decode cX7_isOpen 23 = .ok (.iaload, 1) := by decide +kernel
theorem dX7_isOpen_24 : decode cX7_isOpen 24 = .ok (.if_icmp .gt 7, 3) := by decide +kernel
theorem dX7_isOpen_27 : decode cX7_isOpen 27 = .ok (.iconst 1, 1) := by decide +kernel
theorem dX7_isOpen_28 : decode cX7_isOpen 28 = .ok (.goto 4, 3) := by decide +kernel
theorem dX7_isOpen_31 : decode cX7_isOpen 31 = .ok (.iconst 0, 1) := by decide +kernel
theorem dX7_isOpen_32 : decode cX7_isOpen 32 = .ok (.ireturn, 1) := by decide +kernel
theorem dX8_init_0 : decode cX8_init 0 = .ok (.aload_n 0, 1) := by decide +kernel
theorem dX8_init_1 : decode cX8_init 1 = .ok (.invokespecial 3, 3) := by decide +kernel
theorem dX8_init_4 : decode cX8_init 4 = .ok (.aload_n 0, 1) := by decide +kernel
theorem dX8_init_5 : decode cX8_init 5 = .ok (.iload_n 1, 1) := by decide +kernel
theorem dX8_init_6 : decode cX8_init 6 = .ok (.putfield 9, 3) := by decide +kernel
theorem dX8_init_9 : decode cX8_init 9 = .ok (.aload_n 0, 1) := by decide +kernel
theorem dX8_init_10 : decode cX8_init 10 = .ok (.iload_n 2, 1) := by decide +kernel
theorem dX8_init_11 : decode cX8_init 11 = .ok (.putfield 15, 3) := by decide +kernel
theorem dX8_init_14 : decode cX8_init 14 = .ok (.aload_n 0, 1) := by decide +kernel
theorem dX8_init_15 : decode cX8_init 15 = .ok (.iload_n 3, 1) := by decide +kernel
theorem dX8_init_16 : decode cX8_init 16 = .ok (.putfield 18, 3) := by decide +kernel
theorem dX8_init_19 : decode cX8_init 19 = .ok (.return_, 1) := by decide +kernel
theorem dX8_append_0 : decode cX8_append 0 = .ok (.aload_n 0, 1) := by decide +kernel
theorem dX8_append_1 : decode cX8_append 1 = .ok (.getfield 21, 3) := by decide +kernel
theorem dX8_append_4 : decode cX8_append 4 = .ok (.ifnonnull 11, 3) := by decide +kernel
theorem dX8_append_7 : decode cX8_append 7 = .ok (.aload_n 0, 1) := by decide +kernel
theorem dX8_append_8 : decode cX8_append 8 = .ok (.aload_n 1, 1) := by decide +kernel
theorem dX8_append_9 : decode cX8_append 9 = .ok (.putfield 25, 3) := by decide +kernel
theorem dX8_append_12 : decode cX8_append 12 = .ok (.goto 11, 3) := by decide +kernel
theorem dX8_append_15 : decode cX8_append 15 = .ok (.aload_n 0, 1) := by decide +kernel
theorem dX8_append_16 : decode cX8_append 16 = .ok (.getfield 21, 3) := by decide +kernel
theorem dX8_append_19 : decode cX8_append 19 = .ok (.aload_n 1, 1) := by decide +kernel
theorem dX8_append_20 : decode cX8_append 20 = .ok (.putfield 28, 3) := by decide +kernel
theorem dX8_append_23 : decode cX8_append 23 = .ok (.aload_n 0, 1) := by decide +kernel
theorem dX8_append_24 : decode cX8_append 24 = .ok (.aload_n 1, 1) := by decide +kernel
theorem dX8_append_25 : decode cX8_append 25 = .ok (.putfield 21, 3) := by decide +kernel
theorem dX8_append_28 : decode cX8_append 28 = .ok (.return_, 1) := by decide +kernel
theorem dX8_longOf_0 : decode cX8_longOf 0 = .ok (.iconst 0, 1) := by decide +kernel
theorem dX8_longOf_1 : decode cX8_longOf 1 = .ok (.istore_n 2, 1) := by decide +kernel
theorem dX8_longOf_2 : decode cX8_longOf 2 = .ok (.iload_n 1, 1) := by decide +kernel
theorem dX8_longOf_3 : decode cX8_longOf 3 = .ok (.bipush 40, 2) := by decide +kernel
theorem dX8_longOf_5 : decode cX8_longOf 5 = .ok (.if_icmp .le 5, 3) := by decide +kernel
theorem dX8_longOf_8 : decode cX8_longOf 8 = .ok (.iload_n 2, 1) := by decide +kernel
theorem dX8_longOf_9 : decode cX8_longOf 9 = .ok (.ireturn, 1) := by decide +kernel
theorem dX8_longOf_10 : decode cX8_longOf 10 = .ok (.aload_n 0, 1) := by decide +kernel
theorem dX8_longOf_11 : decode cX8_longOf 11 = .ok (.astore_n 3, 1) := by decide +kernel
theorem dX8_longOf_12 : decode cX8_longOf 12 = .ok (.aload_n 3, 1) := by decide +kernel
theorem dX8_longOf_13 : decode cX8_longOf 13 = .ok (.ifnull 138, 3) := by decide +kernel
theorem dX8_longOf_16 : decode cX8_longOf 16 = .ok (.aload_n 3, 1) := by decide +kernel
theorem dX8_longOf_17 : decode cX8_longOf 17 = .ok (.getfield 9, 3) := by decide +kernel
theorem dX8_longOf_20 : decode cX8_longOf 20 = .ok (.tableswitch 120 105 112 #[102, 102, 120, 120, 120, 58, 81, 48], 48) := by decide +kernel
theorem dX8_longOf_68 : decode cX8_longOf 68 = .ok (.iload_n 2, 1) := by decide +kernel
theorem dX8_longOf_69 : decode cX8_longOf 69 = .ok (.aload_n 3, 1) := by decide +kernel
theorem dX8_longOf_70 : decode cX8_longOf 70 = .ok (.getfield 15, 3) := by decide +kernel
theorem dX8_longOf_73 : decode cX8_longOf 73 = .ok (.iadd, 1) := by decide +kernel
theorem dX8_longOf_74 : decode cX8_longOf 74 = .ok (.istore_n 2, 1) := by decide +kernel
theorem dX8_longOf_75 : decode cX8_longOf 75 = .ok (.goto 68, 3) := by decide +kernel
theorem dX8_longOf_78 : decode cX8_longOf 78 = .ok (.iload_n 2, 1) := by decide +kernel
theorem dX8_longOf_79 : decode cX8_longOf 79 = .ok (.iconst 1, 1) := by decide +kernel
theorem dX8_longOf_80 : decode cX8_longOf 80 = .ok (.aload_n 3, 1) := by decide +kernel
theorem dX8_longOf_81 : decode cX8_longOf 81 = .ok (.getfield 15, 3) := by decide +kernel
theorem dX8_longOf_84 : decode cX8_longOf 84 = .ok (.aload_n 3, 1) := by decide +kernel
theorem dX8_longOf_85 : decode cX8_longOf 85 = .ok (.getfield 25, 3) := by decide +kernel
theorem dX8_longOf_88 : decode cX8_longOf 88 = .ok (.iload_n 1, 1) := by decide +kernel
theorem dX8_longOf_89 : decode cX8_longOf 89 = .ok (.iconst 1, 1) := by decide +kernel
theorem dX8_longOf_90 : decode cX8_longOf 90 = .ok (.iadd, 1) := by decide +kernel
theorem dX8_longOf_91 : decode cX8_longOf 91 = .ok (.invokestatic 31, 3) := by decide +kernel
theorem dX8_longOf_94 : decode cX8_longOf 94 = .ok (.imul, 1) := by decide +kernel
theorem dX8_longOf_95 : decode cX8_longOf 95 = .ok (.iadd, 1) := by decide +kernel
theorem dX8_longOf_96 : decode cX8_longOf 96 = .ok (.iadd, 1) := by decide +kernel
theorem dX8_longOf_97 : decode cX8_longOf 97 = .ok (.istore_n 2, 1) := by decide +kernel
theorem dX8_longOf_98 : decode cX8_longOf 98 = .ok (.goto 45, 3) := by decide +kernel
theorem dX8_longOf_101 : decode cX8_longOf 101 = .ok (.iload_n 2, 1) := by decide +kernel
theorem dX8_longOf_102 : decode cX8_longOf 102 = .ok (.iconst 1, 1) := by decide +kernel
theorem dX8_longOf_103 : decode cX8_longOf 103 = .ok (.bipush 8, 2) := by decide +kernel
theorem dX8_longOf_105 : decode cX8_longOf 105 = .ok (.aload_n 3, 1) := by decide +kernel
theorem dX8_longOf_106 : decode cX8_longOf 106 = .ok (.getfield 25, 3) := by decide +kernel
theorem dX8_longOf_109 : decode cX8_longOf 109 = .ok (.iload_n 1, 1) := by decide +kernel
theorem dX8_longOf_110 : decode cX8_longOf 110 = .ok (.iconst 1, 1) := by decide +kernel
theorem dX8_longOf_111 : decode cX8_longOf 111 = .ok (.iadd, 1) := by decide +kernel
theorem dX8_longOf_112 : decode cX8_longOf 112 = .ok (.invokestatic 31, 3) := by decide +kernel
theorem dX8_longOf_115 : decode cX8_longOf 115 = .ok (.imul, 1) := by decide +kernel
theorem dX8_longOf_116 : decode cX8_longOf 116 = .ok (.iadd, 1) := by decide +kernel
theorem dX8_longOf_117 : decode cX8_longOf 117 = .ok (.iadd, 1) := by decide +kernel
theorem dX8_longOf_118 : decode cX8_longOf 118 = .ok (.istore_n 2, 1) := by decide +kernel
theorem dX8_longOf_119 : decode cX8_longOf 119 = .ok (.goto 24, 3) := by decide +kernel
theorem dX8_longOf_122 : decode cX8_longOf 122 = .ok (.iload_n 2, 1) := by decide +kernel
theorem dX8_longOf_123 : decode cX8_longOf 123 = .ok (.iconst 1, 1) := by decide +kernel
theorem dX8_longOf_124 : decode cX8_longOf 124 = .ok (.aload_n 3, 1) := by decide +kernel
theorem dX8_longOf_125 : decode cX8_longOf 125 = .ok (.getfield 25, 3) := by decide +kernel
theorem dX8_longOf_128 : decode cX8_longOf 128 = .ok (.iload_n 1, 1) := by decide +kernel
theorem dX8_longOf_129 : decode cX8_longOf 129 = .ok (.iconst 1, 1) := by decide +kernel
theorem dX8_longOf_130 : decode cX8_longOf 130 = .ok (.iadd, 1) := by decide +kernel
theorem dX8_longOf_131 : decode cX8_longOf 131 = .ok (.invokestatic 31, 3) := by decide +kernel
theorem dX8_longOf_134 : decode cX8_longOf 134 = .ok (.iadd, 1) := by decide +kernel
theorem dX8_longOf_135 : decode cX8_longOf 135 = .ok (.iadd, 1) := by decide +kernel
theorem dX8_longOf_136 : decode cX8_longOf 136 = .ok (.istore_n 2, 1) := by decide +kernel
theorem dX8_longOf_137 : decode cX8_longOf 137 = .ok (.goto 6, 3) := by decide +kernel
theorem dX8_longOf_140 : decode cX8_longOf 140 = .ok (.iinc 2 1, 3) := by decide +kernel
theorem dX8_longOf_143 : decode cX8_longOf 143 = .ok (.aload_n 3, 1) := by decide +kernel
theorem dX8_longOf_144 : decode cX8_longOf 144 = .ok (.getfield 28, 3) := by decide +kernel
theorem dX8_longOf_147 : decode cX8_longOf 147 = .ok (.astore_n 3, 1) := by decide +kernel
theorem dX8_longOf_148 : decode cX8_longOf 148 = .ok (.goto (-136), 3) := by decide +kernel
theorem dX8_longOf_151 : decode cX8_longOf 151 = .ok (.iload_n 2, 1) := by decide +kernel
theorem dX8_longOf_152 : decode cX8_longOf 152 = .ok (.ireturn, 1) := by decide +kernel
theorem dX9_init_0 : decode cX9_init 0 = .ok (.aload_n 0, 1) := by decide +kernel
theorem dX9_init_1 : decode cX9_init 1 = .ok (.invokespecial 3, 3) := by decide +kernel
theorem dX9_init_4 : decode cX9_init 4 = .ok (.aload_n 0, 1) := by decide +kernel
theorem dX9_init_5 : decode cX9_init 5 = .ok (.bipush 80, 2) := by decide +kernel
theorem dX9_init_7 : decode cX9_init 7 = .ok (.newarray .int, 2) := by decide +kernel
theorem dX9_init_9 : decode cX9_init 9 = .ok (.putfield 9, 3) := by decide +kernel
theorem dX9_init_12 : decode cX9_init 12 = .ok (.return_, 1) := by decide +kernel
theorem dX9_append_0 : decode cX9_append 0 = .ok (.aload_n 0, 1) := by decide +kernel
theorem dX9_append_1 : decode cX9_append 1 = .ok (.getfield 15, 3) := by decide +kernel
theorem dX9_append_4 : decode cX9_append 4 = .ok (.bipush 80, 2) := by decide +kernel
theorem dX9_append_6 : decode cX9_append 6 = .ok (.if_icmp .ge 23, 3) := by decide +kernel
theorem dX9_append_9 : decode cX9_append 9 = .ok (.aload_n 0, 1) := by decide +kernel
theorem dX9_append_10 : decode cX9_append 10 = .ok (.getfield 9, 3) := by decide +kernel
theorem dX9_append_13 : decode cX9_append 13 = .ok (.aload_n 0, 1) := by decide +kernel
theorem dX9_append_14 : decode cX9_append 14 = .ok (.getfield 15, 3) := by decide +kernel
theorem dX9_append_17 : decode cX9_append 17 = .ok (.iload_n 1, 1) := by decide +kernel
theorem dX9_append_18 : decode cX9_append 18 = .ok (.iastore, 1) := by decide +kernel
theorem dX9_append_19 : decode cX9_append 19 = .ok (.aload_n 0, 1) := by decide +kernel
theorem dX9_append_20 : decode cX9_append 20 = .ok (.dup, 1) := by decide +kernel
theorem dX9_append_21 : decode cX9_append 21 = .ok (.getfield 15, 3) := by decide +kernel
theorem dX9_append_24 : decode cX9_append 24 = .ok (.iconst 1, 1) := by decide +kernel
theorem dX9_append_25 : decode cX9_append 25 = .ok (.iadd, 1) := by decide +kernel
theorem dX9_append_26 : decode cX9_append 26 = .ok (.putfield 15, 3) := by decide +kernel
theorem dX9_append_29 : decode cX9_append 29 = .ok (.return_, 1) := by decide +kernel
theorem dX9_at_0 : decode cX9_at 0 = .ok (.iload_n 1, 1) := by decide +kernel
theorem dX9_at_1 : decode cX9_at 1 = .ok (.ifCond .lt 20, 3) := by decide +kernel
theorem dX9_at_4 : decode cX9_at 4 = .ok (.iload_n 1, 1) := by decide +kernel
theorem dX9_at_5 : decode cX9_at 5 = .ok (.aload_n 0, 1) := by decide +kernel
theorem dX9_at_6 : decode cX9_at 6 = .ok (.getfield 15, 3) := by decide +kernel
theorem dX9_at_9 : decode cX9_at 9 = .ok (.if_icmp .ge 12, 3) := by decide +kernel
theorem dX9_at_12 : decode cX9_at 12 = .ok (.aload_n 0, 1) := by decide +kernel
theorem dX9_at_13 : decode cX9_at 13 = .ok (.getfield 9, 3) := by decide +kernel
theorem dX9_at_16 : decode cX9_at 16 = .ok (.iload_n 1, 1) := by decide +kernel
theorem dX9_at_17 : decode cX9_at 17 = .ok (.iaload, 1) := by decide +kernel
theorem dX9_at_18 : decode cX9_at 18 = .ok (.goto 4, 3) := by decide +kernel
theorem dX9_at_21 : decode cX9_at 21 = .ok (.iconst 0, 1) := by decide +kernel
theorem dX9_at_22 : decode cX9_at 22 = .ok (.ireturn, 1) := by decide +kernel
theorem dX9_digit_0 : decode cX9_digit 0 = .ok (.aload_n 0, 1) := by decide +kernel
theorem dX9_digit_1 : decode cX9_digit 1 = .ok (.iload_n 1, 1) := by decide +kernel
theorem dX9_digit_2 : decode cX9_digit 2 = .ok (.invokevirtual 19, 3) := by decide +kernel
theorem dX9_digit_5 : decode cX9_digit 5 = .ok (.bipush 48, 2) := by decide +kernel
theorem dX9_digit_7 : decode cX9_digit 7 = .ok (.isub, 1) := by decide +kernel
theorem dX9_digit_8 : decode cX9_digit 8 = .ok (.ireturn, 1) := by decide +kernel
theorem dX9_two_0 : decode cX9_two 0 = .ok (.bipush 10, 2) := by decide +kernel
theorem dX9_two_2 : decode cX9_two 2 = .ok (.aload_n 0, 1) := by decide +kernel
theorem dX9_two_3 : decode cX9_two 3 = .ok (.iload_n 1, 1) := by decide +kernel
theorem dX9_two_4 : decode cX9_two 4 = .ok (.invokevirtual 23, 3) := by decide +kernel
theorem dX9_two_7 : decode cX9_two 7 = .ok (.imul, 1) := by decide +kernel
theorem dX9_two_8 : decode cX9_two 8 = .ok (.aload_n 0, 1) := by decide +kernel
theorem dX9_two_9 : decode cX9_two 9 = .ok (.iload_n 1, 1) := by decide +kernel
theorem dX9_two_10 : decode cX9_two 10 = .ok (.iconst 1, 1) := by decide +kernel
theorem dX9_two_11 : decode cX9_two 11 = .ok (.iadd, 1) := by decide +kernel
theorem dX9_two_12 : decode cX9_two 12 = .ok (.invokevirtual 23, 3) := by decide +kernel
theorem dX9_two_15 : decode cX9_two 15 = .ok (.iadd, 1) := by decide +kernel
theorem dX9_two_16 : decode cX9_two 16 = .ok (.ireturn, 1) := by decide +kernel
theorem dX9_patch_0 : decode cX9_patch 0 = .ok (.bipush 27, 2) := by decide +kernel
theorem dX9_patch_2 : decode cX9_patch 2 = .ok (.aload_n 0, 1) := by decide +kernel
theorem dX9_patch_3 : decode cX9_patch 3 = .ok (.iload_n 1, 1) := by decide +kernel
theorem dX9_patch_4 : decode cX9_patch 4 = .ok (.invokevirtual 23, 3) := by decide +kernel
theorem dX9_patch_7 : decode cX9_patch 7 = .ok (.imul, 1) := by decide +kernel
theorem dX9_patch_8 : decode cX9_patch 8 = .ok (.bipush 9, 2) := by decide +kernel
theorem dX9_patch_10 : decode cX9_patch 10 = .ok (.aload_n 0, 1) := by decide +kernel
theorem dX9_patch_11 : decode cX9_patch 11 = .ok (.iload_n 1, 1) := by decide +kernel
theorem dX9_patch_12 : decode cX9_patch 12 = .ok (.iconst 1, 1) := by decide +kernel
theorem dX9_patch_13 : decode cX9_patch 13 = .ok (.iadd, 1) := by decide +kernel
theorem dX9_patch_14 : decode cX9_patch 14 = .ok (.invokevirtual 23, 3) := by decide +kernel
theorem dX9_patch_17 : decode cX9_patch 17 = .ok (.imul, 1) := by decide +kernel
theorem dX9_patch_18 : decode cX9_patch 18 = .ok (.iadd, 1) := by decide +kernel
theorem dX9_patch_19 : decode cX9_patch 19 = .ok (.iconst 3, 1) := by decide +kernel
theorem dX9_patch_20 : decode cX9_patch 20 = .ok (.aload_n 0, 1) := by decide +kernel
theorem dX9_patch_21 : decode cX9_patch 21 = .ok (.iload_n 1, 1) := by decide +kernel
theorem dX9_patch_22 : decode cX9_patch 22 = .ok (.iconst 2, 1) := by decide +kernel
theorem dX9_patch_23 : decode cX9_patch 23 = .ok (.iadd, 1) := by decide +kernel
theorem dX9_patch_24 : decode cX9_patch 24 = .ok (.invokevirtual 23, 3) := by decide +kernel
theorem dX9_patch_27 : decode cX9_patch 27 = .ok (.imul, 1) := by decide +kernel
theorem dX9_patch_28 : decode cX9_patch 28 = .ok (.iadd, 1) := by decide +kernel
theorem dX9_patch_29 : decode cX9_patch 29 = .ok (.aload_n 0, 1) := by decide +kernel
theorem dX9_patch_30 : decode cX9_patch 30 = .ok (.iload_n 1, 1) := by decide +kernel
theorem dX9_patch_31 : decode cX9_patch 31 = .ok (.iconst 3, 1) := by decide +kernel
theorem dX9_patch_32 : decode cX9_patch 32 = .ok (.iadd, 1) := by decide +kernel
theorem dX9_patch_33 : decode cX9_patch 33 = .ok (.invokevirtual 23, 3) := by decide +kernel
theorem dX9_patch_36 : decode cX9_patch 36 = .ok (.iadd, 1) := by decide +kernel
theorem dX9_patch_37 : decode cX9_patch 37 = .ok (.ireturn, 1) := by decide +kernel
theorem dX9_has_0 : decode cX9_has 0 = .ok (.iconst 0, 1) := by decide +kernel
theorem dX9_has_1 : decode cX9_has 1 = .ok (.istore_n 2, 1) := by decide +kernel
theorem dX9_has_2 : decode cX9_has 2 = .ok (.iload_n 2, 1) := by decide +kernel
theorem dX9_has_3 : decode cX9_has 3 = .ok (.aload_n 0, 1) := by decide +kernel
theorem dX9_has_4 : decode cX9_has 4 = .ok (.getfield 15, 3) := by decide +kernel
theorem dX9_has_7 : decode cX9_has 7 = .ok (.if_icmp .ge 21, 3) := by decide +kernel
theorem dX9_has_10 : decode cX9_has 10 = .ok (.aload_n 0, 1) := by decide +kernel
theorem dX9_has_11 : decode cX9_has 11 = .ok (.getfield 9, 3) := by decide +kernel
theorem dX9_has_14 : decode cX9_has 14 = .ok (.iload_n 2, 1) := by decide +kernel
theorem dX9_has_15 : decode cX9_has 15 = .ok (.iaload, 1) := by decide +kernel
theorem dX9_has_16 : decode cX9_has 16 = .ok (.iload_n 1, 1) := by decide +kernel
theorem dX9_has_17 : decode cX9_has 17 = .ok (.if_icmp .ne 5, 3) := by decide +kernel
theorem dX9_has_20 : decode cX9_has 20 = .ok (.iconst 1, 1) := by decide +kernel
theorem dX9_has_21 : decode cX9_has 21 = .ok (.ireturn, 1) := by decide +kernel
theorem dX9_has_22 : decode cX9_has 22 = .ok (.iinc 2 1, 3) := by decide +kernel
theorem dX9_has_25 : decode cX9_has 25 = .ok (.goto (-23), 3) := by decide +kernel
theorem dX9_has_28 : decode cX9_has 28 = .ok (.iconst 0, 1) := by decide +kernel
theorem dX9_has_29 : decode cX9_has 29 = .ok (.ireturn, 1) := by decide +kernel
theorem dX9_operand_0 : decode cX9_operand 0 = .ok (.aload_n 0, 1) := by decide +kernel
theorem dX9_operand_1 : decode cX9_operand 1 = .ok (.iload_n 1, 1) := by decide +kernel
theorem dX9_operand_2 : decode cX9_operand 2 = .ok (.invokevirtual 19, 3) := by decide +kernel
theorem dX9_operand_5 : decode cX9_operand 5 = .ok (.invokestatic 26, 3) := by decide +kernel
theorem dX9_operand_8 : decode cX9_operand 8 = .ok (.istore_n 2, 1) := by decide +kernel
theorem dX9_operand_9 : decode cX9_operand 9 = .ok (.iload_n 2, 1) := by decide +kernel
theorem dX9_operand_10 : decode cX9_operand 10 = .ok (.ifCond .lt 7, 3) := by decide +kernel
theorem dX9_operand_13 : decode cX9_operand 13 = .ok (.iload_n 2, 1) := by decide +kernel
theorem dX9_operand_14 : decode cX9_operand 14 = .ok (.goto 8, 3) := by decide +kernel
theorem dX9_operand_17 : decode cX9_operand 17 = .ok (.aload_n 0, 1) := by decide +kernel
theorem dX9_operand_18 : decode cX9_operand 18 = .ok (.iload_n 1, 1) := by decide +kernel
theorem dX9_operand_19 : decode cX9_operand 19 = .ok (.invokevirtual 23, 3) := by decide +kernel
theorem dX9_operand_22 : decode cX9_operand 22 = .ok (.ireturn, 1) := by decide +kernel
theorem dX9_inkOf_0 : decode cX9_inkOf 0 = .ok (.iload_n 0, 1) := by decide +kernel
theorem dX9_inkOf_1 : decode cX9_inkOf 1 = .ok (.ifCond .le 13, 3) := by decide +kernel
theorem dX9_inkOf_4 : decode cX9_inkOf 4 = .ok (.ldc 29, 2) := by decide +kernel
theorem dX9_inkOf_6 : decode cX9_inkOf 6 = .ok (.iload_n 0, 1) := by decide +kernel
theorem dX9_inkOf_7 : decode cX9_inkOf 7 = .ok (.i2c, 1) := by decide +kernel
theorem dX9_inkOf_8 : decode cX9_inkOf 8 = .ok (.invokevirtual 31, 3) := by decide +kernel
theorem dX9_inkOf_11 : decode cX9_inkOf 11 = .ok (.goto 4, 3) := by decide +kernel
theorem dX9_inkOf_14 : decode cX9_inkOf 14 = .ok (.iconst (-1), 1) := by decide +kernel
theorem dX9_inkOf_15 : decode cX9_inkOf 15 = .ok (.ireturn, 1) := by decide +kernel
theorem dX9_stepForm_0 : decode cX9_stepForm 0 = .ok (.iload_n 0, 1) := by decide +kernel
theorem dX9_stepForm_1 : decode cX9_stepForm 1 = .ok (.tableswitch 141 97 120 #[120, 141, 141, 141, 141, 141, 114, 123, 135, 138, 141, 111, 141, 129, 132, 111, 141, 141, 120, 141, 117, 111, 120, 126], 111) := by decide +kernel
theorem dX9_stepForm_112 : decode cX9_stepForm 112 = .ok (.ldc 36, 2) := by decide +kernel
theorem dX9_stepForm_114 : decode cX9_stepForm 114 = .ok (.areturn, 1) := by decide +kernel
theorem dX9_stepForm_115 : decode cX9_stepForm 115 = .ok (.ldc 38, 2) := by decide +kernel
theorem dX9_stepForm_117 : decode cX9_stepForm 117 = .ok (.areturn, 1) := by decide +kernel
theorem dX9_stepForm_118 : decode cX9_stepForm 118 = .ok (.ldc 40, 2) := by decide +kernel
theorem dX9_stepForm_120 : decode cX9_stepForm 120 = .ok (.areturn, 1) := by decide +kernel
theorem dX9_stepForm_121 : decode cX9_stepForm 121 = .ok (.ldc 42, 2) := by decide +kernel
theorem dX9_stepForm_123 : decode cX9_stepForm 123 = .ok (.areturn, 1) := by decide +kernel
theorem dX9_stepForm_124 : decode cX9_stepForm 124 = .ok (.ldc 44, 2) := by decide +kernel
theorem dX9_stepForm_126 : decode cX9_stepForm 126 = .ok (.areturn, 1) := by decide +kernel
theorem dX9_stepForm_127 : decode cX9_stepForm 127 = .ok (.ldc 46, 2) := by decide +kernel
theorem dX9_stepForm_129 : decode cX9_stepForm 129 = .ok (.areturn, 1) := by decide +kernel
theorem dX9_stepForm_130 : decode cX9_stepForm 130 = .ok (.ldc 48, 2) := by decide +kernel
theorem dX9_stepForm_132 : decode cX9_stepForm 132 = .ok (.areturn, 1) := by decide +kernel
theorem dX9_stepForm_133 : decode cX9_stepForm 133 = .ok (.ldc 50, 2) := by decide +kernel
theorem dX9_stepForm_135 : decode cX9_stepForm 135 = .ok (.areturn, 1) := by decide +kernel
theorem dX9_stepForm_136 : decode cX9_stepForm 136 = .ok (.ldc 52, 2) := by decide +kernel
theorem dX9_stepForm_138 : decode cX9_stepForm 138 = .ok (.areturn, 1) := by decide +kernel
theorem dX9_stepForm_139 : decode cX9_stepForm 139 = .ok (.ldc 54, 2) := by decide +kernel
theorem dX9_stepForm_141 : decode cX9_stepForm 141 = .ok (.areturn, 1) := by decide +kernel
theorem dX9_stepForm_142 : decode cX9_stepForm 142 = .ok (.ldc 56, 2) := by decide +kernel
theorem dX9_stepForm_144 : decode cX9_stepForm 144 = .ok (.areturn, 1) := by decide +kernel
theorem dX9_actForm_0 : decode cX9_actForm 0 = .ok (.iload_n 0, 1) := by decide +kernel
theorem dX9_actForm_1 : decode cX9_actForm 1 = .ok (.tableswitch 109 101 119 #[106, 94, 100, 109, 109, 109, 109, 97, 91, 109, 109, 109, 109, 109, 109, 100, 109, 109, 103], 91) := by decide +kernel
theorem dX9_actForm_92 : decode cX9_actForm 92 = .ok (.ldc 58, 2) := by decide +kernel
theorem dX9_actForm_94 : decode cX9_actForm 94 = .ok (.areturn, 1) := by decide +kernel
theorem dX9_actForm_95 : decode cX9_actForm 95 = .ok (.ldc 60, 2) := by decide +kernel
theorem dX9_actForm_97 : decode cX9_actForm 97 = .ok (.areturn, 1) := by decide +kernel
theorem dX9_actForm_98 : decode cX9_actForm 98 = .ok (.ldc 62, 2) := by decide +kernel
theorem dX9_actForm_100 : decode cX9_actForm 100 = .ok (.areturn, 1) := by decide +kernel
theorem dX9_actForm_101 : decode cX9_actForm 101 = .ok (.ldc 64, 2) := by decide +kernel
theorem dX9_actForm_103 : decode cX9_actForm 103 = .ok (.areturn, 1) := by decide +kernel
theorem dX9_actForm_104 : decode cX9_actForm 104 = .ok (.ldc 66, 2) := by decide +kernel
theorem dX9_actForm_106 : decode cX9_actForm 106 = .ok (.areturn, 1) := by decide +kernel
theorem dX9_actForm_107 : decode cX9_actForm 107 = .ok (.ldc 68, 2) := by decide +kernel
theorem dX9_actForm_109 : decode cX9_actForm 109 = .ok (.areturn, 1) := by decide +kernel
theorem dX9_actForm_110 : decode cX9_actForm 110 = .ok (.ldc 56, 2) := by decide +kernel
theorem dX9_actForm_112 : decode cX9_actForm 112 = .ok (.areturn, 1) := by decide +kernel
theorem dX9_formOf_0 : decode cX9_formOf 0 = .ok (.iload_n 0, 1) := by decide +kernel
theorem dX9_formOf_1 : decode cX9_formOf 1 = .ok (.ifCond .ne 6, 3) := by decide +kernel
theorem dX9_formOf_4 : decode cX9_formOf 4 = .ok (.ldc 70, 2) := by decide +kernel
theorem dX9_formOf_6 : decode cX9_formOf 6 = .ok (.areturn, 1) := by decide +kernel
theorem dX9_formOf_7 : decode cX9_formOf 7 = .ok (.iload_n 0, 1) := by decide +kernel
theorem dX9_formOf_8 : decode cX9_formOf 8 = .ok (.iconst 1, 1) := by decide +kernel
theorem dX9_formOf_9 : decode cX9_formOf 9 = .ok (.if_icmp .ne 10, 3) := by decide +kernel
theorem dX9_formOf_12 : decode cX9_formOf 12 = .ok (.iload_n 1, 1) := by decide +kernel
theorem dX9_formOf_13 : decode cX9_formOf 13 = .ok (.invokestatic 72, 3) := by decide +kernel
theorem dX9_formOf_16 : decode cX9_formOf 16 = .ok (.goto 7, 3) := by decide +kernel
theorem dX9_formOf_19 : decode cX9_formOf 19 = .ok (.iload_n 1, 1) := by decide +kernel
theorem dX9_formOf_20 : decode cX9_formOf 20 = .ok (.invokestatic 76, 3) := by decide +kernel
theorem dX9_formOf_23 : decode cX9_formOf 23 = .ok (.areturn, 1) := by decide +kernel
theorem dX9_canStand_0 : decode cX9_canStand 0 = .ok (.iload_n 1, 1) := by decide +kernel
theorem dX9_canStand_1 : decode cX9_canStand 1 = .ok (.lookupswitch 93 #[(40, 45), (42, 43), (104, 75), (107, 62)], 43) := by decide +kernel
theorem dX9_canStand_44 : decode cX9_canStand 44 = .ok (.iconst 1, 1) := by decide +kernel
theorem dX9_canStand_45 : decode cX9_canStand 45 = .ok (.ireturn, 1) := by decide +kernel
theorem dX9_canStand_46 : decode cX9_canStand 46 = .ok (.iload_n 0, 1) := by decide +kernel
theorem dX9_canStand_47 : decode cX9_canStand 47 = .ok (.bipush 40, 2) := by decide +kernel
theorem dX9_canStand_49 : decode cX9_canStand 49 = .ok (.if_icmp .ne 12, 3) := by decide +kernel
theorem dX9_canStand_52 : decode cX9_canStand 52 = .ok (.iload_n 2, 1) := by decide +kernel
theorem dX9_canStand_53 : decode cX9_canStand 53 = .ok (.iconst 3, 1) := by decide +kernel
theorem dX9_canStand_54 : decode cX9_canStand 54 = .ok (.if_icmp .ge 7, 3) := by decide +kernel
theorem dX9_canStand_57 : decode cX9_canStand 57 = .ok (.iconst 1, 1) := by decide +kernel
theorem dX9_canStand_58 : decode cX9_canStand 58 = .ok (.goto 4, 3) := by decide +kernel
theorem dX9_canStand_61 : decode cX9_canStand 61 = .ok (.iconst 0, 1) := by decide +kernel
theorem dX9_canStand_62 : decode cX9_canStand 62 = .ok (.ireturn, 1) := by decide +kernel
theorem dX9_canStand_63 : decode cX9_canStand 63 = .ok (.iload_n 0, 1) := by decide +kernel
theorem dX9_canStand_64 : decode cX9_canStand 64 = .ok (.invokestatic 26, 3) := by decide +kernel
theorem dX9_canStand_67 : decode cX9_canStand 67 = .ok (.ifCond .lt 7, 3) := by decide +kernel
theorem dX9_canStand_70 : decode cX9_canStand 70 = .ok (.iconst 1, 1) := by decide +kernel
theorem dX9_canStand_71 : decode cX9_canStand 71 = .ok (.goto 4, 3) := by decide +kernel
theorem dX9_canStand_74 : decode cX9_canStand 74 = .ok (.iconst 0, 1) := by decide +kernel
theorem dX9_canStand_75 : decode cX9_canStand 75 = .ok (.ireturn, 1) := by decide +kernel
theorem dX9_canStand_76 : decode cX9_canStand 76 = .ok (.iload_n 0, 1) := by decide +kernel
theorem dX9_canStand_77 : decode cX9_canStand 77 = .ok (.bipush 97, 2) := by decide +kernel
theorem dX9_canStand_79 : decode cX9_canStand 79 = .ok (.if_icmp .lt 13, 3) := by decide +kernel
theorem dX9_canStand_82 : decode cX9_canStand 82 = .ok (.iload_n 0, 1) := by decide +kernel
theorem dX9_canStand_83 : decode cX9_canStand 83 = .ok (.bipush 104, 2) := by decide +kernel
theorem dX9_canStand_85 : decode cX9_canStand 85 = .ok (.if_icmp .gt 7, 3) := by decide +kernel
theorem dX9_canStand_88 : decode cX9_canStand 88 = .ok (.iconst 1, 1) := by decide +kernel
theorem dX9_canStand_89 : decode cX9_canStand 89 = .ok (.goto 4, 3) := by decide +kernel
theorem dX9_canStand_92 : decode cX9_canStand 92 = .ok (.iconst 0, 1) := by decide +kernel
theorem dX9_canStand_93 : decode cX9_canStand 93 = .ok (.ireturn, 1) := by decide +kernel
theorem dX9_canStand_94 : decode cX9_canStand 94 = .ok (.iload_n 0, 1) := by decide +kernel
theorem dX9_canStand_95 : decode cX9_canStand 95 = .ok (.bipush 48, 2) := by decide +kernel
theorem dX9_canStand_97 : decode cX9_canStand 97 = .ok (.if_icmp .lt 12, 3) := by decide +kernel
theorem dX9_canStand_100 : decode cX9_canStand 100 = .ok (.iload_n 0, 1) := by decide +kernel
theorem dX9_canStand_101 : decode cX9_canStand 101 = .ok (.iload_n 1, 1) := by decide +kernel
theorem dX9_canStand_102 : decode cX9_canStand 102 = .ok (.if_icmp .gt 7, 3) := by decide +kernel
theorem dX9_canStand_105 : decode cX9_canStand 105 = .ok (.iconst 1, 1) := by decide +kernel
theorem dX9_canStand_106 : decode cX9_canStand 106 = .ok (.goto 4, 3) := by decide +kernel
theorem dX9_canStand_109 : decode cX9_canStand 109 = .ok (.iconst 0, 1) := by decide +kernel
theorem dX9_canStand_110 : decode cX9_canStand 110 = .ok (.ireturn, 1) := by decide +kernel
theorem dX9_wrongAt_0 : decode cX9_wrongAt 0 = .ok (.ldc 56, 2) := by decide +kernel
theorem dX9_wrongAt_2 : decode cX9_wrongAt 2 = .ok (.astore_n 3, 1) := by decide +kernel
theorem dX9_wrongAt_3 : decode cX9_wrongAt 3 = .ok (.iconst 0, 1) := by decide +kernel
theorem dX9_wrongAt_4 : decode cX9_wrongAt 4 = .ok (.istore 4, 2) := by decide +kernel
theorem dX9_wrongAt_6 : decode cX9_wrongAt 6 = .ok (.iconst 0, 1) := by decide +kernel
theorem dX9_wrongAt_7 : decode cX9_wrongAt 7 = .ok (.istore 5, 2) := by decide +kernel
theorem dX9_wrongAt_9 : decode cX9_wrongAt 9 = .ok (.iconst 0, 1) := by decide +kernel
theorem dX9_wrongAt_10 : decode cX9_wrongAt 10 = .ok (.istore 6, 2) := by decide +kernel
theorem dX9_wrongAt_12 : decode cX9_wrongAt 12 = .ok (.iload 6, 2) := by decide +kernel
theorem dX9_wrongAt_14 : decode cX9_wrongAt 14 = .ok (.aload_n 0, 1) := by decide +kernel
theorem dX9_wrongAt_15 : decode cX9_wrongAt 15 = .ok (.getfield 15, 3) := by decide +kernel
theorem dX9_wrongAt_18 : decode cX9_wrongAt 18 = .ok (.if_icmp .ge 104, 3) := by decide +kernel
theorem dX9_wrongAt_21 : decode cX9_wrongAt 21 = .ok (.iload 6, 2) := by decide +kernel
theorem dX9_wrongAt_23 : decode cX9_wrongAt 23 = .ok (.iload_n 2, 1) := by decide +kernel
theorem dX9_wrongAt_24 : decode cX9_wrongAt 24 = .ok (.if_icmp .ge 98, 3) := by decide +kernel
theorem dX9_wrongAt_27 : decode cX9_wrongAt 27 = .ok (.aload_n 0, 1) := by decide +kernel
theorem dX9_wrongAt_28 : decode cX9_wrongAt 28 = .ok (.getfield 9, 3) := by decide +kernel
theorem dX9_wrongAt_31 : decode cX9_wrongAt 31 = .ok (.iload 6, 2) := by decide +kernel
theorem dX9_wrongAt_33 : decode cX9_wrongAt 33 = .ok (.iaload, 1) := by decide +kernel
theorem dX9_wrongAt_34 : decode cX9_wrongAt 34 = .ok (.istore 7, 2) := by decide +kernel
theorem dX9_wrongAt_36 : decode cX9_wrongAt 36 = .ok (.iload 4, 2) := by decide +kernel
theorem dX9_wrongAt_38 : decode cX9_wrongAt 38 = .ok (.aload_n 3, 1) := by decide +kernel
theorem dX9_wrongAt_39 : decode cX9_wrongAt 39 = .ok (.invokevirtual 79, 3) := by decide +kernel
theorem dX9_wrongAt_42 : decode cX9_wrongAt 42 = .ok (.if_icmp .ne 31, 3) := by decide +kernel
theorem dX9_wrongAt_45 : decode cX9_wrongAt 45 = .ok (.iload 7, 2) := by decide +kernel
theorem dX9_wrongAt_47 : decode cX9_wrongAt 47 = .ok (.bipush 41, 2) := by decide +kernel
theorem dX9_wrongAt_49 : decode cX9_wrongAt 49 = .ok (.if_icmp .ne 14, 3) := by decide +kernel
theorem dX9_wrongAt_52 : decode cX9_wrongAt 52 = .ok (.iload 5, 2) := by decide +kernel
theorem dX9_wrongAt_54 : decode cX9_wrongAt 54 = .ok (.ifCond .le 9, 3) := by decide +kernel
theorem dX9_wrongAt_57 : decode cX9_wrongAt 57 = .ok (.iinc 5 (-1), 3) := by decide +kernel
theorem dX9_wrongAt_60 : decode cX9_wrongAt 60 = .ok (.goto 56, 3) := by decide +kernel
theorem dX9_wrongAt_63 : decode cX9_wrongAt 63 = .ok (.iload_n 1, 1) := by decide +kernel
theorem dX9_wrongAt_64 : decode cX9_wrongAt 64 = .ok (.iload 7, 2) := by decide +kernel
theorem dX9_wrongAt_66 : decode cX9_wrongAt 66 = .ok (.invokestatic 83, 3) := by decide +kernel
theorem dX9_wrongAt_69 : decode cX9_wrongAt 69 = .ok (.astore_n 3, 1) := by decide +kernel
theorem dX9_wrongAt_70 : decode cX9_wrongAt 70 = .ok (.iconst 0, 1) := by decide +kernel
theorem dX9_wrongAt_71 : decode cX9_wrongAt 71 = .ok (.istore 4, 2) := by decide +kernel
theorem dX9_wrongAt_73 : decode cX9_wrongAt 73 = .ok (.aload_n 3, 1) := by decide +kernel
theorem dX9_wrongAt_74 : decode cX9_wrongAt 74 = .ok (.invokevirtual 87, 3) := by decide +kernel
theorem dX9_wrongAt_77 : decode cX9_wrongAt 77 = .ok (.ifCond .ne 19, 3) := by decide +kernel
theorem dX9_wrongAt_80 : decode cX9_wrongAt 80 = .ok (.iload 7, 2) := by decide +kernel
theorem dX9_wrongAt_82 : decode cX9_wrongAt 82 = .ok (.aload_n 3, 1) := by decide +kernel
theorem dX9_wrongAt_83 : decode cX9_wrongAt 83 = .ok (.iload 4, 2) := by decide +kernel
theorem dX9_wrongAt_85 : decode cX9_wrongAt 85 = .ok (.invokevirtual 91, 3) := by decide +kernel
theorem dX9_wrongAt_88 : decode cX9_wrongAt 88 = .ok (.iload 5, 2) := by decide +kernel
theorem dX9_wrongAt_90 : decode cX9_wrongAt 90 = .ok (.invokestatic 95, 3) := by decide +kernel
theorem dX9_wrongAt_93 : decode cX9_wrongAt 93 = .ok (.ifCond .ne 6, 3) := by decide +kernel
theorem dX9_wrongAt_96 : decode cX9_wrongAt 96 = .ok (.iload 6, 2) := by decide +kernel
theorem dX9_wrongAt_98 : decode cX9_wrongAt 98 = .ok (.ireturn, 1) := by decide +kernel
theorem dX9_wrongAt_99 : decode cX9_wrongAt 99 = .ok (.aload_n 3, 1) := by decide +kernel
theorem dX9_wrongAt_100 : decode cX9_wrongAt 100 = .ok (.iload 4, 2) := by decide +kernel
theorem dX9_wrongAt_102 : decode cX9_wrongAt 102 = .ok (.invokevirtual 91, 3) := by decide +kernel
theorem dX9_wrongAt_105 : decode cX9_wrongAt 105 = .ok (.bipush 40, 2) := by decide +kernel
theorem dX9_wrongAt_107 : decode cX9_wrongAt 107 = .ok (.if_icmp .ne 6, 3) := by decide +kernel
theorem dX9_wrongAt_110 : decode cX9_wrongAt 110 = .ok (.iinc 5 1, 3) := by decide +kernel
theorem dX9_wrongAt_113 : decode cX9_wrongAt 113 = .ok (.iinc 4 1, 3) := by decide +kernel
theorem dX9_wrongAt_116 : decode cX9_wrongAt 116 = .ok (.iinc 6 1, 3) := by decide +kernel
theorem dX9_wrongAt_119 : decode cX9_wrongAt 119 = .ok (.goto (-107), 3) := by decide +kernel
theorem dX9_wrongAt_122 : decode cX9_wrongAt 122 = .ok (.aload_n 0, 1) := by decide +kernel
theorem dX9_wrongAt_123 : decode cX9_wrongAt 123 = .ok (.getfield 15, 3) := by decide +kernel
theorem dX9_wrongAt_126 : decode cX9_wrongAt 126 = .ok (.iload_n 2, 1) := by decide +kernel
theorem dX9_wrongAt_127 : decode cX9_wrongAt 127 = .ok (.if_icmp .le 5, 3) := by decide +kernel
theorem dX9_wrongAt_130 : decode cX9_wrongAt 130 = .ok (.iload_n 2, 1) := by decide +kernel
theorem dX9_wrongAt_131 : decode cX9_wrongAt 131 = .ok (.ireturn, 1) := by decide +kernel
theorem dX9_wrongAt_132 : decode cX9_wrongAt 132 = .ok (.iload 4, 2) := by decide +kernel
theorem dX9_wrongAt_134 : decode cX9_wrongAt 134 = .ok (.aload_n 3, 1) := by decide +kernel
theorem dX9_wrongAt_135 : decode cX9_wrongAt 135 = .ok (.invokevirtual 79, 3) := by decide +kernel
theorem dX9_wrongAt_138 : decode cX9_wrongAt 138 = .ok (.if_icmp .lt 8, 3) := by decide +kernel
theorem dX9_wrongAt_141 : decode cX9_wrongAt 141 = .ok (.iload 5, 2) := by decide +kernel
theorem dX9_wrongAt_143 : decode cX9_wrongAt 143 = .ok (.ifCond .le 10, 3) := by decide +kernel
theorem dX9_wrongAt_146 : decode cX9_wrongAt 146 = .ok (.aload_n 0, 1) := by decide +kernel
theorem dX9_wrongAt_147 : decode cX9_wrongAt 147 = .ok (.getfield 15, 3) := by decide +kernel
theorem dX9_wrongAt_150 : decode cX9_wrongAt 150 = .ok (.goto 4, 3) := by decide +kernel
theorem dX9_wrongAt_153 : decode cX9_wrongAt 153 = .ok (.iconst (-1), 1) := by decide +kernel
theorem dX9_wrongAt_154 : decode cX9_wrongAt 154 = .ok (.ireturn, 1) := by decide +kernel
theorem dX9_curveWrongAt_0 : decode cX9_curveWrongAt 0 = .ok (.bipush 48, 2) := by decide +kernel
theorem dX9_curveWrongAt_2 : decode cX9_curveWrongAt 2 = .ok (.istore_n 1, 1) := by decide +kernel
theorem dX9_curveWrongAt_3 : decode cX9_curveWrongAt 3 = .ok (.iconst 0, 1) := by decide +kernel
theorem dX9_curveWrongAt_4 : decode cX9_curveWrongAt 4 = .ok (.istore_n 2, 1) := by decide +kernel
theorem dX9_curveWrongAt_5 : decode cX9_curveWrongAt 5 = .ok (.iload_n 2, 1) := by decide +kernel
theorem dX9_curveWrongAt_6 : decode cX9_curveWrongAt 6 = .ok (.aload_n 0, 1) := by decide +kernel
theorem dX9_curveWrongAt_7 : decode cX9_curveWrongAt 7 = .ok (.getfield 15, 3) := by decide +kernel
theorem dX9_curveWrongAt_10 : decode cX9_curveWrongAt 10 = .ok (.if_icmp .ge 45, 3) := by decide +kernel
theorem dX9_curveWrongAt_13 : decode cX9_curveWrongAt 13 = .ok (.iload_n 2, 1) := by decide +kernel
theorem dX9_curveWrongAt_14 : decode cX9_curveWrongAt 14 = .ok (.bipush 9, 2) := by decide +kernel
theorem dX9_curveWrongAt_16 : decode cX9_curveWrongAt 16 = .ok (.if_icmp .eq 24, 3) := by decide +kernel
theorem dX9_curveWrongAt_19 : decode cX9_curveWrongAt 19 = .ok (.aload_n 0, 1) := by decide +kernel
theorem dX9_curveWrongAt_20 : decode cX9_curveWrongAt 20 = .ok (.getfield 9, 3) := by decide +kernel
theorem dX9_curveWrongAt_23 : decode cX9_curveWrongAt 23 = .ok (.iload_n 2, 1) := by decide +kernel
theorem dX9_curveWrongAt_24 : decode cX9_curveWrongAt 24 = .ok (.iaload, 1) := by decide +kernel
theorem dX9_curveWrongAt_25 : decode cX9_curveWrongAt 25 = .ok (.iload_n 1, 1) := by decide +kernel
theorem dX9_curveWrongAt_26 : decode cX9_curveWrongAt 26 = .ok (.if_icmp .lt 14, 3) := by decide +kernel
theorem dX9_curveWrongAt_29 : decode cX9_curveWrongAt 29 = .ok (.aload_n 0, 1) := by decide +kernel
theorem dX9_curveWrongAt_30 : decode cX9_curveWrongAt 30 = .ok (.getfield 9, 3) := by decide +kernel
theorem dX9_curveWrongAt_33 : decode cX9_curveWrongAt 33 = .ok (.iload_n 2, 1) := by decide +kernel
theorem dX9_curveWrongAt_34 : decode cX9_curveWrongAt 34 = .ok (.iaload, 1) := by decide +kernel
theorem dX9_curveWrongAt_35 : decode cX9_curveWrongAt 35 = .ok (.bipush 56, 2) := by decide +kernel
theorem dX9_curveWrongAt_37 : decode cX9_curveWrongAt 37 = .ok (.if_icmp .le 5, 3) := by decide +kernel
theorem dX9_curveWrongAt_40 : decode cX9_curveWrongAt 40 = .ok (.iload_n 2, 1) := by decide +kernel
theorem dX9_curveWrongAt_41 : decode cX9_curveWrongAt 41 = .ok (.ireturn, 1) := by decide +kernel
theorem dX9_curveWrongAt_42 : decode cX9_curveWrongAt 42 = .ok (.aload_n 0, 1) := by decide +kernel
theorem dX9_curveWrongAt_43 : decode cX9_curveWrongAt 43 = .ok (.getfield 9, 3) := by decide +kernel
theorem dX9_curveWrongAt_46 : decode cX9_curveWrongAt 46 = .ok (.iload_n 2, 1) := by decide +kernel
theorem dX9_curveWrongAt_47 : decode cX9_curveWrongAt 47 = .ok (.iaload, 1) := by decide +kernel
theorem dX9_curveWrongAt_48 : decode cX9_curveWrongAt 48 = .ok (.istore_n 1, 1) := by decide +kernel
theorem dX9_curveWrongAt_49 : decode cX9_curveWrongAt 49 = .ok (.iinc 2 1, 3) := by decide +kernel
theorem dX9_curveWrongAt_52 : decode cX9_curveWrongAt 52 = .ok (.goto (-47), 3) := by decide +kernel
theorem dX9_curveWrongAt_55 : decode cX9_curveWrongAt 55 = .ok (.aload_n 0, 1) := by decide +kernel
theorem dX9_curveWrongAt_56 : decode cX9_curveWrongAt 56 = .ok (.getfield 15, 3) := by decide +kernel
theorem dX9_curveWrongAt_59 : decode cX9_curveWrongAt 59 = .ok (.ifCond .le 19, 3) := by decide +kernel
theorem dX9_curveWrongAt_62 : decode cX9_curveWrongAt 62 = .ok (.aload_n 0, 1) := by decide +kernel
theorem dX9_curveWrongAt_63 : decode cX9_curveWrongAt 63 = .ok (.getfield 15, 3) := by decide +kernel
theorem dX9_curveWrongAt_66 : decode cX9_curveWrongAt 66 = .ok (.bipush 9, 2) := by decide +kernel
theorem dX9_curveWrongAt_68 : decode cX9_curveWrongAt 68 = .ok (.if_icmp .ge 10, 3) := by decide +kernel
theorem dX9_curveWrongAt_71 : decode cX9_curveWrongAt 71 = .ok (.aload_n 0, 1) := by decide +kernel
theorem dX9_curveWrongAt_72 : decode cX9_curveWrongAt 72 = .ok (.getfield 15, 3) := by decide +kernel
theorem dX9_curveWrongAt_75 : decode cX9_curveWrongAt 75 = .ok (.goto 4, 3) := by decide +kernel
theorem dX9_curveWrongAt_78 : decode cX9_curveWrongAt 78 = .ok (.iconst (-1), 1) := by decide +kernel
theorem dX9_curveWrongAt_79 : decode cX9_curveWrongAt 79 = .ok (.ireturn, 1) := by decide +kernel
theorem dX9_pictureWrongAt_0 : decode cX9_pictureWrongAt 0 = .ok (.bipush 8, 2) := by decide +kernel
theorem dX9_pictureWrongAt_2 : decode cX9_pictureWrongAt 2 = .ok (.istore_n 1, 1) := by decide +kernel
theorem dX9_pictureWrongAt_3 : decode cX9_pictureWrongAt 3 = .ok (.iconst 0, 1) := by decide +kernel
theorem dX9_pictureWrongAt_4 : decode cX9_pictureWrongAt 4 = .ok (.istore_n 2, 1) := by decide +kernel
theorem dX9_pictureWrongAt_5 : decode cX9_pictureWrongAt 5 = .ok (.iconst 0, 1) := by decide +kernel
theorem dX9_pictureWrongAt_6 : decode cX9_pictureWrongAt 6 = .ok (.istore_n 3, 1) := by decide +kernel
theorem dX9_pictureWrongAt_7 : decode cX9_pictureWrongAt 7 = .ok (.iconst 0, 1) := by decide +kernel
theorem dX9_pictureWrongAt_8 : decode cX9_pictureWrongAt 8 = .ok (.istore 4, 2) := by decide +kernel
theorem dX9_pictureWrongAt_10 : decode cX9_pictureWrongAt 10 = .ok (.iload 4, 2) := by decide +kernel
theorem dX9_pictureWrongAt_12 : decode cX9_pictureWrongAt 12 = .ok (.aload_n 0, 1) := by decide +kernel
theorem dX9_pictureWrongAt_13 : decode cX9_pictureWrongAt 13 = .ok (.getfield 15, 3) := by decide +kernel
theorem dX9_pictureWrongAt_16 : decode cX9_pictureWrongAt 16 = .ok (.if_icmp .ge 79, 3) := by decide +kernel
theorem dX9_pictureWrongAt_19 : decode cX9_pictureWrongAt 19 = .ok (.aload_n 0, 1) := by decide +kernel
theorem dX9_pictureWrongAt_20 : decode cX9_pictureWrongAt 20 = .ok (.getfield 9, 3) := by decide +kernel
theorem dX9_pictureWrongAt_23 : decode cX9_pictureWrongAt 23 = .ok (.iload 4, 2) := by decide +kernel
theorem dX9_pictureWrongAt_25 : decode cX9_pictureWrongAt 25 = .ok (.iaload, 1) := by decide +kernel
theorem dX9_pictureWrongAt_26 : decode cX9_pictureWrongAt 26 = .ok (.istore 5, 2) := by decide +kernel
theorem dX9_pictureWrongAt_28 : decode cX9_pictureWrongAt 28 = .ok (.iload 5, 2) := by decide +kernel
theorem dX9_pictureWrongAt_30 : decode cX9_pictureWrongAt 30 = .ok (.bipush 47, 2) := by decide +kernel
theorem dX9_pictureWrongAt_32 : decode cX9_pictureWrongAt 32 = .ok (.if_icmp .ne 35, 3) := by decide +kernel
theorem dX9_pictureWrongAt_35 : decode cX9_pictureWrongAt 35 = .ok (.iload_n 3, 1) := by decide +kernel
theorem dX9_pictureWrongAt_36 : decode cX9_pictureWrongAt 36 = .ok (.ifCond .eq 18, 3) := by decide +kernel
theorem dX9_pictureWrongAt_39 : decode cX9_pictureWrongAt 39 = .ok (.iload_n 2, 1) := by decide +kernel
theorem dX9_pictureWrongAt_40 : decode cX9_pictureWrongAt 40 = .ok (.ifCond .le 8, 3) := by decide +kernel
theorem dX9_pictureWrongAt_43 : decode cX9_pictureWrongAt 43 = .ok (.iload_n 3, 1) := by decide +kernel
theorem dX9_pictureWrongAt_44 : decode cX9_pictureWrongAt 44 = .ok (.iload_n 1, 1) := by decide +kernel
theorem dX9_pictureWrongAt_45 : decode cX9_pictureWrongAt 45 = .ok (.if_icmp .lt 9, 3) := by decide +kernel
theorem dX9_pictureWrongAt_48 : decode cX9_pictureWrongAt 48 = .ok (.iload_n 2, 1) := by decide +kernel
theorem dX9_pictureWrongAt_49 : decode cX9_pictureWrongAt 49 = .ok (.bipush 7, 2) := by decide +kernel
theorem dX9_pictureWrongAt_51 : decode cX9_pictureWrongAt 51 = .ok (.if_icmp .ne 6, 3) := by decide +kernel
theorem dX9_pictureWrongAt_54 : decode cX9_pictureWrongAt 54 = .ok (.iload 4, 2) := by decide +kernel
theorem dX9_pictureWrongAt_56 : decode cX9_pictureWrongAt 56 = .ok (.ireturn, 1) := by decide +kernel
theorem dX9_pictureWrongAt_57 : decode cX9_pictureWrongAt 57 = .ok (.iload_n 3, 1) := by decide +kernel
theorem dX9_pictureWrongAt_58 : decode cX9_pictureWrongAt 58 = .ok (.istore_n 1, 1) := by decide +kernel
theorem dX9_pictureWrongAt_59 : decode cX9_pictureWrongAt 59 = .ok (.iconst 0, 1) := by decide +kernel
theorem dX9_pictureWrongAt_60 : decode cX9_pictureWrongAt 60 = .ok (.istore_n 3, 1) := by decide +kernel
theorem dX9_pictureWrongAt_61 : decode cX9_pictureWrongAt 61 = .ok (.iinc 2 1, 3) := by decide +kernel
theorem dX9_pictureWrongAt_64 : decode cX9_pictureWrongAt 64 = .ok (.goto 25, 3) := by decide +kernel
theorem dX9_pictureWrongAt_67 : decode cX9_pictureWrongAt 67 = .ok (.iload 5, 2) := by decide +kernel
theorem dX9_pictureWrongAt_69 : decode cX9_pictureWrongAt 69 = .ok (.bipush 104, 2) := by decide +kernel
theorem dX9_pictureWrongAt_71 : decode cX9_pictureWrongAt 71 = .ok (.iconst 0, 1) := by decide +kernel
theorem dX9_pictureWrongAt_72 : decode cX9_pictureWrongAt 72 = .ok (.invokestatic 95, 3) := by decide +kernel
theorem dX9_pictureWrongAt_75 : decode cX9_pictureWrongAt 75 = .ok (.ifCond .eq 8, 3) := by decide +kernel
theorem dX9_pictureWrongAt_78 : decode cX9_pictureWrongAt 78 = .ok (.iload_n 3, 1) := by decide +kernel
theorem dX9_pictureWrongAt_79 : decode cX9_pictureWrongAt 79 = .ok (.iload_n 1, 1) := by decide +kernel
theorem dX9_pictureWrongAt_80 : decode cX9_pictureWrongAt 80 = .ok (.if_icmp .ne 6, 3) := by decide +kernel
theorem dX9_pictureWrongAt_83 : decode cX9_pictureWrongAt 83 = .ok (.iload 4, 2) := by decide +kernel
theorem dX9_pictureWrongAt_85 : decode cX9_pictureWrongAt 85 = .ok (.ireturn, 1) := by decide +kernel
theorem dX9_pictureWrongAt_86 : decode cX9_pictureWrongAt 86 = .ok (.iinc 3 1, 3) := by decide +kernel
theorem dX9_pictureWrongAt_89 : decode cX9_pictureWrongAt 89 = .ok (.iinc 4 1, 3) := by decide +kernel
theorem dX9_pictureWrongAt_92 : decode cX9_pictureWrongAt 92 = .ok (.goto (-82), 3) := by decide +kernel
theorem dX9_pictureWrongAt_95 : decode cX9_pictureWrongAt 95 = .ok (.iload_n 2, 1) := by decide +kernel
theorem dX9_pictureWrongAt_96 : decode cX9_pictureWrongAt 96 = .ok (.ifCond .le 15, 3) := by decide +kernel
theorem dX9_pictureWrongAt_99 : decode cX9_pictureWrongAt 99 = .ok (.iload_n 3, 1) := by decide +kernel
theorem dX9_pictureWrongAt_100 : decode cX9_pictureWrongAt 100 = .ok (.iload_n 1, 1) := by decide +kernel
theorem dX9_pictureWrongAt_101 : decode cX9_pictureWrongAt 101 = .ok (.if_icmp .ge 10, 3) := by decide +kernel
theorem dX9_pictureWrongAt_104 : decode cX9_pictureWrongAt 104 = .ok (.aload_n 0, 1) := by decide +kernel
theorem dX9_pictureWrongAt_105 : decode cX9_pictureWrongAt 105 = .ok (.getfield 15, 3) := by decide +kernel
theorem dX9_pictureWrongAt_108 : decode cX9_pictureWrongAt 108 = .ok (.goto 4, 3) := by decide +kernel
theorem dX9_pictureWrongAt_111 : decode cX9_pictureWrongAt 111 = .ok (.iconst (-1), 1) := by decide +kernel
theorem dX9_pictureWrongAt_112 : decode cX9_pictureWrongAt 112 = .ok (.ireturn, 1) := by decide +kernel
theorem dX10_init_0 : decode cX10_init 0 = .ok (.aload_n 0, 1) := by decide +kernel
theorem dX10_init_1 : decode cX10_init 1 = .ok (.invokespecial 1, 3) := by decide +kernel
theorem dX10_init_4 : decode cX10_init 4 = .ok (.aload_n 0, 1) := by decide +kernel
theorem dX10_init_5 : decode cX10_init 5 = .ok (.new 7, 3) := by decide +kernel
theorem dX10_init_8 : decode cX10_init 8 = .ok (.dup, 1) := by decide +kernel
theorem dX10_init_9 : decode cX10_init 9 = .ok (.invokespecial 9, 3) := by decide +kernel
theorem dX10_init_12 : decode cX10_init 12 = .ok (.putfield 10, 3) := by decide +kernel
theorem dX10_init_15 : decode cX10_init 15 = .ok (.aload_n 0, 1) := by decide +kernel
theorem dX10_init_16 : decode cX10_init 16 = .ok (.new 16, 3) := by decide +kernel
theorem dX10_init_19 : decode cX10_init 19 = .ok (.dup, 1) := by decide +kernel
theorem dX10_init_20 : decode cX10_init 20 = .ok (.invokespecial 18, 3) := by decide +kernel
theorem dX10_init_23 : decode cX10_init 23 = .ok (.putfield 19, 3) := by decide +kernel
theorem dX10_init_26 : decode cX10_init 26 = .ok (.aload_n 0, 1) := by decide +kernel
theorem dX10_init_27 : decode cX10_init 27 = .ok (.new 23, 3) := by decide +kernel
theorem dX10_init_30 : decode cX10_init 30 = .ok (.dup, 1) := by decide +kernel
theorem dX10_init_31 : decode cX10_init 31 = .ok (.invokespecial 25, 3) := by decide +kernel
theorem dX10_init_34 : decode cX10_init 34 = .ok (.putfield 26, 3) := by decide +kernel
theorem dX10_init_37 : decode cX10_init 37 = .ok (.aload_n 0, 1) := by decide +kernel
theorem dX10_init_38 : decode cX10_init 38 = .ok (.new 30, 3) := by decide +kernel
theorem dX10_init_41 : decode cX10_init 41 = .ok (.dup, 1) := by decide +kernel
theorem dX10_init_42 : decode cX10_init 42 = .ok (.invokespecial 32, 3) := by decide +kernel
theorem dX10_init_45 : decode cX10_init 45 = .ok (.putfield 33, 3) := by decide +kernel
theorem dX10_init_48 : decode cX10_init 48 = .ok (.aload_n 0, 1) := by decide +kernel
theorem dX10_init_49 : decode cX10_init 49 = .ok (.iconst 2, 1) := by decide +kernel
theorem dX10_init_50 : decode cX10_init 50 = .ok (.anewarray 23, 3) := by decide +kernel
theorem dX10_init_53 : decode cX10_init 53 = .ok (.putfield 37, 3) := by decide +kernel
theorem dX10_init_56 : decode cX10_init 56 = .ok (.aload_n 0, 1) := by decide +kernel
theorem dX10_init_57 : decode cX10_init 57 = .ok (.iconst 2, 1) := by decide +kernel
theorem dX10_init_58 : decode cX10_init 58 = .ok (.newarray .boolean, 2) := by decide +kernel
theorem dX10_init_60 : decode cX10_init 60 = .ok (.putfield 41, 3) := by decide +kernel
theorem dX10_init_63 : decode cX10_init 63 = .ok (.aload_n 0, 1) := by decide +kernel
theorem dX10_init_64 : decode cX10_init 64 = .ok (.new 45, 3) := by decide +kernel
theorem dX10_init_67 : decode cX10_init 67 = .ok (.dup, 1) := by decide +kernel
theorem dX10_init_68 : decode cX10_init 68 = .ok (.invokespecial 47, 3) := by decide +kernel
theorem dX10_init_71 : decode cX10_init 71 = .ok (.putfield 48, 3) := by decide +kernel
theorem dX10_init_74 : decode cX10_init 74 = .ok (.aload_n 0, 1) := by decide +kernel
theorem dX10_init_75 : decode cX10_init 75 = .ok (.new 23, 3) := by decide +kernel
theorem dX10_init_78 : decode cX10_init 78 = .ok (.dup, 1) := by decide +kernel
theorem dX10_init_79 : decode cX10_init 79 = .ok (.invokespecial 25, 3) := by decide +kernel
theorem dX10_init_82 : decode cX10_init 82 = .ok (.putfield 52, 3) := by decide +kernel
theorem dX10_init_85 : decode cX10_init 85 = .ok (.aload_n 0, 1) := by decide +kernel
theorem dX10_init_86 : decode cX10_init 86 = .ok (.new 45, 3) := by decide +kernel
theorem dX10_init_89 : decode cX10_init 89 = .ok (.dup, 1) := by decide +kernel
theorem dX10_init_90 : decode cX10_init 90 = .ok (.invokespecial 47, 3) := by decide +kernel
theorem dX10_init_93 : decode cX10_init 93 = .ok (.putfield 55, 3) := by decide +kernel
theorem dX10_init_96 : decode cX10_init 96 = .ok (.aload_n 0, 1) := by decide +kernel
theorem dX10_init_97 : decode cX10_init 97 = .ok (.new 58, 3) := by decide +kernel
theorem dX10_init_100 : decode cX10_init 100 = .ok (.dup, 1) := by decide +kernel
theorem dX10_init_101 : decode cX10_init 101 = .ok (.invokespecial 60, 3) := by decide +kernel
theorem dX10_init_104 : decode cX10_init 104 = .ok (.putfield 61, 3) := by decide +kernel
theorem dX10_init_107 : decode cX10_init 107 = .ok (.aload_n 0, 1) := by decide +kernel
theorem dX10_init_108 : decode cX10_init 108 = .ok (.new 65, 3) := by decide +kernel
theorem dX10_init_111 : decode cX10_init 111 = .ok (.dup, 1) := by decide +kernel
theorem dX10_init_112 : decode cX10_init 112 = .ok (.invokespecial 67, 3) := by decide +kernel
theorem dX10_init_115 : decode cX10_init 115 = .ok (.putfield 68, 3) := by decide +kernel
theorem dX10_init_118 : decode cX10_init 118 = .ok (.aload_n 0, 1) := by decide +kernel
theorem dX10_init_119 : decode cX10_init 119 = .ok (.new 72, 3) := by decide +kernel
theorem dX10_init_122 : decode cX10_init 122 = .ok (.dup, 1) := by decide +kernel
theorem dX10_init_123 : decode cX10_init 123 = .ok (.invokespecial 74, 3) := by decide +kernel
theorem dX10_init_126 : decode cX10_init 126 = .ok (.putfield 75, 3) := by decide +kernel
theorem dX10_init_129 : decode cX10_init 129 = .ok (.aload_n 0, 1) := by decide +kernel
theorem dX10_init_130 : decode cX10_init 130 = .ok (.sipush 6561, 3) := by decide +kernel
theorem dX10_init_133 : decode cX10_init 133 = .ok (.newarray .int, 2) := by decide +kernel
theorem dX10_init_135 : decode cX10_init 135 = .ok (.putfield 79, 3) := by decide +kernel
theorem dX10_init_138 : decode cX10_init 138 = .ok (.aload_n 0, 1) := by decide +kernel
theorem dX10_init_139 : decode cX10_init 139 = .ok (.sipush 6561, 3) := by decide +kernel
theorem dX10_init_142 : decode cX10_init 142 = .ok (.newarray .int, 2) := by decide +kernel
theorem dX10_init_144 : decode cX10_init 144 = .ok (.putfield 83, 3) := by decide +kernel
theorem dX10_init_147 : decode cX10_init 147 = .ok (.aload_n 0, 1) := by decide +kernel
theorem dX10_init_148 : decode cX10_init 148 = .ok (.sipush 6561, 3) := by decide +kernel
theorem dX10_init_151 : decode cX10_init 151 = .ok (.newarray .int, 2) := by decide +kernel
theorem dX10_init_153 : decode cX10_init 153 = .ok (.putfield 86, 3) := by decide +kernel
theorem dX10_init_156 : decode cX10_init 156 = .ok (.iconst 0, 1) := by decide +kernel
theorem dX10_init_157 : decode cX10_init 157 = .ok (.istore_n 1, 1) := by decide +kernel
theorem dX10_init_158 : decode cX10_init 158 = .ok (.iload_n 1, 1) := by decide +kernel
theorem dX10_init_159 : decode cX10_init 159 = .ok (.iconst 2, 1) := by decide +kernel
theorem dX10_init_160 : decode cX10_init 160 = .ok (.if_icmp .ge 22, 3) := by decide +kernel
theorem dX10_init_163 : decode cX10_init 163 = .ok (.aload_n 0, 1) := by decide +kernel
theorem dX10_init_164 : decode cX10_init 164 = .ok (.getfield 37, 3) := by decide +kernel
theorem dX10_init_167 : decode cX10_init 167 = .ok (.iload_n 1, 1) := by decide +kernel
theorem dX10_init_168 : decode cX10_init 168 = .ok (.new 23, 3) := by decide +kernel
theorem dX10_init_171 : decode cX10_init 171 = .ok (.dup, 1) := by decide +kernel
theorem dX10_init_172 : decode cX10_init 172 = .ok (.invokespecial 25, 3) := by decide +kernel
theorem dX10_init_175 : decode cX10_init 175 = .ok (.aastore, 1) := by decide +kernel
theorem dX10_init_176 : decode cX10_init 176 = .ok (.iinc 1 1, 3) := by decide +kernel
theorem dX10_init_179 : decode cX10_init 179 = .ok (.goto (-21), 3) := by decide +kernel
theorem dX10_init_182 : decode cX10_init 182 = .ok (.return_, 1) := by decide +kernel
theorem dX10_sign_0 : decode cX10_sign 0 = .ok (.aload_n 0, 1) := by decide +kernel
theorem dX10_sign_1 : decode cX10_sign 1 = .ok (.getfield 10, 3) := by decide +kernel
theorem dX10_sign_4 : decode cX10_sign 4 = .ok (.getfield 89, 3) := by decide +kernel
theorem dX10_sign_7 : decode cX10_sign 7 = .ok (.iconst 4, 1) := by decide +kernel
theorem dX10_sign_8 : decode cX10_sign 8 = .ok (.iadd, 1) := by decide +kernel
theorem dX10_sign_9 : decode cX10_sign 9 = .ok (.bipush 80, 2) := by decide +kernel
theorem dX10_sign_11 : decode cX10_sign 11 = .ok (.if_icmp .le 5, 3) := by decide +kernel
theorem dX10_sign_14 : decode cX10_sign 14 = .ok (.iconst (-1), 1) := by decide +kernel
theorem dX10_sign_15 : decode cX10_sign 15 = .ok (.ireturn, 1) := by decide +kernel
theorem dX10_sign_16 : decode cX10_sign 16 = .ok (.bipush 24, 2) := by decide +kernel
theorem dX10_sign_18 : decode cX10_sign 18 = .ok (.istore_n 2, 1) := by decide +kernel
theorem dX10_sign_19 : decode cX10_sign 19 = .ok (.iload_n 2, 1) := by decide +kernel
theorem dX10_sign_20 : decode cX10_sign 20 = .ok (.ifCond .lt 23, 3) := by decide +kernel
theorem dX10_sign_23 : decode cX10_sign 23 = .ok (.aload_n 0, 1) := by decide +kernel
theorem dX10_sign_24 : decode cX10_sign 24 = .ok (.getfield 10, 3) := by decide +kernel
theorem dX10_sign_27 : decode cX10_sign 27 = .ok (.iload_n 1, 1) := by decide +kernel
theorem dX10_sign_28 : decode cX10_sign 28 = .ok (.iload_n 2, 1) := by decide +kernel
theorem dX10_sign_29 : decode cX10_sign 29 = .ok (.iushr, 1) := by decide +kernel
theorem dX10_sign_30 : decode cX10_sign 30 = .ok (.sipush 255, 3) := by decide +kernel
theorem dX10_sign_33 : decode cX10_sign 33 = .ok (.iand, 1) := by decide +kernel
theorem dX10_sign_34 : decode cX10_sign 34 = .ok (.invokevirtual 93, 3) := by decide +kernel
theorem dX10_sign_37 : decode cX10_sign 37 = .ok (.iinc 2 (-8), 3) := by decide +kernel
theorem dX10_sign_40 : decode cX10_sign 40 = .ok (.goto (-21), 3) := by decide +kernel
theorem dX10_sign_43 : decode cX10_sign 43 = .ok (.aload_n 0, 1) := by decide +kernel
theorem dX10_sign_44 : decode cX10_sign 44 = .ok (.getfield 10, 3) := by decide +kernel
theorem dX10_sign_47 : decode cX10_sign 47 = .ok (.getfield 89, 3) := by decide +kernel
theorem dX10_sign_50 : decode cX10_sign 50 = .ok (.ireturn, 1) := by decide +kernel
theorem dX10_end_0 : decode cX10_end 0 = .ok (.iload_n 1, 1) := by decide +kernel
theorem dX10_end_1 : decode cX10_end 1 = .ok (.ifCond .lt 14, 3) := by decide +kernel
theorem dX10_end_4 : decode cX10_end 4 = .ok (.iload_n 1, 1) := by decide +kernel
theorem dX10_end_5 : decode cX10_end 5 = .ok (.aload_n 0, 1) := by decide +kernel
theorem dX10_end_6 : decode cX10_end 6 = .ok (.getfield 10, 3) := by decide +kernel
theorem dX10_end_9 : decode cX10_end 9 = .ok (.getfield 89, 3) := by decide +kernel
theorem dX10_end_12 : decode cX10_end 12 = .ok (.if_icmp .le 5, 3) := by decide +kernel
theorem dX10_end_15 : decode cX10_end 15 = .ok (.iconst 0, 1) := by decide +kernel
theorem dX10_end_16 : decode cX10_end 16 = .ok (.ireturn, 1) := by decide +kernel
theorem dX10_end_17 : decode cX10_end 17 = .ok (.aload_n 0, 1) := by decide +kernel
theorem dX10_end_18 : decode cX10_end 18 = .ok (.getfield 10, 3) := by decide +kernel
theorem dX10_end_21 : decode cX10_end 21 = .ok (.iload_n 1, 1) := by decide +kernel
theorem dX10_end_22 : decode cX10_end 22 = .ok (.putfield 89, 3) := by decide +kernel
theorem dX10_end_25 : decode cX10_end 25 = .ok (.iconst 1, 1) := by decide +kernel
theorem dX10_end_26 : decode cX10_end 26 = .ok (.ireturn, 1) := by decide +kernel
theorem dX10_patches_0 : decode cX10_patches 0 = .ok (.aload_n 0, 1) := by decide +kernel
theorem dX10_patches_1 : decode cX10_patches 1 = .ok (.getfield 10, 3) := by decide +kernel
theorem dX10_patches_4 : decode cX10_patches 4 = .ok (.iconst 0, 1) := by decide +kernel
theorem dX10_patches_5 : decode cX10_patches 5 = .ok (.bipush 80, 2) := by decide +kernel
theorem dX10_patches_7 : decode cX10_patches 7 = .ok (.invokevirtual 97, 3) := by decide +kernel
theorem dX10_patches_10 : decode cX10_patches 10 = .ok (.istore_n 1, 1) := by decide +kernel
theorem dX10_patches_11 : decode cX10_patches 11 = .ok (.iload_n 1, 1) := by decide +kernel
theorem dX10_patches_12 : decode cX10_patches 12 = .ok (.ifCond .lt 9, 3) := by decide +kernel
theorem dX10_patches_15 : decode cX10_patches 15 = .ok (.aload_n 0, 1) := by decide +kernel
theorem dX10_patches_16 : decode cX10_patches 16 = .ok (.iload_n 1, 1) := by decide +kernel
theorem dX10_patches_17 : decode cX10_patches 17 = .ok (.invokevirtual 101, 3) := by decide +kernel
theorem dX10_patches_20 : decode cX10_patches 20 = .ok (.ireturn, 1) := by decide +kernel
theorem dX10_patches_21 : decode cX10_patches 21 = .ok (.aload_n 0, 1) := by decide +kernel
theorem dX10_patches_22 : decode cX10_patches 22 = .ok (.getfield 33, 3) := by decide +kernel
theorem dX10_patches_25 : decode cX10_patches 25 = .ok (.aload_n 0, 1) := by decide +kernel
theorem dX10_patches_26 : decode cX10_patches 26 = .ok (.getfield 26, 3) := by decide +kernel
theorem dX10_patches_29 : decode cX10_patches 29 = .ok (.invokevirtual 105, 3) := by decide +kernel
theorem dX10_patches_32 : decode cX10_patches 32 = .ok (.iconst 0, 1) := by decide +kernel
theorem dX10_patches_33 : decode cX10_patches 33 = .ok (.istore_n 2, 1) := by decide +kernel
theorem dX10_patches_34 : decode cX10_patches 34 = .ok (.iconst 0, 1) := by decide +kernel
theorem dX10_patches_35 : decode cX10_patches 35 = .ok (.istore_n 3, 1) := by decide +kernel
theorem dX10_patches_36 : decode cX10_patches 36 = .ok (.iload_n 3, 1) := by decide +kernel
theorem dX10_patches_37 : decode cX10_patches 37 = .ok (.ldc 109, 2) := by decide +kernel
theorem dX10_patches_39 : decode cX10_patches 39 = .ok (.invokevirtual 111, 3) := by decide +kernel
theorem dX10_patches_42 : decode cX10_patches 42 = .ok (.iadd, 1) := by decide +kernel
theorem dX10_patches_43 : decode cX10_patches 43 = .ok (.aload_n 0, 1) := by decide +kernel
theorem dX10_patches_44 : decode cX10_patches 44 = .ok (.getfield 10, 3) := by decide +kernel
theorem dX10_patches_47 : decode cX10_patches 47 = .ok (.getfield 89, 3) := by decide +kernel
theorem dX10_patches_50 : decode cX10_patches 50 = .ok (.if_icmp .gt 23, 3) := by decide +kernel
theorem dX10_patches_53 : decode cX10_patches 53 = .ok (.aload_n 0, 1) := by decide +kernel
theorem dX10_patches_54 : decode cX10_patches 54 = .ok (.iload_n 3, 1) := by decide +kernel
theorem dX10_patches_55 : decode cX10_patches 55 = .ok (.invokevirtual 117, 3) := by decide +kernel
theorem dX10_patches_58 : decode cX10_patches 58 = .ok (.pop, 1) := by decide +kernel
theorem dX10_patches_59 : decode cX10_patches 59 = .ok (.iinc 2 1, 3) := by decide +kernel
theorem dX10_patches_62 : decode cX10_patches 62 = .ok (.iload_n 3, 1) := by decide +kernel
theorem dX10_patches_63 : decode cX10_patches 63 = .ok (.ldc 109, 2) := by decide +kernel
theorem dX10_patches_65 : decode cX10_patches 65 = .ok (.invokevirtual 111, 3) := by decide +kernel
theorem dX10_patches_68 : decode cX10_patches 68 = .ok (.iadd, 1) := by decide +kernel
theorem dX10_patches_69 : decode cX10_patches 69 = .ok (.istore_n 3, 1) := by decide +kernel
theorem dX10_patches_70 : decode cX10_patches 70 = .ok (.goto (-34), 3) := by decide +kernel
theorem dX10_patches_73 : decode cX10_patches 73 = .ok (.aload_n 0, 1) := by decide +kernel
theorem dX10_patches_74 : decode cX10_patches 74 = .ok (.getfield 10, 3) := by decide +kernel
theorem dX10_patches_77 : decode cX10_patches 77 = .ok (.iconst 0, 1) := by decide +kernel
theorem dX10_patches_78 : decode cX10_patches 78 = .ok (.putfield 89, 3) := by decide +kernel
theorem dX10_patches_81 : decode cX10_patches 81 = .ok (.aload_n 0, 1) := by decide +kernel
theorem dX10_patches_82 : decode cX10_patches 82 = .ok (.iload_n 2, 1) := by decide +kernel
theorem dX10_patches_83 : decode cX10_patches 83 = .ok (.invokevirtual 120, 3) := by decide +kernel
theorem dX10_patches_86 : decode cX10_patches 86 = .ok (.ireturn, 1) := by decide +kernel
theorem dX10_curve_0 : decode cX10_curve 0 = .ok (.aload_n 0, 1) := by decide +kernel
theorem dX10_curve_1 : decode cX10_curve 1 = .ok (.getfield 10, 3) := by decide +kernel
theorem dX10_curve_4 : decode cX10_curve 4 = .ok (.invokevirtual 123, 3) := by decide +kernel
theorem dX10_curve_7 : decode cX10_curve 7 = .ok (.istore_n 2, 1) := by decide +kernel
theorem dX10_curve_8 : decode cX10_curve 8 = .ok (.iload_n 2, 1) := by decide +kernel
theorem dX10_curve_9 : decode cX10_curve 9 = .ok (.ifCond .lt 9, 3) := by decide +kernel
theorem dX10_curve_12 : decode cX10_curve 12 = .ok (.aload_n 0, 1) := by decide +kernel
theorem dX10_curve_13 : decode cX10_curve 13 = .ok (.iload_n 2, 1) := by decide +kernel
theorem dX10_curve_14 : decode cX10_curve 14 = .ok (.invokevirtual 101, 3) := by decide +kernel
theorem dX10_curve_17 : decode cX10_curve 17 = .ok (.ireturn, 1) := by decide +kernel
theorem dX10_curve_18 : decode cX10_curve 18 = .ok (.iload_n 1, 1) := by decide +kernel
theorem dX10_curve_19 : decode cX10_curve 19 = .ok (.invokestatic 126, 3) := by decide +kernel
theorem dX10_curve_22 : decode cX10_curve 22 = .ok (.ifCond .ne 13, 3) := by decide +kernel
theorem dX10_curve_25 : decode cX10_curve 25 = .ok (.aload_n 0, 1) := by decide +kernel
theorem dX10_curve_26 : decode cX10_curve 26 = .ok (.getfield 10, 3) := by decide +kernel
theorem dX10_curve_29 : decode cX10_curve 29 = .ok (.iconst 0, 1) := by decide +kernel
theorem dX10_curve_30 : decode cX10_curve 30 = .ok (.putfield 89, 3) := by decide +kernel
theorem dX10_curve_33 : decode cX10_curve 33 = .ok (.iconst (-1), 1) := by decide +kernel
theorem dX10_curve_34 : decode cX10_curve 34 = .ok (.ireturn, 1) := by decide +kernel
theorem dX10_curve_35 : decode cX10_curve 35 = .ok (.aload_n 0, 1) := by decide +kernel
theorem dX10_curve_36 : decode cX10_curve 36 = .ok (.getfield 33, 3) := by decide +kernel
theorem dX10_curve_39 : decode cX10_curve 39 = .ok (.aload_n 0, 1) := by decide +kernel
theorem dX10_curve_40 : decode cX10_curve 40 = .ok (.getfield 26, 3) := by decide +kernel
theorem dX10_curve_43 : decode cX10_curve 43 = .ok (.invokevirtual 105, 3) := by decide +kernel
theorem dX10_curve_46 : decode cX10_curve 46 = .ok (.iconst 0, 1) := by decide +kernel
theorem dX10_curve_47 : decode cX10_curve 47 = .ok (.istore_n 3, 1) := by decide +kernel
theorem dX10_curve_48 : decode cX10_curve 48 = .ok (.iload_n 3, 1) := by decide +kernel
theorem dX10_curve_49 : decode cX10_curve 49 = .ok (.bipush 9, 2) := by decide +kernel
theorem dX10_curve_51 : decode cX10_curve 51 = .ok (.if_icmp .ge 45, 3) := by decide +kernel
theorem dX10_curve_54 : decode cX10_curve 54 = .ok (.aload_n 0, 1) := by decide +kernel
theorem dX10_curve_55 : decode cX10_curve 55 = .ok (.getfield 26, 3) := by decide +kernel
theorem dX10_curve_58 : decode cX10_curve 58 = .ok (.getfield 130, 3) := by decide +kernel
theorem dX10_curve_61 : decode cX10_curve 61 = .ok (.iload_n 1, 1) := by decide +kernel
theorem dX10_curve_62 : decode cX10_curve 62 = .ok (.bipush 9, 2) := by decide +kernel
theorem dX10_curve_64 : decode cX10_curve 64 = .ok (.imul, 1) := by decide +kernel
theorem dX10_curve_65 : decode cX10_curve 65 = .ok (.iload_n 3, 1) := by decide +kernel
theorem dX10_curve_66 : decode cX10_curve 66 = .ok (.iadd, 1) := by decide +kernel
theorem dX10_curve_67 : decode cX10_curve 67 = .ok (.aload_n 0, 1) := by decide +kernel
theorem dX10_curve_68 : decode cX10_curve 68 = .ok (.getfield 10, 3) := by decide +kernel
theorem dX10_curve_71 : decode cX10_curve 71 = .ok (.getfield 89, 3) := by decide +kernel
theorem dX10_curve_74 : decode cX10_curve 74 = .ok (.ifCond .ne 7, 3) := by decide +kernel
theorem dX10_curve_77 : decode cX10_curve 77 = .ok (.iload_n 3, 1) := by decide +kernel
theorem dX10_curve_78 : decode cX10_curve 78 = .ok (.goto 11, 3) := by decide +kernel
theorem dX10_curve_81 : decode cX10_curve 81 = .ok (.aload_n 0, 1) := by decide +kernel
theorem dX10_curve_82 : decode cX10_curve 82 = .ok (.getfield 10, 3) := by decide +kernel
theorem dX10_curve_85 : decode cX10_curve 85 = .ok (.iload_n 3, 1) := by decide +kernel
theorem dX10_curve_86 : decode cX10_curve 86 = .ok (.invokevirtual 133, 3) := by decide +kernel
theorem dX10_curve_89 : decode cX10_curve 89 = .ok (.iastore, 1) := by decide +kernel
theorem dX10_curve_90 : decode cX10_curve 90 = .ok (.iinc 3 1, 3) := by decide +kernel
theorem dX10_curve_93 : decode cX10_curve 93 = .ok (.goto (-45), 3) := by decide +kernel
theorem dX10_curve_96 : decode cX10_curve 96 = .ok (.aload_n 0, 1) := by decide +kernel
theorem dX10_curve_97 : decode cX10_curve 97 = .ok (.getfield 10, 3) := by decide +kernel
theorem dX10_curve_100 : decode cX10_curve 100 = .ok (.iconst 0, 1) := by decide +kernel
theorem dX10_curve_101 : decode cX10_curve 101 = .ok (.putfield 89, 3) := by decide +kernel
theorem dX10_curve_104 : decode cX10_curve 104 = .ok (.aload_n 0, 1) := by decide +kernel
theorem dX10_curve_105 : decode cX10_curve 105 = .ok (.aload_n 0, 1) := by decide +kernel
theorem dX10_curve_106 : decode cX10_curve 106 = .ok (.getfield 26, 3) := by decide +kernel
theorem dX10_curve_109 : decode cX10_curve 109 = .ok (.iload_n 1, 1) := by decide +kernel
theorem dX10_curve_110 : decode cX10_curve 110 = .ok (.invokevirtual 136, 3) := by decide +kernel
theorem dX10_curve_113 : decode cX10_curve 113 = .ok (.invokevirtual 120, 3) := by decide +kernel
theorem dX10_curve_116 : decode cX10_curve 116 = .ok (.ireturn, 1) := by decide +kernel
theorem dX10_link_0 : decode cX10_link 0 = .ok (.aload_n 0, 1) := by decide +kernel
theorem dX10_link_1 : decode cX10_link 1 = .ok (.getfield 10, 3) := by decide +kernel
theorem dX10_link_4 : decode cX10_link 4 = .ok (.iconst 1, 1) := by decide +kernel
theorem dX10_link_5 : decode cX10_link 5 = .ok (.bipush 40, 2) := by decide +kernel
theorem dX10_link_7 : decode cX10_link 7 = .ok (.invokevirtual 97, 3) := by decide +kernel
theorem dX10_link_10 : decode cX10_link 10 = .ok (.istore_n 1, 1) := by decide +kernel
theorem dX10_link_11 : decode cX10_link 11 = .ok (.iload_n 1, 1) := by decide +kernel
theorem dX10_link_12 : decode cX10_link 12 = .ok (.ifCond .lt 9, 3) := by decide +kernel
theorem dX10_link_15 : decode cX10_link 15 = .ok (.aload_n 0, 1) := by decide +kernel
theorem dX10_link_16 : decode cX10_link 16 = .ok (.iload_n 1, 1) := by decide +kernel
theorem dX10_link_17 : decode cX10_link 17 = .ok (.invokevirtual 101, 3) := by decide +kernel
theorem dX10_link_20 : decode cX10_link 20 = .ok (.ireturn, 1) := by decide +kernel
theorem dX10_link_21 : decode cX10_link 21 = .ok (.aload_n 0, 1) := by decide +kernel
theorem dX10_link_22 : decode cX10_link 22 = .ok (.getfield 10, 3) := by decide +kernel
theorem dX10_link_25 : decode cX10_link 25 = .ok (.aload_n 0, 1) := by decide +kernel
theorem dX10_link_26 : decode cX10_link 26 = .ok (.getfield 26, 3) := by decide +kernel
theorem dX10_link_29 : decode cX10_link 29 = .ok (.getfield 139, 3) := by decide +kernel
theorem dX10_link_32 : decode cX10_link 32 = .ok (.aload_n 0, 1) := by decide +kernel
theorem dX10_link_33 : decode cX10_link 33 = .ok (.getfield 26, 3) := by decide +kernel
theorem dX10_link_36 : decode cX10_link 36 = .ok (.getfield 143, 3) := by decide +kernel
theorem dX10_link_39 : decode cX10_link 39 = .ok (.iconst 0, 1) := by decide +kernel
theorem dX10_link_40 : decode cX10_link 40 = .ok (.iaload, 1) := by decide +kernel
theorem dX10_link_41 : decode cX10_link 41 = .ok (.invokestatic 146, 3) := by decide +kernel
theorem dX10_link_44 : decode cX10_link 44 = .ok (.astore_n 2, 1) := by decide +kernel
theorem dX10_link_45 : decode cX10_link 45 = .ok (.aload_n 0, 1) := by decide +kernel
theorem dX10_link_46 : decode cX10_link 46 = .ok (.getfield 10, 3) := by decide +kernel
theorem dX10_link_49 : decode cX10_link 49 = .ok (.iconst 0, 1) := by decide +kernel
theorem dX10_link_50 : decode cX10_link 50 = .ok (.putfield 89, 3) := by decide +kernel
theorem dX10_link_53 : decode cX10_link 53 = .ok (.aload_n 2, 1) := by decide +kernel
theorem dX10_link_54 : decode cX10_link 54 = .ok (.getfield 152, 3) := by decide +kernel
theorem dX10_link_57 : decode cX10_link 57 = .ok (.sipush 500, 3) := by decide +kernel
theorem dX10_link_60 : decode cX10_link 60 = .ok (.if_icmp .le 7, 3) := by decide +kernel
theorem dX10_link_63 : decode cX10_link 63 = .ok (.sipush (-200), 3) := by decide +kernel
theorem dX10_link_66 : decode cX10_link 66 = .ok (.ireturn, 1) := by decide +kernel
theorem dX10_link_67 : decode cX10_link 67 = .ok (.aload_n 2, 1) := by decide +kernel
theorem dX10_link_68 : decode cX10_link 68 = .ok (.getfield 154, 3) := by decide +kernel
theorem dX10_link_71 : decode cX10_link 71 = .ok (.bipush 6, 2) := by decide +kernel
theorem dX10_link_73 : decode cX10_link 73 = .ok (.if_icmp .le 7, 3) := by decide +kernel
theorem dX10_link_76 : decode cX10_link 76 = .ok (.sipush (-201), 3) := by decide +kernel
theorem dX10_link_79 : decode cX10_link 79 = .ok (.ireturn, 1) := by decide +kernel
theorem dX10_link_80 : decode cX10_link 80 = .ok (.aload_n 0, 1) := by decide +kernel
theorem dX10_link_81 : decode cX10_link 81 = .ok (.getfield 33, 3) := by decide +kernel
theorem dX10_link_84 : decode cX10_link 84 = .ok (.aload_n 0, 1) := by decide +kernel
theorem dX10_link_85 : decode cX10_link 85 = .ok (.getfield 26, 3) := by decide +kernel
theorem dX10_link_88 : decode cX10_link 88 = .ok (.invokevirtual 105, 3) := by decide +kernel
theorem dX10_link_91 : decode cX10_link 91 = .ok (.aload_n 0, 1) := by decide +kernel
theorem dX10_link_92 : decode cX10_link 92 = .ok (.getfield 26, 3) := by decide +kernel
theorem dX10_link_95 : decode cX10_link 95 = .ok (.aload_n 2, 1) := by decide +kernel
theorem dX10_link_96 : decode cX10_link 96 = .ok (.putfield 139, 3) := by decide +kernel
theorem dX10_link_99 : decode cX10_link 99 = .ok (.aload_n 0, 1) := by decide +kernel
theorem dX10_link_100 : decode cX10_link 100 = .ok (.aload_n 2, 1) := by decide +kernel
theorem dX10_link_101 : decode cX10_link 101 = .ok (.getfield 152, 3) := by decide +kernel
theorem dX10_link_104 : decode cX10_link 104 = .ok (.invokevirtual 120, 3) := by decide +kernel
theorem dX10_link_107 : decode cX10_link 107 = .ok (.ireturn, 1) := by decide +kernel
theorem dX10_picture_0 : decode cX10_picture 0 = .ok (.aload_n 0, 1) := by decide +kernel
theorem dX10_picture_1 : decode cX10_picture 1 = .ok (.getfield 10, 3) := by decide +kernel
theorem dX10_picture_4 : decode cX10_picture 4 = .ok (.invokevirtual 157, 3) := by decide +kernel
theorem dX10_picture_7 : decode cX10_picture 7 = .ok (.istore_n 1, 1) := by decide +kernel
theorem dX10_picture_8 : decode cX10_picture 8 = .ok (.iload_n 1, 1) := by decide +kernel
theorem dX10_picture_9 : decode cX10_picture 9 = .ok (.ifCond .lt 9, 3) := by decide +kernel
theorem dX10_picture_12 : decode cX10_picture 12 = .ok (.aload_n 0, 1) := by decide +kernel
theorem dX10_picture_13 : decode cX10_picture 13 = .ok (.iload_n 1, 1) := by decide +kernel
theorem dX10_picture_14 : decode cX10_picture 14 = .ok (.invokevirtual 101, 3) := by decide +kernel
theorem dX10_picture_17 : decode cX10_picture 17 = .ok (.ireturn, 1) := by decide +kernel
theorem dX10_picture_18 : decode cX10_picture 18 = .ok (.aload_n 0, 1) := by decide +kernel
theorem dX10_picture_19 : decode cX10_picture 19 = .ok (.getfield 33, 3) := by decide +kernel
theorem dX10_picture_22 : decode cX10_picture 22 = .ok (.aload_n 0, 1) := by decide +kernel
theorem dX10_picture_23 : decode cX10_picture 23 = .ok (.getfield 26, 3) := by decide +kernel
theorem dX10_picture_26 : decode cX10_picture 26 = .ok (.invokevirtual 105, 3) := by decide +kernel
theorem dX10_picture_29 : decode cX10_picture 29 = .ok (.aload_n 0, 1) := by decide +kernel
theorem dX10_picture_30 : decode cX10_picture 30 = .ok (.getfield 26, 3) := by decide +kernel
theorem dX10_picture_33 : decode cX10_picture 33 = .ok (.aload_n 0, 1) := by decide +kernel
theorem dX10_picture_34 : decode cX10_picture 34 = .ok (.getfield 10, 3) := by decide +kernel
theorem dX10_picture_37 : decode cX10_picture 37 = .ok (.invokevirtual 160, 3) := by decide +kernel
theorem dX10_picture_40 : decode cX10_picture 40 = .ok (.aload_n 0, 1) := by decide +kernel
theorem dX10_picture_41 : decode cX10_picture 41 = .ok (.getfield 10, 3) := by decide +kernel
theorem dX10_picture_44 : decode cX10_picture 44 = .ok (.iconst 0, 1) := by decide +kernel
theorem dX10_picture_45 : decode cX10_picture 45 = .ok (.putfield 89, 3) := by decide +kernel
theorem dX10_picture_48 : decode cX10_picture 48 = .ok (.aload_n 0, 1) := by decide +kernel
theorem dX10_picture_49 : decode cX10_picture 49 = .ok (.aload_n 0, 1) := by decide +kernel
theorem dX10_picture_50 : decode cX10_picture 50 = .ok (.getfield 26, 3) := by decide +kernel
theorem dX10_picture_53 : decode cX10_picture 53 = .ok (.invokevirtual 164, 3) := by decide +kernel
theorem dX10_picture_56 : decode cX10_picture 56 = .ok (.invokevirtual 120, 3) := by decide +kernel
theorem dX10_picture_59 : decode cX10_picture 59 = .ok (.ireturn, 1) := by decide +kernel
theorem dX10_light_0 : decode cX10_light 0 = .ok (.iload_n 1, 1) := by decide +kernel
theorem dX10_light_1 : decode cX10_light 1 = .ok (.invokestatic 167, 3) := by decide +kernel
theorem dX10_light_4 : decode cX10_light 4 = .ok (.ifCond .eq 10, 3) := by decide +kernel
theorem dX10_light_7 : decode cX10_light 7 = .ok (.iload_n 2, 1) := by decide +kernel
theorem dX10_light_8 : decode cX10_light 8 = .ok (.invokestatic 170, 3) := by decide +kernel
theorem dX10_light_11 : decode cX10_light 11 = .ok (.ifCond .ne 11, 3) := by decide +kernel
theorem dX10_light_14 : decode cX10_light 14 = .ok (.new 173, 3) := by decide +kernel
theorem dX10_light_17 : decode cX10_light 17 = .ok (.dup, 1) := by decide +kernel
theorem dX10_light_18 : decode cX10_light 18 = .ok (.invokespecial 175, 3) := by decide +kernel
theorem dX10_light_21 : decode cX10_light 21 = .ok (.athrow, 1) := by decide +kernel
theorem dX10_light_22 : decode cX10_light 22 = .ok (.aload_n 0, 1) := by decide +kernel
theorem dX10_light_23 : decode cX10_light 23 = .ok (.getfield 26, 3) := by decide +kernel
theorem dX10_light_26 : decode cX10_light 26 = .ok (.iload_n 1, 1) := by decide +kernel
theorem dX10_light_27 : decode cX10_light 27 = .ok (.iload_n 2, 1) := by decide +kernel
theorem dX10_light_28 : decode cX10_light 28 = .ok (.invokevirtual 176, 3) := by decide +kernel
theorem dX10_light_31 : decode cX10_light 31 = .ok (.ireturn, 1) := by decide +kernel
theorem dX10_bent_0 : decode cX10_bent 0 = .ok (.iload_n 1, 1) := by decide +kernel
theorem dX10_bent_1 : decode cX10_bent 1 = .ok (.invokestatic 126, 3) := by decide +kernel
theorem dX10_bent_4 : decode cX10_bent 4 = .ok (.ifCond .eq 13, 3) := by decide +kernel
theorem dX10_bent_7 : decode cX10_bent 7 = .ok (.iload_n 2, 1) := by decide +kernel
theorem dX10_bent_8 : decode cX10_bent 8 = .ok (.iconst 0, 1) := by decide +kernel
theorem dX10_bent_9 : decode cX10_bent 9 = .ok (.bipush 8, 2) := by decide +kernel
theorem dX10_bent_11 : decode cX10_bent 11 = .ok (.invokestatic 179, 3) := by decide +kernel
theorem dX10_bent_14 : decode cX10_bent 14 = .ok (.ifCond .ne 11, 3) := by decide +kernel
theorem dX10_bent_17 : decode cX10_bent 17 = .ok (.new 173, 3) := by decide +kernel
theorem dX10_bent_20 : decode cX10_bent 20 = .ok (.dup, 1) := by decide +kernel
theorem dX10_bent_21 : decode cX10_bent 21 = .ok (.invokespecial 175, 3) := by decide +kernel
theorem dX10_bent_24 : decode cX10_bent 24 = .ok (.athrow, 1) := by decide +kernel
theorem dX10_bent_25 : decode cX10_bent 25 = .ok (.aload_n 0, 1) := by decide +kernel
theorem dX10_bent_26 : decode cX10_bent 26 = .ok (.getfield 26, 3) := by decide +kernel
theorem dX10_bent_29 : decode cX10_bent 29 = .ok (.getfield 130, 3) := by decide +kernel
theorem dX10_bent_32 : decode cX10_bent 32 = .ok (.iload_n 1, 1) := by decide +kernel
theorem dX10_bent_33 : decode cX10_bent 33 = .ok (.bipush 9, 2) := by decide +kernel
theorem dX10_bent_35 : decode cX10_bent 35 = .ok (.imul, 1) := by decide +kernel
theorem dX10_bent_36 : decode cX10_bent 36 = .ok (.iload_n 2, 1) := by decide +kernel
theorem dX10_bent_37 : decode cX10_bent 37 = .ok (.iadd, 1) := by decide +kernel
theorem dX10_bent_38 : decode cX10_bent 38 = .ok (.iaload, 1) := by decide +kernel
theorem dX10_bent_39 : decode cX10_bent 39 = .ok (.ireturn, 1) := by decide +kernel
theorem dX10_sheet_0 : decode cX10_sheet 0 = .ok (.iload_n 1, 1) := by decide +kernel
theorem dX10_sheet_1 : decode cX10_sheet 1 = .ok (.iconst 0, 1) := by decide +kernel
theorem dX10_sheet_2 : decode cX10_sheet 2 = .ok (.iconst 3, 1) := by decide +kernel
theorem dX10_sheet_3 : decode cX10_sheet 3 = .ok (.invokestatic 179, 3) := by decide +kernel
theorem dX10_sheet_6 : decode cX10_sheet 6 = .ok (.ifCond .eq 13, 3) := by decide +kernel
theorem dX10_sheet_9 : decode cX10_sheet 9 = .ok (.iload_n 2, 1) := by decide +kernel
theorem dX10_sheet_10 : decode cX10_sheet 10 = .ok (.getstatic 183, 3) := by decide +kernel
theorem dX10_sheet_13 : decode cX10_sheet 13 = .ok (.arraylength, 1) := by decide +kernel
theorem dX10_sheet_14 : decode cX10_sheet 14 = .ok (.iconst 3, 1) := by decide +kernel
theorem dX10_sheet_15 : decode cX10_sheet 15 = .ok (.imul, 1) := by decide +kernel
theorem dX10_sheet_16 : decode cX10_sheet 16 = .ok (.if_icmp .le 5, 3) := by decide +kernel
theorem dX10_sheet_19 : decode cX10_sheet 19 = .ok (.iconst (-1), 1) := by decide +kernel
theorem dX10_sheet_20 : decode cX10_sheet 20 = .ok (.ireturn, 1) := by decide +kernel
theorem dX10_sheet_21 : decode cX10_sheet 21 = .ok (.iload_n 2, 1) := by decide +kernel
theorem dX10_sheet_22 : decode cX10_sheet 22 = .ok (.ifCond .ge 11, 3) := by decide +kernel
theorem dX10_sheet_25 : decode cX10_sheet 25 = .ok (.iload_n 1, 1) := by decide +kernel
theorem dX10_sheet_26 : decode cX10_sheet 26 = .ok (.iconst 3, 1) := by decide +kernel
theorem dX10_sheet_27 : decode cX10_sheet 27 = .ok (.if_icmp .eq 6, 3) := by decide +kernel
theorem dX10_sheet_30 : decode cX10_sheet 30 = .ok (.bipush (-2), 2) := by decide +kernel
theorem dX10_sheet_32 : decode cX10_sheet 32 = .ok (.ireturn, 1) := by decide +kernel
theorem dX10_sheet_33 : decode cX10_sheet 33 = .ok (.iconst 0, 1) := by decide +kernel
theorem dX10_sheet_34 : decode cX10_sheet 34 = .ok (.istore 5, 2) := by decide +kernel
theorem dX10_sheet_36 : decode cX10_sheet 36 = .ok (.iconst 0, 1) := by decide +kernel
theorem dX10_sheet_37 : decode cX10_sheet 37 = .ok (.istore 6, 2) := by decide +kernel
theorem dX10_sheet_39 : decode cX10_sheet 39 = .ok (.iload 6, 2) := by decide +kernel
theorem dX10_sheet_41 : decode cX10_sheet 41 = .ok (.getstatic 183, 3) := by decide +kernel
theorem dX10_sheet_44 : decode cX10_sheet 44 = .ok (.arraylength, 1) := by decide +kernel
theorem dX10_sheet_45 : decode cX10_sheet 45 = .ok (.iconst 3, 1) := by decide +kernel
theorem dX10_sheet_46 : decode cX10_sheet 46 = .ok (.imul, 1) := by decide +kernel
theorem dX10_sheet_47 : decode cX10_sheet 47 = .ok (.if_icmp .ge 74, 3) := by decide +kernel
theorem dX10_sheet_50 : decode cX10_sheet 50 = .ok (.bipush 100, 2) := by decide +kernel
theorem dX10_sheet_52 : decode cX10_sheet 52 = .ok (.istore 7, 2) := by decide +kernel
theorem dX10_sheet_54 : decode cX10_sheet 54 = .ok (.iload_n 1, 1) := by decide +kernel
theorem dX10_sheet_55 : decode cX10_sheet 55 = .ok (.iconst 3, 1) := by decide +kernel
theorem dX10_sheet_56 : decode cX10_sheet 56 = .ok (.if_icmp .eq 27, 3) := by decide +kernel
theorem dX10_sheet_59 : decode cX10_sheet 59 = .ok (.iload 6, 2) := by decide +kernel
theorem dX10_sheet_61 : decode cX10_sheet 61 = .ok (.iload_n 2, 1) := by decide +kernel
theorem dX10_sheet_62 : decode cX10_sheet 62 = .ok (.if_icmp .ge 21, 3) := by decide +kernel
theorem dX10_sheet_65 : decode cX10_sheet 65 = .ok (.iload_n 1, 1) := by decide +kernel
theorem dX10_sheet_66 : decode cX10_sheet 66 = .ok (.iload_n 3, 1) := by decide +kernel
theorem dX10_sheet_67 : decode cX10_sheet 67 = .ok (.iload 6, 2) := by decide +kernel
theorem dX10_sheet_69 : decode cX10_sheet 69 = .ok (.iload 4, 2) := by decide +kernel
theorem dX10_sheet_71 : decode cX10_sheet 71 = .ok (.imul, 1) := by decide +kernel
theorem dX10_sheet_72 : decode cX10_sheet 72 = .ok (.iadd, 1) := by decide +kernel
theorem dX10_sheet_73 : decode cX10_sheet 73 = .ok (.invokestatic 186, 3) := by decide +kernel
theorem dX10_sheet_76 : decode cX10_sheet 76 = .ok (.bipush 100, 2) := by decide +kernel
theorem dX10_sheet_78 : decode cX10_sheet 78 = .ok (.invokestatic 189, 3) := by decide +kernel
theorem dX10_sheet_81 : decode cX10_sheet 81 = .ok (.istore 7, 2) := by decide +kernel
theorem dX10_sheet_83 : decode cX10_sheet 83 = .ok (.aload_n 0, 1) := by decide +kernel
theorem dX10_sheet_84 : decode cX10_sheet 84 = .ok (.getfield 26, 3) := by decide +kernel
theorem dX10_sheet_87 : decode cX10_sheet 87 = .ok (.getfield 192, 3) := by decide +kernel
theorem dX10_sheet_90 : decode cX10_sheet 90 = .ok (.getstatic 183, 3) := by decide +kernel
theorem dX10_sheet_93 : decode cX10_sheet 93 = .ok (.iload 6, 2) := by decide +kernel
theorem dX10_sheet_95 : decode cX10_sheet 95 = .ok (.iconst 3, 1) := by decide +kernel
theorem dX10_sheet_96 : decode cX10_sheet 96 = .ok (.idiv, 1) := by decide +kernel
theorem dX10_sheet_97 : decode cX10_sheet 97 = .ok (.iaload, 1) := by decide +kernel
theorem dX10_sheet_98 : decode cX10_sheet 98 = .ok (.iconst 3, 1) := by decide +kernel
theorem dX10_sheet_99 : decode cX10_sheet 99 = .ok (.imul, 1) := by decide +kernel
theorem dX10_sheet_100 : decode cX10_sheet 100 = .ok (.iload 6, 2) := by decide +kernel
theorem dX10_sheet_102 : decode cX10_sheet 102 = .ok (.iconst 3, 1) := by decide +kernel
theorem dX10_sheet_103 : decode cX10_sheet 103 = .ok (.irem, 1) := by decide +kernel
theorem dX10_sheet_104 : decode cX10_sheet 104 = .ok (.iadd, 1) := by decide +kernel
theorem dX10_sheet_105 : decode cX10_sheet 105 = .ok (.iload 7, 2) := by decide +kernel
theorem dX10_sheet_107 : decode cX10_sheet 107 = .ok (.iastore, 1) := by decide +kernel
theorem dX10_sheet_108 : decode cX10_sheet 108 = .ok (.iload 5, 2) := by decide +kernel
theorem dX10_sheet_110 : decode cX10_sheet 110 = .ok (.iload 7, 2) := by decide +kernel
theorem dX10_sheet_112 : decode cX10_sheet 112 = .ok (.iadd, 1) := by decide +kernel
theorem dX10_sheet_113 : decode cX10_sheet 113 = .ok (.istore 5, 2) := by decide +kernel
theorem dX10_sheet_115 : decode cX10_sheet 115 = .ok (.iinc 6 1, 3) := by decide +kernel
theorem dX10_sheet_118 : decode cX10_sheet 118 = .ok (.goto (-79), 3) := by decide +kernel
theorem dX10_sheet_121 : decode cX10_sheet 121 = .ok (.iload_n 1, 1) := by decide +kernel
theorem dX10_sheet_122 : decode cX10_sheet 122 = .ok (.iconst 3, 1) := by decide +kernel
theorem dX10_sheet_123 : decode cX10_sheet 123 = .ok (.if_icmp .ne 8, 3) := by decide +kernel
theorem dX10_sheet_126 : decode cX10_sheet 126 = .ok (.bipush (-3), 2) := by decide +kernel
theorem dX10_sheet_128 : decode cX10_sheet 128 = .ok (.goto 5, 3) := by decide +kernel
theorem dX10_sheet_131 : decode cX10_sheet 131 = .ok (.iload 5, 2) := by decide +kernel
theorem dX10_sheet_133 : decode cX10_sheet 133 = .ok (.ireturn, 1) := by decide +kernel
theorem dX10_entryOf_0 : decode cX10_entryOf 0 = .ok (.iload_n 0, 1) := by decide +kernel
theorem dX10_entryOf_1 : decode cX10_entryOf 1 = .ok (.ifCond .ne 6, 3) := by decide +kernel
theorem dX10_entryOf_4 : decode cX10_entryOf 4 = .ok (.iload_n 1, 1) := by decide +kernel
theorem dX10_entryOf_5 : decode cX10_entryOf 5 = .ok (.i2b, 1) := by decide +kernel
theorem dX10_entryOf_6 : decode cX10_entryOf 6 = .ok (.ireturn, 1) := by decide +kernel
theorem dX10_entryOf_7 : decode cX10_entryOf 7 = .ok (.iload_n 0, 1) := by decide +kernel
theorem dX10_entryOf_8 : decode cX10_entryOf 8 = .ok (.iconst 1, 1) := by decide +kernel
theorem dX10_entryOf_9 : decode cX10_entryOf 9 = .ok (.if_icmp .ne 8, 3) := by decide +kernel
theorem dX10_entryOf_12 : decode cX10_entryOf 12 = .ok (.iload_n 1, 1) := by decide +kernel
theorem dX10_entryOf_13 : decode cX10_entryOf 13 = .ok (.i2s, 1) := by decide +kernel
theorem dX10_entryOf_14 : decode cX10_entryOf 14 = .ok (.goto 4, 3) := by decide +kernel
theorem dX10_entryOf_17 : decode cX10_entryOf 17 = .ok (.iload_n 1, 1) := by decide +kernel
theorem dX10_entryOf_18 : decode cX10_entryOf 18 = .ok (.ireturn, 1) := by decide +kernel
theorem dX10_refusedText_0 : decode cX10_refusedText 0 = .ok (.aload_n 0, 1) := by decide +kernel
theorem dX10_refusedText_1 : decode cX10_refusedText 1 = .ok (.getfield 10, 3) := by decide +kernel
theorem dX10_refusedText_4 : decode cX10_refusedText 4 = .ok (.iconst 0, 1) := by decide +kernel
theorem dX10_refusedText_5 : decode cX10_refusedText 5 = .ok (.putfield 89, 3) := by decide +kernel
theorem dX10_refusedText_8 : decode cX10_refusedText 8 = .ok (.iconst (-1), 1) := by decide +kernel
theorem dX10_refusedText_9 : decode cX10_refusedText 9 = .ok (.iload_n 1, 1) := by decide +kernel
theorem dX10_refusedText_10 : decode cX10_refusedText 10 = .ok (.isub, 1) := by decide +kernel
theorem dX10_refusedText_11 : decode cX10_refusedText 11 = .ok (.ireturn, 1) := by decide +kernel
theorem dX10_tellPatchAt_0 : decode cX10_tellPatchAt 0 = .ok (.aload_n 0, 1) := by decide +kernel
theorem dX10_tellPatchAt_1 : decode cX10_tellPatchAt 1 = .ok (.getfield 26, 3) := by decide +kernel
theorem dX10_tellPatchAt_4 : decode cX10_tellPatchAt 4 = .ok (.aload_n 0, 1) := by decide +kernel
theorem dX10_tellPatchAt_5 : decode cX10_tellPatchAt 5 = .ok (.getfield 10, 3) := by decide +kernel
theorem dX10_tellPatchAt_8 : decode cX10_tellPatchAt 8 = .ok (.iload_n 1, 1) := by decide +kernel
theorem dX10_tellPatchAt_9 : decode cX10_tellPatchAt 9 = .ok (.invokevirtual 195, 3) := by decide +kernel
theorem dX10_tellPatchAt_12 : decode cX10_tellPatchAt 12 = .ok (.aload_n 0, 1) := by decide +kernel
theorem dX10_tellPatchAt_13 : decode cX10_tellPatchAt 13 = .ok (.getfield 10, 3) := by decide +kernel
theorem dX10_tellPatchAt_16 : decode cX10_tellPatchAt 16 = .ok (.iload_n 1, 1) := by decide +kernel
theorem dX10_tellPatchAt_17 : decode cX10_tellPatchAt 17 = .ok (.iconst 4, 1) := by decide +kernel
theorem dX10_tellPatchAt_18 : decode cX10_tellPatchAt 18 = .ok (.iadd, 1) := by decide +kernel
theorem dX10_tellPatchAt_19 : decode cX10_tellPatchAt 19 = .ok (.invokevirtual 198, 3) := by decide +kernel
theorem dX10_tellPatchAt_22 : decode cX10_tellPatchAt 22 = .ok (.aload_n 0, 1) := by decide +kernel
theorem dX10_tellPatchAt_23 : decode cX10_tellPatchAt 23 = .ok (.getfield 10, 3) := by decide +kernel
theorem dX10_tellPatchAt_26 : decode cX10_tellPatchAt 26 = .ok (.iload_n 1, 1) := by decide +kernel
theorem dX10_tellPatchAt_27 : decode cX10_tellPatchAt 27 = .ok (.bipush 6, 2) := by decide +kernel
theorem dX10_tellPatchAt_29 : decode cX10_tellPatchAt 29 = .ok (.iadd, 1) := by decide +kernel
theorem dX10_tellPatchAt_30 : decode cX10_tellPatchAt 30 = .ok (.invokevirtual 198, 3) := by decide +kernel
theorem dX10_tellPatchAt_33 : decode cX10_tellPatchAt 33 = .ok (.aload_n 0, 1) := by decide +kernel
theorem dX10_tellPatchAt_34 : decode cX10_tellPatchAt 34 = .ok (.getfield 10, 3) := by decide +kernel
theorem dX10_tellPatchAt_37 : decode cX10_tellPatchAt 37 = .ok (.iload_n 1, 1) := by decide +kernel
theorem dX10_tellPatchAt_38 : decode cX10_tellPatchAt 38 = .ok (.bipush 8, 2) := by decide +kernel
theorem dX10_tellPatchAt_40 : decode cX10_tellPatchAt 40 = .ok (.iadd, 1) := by decide +kernel
theorem dX10_tellPatchAt_41 : decode cX10_tellPatchAt 41 = .ok (.invokevirtual 198, 3) := by decide +kernel
theorem dX10_tellPatchAt_44 : decode cX10_tellPatchAt 44 = .ok (.invokevirtual 201, 3) := by decide +kernel
theorem dX10_tellPatchAt_47 : decode cX10_tellPatchAt 47 = .ok (.ireturn, 1) := by decide +kernel
theorem dX10_measure_0 : decode cX10_measure 0 = .ok (.aload_n 0, 1) := by decide +kernel
theorem dX10_measure_1 : decode cX10_measure 1 = .ok (.getfield 33, 3) := by decide +kernel
theorem dX10_measure_4 : decode cX10_measure 4 = .ok (.aload_n 0, 1) := by decide +kernel
theorem dX10_measure_5 : decode cX10_measure 5 = .ok (.getfield 26, 3) := by decide +kernel
theorem dX10_measure_8 : decode cX10_measure 8 = .ok (.invokevirtual 105, 3) := by decide +kernel
theorem dX10_measure_11 : decode cX10_measure 11 = .ok (.aload_n 0, 1) := by decide +kernel
theorem dX10_measure_12 : decode cX10_measure 12 = .ok (.aload_n 0, 1) := by decide +kernel
theorem dX10_measure_13 : decode cX10_measure 13 = .ok (.getfield 26, 3) := by decide +kernel
theorem dX10_measure_16 : decode cX10_measure 16 = .ok (.iload_n 1, 1) := by decide +kernel
theorem dX10_measure_17 : decode cX10_measure 17 = .ok (.iload_n 2, 1) := by decide +kernel
theorem dX10_measure_18 : decode cX10_measure 18 = .ok (.iload_n 3, 1) := by decide +kernel
theorem dX10_measure_19 : decode cX10_measure 19 = .ok (.iload 4, 2) := by decide +kernel
theorem dX10_measure_21 : decode cX10_measure 21 = .ok (.invokevirtual 201, 3) := by decide +kernel
theorem dX10_measure_24 : decode cX10_measure 24 = .ok (.invokevirtual 120, 3) := by decide +kernel
theorem dX10_measure_27 : decode cX10_measure 27 = .ok (.ireturn, 1) := by decide +kernel
theorem dX10_forgets_0 : decode cX10_forgets 0 = .ok (.aload_n 0, 1) := by decide +kernel
theorem dX10_forgets_1 : decode cX10_forgets 1 = .ok (.getfield 33, 3) := by decide +kernel
theorem dX10_forgets_4 : decode cX10_forgets 4 = .ok (.aload_n 0, 1) := by decide +kernel
theorem dX10_forgets_5 : decode cX10_forgets 5 = .ok (.getfield 26, 3) := by decide +kernel
theorem dX10_forgets_8 : decode cX10_forgets 8 = .ok (.invokevirtual 105, 3) := by decide +kernel
theorem dX10_forgets_11 : decode cX10_forgets 11 = .ok (.aload_n 0, 1) := by decide +kernel
theorem dX10_forgets_12 : decode cX10_forgets 12 = .ok (.aload_n 0, 1) := by decide +kernel
theorem dX10_forgets_13 : decode cX10_forgets 13 = .ok (.getfield 26, 3) := by decide +kernel
theorem dX10_forgets_16 : decode cX10_forgets 16 = .ok (.iload_n 1, 1) := by decide +kernel
theorem dX10_forgets_17 : decode cX10_forgets 17 = .ok (.invokevirtual 205, 3) := by decide +kernel
theorem dX10_forgets_20 : decode cX10_forgets 20 = .ok (.invokevirtual 120, 3) := by decide +kernel
theorem dX10_forgets_23 : decode cX10_forgets 23 = .ok (.ireturn, 1) := by decide +kernel
theorem dX10_sets_0 : decode cX10_sets 0 = .ok (.aload_n 0, 1) := by decide +kernel
theorem dX10_sets_1 : decode cX10_sets 1 = .ok (.getfield 33, 3) := by decide +kernel
theorem dX10_sets_4 : decode cX10_sets 4 = .ok (.aload_n 0, 1) := by decide +kernel
theorem dX10_sets_5 : decode cX10_sets 5 = .ok (.getfield 26, 3) := by decide +kernel
theorem dX10_sets_8 : decode cX10_sets 8 = .ok (.invokevirtual 105, 3) := by decide +kernel
theorem dX10_sets_11 : decode cX10_sets 11 = .ok (.aload_n 0, 1) := by decide +kernel
theorem dX10_sets_12 : decode cX10_sets 12 = .ok (.aload_n 0, 1) := by decide +kernel
theorem dX10_sets_13 : decode cX10_sets 13 = .ok (.getfield 26, 3) := by decide +kernel
theorem dX10_sets_16 : decode cX10_sets 16 = .ok (.iload_n 1, 1) := by decide +kernel
theorem dX10_sets_17 : decode cX10_sets 17 = .ok (.iload_n 2, 1) := by decide +kernel
theorem dX10_sets_18 : decode cX10_sets 18 = .ok (.invokevirtual 208, 3) := by decide +kernel
theorem dX10_sets_21 : decode cX10_sets 21 = .ok (.invokevirtual 120, 3) := by decide +kernel
theorem dX10_sets_24 : decode cX10_sets 24 = .ok (.ireturn, 1) := by decide +kernel
theorem dX10_paints_0 : decode cX10_paints 0 = .ok (.aload_n 0, 1) := by decide +kernel
theorem dX10_paints_1 : decode cX10_paints 1 = .ok (.getfield 33, 3) := by decide +kernel
theorem dX10_paints_4 : decode cX10_paints 4 = .ok (.aload_n 0, 1) := by decide +kernel
theorem dX10_paints_5 : decode cX10_paints 5 = .ok (.getfield 26, 3) := by decide +kernel
theorem dX10_paints_8 : decode cX10_paints 8 = .ok (.invokevirtual 105, 3) := by decide +kernel
theorem dX10_paints_11 : decode cX10_paints 11 = .ok (.aload_n 0, 1) := by decide +kernel
theorem dX10_paints_12 : decode cX10_paints 12 = .ok (.aload_n 0, 1) := by decide +kernel
theorem dX10_paints_13 : decode cX10_paints 13 = .ok (.getfield 26, 3) := by decide +kernel
theorem dX10_paints_16 : decode cX10_paints 16 = .ok (.iload_n 1, 1) := by decide +kernel
theorem dX10_paints_17 : decode cX10_paints 17 = .ok (.iload_n 2, 1) := by decide +kernel
theorem dX10_paints_18 : decode cX10_paints 18 = .ok (.iload_n 3, 1) := by decide +kernel
theorem dX10_paints_19 : decode cX10_paints 19 = .ok (.iload 4, 2) := by decide +kernel
theorem dX10_paints_21 : decode cX10_paints 21 = .ok (.invokevirtual 211, 3) := by decide +kernel
theorem dX10_paints_24 : decode cX10_paints 24 = .ok (.invokevirtual 120, 3) := by decide +kernel
theorem dX10_paints_27 : decode cX10_paints 27 = .ok (.ireturn, 1) := by decide +kernel
theorem dX10_day_0 : decode cX10_day 0 = .ok (.aload_n 0, 1) := by decide +kernel
theorem dX10_day_1 : decode cX10_day 1 = .ok (.getfield 10, 3) := by decide +kernel
theorem dX10_day_4 : decode cX10_day 4 = .ok (.iconst 2, 1) := by decide +kernel
theorem dX10_day_5 : decode cX10_day 5 = .ok (.bipush 60, 2) := by decide +kernel
theorem dX10_day_7 : decode cX10_day 7 = .ok (.invokevirtual 97, 3) := by decide +kernel
theorem dX10_day_10 : decode cX10_day 10 = .ok (.istore_n 1, 1) := by decide +kernel
theorem dX10_day_11 : decode cX10_day 11 = .ok (.iload_n 1, 1) := by decide +kernel
theorem dX10_day_12 : decode cX10_day 12 = .ok (.ifCond .lt 9, 3) := by decide +kernel
theorem dX10_day_15 : decode cX10_day 15 = .ok (.aload_n 0, 1) := by decide +kernel
theorem dX10_day_16 : decode cX10_day 16 = .ok (.iload_n 1, 1) := by decide +kernel
theorem dX10_day_17 : decode cX10_day 17 = .ok (.invokevirtual 101, 3) := by decide +kernel
theorem dX10_day_20 : decode cX10_day 20 = .ok (.ireturn, 1) := by decide +kernel
theorem dX10_day_21 : decode cX10_day 21 = .ok (.aload_n 0, 1) := by decide +kernel
theorem dX10_day_22 : decode cX10_day 22 = .ok (.getfield 33, 3) := by decide +kernel
theorem dX10_day_25 : decode cX10_day 25 = .ok (.aload_n 0, 1) := by decide +kernel
theorem dX10_day_26 : decode cX10_day 26 = .ok (.getfield 26, 3) := by decide +kernel
theorem dX10_day_29 : decode cX10_day 29 = .ok (.invokevirtual 105, 3) := by decide +kernel
theorem dX10_day_32 : decode cX10_day 32 = .ok (.iconst 0, 1) := by decide +kernel
theorem dX10_day_33 : decode cX10_day 33 = .ok (.istore_n 2, 1) := by decide +kernel
theorem dX10_day_34 : decode cX10_day 34 = .ok (.iconst 0, 1) := by decide +kernel
theorem dX10_day_35 : decode cX10_day 35 = .ok (.istore_n 3, 1) := by decide +kernel
theorem dX10_day_36 : decode cX10_day 36 = .ok (.iconst 0, 1) := by decide +kernel
theorem dX10_day_37 : decode cX10_day 37 = .ok (.istore 4, 2) := by decide +kernel
theorem dX10_day_39 : decode cX10_day 39 = .ok (.iload 4, 2) := by decide +kernel
theorem dX10_day_41 : decode cX10_day 41 = .ok (.aload_n 0, 1) := by decide +kernel
theorem dX10_day_42 : decode cX10_day 42 = .ok (.getfield 10, 3) := by decide +kernel
theorem dX10_day_45 : decode cX10_day 45 = .ok (.getfield 89, 3) := by decide +kernel
theorem dX10_day_48 : decode cX10_day 48 = .ok (.if_icmp .ge 56, 3) := by decide +kernel
theorem dX10_day_51 : decode cX10_day 51 = .ok (.iload_n 3, 1) := by decide +kernel
theorem dX10_day_52 : decode cX10_day 52 = .ok (.ifCond .ne 52, 3) := by decide +kernel
theorem dX10_day_55 : decode cX10_day 55 = .ok (.aload_n 0, 1) := by decide +kernel
theorem dX10_day_56 : decode cX10_day 56 = .ok (.iload 4, 2) := by decide +kernel
theorem dX10_day_58 : decode cX10_day 58 = .ok (.invokevirtual 214, 3) := by decide +kernel
theorem dX10_day_61 : decode cX10_day 61 = .ok (.ifCond .ge 8, 3) := by decide +kernel
theorem dX10_day_64 : decode cX10_day 64 = .ok (.iconst 1, 1) := by decide +kernel
theorem dX10_day_65 : decode cX10_day 65 = .ok (.istore_n 3, 1) := by decide +kernel
theorem dX10_day_66 : decode cX10_day 66 = .ok (.goto 6, 3) := by decide +kernel
theorem dX10_day_69 : decode cX10_day 69 = .ok (.iinc 2 1, 3) := by decide +kernel
theorem dX10_day_72 : decode cX10_day 72 = .ok (.iload 4, 2) := by decide +kernel
theorem dX10_day_74 : decode cX10_day 74 = .ok (.iconst 0, 1) := by decide +kernel
theorem dX10_day_75 : decode cX10_day 75 = .ok (.aload_n 0, 1) := by decide +kernel
theorem dX10_day_76 : decode cX10_day 76 = .ok (.getfield 10, 3) := by decide +kernel
theorem dX10_day_79 : decode cX10_day 79 = .ok (.iload 4, 2) := by decide +kernel
theorem dX10_day_81 : decode cX10_day 81 = .ok (.invokevirtual 217, 3) := by decide +kernel
theorem dX10_day_84 : decode cX10_day 84 = .ok (.invokestatic 220, 3) := by decide +kernel
theorem dX10_day_87 : decode cX10_day 87 = .ok (.invokevirtual 111, 3) := by decide +kernel
theorem dX10_day_90 : decode cX10_day 90 = .ok (.iconst 1, 1) := by decide +kernel
theorem dX10_day_91 : decode cX10_day 91 = .ok (.isub, 1) := by decide +kernel
theorem dX10_day_92 : decode cX10_day 92 = .ok (.invokestatic 224, 3) := by decide +kernel
theorem dX10_day_95 : decode cX10_day 95 = .ok (.iadd, 1) := by decide +kernel
theorem dX10_day_96 : decode cX10_day 96 = .ok (.istore 4, 2) := by decide +kernel
theorem dX10_day_98 : decode cX10_day 98 = .ok (.iinc 4 1, 3) := by decide +kernel
theorem dX10_day_101 : decode cX10_day 101 = .ok (.goto (-62), 3) := by decide +kernel
theorem dX10_day_104 : decode cX10_day 104 = .ok (.aload_n 0, 1) := by decide +kernel
theorem dX10_day_105 : decode cX10_day 105 = .ok (.getfield 10, 3) := by decide +kernel
theorem dX10_day_108 : decode cX10_day 108 = .ok (.iconst 0, 1) := by decide +kernel
theorem dX10_day_109 : decode cX10_day 109 = .ok (.putfield 89, 3) := by decide +kernel
theorem dX10_day_112 : decode cX10_day 112 = .ok (.iload_n 2, 1) := by decide +kernel
theorem dX10_day_113 : decode cX10_day 113 = .ok (.ifCond .le 10, 3) := by decide +kernel
theorem dX10_day_116 : decode cX10_day 116 = .ok (.aload_n 0, 1) := by decide +kernel
theorem dX10_day_117 : decode cX10_day 117 = .ok (.getfield 33, 3) := by decide +kernel
theorem dX10_day_120 : decode cX10_day 120 = .ok (.invokevirtual 229, 3) := by decide +kernel
theorem dX10_day_123 : decode cX10_day 123 = .ok (.aload_n 0, 1) := by decide +kernel
theorem dX10_day_124 : decode cX10_day 124 = .ok (.getfield 19, 3) := by decide +kernel
theorem dX10_day_127 : decode cX10_day 127 = .ok (.invokevirtual 232, 3) := by decide +kernel
theorem dX10_day_130 : decode cX10_day 130 = .ok (.aload_n 0, 1) := by decide +kernel
theorem dX10_day_131 : decode cX10_day 131 = .ok (.getfield 19, 3) := by decide +kernel
theorem dX10_day_134 : decode cX10_day 134 = .ok (.iload_n 3, 1) := by decide +kernel
theorem dX10_day_135 : decode cX10_day 135 = .ok (.ifCond .eq 7, 3) := by decide +kernel
theorem dX10_day_138 : decode cX10_day 138 = .ok (.lconst 1, 1) := by decide +kernel
theorem dX10_day_139 : decode cX10_day 139 = .ok (.goto 4, 3) := by decide +kernel
theorem dX10_day_142 : decode cX10_day 142 = .ok (.lconst 0, 1) := by decide +kernel
theorem dX10_day_143 : decode cX10_day 143 = .ok (.invokevirtual 235, 3) := by decide +kernel
theorem dX10_day_146 : decode cX10_day 146 = .ok (.iload_n 2, 1) := by decide +kernel
theorem dX10_day_147 : decode cX10_day 147 = .ok (.ireturn, 1) := by decide +kernel
theorem dX10_undo_0 : decode cX10_undo 0 = .ok (.aload_n 0, 1) := by decide +kernel
theorem dX10_undo_1 : decode cX10_undo 1 = .ok (.getfield 33, 3) := by decide +kernel
theorem dX10_undo_4 : decode cX10_undo 4 = .ok (.getfield 238, 3) := by decide +kernel
theorem dX10_undo_7 : decode cX10_undo 7 = .ok (.ifCond .ne 5, 3) := by decide +kernel
theorem dX10_undo_10 : decode cX10_undo 10 = .ok (.iconst (-1), 1) := by decide +kernel
theorem dX10_undo_11 : decode cX10_undo 11 = .ok (.ireturn, 1) := by decide +kernel
theorem dX10_undo_12 : decode cX10_undo 12 = .ok (.aload_n 0, 1) := by decide +kernel
theorem dX10_undo_13 : decode cX10_undo 13 = .ok (.getfield 33, 3) := by decide +kernel
theorem dX10_undo_16 : decode cX10_undo 16 = .ok (.aload_n 0, 1) := by decide +kernel
theorem dX10_undo_17 : decode cX10_undo 17 = .ok (.getfield 26, 3) := by decide +kernel
theorem dX10_undo_20 : decode cX10_undo 20 = .ok (.invokevirtual 239, 3) := by decide +kernel
theorem dX10_undo_23 : decode cX10_undo 23 = .ok (.aload_n 0, 1) := by decide +kernel
