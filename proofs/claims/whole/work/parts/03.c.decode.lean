theorem dX12_put_3 : decode cX12_put 3 = .ok (.aload_n 0, 1) := by decide +kernel
theorem dX12_put_4 : decode cX12_put 4 = .ok (.invokevirtual 89, 3) := by decide +kernel
theorem dX12_put_7 : decode cX12_put 7 = .ok (.iconst 1, 1) := by decide +kernel
theorem dX12_put_8 : decode cX12_put 8 = .ok (.isub, 1) := by decide +kernel
theorem dX12_put_9 : decode cX12_put 9 = .ok (.i2l, 1) := by decide +kernel
theorem dX12_put_10 : decode cX12_put 10 = .ok (.invokestatic 59, 3) := by decide +kernel
theorem dX12_put_13 : decode cX12_put 13 = .ok (.ifCond .eq 11, 3) := by decide +kernel
theorem dX12_put_16 : decode cX12_put 16 = .ok (.iload_n 2, 1) := by decide +kernel
theorem dX12_put_17 : decode cX12_put 17 = .ok (.iload_n 3, 1) := by decide +kernel
theorem dX12_put_18 : decode cX12_put 18 = .ok (.invokestatic 70, 3) := by decide +kernel
theorem dX12_put_21 : decode cX12_put 21 = .ok (.ifCond .ne 6, 3) := by decide +kernel
theorem dX12_put_24 : decode cX12_put 24 = .ok (.bipush (-2), 2) := by decide +kernel
theorem dX12_put_26 : decode cX12_put 26 = .ok (.ireturn, 1) := by decide +kernel
theorem dX12_put_27 : decode cX12_put 27 = .ok (.aload_n 0, 1) := by decide +kernel
theorem dX12_put_28 : decode cX12_put 28 = .ok (.getfield 65, 3) := by decide +kernel
theorem dX12_put_31 : decode cX12_put 31 = .ok (.iconst 2, 1) := by decide +kernel
theorem dX12_put_32 : decode cX12_put 32 = .ok (.if_icmp .ge 28, 3) := by decide +kernel
theorem dX12_put_35 : decode cX12_put 35 = .ok (.aload_n 0, 1) := by decide +kernel
theorem dX12_put_36 : decode cX12_put 36 = .ok (.getfield 13, 3) := by decide +kernel
theorem dX12_put_39 : decode cX12_put 39 = .ok (.iconst 4, 1) := by decide +kernel
theorem dX12_put_40 : decode cX12_put 40 = .ok (.iload_n 1, 1) := by decide +kernel
theorem dX12_put_41 : decode cX12_put 41 = .ok (.imul, 1) := by decide +kernel
theorem dX12_put_42 : decode cX12_put 42 = .ok (.iconst 2, 1) := by decide +kernel
theorem dX12_put_43 : decode cX12_put 43 = .ok (.iadd, 1) := by decide +kernel
theorem dX12_put_44 : decode cX12_put 44 = .ok (.iload_n 2, 1) := by decide +kernel
theorem dX12_put_45 : decode cX12_put 45 = .ok (.iastore, 1) := by decide +kernel
theorem dX12_put_46 : decode cX12_put 46 = .ok (.aload_n 0, 1) := by decide +kernel
theorem dX12_put_47 : decode cX12_put 47 = .ok (.getfield 13, 3) := by decide +kernel
theorem dX12_put_50 : decode cX12_put 50 = .ok (.iconst 4, 1) := by decide +kernel
theorem dX12_put_51 : decode cX12_put 51 = .ok (.iload_n 1, 1) := by decide +kernel
theorem dX12_put_52 : decode cX12_put 52 = .ok (.imul, 1) := by decide +kernel
theorem dX12_put_53 : decode cX12_put 53 = .ok (.iconst 3, 1) := by decide +kernel
theorem dX12_put_54 : decode cX12_put 54 = .ok (.iadd, 1) := by decide +kernel
theorem dX12_put_55 : decode cX12_put 55 = .ok (.iload_n 3, 1) := by decide +kernel
theorem dX12_put_56 : decode cX12_put 56 = .ok (.iastore, 1) := by decide +kernel
theorem dX12_put_57 : decode cX12_put 57 = .ok (.goto 87, 3) := by decide +kernel
theorem dX12_put_60 : decode cX12_put 60 = .ok (.aload_n 0, 1) := by decide +kernel
theorem dX12_put_61 : decode cX12_put 61 = .ok (.getfield 65, 3) := by decide +kernel
theorem dX12_put_64 : decode cX12_put 64 = .ok (.iconst 2, 1) := by decide +kernel
theorem dX12_put_65 : decode cX12_put 65 = .ok (.if_icmp .ne 26, 3) := by decide +kernel
theorem dX12_put_68 : decode cX12_put 68 = .ok (.aload_n 0, 1) := by decide +kernel
theorem dX12_put_69 : decode cX12_put 69 = .ok (.getfield 17, 3) := by decide +kernel
theorem dX12_put_72 : decode cX12_put 72 = .ok (.iconst 2, 1) := by decide +kernel
theorem dX12_put_73 : decode cX12_put 73 = .ok (.iload_n 1, 1) := by decide +kernel
theorem dX12_put_74 : decode cX12_put 74 = .ok (.imul, 1) := by decide +kernel
theorem dX12_put_75 : decode cX12_put 75 = .ok (.iload_n 2, 1) := by decide +kernel
theorem dX12_put_76 : decode cX12_put 76 = .ok (.iastore, 1) := by decide +kernel
theorem dX12_put_77 : decode cX12_put 77 = .ok (.aload_n 0, 1) := by decide +kernel
theorem dX12_put_78 : decode cX12_put 78 = .ok (.getfield 17, 3) := by decide +kernel
theorem dX12_put_81 : decode cX12_put 81 = .ok (.iconst 2, 1) := by decide +kernel
theorem dX12_put_82 : decode cX12_put 82 = .ok (.iload_n 1, 1) := by decide +kernel
theorem dX12_put_83 : decode cX12_put 83 = .ok (.imul, 1) := by decide +kernel
theorem dX12_put_84 : decode cX12_put 84 = .ok (.iconst 1, 1) := by decide +kernel
theorem dX12_put_85 : decode cX12_put 85 = .ok (.iadd, 1) := by decide +kernel
theorem dX12_put_86 : decode cX12_put 86 = .ok (.iload_n 3, 1) := by decide +kernel
theorem dX12_put_87 : decode cX12_put 87 = .ok (.iastore, 1) := by decide +kernel
theorem dX12_put_88 : decode cX12_put 88 = .ok (.goto 56, 3) := by decide +kernel
theorem dX12_put_91 : decode cX12_put 91 = .ok (.aload_n 0, 1) := by decide +kernel
theorem dX12_put_92 : decode cX12_put 92 = .ok (.getfield 65, 3) := by decide +kernel
theorem dX12_put_95 : decode cX12_put 95 = .ok (.iconst 3, 1) := by decide +kernel
theorem dX12_put_96 : decode cX12_put 96 = .ok (.if_icmp .ne 28, 3) := by decide +kernel
theorem dX12_put_99 : decode cX12_put 99 = .ok (.aload_n 0, 1) := by decide +kernel
theorem dX12_put_100 : decode cX12_put 100 = .ok (.getfield 20, 3) := by decide +kernel
theorem dX12_put_103 : decode cX12_put 103 = .ok (.iconst 3, 1) := by decide +kernel
theorem dX12_put_104 : decode cX12_put 104 = .ok (.iload_n 1, 1) := by decide +kernel
theorem dX12_put_105 : decode cX12_put 105 = .ok (.imul, 1) := by decide +kernel
theorem dX12_put_106 : decode cX12_put 106 = .ok (.iconst 1, 1) := by decide +kernel
theorem dX12_put_107 : decode cX12_put 107 = .ok (.iadd, 1) := by decide +kernel
theorem dX12_put_108 : decode cX12_put 108 = .ok (.iload_n 2, 1) := by decide +kernel
theorem dX12_put_109 : decode cX12_put 109 = .ok (.iastore, 1) := by decide +kernel
theorem dX12_put_110 : decode cX12_put 110 = .ok (.aload_n 0, 1) := by decide +kernel
theorem dX12_put_111 : decode cX12_put 111 = .ok (.getfield 20, 3) := by decide +kernel
theorem dX12_put_114 : decode cX12_put 114 = .ok (.iconst 3, 1) := by decide +kernel
theorem dX12_put_115 : decode cX12_put 115 = .ok (.iload_n 1, 1) := by decide +kernel
theorem dX12_put_116 : decode cX12_put 116 = .ok (.imul, 1) := by decide +kernel
theorem dX12_put_117 : decode cX12_put 117 = .ok (.iconst 2, 1) := by decide +kernel
theorem dX12_put_118 : decode cX12_put 118 = .ok (.iadd, 1) := by decide +kernel
theorem dX12_put_119 : decode cX12_put 119 = .ok (.iload_n 3, 1) := by decide +kernel
theorem dX12_put_120 : decode cX12_put 120 = .ok (.iastore, 1) := by decide +kernel
theorem dX12_put_121 : decode cX12_put 121 = .ok (.goto 23, 3) := by decide +kernel
theorem dX12_put_124 : decode cX12_put 124 = .ok (.aload_n 0, 1) := by decide +kernel
theorem dX12_put_125 : decode cX12_put 125 = .ok (.getfield 26, 3) := by decide +kernel
theorem dX12_put_128 : decode cX12_put 128 = .ok (.iconst 3, 1) := by decide +kernel
theorem dX12_put_129 : decode cX12_put 129 = .ok (.iload_n 1, 1) := by decide +kernel
theorem dX12_put_130 : decode cX12_put 130 = .ok (.imul, 1) := by decide +kernel
theorem dX12_put_131 : decode cX12_put 131 = .ok (.iload_n 2, 1) := by decide +kernel
theorem dX12_put_132 : decode cX12_put 132 = .ok (.iastore, 1) := by decide +kernel
theorem dX12_put_133 : decode cX12_put 133 = .ok (.aload_n 0, 1) := by decide +kernel
theorem dX12_put_134 : decode cX12_put 134 = .ok (.getfield 26, 3) := by decide +kernel
theorem dX12_put_137 : decode cX12_put 137 = .ok (.iconst 3, 1) := by decide +kernel
theorem dX12_put_138 : decode cX12_put 138 = .ok (.iload_n 1, 1) := by decide +kernel
theorem dX12_put_139 : decode cX12_put 139 = .ok (.imul, 1) := by decide +kernel
theorem dX12_put_140 : decode cX12_put 140 = .ok (.iconst 1, 1) := by decide +kernel
theorem dX12_put_141 : decode cX12_put 141 = .ok (.iadd, 1) := by decide +kernel
theorem dX12_put_142 : decode cX12_put 142 = .ok (.iload_n 3, 1) := by decide +kernel
theorem dX12_put_143 : decode cX12_put 143 = .ok (.iastore, 1) := by decide +kernel
theorem dX12_put_144 : decode cX12_put 144 = .ok (.iconst 1, 1) := by decide +kernel
theorem dX12_put_145 : decode cX12_put 145 = .ok (.ireturn, 1) := by decide +kernel
theorem dX12_clear_0 : decode cX12_clear 0 = .ok (.aload_n 0, 1) := by decide +kernel
theorem dX12_clear_1 : decode cX12_clear 1 = .ok (.invokevirtual 89, 3) := by decide +kernel
theorem dX12_clear_4 : decode cX12_clear 4 = .ok (.istore_n 1, 1) := by decide +kernel
theorem dX12_clear_5 : decode cX12_clear 5 = .ok (.aload_n 0, 1) := by decide +kernel
theorem dX12_clear_6 : decode cX12_clear 6 = .ok (.getfield 65, 3) := by decide +kernel
theorem dX12_clear_9 : decode cX12_clear 9 = .ok (.iconst 2, 1) := by decide +kernel
theorem dX12_clear_10 : decode cX12_clear 10 = .ok (.if_icmp .ge 11, 3) := by decide +kernel
theorem dX12_clear_13 : decode cX12_clear 13 = .ok (.aload_n 0, 1) := by decide +kernel
theorem dX12_clear_14 : decode cX12_clear 14 = .ok (.iconst 0, 1) := by decide +kernel
theorem dX12_clear_15 : decode cX12_clear 15 = .ok (.putfield 74, 3) := by decide +kernel
theorem dX12_clear_18 : decode cX12_clear 18 = .ok (.goto 56, 3) := by decide +kernel
theorem dX12_clear_21 : decode cX12_clear 21 = .ok (.aload_n 0, 1) := by decide +kernel
theorem dX12_clear_22 : decode cX12_clear 22 = .ok (.getfield 65, 3) := by decide +kernel
theorem dX12_clear_25 : decode cX12_clear 25 = .ok (.iconst 2, 1) := by decide +kernel
theorem dX12_clear_26 : decode cX12_clear 26 = .ok (.if_icmp .ne 27, 3) := by decide +kernel
theorem dX12_clear_29 : decode cX12_clear 29 = .ok (.iconst 0, 1) := by decide +kernel
theorem dX12_clear_30 : decode cX12_clear 30 = .ok (.istore_n 2, 1) := by decide +kernel
theorem dX12_clear_31 : decode cX12_clear 31 = .ok (.iload_n 2, 1) := by decide +kernel
theorem dX12_clear_32 : decode cX12_clear 32 = .ok (.bipush 32, 2) := by decide +kernel
theorem dX12_clear_34 : decode cX12_clear 34 = .ok (.if_icmp .ge 16, 3) := by decide +kernel
theorem dX12_clear_37 : decode cX12_clear 37 = .ok (.aload_n 0, 1) := by decide +kernel
theorem dX12_clear_38 : decode cX12_clear 38 = .ok (.getfield 17, 3) := by decide +kernel
theorem dX12_clear_41 : decode cX12_clear 41 = .ok (.iload_n 2, 1) := by decide +kernel
theorem dX12_clear_42 : decode cX12_clear 42 = .ok (.iconst 0, 1) := by decide +kernel
theorem dX12_clear_43 : decode cX12_clear 43 = .ok (.iastore, 1) := by decide +kernel
theorem dX12_clear_44 : decode cX12_clear 44 = .ok (.iinc 2 1, 3) := by decide +kernel
theorem dX12_clear_47 : decode cX12_clear 47 = .ok (.goto (-16), 3) := by decide +kernel
theorem dX12_clear_50 : decode cX12_clear 50 = .ok (.goto 24, 3) := by decide +kernel
theorem dX12_clear_53 : decode cX12_clear 53 = .ok (.aload_n 0, 1) := by decide +kernel
theorem dX12_clear_54 : decode cX12_clear 54 = .ok (.getfield 65, 3) := by decide +kernel
theorem dX12_clear_57 : decode cX12_clear 57 = .ok (.iconst 3, 1) := by decide +kernel
theorem dX12_clear_58 : decode cX12_clear 58 = .ok (.if_icmp .ne 11, 3) := by decide +kernel
theorem dX12_clear_61 : decode cX12_clear 61 = .ok (.aload_n 0, 1) := by decide +kernel
theorem dX12_clear_62 : decode cX12_clear 62 = .ok (.iconst 0, 1) := by decide +kernel
theorem dX12_clear_63 : decode cX12_clear 63 = .ok (.putfield 81, 3) := by decide +kernel
theorem dX12_clear_66 : decode cX12_clear 66 = .ok (.goto 8, 3) := by decide +kernel
theorem dX12_clear_69 : decode cX12_clear 69 = .ok (.aload_n 0, 1) := by decide +kernel
theorem dX12_clear_70 : decode cX12_clear 70 = .ok (.iconst 0, 1) := by decide +kernel
theorem dX12_clear_71 : decode cX12_clear 71 = .ok (.putfield 86, 3) := by decide +kernel
theorem dX12_clear_74 : decode cX12_clear 74 = .ok (.iload_n 1, 1) := by decide +kernel
theorem dX12_clear_75 : decode cX12_clear 75 = .ok (.ireturn, 1) := by decide +kernel
theorem dX12_size_0 : decode cX12_size 0 = .ok (.iconst 0, 1) := by decide +kernel
theorem dX12_size_1 : decode cX12_size 1 = .ok (.istore_n 1, 1) := by decide +kernel
theorem dX12_size_2 : decode cX12_size 2 = .ok (.iconst 0, 1) := by decide +kernel
theorem dX12_size_3 : decode cX12_size 3 = .ok (.istore_n 2, 1) := by decide +kernel
theorem dX12_size_4 : decode cX12_size 4 = .ok (.iload_n 2, 1) := by decide +kernel
theorem dX12_size_5 : decode cX12_size 5 = .ok (.bipush 16, 2) := by decide +kernel
theorem dX12_size_7 : decode cX12_size 7 = .ok (.if_icmp .ge 17, 3) := by decide +kernel
theorem dX12_size_10 : decode cX12_size 10 = .ok (.iload_n 1, 1) := by decide +kernel
theorem dX12_size_11 : decode cX12_size 11 = .ok (.iload_n 0, 1) := by decide +kernel
theorem dX12_size_12 : decode cX12_size 12 = .ok (.iload_n 2, 1) := by decide +kernel
theorem dX12_size_13 : decode cX12_size 13 = .ok (.ishr, 1) := by decide +kernel
theorem dX12_size_14 : decode cX12_size 14 = .ok (.iconst 1, 1) := by decide +kernel
theorem dX12_size_15 : decode cX12_size 15 = .ok (.iand, 1) := by decide +kernel
theorem dX12_size_16 : decode cX12_size 16 = .ok (.iadd, 1) := by decide +kernel
theorem dX12_size_17 : decode cX12_size 17 = .ok (.istore_n 1, 1) := by decide +kernel
theorem dX12_size_18 : decode cX12_size 18 = .ok (.iinc 2 1, 3) := by decide +kernel
theorem dX12_size_21 : decode cX12_size 21 = .ok (.goto (-17), 3) := by decide +kernel
theorem dX12_size_24 : decode cX12_size 24 = .ok (.iload_n 1, 1) := by decide +kernel
theorem dX12_size_25 : decode cX12_size 25 = .ok (.ireturn, 1) := by decide +kernel
theorem dX12_isWay_0 : decode cX12_isWay 0 = .ok (.iconst 0, 1) := by decide +kernel
theorem dX12_isWay_1 : decode cX12_isWay 1 = .ok (.istore_n 2, 1) := by decide +kernel
theorem dX12_isWay_2 : decode cX12_isWay 2 = .ok (.iconst 1, 1) := by decide +kernel
theorem dX12_isWay_3 : decode cX12_isWay 3 = .ok (.istore_n 3, 1) := by decide +kernel
theorem dX12_isWay_4 : decode cX12_isWay 4 = .ok (.iload_n 1, 1) := by decide +kernel
theorem dX12_isWay_5 : decode cX12_isWay 5 = .ok (.istore 4, 2) := by decide +kernel
theorem dX12_isWay_7 : decode cX12_isWay 7 = .ok (.iload_n 2, 1) := by decide +kernel
theorem dX12_isWay_8 : decode cX12_isWay 8 = .ok (.iconst 5, 1) := by decide +kernel
theorem dX12_isWay_9 : decode cX12_isWay 9 = .ok (.if_icmp .eq 116, 3) := by decide +kernel
theorem dX12_isWay_12 : decode cX12_isWay 12 = .ok (.iconst (-1), 1) := by decide +kernel
theorem dX12_isWay_13 : decode cX12_isWay 13 = .ok (.istore 5, 2) := by decide +kernel
theorem dX12_isWay_15 : decode cX12_isWay 15 = .ok (.iconst 0, 1) := by decide +kernel
theorem dX12_isWay_16 : decode cX12_isWay 16 = .ok (.istore 6, 2) := by decide +kernel
theorem dX12_isWay_18 : decode cX12_isWay 18 = .ok (.iload 6, 2) := by decide +kernel
theorem dX12_isWay_20 : decode cX12_isWay 20 = .ok (.aload_n 0, 1) := by decide +kernel
theorem dX12_isWay_21 : decode cX12_isWay 21 = .ok (.getfield 74, 3) := by decide +kernel
theorem dX12_isWay_24 : decode cX12_isWay 24 = .ok (.if_icmp .ge 42, 3) := by decide +kernel
theorem dX12_isWay_27 : decode cX12_isWay 27 = .ok (.iload 4, 2) := by decide +kernel
theorem dX12_isWay_29 : decode cX12_isWay 29 = .ok (.iload 6, 2) := by decide +kernel
theorem dX12_isWay_31 : decode cX12_isWay 31 = .ok (.ishr, 1) := by decide +kernel
theorem dX12_isWay_32 : decode cX12_isWay 32 = .ok (.iconst 1, 1) := by decide +kernel
theorem dX12_isWay_33 : decode cX12_isWay 33 = .ok (.iand, 1) := by decide +kernel
theorem dX12_isWay_34 : decode cX12_isWay 34 = .ok (.iconst 1, 1) := by decide +kernel
theorem dX12_isWay_35 : decode cX12_isWay 35 = .ok (.if_icmp .ne 21, 3) := by decide +kernel
theorem dX12_isWay_38 : decode cX12_isWay 38 = .ok (.aload_n 0, 1) := by decide +kernel
theorem dX12_isWay_39 : decode cX12_isWay 39 = .ok (.getfield 13, 3) := by decide +kernel
theorem dX12_isWay_42 : decode cX12_isWay 42 = .ok (.iconst 4, 1) := by decide +kernel
theorem dX12_isWay_43 : decode cX12_isWay 43 = .ok (.iload 6, 2) := by decide +kernel
theorem dX12_isWay_45 : decode cX12_isWay 45 = .ok (.imul, 1) := by decide +kernel
theorem dX12_isWay_46 : decode cX12_isWay 46 = .ok (.iaload, 1) := by decide +kernel
theorem dX12_isWay_47 : decode cX12_isWay 47 = .ok (.iload_n 2, 1) := by decide +kernel
theorem dX12_isWay_48 : decode cX12_isWay 48 = .ok (.if_icmp .ne 8, 3) := by decide +kernel
theorem dX12_isWay_51 : decode cX12_isWay 51 = .ok (.iload 6, 2) := by decide +kernel
theorem dX12_isWay_53 : decode cX12_isWay 53 = .ok (.goto 5, 3) := by decide +kernel
theorem dX12_isWay_56 : decode cX12_isWay 56 = .ok (.iload 5, 2) := by decide +kernel
theorem dX12_isWay_58 : decode cX12_isWay 58 = .ok (.istore 5, 2) := by decide +kernel
theorem dX12_isWay_60 : decode cX12_isWay 60 = .ok (.iinc 6 1, 3) := by decide +kernel
theorem dX12_isWay_63 : decode cX12_isWay 63 = .ok (.goto (-45), 3) := by decide +kernel
theorem dX12_isWay_66 : decode cX12_isWay 66 = .ok (.iload 5, 2) := by decide +kernel
theorem dX12_isWay_68 : decode cX12_isWay 68 = .ok (.iconst (-1), 1) := by decide +kernel
theorem dX12_isWay_69 : decode cX12_isWay 69 = .ok (.if_icmp .eq 22, 3) := by decide +kernel
theorem dX12_isWay_72 : decode cX12_isWay 72 = .ok (.iload_n 3, 1) := by decide +kernel
theorem dX12_isWay_73 : decode cX12_isWay 73 = .ok (.aload_n 0, 1) := by decide +kernel
theorem dX12_isWay_74 : decode cX12_isWay 74 = .ok (.getfield 13, 3) := by decide +kernel
theorem dX12_isWay_77 : decode cX12_isWay 77 = .ok (.iconst 4, 1) := by decide +kernel
theorem dX12_isWay_78 : decode cX12_isWay 78 = .ok (.iload 5, 2) := by decide +kernel
theorem dX12_isWay_80 : decode cX12_isWay 80 = .ok (.imul, 1) := by decide +kernel
theorem dX12_isWay_81 : decode cX12_isWay 81 = .ok (.iconst 1, 1) := by decide +kernel
theorem dX12_isWay_82 : decode cX12_isWay 82 = .ok (.iadd, 1) := by decide +kernel
theorem dX12_isWay_83 : decode cX12_isWay 83 = .ok (.iaload, 1) := by decide +kernel
theorem dX12_isWay_84 : decode cX12_isWay 84 = .ok (.ishr, 1) := by decide +kernel
theorem dX12_isWay_85 : decode cX12_isWay 85 = .ok (.iconst 1, 1) := by decide +kernel
theorem dX12_isWay_86 : decode cX12_isWay 86 = .ok (.iand, 1) := by decide +kernel
theorem dX12_isWay_87 : decode cX12_isWay 87 = .ok (.iconst 1, 1) := by decide +kernel
theorem dX12_isWay_88 : decode cX12_isWay 88 = .ok (.if_icmp .ne 5, 3) := by decide +kernel
theorem dX12_isWay_91 : decode cX12_isWay 91 = .ok (.iconst 0, 1) := by decide +kernel
theorem dX12_isWay_92 : decode cX12_isWay 92 = .ok (.ireturn, 1) := by decide +kernel
theorem dX12_isWay_93 : decode cX12_isWay 93 = .ok (.iload 4, 2) := by decide +kernel
theorem dX12_isWay_95 : decode cX12_isWay 95 = .ok (.iconst 1, 1) := by decide +kernel
theorem dX12_isWay_96 : decode cX12_isWay 96 = .ok (.iload 5, 2) := by decide +kernel
theorem dX12_isWay_98 : decode cX12_isWay 98 = .ok (.ishl, 1) := by decide +kernel
theorem dX12_isWay_99 : decode cX12_isWay 99 = .ok (.iconst (-1), 1) := by decide +kernel
theorem dX12_isWay_100 : decode cX12_isWay 100 = .ok (.ixor, 1) := by decide +kernel
theorem dX12_isWay_101 : decode cX12_isWay 101 = .ok (.iand, 1) := by decide +kernel
theorem dX12_isWay_102 : decode cX12_isWay 102 = .ok (.istore 4, 2) := by decide +kernel
theorem dX12_isWay_104 : decode cX12_isWay 104 = .ok (.aload_n 0, 1) := by decide +kernel
theorem dX12_isWay_105 : decode cX12_isWay 105 = .ok (.getfield 13, 3) := by decide +kernel
theorem dX12_isWay_108 : decode cX12_isWay 108 = .ok (.iconst 4, 1) := by decide +kernel
theorem dX12_isWay_109 : decode cX12_isWay 109 = .ok (.iload 5, 2) := by decide +kernel
theorem dX12_isWay_111 : decode cX12_isWay 111 = .ok (.imul, 1) := by decide +kernel
theorem dX12_isWay_112 : decode cX12_isWay 112 = .ok (.iconst 1, 1) := by decide +kernel
theorem dX12_isWay_113 : decode cX12_isWay 113 = .ok (.iadd, 1) := by decide +kernel
theorem dX12_isWay_114 : decode cX12_isWay 114 = .ok (.iaload, 1) := by decide +kernel
theorem dX12_isWay_115 : decode cX12_isWay 115 = .ok (.istore_n 2, 1) := by decide +kernel
theorem dX12_isWay_116 : decode cX12_isWay 116 = .ok (.iload_n 3, 1) := by decide +kernel
theorem dX12_isWay_117 : decode cX12_isWay 117 = .ok (.iconst 1, 1) := by decide +kernel
theorem dX12_isWay_118 : decode cX12_isWay 118 = .ok (.iload_n 2, 1) := by decide +kernel
theorem dX12_isWay_119 : decode cX12_isWay 119 = .ok (.ishl, 1) := by decide +kernel
theorem dX12_isWay_120 : decode cX12_isWay 120 = .ok (.ior, 1) := by decide +kernel
theorem dX12_isWay_121 : decode cX12_isWay 121 = .ok (.istore_n 3, 1) := by decide +kernel
theorem dX12_isWay_122 : decode cX12_isWay 122 = .ok (.goto (-115), 3) := by decide +kernel
theorem dX12_isWay_125 : decode cX12_isWay 125 = .ok (.iload 4, 2) := by decide +kernel
theorem dX12_isWay_127 : decode cX12_isWay 127 = .ok (.ifCond .ne 7, 3) := by decide +kernel
theorem dX12_isWay_130 : decode cX12_isWay 130 = .ok (.iconst 1, 1) := by decide +kernel
theorem dX12_isWay_131 : decode cX12_isWay 131 = .ok (.goto 4, 3) := by decide +kernel
theorem dX12_isWay_134 : decode cX12_isWay 134 = .ok (.iconst 0, 1) := by decide +kernel
theorem dX12_isWay_135 : decode cX12_isWay 135 = .ok (.ireturn, 1) := by decide +kernel
theorem dX12_isTree_0 : decode cX12_isTree 0 = .ok (.iload_n 1, 1) := by decide +kernel
theorem dX12_isTree_1 : decode cX12_isTree 1 = .ok (.invokestatic 93, 3) := by decide +kernel
theorem dX12_isTree_4 : decode cX12_isTree 4 = .ok (.iconst 5, 1) := by decide +kernel
theorem dX12_isTree_5 : decode cX12_isTree 5 = .ok (.if_icmp .eq 5, 3) := by decide +kernel
theorem dX12_isTree_8 : decode cX12_isTree 8 = .ok (.iconst 0, 1) := by decide +kernel
theorem dX12_isTree_9 : decode cX12_isTree 9 = .ok (.ireturn, 1) := by decide +kernel
theorem dX12_isTree_10 : decode cX12_isTree 10 = .ok (.iconst 0, 1) := by decide +kernel
theorem dX12_isTree_11 : decode cX12_isTree 11 = .ok (.istore_n 2, 1) := by decide +kernel
theorem dX12_isTree_12 : decode cX12_isTree 12 = .ok (.iload_n 2, 1) := by decide +kernel
theorem dX12_isTree_13 : decode cX12_isTree 13 = .ok (.bipush 6, 2) := by decide +kernel
theorem dX12_isTree_15 : decode cX12_isTree 15 = .ok (.if_icmp .ge 16, 3) := by decide +kernel
theorem dX12_isTree_18 : decode cX12_isTree 18 = .ok (.aload_n 0, 1) := by decide +kernel
theorem dX12_isTree_19 : decode cX12_isTree 19 = .ok (.getfield 33, 3) := by decide +kernel
theorem dX12_isTree_22 : decode cX12_isTree 22 = .ok (.iload_n 2, 1) := by decide +kernel
theorem dX12_isTree_23 : decode cX12_isTree 23 = .ok (.iload_n 2, 1) := by decide +kernel
theorem dX12_isTree_24 : decode cX12_isTree 24 = .ok (.iastore, 1) := by decide +kernel
theorem dX12_isTree_25 : decode cX12_isTree 25 = .ok (.iinc 2 1, 3) := by decide +kernel
theorem dX12_isTree_28 : decode cX12_isTree 28 = .ok (.goto (-16), 3) := by decide +kernel
theorem dX12_isTree_31 : decode cX12_isTree 31 = .ok (.iconst 0, 1) := by decide +kernel
theorem dX12_isTree_32 : decode cX12_isTree 32 = .ok (.istore_n 2, 1) := by decide +kernel
theorem dX12_isTree_33 : decode cX12_isTree 33 = .ok (.iload_n 2, 1) := by decide +kernel
theorem dX12_isTree_34 : decode cX12_isTree 34 = .ok (.aload_n 0, 1) := by decide +kernel
theorem dX12_isTree_35 : decode cX12_isTree 35 = .ok (.getfield 74, 3) := by decide +kernel
theorem dX12_isTree_38 : decode cX12_isTree 38 = .ok (.if_icmp .ge 103, 3) := by decide +kernel
theorem dX12_isTree_41 : decode cX12_isTree 41 = .ok (.iload_n 1, 1) := by decide +kernel
theorem dX12_isTree_42 : decode cX12_isTree 42 = .ok (.iload_n 2, 1) := by decide +kernel
theorem dX12_isTree_43 : decode cX12_isTree 43 = .ok (.ishr, 1) := by decide +kernel
theorem dX12_isTree_44 : decode cX12_isTree 44 = .ok (.iconst 1, 1) := by decide +kernel
theorem dX12_isTree_45 : decode cX12_isTree 45 = .ok (.iand, 1) := by decide +kernel
theorem dX12_isTree_46 : decode cX12_isTree 46 = .ok (.iconst 1, 1) := by decide +kernel
theorem dX12_isTree_47 : decode cX12_isTree 47 = .ok (.if_icmp .ne 88, 3) := by decide +kernel
theorem dX12_isTree_50 : decode cX12_isTree 50 = .ok (.aload_n 0, 1) := by decide +kernel
theorem dX12_isTree_51 : decode cX12_isTree 51 = .ok (.getfield 33, 3) := by decide +kernel
theorem dX12_isTree_54 : decode cX12_isTree 54 = .ok (.aload_n 0, 1) := by decide +kernel
theorem dX12_isTree_55 : decode cX12_isTree 55 = .ok (.getfield 13, 3) := by decide +kernel
theorem dX12_isTree_58 : decode cX12_isTree 58 = .ok (.iconst 4, 1) := by decide +kernel
theorem dX12_isTree_59 : decode cX12_isTree 59 = .ok (.iload_n 2, 1) := by decide +kernel
theorem dX12_isTree_60 : decode cX12_isTree 60 = .ok (.imul, 1) := by decide +kernel
theorem dX12_isTree_61 : decode cX12_isTree 61 = .ok (.iaload, 1) := by decide +kernel
theorem dX12_isTree_62 : decode cX12_isTree 62 = .ok (.iaload, 1) := by decide +kernel
theorem dX12_isTree_63 : decode cX12_isTree 63 = .ok (.istore_n 3, 1) := by decide +kernel
theorem dX12_isTree_64 : decode cX12_isTree 64 = .ok (.aload_n 0, 1) := by decide +kernel
theorem dX12_isTree_65 : decode cX12_isTree 65 = .ok (.getfield 33, 3) := by decide +kernel
theorem dX12_isTree_68 : decode cX12_isTree 68 = .ok (.aload_n 0, 1) := by decide +kernel
theorem dX12_isTree_69 : decode cX12_isTree 69 = .ok (.getfield 13, 3) := by decide +kernel
theorem dX12_isTree_72 : decode cX12_isTree 72 = .ok (.iconst 4, 1) := by decide +kernel
theorem dX12_isTree_73 : decode cX12_isTree 73 = .ok (.iload_n 2, 1) := by decide +kernel
theorem dX12_isTree_74 : decode cX12_isTree 74 = .ok (.imul, 1) := by decide +kernel
theorem dX12_isTree_75 : decode cX12_isTree 75 = .ok (.iconst 1, 1) := by decide +kernel
theorem dX12_isTree_76 : decode cX12_isTree 76 = .ok (.iadd, 1) := by decide +kernel
theorem dX12_isTree_77 : decode cX12_isTree 77 = .ok (.iaload, 1) := by decide +kernel
theorem dX12_isTree_78 : decode cX12_isTree 78 = .ok (.iaload, 1) := by decide +kernel
theorem dX12_isTree_79 : decode cX12_isTree 79 = .ok (.istore 4, 2) := by decide +kernel
theorem dX12_isTree_81 : decode cX12_isTree 81 = .ok (.iload_n 3, 1) := by decide +kernel
theorem dX12_isTree_82 : decode cX12_isTree 82 = .ok (.iload 4, 2) := by decide +kernel
theorem dX12_isTree_84 : decode cX12_isTree 84 = .ok (.if_icmp .ne 5, 3) := by decide +kernel
theorem dX12_isTree_87 : decode cX12_isTree 87 = .ok (.iconst 0, 1) := by decide +kernel
theorem dX12_isTree_88 : decode cX12_isTree 88 = .ok (.ireturn, 1) := by decide +kernel
theorem dX12_isTree_89 : decode cX12_isTree 89 = .ok (.iconst 0, 1) := by decide +kernel
theorem dX12_isTree_90 : decode cX12_isTree 90 = .ok (.istore 5, 2) := by decide +kernel
theorem dX12_isTree_92 : decode cX12_isTree 92 = .ok (.iload 5, 2) := by decide +kernel
theorem dX12_isTree_94 : decode cX12_isTree 94 = .ok (.bipush 6, 2) := by decide +kernel
theorem dX12_isTree_96 : decode cX12_isTree 96 = .ok (.if_icmp .ge 39, 3) := by decide +kernel
theorem dX12_isTree_99 : decode cX12_isTree 99 = .ok (.aload_n 0, 1) := by decide +kernel
theorem dX12_isTree_100 : decode cX12_isTree 100 = .ok (.getfield 33, 3) := by decide +kernel
theorem dX12_isTree_103 : decode cX12_isTree 103 = .ok (.iload 5, 2) := by decide +kernel
theorem dX12_isTree_105 : decode cX12_isTree 105 = .ok (.aload_n 0, 1) := by decide +kernel
theorem dX12_isTree_106 : decode cX12_isTree 106 = .ok (.getfield 33, 3) := by decide +kernel
theorem dX12_isTree_109 : decode cX12_isTree 109 = .ok (.iload 5, 2) := by decide +kernel
theorem dX12_isTree_111 : decode cX12_isTree 111 = .ok (.iaload, 1) := by decide +kernel
theorem dX12_isTree_112 : decode cX12_isTree 112 = .ok (.iload 4, 2) := by decide +kernel
theorem dX12_isTree_114 : decode cX12_isTree 114 = .ok (.if_icmp .ne 7, 3) := by decide +kernel
theorem dX12_isTree_117 : decode cX12_isTree 117 = .ok (.iload_n 3, 1) := by decide +kernel
theorem dX12_isTree_118 : decode cX12_isTree 118 = .ok (.goto 10, 3) := by decide +kernel
theorem dX12_isTree_121 : decode cX12_isTree 121 = .ok (.aload_n 0, 1) := by decide +kernel
theorem dX12_isTree_122 : decode cX12_isTree 122 = .ok (.getfield 33, 3) := by decide +kernel
theorem dX12_isTree_125 : decode cX12_isTree 125 = .ok (.iload 5, 2) := by decide +kernel
theorem dX12_isTree_127 : decode cX12_isTree 127 = .ok (.iaload, 1) := by decide +kernel
theorem dX12_isTree_128 : decode cX12_isTree 128 = .ok (.iastore, 1) := by decide +kernel
theorem dX12_isTree_129 : decode cX12_isTree 129 = .ok (.iinc 5 1, 3) := by decide +kernel
theorem dX12_isTree_132 : decode cX12_isTree 132 = .ok (.goto (-40), 3) := by decide +kernel
theorem dX12_isTree_135 : decode cX12_isTree 135 = .ok (.iinc 2 1, 3) := by decide +kernel
theorem dX12_isTree_138 : decode cX12_isTree 138 = .ok (.goto (-105), 3) := by decide +kernel
theorem dX12_isTree_141 : decode cX12_isTree 141 = .ok (.iconst 1, 1) := by decide +kernel
theorem dX12_isTree_142 : decode cX12_isTree 142 = .ok (.ireturn, 1) := by decide +kernel
theorem dX12_isPairing_0 : decode cX12_isPairing 0 = .ok (.iconst 0, 1) := by decide +kernel
theorem dX12_isPairing_1 : decode cX12_isPairing 1 = .ok (.istore_n 1, 1) := by decide +kernel
theorem dX12_isPairing_2 : decode cX12_isPairing 2 = .ok (.iconst 0, 1) := by decide +kernel
theorem dX12_isPairing_3 : decode cX12_isPairing 3 = .ok (.istore_n 2, 1) := by decide +kernel
theorem dX12_isPairing_4 : decode cX12_isPairing 4 = .ok (.iload_n 2, 1) := by decide +kernel
theorem dX12_isPairing_5 : decode cX12_isPairing 5 = .ok (.iconst 4, 1) := by decide +kernel
theorem dX12_isPairing_6 : decode cX12_isPairing 6 = .ok (.if_icmp .ge 38, 3) := by decide +kernel
theorem dX12_isPairing_9 : decode cX12_isPairing 9 = .ok (.iload_n 0, 1) := by decide +kernel
theorem dX12_isPairing_10 : decode cX12_isPairing 10 = .ok (.iconst 4, 1) := by decide +kernel
theorem dX12_isPairing_11 : decode cX12_isPairing 11 = .ok (.iload_n 2, 1) := by decide +kernel
theorem dX12_isPairing_12 : decode cX12_isPairing 12 = .ok (.imul, 1) := by decide +kernel
theorem dX12_isPairing_13 : decode cX12_isPairing 13 = .ok (.ishr, 1) := by decide +kernel
theorem dX12_isPairing_14 : decode cX12_isPairing 14 = .ok (.bipush 15, 2) := by decide +kernel
theorem dX12_isPairing_16 : decode cX12_isPairing 16 = .ok (.iand, 1) := by decide +kernel
theorem dX12_isPairing_17 : decode cX12_isPairing 17 = .ok (.istore_n 3, 1) := by decide +kernel
theorem dX12_isPairing_18 : decode cX12_isPairing 18 = .ok (.iload_n 3, 1) := by decide +kernel
theorem dX12_isPairing_19 : decode cX12_isPairing 19 = .ok (.invokestatic 93, 3) := by decide +kernel
theorem dX12_isPairing_22 : decode cX12_isPairing 22 = .ok (.iconst 1, 1) := by decide +kernel
theorem dX12_isPairing_23 : decode cX12_isPairing 23 = .ok (.if_icmp .ne 9, 3) := by decide +kernel
theorem dX12_isPairing_26 : decode cX12_isPairing 26 = .ok (.iload_n 1, 1) := by decide +kernel
theorem dX12_isPairing_27 : decode cX12_isPairing 27 = .ok (.iload_n 3, 1) := by decide +kernel
theorem dX12_isPairing_28 : decode cX12_isPairing 28 = .ok (.iand, 1) := by decide +kernel
theorem dX12_isPairing_29 : decode cX12_isPairing 29 = .ok (.ifCond .eq 5, 3) := by decide +kernel
theorem dX12_isPairing_32 : decode cX12_isPairing 32 = .ok (.iconst 0, 1) := by decide +kernel
theorem dX12_isPairing_33 : decode cX12_isPairing 33 = .ok (.ireturn, 1) := by decide +kernel
theorem dX12_isPairing_34 : decode cX12_isPairing 34 = .ok (.iload_n 1, 1) := by decide +kernel
theorem dX12_isPairing_35 : decode cX12_isPairing 35 = .ok (.iload_n 3, 1) := by decide +kernel
theorem dX12_isPairing_36 : decode cX12_isPairing 36 = .ok (.ior, 1) := by decide +kernel
theorem dX12_isPairing_37 : decode cX12_isPairing 37 = .ok (.istore_n 1, 1) := by decide +kernel
theorem dX12_isPairing_38 : decode cX12_isPairing 38 = .ok (.iinc 2 1, 3) := by decide +kernel
theorem dX12_isPairing_41 : decode cX12_isPairing 41 = .ok (.goto (-37), 3) := by decide +kernel
theorem dX12_isPairing_44 : decode cX12_isPairing 44 = .ok (.iconst 1, 1) := by decide +kernel
theorem dX12_isPairing_45 : decode cX12_isPairing 45 = .ok (.ireturn, 1) := by decide +kernel
theorem dX12_isLoad_0 : decode cX12_isLoad 0 = .ok (.iconst 0, 1) := by decide +kernel
theorem dX12_isLoad_1 : decode cX12_isLoad 1 = .ok (.istore_n 2, 1) := by decide +kernel
theorem dX12_isLoad_2 : decode cX12_isLoad 2 = .ok (.iconst 0, 1) := by decide +kernel
theorem dX12_isLoad_3 : decode cX12_isLoad 3 = .ok (.istore_n 3, 1) := by decide +kernel
theorem dX12_isLoad_4 : decode cX12_isLoad 4 = .ok (.iload_n 3, 1) := by decide +kernel
theorem dX12_isLoad_5 : decode cX12_isLoad 5 = .ok (.aload_n 0, 1) := by decide +kernel
theorem dX12_isLoad_6 : decode cX12_isLoad 6 = .ok (.getfield 81, 3) := by decide +kernel
theorem dX12_isLoad_9 : decode cX12_isLoad 9 = .ok (.if_icmp .ge 26, 3) := by decide +kernel
theorem dX12_isLoad_12 : decode cX12_isLoad 12 = .ok (.iload_n 2, 1) := by decide +kernel
theorem dX12_isLoad_13 : decode cX12_isLoad 13 = .ok (.iload_n 1, 1) := by decide +kernel
theorem dX12_isLoad_14 : decode cX12_isLoad 14 = .ok (.iload_n 3, 1) := by decide +kernel
theorem dX12_isLoad_15 : decode cX12_isLoad 15 = .ok (.ishr, 1) := by decide +kernel
theorem dX12_isLoad_16 : decode cX12_isLoad 16 = .ok (.iconst 1, 1) := by decide +kernel
theorem dX12_isLoad_17 : decode cX12_isLoad 17 = .ok (.iand, 1) := by decide +kernel
theorem dX12_isLoad_18 : decode cX12_isLoad 18 = .ok (.aload_n 0, 1) := by decide +kernel
theorem dX12_isLoad_19 : decode cX12_isLoad 19 = .ok (.getfield 20, 3) := by decide +kernel
theorem dX12_isLoad_22 : decode cX12_isLoad 22 = .ok (.iconst 3, 1) := by decide +kernel
theorem dX12_isLoad_23 : decode cX12_isLoad 23 = .ok (.iload_n 3, 1) := by decide +kernel
theorem dX12_isLoad_24 : decode cX12_isLoad 24 = .ok (.imul, 1) := by decide +kernel
theorem dX12_isLoad_25 : decode cX12_isLoad 25 = .ok (.iaload, 1) := by decide +kernel
theorem dX12_isLoad_26 : decode cX12_isLoad 26 = .ok (.imul, 1) := by decide +kernel
theorem dX12_isLoad_27 : decode cX12_isLoad 27 = .ok (.iadd, 1) := by decide +kernel
theorem dX12_isLoad_28 : decode cX12_isLoad 28 = .ok (.istore_n 2, 1) := by decide +kernel
theorem dX12_isLoad_29 : decode cX12_isLoad 29 = .ok (.iinc 3 1, 3) := by decide +kernel
theorem dX12_isLoad_32 : decode cX12_isLoad 32 = .ok (.goto (-28), 3) := by decide +kernel
theorem dX12_isLoad_35 : decode cX12_isLoad 35 = .ok (.iload_n 2, 1) := by decide +kernel
theorem dX12_isLoad_36 : decode cX12_isLoad 36 = .ok (.aload_n 0, 1) := by decide +kernel
theorem dX12_isLoad_37 : decode cX12_isLoad 37 = .ok (.getfield 23, 3) := by decide +kernel
theorem dX12_isLoad_40 : decode cX12_isLoad 40 = .ok (.if_icmp .gt 7, 3) := by decide +kernel
theorem dX12_isLoad_43 : decode cX12_isLoad 43 = .ok (.iconst 1, 1) := by decide +kernel
theorem dX12_isLoad_44 : decode cX12_isLoad 44 = .ok (.goto 4, 3) := by decide +kernel
theorem dX12_isLoad_47 : decode cX12_isLoad 47 = .ok (.iconst 0, 1) := by decide +kernel
theorem dX12_isLoad_48 : decode cX12_isLoad 48 = .ok (.ireturn, 1) := by decide +kernel
theorem dX12_isHeap_0 : decode cX12_isHeap 0 = .ok (.iconst 1, 1) := by decide +kernel
theorem dX12_isHeap_1 : decode cX12_isHeap 1 = .ok (.istore_n 2, 1) := by decide +kernel
theorem dX12_isHeap_2 : decode cX12_isHeap 2 = .ok (.iconst 0, 1) := by decide +kernel
theorem dX12_isHeap_3 : decode cX12_isHeap 3 = .ok (.istore_n 3, 1) := by decide +kernel
theorem dX12_isHeap_4 : decode cX12_isHeap 4 = .ok (.iload_n 3, 1) := by decide +kernel
theorem dX12_isHeap_5 : decode cX12_isHeap 5 = .ok (.aload_n 0, 1) := by decide +kernel
theorem dX12_isHeap_6 : decode cX12_isHeap 6 = .ok (.getfield 86, 3) := by decide +kernel
theorem dX12_isHeap_9 : decode cX12_isHeap 9 = .ok (.if_icmp .ge 44, 3) := by decide +kernel
theorem dX12_isHeap_12 : decode cX12_isHeap 12 = .ok (.iload_n 2, 1) := by decide +kernel
theorem dX12_isHeap_13 : decode cX12_isHeap 13 = .ok (.ifCond .eq 32, 3) := by decide +kernel
theorem dX12_isHeap_16 : decode cX12_isHeap 16 = .ok (.iload_n 1, 1) := by decide +kernel
theorem dX12_isHeap_17 : decode cX12_isHeap 17 = .ok (.iload_n 3, 1) := by decide +kernel
theorem dX12_isHeap_18 : decode cX12_isHeap 18 = .ok (.ishr, 1) := by decide +kernel
theorem dX12_isHeap_19 : decode cX12_isHeap 19 = .ok (.iconst 1, 1) := by decide +kernel
theorem dX12_isHeap_20 : decode cX12_isHeap 20 = .ok (.iand, 1) := by decide +kernel
theorem dX12_isHeap_21 : decode cX12_isHeap 21 = .ok (.ifCond .eq 20, 3) := by decide +kernel
theorem dX12_isHeap_24 : decode cX12_isHeap 24 = .ok (.aload_n 0, 1) := by decide +kernel
theorem dX12_isHeap_25 : decode cX12_isHeap 25 = .ok (.getfield 26, 3) := by decide +kernel
theorem dX12_isHeap_28 : decode cX12_isHeap 28 = .ok (.iconst 3, 1) := by decide +kernel
theorem dX12_isHeap_29 : decode cX12_isHeap 29 = .ok (.iload_n 3, 1) := by decide +kernel
theorem dX12_isHeap_30 : decode cX12_isHeap 30 = .ok (.imul, 1) := by decide +kernel
theorem dX12_isHeap_31 : decode cX12_isHeap 31 = .ok (.iconst 2, 1) := by decide +kernel
theorem dX12_isHeap_32 : decode cX12_isHeap 32 = .ok (.iadd, 1) := by decide +kernel
theorem dX12_isHeap_33 : decode cX12_isHeap 33 = .ok (.iaload, 1) := by decide +kernel
theorem dX12_isHeap_34 : decode cX12_isHeap 34 = .ok (.iload_n 1, 1) := by decide +kernel
theorem dX12_isHeap_35 : decode cX12_isHeap 35 = .ok (.iconst (-1), 1) := by decide +kernel
theorem dX12_isHeap_36 : decode cX12_isHeap 36 = .ok (.ixor, 1) := by decide +kernel
theorem dX12_isHeap_37 : decode cX12_isHeap 37 = .ok (.iand, 1) := by decide +kernel
theorem dX12_isHeap_38 : decode cX12_isHeap 38 = .ok (.ifCond .ne 7, 3) := by decide +kernel
theorem dX12_isHeap_41 : decode cX12_isHeap 41 = .ok (.iconst 1, 1) := by decide +kernel
theorem dX12_isHeap_42 : decode cX12_isHeap 42 = .ok (.goto 4, 3) := by decide +kernel
theorem dX12_isHeap_45 : decode cX12_isHeap 45 = .ok (.iconst 0, 1) := by decide +kernel
theorem dX12_isHeap_46 : decode cX12_isHeap 46 = .ok (.istore_n 2, 1) := by decide +kernel
theorem dX12_isHeap_47 : decode cX12_isHeap 47 = .ok (.iinc 3 1, 3) := by decide +kernel
theorem dX12_isHeap_50 : decode cX12_isHeap 50 = .ok (.goto (-46), 3) := by decide +kernel
theorem dX12_isHeap_53 : decode cX12_isHeap 53 = .ok (.iload_n 2, 1) := by decide +kernel
theorem dX12_isHeap_54 : decode cX12_isHeap 54 = .ok (.ireturn, 1) := by decide +kernel
theorem dX12_fits_0 : decode cX12_fits 0 = .ok (.aload_n 0, 1) := by decide +kernel
theorem dX12_fits_1 : decode cX12_fits 1 = .ok (.getfield 65, 3) := by decide +kernel
theorem dX12_fits_4 : decode cX12_fits 4 = .ok (.tableswitch 55 0 3 #[32, 38, 44, 49], 32) := by decide +kernel
theorem dX12_fits_36 : decode cX12_fits 36 = .ok (.aload_n 0, 1) := by decide +kernel
theorem dX12_fits_37 : decode cX12_fits 37 = .ok (.iload_n 1, 1) := by decide +kernel
theorem dX12_fits_38 : decode cX12_fits 38 = .ok (.invokevirtual 97, 3) := by decide +kernel
theorem dX12_fits_41 : decode cX12_fits 41 = .ok (.ireturn, 1) := by decide +kernel
theorem dX12_fits_42 : decode cX12_fits 42 = .ok (.aload_n 0, 1) := by decide +kernel
theorem dX12_fits_43 : decode cX12_fits 43 = .ok (.iload_n 1, 1) := by decide +kernel
theorem dX12_fits_44 : decode cX12_fits 44 = .ok (.invokevirtual 101, 3) := by decide +kernel
theorem dX12_fits_47 : decode cX12_fits 47 = .ok (.ireturn, 1) := by decide +kernel
theorem dX12_fits_48 : decode cX12_fits 48 = .ok (.iload_n 1, 1) := by decide +kernel
theorem dX12_fits_49 : decode cX12_fits 49 = .ok (.invokestatic 104, 3) := by decide +kernel
theorem dX12_fits_52 : decode cX12_fits 52 = .ok (.ireturn, 1) := by decide +kernel
theorem dX12_fits_53 : decode cX12_fits 53 = .ok (.aload_n 0, 1) := by decide +kernel
theorem dX12_fits_54 : decode cX12_fits 54 = .ok (.iload_n 1, 1) := by decide +kernel
theorem dX12_fits_55 : decode cX12_fits 55 = .ok (.invokevirtual 107, 3) := by decide +kernel
theorem dX12_fits_58 : decode cX12_fits 58 = .ok (.ireturn, 1) := by decide +kernel
theorem dX12_fits_59 : decode cX12_fits 59 = .ok (.aload_n 0, 1) := by decide +kernel
theorem dX12_fits_60 : decode cX12_fits 60 = .ok (.iload_n 1, 1) := by decide +kernel
theorem dX12_fits_61 : decode cX12_fits 61 = .ok (.invokevirtual 110, 3) := by decide +kernel
theorem dX12_fits_64 : decode cX12_fits 64 = .ok (.ireturn, 1) := by decide +kernel
theorem dX12_aOf_0 : decode cX12_aOf 0 = .ok (.aload_n 0, 1) := by decide +kernel
theorem dX12_aOf_1 : decode cX12_aOf 1 = .ok (.getfield 65, 3) := by decide +kernel
theorem dX12_aOf_4 : decode cX12_aOf 4 = .ok (.iconst 2, 1) := by decide +kernel
theorem dX12_aOf_5 : decode cX12_aOf 5 = .ok (.if_icmp .ge 16, 3) := by decide +kernel
theorem dX12_aOf_8 : decode cX12_aOf 8 = .ok (.aload_n 0, 1) := by decide +kernel
theorem dX12_aOf_9 : decode cX12_aOf 9 = .ok (.getfield 13, 3) := by decide +kernel
theorem dX12_aOf_12 : decode cX12_aOf 12 = .ok (.iconst 4, 1) := by decide +kernel
theorem dX12_aOf_13 : decode cX12_aOf 13 = .ok (.iload_n 1, 1) := by decide +kernel
theorem dX12_aOf_14 : decode cX12_aOf 14 = .ok (.imul, 1) := by decide +kernel
theorem dX12_aOf_15 : decode cX12_aOf 15 = .ok (.iconst 2, 1) := by decide +kernel
theorem dX12_aOf_16 : decode cX12_aOf 16 = .ok (.iadd, 1) := by decide +kernel
theorem dX12_aOf_17 : decode cX12_aOf 17 = .ok (.iaload, 1) := by decide +kernel
theorem dX12_aOf_18 : decode cX12_aOf 18 = .ok (.goto 51, 3) := by decide +kernel
theorem dX12_aOf_21 : decode cX12_aOf 21 = .ok (.aload_n 0, 1) := by decide +kernel
theorem dX12_aOf_22 : decode cX12_aOf 22 = .ok (.getfield 65, 3) := by decide +kernel
theorem dX12_aOf_25 : decode cX12_aOf 25 = .ok (.iconst 2, 1) := by decide +kernel
theorem dX12_aOf_26 : decode cX12_aOf 26 = .ok (.if_icmp .ne 14, 3) := by decide +kernel
theorem dX12_aOf_29 : decode cX12_aOf 29 = .ok (.aload_n 0, 1) := by decide +kernel
theorem dX12_aOf_30 : decode cX12_aOf 30 = .ok (.getfield 17, 3) := by decide +kernel
theorem dX12_aOf_33 : decode cX12_aOf 33 = .ok (.iconst 2, 1) := by decide +kernel
theorem dX12_aOf_34 : decode cX12_aOf 34 = .ok (.iload_n 1, 1) := by decide +kernel
theorem dX12_aOf_35 : decode cX12_aOf 35 = .ok (.imul, 1) := by decide +kernel
theorem dX12_aOf_36 : decode cX12_aOf 36 = .ok (.iaload, 1) := by decide +kernel
theorem dX12_aOf_37 : decode cX12_aOf 37 = .ok (.goto 32, 3) := by decide +kernel
theorem dX12_aOf_40 : decode cX12_aOf 40 = .ok (.aload_n 0, 1) := by decide +kernel
theorem dX12_aOf_41 : decode cX12_aOf 41 = .ok (.getfield 65, 3) := by decide +kernel
theorem dX12_aOf_44 : decode cX12_aOf 44 = .ok (.iconst 3, 1) := by decide +kernel
theorem dX12_aOf_45 : decode cX12_aOf 45 = .ok (.if_icmp .ne 16, 3) := by decide +kernel
theorem dX12_aOf_48 : decode cX12_aOf 48 = .ok (.aload_n 0, 1) := by decide +kernel
theorem dX12_aOf_49 : decode cX12_aOf 49 = .ok (.getfield 20, 3) := by decide +kernel
theorem dX12_aOf_52 : decode cX12_aOf 52 = .ok (.iconst 3, 1) := by decide +kernel
theorem dX12_aOf_53 : decode cX12_aOf 53 = .ok (.iload_n 1, 1) := by decide +kernel
theorem dX12_aOf_54 : decode cX12_aOf 54 = .ok (.imul, 1) := by decide +kernel
theorem dX12_aOf_55 : decode cX12_aOf 55 = .ok (.iconst 1, 1) := by decide +kernel
theorem dX12_aOf_56 : decode cX12_aOf 56 = .ok (.iadd, 1) := by decide +kernel
theorem dX12_aOf_57 : decode cX12_aOf 57 = .ok (.iaload, 1) := by decide +kernel
theorem dX12_aOf_58 : decode cX12_aOf 58 = .ok (.goto 11, 3) := by decide +kernel
theorem dX12_aOf_61 : decode cX12_aOf 61 = .ok (.aload_n 0, 1) := by decide +kernel
theorem dX12_aOf_62 : decode cX12_aOf 62 = .ok (.getfield 26, 3) := by decide +kernel
theorem dX12_aOf_65 : decode cX12_aOf 65 = .ok (.iconst 3, 1) := by decide +kernel
theorem dX12_aOf_66 : decode cX12_aOf 66 = .ok (.iload_n 1, 1) := by decide +kernel
theorem dX12_aOf_67 : decode cX12_aOf 67 = .ok (.imul, 1) := by decide +kernel
theorem dX12_aOf_68 : decode cX12_aOf 68 = .ok (.iaload, 1) := by decide +kernel
theorem dX12_aOf_69 : decode cX12_aOf 69 = .ok (.ireturn, 1) := by decide +kernel
theorem dX12_bOf_0 : decode cX12_bOf 0 = .ok (.aload_n 0, 1) := by decide +kernel
theorem dX12_bOf_1 : decode cX12_bOf 1 = .ok (.getfield 65, 3) := by decide +kernel
theorem dX12_bOf_4 : decode cX12_bOf 4 = .ok (.iconst 2, 1) := by decide +kernel
theorem dX12_bOf_5 : decode cX12_bOf 5 = .ok (.if_icmp .ge 16, 3) := by decide +kernel
theorem dX12_bOf_8 : decode cX12_bOf 8 = .ok (.aload_n 0, 1) := by decide +kernel
theorem dX12_bOf_9 : decode cX12_bOf 9 = .ok (.getfield 13, 3) := by decide +kernel
theorem dX12_bOf_12 : decode cX12_bOf 12 = .ok (.iconst 4, 1) := by decide +kernel
theorem dX12_bOf_13 : decode cX12_bOf 13 = .ok (.iload_n 1, 1) := by decide +kernel
theorem dX12_bOf_14 : decode cX12_bOf 14 = .ok (.imul, 1) := by decide +kernel
theorem dX12_bOf_15 : decode cX12_bOf 15 = .ok (.iconst 3, 1) := by decide +kernel
theorem dX12_bOf_16 : decode cX12_bOf 16 = .ok (.iadd, 1) := by decide +kernel
theorem dX12_bOf_17 : decode cX12_bOf 17 = .ok (.iaload, 1) := by decide +kernel
theorem dX12_bOf_18 : decode cX12_bOf 18 = .ok (.goto 55, 3) := by decide +kernel
theorem dX12_bOf_21 : decode cX12_bOf 21 = .ok (.aload_n 0, 1) := by decide +kernel
theorem dX12_bOf_22 : decode cX12_bOf 22 = .ok (.getfield 65, 3) := by decide +kernel
theorem dX12_bOf_25 : decode cX12_bOf 25 = .ok (.iconst 2, 1) := by decide +kernel
theorem dX12_bOf_26 : decode cX12_bOf 26 = .ok (.if_icmp .ne 16, 3) := by decide +kernel
theorem dX12_bOf_29 : decode cX12_bOf 29 = .ok (.aload_n 0, 1) := by decide +kernel
theorem dX12_bOf_30 : decode cX12_bOf 30 = .ok (.getfield 17, 3) := by decide +kernel
theorem dX12_bOf_33 : decode cX12_bOf 33 = .ok (.iconst 2, 1) := by decide +kernel
theorem dX12_bOf_34 : decode cX12_bOf 34 = .ok (.iload_n 1, 1) := by decide +kernel
theorem dX12_bOf_35 : decode cX12_bOf 35 = .ok (.imul, 1) := by decide +kernel
theorem dX12_bOf_36 : decode cX12_bOf 36 = .ok (.iconst 1, 1) := by decide +kernel
theorem dX12_bOf_37 : decode cX12_bOf 37 = .ok (.iadd, 1) := by decide +kernel
theorem dX12_bOf_38 : decode cX12_bOf 38 = .ok (.iaload, 1) := by decide +kernel
theorem dX12_bOf_39 : decode cX12_bOf 39 = .ok (.goto 34, 3) := by decide +kernel
theorem dX12_bOf_42 : decode cX12_bOf 42 = .ok (.aload_n 0, 1) := by decide +kernel
theorem dX12_bOf_43 : decode cX12_bOf 43 = .ok (.getfield 65, 3) := by decide +kernel
theorem dX12_bOf_46 : decode cX12_bOf 46 = .ok (.iconst 3, 1) := by decide +kernel
theorem dX12_bOf_47 : decode cX12_bOf 47 = .ok (.if_icmp .ne 16, 3) := by decide +kernel
theorem dX12_bOf_50 : decode cX12_bOf 50 = .ok (.aload_n 0, 1) := by decide +kernel
theorem dX12_bOf_51 : decode cX12_bOf 51 = .ok (.getfield 20, 3) := by decide +kernel
theorem dX12_bOf_54 : decode cX12_bOf 54 = .ok (.iconst 3, 1) := by decide +kernel
theorem dX12_bOf_55 : decode cX12_bOf 55 = .ok (.iload_n 1, 1) := by decide +kernel
theorem dX12_bOf_56 : decode cX12_bOf 56 = .ok (.imul, 1) := by decide +kernel
theorem dX12_bOf_57 : decode cX12_bOf 57 = .ok (.iconst 2, 1) := by decide +kernel
theorem dX12_bOf_58 : decode cX12_bOf 58 = .ok (.iadd, 1) := by decide +kernel
theorem dX12_bOf_59 : decode cX12_bOf 59 = .ok (.iaload, 1) := by decide +kernel
theorem dX12_bOf_60 : decode cX12_bOf 60 = .ok (.goto 13, 3) := by decide +kernel
theorem dX12_bOf_63 : decode cX12_bOf 63 = .ok (.aload_n 0, 1) := by decide +kernel
theorem dX12_bOf_64 : decode cX12_bOf 64 = .ok (.getfield 26, 3) := by decide +kernel
theorem dX12_bOf_67 : decode cX12_bOf 67 = .ok (.iconst 3, 1) := by decide +kernel
theorem dX12_bOf_68 : decode cX12_bOf 68 = .ok (.iload_n 1, 1) := by decide +kernel
theorem dX12_bOf_69 : decode cX12_bOf 69 = .ok (.imul, 1) := by decide +kernel
theorem dX12_bOf_70 : decode cX12_bOf 70 = .ok (.iconst 1, 1) := by decide +kernel
theorem dX12_bOf_71 : decode cX12_bOf 71 = .ok (.iadd, 1) := by decide +kernel
theorem dX12_bOf_72 : decode cX12_bOf 72 = .ok (.iaload, 1) := by decide +kernel
theorem dX12_bOf_73 : decode cX12_bOf 73 = .ok (.ireturn, 1) := by decide +kernel
theorem dX12_turned_0 : decode cX12_turned 0 = .ok (.aload_n 0, 1) := by decide +kernel
theorem dX12_turned_1 : decode cX12_turned 1 = .ok (.getfield 65, 3) := by decide +kernel
theorem dX12_turned_4 : decode cX12_turned 4 = .ok (.iconst 3, 1) := by decide +kernel
theorem dX12_turned_5 : decode cX12_turned 5 = .ok (.if_icmp .ge 7, 3) := by decide +kernel
theorem dX12_turned_8 : decode cX12_turned 8 = .ok (.iconst 1, 1) := by decide +kernel
theorem dX12_turned_9 : decode cX12_turned 9 = .ok (.goto 4, 3) := by decide +kernel
theorem dX12_turned_12 : decode cX12_turned 12 = .ok (.iconst (-1), 1) := by decide +kernel
theorem dX12_turned_13 : decode cX12_turned 13 = .ok (.ireturn, 1) := by decide +kernel
theorem dX12_layOut_0 : decode cX12_layOut 0 = .ok (.aload_n 0, 1) := by decide +kernel
theorem dX12_layOut_1 : decode cX12_layOut 1 = .ok (.iconst 0, 1) := by decide +kernel
theorem dX12_layOut_2 : decode cX12_layOut 2 = .ok (.putfield 113, 3) := by decide +kernel
theorem dX12_layOut_5 : decode cX12_layOut 5 = .ok (.iconst 1, 1) := by decide +kernel
theorem dX12_layOut_6 : decode cX12_layOut 6 = .ok (.aload_n 0, 1) := by decide +kernel
theorem dX12_layOut_7 : decode cX12_layOut 7 = .ok (.invokevirtual 89, 3) := by decide +kernel
theorem dX12_layOut_10 : decode cX12_layOut 10 = .ok (.ishl, 1) := by decide +kernel
theorem dX12_layOut_11 : decode cX12_layOut 11 = .ok (.istore_n 1, 1) := by decide +kernel
theorem dX12_layOut_12 : decode cX12_layOut 12 = .ok (.iconst 0, 1) := by decide +kernel
theorem dX12_layOut_13 : decode cX12_layOut 13 = .ok (.istore_n 2, 1) := by decide +kernel
theorem dX12_layOut_14 : decode cX12_layOut 14 = .ok (.iload_n 2, 1) := by decide +kernel
theorem dX12_layOut_15 : decode cX12_layOut 15 = .ok (.iload_n 1, 1) := by decide +kernel
theorem dX12_layOut_16 : decode cX12_layOut 16 = .ok (.if_icmp .ge 125, 3) := by decide +kernel
theorem dX12_layOut_19 : decode cX12_layOut 19 = .ok (.aload_n 0, 1) := by decide +kernel
theorem dX12_layOut_20 : decode cX12_layOut 20 = .ok (.iload_n 2, 1) := by decide +kernel
theorem dX12_layOut_21 : decode cX12_layOut 21 = .ok (.invokevirtual 116, 3) := by decide +kernel
theorem dX12_layOut_24 : decode cX12_layOut 24 = .ok (.ifCond .eq 111, 3) := by decide +kernel
theorem dX12_layOut_27 : decode cX12_layOut 27 = .ok (.iconst 0, 1) := by decide +kernel
theorem dX12_layOut_28 : decode cX12_layOut 28 = .ok (.istore_n 3, 1) := by decide +kernel
theorem dX12_layOut_29 : decode cX12_layOut 29 = .ok (.iconst 0, 1) := by decide +kernel
theorem dX12_layOut_30 : decode cX12_layOut 30 = .ok (.istore 4, 2) := by decide +kernel
theorem dX12_layOut_32 : decode cX12_layOut 32 = .ok (.iconst 0, 1) := by decide +kernel
theorem dX12_layOut_33 : decode cX12_layOut 33 = .ok (.istore 5, 2) := by decide +kernel
theorem dX12_layOut_35 : decode cX12_layOut 35 = .ok (.iload 5, 2) := by decide +kernel
theorem dX12_layOut_37 : decode cX12_layOut 37 = .ok (.aload_n 0, 1) := by decide +kernel
theorem dX12_layOut_38 : decode cX12_layOut 38 = .ok (.invokevirtual 89, 3) := by decide +kernel
theorem dX12_layOut_41 : decode cX12_layOut 41 = .ok (.if_icmp .ge 43, 3) := by decide +kernel
theorem dX12_layOut_44 : decode cX12_layOut 44 = .ok (.iload_n 3, 1) := by decide +kernel
theorem dX12_layOut_45 : decode cX12_layOut 45 = .ok (.iload_n 2, 1) := by decide +kernel
theorem dX12_layOut_46 : decode cX12_layOut 46 = .ok (.iload 5, 2) := by decide +kernel
theorem dX12_layOut_48 : decode cX12_layOut 48 = .ok (.ishr, 1) := by decide +kernel
theorem dX12_layOut_49 : decode cX12_layOut 49 = .ok (.iconst 1, 1) := by decide +kernel
theorem dX12_layOut_50 : decode cX12_layOut 50 = .ok (.iand, 1) := by decide +kernel
theorem dX12_layOut_51 : decode cX12_layOut 51 = .ok (.aload_n 0, 1) := by decide +kernel
theorem dX12_layOut_52 : decode cX12_layOut 52 = .ok (.iload 5, 2) := by decide +kernel
theorem dX12_layOut_54 : decode cX12_layOut 54 = .ok (.invokevirtual 119, 3) := by decide +kernel
theorem dX12_layOut_57 : decode cX12_layOut 57 = .ok (.imul, 1) := by decide +kernel
theorem dX12_layOut_58 : decode cX12_layOut 58 = .ok (.iadd, 1) := by decide +kernel
theorem dX12_layOut_59 : decode cX12_layOut 59 = .ok (.istore_n 3, 1) := by decide +kernel
theorem dX12_layOut_60 : decode cX12_layOut 60 = .ok (.iload 4, 2) := by decide +kernel
theorem dX12_layOut_62 : decode cX12_layOut 62 = .ok (.iload_n 2, 1) := by decide +kernel
theorem dX12_layOut_63 : decode cX12_layOut 63 = .ok (.iload 5, 2) := by decide +kernel
theorem dX12_layOut_65 : decode cX12_layOut 65 = .ok (.ishr, 1) := by decide +kernel
theorem dX12_layOut_66 : decode cX12_layOut 66 = .ok (.iconst 1, 1) := by decide +kernel
theorem dX12_layOut_67 : decode cX12_layOut 67 = .ok (.iand, 1) := by decide +kernel
theorem dX12_layOut_68 : decode cX12_layOut 68 = .ok (.aload_n 0, 1) := by decide +kernel
theorem dX12_layOut_69 : decode cX12_layOut 69 = .ok (.iload 5, 2) := by decide +kernel
theorem dX12_layOut_71 : decode cX12_layOut 71 = .ok (.invokevirtual 122, 3) := by decide +kernel
theorem dX12_layOut_74 : decode cX12_layOut 74 = .ok (.imul, 1) := by decide +kernel
theorem dX12_layOut_75 : decode cX12_layOut 75 = .ok (.iadd, 1) := by decide +kernel
theorem dX12_layOut_76 : decode cX12_layOut 76 = .ok (.istore 4, 2) := by decide +kernel
theorem dX12_layOut_78 : decode cX12_layOut 78 = .ok (.iinc 5 1, 3) := by decide +kernel
theorem dX12_layOut_81 : decode cX12_layOut 81 = .ok (.goto (-46), 3) := by decide +kernel
theorem dX12_layOut_84 : decode cX12_layOut 84 = .ok (.aload_n 0, 1) := by decide +kernel
theorem dX12_layOut_85 : decode cX12_layOut 85 = .ok (.getfield 36, 3) := by decide +kernel
theorem dX12_layOut_88 : decode cX12_layOut 88 = .ok (.aload_n 0, 1) := by decide +kernel
theorem dX12_layOut_89 : decode cX12_layOut 89 = .ok (.getfield 113, 3) := by decide +kernel
theorem dX12_layOut_92 : decode cX12_layOut 92 = .ok (.iload_n 2, 1) := by decide +kernel
theorem dX12_layOut_93 : decode cX12_layOut 93 = .ok (.iastore, 1) := by decide +kernel
theorem dX12_layOut_94 : decode cX12_layOut 94 = .ok (.aload_n 0, 1) := by decide +kernel
theorem dX12_layOut_95 : decode cX12_layOut 95 = .ok (.getfield 39, 3) := by decide +kernel
theorem dX12_layOut_98 : decode cX12_layOut 98 = .ok (.aload_n 0, 1) := by decide +kernel
theorem dX12_layOut_99 : decode cX12_layOut 99 = .ok (.getfield 113, 3) := by decide +kernel
theorem dX12_layOut_102 : decode cX12_layOut 102 = .ok (.iload_n 3, 1) := by decide +kernel
theorem dX12_layOut_103 : decode cX12_layOut 103 = .ok (.aload_n 0, 1) := by decide +kernel
theorem dX12_layOut_104 : decode cX12_layOut 104 = .ok (.invokevirtual 125, 3) := by decide +kernel
theorem dX12_layOut_107 : decode cX12_layOut 107 = .ok (.imul, 1) := by decide +kernel
theorem dX12_layOut_108 : decode cX12_layOut 108 = .ok (.iastore, 1) := by decide +kernel
theorem dX12_layOut_109 : decode cX12_layOut 109 = .ok (.aload_n 0, 1) := by decide +kernel
theorem dX12_layOut_110 : decode cX12_layOut 110 = .ok (.getfield 42, 3) := by decide +kernel
theorem dX12_layOut_113 : decode cX12_layOut 113 = .ok (.aload_n 0, 1) := by decide +kernel
theorem dX12_layOut_114 : decode cX12_layOut 114 = .ok (.getfield 113, 3) := by decide +kernel
theorem dX12_layOut_117 : decode cX12_layOut 117 = .ok (.iload 4, 2) := by decide +kernel
theorem dX12_layOut_119 : decode cX12_layOut 119 = .ok (.aload_n 0, 1) := by decide +kernel
theorem dX12_layOut_120 : decode cX12_layOut 120 = .ok (.invokevirtual 125, 3) := by decide +kernel
theorem dX12_layOut_123 : decode cX12_layOut 123 = .ok (.imul, 1) := by decide +kernel
theorem dX12_layOut_124 : decode cX12_layOut 124 = .ok (.iastore, 1) := by decide +kernel
theorem dX12_layOut_125 : decode cX12_layOut 125 = .ok (.aload_n 0, 1) := by decide +kernel
theorem dX12_layOut_126 : decode cX12_layOut 126 = .ok (.dup, 1) := by decide +kernel
theorem dX12_layOut_127 : decode cX12_layOut 127 = .ok (.getfield 113, 3) := by decide +kernel
theorem dX12_layOut_130 : decode cX12_layOut 130 = .ok (.iconst 1, 1) := by decide +kernel
theorem dX12_layOut_131 : decode cX12_layOut 131 = .ok (.iadd, 1) := by decide +kernel
theorem dX12_layOut_132 : decode cX12_layOut 132 = .ok (.putfield 113, 3) := by decide +kernel
theorem dX12_layOut_135 : decode cX12_layOut 135 = .ok (.iinc 2 1, 3) := by decide +kernel
theorem dX12_layOut_138 : decode cX12_layOut 138 = .ok (.goto (-124), 3) := by decide +kernel
theorem dX12_layOut_141 : decode cX12_layOut 141 = .ok (.return_, 1) := by decide +kernel
theorem dX12_isPlan_0 : decode cX12_isPlan 0 = .ok (.iload_n 1, 1) := by decide +kernel
theorem dX12_isPlan_1 : decode cX12_isPlan 1 = .ok (.i2l, 1) := by decide +kernel
theorem dX12_isPlan_2 : decode cX12_isPlan 2 = .ok (.lconst 0, 1) := by decide +kernel
theorem dX12_isPlan_3 : decode cX12_isPlan 3 = .ok (.iconst 1, 1) := by decide +kernel
theorem dX12_isPlan_4 : decode cX12_isPlan 4 = .ok (.aload_n 0, 1) := by decide +kernel
theorem dX12_isPlan_5 : decode cX12_isPlan 5 = .ok (.invokevirtual 89, 3) := by decide +kernel
theorem dX12_isPlan_8 : decode cX12_isPlan 8 = .ok (.ishl, 1) := by decide +kernel
theorem dX12_isPlan_9 : decode cX12_isPlan 9 = .ok (.iconst 1, 1) := by decide +kernel
theorem dX12_isPlan_10 : decode cX12_isPlan 10 = .ok (.isub, 1) := by decide +kernel
theorem dX12_isPlan_11 : decode cX12_isPlan 11 = .ok (.i2l, 1) := by decide +kernel
theorem dX12_isPlan_12 : decode cX12_isPlan 12 = .ok (.invokestatic 59, 3) := by decide +kernel
theorem dX12_isPlan_15 : decode cX12_isPlan 15 = .ok (.ifCond .ne 6, 3) := by decide +kernel
theorem dX12_isPlan_18 : decode cX12_isPlan 18 = .ok (.bipush (-2), 2) := by decide +kernel
theorem dX12_isPlan_20 : decode cX12_isPlan 20 = .ok (.ireturn, 1) := by decide +kernel
theorem dX12_isPlan_21 : decode cX12_isPlan 21 = .ok (.aload_n 0, 1) := by decide +kernel
theorem dX12_isPlan_22 : decode cX12_isPlan 22 = .ok (.iload_n 1, 1) := by decide +kernel
theorem dX12_isPlan_23 : decode cX12_isPlan 23 = .ok (.invokevirtual 116, 3) := by decide +kernel
theorem dX12_isPlan_26 : decode cX12_isPlan 26 = .ok (.ifCond .eq 7, 3) := by decide +kernel
theorem dX12_isPlan_29 : decode cX12_isPlan 29 = .ok (.iconst 1, 1) := by decide +kernel
theorem dX12_isPlan_30 : decode cX12_isPlan 30 = .ok (.goto 4, 3) := by decide +kernel
theorem dX12_isPlan_33 : decode cX12_isPlan 33 = .ok (.iconst 0, 1) := by decide +kernel
theorem dX12_isPlan_34 : decode cX12_isPlan 34 = .ok (.ireturn, 1) := by decide +kernel
theorem dX12_tell_0 : decode cX12_tell 0 = .ok (.lload_n 1, 1) := by decide +kernel
theorem dX12_tell_1 : decode cX12_tell 1 = .ok (.lconst 0, 1) := by decide +kernel
theorem dX12_tell_2 : decode cX12_tell 2 = .ok (.lcmp, 1) := by decide +kernel
theorem dX12_tell_3 : decode cX12_tell 3 = .ok (.ifCond .ge 8, 3) := by decide +kernel
theorem dX12_tell_6 : decode cX12_tell 6 = .ok (.lload_n 1, 1) := by decide +kernel
theorem dX12_tell_7 : decode cX12_tell 7 = .ok (.lneg, 1) := by decide +kernel
theorem dX12_tell_8 : decode cX12_tell 8 = .ok (.goto 4, 3) := by decide +kernel
theorem dX12_tell_11 : decode cX12_tell 11 = .ok (.lload_n 1, 1) := by decide +kernel
theorem dX12_tell_12 : decode cX12_tell 12 = .ok (.lstore 5, 2) := by decide +kernel
theorem dX12_tell_14 : decode cX12_tell 14 = .ok (.lload_n 3, 1) := by decide +kernel
theorem dX12_tell_15 : decode cX12_tell 15 = .ok (.lconst 0, 1) := by decide +kernel
theorem dX12_tell_16 : decode cX12_tell 16 = .ok (.lcmp, 1) := by decide +kernel
theorem dX12_tell_17 : decode cX12_tell 17 = .ok (.ifCond .ge 8, 3) := by decide +kernel
theorem dX12_tell_20 : decode cX12_tell 20 = .ok (.lload_n 3, 1) := by decide +kernel
theorem dX12_tell_21 : decode cX12_tell 21 = .ok (.lneg, 1) := by decide +kernel
theorem dX12_tell_22 : decode cX12_tell 22 = .ok (.goto 4, 3) := by decide +kernel
theorem dX12_tell_25 : decode cX12_tell 25 = .ok (.lload_n 3, 1) := by decide +kernel
theorem dX12_tell_26 : decode cX12_tell 26 = .ok (.lstore 7, 2) := by decide +kernel
theorem dX12_tell_28 : decode cX12_tell 28 = .ok (.lload 7, 2) := by decide +kernel
theorem dX12_tell_30 : decode cX12_tell 30 = .ok (.lconst 0, 1) := by decide +kernel
theorem dX12_tell_31 : decode cX12_tell 31 = .ok (.lcmp, 1) := by decide +kernel
theorem dX12_tell_32 : decode cX12_tell 32 = .ok (.ifCond .eq 21, 3) := by decide +kernel
theorem dX12_tell_35 : decode cX12_tell 35 = .ok (.lload 5, 2) := by decide +kernel
theorem dX12_tell_37 : decode cX12_tell 37 = .ok (.lload 7, 2) := by decide +kernel
theorem dX12_tell_39 : decode cX12_tell 39 = .ok (.lrem, 1) := by decide +kernel
theorem dX12_tell_40 : decode cX12_tell 40 = .ok (.lstore 9, 2) := by decide +kernel
theorem dX12_tell_42 : decode cX12_tell 42 = .ok (.lload 7, 2) := by decide +kernel
theorem dX12_tell_44 : decode cX12_tell 44 = .ok (.lstore 5, 2) := by decide +kernel
theorem dX12_tell_46 : decode cX12_tell 46 = .ok (.lload 9, 2) := by decide +kernel
theorem dX12_tell_48 : decode cX12_tell 48 = .ok (.lstore 7, 2) := by decide +kernel
theorem dX12_tell_50 : decode cX12_tell 50 = .ok (.goto (-22), 3) := by decide +kernel
theorem dX12_tell_53 : decode cX12_tell 53 = .ok (.aload_n 0, 1) := by decide +kernel
theorem dX12_tell_54 : decode cX12_tell 54 = .ok (.lload_n 3, 1) := by decide +kernel
theorem dX12_tell_55 : decode cX12_tell 55 = .ok (.lconst 0, 1) := by decide +kernel
theorem dX12_tell_56 : decode cX12_tell 56 = .ok (.lcmp, 1) := by decide +kernel
theorem dX12_tell_57 : decode cX12_tell 57 = .ok (.ifCond .ge 11, 3) := by decide +kernel
theorem dX12_tell_60 : decode cX12_tell 60 = .ok (.lload_n 1, 1) := by decide +kernel
theorem dX12_tell_61 : decode cX12_tell 61 = .ok (.lneg, 1) := by decide +kernel
theorem dX12_tell_62 : decode cX12_tell 62 = .ok (.lload 5, 2) := by decide +kernel
theorem dX12_tell_64 : decode cX12_tell 64 = .ok (.ldiv, 1) := by decide +kernel
theorem dX12_tell_65 : decode cX12_tell 65 = .ok (.goto 7, 3) := by decide +kernel
theorem dX12_tell_68 : decode cX12_tell 68 = .ok (.lload_n 1, 1) := by decide +kernel
theorem dX12_tell_69 : decode cX12_tell 69 = .ok (.lload 5, 2) := by decide +kernel
theorem dX12_tell_71 : decode cX12_tell 71 = .ok (.ldiv, 1) := by decide +kernel
theorem dX12_tell_72 : decode cX12_tell 72 = .ok (.putfield 128, 3) := by decide +kernel
theorem dX12_tell_75 : decode cX12_tell 75 = .ok (.aload_n 0, 1) := by decide +kernel
theorem dX12_tell_76 : decode cX12_tell 76 = .ok (.lload_n 3, 1) := by decide +kernel
theorem dX12_tell_77 : decode cX12_tell 77 = .ok (.lconst 0, 1) := by decide +kernel
theorem dX12_tell_78 : decode cX12_tell 78 = .ok (.lcmp, 1) := by decide +kernel
theorem dX12_tell_79 : decode cX12_tell 79 = .ok (.ifCond .ge 11, 3) := by decide +kernel
theorem dX12_tell_82 : decode cX12_tell 82 = .ok (.lload_n 3, 1) := by decide +kernel
theorem dX12_tell_83 : decode cX12_tell 83 = .ok (.lneg, 1) := by decide +kernel
theorem dX12_tell_84 : decode cX12_tell 84 = .ok (.lload 5, 2) := by decide +kernel
theorem dX12_tell_86 : decode cX12_tell 86 = .ok (.ldiv, 1) := by decide +kernel
theorem dX12_tell_87 : decode cX12_tell 87 = .ok (.goto 7, 3) := by decide +kernel
theorem dX12_tell_90 : decode cX12_tell 90 = .ok (.lload_n 3, 1) := by decide +kernel
theorem dX12_tell_91 : decode cX12_tell 91 = .ok (.lload 5, 2) := by decide +kernel
theorem dX12_tell_93 : decode cX12_tell 93 = .ok (.ldiv, 1) := by decide +kernel
theorem dX12_tell_94 : decode cX12_tell 94 = .ok (.putfield 29, 3) := by decide +kernel
theorem dX12_tell_97 : decode cX12_tell 97 = .ok (.iconst 1, 1) := by decide +kernel
theorem dX12_tell_98 : decode cX12_tell 98 = .ok (.ireturn, 1) := by decide +kernel
theorem dX12_bestBy_0 : decode cX12_bestBy 0 = .ok (.iconst 0, 1) := by decide +kernel
theorem dX12_bestBy_1 : decode cX12_bestBy 1 = .ok (.istore 5, 2) := by decide +kernel
theorem dX12_bestBy_3 : decode cX12_bestBy 3 = .ok (.iconst 1, 1) := by decide +kernel
theorem dX12_bestBy_4 : decode cX12_bestBy 4 = .ok (.istore 6, 2) := by decide +kernel
theorem dX12_bestBy_6 : decode cX12_bestBy 6 = .ok (.iload 6, 2) := by decide +kernel
theorem dX12_bestBy_8 : decode cX12_bestBy 8 = .ok (.aload_n 0, 1) := by decide +kernel
theorem dX12_bestBy_9 : decode cX12_bestBy 9 = .ok (.getfield 113, 3) := by decide +kernel
theorem dX12_bestBy_12 : decode cX12_bestBy 12 = .ok (.if_icmp .ge 64, 3) := by decide +kernel
theorem dX12_bestBy_15 : decode cX12_bestBy 15 = .ok (.aload_n 0, 1) := by decide +kernel
theorem dX12_bestBy_16 : decode cX12_bestBy 16 = .ok (.getfield 39, 3) := by decide +kernel
theorem dX12_bestBy_19 : decode cX12_bestBy 19 = .ok (.iload 6, 2) := by decide +kernel
theorem dX12_bestBy_21 : decode cX12_bestBy 21 = .ok (.iaload, 1) := by decide +kernel
theorem dX12_bestBy_22 : decode cX12_bestBy 22 = .ok (.i2l, 1) := by decide +kernel
theorem dX12_bestBy_23 : decode cX12_bestBy 23 = .ok (.lload_n 3, 1) := by decide +kernel
theorem dX12_bestBy_24 : decode cX12_bestBy 24 = .ok (.lmul, 1) := by decide +kernel
theorem dX12_bestBy_25 : decode cX12_bestBy 25 = .ok (.aload_n 0, 1) := by decide +kernel
theorem dX12_bestBy_26 : decode cX12_bestBy 26 = .ok (.getfield 42, 3) := by decide +kernel
theorem dX12_bestBy_29 : decode cX12_bestBy 29 = .ok (.iload 6, 2) := by decide +kernel
theorem dX12_bestBy_31 : decode cX12_bestBy 31 = .ok (.iaload, 1) := by decide +kernel
theorem dX12_bestBy_32 : decode cX12_bestBy 32 = .ok (.i2l, 1) := by decide +kernel
theorem dX12_bestBy_33 : decode cX12_bestBy 33 = .ok (.lload_n 1, 1) := by decide +kernel
theorem dX12_bestBy_34 : decode cX12_bestBy 34 = .ok (.lmul, 1) := by decide +kernel
theorem dX12_bestBy_35 : decode cX12_bestBy 35 = .ok (.ladd, 1) := by decide +kernel
theorem dX12_bestBy_36 : decode cX12_bestBy 36 = .ok (.aload_n 0, 1) := by decide +kernel
theorem dX12_bestBy_37 : decode cX12_bestBy 37 = .ok (.getfield 39, 3) := by decide +kernel
theorem dX12_bestBy_40 : decode cX12_bestBy 40 = .ok (.iload 5, 2) := by decide +kernel
theorem dX12_bestBy_42 : decode cX12_bestBy 42 = .ok (.iaload, 1) := by decide +kernel
theorem dX12_bestBy_43 : decode cX12_bestBy 43 = .ok (.i2l, 1) := by decide +kernel
theorem dX12_bestBy_44 : decode cX12_bestBy 44 = .ok (.lload_n 3, 1) := by decide +kernel
theorem dX12_bestBy_45 : decode cX12_bestBy 45 = .ok (.lmul, 1) := by decide +kernel
theorem dX12_bestBy_46 : decode cX12_bestBy 46 = .ok (.aload_n 0, 1) := by decide +kernel
theorem dX12_bestBy_47 : decode cX12_bestBy 47 = .ok (.getfield 42, 3) := by decide +kernel
theorem dX12_bestBy_50 : decode cX12_bestBy 50 = .ok (.iload 5, 2) := by decide +kernel
theorem dX12_bestBy_52 : decode cX12_bestBy 52 = .ok (.iaload, 1) := by decide +kernel
theorem dX12_bestBy_53 : decode cX12_bestBy 53 = .ok (.i2l, 1) := by decide +kernel
theorem dX12_bestBy_54 : decode cX12_bestBy 54 = .ok (.lload_n 1, 1) := by decide +kernel
theorem dX12_bestBy_55 : decode cX12_bestBy 55 = .ok (.lmul, 1) := by decide +kernel
theorem dX12_bestBy_56 : decode cX12_bestBy 56 = .ok (.ladd, 1) := by decide +kernel
theorem dX12_bestBy_57 : decode cX12_bestBy 57 = .ok (.lcmp, 1) := by decide +kernel
theorem dX12_bestBy_58 : decode cX12_bestBy 58 = .ok (.ifCond .ge 8, 3) := by decide +kernel
theorem dX12_bestBy_61 : decode cX12_bestBy 61 = .ok (.iload 6, 2) := by decide +kernel
theorem dX12_bestBy_63 : decode cX12_bestBy 63 = .ok (.goto 5, 3) := by decide +kernel
theorem dX12_bestBy_66 : decode cX12_bestBy 66 = .ok (.iload 5, 2) := by decide +kernel
theorem dX12_bestBy_68 : decode cX12_bestBy 68 = .ok (.istore 5, 2) := by decide +kernel
theorem dX12_bestBy_70 : decode cX12_bestBy 70 = .ok (.iinc 6 1, 3) := by decide +kernel
theorem dX12_bestBy_73 : decode cX12_bestBy 73 = .ok (.goto (-67), 3) := by decide +kernel
theorem dX12_bestBy_76 : decode cX12_bestBy 76 = .ok (.iload 5, 2) := by decide +kernel
theorem dX12_bestBy_78 : decode cX12_bestBy 78 = .ok (.ireturn, 1) := by decide +kernel
theorem dX12_bestAt_0 : decode cX12_bestAt 0 = .ok (.iload_n 2, 1) := by decide +kernel
theorem dX12_bestAt_1 : decode cX12_bestAt 1 = .ok (.i2l, 1) := by decide +kernel
theorem dX12_bestAt_2 : decode cX12_bestAt 2 = .ok (.lconst 1, 1) := by decide +kernel
theorem dX12_bestAt_3 : decode cX12_bestAt 3 = .ok (.ldc2_w 131, 3) := by decide +kernel
theorem dX12_bestAt_6 : decode cX12_bestAt 6 = .ok (.invokestatic 59, 3) := by decide +kernel
theorem dX12_bestAt_9 : decode cX12_bestAt 9 = .ok (.ifCond .eq 20, 3) := by decide +kernel
theorem dX12_bestAt_12 : decode cX12_bestAt 12 = .ok (.iload_n 1, 1) := by decide +kernel
theorem dX12_bestAt_13 : decode cX12_bestAt 13 = .ok (.i2l, 1) := by decide +kernel
theorem dX12_bestAt_14 : decode cX12_bestAt 14 = .ok (.lconst 0, 1) := by decide +kernel
theorem dX12_bestAt_15 : decode cX12_bestAt 15 = .ok (.aload_n 0, 1) := by decide +kernel
theorem dX12_bestAt_16 : decode cX12_bestAt 16 = .ok (.getfield 7, 3) := by decide +kernel
theorem dX12_bestAt_19 : decode cX12_bestAt 19 = .ok (.i2l, 1) := by decide +kernel
theorem dX12_bestAt_20 : decode cX12_bestAt 20 = .ok (.iload_n 2, 1) := by decide +kernel
theorem dX12_bestAt_21 : decode cX12_bestAt 21 = .ok (.i2l, 1) := by decide +kernel
theorem dX12_bestAt_22 : decode cX12_bestAt 22 = .ok (.lmul, 1) := by decide +kernel
theorem dX12_bestAt_23 : decode cX12_bestAt 23 = .ok (.invokestatic 59, 3) := by decide +kernel
theorem dX12_bestAt_26 : decode cX12_bestAt 26 = .ok (.ifCond .ne 6, 3) := by decide +kernel
theorem dX12_bestAt_29 : decode cX12_bestAt 29 = .ok (.bipush (-2), 2) := by decide +kernel
theorem dX12_bestAt_31 : decode cX12_bestAt 31 = .ok (.ireturn, 1) := by decide +kernel
theorem dX12_bestAt_32 : decode cX12_bestAt 32 = .ok (.aload_n 0, 1) := by decide +kernel
theorem dX12_bestAt_33 : decode cX12_bestAt 33 = .ok (.invokevirtual 133, 3) := by decide +kernel
theorem dX12_bestAt_36 : decode cX12_bestAt 36 = .ok (.aload_n 0, 1) := by decide +kernel
theorem dX12_bestAt_37 : decode cX12_bestAt 37 = .ok (.getfield 113, 3) := by decide +kernel
theorem dX12_bestAt_40 : decode cX12_bestAt 40 = .ok (.ifCond .ne 6, 3) := by decide +kernel
theorem dX12_bestAt_43 : decode cX12_bestAt 43 = .ok (.bipush (-3), 2) := by decide +kernel
theorem dX12_bestAt_45 : decode cX12_bestAt 45 = .ok (.ireturn, 1) := by decide +kernel
theorem dX12_bestAt_46 : decode cX12_bestAt 46 = .ok (.aload_n 0, 1) := by decide +kernel
theorem dX12_bestAt_47 : decode cX12_bestAt 47 = .ok (.iload_n 1, 1) := by decide +kernel
theorem dX12_bestAt_48 : decode cX12_bestAt 48 = .ok (.i2l, 1) := by decide +kernel
theorem dX12_bestAt_49 : decode cX12_bestAt 49 = .ok (.iload_n 2, 1) := by decide +kernel
theorem dX12_bestAt_50 : decode cX12_bestAt 50 = .ok (.i2l, 1) := by decide +kernel
theorem dX12_bestAt_51 : decode cX12_bestAt 51 = .ok (.invokevirtual 136, 3) := by decide +kernel
theorem dX12_bestAt_54 : decode cX12_bestAt 54 = .ok (.istore_n 3, 1) := by decide +kernel
theorem dX12_bestAt_55 : decode cX12_bestAt 55 = .ok (.aload_n 0, 1) := by decide +kernel
theorem dX12_bestAt_56 : decode cX12_bestAt 56 = .ok (.aload_n 0, 1) := by decide +kernel
theorem dX12_bestAt_57 : decode cX12_bestAt 57 = .ok (.invokevirtual 125, 3) := by decide +kernel
theorem dX12_bestAt_60 : decode cX12_bestAt 60 = .ok (.i2l, 1) := by decide +kernel
theorem dX12_bestAt_61 : decode cX12_bestAt 61 = .ok (.aload_n 0, 1) := by decide +kernel
theorem dX12_bestAt_62 : decode cX12_bestAt 62 = .ok (.getfield 39, 3) := by decide +kernel
theorem dX12_bestAt_65 : decode cX12_bestAt 65 = .ok (.iload_n 3, 1) := by decide +kernel
theorem dX12_bestAt_66 : decode cX12_bestAt 66 = .ok (.iaload, 1) := by decide +kernel
theorem dX12_bestAt_67 : decode cX12_bestAt 67 = .ok (.i2l, 1) := by decide +kernel
theorem dX12_bestAt_68 : decode cX12_bestAt 68 = .ok (.iload_n 2, 1) := by decide +kernel
theorem dX12_bestAt_69 : decode cX12_bestAt 69 = .ok (.i2l, 1) := by decide +kernel
theorem dX12_bestAt_70 : decode cX12_bestAt 70 = .ok (.lmul, 1) := by decide +kernel
theorem dX12_bestAt_71 : decode cX12_bestAt 71 = .ok (.aload_n 0, 1) := by decide +kernel
theorem dX12_bestAt_72 : decode cX12_bestAt 72 = .ok (.getfield 42, 3) := by decide +kernel
theorem dX12_bestAt_75 : decode cX12_bestAt 75 = .ok (.iload_n 3, 1) := by decide +kernel
theorem dX12_bestAt_76 : decode cX12_bestAt 76 = .ok (.iaload, 1) := by decide +kernel
theorem dX12_bestAt_77 : decode cX12_bestAt 77 = .ok (.i2l, 1) := by decide +kernel
theorem dX12_bestAt_78 : decode cX12_bestAt 78 = .ok (.iload_n 1, 1) := by decide +kernel
theorem dX12_bestAt_79 : decode cX12_bestAt 79 = .ok (.i2l, 1) := by decide +kernel
theorem dX12_bestAt_80 : decode cX12_bestAt 80 = .ok (.lmul, 1) := by decide +kernel
theorem dX12_bestAt_81 : decode cX12_bestAt 81 = .ok (.ladd, 1) := by decide +kernel
theorem dX12_bestAt_82 : decode cX12_bestAt 82 = .ok (.lmul, 1) := by decide +kernel
theorem dX12_bestAt_83 : decode cX12_bestAt 83 = .ok (.iload_n 2, 1) := by decide +kernel
theorem dX12_bestAt_84 : decode cX12_bestAt 84 = .ok (.i2l, 1) := by decide +kernel
theorem dX12_bestAt_85 : decode cX12_bestAt 85 = .ok (.invokevirtual 140, 3) := by decide +kernel
theorem dX12_bestAt_88 : decode cX12_bestAt 88 = .ok (.pop, 1) := by decide +kernel
theorem dX12_bestAt_89 : decode cX12_bestAt 89 = .ok (.aload_n 0, 1) := by decide +kernel
theorem dX12_bestAt_90 : decode cX12_bestAt 90 = .ok (.getfield 36, 3) := by decide +kernel
theorem dX12_bestAt_93 : decode cX12_bestAt 93 = .ok (.iload_n 3, 1) := by decide +kernel
theorem dX12_bestAt_94 : decode cX12_bestAt 94 = .ok (.iaload, 1) := by decide +kernel
theorem dX12_bestAt_95 : decode cX12_bestAt 95 = .ok (.ireturn, 1) := by decide +kernel
theorem dX12_findPieces_0 : decode cX12_findPieces 0 = .ok (.iconst 0, 1) := by decide +kernel
theorem dX12_findPieces_1 : decode cX12_findPieces 1 = .ok (.istore_n 1, 1) := by decide +kernel
theorem dX12_findPieces_2 : decode cX12_findPieces 2 = .ok (.iconst 1, 1) := by decide +kernel
theorem dX12_findPieces_3 : decode cX12_findPieces 3 = .ok (.istore_n 2, 1) := by decide +kernel
theorem dX12_findPieces_4 : decode cX12_findPieces 4 = .ok (.iload_n 2, 1) := by decide +kernel
theorem dX12_findPieces_5 : decode cX12_findPieces 5 = .ok (.aload_n 0, 1) := by decide +kernel
theorem dX12_findPieces_6 : decode cX12_findPieces 6 = .ok (.getfield 113, 3) := by decide +kernel
theorem dX12_findPieces_9 : decode cX12_findPieces 9 = .ok (.if_icmp .ge 60, 3) := by decide +kernel
theorem dX12_findPieces_12 : decode cX12_findPieces 12 = .ok (.aload_n 0, 1) := by decide +kernel
theorem dX12_findPieces_13 : decode cX12_findPieces 13 = .ok (.getfield 39, 3) := by decide +kernel
theorem dX12_findPieces_16 : decode cX12_findPieces 16 = .ok (.iload_n 2, 1) := by decide +kernel
theorem dX12_findPieces_17 : decode cX12_findPieces 17 = .ok (.iaload, 1) := by decide +kernel
theorem dX12_findPieces_18 : decode cX12_findPieces 18 = .ok (.aload_n 0, 1) := by decide +kernel
theorem dX12_findPieces_19 : decode cX12_findPieces 19 = .ok (.getfield 39, 3) := by decide +kernel
theorem dX12_findPieces_22 : decode cX12_findPieces 22 = .ok (.iload_n 1, 1) := by decide +kernel
theorem dX12_findPieces_23 : decode cX12_findPieces 23 = .ok (.iaload, 1) := by decide +kernel
theorem dX12_findPieces_24 : decode cX12_findPieces 24 = .ok (.if_icmp .lt 33, 3) := by decide +kernel
theorem dX12_findPieces_27 : decode cX12_findPieces 27 = .ok (.aload_n 0, 1) := by decide +kernel
theorem dX12_findPieces_28 : decode cX12_findPieces 28 = .ok (.getfield 39, 3) := by decide +kernel
theorem dX12_findPieces_31 : decode cX12_findPieces 31 = .ok (.iload_n 2, 1) := by decide +kernel
theorem dX12_findPieces_32 : decode cX12_findPieces 32 = .ok (.iaload, 1) := by decide +kernel
theorem dX12_findPieces_33 : decode cX12_findPieces 33 = .ok (.aload_n 0, 1) := by decide +kernel
theorem dX12_findPieces_34 : decode cX12_findPieces 34 = .ok (.getfield 39, 3) := by decide +kernel
theorem dX12_findPieces_37 : decode cX12_findPieces 37 = .ok (.iload_n 1, 1) := by decide +kernel
theorem dX12_findPieces_38 : decode cX12_findPieces 38 = .ok (.iaload, 1) := by decide +kernel
theorem dX12_findPieces_39 : decode cX12_findPieces 39 = .ok (.if_icmp .ne 22, 3) := by decide +kernel
theorem dX12_findPieces_42 : decode cX12_findPieces 42 = .ok (.aload_n 0, 1) := by decide +kernel
theorem dX12_findPieces_43 : decode cX12_findPieces 43 = .ok (.getfield 42, 3) := by decide +kernel
theorem dX12_findPieces_46 : decode cX12_findPieces 46 = .ok (.iload_n 2, 1) := by decide +kernel
theorem dX12_findPieces_47 : decode cX12_findPieces 47 = .ok (.iaload, 1) := by decide +kernel
theorem dX12_findPieces_48 : decode cX12_findPieces 48 = .ok (.aload_n 0, 1) := by decide +kernel
theorem dX12_findPieces_49 : decode cX12_findPieces 49 = .ok (.getfield 42, 3) := by decide +kernel
theorem dX12_findPieces_52 : decode cX12_findPieces 52 = .ok (.iload_n 1, 1) := by decide +kernel
theorem dX12_findPieces_53 : decode cX12_findPieces 53 = .ok (.iaload, 1) := by decide +kernel
theorem dX12_findPieces_54 : decode cX12_findPieces 54 = .ok (.if_icmp .ge 7, 3) := by decide +kernel
theorem dX12_findPieces_57 : decode cX12_findPieces 57 = .ok (.iload_n 2, 1) := by decide +kernel
theorem dX12_findPieces_58 : decode cX12_findPieces 58 = .ok (.goto 4, 3) := by decide +kernel
theorem dX12_findPieces_61 : decode cX12_findPieces 61 = .ok (.iload_n 1, 1) := by decide +kernel
theorem dX12_findPieces_62 : decode cX12_findPieces 62 = .ok (.istore_n 1, 1) := by decide +kernel
theorem dX12_findPieces_63 : decode cX12_findPieces 63 = .ok (.iinc 2 1, 3) := by decide +kernel
theorem dX12_findPieces_66 : decode cX12_findPieces 66 = .ok (.goto (-62), 3) := by decide +kernel
theorem dX12_findPieces_69 : decode cX12_findPieces 69 = .ok (.aload_n 0, 1) := by decide +kernel
theorem dX12_findPieces_70 : decode cX12_findPieces 70 = .ok (.iconst 0, 1) := by decide +kernel
theorem dX12_findPieces_71 : decode cX12_findPieces 71 = .ok (.putfield 143, 3) := by decide +kernel
theorem dX12_findPieces_74 : decode cX12_findPieces 74 = .ok (.lconst 0, 1) := by decide +kernel
theorem dX12_findPieces_75 : decode cX12_findPieces 75 = .ok (.lstore_n 2, 1) := by decide +kernel
theorem dX12_findPieces_76 : decode cX12_findPieces 76 = .ok (.lconst 1, 1) := by decide +kernel
theorem dX12_findPieces_77 : decode cX12_findPieces 77 = .ok (.lstore 4, 2) := by decide +kernel
theorem dX12_findPieces_79 : decode cX12_findPieces 79 = .ok (.iload_n 1, 1) := by decide +kernel
theorem dX12_findPieces_80 : decode cX12_findPieces 80 = .ok (.iconst (-1), 1) := by decide +kernel
theorem dX12_findPieces_81 : decode cX12_findPieces 81 = .ok (.if_icmp .eq 207, 3) := by decide +kernel
theorem dX12_findPieces_84 : decode cX12_findPieces 84 = .ok (.aload_n 0, 1) := by decide +kernel
theorem dX12_findPieces_85 : decode cX12_findPieces 85 = .ok (.getfield 45, 3) := by decide +kernel
theorem dX12_findPieces_88 : decode cX12_findPieces 88 = .ok (.aload_n 0, 1) := by decide +kernel
theorem dX12_findPieces_89 : decode cX12_findPieces 89 = .ok (.getfield 143, 3) := by decide +kernel
theorem dX12_findPieces_92 : decode cX12_findPieces 92 = .ok (.iload_n 1, 1) := by decide +kernel
theorem dX12_findPieces_93 : decode cX12_findPieces 93 = .ok (.iastore, 1) := by decide +kernel
theorem dX12_findPieces_94 : decode cX12_findPieces 94 = .ok (.aload_n 0, 1) := by decide +kernel
theorem dX12_findPieces_95 : decode cX12_findPieces 95 = .ok (.getfield 48, 3) := by decide +kernel
theorem dX12_findPieces_98 : decode cX12_findPieces 98 = .ok (.aload_n 0, 1) := by decide +kernel
theorem dX12_findPieces_99 : decode cX12_findPieces 99 = .ok (.getfield 143, 3) := by decide +kernel
theorem dX12_findPieces_102 : decode cX12_findPieces 102 = .ok (.lload_n 2, 1) := by decide +kernel
theorem dX12_findPieces_103 : decode cX12_findPieces 103 = .ok (.lastore, 1) := by decide +kernel
theorem dX12_findPieces_104 : decode cX12_findPieces 104 = .ok (.aload_n 0, 1) := by decide +kernel
theorem dX12_findPieces_105 : decode cX12_findPieces 105 = .ok (.getfield 52, 3) := by decide +kernel
theorem dX12_findPieces_108 : decode cX12_findPieces 108 = .ok (.aload_n 0, 1) := by decide +kernel
theorem dX12_findPieces_109 : decode cX12_findPieces 109 = .ok (.getfield 143, 3) := by decide +kernel
theorem dX12_findPieces_112 : decode cX12_findPieces 112 = .ok (.lload 4, 2) := by decide +kernel
theorem dX12_findPieces_114 : decode cX12_findPieces 114 = .ok (.lastore, 1) := by decide +kernel
theorem dX12_findPieces_115 : decode cX12_findPieces 115 = .ok (.aload_n 0, 1) := by decide +kernel
theorem dX12_findPieces_116 : decode cX12_findPieces 116 = .ok (.dup, 1) := by decide +kernel
theorem dX12_findPieces_117 : decode cX12_findPieces 117 = .ok (.getfield 143, 3) := by decide +kernel
theorem dX12_findPieces_120 : decode cX12_findPieces 120 = .ok (.iconst 1, 1) := by decide +kernel
theorem dX12_findPieces_121 : decode cX12_findPieces 121 = .ok (.iadd, 1) := by decide +kernel
theorem dX12_findPieces_122 : decode cX12_findPieces 122 = .ok (.putfield 143, 3) := by decide +kernel
theorem dX12_findPieces_125 : decode cX12_findPieces 125 = .ok (.iconst (-1), 1) := by decide +kernel
theorem dX12_findPieces_126 : decode cX12_findPieces 126 = .ok (.istore 6, 2) := by decide +kernel
theorem dX12_findPieces_128 : decode cX12_findPieces 128 = .ok (.iconst 0, 1) := by decide +kernel
theorem dX12_findPieces_129 : decode cX12_findPieces 129 = .ok (.istore 7, 2) := by decide +kernel
theorem dX12_findPieces_131 : decode cX12_findPieces 131 = .ok (.iload 7, 2) := by decide +kernel
theorem dX12_findPieces_133 : decode cX12_findPieces 133 = .ok (.aload_n 0, 1) := by decide +kernel
theorem dX12_findPieces_134 : decode cX12_findPieces 134 = .ok (.getfield 113, 3) := by decide +kernel
theorem dX12_findPieces_137 : decode cX12_findPieces 137 = .ok (.if_icmp .ge 145, 3) := by decide +kernel
theorem dX12_findPieces_140 : decode cX12_findPieces 140 = .ok (.aload_n 0, 1) := by decide +kernel
theorem dX12_findPieces_141 : decode cX12_findPieces 141 = .ok (.getfield 42, 3) := by decide +kernel
theorem dX12_findPieces_144 : decode cX12_findPieces 144 = .ok (.iload 7, 2) := by decide +kernel
theorem dX12_findPieces_146 : decode cX12_findPieces 146 = .ok (.iaload, 1) := by decide +kernel
theorem dX12_findPieces_147 : decode cX12_findPieces 147 = .ok (.aload_n 0, 1) := by decide +kernel
theorem dX12_findPieces_148 : decode cX12_findPieces 148 = .ok (.getfield 42, 3) := by decide +kernel
theorem dX12_findPieces_151 : decode cX12_findPieces 151 = .ok (.iload_n 1, 1) := by decide +kernel
theorem dX12_findPieces_152 : decode cX12_findPieces 152 = .ok (.iaload, 1) := by decide +kernel
theorem dX12_findPieces_153 : decode cX12_findPieces 153 = .ok (.if_icmp .ge 123, 3) := by decide +kernel
theorem dX12_findPieces_156 : decode cX12_findPieces 156 = .ok (.aload_n 0, 1) := by decide +kernel
theorem dX12_findPieces_157 : decode cX12_findPieces 157 = .ok (.getfield 39, 3) := by decide +kernel
theorem dX12_findPieces_160 : decode cX12_findPieces 160 = .ok (.iload 7, 2) := by decide +kernel
theorem dX12_findPieces_162 : decode cX12_findPieces 162 = .ok (.iaload, 1) := by decide +kernel
theorem dX12_findPieces_163 : decode cX12_findPieces 163 = .ok (.aload_n 0, 1) := by decide +kernel
theorem dX12_findPieces_164 : decode cX12_findPieces 164 = .ok (.getfield 39, 3) := by decide +kernel
theorem dX12_findPieces_167 : decode cX12_findPieces 167 = .ok (.iload_n 1, 1) := by decide +kernel
theorem dX12_findPieces_168 : decode cX12_findPieces 168 = .ok (.iaload, 1) := by decide +kernel
theorem dX12_findPieces_169 : decode cX12_findPieces 169 = .ok (.isub, 1) := by decide +kernel
theorem dX12_findPieces_170 : decode cX12_findPieces 170 = .ok (.i2l, 1) := by decide +kernel
theorem dX12_findPieces_171 : decode cX12_findPieces 171 = .ok (.lstore 8, 2) := by decide +kernel
theorem dX12_findPieces_173 : decode cX12_findPieces 173 = .ok (.aload_n 0, 1) := by decide +kernel
theorem dX12_findPieces_174 : decode cX12_findPieces 174 = .ok (.getfield 42, 3) := by decide +kernel
theorem dX12_findPieces_177 : decode cX12_findPieces 177 = .ok (.iload_n 1, 1) := by decide +kernel
theorem dX12_findPieces_178 : decode cX12_findPieces 178 = .ok (.iaload, 1) := by decide +kernel
theorem dX12_findPieces_179 : decode cX12_findPieces 179 = .ok (.aload_n 0, 1) := by decide +kernel
theorem dX12_findPieces_180 : decode cX12_findPieces 180 = .ok (.getfield 42, 3) := by decide +kernel
theorem dX12_findPieces_183 : decode cX12_findPieces 183 = .ok (.iload 7, 2) := by decide +kernel
theorem dX12_findPieces_185 : decode cX12_findPieces 185 = .ok (.iaload, 1) := by decide +kernel
theorem dX12_findPieces_186 : decode cX12_findPieces 186 = .ok (.isub, 1) := by decide +kernel
theorem dX12_findPieces_187 : decode cX12_findPieces 187 = .ok (.i2l, 1) := by decide +kernel
theorem dX12_findPieces_188 : decode cX12_findPieces 188 = .ok (.lstore 10, 2) := by decide +kernel
theorem dX12_findPieces_190 : decode cX12_findPieces 190 = .ok (.iload 6, 2) := by decide +kernel
theorem dX12_findPieces_192 : decode cX12_findPieces 192 = .ok (.iconst (-1), 1) := by decide +kernel
theorem dX12_findPieces_193 : decode cX12_findPieces 193 = .ok (.if_icmp .eq 46, 3) := by decide +kernel
theorem dX12_findPieces_196 : decode cX12_findPieces 196 = .ok (.lload 8, 2) := by decide +kernel
theorem dX12_findPieces_198 : decode cX12_findPieces 198 = .ok (.lload 4, 2) := by decide +kernel
theorem dX12_findPieces_200 : decode cX12_findPieces 200 = .ok (.lmul, 1) := by decide +kernel
theorem dX12_findPieces_201 : decode cX12_findPieces 201 = .ok (.lload_n 2, 1) := by decide +kernel
theorem dX12_findPieces_202 : decode cX12_findPieces 202 = .ok (.lload 10, 2) := by decide +kernel
theorem dX12_findPieces_204 : decode cX12_findPieces 204 = .ok (.lmul, 1) := by decide +kernel
theorem dX12_findPieces_205 : decode cX12_findPieces 205 = .ok (.lcmp, 1) := by decide +kernel
theorem dX12_findPieces_206 : decode cX12_findPieces 206 = .ok (.ifCond .lt 33, 3) := by decide +kernel
theorem dX12_findPieces_209 : decode cX12_findPieces 209 = .ok (.lload 8, 2) := by decide +kernel
theorem dX12_findPieces_211 : decode cX12_findPieces 211 = .ok (.lload 4, 2) := by decide +kernel
theorem dX12_findPieces_213 : decode cX12_findPieces 213 = .ok (.lmul, 1) := by decide +kernel
theorem dX12_findPieces_214 : decode cX12_findPieces 214 = .ok (.lload_n 2, 1) := by decide +kernel
theorem dX12_findPieces_215 : decode cX12_findPieces 215 = .ok (.lload 10, 2) := by decide +kernel
theorem dX12_findPieces_217 : decode cX12_findPieces 217 = .ok (.lmul, 1) := by decide +kernel
theorem dX12_findPieces_218 : decode cX12_findPieces 218 = .ok (.lcmp, 1) := by decide +kernel
theorem dX12_findPieces_219 : decode cX12_findPieces 219 = .ok (.ifCond .ne 24, 3) := by decide +kernel
theorem dX12_findPieces_222 : decode cX12_findPieces 222 = .ok (.aload_n 0, 1) := by decide +kernel
theorem dX12_findPieces_223 : decode cX12_findPieces 223 = .ok (.getfield 42, 3) := by decide +kernel
theorem dX12_findPieces_226 : decode cX12_findPieces 226 = .ok (.iload 7, 2) := by decide +kernel
theorem dX12_findPieces_228 : decode cX12_findPieces 228 = .ok (.iaload, 1) := by decide +kernel
theorem dX12_findPieces_229 : decode cX12_findPieces 229 = .ok (.aload_n 0, 1) := by decide +kernel
theorem dX12_findPieces_230 : decode cX12_findPieces 230 = .ok (.getfield 42, 3) := by decide +kernel
theorem dX12_findPieces_233 : decode cX12_findPieces 233 = .ok (.iload 6, 2) := by decide +kernel
theorem dX12_findPieces_235 : decode cX12_findPieces 235 = .ok (.iaload, 1) := by decide +kernel
theorem dX12_findPieces_236 : decode cX12_findPieces 236 = .ok (.if_icmp .ge 7, 3) := by decide +kernel
theorem dX12_findPieces_239 : decode cX12_findPieces 239 = .ok (.iconst 1, 1) := by decide +kernel
theorem dX12_findPieces_240 : decode cX12_findPieces 240 = .ok (.goto 4, 3) := by decide +kernel
theorem dX12_findPieces_243 : decode cX12_findPieces 243 = .ok (.iconst 0, 1) := by decide +kernel
theorem dX12_findPieces_244 : decode cX12_findPieces 244 = .ok (.istore 12, 2) := by decide +kernel
theorem dX12_findPieces_246 : decode cX12_findPieces 246 = .ok (.iload 12, 2) := by decide +kernel
theorem dX12_findPieces_248 : decode cX12_findPieces 248 = .ok (.ifCond .eq 28, 3) := by decide +kernel
theorem dX12_findPieces_251 : decode cX12_findPieces 251 = .ok (.lload 8, 2) := by decide +kernel
theorem dX12_findPieces_253 : decode cX12_findPieces 253 = .ok (.aload_n 0, 1) := by decide +kernel
theorem dX12_findPieces_254 : decode cX12_findPieces 254 = .ok (.getfield 7, 3) := by decide +kernel
theorem dX12_findPieces_257 : decode cX12_findPieces 257 = .ok (.i2l, 1) := by decide +kernel
theorem dX12_findPieces_258 : decode cX12_findPieces 258 = .ok (.lload 10, 2) := by decide +kernel
theorem dX12_findPieces_260 : decode cX12_findPieces 260 = .ok (.lmul, 1) := by decide +kernel
theorem dX12_findPieces_261 : decode cX12_findPieces 261 = .ok (.lcmp, 1) := by decide +kernel
theorem dX12_findPieces_262 : decode cX12_findPieces 262 = .ok (.ifCond .ge 14, 3) := by decide +kernel
theorem dX12_findPieces_265 : decode cX12_findPieces 265 = .ok (.iload 7, 2) := by decide +kernel
theorem dX12_findPieces_267 : decode cX12_findPieces 267 = .ok (.istore 6, 2) := by decide +kernel
theorem dX12_findPieces_269 : decode cX12_findPieces 269 = .ok (.lload 8, 2) := by decide +kernel
theorem dX12_findPieces_271 : decode cX12_findPieces 271 = .ok (.lstore_n 2, 1) := by decide +kernel
theorem dX12_findPieces_272 : decode cX12_findPieces 272 = .ok (.lload 10, 2) := by decide +kernel
theorem dX12_findPieces_274 : decode cX12_findPieces 274 = .ok (.lstore 4, 2) := by decide +kernel
theorem dX12_findPieces_276 : decode cX12_findPieces 276 = .ok (.iinc 7 1, 3) := by decide +kernel
theorem dX12_findPieces_279 : decode cX12_findPieces 279 = .ok (.goto (-148), 3) := by decide +kernel
theorem dX12_findPieces_282 : decode cX12_findPieces 282 = .ok (.iload 6, 2) := by decide +kernel
theorem dX12_findPieces_284 : decode cX12_findPieces 284 = .ok (.istore_n 1, 1) := by decide +kernel
theorem dX12_findPieces_285 : decode cX12_findPieces 285 = .ok (.goto (-206), 3) := by decide +kernel
theorem dX12_findPieces_288 : decode cX12_findPieces 288 = .ok (.return_, 1) := by decide +kernel
theorem dX12_pieces_0 : decode cX12_pieces 0 = .ok (.aload_n 0, 1) := by decide +kernel
theorem dX12_pieces_1 : decode cX12_pieces 1 = .ok (.invokevirtual 133, 3) := by decide +kernel
theorem dX12_pieces_4 : decode cX12_pieces 4 = .ok (.aload_n 0, 1) := by decide +kernel
theorem dX12_pieces_5 : decode cX12_pieces 5 = .ok (.getfield 113, 3) := by decide +kernel
theorem dX12_pieces_8 : decode cX12_pieces 8 = .ok (.ifCond .ne 6, 3) := by decide +kernel
theorem dX12_pieces_11 : decode cX12_pieces 11 = .ok (.bipush (-3), 2) := by decide +kernel
theorem dX12_pieces_13 : decode cX12_pieces 13 = .ok (.ireturn, 1) := by decide +kernel
theorem dX12_pieces_14 : decode cX12_pieces 14 = .ok (.aload_n 0, 1) := by decide +kernel
theorem dX12_pieces_15 : decode cX12_pieces 15 = .ok (.invokevirtual 146, 3) := by decide +kernel
theorem dX12_pieces_18 : decode cX12_pieces 18 = .ok (.aload_n 0, 1) := by decide +kernel
theorem dX12_pieces_19 : decode cX12_pieces 19 = .ok (.getfield 143, 3) := by decide +kernel
theorem dX12_pieces_22 : decode cX12_pieces 22 = .ok (.ireturn, 1) := by decide +kernel
theorem dX12_piece_0 : decode cX12_piece 0 = .ok (.iload_n 1, 1) := by decide +kernel
theorem dX12_piece_1 : decode cX12_piece 1 = .ok (.ifCond .lt 15, 3) := by decide +kernel
theorem dX12_piece_4 : decode cX12_piece 4 = .ok (.iload_n 2, 1) := by decide +kernel
theorem dX12_piece_5 : decode cX12_piece 5 = .ok (.i2l, 1) := by decide +kernel
theorem dX12_piece_6 : decode cX12_piece 6 = .ok (.lconst 0, 1) := by decide +kernel
theorem dX12_piece_7 : decode cX12_piece 7 = .ok (.ldc2_w 149, 3) := by decide +kernel
theorem dX12_piece_10 : decode cX12_piece 10 = .ok (.invokestatic 59, 3) := by decide +kernel
theorem dX12_piece_13 : decode cX12_piece 13 = .ok (.ifCond .ne 6, 3) := by decide +kernel
theorem dX12_piece_16 : decode cX12_piece 16 = .ok (.ldc 151, 2) := by decide +kernel
theorem dX12_piece_18 : decode cX12_piece 18 = .ok (.ireturn, 1) := by decide +kernel
theorem dX12_piece_19 : decode cX12_piece 19 = .ok (.aload_n 0, 1) := by decide +kernel
theorem dX12_piece_20 : decode cX12_piece 20 = .ok (.invokevirtual 133, 3) := by decide +kernel
theorem dX12_piece_23 : decode cX12_piece 23 = .ok (.aload_n 0, 1) := by decide +kernel
theorem dX12_piece_24 : decode cX12_piece 24 = .ok (.getfield 113, 3) := by decide +kernel
theorem dX12_piece_27 : decode cX12_piece 27 = .ok (.ifCond .ne 6, 3) := by decide +kernel
theorem dX12_piece_30 : decode cX12_piece 30 = .ok (.ldc 152, 2) := by decide +kernel
theorem dX12_piece_32 : decode cX12_piece 32 = .ok (.ireturn, 1) := by decide +kernel
theorem dX12_piece_33 : decode cX12_piece 33 = .ok (.aload_n 0, 1) := by decide +kernel
theorem dX12_piece_34 : decode cX12_piece 34 = .ok (.invokevirtual 146, 3) := by decide +kernel
theorem dX12_piece_37 : decode cX12_piece 37 = .ok (.iload_n 1, 1) := by decide +kernel
theorem dX12_piece_38 : decode cX12_piece 38 = .ok (.aload_n 0, 1) := by decide +kernel
theorem dX12_piece_39 : decode cX12_piece 39 = .ok (.getfield 143, 3) := by decide +kernel
theorem dX12_piece_42 : decode cX12_piece 42 = .ok (.if_icmp .lt 6, 3) := by decide +kernel
theorem dX12_piece_45 : decode cX12_piece 45 = .ok (.ldc 151, 2) := by decide +kernel
theorem dX12_piece_47 : decode cX12_piece 47 = .ok (.ireturn, 1) := by decide +kernel
theorem dX12_piece_48 : decode cX12_piece 48 = .ok (.aload_n 0, 1) := by decide +kernel
theorem dX12_piece_49 : decode cX12_piece 49 = .ok (.getfield 45, 3) := by decide +kernel
theorem dX12_piece_52 : decode cX12_piece 52 = .ok (.iload_n 1, 1) := by decide +kernel
theorem dX12_piece_53 : decode cX12_piece 53 = .ok (.iaload, 1) := by decide +kernel
theorem dX12_piece_54 : decode cX12_piece 54 = .ok (.istore_n 3, 1) := by decide +kernel
theorem dX12_piece_55 : decode cX12_piece 55 = .ok (.iload_n 2, 1) := by decide +kernel
theorem dX12_piece_56 : decode cX12_piece 56 = .ok (.ifCond .ne 12, 3) := by decide +kernel
theorem dX12_piece_59 : decode cX12_piece 59 = .ok (.aload_n 0, 1) := by decide +kernel
theorem dX12_piece_60 : decode cX12_piece 60 = .ok (.getfield 36, 3) := by decide +kernel
theorem dX12_piece_63 : decode cX12_piece 63 = .ok (.iload_n 3, 1) := by decide +kernel
theorem dX12_piece_64 : decode cX12_piece 64 = .ok (.iaload, 1) := by decide +kernel
theorem dX12_piece_65 : decode cX12_piece 65 = .ok (.goto 28, 3) := by decide +kernel
theorem dX12_piece_68 : decode cX12_piece 68 = .ok (.aload_n 0, 1) := by decide +kernel
theorem dX12_piece_69 : decode cX12_piece 69 = .ok (.invokevirtual 125, 3) := by decide +kernel
theorem dX12_piece_72 : decode cX12_piece 72 = .ok (.iload_n 2, 1) := by decide +kernel
theorem dX12_piece_73 : decode cX12_piece 73 = .ok (.iconst 1, 1) := by decide +kernel
theorem dX12_piece_74 : decode cX12_piece 74 = .ok (.if_icmp .ne 12, 3) := by decide +kernel
theorem dX12_piece_77 : decode cX12_piece 77 = .ok (.aload_n 0, 1) := by decide +kernel
theorem dX12_piece_78 : decode cX12_piece 78 = .ok (.getfield 39, 3) := by decide +kernel
theorem dX12_piece_81 : decode cX12_piece 81 = .ok (.iload_n 3, 1) := by decide +kernel
theorem dX12_piece_82 : decode cX12_piece 82 = .ok (.iaload, 1) := by decide +kernel
theorem dX12_piece_83 : decode cX12_piece 83 = .ok (.goto 9, 3) := by decide +kernel
theorem dX12_piece_86 : decode cX12_piece 86 = .ok (.aload_n 0, 1) := by decide +kernel
theorem dX12_piece_87 : decode cX12_piece 87 = .ok (.getfield 42, 3) := by decide +kernel
theorem dX12_piece_90 : decode cX12_piece 90 = .ok (.iload_n 3, 1) := by decide +kernel
theorem dX12_piece_91 : decode cX12_piece 91 = .ok (.iaload, 1) := by decide +kernel
theorem dX12_piece_92 : decode cX12_piece 92 = .ok (.imul, 1) := by decide +kernel
theorem dX12_piece_93 : decode cX12_piece 93 = .ok (.ireturn, 1) := by decide +kernel
theorem dX12_change_0 : decode cX12_change 0 = .ok (.iload_n 1, 1) := by decide +kernel
theorem dX12_change_1 : decode cX12_change 1 = .ok (.ifCond .ge 6, 3) := by decide +kernel
theorem dX12_change_4 : decode cX12_change 4 = .ok (.bipush (-2), 2) := by decide +kernel
theorem dX12_change_6 : decode cX12_change 6 = .ok (.ireturn, 1) := by decide +kernel
theorem dX12_change_7 : decode cX12_change 7 = .ok (.aload_n 0, 1) := by decide +kernel
theorem dX12_change_8 : decode cX12_change 8 = .ok (.invokevirtual 133, 3) := by decide +kernel
theorem dX12_change_11 : decode cX12_change 11 = .ok (.aload_n 0, 1) := by decide +kernel
theorem dX12_change_12 : decode cX12_change 12 = .ok (.getfield 113, 3) := by decide +kernel
theorem dX12_change_15 : decode cX12_change 15 = .ok (.ifCond .ne 6, 3) := by decide +kernel
theorem dX12_change_18 : decode cX12_change 18 = .ok (.bipush (-3), 2) := by decide +kernel
theorem dX12_change_20 : decode cX12_change 20 = .ok (.ireturn, 1) := by decide +kernel
theorem dX12_change_21 : decode cX12_change 21 = .ok (.aload_n 0, 1) := by decide +kernel
theorem dX12_change_22 : decode cX12_change 22 = .ok (.invokevirtual 146, 3) := by decide +kernel
theorem dX12_change_25 : decode cX12_change 25 = .ok (.iload_n 1, 1) := by decide +kernel
theorem dX12_change_26 : decode cX12_change 26 = .ok (.i2l, 1) := by decide +kernel
theorem dX12_change_27 : decode cX12_change 27 = .ok (.lconst 1, 1) := by decide +kernel
theorem dX12_change_28 : decode cX12_change 28 = .ok (.ladd, 1) := by decide +kernel
theorem dX12_change_29 : decode cX12_change 29 = .ok (.aload_n 0, 1) := by decide +kernel
theorem dX12_change_30 : decode cX12_change 30 = .ok (.getfield 143, 3) := by decide +kernel
theorem dX12_change_33 : decode cX12_change 33 = .ok (.i2l, 1) := by decide +kernel
theorem dX12_change_34 : decode cX12_change 34 = .ok (.lcmp, 1) := by decide +kernel
theorem dX12_change_35 : decode cX12_change 35 = .ok (.ifCond .lt 6, 3) := by decide +kernel
theorem dX12_change_38 : decode cX12_change 38 = .ok (.bipush (-2), 2) := by decide +kernel
theorem dX12_change_40 : decode cX12_change 40 = .ok (.ireturn, 1) := by decide +kernel
theorem dX12_change_41 : decode cX12_change 41 = .ok (.aload_n 0, 1) := by decide +kernel
theorem dX12_change_42 : decode cX12_change 42 = .ok (.aload_n 0, 1) := by decide +kernel
theorem dX12_change_43 : decode cX12_change 43 = .ok (.getfield 48, 3) := by decide +kernel
theorem dX12_change_46 : decode cX12_change 46 = .ok (.iload_n 1, 1) := by decide +kernel
theorem dX12_change_47 : decode cX12_change 47 = .ok (.iconst 1, 1) := by decide +kernel
theorem dX12_change_48 : decode cX12_change 48 = .ok (.iadd, 1) := by decide +kernel
theorem dX12_change_49 : decode cX12_change 49 = .ok (.laload, 1) := by decide +kernel
theorem dX12_change_50 : decode cX12_change 50 = .ok (.aload_n 0, 1) := by decide +kernel
theorem dX12_change_51 : decode cX12_change 51 = .ok (.getfield 52, 3) := by decide +kernel
theorem dX12_change_54 : decode cX12_change 54 = .ok (.iload_n 1, 1) := by decide +kernel
theorem dX12_change_55 : decode cX12_change 55 = .ok (.iconst 1, 1) := by decide +kernel
theorem dX12_change_56 : decode cX12_change 56 = .ok (.iadd, 1) := by decide +kernel
theorem dX12_change_57 : decode cX12_change 57 = .ok (.laload, 1) := by decide +kernel
theorem dX12_change_58 : decode cX12_change 58 = .ok (.invokevirtual 140, 3) := by decide +kernel
theorem dX12_change_61 : decode cX12_change 61 = .ok (.ireturn, 1) := by decide +kernel
theorem dX12_highest_0 : decode cX12_highest 0 = .ok (.iload_n 1, 1) := by decide +kernel
theorem dX12_highest_1 : decode cX12_highest 1 = .ok (.i2l, 1) := by decide +kernel
theorem dX12_highest_2 : decode cX12_highest 2 = .ok (.lconst 0, 1) := by decide +kernel
theorem dX12_highest_3 : decode cX12_highest 3 = .ok (.lconst 1, 1) := by decide +kernel
theorem dX12_highest_4 : decode cX12_highest 4 = .ok (.invokestatic 59, 3) := by decide +kernel
theorem dX12_highest_7 : decode cX12_highest 7 = .ok (.ifCond .ne 6, 3) := by decide +kernel
theorem dX12_highest_10 : decode cX12_highest 10 = .ok (.bipush (-2), 2) := by decide +kernel
theorem dX12_highest_12 : decode cX12_highest 12 = .ok (.ireturn, 1) := by decide +kernel
theorem dX12_highest_13 : decode cX12_highest 13 = .ok (.aload_n 0, 1) := by decide +kernel
theorem dX12_highest_14 : decode cX12_highest 14 = .ok (.invokevirtual 133, 3) := by decide +kernel
theorem dX12_highest_17 : decode cX12_highest 17 = .ok (.aload_n 0, 1) := by decide +kernel
theorem dX12_highest_18 : decode cX12_highest 18 = .ok (.getfield 113, 3) := by decide +kernel
theorem dX12_highest_21 : decode cX12_highest 21 = .ok (.ifCond .ne 6, 3) := by decide +kernel
theorem dX12_highest_24 : decode cX12_highest 24 = .ok (.bipush (-3), 2) := by decide +kernel
theorem dX12_highest_26 : decode cX12_highest 26 = .ok (.ireturn, 1) := by decide +kernel
theorem dX12_highest_27 : decode cX12_highest 27 = .ok (.aload_n 0, 1) := by decide +kernel
theorem dX12_highest_28 : decode cX12_highest 28 = .ok (.invokevirtual 146, 3) := by decide +kernel
theorem dX12_highest_31 : decode cX12_highest 31 = .ok (.lconst 0, 1) := by decide +kernel
theorem dX12_highest_32 : decode cX12_highest 32 = .ok (.lstore_n 2, 1) := by decide +kernel
theorem dX12_highest_33 : decode cX12_highest 33 = .ok (.lconst 1, 1) := by decide +kernel
theorem dX12_highest_34 : decode cX12_highest 34 = .ok (.lstore 4, 2) := by decide +kernel
theorem dX12_highest_36 : decode cX12_highest 36 = .ok (.lconst 0, 1) := by decide +kernel
theorem dX12_highest_37 : decode cX12_highest 37 = .ok (.lstore 6, 2) := by decide +kernel
theorem dX12_highest_39 : decode cX12_highest 39 = .ok (.iconst 0, 1) := by decide +kernel
theorem dX12_highest_40 : decode cX12_highest 40 = .ok (.istore 8, 2) := by decide +kernel
theorem dX12_highest_42 : decode cX12_highest 42 = .ok (.iload 8, 2) := by decide +kernel
theorem dX12_highest_44 : decode cX12_highest 44 = .ok (.aload_n 0, 1) := by decide +kernel
theorem dX12_highest_45 : decode cX12_highest 45 = .ok (.getfield 143, 3) := by decide +kernel
theorem dX12_highest_48 : decode cX12_highest 48 = .ok (.if_icmp .gt 143, 3) := by decide +kernel
theorem dX12_highest_51 : decode cX12_highest 51 = .ok (.iload 8, 2) := by decide +kernel
theorem dX12_highest_53 : decode cX12_highest 53 = .ok (.aload_n 0, 1) := by decide +kernel
theorem dX12_highest_54 : decode cX12_highest 54 = .ok (.getfield 143, 3) := by decide +kernel
theorem dX12_highest_57 : decode cX12_highest 57 = .ok (.if_icmp .ge 13, 3) := by decide +kernel
theorem dX12_highest_60 : decode cX12_highest 60 = .ok (.aload_n 0, 1) := by decide +kernel
theorem dX12_highest_61 : decode cX12_highest 61 = .ok (.getfield 48, 3) := by decide +kernel
theorem dX12_highest_64 : decode cX12_highest 64 = .ok (.iload 8, 2) := by decide +kernel
theorem dX12_highest_66 : decode cX12_highest 66 = .ok (.laload, 1) := by decide +kernel
theorem dX12_highest_67 : decode cX12_highest 67 = .ok (.goto 8, 3) := by decide +kernel
theorem dX12_highest_70 : decode cX12_highest 70 = .ok (.aload_n 0, 1) := by decide +kernel
theorem dX12_highest_71 : decode cX12_highest 71 = .ok (.getfield 7, 3) := by decide +kernel
theorem dX12_highest_74 : decode cX12_highest 74 = .ok (.i2l, 1) := by decide +kernel
theorem dX12_highest_75 : decode cX12_highest 75 = .ok (.lstore 9, 2) := by decide +kernel
theorem dX12_highest_77 : decode cX12_highest 77 = .ok (.iload 8, 2) := by decide +kernel
theorem dX12_highest_79 : decode cX12_highest 79 = .ok (.aload_n 0, 1) := by decide +kernel
theorem dX12_highest_80 : decode cX12_highest 80 = .ok (.getfield 143, 3) := by decide +kernel
theorem dX12_highest_83 : decode cX12_highest 83 = .ok (.if_icmp .ge 13, 3) := by decide +kernel
theorem dX12_highest_86 : decode cX12_highest 86 = .ok (.aload_n 0, 1) := by decide +kernel
theorem dX12_highest_87 : decode cX12_highest 87 = .ok (.getfield 52, 3) := by decide +kernel
theorem dX12_highest_90 : decode cX12_highest 90 = .ok (.iload 8, 2) := by decide +kernel
theorem dX12_highest_92 : decode cX12_highest 92 = .ok (.laload, 1) := by decide +kernel
theorem dX12_highest_93 : decode cX12_highest 93 = .ok (.goto 4, 3) := by decide +kernel
theorem dX12_highest_96 : decode cX12_highest 96 = .ok (.lconst 1, 1) := by decide +kernel
theorem dX12_highest_97 : decode cX12_highest 97 = .ok (.lstore 11, 2) := by decide +kernel
theorem dX12_highest_99 : decode cX12_highest 99 = .ok (.aload_n 0, 1) := by decide +kernel
theorem dX12_highest_100 : decode cX12_highest 100 = .ok (.getfield 45, 3) := by decide +kernel
theorem dX12_highest_103 : decode cX12_highest 103 = .ok (.iload 8, 2) := by decide +kernel
theorem dX12_highest_105 : decode cX12_highest 105 = .ok (.aload_n 0, 1) := by decide +kernel
theorem dX12_highest_106 : decode cX12_highest 106 = .ok (.getfield 143, 3) := by decide +kernel
theorem dX12_highest_109 : decode cX12_highest 109 = .ok (.if_icmp .ge 8, 3) := by decide +kernel
theorem dX12_highest_112 : decode cX12_highest 112 = .ok (.iload 8, 2) := by decide +kernel
theorem dX12_highest_114 : decode cX12_highest 114 = .ok (.goto 7, 3) := by decide +kernel
theorem dX12_highest_117 : decode cX12_highest 117 = .ok (.iload 8, 2) := by decide +kernel
theorem dX12_highest_119 : decode cX12_highest 119 = .ok (.iconst 1, 1) := by decide +kernel
theorem dX12_highest_120 : decode cX12_highest 120 = .ok (.isub, 1) := by decide +kernel
theorem dX12_highest_121 : decode cX12_highest 121 = .ok (.iaload, 1) := by decide +kernel
theorem dX12_highest_122 : decode cX12_highest 122 = .ok (.istore 13, 2) := by decide +kernel
theorem dX12_highest_124 : decode cX12_highest 124 = .ok (.aload_n 0, 1) := by decide +kernel
theorem dX12_highest_125 : decode cX12_highest 125 = .ok (.invokevirtual 125, 3) := by decide +kernel
theorem dX12_highest_128 : decode cX12_highest 128 = .ok (.i2l, 1) := by decide +kernel
theorem dX12_highest_129 : decode cX12_highest 129 = .ok (.aload_n 0, 1) := by decide +kernel
theorem dX12_highest_130 : decode cX12_highest 130 = .ok (.getfield 39, 3) := by decide +kernel
theorem dX12_highest_133 : decode cX12_highest 133 = .ok (.iload 13, 2) := by decide +kernel
theorem dX12_highest_135 : decode cX12_highest 135 = .ok (.iaload, 1) := by decide +kernel
theorem dX12_highest_136 : decode cX12_highest 136 = .ok (.i2l, 1) := by decide +kernel
theorem dX12_highest_137 : decode cX12_highest 137 = .ok (.lload 11, 2) := by decide +kernel
theorem dX12_highest_139 : decode cX12_highest 139 = .ok (.lmul, 1) := by decide +kernel
theorem dX12_highest_140 : decode cX12_highest 140 = .ok (.aload_n 0, 1) := by decide +kernel
theorem dX12_highest_141 : decode cX12_highest 141 = .ok (.getfield 42, 3) := by decide +kernel
theorem dX12_highest_144 : decode cX12_highest 144 = .ok (.iload 13, 2) := by decide +kernel
theorem dX12_highest_146 : decode cX12_highest 146 = .ok (.iaload, 1) := by decide +kernel
theorem dX12_highest_147 : decode cX12_highest 147 = .ok (.i2l, 1) := by decide +kernel
theorem dX12_highest_148 : decode cX12_highest 148 = .ok (.lload 9, 2) := by decide +kernel
theorem dX12_highest_150 : decode cX12_highest 150 = .ok (.lmul, 1) := by decide +kernel
theorem dX12_highest_151 : decode cX12_highest 151 = .ok (.ladd, 1) := by decide +kernel
theorem dX12_highest_152 : decode cX12_highest 152 = .ok (.lmul, 1) := by decide +kernel
theorem dX12_highest_153 : decode cX12_highest 153 = .ok (.lstore 14, 2) := by decide +kernel
theorem dX12_highest_155 : decode cX12_highest 155 = .ok (.iload 8, 2) := by decide +kernel
theorem dX12_highest_157 : decode cX12_highest 157 = .ok (.ifCond .eq 17, 3) := by decide +kernel
theorem dX12_highest_160 : decode cX12_highest 160 = .ok (.lload 14, 2) := by decide +kernel
theorem dX12_highest_162 : decode cX12_highest 162 = .ok (.lload 4, 2) := by decide +kernel
theorem dX12_highest_164 : decode cX12_highest 164 = .ok (.lmul, 1) := by decide +kernel
theorem dX12_highest_165 : decode cX12_highest 165 = .ok (.lload 6, 2) := by decide +kernel
theorem dX12_highest_167 : decode cX12_highest 167 = .ok (.lload 11, 2) := by decide +kernel
theorem dX12_highest_169 : decode cX12_highest 169 = .ok (.lmul, 1) := by decide +kernel
theorem dX12_highest_170 : decode cX12_highest 170 = .ok (.lcmp, 1) := by decide +kernel
theorem dX12_highest_171 : decode cX12_highest 171 = .ok (.ifCond .le 14, 3) := by decide +kernel
theorem dX12_highest_174 : decode cX12_highest 174 = .ok (.lload 9, 2) := by decide +kernel
theorem dX12_highest_176 : decode cX12_highest 176 = .ok (.lstore_n 2, 1) := by decide +kernel
theorem dX12_highest_177 : decode cX12_highest 177 = .ok (.lload 11, 2) := by decide +kernel
theorem dX12_highest_179 : decode cX12_highest 179 = .ok (.lstore 4, 2) := by decide +kernel
theorem dX12_highest_181 : decode cX12_highest 181 = .ok (.lload 14, 2) := by decide +kernel
theorem dX12_highest_183 : decode cX12_highest 183 = .ok (.lstore 6, 2) := by decide +kernel
theorem dX12_highest_185 : decode cX12_highest 185 = .ok (.iinc 8 1, 3) := by decide +kernel
theorem dX12_highest_188 : decode cX12_highest 188 = .ok (.goto (-146), 3) := by decide +kernel
theorem dX12_highest_191 : decode cX12_highest 191 = .ok (.iload_n 1, 1) := by decide +kernel
theorem dX12_highest_192 : decode cX12_highest 192 = .ok (.ifCond .ne 13, 3) := by decide +kernel
theorem dX12_highest_195 : decode cX12_highest 195 = .ok (.aload_n 0, 1) := by decide +kernel
theorem dX12_highest_196 : decode cX12_highest 196 = .ok (.lload_n 2, 1) := by decide +kernel
theorem dX12_highest_197 : decode cX12_highest 197 = .ok (.lload 4, 2) := by decide +kernel
theorem dX12_highest_199 : decode cX12_highest 199 = .ok (.invokevirtual 140, 3) := by decide +kernel
theorem dX12_highest_202 : decode cX12_highest 202 = .ok (.goto 11, 3) := by decide +kernel
theorem dX12_highest_205 : decode cX12_highest 205 = .ok (.aload_n 0, 1) := by decide +kernel
theorem dX12_highest_206 : decode cX12_highest 206 = .ok (.lload 6, 2) := by decide +kernel
theorem dX12_highest_208 : decode cX12_highest 208 = .ok (.lload 4, 2) := by decide +kernel
theorem dX12_highest_210 : decode cX12_highest 210 = .ok (.invokevirtual 140, 3) := by decide +kernel
theorem dX12_highest_213 : decode cX12_highest 213 = .ok (.ireturn, 1) := by decide +kernel
theorem dX12_findSpan_0 : decode cX12_findSpan 0 = .ok (.aload_n 0, 1) := by decide +kernel
theorem dX12_findSpan_1 : decode cX12_findSpan 1 = .ok (.lconst 0, 1) := by decide +kernel
theorem dX12_findSpan_2 : decode cX12_findSpan 2 = .ok (.putfield 153, 3) := by decide +kernel
theorem dX12_findSpan_5 : decode cX12_findSpan 5 = .ok (.aload_n 0, 1) := by decide +kernel
theorem dX12_findSpan_6 : decode cX12_findSpan 6 = .ok (.lconst 1, 1) := by decide +kernel
theorem dX12_findSpan_7 : decode cX12_findSpan 7 = .ok (.putfield 156, 3) := by decide +kernel
theorem dX12_findSpan_10 : decode cX12_findSpan 10 = .ok (.aload_n 0, 1) := by decide +kernel
theorem dX12_findSpan_11 : decode cX12_findSpan 11 = .ok (.aload_n 0, 1) := by decide +kernel
theorem dX12_findSpan_12 : decode cX12_findSpan 12 = .ok (.getfield 7, 3) := by decide +kernel
theorem dX12_findSpan_15 : decode cX12_findSpan 15 = .ok (.i2l, 1) := by decide +kernel
theorem dX12_findSpan_16 : decode cX12_findSpan 16 = .ok (.putfield 159, 3) := by decide +kernel
theorem dX12_findSpan_19 : decode cX12_findSpan 19 = .ok (.aload_n 0, 1) := by decide +kernel
theorem dX12_findSpan_20 : decode cX12_findSpan 20 = .ok (.lconst 1, 1) := by decide +kernel
theorem dX12_findSpan_21 : decode cX12_findSpan 21 = .ok (.putfield 162, 3) := by decide +kernel
theorem dX12_findSpan_24 : decode cX12_findSpan 24 = .ok (.iconst 0, 1) := by decide +kernel
theorem dX12_findSpan_25 : decode cX12_findSpan 25 = .ok (.istore_n 2, 1) := by decide +kernel
theorem dX12_findSpan_26 : decode cX12_findSpan 26 = .ok (.iload_n 2, 1) := by decide +kernel
theorem dX12_findSpan_27 : decode cX12_findSpan 27 = .ok (.aload_n 0, 1) := by decide +kernel
theorem dX12_findSpan_28 : decode cX12_findSpan 28 = .ok (.getfield 113, 3) := by decide +kernel
theorem dX12_findSpan_31 : decode cX12_findSpan 31 = .ok (.if_icmp .ge 127, 3) := by decide +kernel
theorem dX12_findSpan_34 : decode cX12_findSpan 34 = .ok (.aload_n 0, 1) := by decide +kernel
theorem dX12_findSpan_35 : decode cX12_findSpan 35 = .ok (.getfield 42, 3) := by decide +kernel
theorem dX12_findSpan_38 : decode cX12_findSpan 38 = .ok (.iload_n 1, 1) := by decide +kernel
theorem dX12_findSpan_39 : decode cX12_findSpan 39 = .ok (.iaload, 1) := by decide +kernel
theorem dX12_findSpan_40 : decode cX12_findSpan 40 = .ok (.aload_n 0, 1) := by decide +kernel
theorem dX12_findSpan_41 : decode cX12_findSpan 41 = .ok (.getfield 42, 3) := by decide +kernel
theorem dX12_findSpan_44 : decode cX12_findSpan 44 = .ok (.iload_n 2, 1) := by decide +kernel
theorem dX12_findSpan_45 : decode cX12_findSpan 45 = .ok (.iaload, 1) := by decide +kernel
theorem dX12_findSpan_46 : decode cX12_findSpan 46 = .ok (.isub, 1) := by decide +kernel
theorem dX12_findSpan_47 : decode cX12_findSpan 47 = .ok (.i2l, 1) := by decide +kernel
theorem dX12_findSpan_48 : decode cX12_findSpan 48 = .ok (.lstore_n 3, 1) := by decide +kernel
theorem dX12_findSpan_49 : decode cX12_findSpan 49 = .ok (.aload_n 0, 1) := by decide +kernel
theorem dX12_findSpan_50 : decode cX12_findSpan 50 = .ok (.getfield 39, 3) := by decide +kernel
theorem dX12_findSpan_53 : decode cX12_findSpan 53 = .ok (.iload_n 2, 1) := by decide +kernel
theorem dX12_findSpan_54 : decode cX12_findSpan 54 = .ok (.iaload, 1) := by decide +kernel
theorem dX12_findSpan_55 : decode cX12_findSpan 55 = .ok (.aload_n 0, 1) := by decide +kernel
theorem dX12_findSpan_56 : decode cX12_findSpan 56 = .ok (.getfield 39, 3) := by decide +kernel
theorem dX12_findSpan_59 : decode cX12_findSpan 59 = .ok (.iload_n 1, 1) := by decide +kernel
theorem dX12_findSpan_60 : decode cX12_findSpan 60 = .ok (.iaload, 1) := by decide +kernel
theorem dX12_findSpan_61 : decode cX12_findSpan 61 = .ok (.isub, 1) := by decide +kernel
theorem dX12_findSpan_62 : decode cX12_findSpan 62 = .ok (.i2l, 1) := by decide +kernel
theorem dX12_findSpan_63 : decode cX12_findSpan 63 = .ok (.lstore 5, 2) := by decide +kernel
theorem dX12_findSpan_65 : decode cX12_findSpan 65 = .ok (.lload_n 3, 1) := by decide +kernel
theorem dX12_findSpan_66 : decode cX12_findSpan 66 = .ok (.lconst 0, 1) := by decide +kernel
theorem dX12_findSpan_67 : decode cX12_findSpan 67 = .ok (.lcmp, 1) := by decide +kernel
theorem dX12_findSpan_68 : decode cX12_findSpan 68 = .ok (.ifCond .ne 12, 3) := by decide +kernel
theorem dX12_findSpan_71 : decode cX12_findSpan 71 = .ok (.lload 5, 2) := by decide +kernel
theorem dX12_findSpan_73 : decode cX12_findSpan 73 = .ok (.lconst 0, 1) := by decide +kernel
theorem dX12_findSpan_74 : decode cX12_findSpan 74 = .ok (.lcmp, 1) := by decide +kernel
theorem dX12_findSpan_75 : decode cX12_findSpan 75 = .ok (.ifCond .ge 5, 3) := by decide +kernel
theorem dX12_findSpan_78 : decode cX12_findSpan 78 = .ok (.iconst 0, 1) := by decide +kernel
theorem dX12_findSpan_79 : decode cX12_findSpan 79 = .ok (.ireturn, 1) := by decide +kernel
theorem dX12_findSpan_80 : decode cX12_findSpan 80 = .ok (.lload_n 3, 1) := by decide +kernel
theorem dX12_findSpan_81 : decode cX12_findSpan 81 = .ok (.lconst 0, 1) := by decide +kernel
theorem dX12_findSpan_82 : decode cX12_findSpan 82 = .ok (.lcmp, 1) := by decide +kernel
theorem dX12_findSpan_83 : decode cX12_findSpan 83 = .ok (.ifCond .le 31, 3) := by decide +kernel
theorem dX12_findSpan_86 : decode cX12_findSpan 86 = .ok (.lload 5, 2) := by decide +kernel
theorem dX12_findSpan_88 : decode cX12_findSpan 88 = .ok (.aload_n 0, 1) := by decide +kernel
theorem dX12_findSpan_89 : decode cX12_findSpan 89 = .ok (.getfield 162, 3) := by decide +kernel
theorem dX12_findSpan_92 : decode cX12_findSpan 92 = .ok (.lmul, 1) := by decide +kernel
theorem dX12_findSpan_93 : decode cX12_findSpan 93 = .ok (.aload_n 0, 1) := by decide +kernel
theorem dX12_findSpan_94 : decode cX12_findSpan 94 = .ok (.getfield 159, 3) := by decide +kernel
theorem dX12_findSpan_97 : decode cX12_findSpan 97 = .ok (.lload_n 3, 1) := by decide +kernel
theorem dX12_findSpan_98 : decode cX12_findSpan 98 = .ok (.lmul, 1) := by decide +kernel
theorem dX12_findSpan_99 : decode cX12_findSpan 99 = .ok (.lcmp, 1) := by decide +kernel
theorem dX12_findSpan_100 : decode cX12_findSpan 100 = .ok (.ifCond .ge 14, 3) := by decide +kernel
theorem dX12_findSpan_103 : decode cX12_findSpan 103 = .ok (.aload_n 0, 1) := by decide +kernel
theorem dX12_findSpan_104 : decode cX12_findSpan 104 = .ok (.lload 5, 2) := by decide +kernel
theorem dX12_findSpan_106 : decode cX12_findSpan 106 = .ok (.putfield 159, 3) := by decide +kernel
theorem dX12_findSpan_109 : decode cX12_findSpan 109 = .ok (.aload_n 0, 1) := by decide +kernel
theorem dX12_findSpan_110 : decode cX12_findSpan 110 = .ok (.lload_n 3, 1) := by decide +kernel
theorem dX12_findSpan_111 : decode cX12_findSpan 111 = .ok (.putfield 162, 3) := by decide +kernel
theorem dX12_findSpan_114 : decode cX12_findSpan 114 = .ok (.lload_n 3, 1) := by decide +kernel
theorem dX12_findSpan_115 : decode cX12_findSpan 115 = .ok (.lconst 0, 1) := by decide +kernel
theorem dX12_findSpan_116 : decode cX12_findSpan 116 = .ok (.lcmp, 1) := by decide +kernel
theorem dX12_findSpan_117 : decode cX12_findSpan 117 = .ok (.ifCond .ge 35, 3) := by decide +kernel
theorem dX12_findSpan_120 : decode cX12_findSpan 120 = .ok (.lload 5, 2) := by decide +kernel
theorem dX12_findSpan_122 : decode cX12_findSpan 122 = .ok (.lneg, 1) := by decide +kernel
theorem dX12_findSpan_123 : decode cX12_findSpan 123 = .ok (.aload_n 0, 1) := by decide +kernel
theorem dX12_findSpan_124 : decode cX12_findSpan 124 = .ok (.getfield 156, 3) := by decide +kernel
theorem dX12_findSpan_127 : decode cX12_findSpan 127 = .ok (.lmul, 1) := by decide +kernel
theorem dX12_findSpan_128 : decode cX12_findSpan 128 = .ok (.aload_n 0, 1) := by decide +kernel
theorem dX12_findSpan_129 : decode cX12_findSpan 129 = .ok (.getfield 153, 3) := by decide +kernel
theorem dX12_findSpan_132 : decode cX12_findSpan 132 = .ok (.lload_n 3, 1) := by decide +kernel
theorem dX12_findSpan_133 : decode cX12_findSpan 133 = .ok (.lneg, 1) := by decide +kernel
theorem dX12_findSpan_134 : decode cX12_findSpan 134 = .ok (.lmul, 1) := by decide +kernel
theorem dX12_findSpan_135 : decode cX12_findSpan 135 = .ok (.lcmp, 1) := by decide +kernel
theorem dX12_findSpan_136 : decode cX12_findSpan 136 = .ok (.ifCond .le 16, 3) := by decide +kernel
theorem dX12_findSpan_139 : decode cX12_findSpan 139 = .ok (.aload_n 0, 1) := by decide +kernel
theorem dX12_findSpan_140 : decode cX12_findSpan 140 = .ok (.lload 5, 2) := by decide +kernel
theorem dX12_findSpan_142 : decode cX12_findSpan 142 = .ok (.lneg, 1) := by decide +kernel
theorem dX12_findSpan_143 : decode cX12_findSpan 143 = .ok (.putfield 153, 3) := by decide +kernel
theorem dX12_findSpan_146 : decode cX12_findSpan 146 = .ok (.aload_n 0, 1) := by decide +kernel
theorem dX12_findSpan_147 : decode cX12_findSpan 147 = .ok (.lload_n 3, 1) := by decide +kernel
theorem dX12_findSpan_148 : decode cX12_findSpan 148 = .ok (.lneg, 1) := by decide +kernel
theorem dX12_findSpan_149 : decode cX12_findSpan 149 = .ok (.putfield 156, 3) := by decide +kernel
theorem dX12_findSpan_152 : decode cX12_findSpan 152 = .ok (.iinc 2 1, 3) := by decide +kernel
theorem dX12_findSpan_155 : decode cX12_findSpan 155 = .ok (.goto (-129), 3) := by decide +kernel
theorem dX12_findSpan_158 : decode cX12_findSpan 158 = .ok (.aload_n 0, 1) := by decide +kernel
theorem dX12_findSpan_159 : decode cX12_findSpan 159 = .ok (.getfield 153, 3) := by decide +kernel
theorem dX12_findSpan_162 : decode cX12_findSpan 162 = .ok (.aload_n 0, 1) := by decide +kernel
theorem dX12_findSpan_163 : decode cX12_findSpan 163 = .ok (.getfield 162, 3) := by decide +kernel
theorem dX12_findSpan_166 : decode cX12_findSpan 166 = .ok (.lmul, 1) := by decide +kernel
theorem dX12_findSpan_167 : decode cX12_findSpan 167 = .ok (.aload_n 0, 1) := by decide +kernel
theorem dX12_findSpan_168 : decode cX12_findSpan 168 = .ok (.getfield 159, 3) := by decide +kernel
theorem dX12_findSpan_171 : decode cX12_findSpan 171 = .ok (.aload_n 0, 1) := by decide +kernel
theorem dX12_findSpan_172 : decode cX12_findSpan 172 = .ok (.getfield 156, 3) := by decide +kernel
theorem dX12_findSpan_175 : decode cX12_findSpan 175 = .ok (.lmul, 1) := by decide +kernel
theorem dX12_findSpan_176 : decode cX12_findSpan 176 = .ok (.lcmp, 1) := by decide +kernel
theorem dX12_findSpan_177 : decode cX12_findSpan 177 = .ok (.ifCond .gt 7, 3) := by decide +kernel
theorem dX12_findSpan_180 : decode cX12_findSpan 180 = .ok (.iconst 1, 1) := by decide +kernel
theorem dX12_findSpan_181 : decode cX12_findSpan 181 = .ok (.goto 4, 3) := by decide +kernel
theorem dX12_findSpan_184 : decode cX12_findSpan 184 = .ok (.iconst 0, 1) := by decide +kernel
theorem dX12_findSpan_185 : decode cX12_findSpan 185 = .ok (.ireturn, 1) := by decide +kernel
theorem dX12_placeOf_0 : decode cX12_placeOf 0 = .ok (.iconst 0, 1) := by decide +kernel
theorem dX12_placeOf_1 : decode cX12_placeOf 1 = .ok (.istore_n 2, 1) := by decide +kernel
theorem dX12_placeOf_2 : decode cX12_placeOf 2 = .ok (.iload_n 2, 1) := by decide +kernel
theorem dX12_placeOf_3 : decode cX12_placeOf 3 = .ok (.aload_n 0, 1) := by decide +kernel
theorem dX12_placeOf_4 : decode cX12_placeOf 4 = .ok (.getfield 113, 3) := by decide +kernel
theorem dX12_placeOf_7 : decode cX12_placeOf 7 = .ok (.if_icmp .ge 21, 3) := by decide +kernel
theorem dX12_placeOf_10 : decode cX12_placeOf 10 = .ok (.aload_n 0, 1) := by decide +kernel
theorem dX12_placeOf_11 : decode cX12_placeOf 11 = .ok (.getfield 36, 3) := by decide +kernel
theorem dX12_placeOf_14 : decode cX12_placeOf 14 = .ok (.iload_n 2, 1) := by decide +kernel
theorem dX12_placeOf_15 : decode cX12_placeOf 15 = .ok (.iaload, 1) := by decide +kernel
theorem dX12_placeOf_16 : decode cX12_placeOf 16 = .ok (.iload_n 1, 1) := by decide +kernel
theorem dX12_placeOf_17 : decode cX12_placeOf 17 = .ok (.if_icmp .ne 5, 3) := by decide +kernel
theorem dX12_placeOf_20 : decode cX12_placeOf 20 = .ok (.iload_n 2, 1) := by decide +kernel
theorem dX12_placeOf_21 : decode cX12_placeOf 21 = .ok (.ireturn, 1) := by decide +kernel
theorem dX12_placeOf_22 : decode cX12_placeOf 22 = .ok (.iinc 2 1, 3) := by decide +kernel
theorem dX12_placeOf_25 : decode cX12_placeOf 25 = .ok (.goto (-23), 3) := by decide +kernel
theorem dX12_placeOf_28 : decode cX12_placeOf 28 = .ok (.iconst (-1), 1) := by decide +kernel
theorem dX12_placeOf_29 : decode cX12_placeOf 29 = .ok (.ireturn, 1) := by decide +kernel
theorem dX12_span_0 : decode cX12_span 0 = .ok (.aload_n 0, 1) := by decide +kernel
theorem dX12_span_1 : decode cX12_span 1 = .ok (.invokevirtual 133, 3) := by decide +kernel
theorem dX12_span_4 : decode cX12_span 4 = .ok (.aload_n 0, 1) := by decide +kernel
theorem dX12_span_5 : decode cX12_span 5 = .ok (.iload_n 1, 1) := by decide +kernel
theorem dX12_span_6 : decode cX12_span 6 = .ok (.invokevirtual 165, 3) := by decide +kernel
theorem dX12_span_9 : decode cX12_span 9 = .ok (.istore_n 3, 1) := by decide +kernel
theorem dX12_span_10 : decode cX12_span 10 = .ok (.iload_n 3, 1) := by decide +kernel
theorem dX12_span_11 : decode cX12_span 11 = .ok (.iconst (-1), 1) := by decide +kernel
theorem dX12_span_12 : decode cX12_span 12 = .ok (.if_icmp .eq 13, 3) := by decide +kernel
theorem dX12_span_15 : decode cX12_span 15 = .ok (.iload_n 2, 1) := by decide +kernel
theorem dX12_span_16 : decode cX12_span 16 = .ok (.i2l, 1) := by decide +kernel
theorem dX12_span_17 : decode cX12_span 17 = .ok (.lconst 0, 1) := by decide +kernel
theorem dX12_span_18 : decode cX12_span 18 = .ok (.lconst 1, 1) := by decide +kernel
theorem dX12_span_19 : decode cX12_span 19 = .ok (.invokestatic 59, 3) := by decide +kernel
theorem dX12_span_22 : decode cX12_span 22 = .ok (.ifCond .ne 6, 3) := by decide +kernel
theorem dX12_span_25 : decode cX12_span 25 = .ok (.bipush (-2), 2) := by decide +kernel
theorem dX12_span_27 : decode cX12_span 27 = .ok (.ireturn, 1) := by decide +kernel
theorem dX12_span_28 : decode cX12_span 28 = .ok (.aload_n 0, 1) := by decide +kernel
theorem dX12_span_29 : decode cX12_span 29 = .ok (.iload_n 3, 1) := by decide +kernel
theorem dX12_span_30 : decode cX12_span 30 = .ok (.invokevirtual 168, 3) := by decide +kernel
theorem dX12_span_33 : decode cX12_span 33 = .ok (.ifCond .ne 5, 3) := by decide +kernel
theorem dX12_span_36 : decode cX12_span 36 = .ok (.iconst 0, 1) := by decide +kernel
theorem dX12_span_37 : decode cX12_span 37 = .ok (.ireturn, 1) := by decide +kernel
theorem dX12_span_38 : decode cX12_span 38 = .ok (.iload_n 2, 1) := by decide +kernel
theorem dX12_span_39 : decode cX12_span 39 = .ok (.ifCond .ne 18, 3) := by decide +kernel
theorem dX12_span_42 : decode cX12_span 42 = .ok (.aload_n 0, 1) := by decide +kernel
theorem dX12_span_43 : decode cX12_span 43 = .ok (.aload_n 0, 1) := by decide +kernel
theorem dX12_span_44 : decode cX12_span 44 = .ok (.getfield 153, 3) := by decide +kernel
theorem dX12_span_47 : decode cX12_span 47 = .ok (.aload_n 0, 1) := by decide +kernel
theorem dX12_span_48 : decode cX12_span 48 = .ok (.getfield 156, 3) := by decide +kernel
theorem dX12_span_51 : decode cX12_span 51 = .ok (.invokevirtual 140, 3) := by decide +kernel
theorem dX12_span_54 : decode cX12_span 54 = .ok (.goto 15, 3) := by decide +kernel
theorem dX12_span_57 : decode cX12_span 57 = .ok (.aload_n 0, 1) := by decide +kernel
theorem dX12_span_58 : decode cX12_span 58 = .ok (.aload_n 0, 1) := by decide +kernel
theorem dX12_span_59 : decode cX12_span 59 = .ok (.getfield 159, 3) := by decide +kernel
theorem dX12_span_62 : decode cX12_span 62 = .ok (.aload_n 0, 1) := by decide +kernel
theorem dX12_span_63 : decode cX12_span 63 = .ok (.getfield 162, 3) := by decide +kernel
theorem dX12_span_66 : decode cX12_span 66 = .ok (.invokevirtual 140, 3) := by decide +kernel
theorem dX12_span_69 : decode cX12_span 69 = .ok (.ireturn, 1) := by decide +kernel
theorem dX12_plans_0 : decode cX12_plans 0 = .ok (.iload_n 1, 1) := by decide +kernel
theorem dX12_plans_1 : decode cX12_plans 1 = .ok (.i2l, 1) := by decide +kernel
theorem dX12_plans_2 : decode cX12_plans 2 = .ok (.lconst 0, 1) := by decide +kernel
theorem dX12_plans_3 : decode cX12_plans 3 = .ok (.lconst 1, 1) := by decide +kernel
theorem dX12_plans_4 : decode cX12_plans 4 = .ok (.invokestatic 59, 3) := by decide +kernel
theorem dX12_plans_7 : decode cX12_plans 7 = .ok (.ifCond .ne 6, 3) := by decide +kernel
theorem dX12_plans_10 : decode cX12_plans 10 = .ok (.bipush (-2), 2) := by decide +kernel
theorem dX12_plans_12 : decode cX12_plans 12 = .ok (.ireturn, 1) := by decide +kernel
theorem dX12_plans_13 : decode cX12_plans 13 = .ok (.aload_n 0, 1) := by decide +kernel
theorem dX12_plans_14 : decode cX12_plans 14 = .ok (.invokevirtual 133, 3) := by decide +kernel
theorem dX12_plans_17 : decode cX12_plans 17 = .ok (.iconst 0, 1) := by decide +kernel
theorem dX12_plans_18 : decode cX12_plans 18 = .ok (.istore_n 2, 1) := by decide +kernel
theorem dX12_plans_19 : decode cX12_plans 19 = .ok (.iconst 0, 1) := by decide +kernel
theorem dX12_plans_20 : decode cX12_plans 20 = .ok (.istore_n 3, 1) := by decide +kernel
theorem dX12_plans_21 : decode cX12_plans 21 = .ok (.iload_n 3, 1) := by decide +kernel
theorem dX12_plans_22 : decode cX12_plans 22 = .ok (.aload_n 0, 1) := by decide +kernel
theorem dX12_plans_23 : decode cX12_plans 23 = .ok (.getfield 113, 3) := by decide +kernel
theorem dX12_plans_26 : decode cX12_plans 26 = .ok (.if_icmp .ge 30, 3) := by decide +kernel
theorem dX12_plans_29 : decode cX12_plans 29 = .ok (.iload_n 1, 1) := by decide +kernel
theorem dX12_plans_30 : decode cX12_plans 30 = .ok (.iconst 1, 1) := by decide +kernel
theorem dX12_plans_31 : decode cX12_plans 31 = .ok (.if_icmp .ne 25, 3) := by decide +kernel
theorem dX12_plans_34 : decode cX12_plans 34 = .ok (.iload_n 2, 1) := by decide +kernel
theorem dX12_plans_35 : decode cX12_plans 35 = .ok (.aload_n 0, 1) := by decide +kernel
theorem dX12_plans_36 : decode cX12_plans 36 = .ok (.iload_n 3, 1) := by decide +kernel
theorem dX12_plans_37 : decode cX12_plans 37 = .ok (.invokevirtual 168, 3) := by decide +kernel
theorem dX12_plans_40 : decode cX12_plans 40 = .ok (.ifCond .eq 7, 3) := by decide +kernel
theorem dX12_plans_43 : decode cX12_plans 43 = .ok (.iconst 0, 1) := by decide +kernel
theorem dX12_plans_44 : decode cX12_plans 44 = .ok (.goto 4, 3) := by decide +kernel
theorem dX12_plans_47 : decode cX12_plans 47 = .ok (.iconst 1, 1) := by decide +kernel
theorem dX12_plans_48 : decode cX12_plans 48 = .ok (.iadd, 1) := by decide +kernel
theorem dX12_plans_49 : decode cX12_plans 49 = .ok (.istore_n 2, 1) := by decide +kernel
theorem dX12_plans_50 : decode cX12_plans 50 = .ok (.iinc 3 1, 3) := by decide +kernel
theorem dX12_plans_53 : decode cX12_plans 53 = .ok (.goto (-32), 3) := by decide +kernel
theorem dX12_plans_56 : decode cX12_plans 56 = .ok (.iload_n 1, 1) := by decide +kernel
theorem dX12_plans_57 : decode cX12_plans 57 = .ok (.ifCond .ne 10, 3) := by decide +kernel
theorem dX12_plans_60 : decode cX12_plans 60 = .ok (.aload_n 0, 1) := by decide +kernel
theorem dX12_plans_61 : decode cX12_plans 61 = .ok (.getfield 113, 3) := by decide +kernel
theorem dX12_plans_64 : decode cX12_plans 64 = .ok (.goto 4, 3) := by decide +kernel
theorem dX12_plans_67 : decode cX12_plans 67 = .ok (.iload_n 2, 1) := by decide +kernel
theorem dX12_plans_68 : decode cX12_plans 68 = .ok (.ireturn, 1) := by decide +kernel
theorem dX12_tolerance_0 : decode cX12_tolerance 0 = .ok (.iload_n 1, 1) := by decide +kernel
theorem dX12_tolerance_1 : decode cX12_tolerance 1 = .ok (.i2l, 1) := by decide +kernel
theorem dX12_tolerance_2 : decode cX12_tolerance 2 = .ok (.lconst 0, 1) := by decide +kernel
theorem dX12_tolerance_3 : decode cX12_tolerance 3 = .ok (.aload_n 0, 1) := by decide +kernel
theorem dX12_tolerance_4 : decode cX12_tolerance 4 = .ok (.invokevirtual 89, 3) := by decide +kernel
theorem dX12_tolerance_7 : decode cX12_tolerance 7 = .ok (.iconst 1, 1) := by decide +kernel
theorem dX12_tolerance_8 : decode cX12_tolerance 8 = .ok (.isub, 1) := by decide +kernel
theorem dX12_tolerance_9 : decode cX12_tolerance 9 = .ok (.i2l, 1) := by decide +kernel
theorem dX12_tolerance_10 : decode cX12_tolerance 10 = .ok (.invokestatic 59, 3) := by decide +kernel
theorem dX12_tolerance_13 : decode cX12_tolerance 13 = .ok (.ifCond .eq 27, 3) := by decide +kernel
theorem dX12_tolerance_16 : decode cX12_tolerance 16 = .ok (.iload_n 2, 1) := by decide +kernel
theorem dX12_tolerance_17 : decode cX12_tolerance 17 = .ok (.i2l, 1) := by decide +kernel
theorem dX12_tolerance_18 : decode cX12_tolerance 18 = .ok (.lconst 0, 1) := by decide +kernel
theorem dX12_tolerance_19 : decode cX12_tolerance 19 = .ok (.aload_n 0, 1) := by decide +kernel
theorem dX12_tolerance_20 : decode cX12_tolerance 20 = .ok (.getfield 7, 3) := by decide +kernel
theorem dX12_tolerance_23 : decode cX12_tolerance 23 = .ok (.i2l, 1) := by decide +kernel
theorem dX12_tolerance_24 : decode cX12_tolerance 24 = .ok (.invokestatic 59, 3) := by decide +kernel
theorem dX12_tolerance_27 : decode cX12_tolerance 27 = .ok (.ifCond .eq 13, 3) := by decide +kernel
theorem dX12_tolerance_30 : decode cX12_tolerance 30 = .ok (.iload_n 3, 1) := by decide +kernel
theorem dX12_tolerance_31 : decode cX12_tolerance 31 = .ok (.i2l, 1) := by decide +kernel
theorem dX12_tolerance_32 : decode cX12_tolerance 32 = .ok (.lconst 0, 1) := by decide +kernel
theorem dX12_tolerance_33 : decode cX12_tolerance 33 = .ok (.lconst 1, 1) := by decide +kernel
theorem dX12_tolerance_34 : decode cX12_tolerance 34 = .ok (.invokestatic 59, 3) := by decide +kernel
theorem dX12_tolerance_37 : decode cX12_tolerance 37 = .ok (.ifCond .ne 6, 3) := by decide +kernel
theorem dX12_tolerance_40 : decode cX12_tolerance 40 = .ok (.bipush (-2), 2) := by decide +kernel
theorem dX12_tolerance_42 : decode cX12_tolerance 42 = .ok (.ireturn, 1) := by decide +kernel
theorem dX12_tolerance_43 : decode cX12_tolerance 43 = .ok (.aload_n 0, 1) := by decide +kernel
theorem dX12_tolerance_44 : decode cX12_tolerance 44 = .ok (.invokevirtual 133, 3) := by decide +kernel
theorem dX12_tolerance_47 : decode cX12_tolerance 47 = .ok (.aload_n 0, 1) := by decide +kernel
theorem dX12_tolerance_48 : decode cX12_tolerance 48 = .ok (.getfield 113, 3) := by decide +kernel
theorem dX12_tolerance_51 : decode cX12_tolerance 51 = .ok (.ifCond .ne 6, 3) := by decide +kernel
theorem dX12_tolerance_54 : decode cX12_tolerance 54 = .ok (.bipush (-3), 2) := by decide +kernel
theorem dX12_tolerance_56 : decode cX12_tolerance 56 = .ok (.ireturn, 1) := by decide +kernel
theorem dX12_tolerance_57 : decode cX12_tolerance 57 = .ok (.aload_n 0, 1) := by decide +kernel
theorem dX12_tolerance_58 : decode cX12_tolerance 58 = .ok (.iload_n 2, 1) := by decide +kernel
theorem dX12_tolerance_59 : decode cX12_tolerance 59 = .ok (.i2l, 1) := by decide +kernel
theorem dX12_tolerance_60 : decode cX12_tolerance 60 = .ok (.lconst 1, 1) := by decide +kernel
theorem dX12_tolerance_61 : decode cX12_tolerance 61 = .ok (.invokevirtual 136, 3) := by decide +kernel
theorem dX12_tolerance_64 : decode cX12_tolerance 64 = .ok (.istore 4, 2) := by decide +kernel
theorem dX12_tolerance_66 : decode cX12_tolerance 66 = .ok (.aload_n 0, 1) := by decide +kernel
theorem dX12_tolerance_67 : decode cX12_tolerance 67 = .ok (.getfield 36, 3) := by decide +kernel
theorem dX12_tolerance_70 : decode cX12_tolerance 70 = .ok (.iload 4, 2) := by decide +kernel
theorem dX12_tolerance_72 : decode cX12_tolerance 72 = .ok (.iaload, 1) := by decide +kernel
theorem dX12_tolerance_73 : decode cX12_tolerance 73 = .ok (.iload_n 1, 1) := by decide +kernel
theorem dX12_tolerance_74 : decode cX12_tolerance 74 = .ok (.ishr, 1) := by decide +kernel
theorem dX12_tolerance_75 : decode cX12_tolerance 75 = .ok (.iconst 1, 1) := by decide +kernel
theorem dX12_tolerance_76 : decode cX12_tolerance 76 = .ok (.iand, 1) := by decide +kernel
theorem dX12_tolerance_77 : decode cX12_tolerance 77 = .ok (.iconst 1, 1) := by decide +kernel
theorem dX12_tolerance_78 : decode cX12_tolerance 78 = .ok (.if_icmp .ne 7, 3) := by decide +kernel
theorem dX12_tolerance_81 : decode cX12_tolerance 81 = .ok (.iconst 1, 1) := by decide +kernel
theorem dX12_tolerance_82 : decode cX12_tolerance 82 = .ok (.goto 4, 3) := by decide +kernel
theorem dX12_tolerance_85 : decode cX12_tolerance 85 = .ok (.iconst 0, 1) := by decide +kernel
theorem dX12_tolerance_86 : decode cX12_tolerance 86 = .ok (.istore 5, 2) := by decide +kernel
theorem dX12_tolerance_88 : decode cX12_tolerance 88 = .ok (.aload_n 0, 1) := by decide +kernel
theorem dX12_tolerance_89 : decode cX12_tolerance 89 = .ok (.invokevirtual 125, 3) := by decide +kernel
theorem dX12_tolerance_92 : decode cX12_tolerance 92 = .ok (.iconst 1, 1) := by decide +kernel
theorem dX12_tolerance_93 : decode cX12_tolerance 93 = .ok (.if_icmp .ne 7, 3) := by decide +kernel
theorem dX12_tolerance_96 : decode cX12_tolerance 96 = .ok (.iconst 1, 1) := by decide +kernel
theorem dX12_tolerance_97 : decode cX12_tolerance 97 = .ok (.goto 4, 3) := by decide +kernel
theorem dX12_tolerance_100 : decode cX12_tolerance 100 = .ok (.iconst 0, 1) := by decide +kernel
theorem dX12_tolerance_101 : decode cX12_tolerance 101 = .ok (.iload_n 3, 1) := by decide +kernel
theorem dX12_tolerance_102 : decode cX12_tolerance 102 = .ok (.iconst 1, 1) := by decide +kernel
theorem dX12_tolerance_103 : decode cX12_tolerance 103 = .ok (.if_icmp .ne 7, 3) := by decide +kernel
theorem dX12_tolerance_106 : decode cX12_tolerance 106 = .ok (.iconst 1, 1) := by decide +kernel
theorem dX12_tolerance_107 : decode cX12_tolerance 107 = .ok (.goto 4, 3) := by decide +kernel
