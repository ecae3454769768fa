theorem dX9_meeting_29 : decode cX9_meeting 29 = .ok (.aload_n 0, 1) := by decide +kernel
theorem dX9_meeting_30 : decode cX9_meeting 30 = .ok (.iload_n 1, 1) := by decide +kernel
theorem dX9_meeting_31 : decode cX9_meeting 31 = .ok (.iload_n 2, 1) := by decide +kernel
theorem dX9_meeting_32 : decode cX9_meeting 32 = .ok (.iload_n 3, 1) := by decide +kernel
theorem dX9_meeting_33 : decode cX9_meeting 33 = .ok (.invokevirtual 153, 3) := by decide +kernel
theorem dX9_meeting_36 : decode cX9_meeting 36 = .ok (.goto 4, 3) := by decide +kernel
theorem dX9_meeting_39 : decode cX9_meeting 39 = .ok (.iconst (-1), 1) := by decide +kernel
theorem dX9_meeting_40 : decode cX9_meeting 40 = .ok (.ireturn, 1) := by decide +kernel
theorem dX9_rowsOf_0 : decode cX9_rowsOf 0 = .ok (.iload_n 1, 1) := by decide +kernel
theorem dX9_rowsOf_1 : decode cX9_rowsOf 1 = .ok (.istore_n 3, 1) := by decide +kernel
theorem dX9_rowsOf_2 : decode cX9_rowsOf 2 = .ok (.aload_n 0, 1) := by decide +kernel
theorem dX9_rowsOf_3 : decode cX9_rowsOf 3 = .ok (.getfield 29, 3) := by decide +kernel
theorem dX9_rowsOf_6 : decode cX9_rowsOf 6 = .ok (.iconst 0, 1) := by decide +kernel
theorem dX9_rowsOf_7 : decode cX9_rowsOf 7 = .ok (.iaload, 1) := by decide +kernel
theorem dX9_rowsOf_8 : decode cX9_rowsOf 8 = .ok (.iconst 1, 1) := by decide +kernel
theorem dX9_rowsOf_9 : decode cX9_rowsOf 9 = .ok (.isub, 1) := by decide +kernel
theorem dX9_rowsOf_10 : decode cX9_rowsOf 10 = .ok (.istore 4, 2) := by decide +kernel
theorem dX9_rowsOf_12 : decode cX9_rowsOf 12 = .ok (.iload 4, 2) := by decide +kernel
theorem dX9_rowsOf_14 : decode cX9_rowsOf 14 = .ok (.ifCond .lt 31, 3) := by decide +kernel
theorem dX9_rowsOf_17 : decode cX9_rowsOf 17 = .ok (.aload_n 0, 1) := by decide +kernel
theorem dX9_rowsOf_18 : decode cX9_rowsOf 18 = .ok (.getfield 54, 3) := by decide +kernel
theorem dX9_rowsOf_21 : decode cX9_rowsOf 21 = .ok (.iload 4, 2) := by decide +kernel
theorem dX9_rowsOf_23 : decode cX9_rowsOf 23 = .ok (.iload_n 3, 1) := by decide +kernel
theorem dX9_rowsOf_24 : decode cX9_rowsOf 24 = .ok (.iconst 5, 1) := by decide +kernel
theorem dX9_rowsOf_25 : decode cX9_rowsOf 25 = .ok (.irem, 1) := by decide +kernel
theorem dX9_rowsOf_26 : decode cX9_rowsOf 26 = .ok (.iastore, 1) := by decide +kernel
theorem dX9_rowsOf_27 : decode cX9_rowsOf 27 = .ok (.iload_n 3, 1) := by decide +kernel
theorem dX9_rowsOf_28 : decode cX9_rowsOf 28 = .ok (.iconst 5, 1) := by decide +kernel
theorem dX9_rowsOf_29 : decode cX9_rowsOf 29 = .ok (.idiv, 1) := by decide +kernel
theorem dX9_rowsOf_30 : decode cX9_rowsOf 30 = .ok (.istore_n 3, 1) := by decide +kernel
theorem dX9_rowsOf_31 : decode cX9_rowsOf 31 = .ok (.aload_n 0, 1) := by decide +kernel
theorem dX9_rowsOf_32 : decode cX9_rowsOf 32 = .ok (.getfield 57, 3) := by decide +kernel
theorem dX9_rowsOf_35 : decode cX9_rowsOf 35 = .ok (.iload 4, 2) := by decide +kernel
theorem dX9_rowsOf_37 : decode cX9_rowsOf 37 = .ok (.iconst 0, 1) := by decide +kernel
theorem dX9_rowsOf_38 : decode cX9_rowsOf 38 = .ok (.iastore, 1) := by decide +kernel
theorem dX9_rowsOf_39 : decode cX9_rowsOf 39 = .ok (.iinc 4 (-1), 3) := by decide +kernel
theorem dX9_rowsOf_42 : decode cX9_rowsOf 42 = .ok (.goto (-30), 3) := by decide +kernel
theorem dX9_rowsOf_45 : decode cX9_rowsOf 45 = .ok (.iconst 0, 1) := by decide +kernel
theorem dX9_rowsOf_46 : decode cX9_rowsOf 46 = .ok (.istore 4, 2) := by decide +kernel
theorem dX9_rowsOf_48 : decode cX9_rowsOf 48 = .ok (.iconst 0, 1) := by decide +kernel
theorem dX9_rowsOf_49 : decode cX9_rowsOf 49 = .ok (.istore 5, 2) := by decide +kernel
theorem dX9_rowsOf_51 : decode cX9_rowsOf 51 = .ok (.iload 5, 2) := by decide +kernel
theorem dX9_rowsOf_53 : decode cX9_rowsOf 53 = .ok (.aload_n 0, 1) := by decide +kernel
theorem dX9_rowsOf_54 : decode cX9_rowsOf 54 = .ok (.getfield 29, 3) := by decide +kernel
theorem dX9_rowsOf_57 : decode cX9_rowsOf 57 = .ok (.iconst 0, 1) := by decide +kernel
theorem dX9_rowsOf_58 : decode cX9_rowsOf 58 = .ok (.iaload, 1) := by decide +kernel
theorem dX9_rowsOf_59 : decode cX9_rowsOf 59 = .ok (.if_icmp .ge 87, 3) := by decide +kernel
theorem dX9_rowsOf_62 : decode cX9_rowsOf 62 = .ok (.aload_n 0, 1) := by decide +kernel
theorem dX9_rowsOf_63 : decode cX9_rowsOf 63 = .ok (.getfield 54, 3) := by decide +kernel
theorem dX9_rowsOf_66 : decode cX9_rowsOf 66 = .ok (.iload 5, 2) := by decide +kernel
theorem dX9_rowsOf_68 : decode cX9_rowsOf 68 = .ok (.iaload, 1) := by decide +kernel
theorem dX9_rowsOf_69 : decode cX9_rowsOf 69 = .ok (.iload 4, 2) := by decide +kernel
theorem dX9_rowsOf_71 : decode cX9_rowsOf 71 = .ok (.if_icmp .le 6, 3) := by decide +kernel
theorem dX9_rowsOf_74 : decode cX9_rowsOf 74 = .ok (.bipush (-9), 2) := by decide +kernel
theorem dX9_rowsOf_76 : decode cX9_rowsOf 76 = .ok (.ireturn, 1) := by decide +kernel
theorem dX9_rowsOf_77 : decode cX9_rowsOf 77 = .ok (.aload_n 0, 1) := by decide +kernel
theorem dX9_rowsOf_78 : decode cX9_rowsOf 78 = .ok (.getfield 54, 3) := by decide +kernel
theorem dX9_rowsOf_81 : decode cX9_rowsOf 81 = .ok (.iload 5, 2) := by decide +kernel
theorem dX9_rowsOf_83 : decode cX9_rowsOf 83 = .ok (.iaload, 1) := by decide +kernel
theorem dX9_rowsOf_84 : decode cX9_rowsOf 84 = .ok (.iload 4, 2) := by decide +kernel
theorem dX9_rowsOf_86 : decode cX9_rowsOf 86 = .ok (.if_icmp .ne 10, 3) := by decide +kernel
theorem dX9_rowsOf_89 : decode cX9_rowsOf 89 = .ok (.iload 4, 2) := by decide +kernel
theorem dX9_rowsOf_91 : decode cX9_rowsOf 91 = .ok (.iconst 1, 1) := by decide +kernel
theorem dX9_rowsOf_92 : decode cX9_rowsOf 92 = .ok (.iadd, 1) := by decide +kernel
theorem dX9_rowsOf_93 : decode cX9_rowsOf 93 = .ok (.goto 5, 3) := by decide +kernel
theorem dX9_rowsOf_96 : decode cX9_rowsOf 96 = .ok (.iload 4, 2) := by decide +kernel
theorem dX9_rowsOf_98 : decode cX9_rowsOf 98 = .ok (.istore 4, 2) := by decide +kernel
theorem dX9_rowsOf_100 : decode cX9_rowsOf 100 = .ok (.aload_n 0, 1) := by decide +kernel
theorem dX9_rowsOf_101 : decode cX9_rowsOf 101 = .ok (.getfield 57, 3) := by decide +kernel
theorem dX9_rowsOf_104 : decode cX9_rowsOf 104 = .ok (.aload_n 0, 1) := by decide +kernel
theorem dX9_rowsOf_105 : decode cX9_rowsOf 105 = .ok (.getfield 54, 3) := by decide +kernel
theorem dX9_rowsOf_108 : decode cX9_rowsOf 108 = .ok (.iload 5, 2) := by decide +kernel
theorem dX9_rowsOf_110 : decode cX9_rowsOf 110 = .ok (.iaload, 1) := by decide +kernel
theorem dX9_rowsOf_111 : decode cX9_rowsOf 111 = .ok (.dup2, 1) := by decide +kernel
theorem dX9_rowsOf_112 : decode cX9_rowsOf 112 = .ok (.iaload, 1) := by decide +kernel
theorem dX9_rowsOf_113 : decode cX9_rowsOf 113 = .ok (.aload_n 0, 1) := by decide +kernel
theorem dX9_rowsOf_114 : decode cX9_rowsOf 114 = .ok (.iload 5, 2) := by decide +kernel
theorem dX9_rowsOf_116 : decode cX9_rowsOf 116 = .ok (.invokevirtual 124, 3) := by decide +kernel
theorem dX9_rowsOf_119 : decode cX9_rowsOf 119 = .ok (.iadd, 1) := by decide +kernel
theorem dX9_rowsOf_120 : decode cX9_rowsOf 120 = .ok (.iastore, 1) := by decide +kernel
theorem dX9_rowsOf_121 : decode cX9_rowsOf 121 = .ok (.aload_n 0, 1) := by decide +kernel
theorem dX9_rowsOf_122 : decode cX9_rowsOf 122 = .ok (.getfield 57, 3) := by decide +kernel
theorem dX9_rowsOf_125 : decode cX9_rowsOf 125 = .ok (.aload_n 0, 1) := by decide +kernel
theorem dX9_rowsOf_126 : decode cX9_rowsOf 126 = .ok (.getfield 54, 3) := by decide +kernel
theorem dX9_rowsOf_129 : decode cX9_rowsOf 129 = .ok (.iload 5, 2) := by decide +kernel
theorem dX9_rowsOf_131 : decode cX9_rowsOf 131 = .ok (.iaload, 1) := by decide +kernel
theorem dX9_rowsOf_132 : decode cX9_rowsOf 132 = .ok (.iaload, 1) := by decide +kernel
theorem dX9_rowsOf_133 : decode cX9_rowsOf 133 = .ok (.iload_n 2, 1) := by decide +kernel
theorem dX9_rowsOf_134 : decode cX9_rowsOf 134 = .ok (.if_icmp .le 6, 3) := by decide +kernel
theorem dX9_rowsOf_137 : decode cX9_rowsOf 137 = .ok (.bipush (-9), 2) := by decide +kernel
theorem dX9_rowsOf_139 : decode cX9_rowsOf 139 = .ok (.ireturn, 1) := by decide +kernel
theorem dX9_rowsOf_140 : decode cX9_rowsOf 140 = .ok (.iinc 5 1, 3) := by decide +kernel
theorem dX9_rowsOf_143 : decode cX9_rowsOf 143 = .ok (.goto (-92), 3) := by decide +kernel
theorem dX9_rowsOf_146 : decode cX9_rowsOf 146 = .ok (.iload 4, 2) := by decide +kernel
theorem dX9_rowsOf_148 : decode cX9_rowsOf 148 = .ok (.ireturn, 1) := by decide +kernel
theorem dX9_theatre_0 : decode cX9_theatre 0 = .ok (.iload_n 1, 1) := by decide +kernel
theorem dX9_theatre_1 : decode cX9_theatre 1 = .ok (.iconst 1, 1) := by decide +kernel
theorem dX9_theatre_2 : decode cX9_theatre 2 = .ok (.bipush 99, 2) := by decide +kernel
theorem dX9_theatre_4 : decode cX9_theatre 4 = .ok (.invokestatic 72, 3) := by decide +kernel
theorem dX9_theatre_7 : decode cX9_theatre 7 = .ok (.ifCond .eq 16, 3) := by decide +kernel
theorem dX9_theatre_10 : decode cX9_theatre 10 = .ok (.iload_n 2, 1) := by decide +kernel
theorem dX9_theatre_11 : decode cX9_theatre 11 = .ok (.iconst (-1), 1) := by decide +kernel
theorem dX9_theatre_12 : decode cX9_theatre 12 = .ok (.if_icmp .eq 13, 3) := by decide +kernel
theorem dX9_theatre_15 : decode cX9_theatre 15 = .ok (.aload_n 0, 1) := by decide +kernel
theorem dX9_theatre_16 : decode cX9_theatre 16 = .ok (.iload_n 2, 1) := by decide +kernel
theorem dX9_theatre_17 : decode cX9_theatre 17 = .ok (.invokevirtual 141, 3) := by decide +kernel
theorem dX9_theatre_20 : decode cX9_theatre 20 = .ok (.ifCond .ne 5, 3) := by decide +kernel
theorem dX9_theatre_23 : decode cX9_theatre 23 = .ok (.iconst (-1), 1) := by decide +kernel
theorem dX9_theatre_24 : decode cX9_theatre 24 = .ok (.ireturn, 1) := by decide +kernel
theorem dX9_theatre_25 : decode cX9_theatre 25 = .ok (.iconst 1, 1) := by decide +kernel
theorem dX9_theatre_26 : decode cX9_theatre 26 = .ok (.istore_n 3, 1) := by decide +kernel
theorem dX9_theatre_27 : decode cX9_theatre 27 = .ok (.iconst 0, 1) := by decide +kernel
theorem dX9_theatre_28 : decode cX9_theatre 28 = .ok (.istore 4, 2) := by decide +kernel
theorem dX9_theatre_30 : decode cX9_theatre 30 = .ok (.iload 4, 2) := by decide +kernel
theorem dX9_theatre_32 : decode cX9_theatre 32 = .ok (.aload_n 0, 1) := by decide +kernel
theorem dX9_theatre_33 : decode cX9_theatre 33 = .ok (.getfield 29, 3) := by decide +kernel
theorem dX9_theatre_36 : decode cX9_theatre 36 = .ok (.iconst 0, 1) := by decide +kernel
theorem dX9_theatre_37 : decode cX9_theatre 37 = .ok (.iaload, 1) := by decide +kernel
theorem dX9_theatre_38 : decode cX9_theatre 38 = .ok (.if_icmp .ge 13, 3) := by decide +kernel
theorem dX9_theatre_41 : decode cX9_theatre 41 = .ok (.iload_n 3, 1) := by decide +kernel
theorem dX9_theatre_42 : decode cX9_theatre 42 = .ok (.iconst 5, 1) := by decide +kernel
theorem dX9_theatre_43 : decode cX9_theatre 43 = .ok (.imul, 1) := by decide +kernel
theorem dX9_theatre_44 : decode cX9_theatre 44 = .ok (.istore_n 3, 1) := by decide +kernel
theorem dX9_theatre_45 : decode cX9_theatre 45 = .ok (.iinc 4 1, 3) := by decide +kernel
theorem dX9_theatre_48 : decode cX9_theatre 48 = .ok (.goto (-18), 3) := by decide +kernel
theorem dX9_theatre_51 : decode cX9_theatre 51 = .ok (.bipush (-9), 2) := by decide +kernel
theorem dX9_theatre_53 : decode cX9_theatre 53 = .ok (.istore 4, 2) := by decide +kernel
theorem dX9_theatre_55 : decode cX9_theatre 55 = .ok (.bipush (-9), 2) := by decide +kernel
theorem dX9_theatre_57 : decode cX9_theatre 57 = .ok (.istore 5, 2) := by decide +kernel
theorem dX9_theatre_59 : decode cX9_theatre 59 = .ok (.iconst 0, 1) := by decide +kernel
theorem dX9_theatre_60 : decode cX9_theatre 60 = .ok (.istore 6, 2) := by decide +kernel
theorem dX9_theatre_62 : decode cX9_theatre 62 = .ok (.iload 6, 2) := by decide +kernel
theorem dX9_theatre_64 : decode cX9_theatre 64 = .ok (.iload_n 3, 1) := by decide +kernel
theorem dX9_theatre_65 : decode cX9_theatre 65 = .ok (.if_icmp .ge 47, 3) := by decide +kernel
theorem dX9_theatre_68 : decode cX9_theatre 68 = .ok (.aload_n 0, 1) := by decide +kernel
theorem dX9_theatre_69 : decode cX9_theatre 69 = .ok (.iload 6, 2) := by decide +kernel
theorem dX9_theatre_71 : decode cX9_theatre 71 = .ok (.iload_n 1, 1) := by decide +kernel
theorem dX9_theatre_72 : decode cX9_theatre 72 = .ok (.invokevirtual 178, 3) := by decide +kernel
theorem dX9_theatre_75 : decode cX9_theatre 75 = .ok (.istore 7, 2) := by decide +kernel
theorem dX9_theatre_77 : decode cX9_theatre 77 = .ok (.iload 7, 2) := by decide +kernel
theorem dX9_theatre_79 : decode cX9_theatre 79 = .ok (.bipush (-9), 2) := by decide +kernel
theorem dX9_theatre_81 : decode cX9_theatre 81 = .ok (.if_icmp .eq 25, 3) := by decide +kernel
theorem dX9_theatre_84 : decode cX9_theatre 84 = .ok (.iload 5, 2) := by decide +kernel
theorem dX9_theatre_86 : decode cX9_theatre 86 = .ok (.bipush (-9), 2) := by decide +kernel
theorem dX9_theatre_88 : decode cX9_theatre 88 = .ok (.if_icmp .eq 10, 3) := by decide +kernel
theorem dX9_theatre_91 : decode cX9_theatre 91 = .ok (.iload 7, 2) := by decide +kernel
theorem dX9_theatre_93 : decode cX9_theatre 93 = .ok (.iload 5, 2) := by decide +kernel
theorem dX9_theatre_95 : decode cX9_theatre 95 = .ok (.if_icmp .ge 11, 3) := by decide +kernel
theorem dX9_theatre_98 : decode cX9_theatre 98 = .ok (.iload 6, 2) := by decide +kernel
theorem dX9_theatre_100 : decode cX9_theatre 100 = .ok (.istore 4, 2) := by decide +kernel
theorem dX9_theatre_102 : decode cX9_theatre 102 = .ok (.iload 7, 2) := by decide +kernel
theorem dX9_theatre_104 : decode cX9_theatre 104 = .ok (.istore 5, 2) := by decide +kernel
theorem dX9_theatre_106 : decode cX9_theatre 106 = .ok (.iinc 6 1, 3) := by decide +kernel
theorem dX9_theatre_109 : decode cX9_theatre 109 = .ok (.goto (-47), 3) := by decide +kernel
theorem dX9_theatre_112 : decode cX9_theatre 112 = .ok (.iload 4, 2) := by decide +kernel
theorem dX9_theatre_114 : decode cX9_theatre 114 = .ok (.bipush (-9), 2) := by decide +kernel
theorem dX9_theatre_116 : decode cX9_theatre 116 = .ok (.if_icmp .eq 8, 3) := by decide +kernel
theorem dX9_theatre_119 : decode cX9_theatre 119 = .ok (.iload_n 2, 1) := by decide +kernel
theorem dX9_theatre_120 : decode cX9_theatre 120 = .ok (.iconst (-1), 1) := by decide +kernel
theorem dX9_theatre_121 : decode cX9_theatre 121 = .ok (.if_icmp .ne 6, 3) := by decide +kernel
theorem dX9_theatre_124 : decode cX9_theatre 124 = .ok (.iload 5, 2) := by decide +kernel
theorem dX9_theatre_126 : decode cX9_theatre 126 = .ok (.ireturn, 1) := by decide +kernel
theorem dX9_theatre_127 : decode cX9_theatre 127 = .ok (.aload_n 0, 1) := by decide +kernel
theorem dX9_theatre_128 : decode cX9_theatre 128 = .ok (.iload 4, 2) := by decide +kernel
theorem dX9_theatre_130 : decode cX9_theatre 130 = .ok (.iload_n 1, 1) := by decide +kernel
theorem dX9_theatre_131 : decode cX9_theatre 131 = .ok (.invokevirtual 178, 3) := by decide +kernel
theorem dX9_theatre_134 : decode cX9_theatre 134 = .ok (.pop, 1) := by decide +kernel
theorem dX9_theatre_135 : decode cX9_theatre 135 = .ok (.aload_n 0, 1) := by decide +kernel
theorem dX9_theatre_136 : decode cX9_theatre 136 = .ok (.getfield 54, 3) := by decide +kernel
theorem dX9_theatre_139 : decode cX9_theatre 139 = .ok (.iload_n 2, 1) := by decide +kernel
theorem dX9_theatre_140 : decode cX9_theatre 140 = .ok (.iaload, 1) := by decide +kernel
theorem dX9_theatre_141 : decode cX9_theatre 141 = .ok (.ireturn, 1) := by decide +kernel
theorem dX9_narrow_0 : decode cX9_narrow 0 = .ok (.aload_n 0, 1) := by decide +kernel
theorem dX9_narrow_1 : decode cX9_narrow 1 = .ok (.iload_n 1, 1) := by decide +kernel
theorem dX9_narrow_2 : decode cX9_narrow 2 = .ok (.invokevirtual 134, 3) := by decide +kernel
theorem dX9_narrow_5 : decode cX9_narrow 5 = .ok (.ifCond .ne 5, 3) := by decide +kernel
theorem dX9_narrow_8 : decode cX9_narrow 8 = .ok (.iconst (-1), 1) := by decide +kernel
theorem dX9_narrow_9 : decode cX9_narrow 9 = .ok (.ireturn, 1) := by decide +kernel
theorem dX9_narrow_10 : decode cX9_narrow 10 = .ok (.bipush (-9), 2) := by decide +kernel
theorem dX9_narrow_12 : decode cX9_narrow 12 = .ok (.istore_n 2, 1) := by decide +kernel
theorem dX9_narrow_13 : decode cX9_narrow 13 = .ok (.iconst 0, 1) := by decide +kernel
theorem dX9_narrow_14 : decode cX9_narrow 14 = .ok (.istore_n 3, 1) := by decide +kernel
theorem dX9_narrow_15 : decode cX9_narrow 15 = .ok (.iload_n 3, 1) := by decide +kernel
theorem dX9_narrow_16 : decode cX9_narrow 16 = .ok (.iconst 1, 1) := by decide +kernel
theorem dX9_narrow_17 : decode cX9_narrow 17 = .ok (.aload_n 0, 1) := by decide +kernel
theorem dX9_narrow_18 : decode cX9_narrow 18 = .ok (.getfield 29, 3) := by decide +kernel
theorem dX9_narrow_21 : decode cX9_narrow 21 = .ok (.iconst 0, 1) := by decide +kernel
theorem dX9_narrow_22 : decode cX9_narrow 22 = .ok (.iaload, 1) := by decide +kernel
theorem dX9_narrow_23 : decode cX9_narrow 23 = .ok (.ishl, 1) := by decide +kernel
theorem dX9_narrow_24 : decode cX9_narrow 24 = .ok (.if_icmp .ge 96, 3) := by decide +kernel
theorem dX9_narrow_27 : decode cX9_narrow 27 = .ok (.iconst 0, 1) := by decide +kernel
theorem dX9_narrow_28 : decode cX9_narrow 28 = .ok (.istore 4, 2) := by decide +kernel
theorem dX9_narrow_30 : decode cX9_narrow 30 = .ok (.iconst 0, 1) := by decide +kernel
theorem dX9_narrow_31 : decode cX9_narrow 31 = .ok (.istore 5, 2) := by decide +kernel
theorem dX9_narrow_33 : decode cX9_narrow 33 = .ok (.iload 5, 2) := by decide +kernel
theorem dX9_narrow_35 : decode cX9_narrow 35 = .ok (.aload_n 0, 1) := by decide +kernel
theorem dX9_narrow_36 : decode cX9_narrow 36 = .ok (.getfield 29, 3) := by decide +kernel
theorem dX9_narrow_39 : decode cX9_narrow 39 = .ok (.iconst 0, 1) := by decide +kernel
theorem dX9_narrow_40 : decode cX9_narrow 40 = .ok (.iaload, 1) := by decide +kernel
theorem dX9_narrow_41 : decode cX9_narrow 41 = .ok (.if_icmp .ge 39, 3) := by decide +kernel
theorem dX9_narrow_44 : decode cX9_narrow 44 = .ok (.iload 4, 2) := by decide +kernel
theorem dX9_narrow_46 : decode cX9_narrow 46 = .ok (.iload_n 3, 1) := by decide +kernel
theorem dX9_narrow_47 : decode cX9_narrow 47 = .ok (.iload 5, 2) := by decide +kernel
theorem dX9_narrow_49 : decode cX9_narrow 49 = .ok (.ishr, 1) := by decide +kernel
theorem dX9_narrow_50 : decode cX9_narrow 50 = .ok (.iconst 1, 1) := by decide +kernel
theorem dX9_narrow_51 : decode cX9_narrow 51 = .ok (.iand, 1) := by decide +kernel
theorem dX9_narrow_52 : decode cX9_narrow 52 = .ok (.iconst 1, 1) := by decide +kernel
theorem dX9_narrow_53 : decode cX9_narrow 53 = .ok (.if_icmp .ne 12, 3) := by decide +kernel
theorem dX9_narrow_56 : decode cX9_narrow 56 = .ok (.aload_n 0, 1) := by decide +kernel
theorem dX9_narrow_57 : decode cX9_narrow 57 = .ok (.getfield 38, 3) := by decide +kernel
theorem dX9_narrow_60 : decode cX9_narrow 60 = .ok (.iconst 0, 1) := by decide +kernel
theorem dX9_narrow_61 : decode cX9_narrow 61 = .ok (.iaload, 1) := by decide +kernel
theorem dX9_narrow_62 : decode cX9_narrow 62 = .ok (.goto 9, 3) := by decide +kernel
theorem dX9_narrow_65 : decode cX9_narrow 65 = .ok (.aload_n 0, 1) := by decide +kernel
theorem dX9_narrow_66 : decode cX9_narrow 66 = .ok (.iload 5, 2) := by decide +kernel
theorem dX9_narrow_68 : decode cX9_narrow 68 = .ok (.invokevirtual 124, 3) := by decide +kernel
theorem dX9_narrow_71 : decode cX9_narrow 71 = .ok (.iadd, 1) := by decide +kernel
theorem dX9_narrow_72 : decode cX9_narrow 72 = .ok (.istore 4, 2) := by decide +kernel
theorem dX9_narrow_74 : decode cX9_narrow 74 = .ok (.iinc 5 1, 3) := by decide +kernel
theorem dX9_narrow_77 : decode cX9_narrow 77 = .ok (.goto (-44), 3) := by decide +kernel
theorem dX9_narrow_80 : decode cX9_narrow 80 = .ok (.iload 4, 2) := by decide +kernel
theorem dX9_narrow_82 : decode cX9_narrow 82 = .ok (.aload_n 0, 1) := by decide +kernel
theorem dX9_narrow_83 : decode cX9_narrow 83 = .ok (.getfield 26, 3) := by decide +kernel
theorem dX9_narrow_86 : decode cX9_narrow 86 = .ok (.iload_n 1, 1) := by decide +kernel
theorem dX9_narrow_87 : decode cX9_narrow 87 = .ok (.iaload, 1) := by decide +kernel
theorem dX9_narrow_88 : decode cX9_narrow 88 = .ok (.if_icmp .gt 24, 3) := by decide +kernel
theorem dX9_narrow_91 : decode cX9_narrow 91 = .ok (.iload_n 2, 1) := by decide +kernel
theorem dX9_narrow_92 : decode cX9_narrow 92 = .ok (.bipush (-9), 2) := by decide +kernel
theorem dX9_narrow_94 : decode cX9_narrow 94 = .ok (.if_icmp .eq 14, 3) := by decide +kernel
theorem dX9_narrow_97 : decode cX9_narrow 97 = .ok (.iload_n 3, 1) := by decide +kernel
theorem dX9_narrow_98 : decode cX9_narrow 98 = .ok (.invokestatic 157, 3) := by decide +kernel
theorem dX9_narrow_101 : decode cX9_narrow 101 = .ok (.iload_n 2, 1) := by decide +kernel
theorem dX9_narrow_102 : decode cX9_narrow 102 = .ok (.invokestatic 157, 3) := by decide +kernel
theorem dX9_narrow_105 : decode cX9_narrow 105 = .ok (.if_icmp .ge 7, 3) := by decide +kernel
theorem dX9_narrow_108 : decode cX9_narrow 108 = .ok (.iload_n 3, 1) := by decide +kernel
theorem dX9_narrow_109 : decode cX9_narrow 109 = .ok (.goto 4, 3) := by decide +kernel
theorem dX9_narrow_112 : decode cX9_narrow 112 = .ok (.iload_n 2, 1) := by decide +kernel
theorem dX9_narrow_113 : decode cX9_narrow 113 = .ok (.istore_n 2, 1) := by decide +kernel
theorem dX9_narrow_114 : decode cX9_narrow 114 = .ok (.iinc 3 1, 3) := by decide +kernel
theorem dX9_narrow_117 : decode cX9_narrow 117 = .ok (.goto (-102), 3) := by decide +kernel
theorem dX9_narrow_120 : decode cX9_narrow 120 = .ok (.iload_n 2, 1) := by decide +kernel
theorem dX9_narrow_121 : decode cX9_narrow 121 = .ok (.ireturn, 1) := by decide +kernel
theorem dX9_order_0 : decode cX9_order 0 = .ok (.aload_n 0, 1) := by decide +kernel
theorem dX9_order_1 : decode cX9_order 1 = .ok (.iload_n 1, 1) := by decide +kernel
theorem dX9_order_2 : decode cX9_order 2 = .ok (.invokevirtual 141, 3) := by decide +kernel
theorem dX9_order_5 : decode cX9_order 5 = .ok (.ifCond .ne 5, 3) := by decide +kernel
theorem dX9_order_8 : decode cX9_order 8 = .ok (.iconst (-1), 1) := by decide +kernel
theorem dX9_order_9 : decode cX9_order 9 = .ok (.ireturn, 1) := by decide +kernel
theorem dX9_order_10 : decode cX9_order 10 = .ok (.bipush (-9), 2) := by decide +kernel
theorem dX9_order_12 : decode cX9_order 12 = .ok (.istore_n 2, 1) := by decide +kernel
theorem dX9_order_13 : decode cX9_order 13 = .ok (.iconst 0, 1) := by decide +kernel
theorem dX9_order_14 : decode cX9_order 14 = .ok (.istore_n 3, 1) := by decide +kernel
theorem dX9_order_15 : decode cX9_order 15 = .ok (.iload_n 3, 1) := by decide +kernel
theorem dX9_order_16 : decode cX9_order 16 = .ok (.aload_n 0, 1) := by decide +kernel
theorem dX9_order_17 : decode cX9_order 17 = .ok (.getfield 29, 3) := by decide +kernel
theorem dX9_order_20 : decode cX9_order 20 = .ok (.iconst 0, 1) := by decide +kernel
theorem dX9_order_21 : decode cX9_order 21 = .ok (.iaload, 1) := by decide +kernel
theorem dX9_order_22 : decode cX9_order 22 = .ok (.if_icmp .ge 112, 3) := by decide +kernel
theorem dX9_order_25 : decode cX9_order 25 = .ok (.iconst 0, 1) := by decide +kernel
theorem dX9_order_26 : decode cX9_order 26 = .ok (.istore 4, 2) := by decide +kernel
theorem dX9_order_28 : decode cX9_order 28 = .ok (.iconst 0, 1) := by decide +kernel
theorem dX9_order_29 : decode cX9_order 29 = .ok (.istore 5, 2) := by decide +kernel
theorem dX9_order_31 : decode cX9_order 31 = .ok (.iload 5, 2) := by decide +kernel
theorem dX9_order_33 : decode cX9_order 33 = .ok (.aload_n 0, 1) := by decide +kernel
theorem dX9_order_34 : decode cX9_order 34 = .ok (.getfield 29, 3) := by decide +kernel
theorem dX9_order_37 : decode cX9_order 37 = .ok (.iconst 0, 1) := by decide +kernel
theorem dX9_order_38 : decode cX9_order 38 = .ok (.iaload, 1) := by decide +kernel
theorem dX9_order_39 : decode cX9_order 39 = .ok (.if_icmp .ge 77, 3) := by decide +kernel
theorem dX9_order_42 : decode cX9_order 42 = .ok (.aload_n 0, 1) := by decide +kernel
theorem dX9_order_43 : decode cX9_order 43 = .ok (.getfield 44, 3) := by decide +kernel
theorem dX9_order_46 : decode cX9_order 46 = .ok (.iconst 5, 1) := by decide +kernel
theorem dX9_order_47 : decode cX9_order 47 = .ok (.iload 5, 2) := by decide +kernel
theorem dX9_order_49 : decode cX9_order 49 = .ok (.iadd, 1) := by decide +kernel
theorem dX9_order_50 : decode cX9_order 50 = .ok (.iaload, 1) := by decide +kernel
theorem dX9_order_51 : decode cX9_order 51 = .ok (.aload_n 0, 1) := by decide +kernel
theorem dX9_order_52 : decode cX9_order 52 = .ok (.getfield 44, 3) := by decide +kernel
theorem dX9_order_55 : decode cX9_order 55 = .ok (.iconst 5, 1) := by decide +kernel
theorem dX9_order_56 : decode cX9_order 56 = .ok (.iload_n 3, 1) := by decide +kernel
theorem dX9_order_57 : decode cX9_order 57 = .ok (.iadd, 1) := by decide +kernel
theorem dX9_order_58 : decode cX9_order 58 = .ok (.iaload, 1) := by decide +kernel
theorem dX9_order_59 : decode cX9_order 59 = .ok (.if_icmp .gt 29, 3) := by decide +kernel
theorem dX9_order_62 : decode cX9_order 62 = .ok (.aload_n 0, 1) := by decide +kernel
theorem dX9_order_63 : decode cX9_order 63 = .ok (.getfield 44, 3) := by decide +kernel
theorem dX9_order_66 : decode cX9_order 66 = .ok (.iconst 5, 1) := by decide +kernel
theorem dX9_order_67 : decode cX9_order 67 = .ok (.iload 5, 2) := by decide +kernel
theorem dX9_order_69 : decode cX9_order 69 = .ok (.iadd, 1) := by decide +kernel
theorem dX9_order_70 : decode cX9_order 70 = .ok (.iaload, 1) := by decide +kernel
theorem dX9_order_71 : decode cX9_order 71 = .ok (.aload_n 0, 1) := by decide +kernel
theorem dX9_order_72 : decode cX9_order 72 = .ok (.getfield 44, 3) := by decide +kernel
theorem dX9_order_75 : decode cX9_order 75 = .ok (.iconst 5, 1) := by decide +kernel
theorem dX9_order_76 : decode cX9_order 76 = .ok (.iload_n 3, 1) := by decide +kernel
theorem dX9_order_77 : decode cX9_order 77 = .ok (.iadd, 1) := by decide +kernel
theorem dX9_order_78 : decode cX9_order 78 = .ok (.iaload, 1) := by decide +kernel
theorem dX9_order_79 : decode cX9_order 79 = .ok (.if_icmp .ne 13, 3) := by decide +kernel
theorem dX9_order_82 : decode cX9_order 82 = .ok (.iload 5, 2) := by decide +kernel
theorem dX9_order_84 : decode cX9_order 84 = .ok (.iload_n 3, 1) := by decide +kernel
theorem dX9_order_85 : decode cX9_order 85 = .ok (.if_icmp .ge 7, 3) := by decide +kernel
theorem dX9_order_88 : decode cX9_order 88 = .ok (.iconst 1, 1) := by decide +kernel
theorem dX9_order_89 : decode cX9_order 89 = .ok (.goto 4, 3) := by decide +kernel
theorem dX9_order_92 : decode cX9_order 92 = .ok (.iconst 0, 1) := by decide +kernel
theorem dX9_order_93 : decode cX9_order 93 = .ok (.istore 6, 2) := by decide +kernel
theorem dX9_order_95 : decode cX9_order 95 = .ok (.iload 4, 2) := by decide +kernel
theorem dX9_order_97 : decode cX9_order 97 = .ok (.iload 6, 2) := by decide +kernel
theorem dX9_order_99 : decode cX9_order 99 = .ok (.ifCond .eq 7, 3) := by decide +kernel
theorem dX9_order_102 : decode cX9_order 102 = .ok (.iconst 1, 1) := by decide +kernel
theorem dX9_order_103 : decode cX9_order 103 = .ok (.goto 4, 3) := by decide +kernel
theorem dX9_order_106 : decode cX9_order 106 = .ok (.iconst 0, 1) := by decide +kernel
theorem dX9_order_107 : decode cX9_order 107 = .ok (.iadd, 1) := by decide +kernel
theorem dX9_order_108 : decode cX9_order 108 = .ok (.istore 4, 2) := by decide +kernel
theorem dX9_order_110 : decode cX9_order 110 = .ok (.iinc 5 1, 3) := by decide +kernel
theorem dX9_order_113 : decode cX9_order 113 = .ok (.goto (-82), 3) := by decide +kernel
theorem dX9_order_116 : decode cX9_order 116 = .ok (.iload 4, 2) := by decide +kernel
theorem dX9_order_118 : decode cX9_order 118 = .ok (.iload_n 1, 1) := by decide +kernel
theorem dX9_order_119 : decode cX9_order 119 = .ok (.if_icmp .ne 7, 3) := by decide +kernel
theorem dX9_order_122 : decode cX9_order 122 = .ok (.iload_n 3, 1) := by decide +kernel
theorem dX9_order_123 : decode cX9_order 123 = .ok (.goto 4, 3) := by decide +kernel
theorem dX9_order_126 : decode cX9_order 126 = .ok (.iload_n 2, 1) := by decide +kernel
theorem dX9_order_127 : decode cX9_order 127 = .ok (.istore_n 2, 1) := by decide +kernel
theorem dX9_order_128 : decode cX9_order 128 = .ok (.iinc 3 1, 3) := by decide +kernel
theorem dX9_order_131 : decode cX9_order 131 = .ok (.goto (-116), 3) := by decide +kernel
theorem dX9_order_134 : decode cX9_order 134 = .ok (.iload_n 2, 1) := by decide +kernel
theorem dX9_order_135 : decode cX9_order 135 = .ok (.ireturn, 1) := by decide +kernel
theorem dX9_gate_0 : decode cX9_gate 0 = .ok (.aload_n 0, 1) := by decide +kernel
theorem dX9_gate_1 : decode cX9_gate 1 = .ok (.iload_n 1, 1) := by decide +kernel
theorem dX9_gate_2 : decode cX9_gate 2 = .ok (.invokevirtual 141, 3) := by decide +kernel
theorem dX9_gate_5 : decode cX9_gate 5 = .ok (.ifCond .eq 13, 3) := by decide +kernel
theorem dX9_gate_8 : decode cX9_gate 8 = .ok (.iload_n 2, 1) := by decide +kernel
theorem dX9_gate_9 : decode cX9_gate 9 = .ok (.iconst 0, 1) := by decide +kernel
theorem dX9_gate_10 : decode cX9_gate 10 = .ok (.bipush 40, 2) := by decide +kernel
theorem dX9_gate_12 : decode cX9_gate 12 = .ok (.invokestatic 72, 3) := by decide +kernel
theorem dX9_gate_15 : decode cX9_gate 15 = .ok (.ifCond .ne 5, 3) := by decide +kernel
theorem dX9_gate_18 : decode cX9_gate 18 = .ok (.iconst (-1), 1) := by decide +kernel
theorem dX9_gate_19 : decode cX9_gate 19 = .ok (.ireturn, 1) := by decide +kernel
theorem dX9_gate_20 : decode cX9_gate 20 = .ok (.aload_n 0, 1) := by decide +kernel
theorem dX9_gate_21 : decode cX9_gate 21 = .ok (.getfield 113, 3) := by decide +kernel
theorem dX9_gate_24 : decode cX9_gate 24 = .ok (.bipush 6, 2) := by decide +kernel
theorem dX9_gate_26 : decode cX9_gate 26 = .ok (.if_icmp .ne 6, 3) := by decide +kernel
theorem dX9_gate_29 : decode cX9_gate 29 = .ok (.bipush (-3), 2) := by decide +kernel
theorem dX9_gate_31 : decode cX9_gate 31 = .ok (.ireturn, 1) := by decide +kernel
theorem dX9_gate_32 : decode cX9_gate 32 = .ok (.aload_n 0, 1) := by decide +kernel
theorem dX9_gate_33 : decode cX9_gate 33 = .ok (.getfield 60, 3) := by decide +kernel
theorem dX9_gate_36 : decode cX9_gate 36 = .ok (.aload_n 0, 1) := by decide +kernel
theorem dX9_gate_37 : decode cX9_gate 37 = .ok (.getfield 113, 3) := by decide +kernel
theorem dX9_gate_40 : decode cX9_gate 40 = .ok (.iload_n 1, 1) := by decide +kernel
theorem dX9_gate_41 : decode cX9_gate 41 = .ok (.iastore, 1) := by decide +kernel
theorem dX9_gate_42 : decode cX9_gate 42 = .ok (.aload_n 0, 1) := by decide +kernel
theorem dX9_gate_43 : decode cX9_gate 43 = .ok (.getfield 63, 3) := by decide +kernel
theorem dX9_gate_46 : decode cX9_gate 46 = .ok (.aload_n 0, 1) := by decide +kernel
theorem dX9_gate_47 : decode cX9_gate 47 = .ok (.getfield 113, 3) := by decide +kernel
theorem dX9_gate_50 : decode cX9_gate 50 = .ok (.iload_n 2, 1) := by decide +kernel
theorem dX9_gate_51 : decode cX9_gate 51 = .ok (.iastore, 1) := by decide +kernel
theorem dX9_gate_52 : decode cX9_gate 52 = .ok (.aload_n 0, 1) := by decide +kernel
theorem dX9_gate_53 : decode cX9_gate 53 = .ok (.dup, 1) := by decide +kernel
theorem dX9_gate_54 : decode cX9_gate 54 = .ok (.getfield 113, 3) := by decide +kernel
theorem dX9_gate_57 : decode cX9_gate 57 = .ok (.iconst 1, 1) := by decide +kernel
theorem dX9_gate_58 : decode cX9_gate 58 = .ok (.iadd, 1) := by decide +kernel
theorem dX9_gate_59 : decode cX9_gate 59 = .ok (.putfield 113, 3) := by decide +kernel
theorem dX9_gate_62 : decode cX9_gate 62 = .ok (.aload_n 0, 1) := by decide +kernel
theorem dX9_gate_63 : decode cX9_gate 63 = .ok (.getfield 113, 3) := by decide +kernel
theorem dX9_gate_66 : decode cX9_gate 66 = .ok (.ireturn, 1) := by decide +kernel
theorem dX9_forget_0 : decode cX9_forget 0 = .ok (.aload_n 0, 1) := by decide +kernel
theorem dX9_forget_1 : decode cX9_forget 1 = .ok (.getfield 113, 3) := by decide +kernel
theorem dX9_forget_4 : decode cX9_forget 4 = .ok (.istore_n 1, 1) := by decide +kernel
theorem dX9_forget_5 : decode cX9_forget 5 = .ok (.aload_n 0, 1) := by decide +kernel
theorem dX9_forget_6 : decode cX9_forget 6 = .ok (.iconst 0, 1) := by decide +kernel
theorem dX9_forget_7 : decode cX9_forget 7 = .ok (.putfield 113, 3) := by decide +kernel
theorem dX9_forget_10 : decode cX9_forget 10 = .ok (.iload_n 1, 1) := by decide +kernel
theorem dX9_forget_11 : decode cX9_forget 11 = .ok (.ireturn, 1) := by decide +kernel
theorem dX9_fitsOf_0 : decode cX9_fitsOf 0 = .ok (.iconst 0, 1) := by decide +kernel
theorem dX9_fitsOf_1 : decode cX9_fitsOf 1 = .ok (.istore_n 2, 1) := by decide +kernel
theorem dX9_fitsOf_2 : decode cX9_fitsOf 2 = .ok (.iconst 0, 1) := by decide +kernel
theorem dX9_fitsOf_3 : decode cX9_fitsOf 3 = .ok (.istore_n 3, 1) := by decide +kernel
theorem dX9_fitsOf_4 : decode cX9_fitsOf 4 = .ok (.iload_n 3, 1) := by decide +kernel
theorem dX9_fitsOf_5 : decode cX9_fitsOf 5 = .ok (.bipush 9, 2) := by decide +kernel
theorem dX9_fitsOf_7 : decode cX9_fitsOf 7 = .ok (.if_icmp .gt 109, 3) := by decide +kernel
theorem dX9_fitsOf_10 : decode cX9_fitsOf 10 = .ok (.iconst 1, 1) := by decide +kernel
theorem dX9_fitsOf_11 : decode cX9_fitsOf 11 = .ok (.istore 4, 2) := by decide +kernel
theorem dX9_fitsOf_13 : decode cX9_fitsOf 13 = .ok (.iconst 0, 1) := by decide +kernel
theorem dX9_fitsOf_14 : decode cX9_fitsOf 14 = .ok (.istore 5, 2) := by decide +kernel
theorem dX9_fitsOf_16 : decode cX9_fitsOf 16 = .ok (.iload 5, 2) := by decide +kernel
theorem dX9_fitsOf_18 : decode cX9_fitsOf 18 = .ok (.aload_n 0, 1) := by decide +kernel
theorem dX9_fitsOf_19 : decode cX9_fitsOf 19 = .ok (.getfield 113, 3) := by decide +kernel
theorem dX9_fitsOf_22 : decode cX9_fitsOf 22 = .ok (.if_icmp .ge 73, 3) := by decide +kernel
theorem dX9_fitsOf_25 : decode cX9_fitsOf 25 = .ok (.aload_n 0, 1) := by decide +kernel
theorem dX9_fitsOf_26 : decode cX9_fitsOf 26 = .ok (.getfield 38, 3) := by decide +kernel
theorem dX9_fitsOf_29 : decode cX9_fitsOf 29 = .ok (.iconst 0, 1) := by decide +kernel
theorem dX9_fitsOf_30 : decode cX9_fitsOf 30 = .ok (.iaload, 1) := by decide +kernel
theorem dX9_fitsOf_31 : decode cX9_fitsOf 31 = .ok (.iconst 2, 1) := by decide +kernel
theorem dX9_fitsOf_32 : decode cX9_fitsOf 32 = .ok (.iload_n 3, 1) := by decide +kernel
theorem dX9_fitsOf_33 : decode cX9_fitsOf 33 = .ok (.imul, 1) := by decide +kernel
theorem dX9_fitsOf_34 : decode cX9_fitsOf 34 = .ok (.iadd, 1) := by decide +kernel
theorem dX9_fitsOf_35 : decode cX9_fitsOf 35 = .ok (.aload_n 0, 1) := by decide +kernel
theorem dX9_fitsOf_36 : decode cX9_fitsOf 36 = .ok (.getfield 63, 3) := by decide +kernel
theorem dX9_fitsOf_39 : decode cX9_fitsOf 39 = .ok (.iload 5, 2) := by decide +kernel
theorem dX9_fitsOf_41 : decode cX9_fitsOf 41 = .ok (.iaload, 1) := by decide +kernel
theorem dX9_fitsOf_42 : decode cX9_fitsOf 42 = .ok (.isub, 1) := by decide +kernel
theorem dX9_fitsOf_43 : decode cX9_fitsOf 43 = .ok (.istore 6, 2) := by decide +kernel
theorem dX9_fitsOf_45 : decode cX9_fitsOf 45 = .ok (.iload 4, 2) := by decide +kernel
theorem dX9_fitsOf_47 : decode cX9_fitsOf 47 = .ok (.ifCond .eq 39, 3) := by decide +kernel
theorem dX9_fitsOf_50 : decode cX9_fitsOf 50 = .ok (.aload_n 0, 1) := by decide +kernel
theorem dX9_fitsOf_51 : decode cX9_fitsOf 51 = .ok (.getfield 60, 3) := by decide +kernel
theorem dX9_fitsOf_54 : decode cX9_fitsOf 54 = .ok (.iload 5, 2) := by decide +kernel
theorem dX9_fitsOf_56 : decode cX9_fitsOf 56 = .ok (.iaload, 1) := by decide +kernel
theorem dX9_fitsOf_57 : decode cX9_fitsOf 57 = .ok (.iload_n 1, 1) := by decide +kernel
theorem dX9_fitsOf_58 : decode cX9_fitsOf 58 = .ok (.if_icmp .ne 24, 3) := by decide +kernel
theorem dX9_fitsOf_61 : decode cX9_fitsOf 61 = .ok (.iload 6, 2) := by decide +kernel
theorem dX9_fitsOf_63 : decode cX9_fitsOf 63 = .ok (.aload_n 0, 1) := by decide +kernel
theorem dX9_fitsOf_64 : decode cX9_fitsOf 64 = .ok (.getfield 41, 3) := by decide +kernel
theorem dX9_fitsOf_67 : decode cX9_fitsOf 67 = .ok (.iconst 0, 1) := by decide +kernel
theorem dX9_fitsOf_68 : decode cX9_fitsOf 68 = .ok (.iaload, 1) := by decide +kernel
theorem dX9_fitsOf_69 : decode cX9_fitsOf 69 = .ok (.ineg, 1) := by decide +kernel
theorem dX9_fitsOf_70 : decode cX9_fitsOf 70 = .ok (.aload_n 0, 1) := by decide +kernel
theorem dX9_fitsOf_71 : decode cX9_fitsOf 71 = .ok (.getfield 41, 3) := by decide +kernel
theorem dX9_fitsOf_74 : decode cX9_fitsOf 74 = .ok (.iconst 0, 1) := by decide +kernel
theorem dX9_fitsOf_75 : decode cX9_fitsOf 75 = .ok (.iaload, 1) := by decide +kernel
theorem dX9_fitsOf_76 : decode cX9_fitsOf 76 = .ok (.invokestatic 72, 3) := by decide +kernel
theorem dX9_fitsOf_79 : decode cX9_fitsOf 79 = .ok (.ifCond .eq 7, 3) := by decide +kernel
theorem dX9_fitsOf_82 : decode cX9_fitsOf 82 = .ok (.iconst 1, 1) := by decide +kernel
theorem dX9_fitsOf_83 : decode cX9_fitsOf 83 = .ok (.goto 4, 3) := by decide +kernel
theorem dX9_fitsOf_86 : decode cX9_fitsOf 86 = .ok (.iconst 0, 1) := by decide +kernel
theorem dX9_fitsOf_87 : decode cX9_fitsOf 87 = .ok (.istore 4, 2) := by decide +kernel
theorem dX9_fitsOf_89 : decode cX9_fitsOf 89 = .ok (.iinc 5 1, 3) := by decide +kernel
theorem dX9_fitsOf_92 : decode cX9_fitsOf 92 = .ok (.goto (-76), 3) := by decide +kernel
theorem dX9_fitsOf_95 : decode cX9_fitsOf 95 = .ok (.iload_n 2, 1) := by decide +kernel
theorem dX9_fitsOf_96 : decode cX9_fitsOf 96 = .ok (.iload 4, 2) := by decide +kernel
theorem dX9_fitsOf_98 : decode cX9_fitsOf 98 = .ok (.ifCond .eq 9, 3) := by decide +kernel
theorem dX9_fitsOf_101 : decode cX9_fitsOf 101 = .ok (.iconst 1, 1) := by decide +kernel
theorem dX9_fitsOf_102 : decode cX9_fitsOf 102 = .ok (.iload_n 3, 1) := by decide +kernel
theorem dX9_fitsOf_103 : decode cX9_fitsOf 103 = .ok (.ishl, 1) := by decide +kernel
theorem dX9_fitsOf_104 : decode cX9_fitsOf 104 = .ok (.goto 4, 3) := by decide +kernel
theorem dX9_fitsOf_107 : decode cX9_fitsOf 107 = .ok (.iconst 0, 1) := by decide +kernel
theorem dX9_fitsOf_108 : decode cX9_fitsOf 108 = .ok (.ior, 1) := by decide +kernel
theorem dX9_fitsOf_109 : decode cX9_fitsOf 109 = .ok (.istore_n 2, 1) := by decide +kernel
theorem dX9_fitsOf_110 : decode cX9_fitsOf 110 = .ok (.iinc 3 1, 3) := by decide +kernel
theorem dX9_fitsOf_113 : decode cX9_fitsOf 113 = .ok (.goto (-109), 3) := by decide +kernel
theorem dX9_fitsOf_116 : decode cX9_fitsOf 116 = .ok (.iload_n 2, 1) := by decide +kernel
theorem dX9_fitsOf_117 : decode cX9_fitsOf 117 = .ok (.ireturn, 1) := by decide +kernel
theorem dX9_fits_0 : decode cX9_fits 0 = .ok (.aload_n 0, 1) := by decide +kernel
theorem dX9_fits_1 : decode cX9_fits 1 = .ok (.iload_n 1, 1) := by decide +kernel
theorem dX9_fits_2 : decode cX9_fits 2 = .ok (.invokevirtual 141, 3) := by decide +kernel
theorem dX9_fits_5 : decode cX9_fits 5 = .ok (.ifCond .eq 11, 3) := by decide +kernel
theorem dX9_fits_8 : decode cX9_fits 8 = .ok (.aload_n 0, 1) := by decide +kernel
theorem dX9_fits_9 : decode cX9_fits 9 = .ok (.iload_n 1, 1) := by decide +kernel
theorem dX9_fits_10 : decode cX9_fits 10 = .ok (.invokevirtual 160, 3) := by decide +kernel
theorem dX9_fits_13 : decode cX9_fits 13 = .ok (.goto 4, 3) := by decide +kernel
theorem dX9_fits_16 : decode cX9_fits 16 = .ok (.iconst (-1), 1) := by decide +kernel
theorem dX9_fits_17 : decode cX9_fits 17 = .ok (.ireturn, 1) := by decide +kernel
theorem dX9_mark_0 : decode cX9_mark 0 = .ok (.iload_n 1, 1) := by decide +kernel
theorem dX9_mark_1 : decode cX9_mark 1 = .ok (.iconst 0, 1) := by decide +kernel
theorem dX9_mark_2 : decode cX9_mark 2 = .ok (.iconst 5, 1) := by decide +kernel
theorem dX9_mark_3 : decode cX9_mark 3 = .ok (.invokestatic 72, 3) := by decide +kernel
theorem dX9_mark_6 : decode cX9_mark 6 = .ok (.ifCond .eq 11, 3) := by decide +kernel
theorem dX9_mark_9 : decode cX9_mark 9 = .ok (.aload_n 0, 1) := by decide +kernel
theorem dX9_mark_10 : decode cX9_mark 10 = .ok (.iload_n 2, 1) := by decide +kernel
theorem dX9_mark_11 : decode cX9_mark 11 = .ok (.invokevirtual 141, 3) := by decide +kernel
theorem dX9_mark_14 : decode cX9_mark 14 = .ok (.ifCond .ne 6, 3) := by decide +kernel
theorem dX9_mark_17 : decode cX9_mark 17 = .ok (.ldc 181, 2) := by decide +kernel
theorem dX9_mark_19 : decode cX9_mark 19 = .ok (.ireturn, 1) := by decide +kernel
theorem dX9_mark_20 : decode cX9_mark 20 = .ok (.aload_n 0, 1) := by decide +kernel
theorem dX9_mark_21 : decode cX9_mark 21 = .ok (.iload_n 2, 1) := by decide +kernel
theorem dX9_mark_22 : decode cX9_mark 22 = .ok (.invokevirtual 124, 3) := by decide +kernel
theorem dX9_mark_25 : decode cX9_mark 25 = .ok (.aload_n 0, 1) := by decide +kernel
theorem dX9_mark_26 : decode cX9_mark 26 = .ok (.iload_n 2, 1) := by decide +kernel
theorem dX9_mark_27 : decode cX9_mark 27 = .ok (.aload_n 0, 1) := by decide +kernel
theorem dX9_mark_28 : decode cX9_mark 28 = .ok (.getfield 44, 3) := by decide +kernel
theorem dX9_mark_31 : decode cX9_mark 31 = .ok (.bipush 15, 2) := by decide +kernel
theorem dX9_mark_33 : decode cX9_mark 33 = .ok (.iaload, 1) := by decide +kernel
theorem dX9_mark_34 : decode cX9_mark 34 = .ok (.invokevirtual 131, 3) := by decide +kernel
theorem dX9_mark_37 : decode cX9_mark 37 = .ok (.invokestatic 157, 3) := by decide +kernel
theorem dX9_mark_40 : decode cX9_mark 40 = .ok (.iadd, 1) := by decide +kernel
theorem dX9_mark_41 : decode cX9_mark 41 = .ok (.istore_n 3, 1) := by decide +kernel
theorem dX9_mark_42 : decode cX9_mark 42 = .ok (.iload_n 1, 1) := by decide +kernel
theorem dX9_mark_43 : decode cX9_mark 43 = .ok (.tableswitch 129 0 4 #[33, 49, 63, 83, 99], 33) := by decide +kernel
theorem dX9_mark_76 : decode cX9_mark 76 = .ok (.aload_n 0, 1) := by decide +kernel
theorem dX9_mark_77 : decode cX9_mark 77 = .ok (.dup, 1) := by decide +kernel
theorem dX9_mark_78 : decode cX9_mark 78 = .ok (.getfield 182, 3) := by decide +kernel
theorem dX9_mark_81 : decode cX9_mark 81 = .ok (.lconst 1, 1) := by decide +kernel
theorem dX9_mark_82 : decode cX9_mark 82 = .ok (.ladd, 1) := by decide +kernel
theorem dX9_mark_83 : decode cX9_mark 83 = .ok (.putfield 182, 3) := by decide +kernel
theorem dX9_mark_86 : decode cX9_mark 86 = .ok (.aload_n 0, 1) := by decide +kernel
theorem dX9_mark_87 : decode cX9_mark 87 = .ok (.iload_n 2, 1) := by decide +kernel
theorem dX9_mark_88 : decode cX9_mark 88 = .ok (.invokevirtual 124, 3) := by decide +kernel
theorem dX9_mark_91 : decode cX9_mark 91 = .ok (.ireturn, 1) := by decide +kernel
theorem dX9_mark_92 : decode cX9_mark 92 = .ok (.aload_n 0, 1) := by decide +kernel
theorem dX9_mark_93 : decode cX9_mark 93 = .ok (.dup, 1) := by decide +kernel
theorem dX9_mark_94 : decode cX9_mark 94 = .ok (.getfield 182, 3) := by decide +kernel
theorem dX9_mark_97 : decode cX9_mark 97 = .ok (.ldc2_w 186, 3) := by decide +kernel
theorem dX9_mark_100 : decode cX9_mark 100 = .ok (.ladd, 1) := by decide +kernel
theorem dX9_mark_101 : decode cX9_mark 101 = .ok (.putfield 182, 3) := by decide +kernel
theorem dX9_mark_104 : decode cX9_mark 104 = .ok (.iload_n 3, 1) := by decide +kernel
theorem dX9_mark_105 : decode cX9_mark 105 = .ok (.ireturn, 1) := by decide +kernel
theorem dX9_mark_106 : decode cX9_mark 106 = .ok (.aload_n 0, 1) := by decide +kernel
theorem dX9_mark_107 : decode cX9_mark 107 = .ok (.dup, 1) := by decide +kernel
theorem dX9_mark_108 : decode cX9_mark 108 = .ok (.getfield 182, 3) := by decide +kernel
theorem dX9_mark_111 : decode cX9_mark 111 = .ok (.ldc2_w 188, 3) := by decide +kernel
theorem dX9_mark_114 : decode cX9_mark 114 = .ok (.ladd, 1) := by decide +kernel
theorem dX9_mark_115 : decode cX9_mark 115 = .ok (.putfield 182, 3) := by decide +kernel
theorem dX9_mark_118 : decode cX9_mark 118 = .ok (.aload_n 0, 1) := by decide +kernel
theorem dX9_mark_119 : decode cX9_mark 119 = .ok (.iload_n 2, 1) := by decide +kernel
theorem dX9_mark_120 : decode cX9_mark 120 = .ok (.invokevirtual 124, 3) := by decide +kernel
theorem dX9_mark_123 : decode cX9_mark 123 = .ok (.iload_n 2, 1) := by decide +kernel
theorem dX9_mark_124 : decode cX9_mark 124 = .ok (.isub, 1) := by decide +kernel
theorem dX9_mark_125 : decode cX9_mark 125 = .ok (.ireturn, 1) := by decide +kernel
theorem dX9_mark_126 : decode cX9_mark 126 = .ok (.aload_n 0, 1) := by decide +kernel
theorem dX9_mark_127 : decode cX9_mark 127 = .ok (.dup, 1) := by decide +kernel
theorem dX9_mark_128 : decode cX9_mark 128 = .ok (.getfield 182, 3) := by decide +kernel
theorem dX9_mark_131 : decode cX9_mark 131 = .ok (.ldc2_w 190, 3) := by decide +kernel
theorem dX9_mark_134 : decode cX9_mark 134 = .ok (.ladd, 1) := by decide +kernel
theorem dX9_mark_135 : decode cX9_mark 135 = .ok (.putfield 182, 3) := by decide +kernel
theorem dX9_mark_138 : decode cX9_mark 138 = .ok (.iconst 2, 1) := by decide +kernel
theorem dX9_mark_139 : decode cX9_mark 139 = .ok (.iload_n 3, 1) := by decide +kernel
theorem dX9_mark_140 : decode cX9_mark 140 = .ok (.imul, 1) := by decide +kernel
theorem dX9_mark_141 : decode cX9_mark 141 = .ok (.ireturn, 1) := by decide +kernel
theorem dX9_mark_142 : decode cX9_mark 142 = .ok (.aload_n 0, 1) := by decide +kernel
theorem dX9_mark_143 : decode cX9_mark 143 = .ok (.dup, 1) := by decide +kernel
theorem dX9_mark_144 : decode cX9_mark 144 = .ok (.getfield 182, 3) := by decide +kernel
theorem dX9_mark_147 : decode cX9_mark 147 = .ok (.ldc2_w 192, 3) := by decide +kernel
theorem dX9_mark_150 : decode cX9_mark 150 = .ok (.ladd, 1) := by decide +kernel
theorem dX9_mark_151 : decode cX9_mark 151 = .ok (.putfield 182, 3) := by decide +kernel
theorem dX9_mark_154 : decode cX9_mark 154 = .ok (.aload_n 0, 1) := by decide +kernel
theorem dX9_mark_155 : decode cX9_mark 155 = .ok (.iload_n 2, 1) := by decide +kernel
theorem dX9_mark_156 : decode cX9_mark 156 = .ok (.invokevirtual 124, 3) := by decide +kernel
theorem dX9_mark_159 : decode cX9_mark 159 = .ok (.iload_n 2, 1) := by decide +kernel
theorem dX9_mark_160 : decode cX9_mark 160 = .ok (.isub, 1) := by decide +kernel
theorem dX9_mark_161 : decode cX9_mark 161 = .ok (.aload_n 0, 1) := by decide +kernel
theorem dX9_mark_162 : decode cX9_mark 162 = .ok (.getfield 44, 3) := by decide +kernel
theorem dX9_mark_165 : decode cX9_mark 165 = .ok (.bipush 10, 2) := by decide +kernel
theorem dX9_mark_167 : decode cX9_mark 167 = .ok (.iload_n 2, 1) := by decide +kernel
theorem dX9_mark_168 : decode cX9_mark 168 = .ok (.iadd, 1) := by decide +kernel
theorem dX9_mark_169 : decode cX9_mark 169 = .ok (.iaload, 1) := by decide +kernel
theorem dX9_mark_170 : decode cX9_mark 170 = .ok (.iadd, 1) := by decide +kernel
theorem dX9_mark_171 : decode cX9_mark 171 = .ok (.ireturn, 1) := by decide +kernel
theorem dX9_mark_172 : decode cX9_mark 172 = .ok (.aload_n 0, 1) := by decide +kernel
theorem dX9_mark_173 : decode cX9_mark 173 = .ok (.dup, 1) := by decide +kernel
theorem dX9_mark_174 : decode cX9_mark 174 = .ok (.getfield 182, 3) := by decide +kernel
theorem dX9_mark_177 : decode cX9_mark 177 = .ok (.ldc2_w 194, 3) := by decide +kernel
theorem dX9_mark_180 : decode cX9_mark 180 = .ok (.ladd, 1) := by decide +kernel
theorem dX9_mark_181 : decode cX9_mark 181 = .ok (.putfield 182, 3) := by decide +kernel
theorem dX9_mark_184 : decode cX9_mark 184 = .ok (.aload_n 0, 1) := by decide +kernel
theorem dX9_mark_185 : decode cX9_mark 185 = .ok (.iload_n 2, 1) := by decide +kernel
theorem dX9_mark_186 : decode cX9_mark 186 = .ok (.invokevirtual 124, 3) := by decide +kernel
theorem dX9_mark_189 : decode cX9_mark 189 = .ok (.aload_n 0, 1) := by decide +kernel
theorem dX9_mark_190 : decode cX9_mark 190 = .ok (.getfield 44, 3) := by decide +kernel
theorem dX9_mark_193 : decode cX9_mark 193 = .ok (.bipush 15, 2) := by decide +kernel
theorem dX9_mark_195 : decode cX9_mark 195 = .ok (.iaload, 1) := by decide +kernel
theorem dX9_mark_196 : decode cX9_mark 196 = .ok (.invokestatic 157, 3) := by decide +kernel
theorem dX9_mark_199 : decode cX9_mark 199 = .ok (.iadd, 1) := by decide +kernel
theorem dX9_mark_200 : decode cX9_mark 200 = .ok (.ireturn, 1) := by decide +kernel
theorem dX9_keep_0 : decode cX9_keep 0 = .ok (.iload_n 1, 1) := by decide +kernel
theorem dX9_keep_1 : decode cX9_keep 1 = .ok (.iconst 0, 1) := by decide +kernel
theorem dX9_keep_2 : decode cX9_keep 2 = .ok (.iconst 1, 1) := by decide +kernel
theorem dX9_keep_3 : decode cX9_keep 3 = .ok (.invokestatic 72, 3) := by decide +kernel
theorem dX9_keep_6 : decode cX9_keep 6 = .ok (.ifCond .ne 5, 3) := by decide +kernel
theorem dX9_keep_9 : decode cX9_keep 9 = .ok (.iconst (-1), 1) := by decide +kernel
theorem dX9_keep_10 : decode cX9_keep 10 = .ok (.ireturn, 1) := by decide +kernel
theorem dX9_keep_11 : decode cX9_keep 11 = .ok (.iconst 0, 1) := by decide +kernel
theorem dX9_keep_12 : decode cX9_keep 12 = .ok (.istore_n 2, 1) := by decide +kernel
theorem dX9_keep_13 : decode cX9_keep 13 = .ok (.iload_n 2, 1) := by decide +kernel
theorem dX9_keep_14 : decode cX9_keep 14 = .ok (.sipush 177, 3) := by decide +kernel
theorem dX9_keep_17 : decode cX9_keep 17 = .ok (.if_icmp .ge 29, 3) := by decide +kernel
theorem dX9_keep_20 : decode cX9_keep 20 = .ok (.aload_n 0, 1) := by decide +kernel
theorem dX9_keep_21 : decode cX9_keep 21 = .ok (.getfield 44, 3) := by decide +kernel
theorem dX9_keep_24 : decode cX9_keep 24 = .ok (.sipush 177, 3) := by decide +kernel
theorem dX9_keep_27 : decode cX9_keep 27 = .ok (.iconst 1, 1) := by decide +kernel
theorem dX9_keep_28 : decode cX9_keep 28 = .ok (.iload_n 1, 1) := by decide +kernel
theorem dX9_keep_29 : decode cX9_keep 29 = .ok (.iadd, 1) := by decide +kernel
theorem dX9_keep_30 : decode cX9_keep 30 = .ok (.imul, 1) := by decide +kernel
theorem dX9_keep_31 : decode cX9_keep 31 = .ok (.iload_n 2, 1) := by decide +kernel
theorem dX9_keep_32 : decode cX9_keep 32 = .ok (.iadd, 1) := by decide +kernel
theorem dX9_keep_33 : decode cX9_keep 33 = .ok (.aload_n 0, 1) := by decide +kernel
theorem dX9_keep_34 : decode cX9_keep 34 = .ok (.getfield 44, 3) := by decide +kernel
theorem dX9_keep_37 : decode cX9_keep 37 = .ok (.iload_n 2, 1) := by decide +kernel
theorem dX9_keep_38 : decode cX9_keep 38 = .ok (.iaload, 1) := by decide +kernel
theorem dX9_keep_39 : decode cX9_keep 39 = .ok (.iastore, 1) := by decide +kernel
theorem dX9_keep_40 : decode cX9_keep 40 = .ok (.iinc 2 1, 3) := by decide +kernel
theorem dX9_keep_43 : decode cX9_keep 43 = .ok (.goto (-30), 3) := by decide +kernel
theorem dX9_keep_46 : decode cX9_keep 46 = .ok (.aload_n 0, 1) := by decide +kernel
theorem dX9_keep_47 : decode cX9_keep 47 = .ok (.getfield 47, 3) := by decide +kernel
theorem dX9_keep_50 : decode cX9_keep 50 = .ok (.iload_n 1, 1) := by decide +kernel
theorem dX9_keep_51 : decode cX9_keep 51 = .ok (.iconst 1, 1) := by decide +kernel
theorem dX9_keep_52 : decode cX9_keep 52 = .ok (.bastore, 1) := by decide +kernel
theorem dX9_keep_53 : decode cX9_keep 53 = .ok (.aload_n 0, 1) := by decide +kernel
theorem dX9_keep_54 : decode cX9_keep 54 = .ok (.getfield 44, 3) := by decide +kernel
theorem dX9_keep_57 : decode cX9_keep 57 = .ok (.bipush 15, 2) := by decide +kernel
theorem dX9_keep_59 : decode cX9_keep 59 = .ok (.iaload, 1) := by decide +kernel
theorem dX9_keep_60 : decode cX9_keep 60 = .ok (.invokestatic 157, 3) := by decide +kernel
theorem dX9_keep_63 : decode cX9_keep 63 = .ok (.ireturn, 1) := by decide +kernel
theorem dX9_back_0 : decode cX9_back 0 = .ok (.iload_n 1, 1) := by decide +kernel
theorem dX9_back_1 : decode cX9_back 1 = .ok (.iconst 0, 1) := by decide +kernel
theorem dX9_back_2 : decode cX9_back 2 = .ok (.iconst 1, 1) := by decide +kernel
theorem dX9_back_3 : decode cX9_back 3 = .ok (.invokestatic 72, 3) := by decide +kernel
theorem dX9_back_6 : decode cX9_back 6 = .ok (.ifCond .ne 5, 3) := by decide +kernel
theorem dX9_back_9 : decode cX9_back 9 = .ok (.iconst (-1), 1) := by decide +kernel
theorem dX9_back_10 : decode cX9_back 10 = .ok (.ireturn, 1) := by decide +kernel
theorem dX9_back_11 : decode cX9_back 11 = .ok (.aload_n 0, 1) := by decide +kernel
theorem dX9_back_12 : decode cX9_back 12 = .ok (.getfield 47, 3) := by decide +kernel
theorem dX9_back_15 : decode cX9_back 15 = .ok (.iload_n 1, 1) := by decide +kernel
theorem dX9_back_16 : decode cX9_back 16 = .ok (.baload, 1) := by decide +kernel
theorem dX9_back_17 : decode cX9_back 17 = .ok (.ifCond .ne 6, 3) := by decide +kernel
theorem dX9_back_20 : decode cX9_back 20 = .ok (.bipush (-2), 2) := by decide +kernel
theorem dX9_back_22 : decode cX9_back 22 = .ok (.ireturn, 1) := by decide +kernel
theorem dX9_back_23 : decode cX9_back 23 = .ok (.iconst 0, 1) := by decide +kernel
theorem dX9_back_24 : decode cX9_back 24 = .ok (.istore_n 2, 1) := by decide +kernel
theorem dX9_back_25 : decode cX9_back 25 = .ok (.iload_n 2, 1) := by decide +kernel
theorem dX9_back_26 : decode cX9_back 26 = .ok (.sipush 177, 3) := by decide +kernel
theorem dX9_back_29 : decode cX9_back 29 = .ok (.if_icmp .ge 29, 3) := by decide +kernel
theorem dX9_back_32 : decode cX9_back 32 = .ok (.aload_n 0, 1) := by decide +kernel
theorem dX9_back_33 : decode cX9_back 33 = .ok (.getfield 44, 3) := by decide +kernel
theorem dX9_back_36 : decode cX9_back 36 = .ok (.iload_n 2, 1) := by decide +kernel
theorem dX9_back_37 : decode cX9_back 37 = .ok (.aload_n 0, 1) := by decide +kernel
theorem dX9_back_38 : decode cX9_back 38 = .ok (.getfield 44, 3) := by decide +kernel
theorem dX9_back_41 : decode cX9_back 41 = .ok (.sipush 177, 3) := by decide +kernel
theorem dX9_back_44 : decode cX9_back 44 = .ok (.iconst 1, 1) := by decide +kernel
theorem dX9_back_45 : decode cX9_back 45 = .ok (.iload_n 1, 1) := by decide +kernel
theorem dX9_back_46 : decode cX9_back 46 = .ok (.iadd, 1) := by decide +kernel
theorem dX9_back_47 : decode cX9_back 47 = .ok (.imul, 1) := by decide +kernel
theorem dX9_back_48 : decode cX9_back 48 = .ok (.iload_n 2, 1) := by decide +kernel
theorem dX9_back_49 : decode cX9_back 49 = .ok (.iadd, 1) := by decide +kernel
theorem dX9_back_50 : decode cX9_back 50 = .ok (.iaload, 1) := by decide +kernel
theorem dX9_back_51 : decode cX9_back 51 = .ok (.iastore, 1) := by decide +kernel
theorem dX9_back_52 : decode cX9_back 52 = .ok (.iinc 2 1, 3) := by decide +kernel
theorem dX9_back_55 : decode cX9_back 55 = .ok (.goto (-30), 3) := by decide +kernel
theorem dX9_back_58 : decode cX9_back 58 = .ok (.aload_n 0, 1) := by decide +kernel
theorem dX9_back_59 : decode cX9_back 59 = .ok (.getfield 44, 3) := by decide +kernel
theorem dX9_back_62 : decode cX9_back 62 = .ok (.bipush 15, 2) := by decide +kernel
theorem dX9_back_64 : decode cX9_back 64 = .ok (.iaload, 1) := by decide +kernel
theorem dX9_back_65 : decode cX9_back 65 = .ok (.invokestatic 157, 3) := by decide +kernel
theorem dX9_back_68 : decode cX9_back 68 = .ok (.ireturn, 1) := by decide +kernel
theorem dX9_count_0 : decode cX9_count 0 = .ok (.iload_n 1, 1) := by decide +kernel
theorem dX9_count_1 : decode cX9_count 1 = .ok (.tableswitch 100 0 7 #[47, 54, 61, 68, 75, 82, 87, 95], 47) := by decide +kernel
theorem dX9_count_48 : decode cX9_count 48 = .ok (.aload_n 0, 1) := by decide +kernel
theorem dX9_count_49 : decode cX9_count 49 = .ok (.getfield 13, 3) := by decide +kernel
theorem dX9_count_52 : decode cX9_count 52 = .ok (.iconst 0, 1) := by decide +kernel
theorem dX9_count_53 : decode cX9_count 53 = .ok (.iaload, 1) := by decide +kernel
theorem dX9_count_54 : decode cX9_count 54 = .ok (.ireturn, 1) := by decide +kernel
theorem dX9_count_55 : decode cX9_count 55 = .ok (.aload_n 0, 1) := by decide +kernel
theorem dX9_count_56 : decode cX9_count 56 = .ok (.getfield 17, 3) := by decide +kernel
theorem dX9_count_59 : decode cX9_count 59 = .ok (.iconst 0, 1) := by decide +kernel
theorem dX9_count_60 : decode cX9_count 60 = .ok (.iaload, 1) := by decide +kernel
theorem dX9_count_61 : decode cX9_count 61 = .ok (.ireturn, 1) := by decide +kernel
theorem dX9_count_62 : decode cX9_count 62 = .ok (.aload_n 0, 1) := by decide +kernel
theorem dX9_count_63 : decode cX9_count 63 = .ok (.getfield 29, 3) := by decide +kernel
theorem dX9_count_66 : decode cX9_count 66 = .ok (.iconst 0, 1) := by decide +kernel
theorem dX9_count_67 : decode cX9_count 67 = .ok (.iaload, 1) := by decide +kernel
theorem dX9_count_68 : decode cX9_count 68 = .ok (.ireturn, 1) := by decide +kernel
theorem dX9_count_69 : decode cX9_count 69 = .ok (.aload_n 0, 1) := by decide +kernel
theorem dX9_count_70 : decode cX9_count 70 = .ok (.getfield 38, 3) := by decide +kernel
theorem dX9_count_73 : decode cX9_count 73 = .ok (.iconst 0, 1) := by decide +kernel
theorem dX9_count_74 : decode cX9_count 74 = .ok (.iaload, 1) := by decide +kernel
theorem dX9_count_75 : decode cX9_count 75 = .ok (.ireturn, 1) := by decide +kernel
theorem dX9_count_76 : decode cX9_count 76 = .ok (.aload_n 0, 1) := by decide +kernel
theorem dX9_count_77 : decode cX9_count 77 = .ok (.getfield 41, 3) := by decide +kernel
theorem dX9_count_80 : decode cX9_count 80 = .ok (.iconst 0, 1) := by decide +kernel
theorem dX9_count_81 : decode cX9_count 81 = .ok (.iaload, 1) := by decide +kernel
theorem dX9_count_82 : decode cX9_count 82 = .ok (.ireturn, 1) := by decide +kernel
theorem dX9_count_83 : decode cX9_count 83 = .ok (.aload_n 0, 1) := by decide +kernel
theorem dX9_count_84 : decode cX9_count 84 = .ok (.getfield 113, 3) := by decide +kernel
theorem dX9_count_87 : decode cX9_count 87 = .ok (.ireturn, 1) := by decide +kernel
theorem dX9_count_88 : decode cX9_count 88 = .ok (.aload_n 0, 1) := by decide +kernel
theorem dX9_count_89 : decode cX9_count 89 = .ok (.getfield 44, 3) := by decide +kernel
theorem dX9_count_92 : decode cX9_count 92 = .ok (.bipush 16, 2) := by decide +kernel
theorem dX9_count_94 : decode cX9_count 94 = .ok (.iaload, 1) := by decide +kernel
theorem dX9_count_95 : decode cX9_count 95 = .ok (.ireturn, 1) := by decide +kernel
theorem dX9_count_96 : decode cX9_count 96 = .ok (.aload_n 0, 1) := by decide +kernel
theorem dX9_count_97 : decode cX9_count 97 = .ok (.getfield 76, 3) := by decide +kernel
theorem dX9_count_100 : decode cX9_count 100 = .ok (.ireturn, 1) := by decide +kernel
theorem dX9_count_101 : decode cX9_count 101 = .ok (.iconst (-1), 1) := by decide +kernel
theorem dX9_count_102 : decode cX9_count 102 = .ok (.ireturn, 1) := by decide +kernel
theorem dX9_trace_0 : decode cX9_trace 0 = .ok (.aload_n 0, 1) := by decide +kernel
theorem dX9_trace_1 : decode cX9_trace 1 = .ok (.getfield 182, 3) := by decide +kernel
theorem dX9_trace_4 : decode cX9_trace 4 = .ok (.lreturn, 1) := by decide +kernel
theorem dL_law_0 : decode cL_law 0 = .ok (.new 7, 3) := by decide +kernel
theorem dL_law_3 : decode cL_law 3 = .ok (.dup, 1) := by decide +kernel
theorem dL_law_4 : decode cL_law 4 = .ok (.invokespecial 9, 3) := by decide +kernel
theorem dL_law_7 : decode cL_law 7 = .ok (.astore_n 1, 1) := by decide +kernel
theorem dL_law_8 : decode cL_law 8 = .ok (.new 10, 3) := by decide +kernel
theorem dL_law_11 : decode cL_law 11 = .ok (.dup, 1) := by decide +kernel
theorem dL_law_12 : decode cL_law 12 = .ok (.invokespecial 12, 3) := by decide +kernel
theorem dL_law_15 : decode cL_law 15 = .ok (.astore_n 2, 1) := by decide +kernel
theorem dL_law_16 : decode cL_law 16 = .ok (.iconst 0, 1) := by decide +kernel
theorem dL_law_17 : decode cL_law 17 = .ok (.istore_n 3, 1) := by decide +kernel
theorem dL_law_18 : decode cL_law 18 = .ok (.iload_n 3, 1) := by decide +kernel
theorem dL_law_19 : decode cL_law 19 = .ok (.aload_n 0, 1) := by decide +kernel
theorem dL_law_20 : decode cL_law 20 = .ok (.arraylength, 1) := by decide +kernel
theorem dL_law_21 : decode cL_law 21 = .ok (.iconst 5, 1) := by decide +kernel
theorem dL_law_22 : decode cL_law 22 = .ok (.isub, 1) := by decide +kernel
theorem dL_law_23 : decode cL_law 23 = .ok (.if_icmp .gt 938, 3) := by decide +kernel
theorem dL_law_26 : decode cL_law 26 = .ok (.aload_n 0, 1) := by decide +kernel
theorem dL_law_27 : decode cL_law 27 = .ok (.iload_n 3, 1) := by decide +kernel
theorem dL_law_28 : decode cL_law 28 = .ok (.iaload, 1) := by decide +kernel
theorem dL_law_29 : decode cL_law 29 = .ok (.bipush 31, 2) := by decide +kernel
theorem dL_law_31 : decode cL_law 31 = .ok (.iand, 1) := by decide +kernel
theorem dL_law_32 : decode cL_law 32 = .ok (.tableswitch 923 0 27 #[128, 151, 164, 177, 210, 243, 276, 319, 352, 385, 418, 431, 454, 497, 530, 563, 616, 659, 692, 715, 738, 771, 784, 807, 840, 863, 886, 909], 128) := by decide +kernel
theorem dL_law_160 : decode cL_law 160 = .ok (.aload_n 1, 1) := by decide +kernel
theorem dL_law_161 : decode cL_law 161 = .ok (.aload_n 0, 1) := by decide +kernel
theorem dL_law_162 : decode cL_law 162 = .ok (.iload_n 3, 1) := by decide +kernel
theorem dL_law_163 : decode cL_law 163 = .ok (.iconst 1, 1) := by decide +kernel
theorem dL_law_164 : decode cL_law 164 = .ok (.iadd, 1) := by decide +kernel
theorem dL_law_165 : decode cL_law 165 = .ok (.iaload, 1) := by decide +kernel
theorem dL_law_166 : decode cL_law 166 = .ok (.invokevirtual 13, 3) := by decide +kernel
theorem dL_law_169 : decode cL_law 169 = .ok (.aload_n 2, 1) := by decide +kernel
theorem dL_law_170 : decode cL_law 170 = .ok (.aload_n 0, 1) := by decide +kernel
theorem dL_law_171 : decode cL_law 171 = .ok (.iload_n 3, 1) := by decide +kernel
theorem dL_law_172 : decode cL_law 172 = .ok (.iconst 1, 1) := by decide +kernel
theorem dL_law_173 : decode cL_law 173 = .ok (.iadd, 1) := by decide +kernel
theorem dL_law_174 : decode cL_law 174 = .ok (.iaload, 1) := by decide +kernel
theorem dL_law_175 : decode cL_law 175 = .ok (.invokevirtual 17, 3) := by decide +kernel
theorem dL_law_178 : decode cL_law 178 = .ok (.if_icmp .eq 777, 3) := by decide +kernel
theorem dL_law_181 : decode cL_law 181 = .ok (.iconst 0, 1) := by decide +kernel
theorem dL_law_182 : decode cL_law 182 = .ok (.ireturn, 1) := by decide +kernel
theorem dL_law_183 : decode cL_law 183 = .ok (.aload_n 1, 1) := by decide +kernel
theorem dL_law_184 : decode cL_law 184 = .ok (.invokevirtual 18, 3) := by decide +kernel
theorem dL_law_187 : decode cL_law 187 = .ok (.aload_n 2, 1) := by decide +kernel
theorem dL_law_188 : decode cL_law 188 = .ok (.invokevirtual 22, 3) := by decide +kernel
theorem dL_law_191 : decode cL_law 191 = .ok (.if_icmp .eq 764, 3) := by decide +kernel
theorem dL_law_194 : decode cL_law 194 = .ok (.iconst 0, 1) := by decide +kernel
theorem dL_law_195 : decode cL_law 195 = .ok (.ireturn, 1) := by decide +kernel
theorem dL_law_196 : decode cL_law 196 = .ok (.aload_n 1, 1) := by decide +kernel
theorem dL_law_197 : decode cL_law 197 = .ok (.invokevirtual 23, 3) := by decide +kernel
theorem dL_law_200 : decode cL_law 200 = .ok (.aload_n 2, 1) := by decide +kernel
theorem dL_law_201 : decode cL_law 201 = .ok (.invokevirtual 26, 3) := by decide +kernel
theorem dL_law_204 : decode cL_law 204 = .ok (.if_icmp .eq 751, 3) := by decide +kernel
theorem dL_law_207 : decode cL_law 207 = .ok (.iconst 0, 1) := by decide +kernel
theorem dL_law_208 : decode cL_law 208 = .ok (.ireturn, 1) := by decide +kernel
theorem dL_law_209 : decode cL_law 209 = .ok (.aload_n 1, 1) := by decide +kernel
theorem dL_law_210 : decode cL_law 210 = .ok (.aload_n 0, 1) := by decide +kernel
theorem dL_law_211 : decode cL_law 211 = .ok (.iload_n 3, 1) := by decide +kernel
theorem dL_law_212 : decode cL_law 212 = .ok (.iconst 1, 1) := by decide +kernel
theorem dL_law_213 : decode cL_law 213 = .ok (.iadd, 1) := by decide +kernel
theorem dL_law_214 : decode cL_law 214 = .ok (.iaload, 1) := by decide +kernel
theorem dL_law_215 : decode cL_law 215 = .ok (.aload_n 0, 1) := by decide +kernel
theorem dL_law_216 : decode cL_law 216 = .ok (.iload_n 3, 1) := by decide +kernel
theorem dL_law_217 : decode cL_law 217 = .ok (.iconst 2, 1) := by decide +kernel
theorem dL_law_218 : decode cL_law 218 = .ok (.iadd, 1) := by decide +kernel
theorem dL_law_219 : decode cL_law 219 = .ok (.iaload, 1) := by decide +kernel
theorem dL_law_220 : decode cL_law 220 = .ok (.invokevirtual 27, 3) := by decide +kernel
theorem dL_law_223 : decode cL_law 223 = .ok (.aload_n 2, 1) := by decide +kernel
theorem dL_law_224 : decode cL_law 224 = .ok (.aload_n 0, 1) := by decide +kernel
theorem dL_law_225 : decode cL_law 225 = .ok (.iload_n 3, 1) := by decide +kernel
theorem dL_law_226 : decode cL_law 226 = .ok (.iconst 1, 1) := by decide +kernel
theorem dL_law_227 : decode cL_law 227 = .ok (.iadd, 1) := by decide +kernel
theorem dL_law_228 : decode cL_law 228 = .ok (.iaload, 1) := by decide +kernel
theorem dL_law_229 : decode cL_law 229 = .ok (.aload_n 0, 1) := by decide +kernel
theorem dL_law_230 : decode cL_law 230 = .ok (.iload_n 3, 1) := by decide +kernel
theorem dL_law_231 : decode cL_law 231 = .ok (.iconst 2, 1) := by decide +kernel
theorem dL_law_232 : decode cL_law 232 = .ok (.iadd, 1) := by decide +kernel
theorem dL_law_233 : decode cL_law 233 = .ok (.iaload, 1) := by decide +kernel
theorem dL_law_234 : decode cL_law 234 = .ok (.invokevirtual 31, 3) := by decide +kernel
theorem dL_law_237 : decode cL_law 237 = .ok (.if_icmp .eq 718, 3) := by decide +kernel
theorem dL_law_240 : decode cL_law 240 = .ok (.iconst 0, 1) := by decide +kernel
theorem dL_law_241 : decode cL_law 241 = .ok (.ireturn, 1) := by decide +kernel
theorem dL_law_242 : decode cL_law 242 = .ok (.aload_n 1, 1) := by decide +kernel
theorem dL_law_243 : decode cL_law 243 = .ok (.aload_n 0, 1) := by decide +kernel
theorem dL_law_244 : decode cL_law 244 = .ok (.iload_n 3, 1) := by decide +kernel
theorem dL_law_245 : decode cL_law 245 = .ok (.iconst 1, 1) := by decide +kernel
theorem dL_law_246 : decode cL_law 246 = .ok (.iadd, 1) := by decide +kernel
theorem dL_law_247 : decode cL_law 247 = .ok (.iaload, 1) := by decide +kernel
theorem dL_law_248 : decode cL_law 248 = .ok (.aload_n 0, 1) := by decide +kernel
theorem dL_law_249 : decode cL_law 249 = .ok (.iload_n 3, 1) := by decide +kernel
theorem dL_law_250 : decode cL_law 250 = .ok (.iconst 2, 1) := by decide +kernel
theorem dL_law_251 : decode cL_law 251 = .ok (.iadd, 1) := by decide +kernel
theorem dL_law_252 : decode cL_law 252 = .ok (.iaload, 1) := by decide +kernel
theorem dL_law_253 : decode cL_law 253 = .ok (.invokevirtual 32, 3) := by decide +kernel
theorem dL_law_256 : decode cL_law 256 = .ok (.aload_n 2, 1) := by decide +kernel
theorem dL_law_257 : decode cL_law 257 = .ok (.aload_n 0, 1) := by decide +kernel
theorem dL_law_258 : decode cL_law 258 = .ok (.iload_n 3, 1) := by decide +kernel
theorem dL_law_259 : decode cL_law 259 = .ok (.iconst 1, 1) := by decide +kernel
theorem dL_law_260 : decode cL_law 260 = .ok (.iadd, 1) := by decide +kernel
theorem dL_law_261 : decode cL_law 261 = .ok (.iaload, 1) := by decide +kernel
theorem dL_law_262 : decode cL_law 262 = .ok (.aload_n 0, 1) := by decide +kernel
theorem dL_law_263 : decode cL_law 263 = .ok (.iload_n 3, 1) := by decide +kernel
theorem dL_law_264 : decode cL_law 264 = .ok (.iconst 2, 1) := by decide +kernel
theorem dL_law_265 : decode cL_law 265 = .ok (.iadd, 1) := by decide +kernel
theorem dL_law_266 : decode cL_law 266 = .ok (.iaload, 1) := by decide +kernel
theorem dL_law_267 : decode cL_law 267 = .ok (.invokevirtual 35, 3) := by decide +kernel
theorem dL_law_270 : decode cL_law 270 = .ok (.if_icmp .eq 685, 3) := by decide +kernel
theorem dL_law_273 : decode cL_law 273 = .ok (.iconst 0, 1) := by decide +kernel
theorem dL_law_274 : decode cL_law 274 = .ok (.ireturn, 1) := by decide +kernel
theorem dL_law_275 : decode cL_law 275 = .ok (.aload_n 1, 1) := by decide +kernel
theorem dL_law_276 : decode cL_law 276 = .ok (.aload_n 0, 1) := by decide +kernel
theorem dL_law_277 : decode cL_law 277 = .ok (.iload_n 3, 1) := by decide +kernel
theorem dL_law_278 : decode cL_law 278 = .ok (.iconst 1, 1) := by decide +kernel
theorem dL_law_279 : decode cL_law 279 = .ok (.iadd, 1) := by decide +kernel
theorem dL_law_280 : decode cL_law 280 = .ok (.iaload, 1) := by decide +kernel
theorem dL_law_281 : decode cL_law 281 = .ok (.aload_n 0, 1) := by decide +kernel
theorem dL_law_282 : decode cL_law 282 = .ok (.iload_n 3, 1) := by decide +kernel
theorem dL_law_283 : decode cL_law 283 = .ok (.iconst 2, 1) := by decide +kernel
theorem dL_law_284 : decode cL_law 284 = .ok (.iadd, 1) := by decide +kernel
theorem dL_law_285 : decode cL_law 285 = .ok (.iaload, 1) := by decide +kernel
theorem dL_law_286 : decode cL_law 286 = .ok (.invokevirtual 36, 3) := by decide +kernel
theorem dL_law_289 : decode cL_law 289 = .ok (.aload_n 2, 1) := by decide +kernel
theorem dL_law_290 : decode cL_law 290 = .ok (.aload_n 0, 1) := by decide +kernel
theorem dL_law_291 : decode cL_law 291 = .ok (.iload_n 3, 1) := by decide +kernel
theorem dL_law_292 : decode cL_law 292 = .ok (.iconst 1, 1) := by decide +kernel
theorem dL_law_293 : decode cL_law 293 = .ok (.iadd, 1) := by decide +kernel
theorem dL_law_294 : decode cL_law 294 = .ok (.iaload, 1) := by decide +kernel
theorem dL_law_295 : decode cL_law 295 = .ok (.aload_n 0, 1) := by decide +kernel
theorem dL_law_296 : decode cL_law 296 = .ok (.iload_n 3, 1) := by decide +kernel
theorem dL_law_297 : decode cL_law 297 = .ok (.iconst 2, 1) := by decide +kernel
theorem dL_law_298 : decode cL_law 298 = .ok (.iadd, 1) := by decide +kernel
theorem dL_law_299 : decode cL_law 299 = .ok (.iaload, 1) := by decide +kernel
theorem dL_law_300 : decode cL_law 300 = .ok (.invokevirtual 39, 3) := by decide +kernel
theorem dL_law_303 : decode cL_law 303 = .ok (.if_icmp .eq 652, 3) := by decide +kernel
theorem dL_law_306 : decode cL_law 306 = .ok (.iconst 0, 1) := by decide +kernel
theorem dL_law_307 : decode cL_law 307 = .ok (.ireturn, 1) := by decide +kernel
theorem dL_law_308 : decode cL_law 308 = .ok (.aload_n 1, 1) := by decide +kernel
theorem dL_law_309 : decode cL_law 309 = .ok (.aload_n 0, 1) := by decide +kernel
theorem dL_law_310 : decode cL_law 310 = .ok (.iload_n 3, 1) := by decide +kernel
theorem dL_law_311 : decode cL_law 311 = .ok (.iconst 1, 1) := by decide +kernel
theorem dL_law_312 : decode cL_law 312 = .ok (.iadd, 1) := by decide +kernel
theorem dL_law_313 : decode cL_law 313 = .ok (.iaload, 1) := by decide +kernel
theorem dL_law_314 : decode cL_law 314 = .ok (.aload_n 0, 1) := by decide +kernel
theorem dL_law_315 : decode cL_law 315 = .ok (.iload_n 3, 1) := by decide +kernel
theorem dL_law_316 : decode cL_law 316 = .ok (.iconst 2, 1) := by decide +kernel
theorem dL_law_317 : decode cL_law 317 = .ok (.iadd, 1) := by decide +kernel
theorem dL_law_318 : decode cL_law 318 = .ok (.iaload, 1) := by decide +kernel
theorem dL_law_319 : decode cL_law 319 = .ok (.aload_n 0, 1) := by decide +kernel
theorem dL_law_320 : decode cL_law 320 = .ok (.iload_n 3, 1) := by decide +kernel
theorem dL_law_321 : decode cL_law 321 = .ok (.iconst 3, 1) := by decide +kernel
theorem dL_law_322 : decode cL_law 322 = .ok (.iadd, 1) := by decide +kernel
theorem dL_law_323 : decode cL_law 323 = .ok (.iaload, 1) := by decide +kernel
theorem dL_law_324 : decode cL_law 324 = .ok (.invokevirtual 40, 3) := by decide +kernel
theorem dL_law_327 : decode cL_law 327 = .ok (.aload_n 2, 1) := by decide +kernel
theorem dL_law_328 : decode cL_law 328 = .ok (.aload_n 0, 1) := by decide +kernel
theorem dL_law_329 : decode cL_law 329 = .ok (.iload_n 3, 1) := by decide +kernel
theorem dL_law_330 : decode cL_law 330 = .ok (.iconst 1, 1) := by decide +kernel
theorem dL_law_331 : decode cL_law 331 = .ok (.iadd, 1) := by decide +kernel
theorem dL_law_332 : decode cL_law 332 = .ok (.iaload, 1) := by decide +kernel
theorem dL_law_333 : decode cL_law 333 = .ok (.aload_n 0, 1) := by decide +kernel
theorem dL_law_334 : decode cL_law 334 = .ok (.iload_n 3, 1) := by decide +kernel
theorem dL_law_335 : decode cL_law 335 = .ok (.iconst 2, 1) := by decide +kernel
theorem dL_law_336 : decode cL_law 336 = .ok (.iadd, 1) := by decide +kernel
theorem dL_law_337 : decode cL_law 337 = .ok (.iaload, 1) := by decide +kernel
theorem dL_law_338 : decode cL_law 338 = .ok (.aload_n 0, 1) := by decide +kernel
theorem dL_law_339 : decode cL_law 339 = .ok (.iload_n 3, 1) := by decide +kernel
theorem dL_law_340 : decode cL_law 340 = .ok (.iconst 3, 1) := by decide +kernel
theorem dL_law_341 : decode cL_law 341 = .ok (.iadd, 1) := by decide +kernel
theorem dL_law_342 : decode cL_law 342 = .ok (.iaload, 1) := by decide +kernel
theorem dL_law_343 : decode cL_law 343 = .ok (.invokevirtual 44, 3) := by decide +kernel
theorem dL_law_346 : decode cL_law 346 = .ok (.if_icmp .eq 609, 3) := by decide +kernel
theorem dL_law_349 : decode cL_law 349 = .ok (.iconst 0, 1) := by decide +kernel
theorem dL_law_350 : decode cL_law 350 = .ok (.ireturn, 1) := by decide +kernel
theorem dL_law_351 : decode cL_law 351 = .ok (.aload_n 1, 1) := by decide +kernel
theorem dL_law_352 : decode cL_law 352 = .ok (.aload_n 0, 1) := by decide +kernel
theorem dL_law_353 : decode cL_law 353 = .ok (.iload_n 3, 1) := by decide +kernel
theorem dL_law_354 : decode cL_law 354 = .ok (.iconst 1, 1) := by decide +kernel
theorem dL_law_355 : decode cL_law 355 = .ok (.iadd, 1) := by decide +kernel
theorem dL_law_356 : decode cL_law 356 = .ok (.iaload, 1) := by decide +kernel
theorem dL_law_357 : decode cL_law 357 = .ok (.aload_n 0, 1) := by decide +kernel
theorem dL_law_358 : decode cL_law 358 = .ok (.iload_n 3, 1) := by decide +kernel
theorem dL_law_359 : decode cL_law 359 = .ok (.iconst 2, 1) := by decide +kernel
theorem dL_law_360 : decode cL_law 360 = .ok (.iadd, 1) := by decide +kernel
theorem dL_law_361 : decode cL_law 361 = .ok (.iaload, 1) := by decide +kernel
theorem dL_law_362 : decode cL_law 362 = .ok (.invokevirtual 45, 3) := by decide +kernel
theorem dL_law_365 : decode cL_law 365 = .ok (.aload_n 2, 1) := by decide +kernel
theorem dL_law_366 : decode cL_law 366 = .ok (.aload_n 0, 1) := by decide +kernel
theorem dL_law_367 : decode cL_law 367 = .ok (.iload_n 3, 1) := by decide +kernel
theorem dL_law_368 : decode cL_law 368 = .ok (.iconst 1, 1) := by decide +kernel
theorem dL_law_369 : decode cL_law 369 = .ok (.iadd, 1) := by decide +kernel
theorem dL_law_370 : decode cL_law 370 = .ok (.iaload, 1) := by decide +kernel
theorem dL_law_371 : decode cL_law 371 = .ok (.aload_n 0, 1) := by decide +kernel
theorem dL_law_372 : decode cL_law 372 = .ok (.iload_n 3, 1) := by decide +kernel
theorem dL_law_373 : decode cL_law 373 = .ok (.iconst 2, 1) := by decide +kernel
theorem dL_law_374 : decode cL_law 374 = .ok (.iadd, 1) := by decide +kernel
theorem dL_law_375 : decode cL_law 375 = .ok (.iaload, 1) := by decide +kernel
theorem dL_law_376 : decode cL_law 376 = .ok (.invokevirtual 48, 3) := by decide +kernel
theorem dL_law_379 : decode cL_law 379 = .ok (.if_icmp .eq 576, 3) := by decide +kernel
theorem dL_law_382 : decode cL_law 382 = .ok (.iconst 0, 1) := by decide +kernel
theorem dL_law_383 : decode cL_law 383 = .ok (.ireturn, 1) := by decide +kernel
theorem dL_law_384 : decode cL_law 384 = .ok (.aload_n 1, 1) := by decide +kernel
theorem dL_law_385 : decode cL_law 385 = .ok (.aload_n 0, 1) := by decide +kernel
theorem dL_law_386 : decode cL_law 386 = .ok (.iload_n 3, 1) := by decide +kernel
theorem dL_law_387 : decode cL_law 387 = .ok (.iconst 1, 1) := by decide +kernel
theorem dL_law_388 : decode cL_law 388 = .ok (.iadd, 1) := by decide +kernel
theorem dL_law_389 : decode cL_law 389 = .ok (.iaload, 1) := by decide +kernel
theorem dL_law_390 : decode cL_law 390 = .ok (.aload_n 0, 1) := by decide +kernel
theorem dL_law_391 : decode cL_law 391 = .ok (.iload_n 3, 1) := by decide +kernel
theorem dL_law_392 : decode cL_law 392 = .ok (.iconst 2, 1) := by decide +kernel
theorem dL_law_393 : decode cL_law 393 = .ok (.iadd, 1) := by decide +kernel
theorem dL_law_394 : decode cL_law 394 = .ok (.iaload, 1) := by decide +kernel
theorem dL_law_395 : decode cL_law 395 = .ok (.invokevirtual 49, 3) := by decide +kernel
theorem dL_law_398 : decode cL_law 398 = .ok (.aload_n 2, 1) := by decide +kernel
theorem dL_law_399 : decode cL_law 399 = .ok (.aload_n 0, 1) := by decide +kernel
theorem dL_law_400 : decode cL_law 400 = .ok (.iload_n 3, 1) := by decide +kernel
theorem dL_law_401 : decode cL_law 401 = .ok (.iconst 1, 1) := by decide +kernel
theorem dL_law_402 : decode cL_law 402 = .ok (.iadd, 1) := by decide +kernel
theorem dL_law_403 : decode cL_law 403 = .ok (.iaload, 1) := by decide +kernel
theorem dL_law_404 : decode cL_law 404 = .ok (.aload_n 0, 1) := by decide +kernel
theorem dL_law_405 : decode cL_law 405 = .ok (.iload_n 3, 1) := by decide +kernel
theorem dL_law_406 : decode cL_law 406 = .ok (.iconst 2, 1) := by decide +kernel
theorem dL_law_407 : decode cL_law 407 = .ok (.iadd, 1) := by decide +kernel
theorem dL_law_408 : decode cL_law 408 = .ok (.iaload, 1) := by decide +kernel
theorem dL_law_409 : decode cL_law 409 = .ok (.invokevirtual 52, 3) := by decide +kernel
theorem dL_law_412 : decode cL_law 412 = .ok (.if_icmp .eq 543, 3) := by decide +kernel
theorem dL_law_415 : decode cL_law 415 = .ok (.iconst 0, 1) := by decide +kernel
theorem dL_law_416 : decode cL_law 416 = .ok (.ireturn, 1) := by decide +kernel
theorem dL_law_417 : decode cL_law 417 = .ok (.aload_n 1, 1) := by decide +kernel
theorem dL_law_418 : decode cL_law 418 = .ok (.aload_n 0, 1) := by decide +kernel
theorem dL_law_419 : decode cL_law 419 = .ok (.iload_n 3, 1) := by decide +kernel
theorem dL_law_420 : decode cL_law 420 = .ok (.iconst 1, 1) := by decide +kernel
theorem dL_law_421 : decode cL_law 421 = .ok (.iadd, 1) := by decide +kernel
theorem dL_law_422 : decode cL_law 422 = .ok (.iaload, 1) := by decide +kernel
theorem dL_law_423 : decode cL_law 423 = .ok (.aload_n 0, 1) := by decide +kernel
theorem dL_law_424 : decode cL_law 424 = .ok (.iload_n 3, 1) := by decide +kernel
theorem dL_law_425 : decode cL_law 425 = .ok (.iconst 2, 1) := by decide +kernel
theorem dL_law_426 : decode cL_law 426 = .ok (.iadd, 1) := by decide +kernel
theorem dL_law_427 : decode cL_law 427 = .ok (.iaload, 1) := by decide +kernel
theorem dL_law_428 : decode cL_law 428 = .ok (.invokevirtual 53, 3) := by decide +kernel
theorem dL_law_431 : decode cL_law 431 = .ok (.aload_n 2, 1) := by decide +kernel
theorem dL_law_432 : decode cL_law 432 = .ok (.aload_n 0, 1) := by decide +kernel
theorem dL_law_433 : decode cL_law 433 = .ok (.iload_n 3, 1) := by decide +kernel
theorem dL_law_434 : decode cL_law 434 = .ok (.iconst 1, 1) := by decide +kernel
theorem dL_law_435 : decode cL_law 435 = .ok (.iadd, 1) := by decide +kernel
theorem dL_law_436 : decode cL_law 436 = .ok (.iaload, 1) := by decide +kernel
theorem dL_law_437 : decode cL_law 437 = .ok (.aload_n 0, 1) := by decide +kernel
theorem dL_law_438 : decode cL_law 438 = .ok (.iload_n 3, 1) := by decide +kernel
theorem dL_law_439 : decode cL_law 439 = .ok (.iconst 2, 1) := by decide +kernel
theorem dL_law_440 : decode cL_law 440 = .ok (.iadd, 1) := by decide +kernel
theorem dL_law_441 : decode cL_law 441 = .ok (.iaload, 1) := by decide +kernel
theorem dL_law_442 : decode cL_law 442 = .ok (.invokevirtual 56, 3) := by decide +kernel
theorem dL_law_445 : decode cL_law 445 = .ok (.if_icmp .eq 510, 3) := by decide +kernel
theorem dL_law_448 : decode cL_law 448 = .ok (.iconst 0, 1) := by decide +kernel
theorem dL_law_449 : decode cL_law 449 = .ok (.ireturn, 1) := by decide +kernel
theorem dL_law_450 : decode cL_law 450 = .ok (.aload_n 1, 1) := by decide +kernel
theorem dL_law_451 : decode cL_law 451 = .ok (.invokevirtual 57, 3) := by decide +kernel
theorem dL_law_454 : decode cL_law 454 = .ok (.aload_n 2, 1) := by decide +kernel
theorem dL_law_455 : decode cL_law 455 = .ok (.invokevirtual 60, 3) := by decide +kernel
theorem dL_law_458 : decode cL_law 458 = .ok (.if_icmp .eq 497, 3) := by decide +kernel
theorem dL_law_461 : decode cL_law 461 = .ok (.iconst 0, 1) := by decide +kernel
theorem dL_law_462 : decode cL_law 462 = .ok (.ireturn, 1) := by decide +kernel
theorem dL_law_463 : decode cL_law 463 = .ok (.aload_n 1, 1) := by decide +kernel
theorem dL_law_464 : decode cL_law 464 = .ok (.aload_n 0, 1) := by decide +kernel
theorem dL_law_465 : decode cL_law 465 = .ok (.iload_n 3, 1) := by decide +kernel
theorem dL_law_466 : decode cL_law 466 = .ok (.iconst 1, 1) := by decide +kernel
theorem dL_law_467 : decode cL_law 467 = .ok (.iadd, 1) := by decide +kernel
theorem dL_law_468 : decode cL_law 468 = .ok (.iaload, 1) := by decide +kernel
theorem dL_law_469 : decode cL_law 469 = .ok (.invokevirtual 61, 3) := by decide +kernel
theorem dL_law_472 : decode cL_law 472 = .ok (.aload_n 2, 1) := by decide +kernel
theorem dL_law_473 : decode cL_law 473 = .ok (.aload_n 0, 1) := by decide +kernel
theorem dL_law_474 : decode cL_law 474 = .ok (.iload_n 3, 1) := by decide +kernel
theorem dL_law_475 : decode cL_law 475 = .ok (.iconst 1, 1) := by decide +kernel
theorem dL_law_476 : decode cL_law 476 = .ok (.iadd, 1) := by decide +kernel
theorem dL_law_477 : decode cL_law 477 = .ok (.iaload, 1) := by decide +kernel
theorem dL_law_478 : decode cL_law 478 = .ok (.invokevirtual 64, 3) := by decide +kernel
theorem dL_law_481 : decode cL_law 481 = .ok (.if_icmp .eq 474, 3) := by decide +kernel
theorem dL_law_484 : decode cL_law 484 = .ok (.iconst 0, 1) := by decide +kernel
theorem dL_law_485 : decode cL_law 485 = .ok (.ireturn, 1) := by decide +kernel
theorem dL_law_486 : decode cL_law 486 = .ok (.aload_n 1, 1) := by decide +kernel
theorem dL_law_487 : decode cL_law 487 = .ok (.aload_n 0, 1) := by decide +kernel
theorem dL_law_488 : decode cL_law 488 = .ok (.iload_n 3, 1) := by decide +kernel
theorem dL_law_489 : decode cL_law 489 = .ok (.iconst 1, 1) := by decide +kernel
theorem dL_law_490 : decode cL_law 490 = .ok (.iadd, 1) := by decide +kernel
theorem dL_law_491 : decode cL_law 491 = .ok (.iaload, 1) := by decide +kernel
theorem dL_law_492 : decode cL_law 492 = .ok (.aload_n 0, 1) := by decide +kernel
theorem dL_law_493 : decode cL_law 493 = .ok (.iload_n 3, 1) := by decide +kernel
theorem dL_law_494 : decode cL_law 494 = .ok (.iconst 2, 1) := by decide +kernel
theorem dL_law_495 : decode cL_law 495 = .ok (.iadd, 1) := by decide +kernel
theorem dL_law_496 : decode cL_law 496 = .ok (.iaload, 1) := by decide +kernel
theorem dL_law_497 : decode cL_law 497 = .ok (.aload_n 0, 1) := by decide +kernel
theorem dL_law_498 : decode cL_law 498 = .ok (.iload_n 3, 1) := by decide +kernel
theorem dL_law_499 : decode cL_law 499 = .ok (.iconst 3, 1) := by decide +kernel
theorem dL_law_500 : decode cL_law 500 = .ok (.iadd, 1) := by decide +kernel
theorem dL_law_501 : decode cL_law 501 = .ok (.iaload, 1) := by decide +kernel
theorem dL_law_502 : decode cL_law 502 = .ok (.invokevirtual 65, 3) := by decide +kernel
theorem dL_law_505 : decode cL_law 505 = .ok (.aload_n 2, 1) := by decide +kernel
theorem dL_law_506 : decode cL_law 506 = .ok (.aload_n 0, 1) := by decide +kernel
theorem dL_law_507 : decode cL_law 507 = .ok (.iload_n 3, 1) := by decide +kernel
theorem dL_law_508 : decode cL_law 508 = .ok (.iconst 1, 1) := by decide +kernel
theorem dL_law_509 : decode cL_law 509 = .ok (.iadd, 1) := by decide +kernel
theorem dL_law_510 : decode cL_law 510 = .ok (.iaload, 1) := by decide +kernel
theorem dL_law_511 : decode cL_law 511 = .ok (.aload_n 0, 1) := by decide +kernel
theorem dL_law_512 : decode cL_law 512 = .ok (.iload_n 3, 1) := by decide +kernel
theorem dL_law_513 : decode cL_law 513 = .ok (.iconst 2, 1) := by decide +kernel
theorem dL_law_514 : decode cL_law 514 = .ok (.iadd, 1) := by decide +kernel
theorem dL_law_515 : decode cL_law 515 = .ok (.iaload, 1) := by decide +kernel
theorem dL_law_516 : decode cL_law 516 = .ok (.aload_n 0, 1) := by decide +kernel
theorem dL_law_517 : decode cL_law 517 = .ok (.iload_n 3, 1) := by decide +kernel
theorem dL_law_518 : decode cL_law 518 = .ok (.iconst 3, 1) := by decide +kernel
theorem dL_law_519 : decode cL_law 519 = .ok (.iadd, 1) := by decide +kernel
theorem dL_law_520 : decode cL_law 520 = .ok (.iaload, 1) := by decide +kernel
theorem dL_law_521 : decode cL_law 521 = .ok (.invokevirtual 68, 3) := by decide +kernel
theorem dL_law_524 : decode cL_law 524 = .ok (.if_icmp .eq 431, 3) := by decide +kernel
theorem dL_law_527 : decode cL_law 527 = .ok (.iconst 0, 1) := by decide +kernel
theorem dL_law_528 : decode cL_law 528 = .ok (.ireturn, 1) := by decide +kernel
theorem dL_law_529 : decode cL_law 529 = .ok (.aload_n 1, 1) := by decide +kernel
theorem dL_law_530 : decode cL_law 530 = .ok (.aload_n 0, 1) := by decide +kernel
theorem dL_law_531 : decode cL_law 531 = .ok (.iload_n 3, 1) := by decide +kernel
theorem dL_law_532 : decode cL_law 532 = .ok (.iconst 1, 1) := by decide +kernel
theorem dL_law_533 : decode cL_law 533 = .ok (.iadd, 1) := by decide +kernel
theorem dL_law_534 : decode cL_law 534 = .ok (.iaload, 1) := by decide +kernel
theorem dL_law_535 : decode cL_law 535 = .ok (.aload_n 0, 1) := by decide +kernel
theorem dL_law_536 : decode cL_law 536 = .ok (.iload_n 3, 1) := by decide +kernel
theorem dL_law_537 : decode cL_law 537 = .ok (.iconst 2, 1) := by decide +kernel
theorem dL_law_538 : decode cL_law 538 = .ok (.iadd, 1) := by decide +kernel
theorem dL_law_539 : decode cL_law 539 = .ok (.iaload, 1) := by decide +kernel
theorem dL_law_540 : decode cL_law 540 = .ok (.invokevirtual 69, 3) := by decide +kernel
theorem dL_law_543 : decode cL_law 543 = .ok (.aload_n 2, 1) := by decide +kernel
theorem dL_law_544 : decode cL_law 544 = .ok (.aload_n 0, 1) := by decide +kernel
theorem dL_law_545 : decode cL_law 545 = .ok (.iload_n 3, 1) := by decide +kernel
theorem dL_law_546 : decode cL_law 546 = .ok (.iconst 1, 1) := by decide +kernel
theorem dL_law_547 : decode cL_law 547 = .ok (.iadd, 1) := by decide +kernel
theorem dL_law_548 : decode cL_law 548 = .ok (.iaload, 1) := by decide +kernel
theorem dL_law_549 : decode cL_law 549 = .ok (.aload_n 0, 1) := by decide +kernel
theorem dL_law_550 : decode cL_law 550 = .ok (.iload_n 3, 1) := by decide +kernel
theorem dL_law_551 : decode cL_law 551 = .ok (.iconst 2, 1) := by decide +kernel
theorem dL_law_552 : decode cL_law 552 = .ok (.iadd, 1) := by decide +kernel
theorem dL_law_553 : decode cL_law 553 = .ok (.iaload, 1) := by decide +kernel
theorem dL_law_554 : decode cL_law 554 = .ok (.invokevirtual 72, 3) := by decide +kernel
theorem dL_law_557 : decode cL_law 557 = .ok (.if_icmp .eq 398, 3) := by decide +kernel
theorem dL_law_560 : decode cL_law 560 = .ok (.iconst 0, 1) := by decide +kernel
theorem dL_law_561 : decode cL_law 561 = .ok (.ireturn, 1) := by decide +kernel
theorem dL_law_562 : decode cL_law 562 = .ok (.aload_n 1, 1) := by decide +kernel
theorem dL_law_563 : decode cL_law 563 = .ok (.aload_n 0, 1) := by decide +kernel
theorem dL_law_564 : decode cL_law 564 = .ok (.iload_n 3, 1) := by decide +kernel
theorem dL_law_565 : decode cL_law 565 = .ok (.iconst 1, 1) := by decide +kernel
theorem dL_law_566 : decode cL_law 566 = .ok (.iadd, 1) := by decide +kernel
theorem dL_law_567 : decode cL_law 567 = .ok (.iaload, 1) := by decide +kernel
theorem dL_law_568 : decode cL_law 568 = .ok (.aload_n 0, 1) := by decide +kernel
theorem dL_law_569 : decode cL_law 569 = .ok (.iload_n 3, 1) := by decide +kernel
theorem dL_law_570 : decode cL_law 570 = .ok (.iconst 2, 1) := by decide +kernel
theorem dL_law_571 : decode cL_law 571 = .ok (.iadd, 1) := by decide +kernel
theorem dL_law_572 : decode cL_law 572 = .ok (.iaload, 1) := by decide +kernel
theorem dL_law_573 : decode cL_law 573 = .ok (.invokevirtual 73, 3) := by decide +kernel
theorem dL_law_576 : decode cL_law 576 = .ok (.aload_n 2, 1) := by decide +kernel
theorem dL_law_577 : decode cL_law 577 = .ok (.aload_n 0, 1) := by decide +kernel
theorem dL_law_578 : decode cL_law 578 = .ok (.iload_n 3, 1) := by decide +kernel
theorem dL_law_579 : decode cL_law 579 = .ok (.iconst 1, 1) := by decide +kernel
theorem dL_law_580 : decode cL_law 580 = .ok (.iadd, 1) := by decide +kernel
theorem dL_law_581 : decode cL_law 581 = .ok (.iaload, 1) := by decide +kernel
theorem dL_law_582 : decode cL_law 582 = .ok (.aload_n 0, 1) := by decide +kernel
theorem dL_law_583 : decode cL_law 583 = .ok (.iload_n 3, 1) := by decide +kernel
theorem dL_law_584 : decode cL_law 584 = .ok (.iconst 2, 1) := by decide +kernel
theorem dL_law_585 : decode cL_law 585 = .ok (.iadd, 1) := by decide +kernel
theorem dL_law_586 : decode cL_law 586 = .ok (.iaload, 1) := by decide +kernel
theorem dL_law_587 : decode cL_law 587 = .ok (.invokevirtual 76, 3) := by decide +kernel
theorem dL_law_590 : decode cL_law 590 = .ok (.if_icmp .eq 365, 3) := by decide +kernel
theorem dL_law_593 : decode cL_law 593 = .ok (.iconst 0, 1) := by decide +kernel
theorem dL_law_594 : decode cL_law 594 = .ok (.ireturn, 1) := by decide +kernel
theorem dL_law_595 : decode cL_law 595 = .ok (.aload_n 1, 1) := by decide +kernel
theorem dL_law_596 : decode cL_law 596 = .ok (.aload_n 0, 1) := by decide +kernel
theorem dL_law_597 : decode cL_law 597 = .ok (.iload_n 3, 1) := by decide +kernel
theorem dL_law_598 : decode cL_law 598 = .ok (.iconst 1, 1) := by decide +kernel
theorem dL_law_599 : decode cL_law 599 = .ok (.iadd, 1) := by decide +kernel
theorem dL_law_600 : decode cL_law 600 = .ok (.iaload, 1) := by decide +kernel
theorem dL_law_601 : decode cL_law 601 = .ok (.aload_n 0, 1) := by decide +kernel
theorem dL_law_602 : decode cL_law 602 = .ok (.iload_n 3, 1) := by decide +kernel
theorem dL_law_603 : decode cL_law 603 = .ok (.iconst 2, 1) := by decide +kernel
theorem dL_law_604 : decode cL_law 604 = .ok (.iadd, 1) := by decide +kernel
theorem dL_law_605 : decode cL_law 605 = .ok (.iaload, 1) := by decide +kernel
theorem dL_law_606 : decode cL_law 606 = .ok (.aload_n 0, 1) := by decide +kernel
theorem dL_law_607 : decode cL_law 607 = .ok (.iload_n 3, 1) := by decide +kernel
theorem dL_law_608 : decode cL_law 608 = .ok (.iconst 3, 1) := by decide +kernel
theorem dL_law_609 : decode cL_law 609 = .ok (.iadd, 1) := by decide +kernel
theorem dL_law_610 : decode cL_law 610 = .ok (.iaload, 1) := by decide +kernel
theorem dL_law_611 : decode cL_law 611 = .ok (.aload_n 0, 1) := by decide +kernel
theorem dL_law_612 : decode cL_law 612 = .ok (.iload_n 3, 1) := by decide +kernel
theorem dL_law_613 : decode cL_law 613 = .ok (.iconst 4, 1) := by decide +kernel
theorem dL_law_614 : decode cL_law 614 = .ok (.iadd, 1) := by decide +kernel
theorem dL_law_615 : decode cL_law 615 = .ok (.iaload, 1) := by decide +kernel
theorem dL_law_616 : decode cL_law 616 = .ok (.invokevirtual 77, 3) := by decide +kernel
theorem dL_law_619 : decode cL_law 619 = .ok (.aload_n 2, 1) := by decide +kernel
theorem dL_law_620 : decode cL_law 620 = .ok (.aload_n 0, 1) := by decide +kernel
theorem dL_law_621 : decode cL_law 621 = .ok (.iload_n 3, 1) := by decide +kernel
theorem dL_law_622 : decode cL_law 622 = .ok (.iconst 1, 1) := by decide +kernel
theorem dL_law_623 : decode cL_law 623 = .ok (.iadd, 1) := by decide +kernel
theorem dL_law_624 : decode cL_law 624 = .ok (.iaload, 1) := by decide +kernel
theorem dL_law_625 : decode cL_law 625 = .ok (.aload_n 0, 1) := by decide +kernel
theorem dL_law_626 : decode cL_law 626 = .ok (.iload_n 3, 1) := by decide +kernel
theorem dL_law_627 : decode cL_law 627 = .ok (.iconst 2, 1) := by decide +kernel
theorem dL_law_628 : decode cL_law 628 = .ok (.iadd, 1) := by decide +kernel
theorem dL_law_629 : decode cL_law 629 = .ok (.iaload, 1) := by decide +kernel
theorem dL_law_630 : decode cL_law 630 = .ok (.aload_n 0, 1) := by decide +kernel
theorem dL_law_631 : decode cL_law 631 = .ok (.iload_n 3, 1) := by decide +kernel
theorem dL_law_632 : decode cL_law 632 = .ok (.iconst 3, 1) := by decide +kernel
theorem dL_law_633 : decode cL_law 633 = .ok (.iadd, 1) := by decide +kernel
theorem dL_law_634 : decode cL_law 634 = .ok (.iaload, 1) := by decide +kernel
theorem dL_law_635 : decode cL_law 635 = .ok (.aload_n 0, 1) := by decide +kernel
theorem dL_law_636 : decode cL_law 636 = .ok (.iload_n 3, 1) := by decide +kernel
theorem dL_law_637 : decode cL_law 637 = .ok (.iconst 4, 1) := by decide +kernel
theorem dL_law_638 : decode cL_law 638 = .ok (.iadd, 1) := by decide +kernel
theorem dL_law_639 : decode cL_law 639 = .ok (.iaload, 1) := by decide +kernel
theorem dL_law_640 : decode cL_law 640 = .ok (.invokevirtual 81, 3) := by decide +kernel
theorem dL_law_643 : decode cL_law 643 = .ok (.if_icmp .eq 312, 3) := by decide +kernel
theorem dL_law_646 : decode cL_law 646 = .ok (.iconst 0, 1) := by decide +kernel
theorem dL_law_647 : decode cL_law 647 = .ok (.ireturn, 1) := by decide +kernel
theorem dL_law_648 : decode cL_law 648 = .ok (.aload_n 1, 1) := by decide +kernel
theorem dL_law_649 : decode cL_law 649 = .ok (.aload_n 0, 1) := by decide +kernel
theorem dL_law_650 : decode cL_law 650 = .ok (.iload_n 3, 1) := by decide +kernel
theorem dL_law_651 : decode cL_law 651 = .ok (.iconst 1, 1) := by decide +kernel
theorem dL_law_652 : decode cL_law 652 = .ok (.iadd, 1) := by decide +kernel
theorem dL_law_653 : decode cL_law 653 = .ok (.iaload, 1) := by decide +kernel
theorem dL_law_654 : decode cL_law 654 = .ok (.aload_n 0, 1) := by decide +kernel
theorem dL_law_655 : decode cL_law 655 = .ok (.iload_n 3, 1) := by decide +kernel
theorem dL_law_656 : decode cL_law 656 = .ok (.iconst 2, 1) := by decide +kernel
theorem dL_law_657 : decode cL_law 657 = .ok (.iadd, 1) := by decide +kernel
theorem dL_law_658 : decode cL_law 658 = .ok (.iaload, 1) := by decide +kernel
theorem dL_law_659 : decode cL_law 659 = .ok (.aload_n 0, 1) := by decide +kernel
theorem dL_law_660 : decode cL_law 660 = .ok (.iload_n 3, 1) := by decide +kernel
theorem dL_law_661 : decode cL_law 661 = .ok (.iconst 3, 1) := by decide +kernel
theorem dL_law_662 : decode cL_law 662 = .ok (.iadd, 1) := by decide +kernel
theorem dL_law_663 : decode cL_law 663 = .ok (.iaload, 1) := by decide +kernel
theorem dL_law_664 : decode cL_law 664 = .ok (.invokevirtual 82, 3) := by decide +kernel
theorem dL_law_667 : decode cL_law 667 = .ok (.aload_n 2, 1) := by decide +kernel
theorem dL_law_668 : decode cL_law 668 = .ok (.aload_n 0, 1) := by decide +kernel
theorem dL_law_669 : decode cL_law 669 = .ok (.iload_n 3, 1) := by decide +kernel
theorem dL_law_670 : decode cL_law 670 = .ok (.iconst 1, 1) := by decide +kernel
theorem dL_law_671 : decode cL_law 671 = .ok (.iadd, 1) := by decide +kernel
theorem dL_law_672 : decode cL_law 672 = .ok (.iaload, 1) := by decide +kernel
theorem dL_law_673 : decode cL_law 673 = .ok (.aload_n 0, 1) := by decide +kernel
theorem dL_law_674 : decode cL_law 674 = .ok (.iload_n 3, 1) := by decide +kernel
theorem dL_law_675 : decode cL_law 675 = .ok (.iconst 2, 1) := by decide +kernel
theorem dL_law_676 : decode cL_law 676 = .ok (.iadd, 1) := by decide +kernel
theorem dL_law_677 : decode cL_law 677 = .ok (.iaload, 1) := by decide +kernel
theorem dL_law_678 : decode cL_law 678 = .ok (.aload_n 0, 1) := by decide +kernel
theorem dL_law_679 : decode cL_law 679 = .ok (.iload_n 3, 1) := by decide +kernel
theorem dL_law_680 : decode cL_law 680 = .ok (.iconst 3, 1) := by decide +kernel
theorem dL_law_681 : decode cL_law 681 = .ok (.iadd, 1) := by decide +kernel
theorem dL_law_682 : decode cL_law 682 = .ok (.iaload, 1) := by decide +kernel
theorem dL_law_683 : decode cL_law 683 = .ok (.invokevirtual 85, 3) := by decide +kernel
theorem dL_law_686 : decode cL_law 686 = .ok (.if_icmp .eq 269, 3) := by decide +kernel
theorem dL_law_689 : decode cL_law 689 = .ok (.iconst 0, 1) := by decide +kernel
theorem dL_law_690 : decode cL_law 690 = .ok (.ireturn, 1) := by decide +kernel
theorem dL_law_691 : decode cL_law 691 = .ok (.aload_n 1, 1) := by decide +kernel
theorem dL_law_692 : decode cL_law 692 = .ok (.aload_n 0, 1) := by decide +kernel
theorem dL_law_693 : decode cL_law 693 = .ok (.iload_n 3, 1) := by decide +kernel
theorem dL_law_694 : decode cL_law 694 = .ok (.iconst 1, 1) := by decide +kernel
theorem dL_law_695 : decode cL_law 695 = .ok (.iadd, 1) := by decide +kernel
theorem dL_law_696 : decode cL_law 696 = .ok (.iaload, 1) := by decide +kernel
theorem dL_law_697 : decode cL_law 697 = .ok (.aload_n 0, 1) := by decide +kernel
theorem dL_law_698 : decode cL_law 698 = .ok (.iload_n 3, 1) := by decide +kernel
theorem dL_law_699 : decode cL_law 699 = .ok (.iconst 2, 1) := by decide +kernel
theorem dL_law_700 : decode cL_law 700 = .ok (.iadd, 1) := by decide +kernel
theorem dL_law_701 : decode cL_law 701 = .ok (.iaload, 1) := by decide +kernel
theorem dL_law_702 : decode cL_law 702 = .ok (.invokevirtual 86, 3) := by decide +kernel
theorem dL_law_705 : decode cL_law 705 = .ok (.aload_n 2, 1) := by decide +kernel
theorem dL_law_706 : decode cL_law 706 = .ok (.aload_n 0, 1) := by decide +kernel
theorem dL_law_707 : decode cL_law 707 = .ok (.iload_n 3, 1) := by decide +kernel
theorem dL_law_708 : decode cL_law 708 = .ok (.iconst 1, 1) := by decide +kernel
theorem dL_law_709 : decode cL_law 709 = .ok (.iadd, 1) := by decide +kernel
theorem dL_law_710 : decode cL_law 710 = .ok (.iaload, 1) := by decide +kernel
theorem dL_law_711 : decode cL_law 711 = .ok (.aload_n 0, 1) := by decide +kernel
theorem dL_law_712 : decode cL_law 712 = .ok (.iload_n 3, 1) := by decide +kernel
theorem dL_law_713 : decode cL_law 713 = .ok (.iconst 2, 1) := by decide +kernel
theorem dL_law_714 : decode cL_law 714 = .ok (.iadd, 1) := by decide +kernel
theorem dL_law_715 : decode cL_law 715 = .ok (.iaload, 1) := by decide +kernel
theorem dL_law_716 : decode cL_law 716 = .ok (.invokevirtual 89, 3) := by decide +kernel
theorem dL_law_719 : decode cL_law 719 = .ok (.if_icmp .eq 236, 3) := by decide +kernel
theorem dL_law_722 : decode cL_law 722 = .ok (.iconst 0, 1) := by decide +kernel
theorem dL_law_723 : decode cL_law 723 = .ok (.ireturn, 1) := by decide +kernel
theorem dL_law_724 : decode cL_law 724 = .ok (.aload_n 1, 1) := by decide +kernel
theorem dL_law_725 : decode cL_law 725 = .ok (.aload_n 0, 1) := by decide +kernel
theorem dL_law_726 : decode cL_law 726 = .ok (.iload_n 3, 1) := by decide +kernel
theorem dL_law_727 : decode cL_law 727 = .ok (.iconst 1, 1) := by decide +kernel
theorem dL_law_728 : decode cL_law 728 = .ok (.iadd, 1) := by decide +kernel
theorem dL_law_729 : decode cL_law 729 = .ok (.iaload, 1) := by decide +kernel
theorem dL_law_730 : decode cL_law 730 = .ok (.invokevirtual 90, 3) := by decide +kernel
theorem dL_law_733 : decode cL_law 733 = .ok (.aload_n 2, 1) := by decide +kernel
theorem dL_law_734 : decode cL_law 734 = .ok (.aload_n 0, 1) := by decide +kernel
theorem dL_law_735 : decode cL_law 735 = .ok (.iload_n 3, 1) := by decide +kernel
theorem dL_law_736 : decode cL_law 736 = .ok (.iconst 1, 1) := by decide +kernel
theorem dL_law_737 : decode cL_law 737 = .ok (.iadd, 1) := by decide +kernel
theorem dL_law_738 : decode cL_law 738 = .ok (.iaload, 1) := by decide +kernel
theorem dL_law_739 : decode cL_law 739 = .ok (.invokevirtual 93, 3) := by decide +kernel
theorem dL_law_742 : decode cL_law 742 = .ok (.if_icmp .eq 213, 3) := by decide +kernel
theorem dL_law_745 : decode cL_law 745 = .ok (.iconst 0, 1) := by decide +kernel
theorem dL_law_746 : decode cL_law 746 = .ok (.ireturn, 1) := by decide +kernel
theorem dL_law_747 : decode cL_law 747 = .ok (.aload_n 1, 1) := by decide +kernel
theorem dL_law_748 : decode cL_law 748 = .ok (.aload_n 0, 1) := by decide +kernel
theorem dL_law_749 : decode cL_law 749 = .ok (.iload_n 3, 1) := by decide +kernel
theorem dL_law_750 : decode cL_law 750 = .ok (.iconst 1, 1) := by decide +kernel
theorem dL_law_751 : decode cL_law 751 = .ok (.iadd, 1) := by decide +kernel
theorem dL_law_752 : decode cL_law 752 = .ok (.iaload, 1) := by decide +kernel
theorem dL_law_753 : decode cL_law 753 = .ok (.invokevirtual 94, 3) := by decide +kernel
theorem dL_law_756 : decode cL_law 756 = .ok (.aload_n 2, 1) := by decide +kernel
theorem dL_law_757 : decode cL_law 757 = .ok (.aload_n 0, 1) := by decide +kernel
theorem dL_law_758 : decode cL_law 758 = .ok (.iload_n 3, 1) := by decide +kernel
theorem dL_law_759 : decode cL_law 759 = .ok (.iconst 1, 1) := by decide +kernel
theorem dL_law_760 : decode cL_law 760 = .ok (.iadd, 1) := by decide +kernel
theorem dL_law_761 : decode cL_law 761 = .ok (.iaload, 1) := by decide +kernel
theorem dL_law_762 : decode cL_law 762 = .ok (.invokevirtual 97, 3) := by decide +kernel
theorem dL_law_765 : decode cL_law 765 = .ok (.if_icmp .eq 190, 3) := by decide +kernel
theorem dL_law_768 : decode cL_law 768 = .ok (.iconst 0, 1) := by decide +kernel
theorem dL_law_769 : decode cL_law 769 = .ok (.ireturn, 1) := by decide +kernel
theorem dL_law_770 : decode cL_law 770 = .ok (.aload_n 1, 1) := by decide +kernel
theorem dL_law_771 : decode cL_law 771 = .ok (.aload_n 0, 1) := by decide +kernel
theorem dL_law_772 : decode cL_law 772 = .ok (.iload_n 3, 1) := by decide +kernel
theorem dL_law_773 : decode cL_law 773 = .ok (.iconst 1, 1) := by decide +kernel
theorem dL_law_774 : decode cL_law 774 = .ok (.iadd, 1) := by decide +kernel
theorem dL_law_775 : decode cL_law 775 = .ok (.iaload, 1) := by decide +kernel
theorem dL_law_776 : decode cL_law 776 = .ok (.aload_n 0, 1) := by decide +kernel
theorem dL_law_777 : decode cL_law 777 = .ok (.iload_n 3, 1) := by decide +kernel
theorem dL_law_778 : decode cL_law 778 = .ok (.iconst 2, 1) := by decide +kernel
theorem dL_law_779 : decode cL_law 779 = .ok (.iadd, 1) := by decide +kernel
theorem dL_law_780 : decode cL_law 780 = .ok (.iaload, 1) := by decide +kernel
theorem dL_law_781 : decode cL_law 781 = .ok (.invokevirtual 98, 3) := by decide +kernel
theorem dL_law_784 : decode cL_law 784 = .ok (.aload_n 2, 1) := by decide +kernel
theorem dL_law_785 : decode cL_law 785 = .ok (.aload_n 0, 1) := by decide +kernel
theorem dL_law_786 : decode cL_law 786 = .ok (.iload_n 3, 1) := by decide +kernel
theorem dL_law_787 : decode cL_law 787 = .ok (.iconst 1, 1) := by decide +kernel
theorem dL_law_788 : decode cL_law 788 = .ok (.iadd, 1) := by decide +kernel
theorem dL_law_789 : decode cL_law 789 = .ok (.iaload, 1) := by decide +kernel
theorem dL_law_790 : decode cL_law 790 = .ok (.aload_n 0, 1) := by decide +kernel
theorem dL_law_791 : decode cL_law 791 = .ok (.iload_n 3, 1) := by decide +kernel
theorem dL_law_792 : decode cL_law 792 = .ok (.iconst 2, 1) := by decide +kernel
theorem dL_law_793 : decode cL_law 793 = .ok (.iadd, 1) := by decide +kernel
theorem dL_law_794 : decode cL_law 794 = .ok (.iaload, 1) := by decide +kernel
theorem dL_law_795 : decode cL_law 795 = .ok (.invokevirtual 101, 3) := by decide +kernel
theorem dL_law_798 : decode cL_law 798 = .ok (.if_icmp .eq 157, 3) := by decide +kernel
theorem dL_law_801 : decode cL_law 801 = .ok (.iconst 0, 1) := by decide +kernel
theorem dL_law_802 : decode cL_law 802 = .ok (.ireturn, 1) := by decide +kernel
theorem dL_law_803 : decode cL_law 803 = .ok (.aload_n 1, 1) := by decide +kernel
theorem dL_law_804 : decode cL_law 804 = .ok (.invokevirtual 102, 3) := by decide +kernel
theorem dL_law_807 : decode cL_law 807 = .ok (.aload_n 2, 1) := by decide +kernel
theorem dL_law_808 : decode cL_law 808 = .ok (.invokevirtual 105, 3) := by decide +kernel
theorem dL_law_811 : decode cL_law 811 = .ok (.if_icmp .eq 144, 3) := by decide +kernel
theorem dL_law_814 : decode cL_law 814 = .ok (.iconst 0, 1) := by decide +kernel
theorem dL_law_815 : decode cL_law 815 = .ok (.ireturn, 1) := by decide +kernel
theorem dL_law_816 : decode cL_law 816 = .ok (.aload_n 1, 1) := by decide +kernel
theorem dL_law_817 : decode cL_law 817 = .ok (.aload_n 0, 1) := by decide +kernel
theorem dL_law_818 : decode cL_law 818 = .ok (.iload_n 3, 1) := by decide +kernel
theorem dL_law_819 : decode cL_law 819 = .ok (.iconst 1, 1) := by decide +kernel
theorem dL_law_820 : decode cL_law 820 = .ok (.iadd, 1) := by decide +kernel
theorem dL_law_821 : decode cL_law 821 = .ok (.iaload, 1) := by decide +kernel
theorem dL_law_822 : decode cL_law 822 = .ok (.invokevirtual 106, 3) := by decide +kernel
theorem dL_law_825 : decode cL_law 825 = .ok (.aload_n 2, 1) := by decide +kernel
theorem dL_law_826 : decode cL_law 826 = .ok (.aload_n 0, 1) := by decide +kernel
theorem dL_law_827 : decode cL_law 827 = .ok (.iload_n 3, 1) := by decide +kernel
theorem dL_law_828 : decode cL_law 828 = .ok (.iconst 1, 1) := by decide +kernel
theorem dL_law_829 : decode cL_law 829 = .ok (.iadd, 1) := by decide +kernel
theorem dL_law_830 : decode cL_law 830 = .ok (.iaload, 1) := by decide +kernel
theorem dL_law_831 : decode cL_law 831 = .ok (.invokevirtual 109, 3) := by decide +kernel
theorem dL_law_834 : decode cL_law 834 = .ok (.if_icmp .eq 121, 3) := by decide +kernel
theorem dL_law_837 : decode cL_law 837 = .ok (.iconst 0, 1) := by decide +kernel
theorem dL_law_838 : decode cL_law 838 = .ok (.ireturn, 1) := by decide +kernel
theorem dL_law_839 : decode cL_law 839 = .ok (.aload_n 1, 1) := by decide +kernel
theorem dL_law_840 : decode cL_law 840 = .ok (.aload_n 0, 1) := by decide +kernel
theorem dL_law_841 : decode cL_law 841 = .ok (.iload_n 3, 1) := by decide +kernel
theorem dL_law_842 : decode cL_law 842 = .ok (.iconst 1, 1) := by decide +kernel
theorem dL_law_843 : decode cL_law 843 = .ok (.iadd, 1) := by decide +kernel
theorem dL_law_844 : decode cL_law 844 = .ok (.iaload, 1) := by decide +kernel
theorem dL_law_845 : decode cL_law 845 = .ok (.aload_n 0, 1) := by decide +kernel
theorem dL_law_846 : decode cL_law 846 = .ok (.iload_n 3, 1) := by decide +kernel
theorem dL_law_847 : decode cL_law 847 = .ok (.iconst 2, 1) := by decide +kernel
theorem dL_law_848 : decode cL_law 848 = .ok (.iadd, 1) := by decide +kernel
theorem dL_law_849 : decode cL_law 849 = .ok (.iaload, 1) := by decide +kernel
theorem dL_law_850 : decode cL_law 850 = .ok (.invokevirtual 110, 3) := by decide +kernel
theorem dL_law_853 : decode cL_law 853 = .ok (.aload_n 2, 1) := by decide +kernel
theorem dL_law_854 : decode cL_law 854 = .ok (.aload_n 0, 1) := by decide +kernel
theorem dL_law_855 : decode cL_law 855 = .ok (.iload_n 3, 1) := by decide +kernel
theorem dL_law_856 : decode cL_law 856 = .ok (.iconst 1, 1) := by decide +kernel
theorem dL_law_857 : decode cL_law 857 = .ok (.iadd, 1) := by decide +kernel
theorem dL_law_858 : decode cL_law 858 = .ok (.iaload, 1) := by decide +kernel
theorem dL_law_859 : decode cL_law 859 = .ok (.aload_n 0, 1) := by decide +kernel
theorem dL_law_860 : decode cL_law 860 = .ok (.iload_n 3, 1) := by decide +kernel
theorem dL_law_861 : decode cL_law 861 = .ok (.iconst 2, 1) := by decide +kernel
theorem dL_law_862 : decode cL_law 862 = .ok (.iadd, 1) := by decide +kernel
theorem dL_law_863 : decode cL_law 863 = .ok (.iaload, 1) := by decide +kernel
theorem dL_law_864 : decode cL_law 864 = .ok (.invokevirtual 113, 3) := by decide +kernel
theorem dL_law_867 : decode cL_law 867 = .ok (.if_icmp .eq 88, 3) := by decide +kernel
theorem dL_law_870 : decode cL_law 870 = .ok (.iconst 0, 1) := by decide +kernel
theorem dL_law_871 : decode cL_law 871 = .ok (.ireturn, 1) := by decide +kernel
theorem dL_law_872 : decode cL_law 872 = .ok (.aload_n 1, 1) := by decide +kernel
theorem dL_law_873 : decode cL_law 873 = .ok (.aload_n 0, 1) := by decide +kernel
theorem dL_law_874 : decode cL_law 874 = .ok (.iload_n 3, 1) := by decide +kernel
theorem dL_law_875 : decode cL_law 875 = .ok (.iconst 1, 1) := by decide +kernel
theorem dL_law_876 : decode cL_law 876 = .ok (.iadd, 1) := by decide +kernel
theorem dL_law_877 : decode cL_law 877 = .ok (.iaload, 1) := by decide +kernel
theorem dL_law_878 : decode cL_law 878 = .ok (.invokevirtual 114, 3) := by decide +kernel
theorem dL_law_881 : decode cL_law 881 = .ok (.aload_n 2, 1) := by decide +kernel
theorem dL_law_882 : decode cL_law 882 = .ok (.aload_n 0, 1) := by decide +kernel
theorem dL_law_883 : decode cL_law 883 = .ok (.iload_n 3, 1) := by decide +kernel
theorem dL_law_884 : decode cL_law 884 = .ok (.iconst 1, 1) := by decide +kernel
theorem dL_law_885 : decode cL_law 885 = .ok (.iadd, 1) := by decide +kernel
theorem dL_law_886 : decode cL_law 886 = .ok (.iaload, 1) := by decide +kernel
theorem dL_law_887 : decode cL_law 887 = .ok (.invokevirtual 117, 3) := by decide +kernel
theorem dL_law_890 : decode cL_law 890 = .ok (.if_icmp .eq 65, 3) := by decide +kernel
theorem dL_law_893 : decode cL_law 893 = .ok (.iconst 0, 1) := by decide +kernel
theorem dL_law_894 : decode cL_law 894 = .ok (.ireturn, 1) := by decide +kernel
theorem dL_law_895 : decode cL_law 895 = .ok (.aload_n 1, 1) := by decide +kernel
theorem dL_law_896 : decode cL_law 896 = .ok (.aload_n 0, 1) := by decide +kernel
theorem dL_law_897 : decode cL_law 897 = .ok (.iload_n 3, 1) := by decide +kernel
theorem dL_law_898 : decode cL_law 898 = .ok (.iconst 1, 1) := by decide +kernel
theorem dL_law_899 : decode cL_law 899 = .ok (.iadd, 1) := by decide +kernel
theorem dL_law_900 : decode cL_law 900 = .ok (.iaload, 1) := by decide +kernel
theorem dL_law_901 : decode cL_law 901 = .ok (.invokevirtual 118, 3) := by decide +kernel
theorem dL_law_904 : decode cL_law 904 = .ok (.aload_n 2, 1) := by decide +kernel
theorem dL_law_905 : decode cL_law 905 = .ok (.aload_n 0, 1) := by decide +kernel
theorem dL_law_906 : decode cL_law 906 = .ok (.iload_n 3, 1) := by decide +kernel
theorem dL_law_907 : decode cL_law 907 = .ok (.iconst 1, 1) := by decide +kernel
theorem dL_law_908 : decode cL_law 908 = .ok (.iadd, 1) := by decide +kernel
theorem dL_law_909 : decode cL_law 909 = .ok (.iaload, 1) := by decide +kernel
theorem dL_law_910 : decode cL_law 910 = .ok (.invokevirtual 121, 3) := by decide +kernel
theorem dL_law_913 : decode cL_law 913 = .ok (.if_icmp .eq 42, 3) := by decide +kernel
theorem dL_law_916 : decode cL_law 916 = .ok (.iconst 0, 1) := by decide +kernel
theorem dL_law_917 : decode cL_law 917 = .ok (.ireturn, 1) := by decide +kernel
theorem dL_law_918 : decode cL_law 918 = .ok (.aload_n 1, 1) := by decide +kernel
theorem dL_law_919 : decode cL_law 919 = .ok (.aload_n 0, 1) := by decide +kernel
theorem dL_law_920 : decode cL_law 920 = .ok (.iload_n 3, 1) := by decide +kernel
theorem dL_law_921 : decode cL_law 921 = .ok (.iconst 1, 1) := by decide +kernel
theorem dL_law_922 : decode cL_law 922 = .ok (.iadd, 1) := by decide +kernel
theorem dL_law_923 : decode cL_law 923 = .ok (.iaload, 1) := by decide +kernel
theorem dL_law_924 : decode cL_law 924 = .ok (.invokevirtual 122, 3) := by decide +kernel
theorem dL_law_927 : decode cL_law 927 = .ok (.aload_n 2, 1) := by decide +kernel
theorem dL_law_928 : decode cL_law 928 = .ok (.aload_n 0, 1) := by decide +kernel
theorem dL_law_929 : decode cL_law 929 = .ok (.iload_n 3, 1) := by decide +kernel
theorem dL_law_930 : decode cL_law 930 = .ok (.iconst 1, 1) := by decide +kernel
theorem dL_law_931 : decode cL_law 931 = .ok (.iadd, 1) := by decide +kernel
theorem dL_law_932 : decode cL_law 932 = .ok (.iaload, 1) := by decide +kernel
theorem dL_law_933 : decode cL_law 933 = .ok (.invokevirtual 125, 3) := by decide +kernel
theorem dL_law_936 : decode cL_law 936 = .ok (.if_icmp .eq 19, 3) := by decide +kernel
theorem dL_law_939 : decode cL_law 939 = .ok (.iconst 0, 1) := by decide +kernel
theorem dL_law_940 : decode cL_law 940 = .ok (.ireturn, 1) := by decide +kernel
theorem dL_law_941 : decode cL_law 941 = .ok (.aload_n 1, 1) := by decide +kernel
theorem dL_law_942 : decode cL_law 942 = .ok (.invokevirtual 126, 3) := by decide +kernel
theorem dL_law_945 : decode cL_law 945 = .ok (.aload_n 2, 1) := by decide +kernel
theorem dL_law_946 : decode cL_law 946 = .ok (.invokevirtual 130, 3) := by decide +kernel
theorem dL_law_949 : decode cL_law 949 = .ok (.lcmp, 1) := by decide +kernel
theorem dL_law_950 : decode cL_law 950 = .ok (.ifCond .eq 5, 3) := by decide +kernel
theorem dL_law_953 : decode cL_law 953 = .ok (.iconst 0, 1) := by decide +kernel
theorem dL_law_954 : decode cL_law 954 = .ok (.ireturn, 1) := by decide +kernel
theorem dL_law_955 : decode cL_law 955 = .ok (.iinc 3 5, 3) := by decide +kernel
theorem dL_law_958 : decode cL_law 958 = .ok (.goto (-940), 3) := by decide +kernel
theorem dL_law_961 : decode cL_law 961 = .ok (.iconst 1, 1) := by decide +kernel
theorem dL_law_962 : decode cL_law 962 = .ok (.ireturn, 1) := by decide +kernel
