theorem dX8_meets_106 : decode cX8_meets 106 = .ok (.iload 4, 2) := by decide +kernel
theorem dX8_meets_108 : decode cX8_meets 108 = .ok (.iconst 1, 1) := by decide +kernel
theorem dX8_meets_109 : decode cX8_meets 109 = .ok (.if_icmp .eq 7, 3) := by decide +kernel
theorem dX8_meets_112 : decode cX8_meets 112 = .ok (.iconst 1, 1) := by decide +kernel
theorem dX8_meets_113 : decode cX8_meets 113 = .ok (.goto 4, 3) := by decide +kernel
theorem dX8_meets_116 : decode cX8_meets 116 = .ok (.iconst 0, 1) := by decide +kernel
theorem dX8_meets_117 : decode cX8_meets 117 = .ok (.invokevirtual 161, 3) := by decide +kernel
theorem dX8_meets_120 : decode cX8_meets 120 = .ok (.iload 4, 2) := by decide +kernel
theorem dX8_meets_122 : decode cX8_meets 122 = .ok (.ireturn, 1) := by decide +kernel
theorem dX8_claims_0 : decode cX8_claims 0 = .ok (.aload_n 0, 1) := by decide +kernel
theorem dX8_claims_1 : decode cX8_claims 1 = .ok (.iload_n 1, 1) := by decide +kernel
theorem dX8_claims_2 : decode cX8_claims 2 = .ok (.invokevirtual 110, 3) := by decide +kernel
theorem dX8_claims_5 : decode cX8_claims 5 = .ok (.ifCond .ne 16, 3) := by decide +kernel
theorem dX8_claims_8 : decode cX8_claims 8 = .ok (.aload_n 0, 1) := by decide +kernel
theorem dX8_claims_9 : decode cX8_claims 9 = .ok (.iload_n 2, 1) := by decide +kernel
theorem dX8_claims_10 : decode cX8_claims 10 = .ok (.invokevirtual 110, 3) := by decide +kernel
theorem dX8_claims_13 : decode cX8_claims 13 = .ok (.ifCond .ne 8, 3) := by decide +kernel
theorem dX8_claims_16 : decode cX8_claims 16 = .ok (.iload_n 1, 1) := by decide +kernel
theorem dX8_claims_17 : decode cX8_claims 17 = .ok (.iload_n 2, 1) := by decide +kernel
theorem dX8_claims_18 : decode cX8_claims 18 = .ok (.if_icmp .ne 5, 3) := by decide +kernel
theorem dX8_claims_21 : decode cX8_claims 21 = .ok (.iconst (-1), 1) := by decide +kernel
theorem dX8_claims_22 : decode cX8_claims 22 = .ok (.ireturn, 1) := by decide +kernel
theorem dX8_claims_23 : decode cX8_claims 23 = .ok (.aload_n 0, 1) := by decide +kernel
theorem dX8_claims_24 : decode cX8_claims 24 = .ok (.getfield 29, 3) := by decide +kernel
theorem dX8_claims_27 : decode cX8_claims 27 = .ok (.getfield 113, 3) := by decide +kernel
theorem dX8_claims_30 : decode cX8_claims 30 = .ok (.getfield 117, 3) := by decide +kernel
theorem dX8_claims_33 : decode cX8_claims 33 = .ok (.astore_n 3, 1) := by decide +kernel
theorem dX8_claims_34 : decode cX8_claims 34 = .ok (.aload_n 0, 1) := by decide +kernel
theorem dX8_claims_35 : decode cX8_claims 35 = .ok (.getfield 29, 3) := by decide +kernel
theorem dX8_claims_38 : decode cX8_claims 38 = .ok (.getfield 113, 3) := by decide +kernel
theorem dX8_claims_41 : decode cX8_claims 41 = .ok (.getfield 122, 3) := by decide +kernel
theorem dX8_claims_44 : decode cX8_claims 44 = .ok (.iload_n 1, 1) := by decide +kernel
theorem dX8_claims_45 : decode cX8_claims 45 = .ok (.iaload, 1) := by decide +kernel
theorem dX8_claims_46 : decode cX8_claims 46 = .ok (.aload_n 0, 1) := by decide +kernel
theorem dX8_claims_47 : decode cX8_claims 47 = .ok (.getfield 29, 3) := by decide +kernel
theorem dX8_claims_50 : decode cX8_claims 50 = .ok (.getfield 113, 3) := by decide +kernel
theorem dX8_claims_53 : decode cX8_claims 53 = .ok (.getfield 122, 3) := by decide +kernel
theorem dX8_claims_56 : decode cX8_claims 56 = .ok (.iload_n 2, 1) := by decide +kernel
theorem dX8_claims_57 : decode cX8_claims 57 = .ok (.iaload, 1) := by decide +kernel
theorem dX8_claims_58 : decode cX8_claims 58 = .ok (.if_icmp .ne 26, 3) := by decide +kernel
theorem dX8_claims_61 : decode cX8_claims 61 = .ok (.aload_n 3, 1) := by decide +kernel
theorem dX8_claims_62 : decode cX8_claims 62 = .ok (.iload_n 1, 1) := by decide +kernel
theorem dX8_claims_63 : decode cX8_claims 63 = .ok (.iaload, 1) := by decide +kernel
theorem dX8_claims_64 : decode cX8_claims 64 = .ok (.aload_n 3, 1) := by decide +kernel
theorem dX8_claims_65 : decode cX8_claims 65 = .ok (.iload_n 2, 1) := by decide +kernel
theorem dX8_claims_66 : decode cX8_claims 66 = .ok (.iaload, 1) := by decide +kernel
theorem dX8_claims_67 : decode cX8_claims 67 = .ok (.if_icmp .le 17, 3) := by decide +kernel
theorem dX8_claims_70 : decode cX8_claims 70 = .ok (.aload_n 3, 1) := by decide +kernel
theorem dX8_claims_71 : decode cX8_claims 71 = .ok (.iload_n 1, 1) := by decide +kernel
theorem dX8_claims_72 : decode cX8_claims 72 = .ok (.iaload, 1) := by decide +kernel
theorem dX8_claims_73 : decode cX8_claims 73 = .ok (.bipush 9, 2) := by decide +kernel
theorem dX8_claims_75 : decode cX8_claims 75 = .ok (.if_icmp .ge 9, 3) := by decide +kernel
theorem dX8_claims_78 : decode cX8_claims 78 = .ok (.aload_n 3, 1) := by decide +kernel
theorem dX8_claims_79 : decode cX8_claims 79 = .ok (.iload_n 2, 1) := by decide +kernel
theorem dX8_claims_80 : decode cX8_claims 80 = .ok (.iaload, 1) := by decide +kernel
theorem dX8_claims_81 : decode cX8_claims 81 = .ok (.ifCond .gt 6, 3) := by decide +kernel
theorem dX8_claims_84 : decode cX8_claims 84 = .ok (.bipush (-2), 2) := by decide +kernel
theorem dX8_claims_86 : decode cX8_claims 86 = .ok (.ireturn, 1) := by decide +kernel
theorem dX8_claims_87 : decode cX8_claims 87 = .ok (.aload_n 0, 1) := by decide +kernel
theorem dX8_claims_88 : decode cX8_claims 88 = .ok (.getfield 29, 3) := by decide +kernel
theorem dX8_claims_91 : decode cX8_claims 91 = .ok (.invokevirtual 142, 3) := by decide +kernel
theorem dX8_claims_94 : decode cX8_claims 94 = .ok (.aload_n 3, 1) := by decide +kernel
theorem dX8_claims_95 : decode cX8_claims 95 = .ok (.iload_n 1, 1) := by decide +kernel
theorem dX8_claims_96 : decode cX8_claims 96 = .ok (.dup2, 1) := by decide +kernel
theorem dX8_claims_97 : decode cX8_claims 97 = .ok (.iaload, 1) := by decide +kernel
theorem dX8_claims_98 : decode cX8_claims 98 = .ok (.iconst 1, 1) := by decide +kernel
theorem dX8_claims_99 : decode cX8_claims 99 = .ok (.iadd, 1) := by decide +kernel
theorem dX8_claims_100 : decode cX8_claims 100 = .ok (.iastore, 1) := by decide +kernel
theorem dX8_claims_101 : decode cX8_claims 101 = .ok (.aload_n 3, 1) := by decide +kernel
theorem dX8_claims_102 : decode cX8_claims 102 = .ok (.iload_n 2, 1) := by decide +kernel
theorem dX8_claims_103 : decode cX8_claims 103 = .ok (.dup2, 1) := by decide +kernel
theorem dX8_claims_104 : decode cX8_claims 104 = .ok (.iaload, 1) := by decide +kernel
theorem dX8_claims_105 : decode cX8_claims 105 = .ok (.iconst 1, 1) := by decide +kernel
theorem dX8_claims_106 : decode cX8_claims 106 = .ok (.isub, 1) := by decide +kernel
theorem dX8_claims_107 : decode cX8_claims 107 = .ok (.iastore, 1) := by decide +kernel
theorem dX8_claims_108 : decode cX8_claims 108 = .ok (.aload_n 3, 1) := by decide +kernel
theorem dX8_claims_109 : decode cX8_claims 109 = .ok (.iload_n 1, 1) := by decide +kernel
theorem dX8_claims_110 : decode cX8_claims 110 = .ok (.iaload, 1) := by decide +kernel
theorem dX8_claims_111 : decode cX8_claims 111 = .ok (.ireturn, 1) := by decide +kernel
theorem dX8_patents_0 : decode cX8_patents 0 = .ok (.aload_n 0, 1) := by decide +kernel
theorem dX8_patents_1 : decode cX8_patents 1 = .ok (.iload_n 1, 1) := by decide +kernel
theorem dX8_patents_2 : decode cX8_patents 2 = .ok (.invokevirtual 110, 3) := by decide +kernel
theorem dX8_patents_5 : decode cX8_patents 5 = .ok (.ifCond .ne 13, 3) := by decide +kernel
theorem dX8_patents_8 : decode cX8_patents 8 = .ok (.iload_n 2, 1) := by decide +kernel
theorem dX8_patents_9 : decode cX8_patents 9 = .ok (.ifCond .lt 9, 3) := by decide +kernel
theorem dX8_patents_12 : decode cX8_patents 12 = .ok (.iload_n 2, 1) := by decide +kernel
theorem dX8_patents_13 : decode cX8_patents 13 = .ok (.bipush 9, 2) := by decide +kernel
theorem dX8_patents_15 : decode cX8_patents 15 = .ok (.if_icmp .le 5, 3) := by decide +kernel
theorem dX8_patents_18 : decode cX8_patents 18 = .ok (.iconst (-1), 1) := by decide +kernel
theorem dX8_patents_19 : decode cX8_patents 19 = .ok (.ireturn, 1) := by decide +kernel
theorem dX8_patents_20 : decode cX8_patents 20 = .ok (.aload_n 0, 1) := by decide +kernel
theorem dX8_patents_21 : decode cX8_patents 21 = .ok (.getfield 29, 3) := by decide +kernel
theorem dX8_patents_24 : decode cX8_patents 24 = .ok (.getfield 113, 3) := by decide +kernel
theorem dX8_patents_27 : decode cX8_patents 27 = .ok (.getfield 117, 3) := by decide +kernel
theorem dX8_patents_30 : decode cX8_patents 30 = .ok (.iload_n 1, 1) := by decide +kernel
theorem dX8_patents_31 : decode cX8_patents 31 = .ok (.iaload, 1) := by decide +kernel
theorem dX8_patents_32 : decode cX8_patents 32 = .ok (.istore_n 3, 1) := by decide +kernel
theorem dX8_patents_33 : decode cX8_patents 33 = .ok (.iload_n 3, 1) := by decide +kernel
theorem dX8_patents_34 : decode cX8_patents 34 = .ok (.iload_n 2, 1) := by decide +kernel
theorem dX8_patents_35 : decode cX8_patents 35 = .ok (.if_icmp .ne 6, 3) := by decide +kernel
theorem dX8_patents_38 : decode cX8_patents 38 = .ok (.bipush (-2), 2) := by decide +kernel
theorem dX8_patents_40 : decode cX8_patents 40 = .ok (.ireturn, 1) := by decide +kernel
theorem dX8_patents_41 : decode cX8_patents 41 = .ok (.aload_n 0, 1) := by decide +kernel
theorem dX8_patents_42 : decode cX8_patents 42 = .ok (.getfield 29, 3) := by decide +kernel
theorem dX8_patents_45 : decode cX8_patents 45 = .ok (.invokevirtual 142, 3) := by decide +kernel
theorem dX8_patents_48 : decode cX8_patents 48 = .ok (.aload_n 0, 1) := by decide +kernel
theorem dX8_patents_49 : decode cX8_patents 49 = .ok (.getfield 29, 3) := by decide +kernel
theorem dX8_patents_52 : decode cX8_patents 52 = .ok (.getfield 113, 3) := by decide +kernel
theorem dX8_patents_55 : decode cX8_patents 55 = .ok (.getfield 117, 3) := by decide +kernel
theorem dX8_patents_58 : decode cX8_patents 58 = .ok (.iload_n 1, 1) := by decide +kernel
theorem dX8_patents_59 : decode cX8_patents 59 = .ok (.iload_n 2, 1) := by decide +kernel
theorem dX8_patents_60 : decode cX8_patents 60 = .ok (.iastore, 1) := by decide +kernel
theorem dX8_patents_61 : decode cX8_patents 61 = .ok (.iload_n 3, 1) := by decide +kernel
theorem dX8_patents_62 : decode cX8_patents 62 = .ok (.ireturn, 1) := by decide +kernel
theorem dX8_shuts_0 : decode cX8_shuts 0 = .ok (.aload_n 0, 1) := by decide +kernel
theorem dX8_shuts_1 : decode cX8_shuts 1 = .ok (.iload_n 1, 1) := by decide +kernel
theorem dX8_shuts_2 : decode cX8_shuts 2 = .ok (.invokevirtual 94, 3) := by decide +kernel
theorem dX8_shuts_5 : decode cX8_shuts 5 = .ok (.ifCond .ne 12, 3) := by decide +kernel
theorem dX8_shuts_8 : decode cX8_shuts 8 = .ok (.iload_n 2, 1) := by decide +kernel
theorem dX8_shuts_9 : decode cX8_shuts 9 = .ok (.ifCond .lt 8, 3) := by decide +kernel
theorem dX8_shuts_12 : decode cX8_shuts 12 = .ok (.iload_n 2, 1) := by decide +kernel
theorem dX8_shuts_13 : decode cX8_shuts 13 = .ok (.iconst 1, 1) := by decide +kernel
theorem dX8_shuts_14 : decode cX8_shuts 14 = .ok (.if_icmp .le 5, 3) := by decide +kernel
theorem dX8_shuts_17 : decode cX8_shuts 17 = .ok (.iconst (-1), 1) := by decide +kernel
theorem dX8_shuts_18 : decode cX8_shuts 18 = .ok (.ireturn, 1) := by decide +kernel
theorem dX8_shuts_19 : decode cX8_shuts 19 = .ok (.aload_n 0, 1) := by decide +kernel
theorem dX8_shuts_20 : decode cX8_shuts 20 = .ok (.iload_n 1, 1) := by decide +kernel
theorem dX8_shuts_21 : decode cX8_shuts 21 = .ok (.invokevirtual 107, 3) := by decide +kernel
theorem dX8_shuts_24 : decode cX8_shuts 24 = .ok (.iload_n 2, 1) := by decide +kernel
theorem dX8_shuts_25 : decode cX8_shuts 25 = .ok (.iconst 1, 1) := by decide +kernel
theorem dX8_shuts_26 : decode cX8_shuts 26 = .ok (.if_icmp .ne 7, 3) := by decide +kernel
theorem dX8_shuts_29 : decode cX8_shuts 29 = .ok (.iconst 1, 1) := by decide +kernel
theorem dX8_shuts_30 : decode cX8_shuts 30 = .ok (.goto 4, 3) := by decide +kernel
theorem dX8_shuts_33 : decode cX8_shuts 33 = .ok (.iconst 0, 1) := by decide +kernel
theorem dX8_shuts_34 : decode cX8_shuts 34 = .ok (.if_icmp .ne 6, 3) := by decide +kernel
theorem dX8_shuts_37 : decode cX8_shuts 37 = .ok (.bipush (-2), 2) := by decide +kernel
theorem dX8_shuts_39 : decode cX8_shuts 39 = .ok (.ireturn, 1) := by decide +kernel
theorem dX8_shuts_40 : decode cX8_shuts 40 = .ok (.aload_n 0, 1) := by decide +kernel
theorem dX8_shuts_41 : decode cX8_shuts 41 = .ok (.getfield 29, 3) := by decide +kernel
theorem dX8_shuts_44 : decode cX8_shuts 44 = .ok (.invokevirtual 142, 3) := by decide +kernel
theorem dX8_shuts_47 : decode cX8_shuts 47 = .ok (.iload_n 2, 1) := by decide +kernel
theorem dX8_shuts_48 : decode cX8_shuts 48 = .ok (.iconst 1, 1) := by decide +kernel
theorem dX8_shuts_49 : decode cX8_shuts 49 = .ok (.if_icmp .ne 17, 3) := by decide +kernel
theorem dX8_shuts_52 : decode cX8_shuts 52 = .ok (.aload_n 0, 1) := by decide +kernel
theorem dX8_shuts_53 : decode cX8_shuts 53 = .ok (.getfield 29, 3) := by decide +kernel
theorem dX8_shuts_56 : decode cX8_shuts 56 = .ok (.getfield 113, 3) := by decide +kernel
theorem dX8_shuts_59 : decode cX8_shuts 59 = .ok (.iload_n 1, 1) := by decide +kernel
theorem dX8_shuts_60 : decode cX8_shuts 60 = .ok (.invokevirtual 157, 3) := by decide +kernel
theorem dX8_shuts_63 : decode cX8_shuts 63 = .ok (.goto 14, 3) := by decide +kernel
theorem dX8_shuts_66 : decode cX8_shuts 66 = .ok (.aload_n 0, 1) := by decide +kernel
theorem dX8_shuts_67 : decode cX8_shuts 67 = .ok (.getfield 29, 3) := by decide +kernel
theorem dX8_shuts_70 : decode cX8_shuts 70 = .ok (.getfield 113, 3) := by decide +kernel
theorem dX8_shuts_73 : decode cX8_shuts 73 = .ok (.iload_n 1, 1) := by decide +kernel
theorem dX8_shuts_74 : decode cX8_shuts 74 = .ok (.invokevirtual 165, 3) := by decide +kernel
theorem dX8_shuts_77 : decode cX8_shuts 77 = .ok (.aload_n 0, 1) := by decide +kernel
theorem dX8_shuts_78 : decode cX8_shuts 78 = .ok (.invokevirtual 168, 3) := by decide +kernel
theorem dX8_shuts_81 : decode cX8_shuts 81 = .ok (.ireturn, 1) := by decide +kernel
theorem dX8_undo_0 : decode cX8_undo 0 = .ok (.aload_n 0, 1) := by decide +kernel
theorem dX8_undo_1 : decode cX8_undo 1 = .ok (.getfield 29, 3) := by decide +kernel
theorem dX8_undo_4 : decode cX8_undo 4 = .ok (.invokevirtual 172, 3) := by decide +kernel
theorem dX8_undo_7 : decode cX8_undo 7 = .ok (.ifCond .eq 13, 3) := by decide +kernel
theorem dX8_undo_10 : decode cX8_undo 10 = .ok (.aload_n 0, 1) := by decide +kernel
theorem dX8_undo_11 : decode cX8_undo 11 = .ok (.getfield 29, 3) := by decide +kernel
theorem dX8_undo_14 : decode cX8_undo 14 = .ok (.getfield 176, 3) := by decide +kernel
theorem dX8_undo_17 : decode cX8_undo 17 = .ok (.goto 5, 3) := by decide +kernel
theorem dX8_undo_20 : decode cX8_undo 20 = .ok (.bipush (-2), 2) := by decide +kernel
theorem dX8_undo_22 : decode cX8_undo 22 = .ok (.ireturn, 1) := by decide +kernel
theorem dX8_now_0 : decode cX8_now 0 = .ok (.iload_n 1, 1) := by decide +kernel
theorem dX8_now_1 : decode cX8_now 1 = .ok (.tableswitch 77 0 3 #[31, 42, 57, 72], 31) := by decide +kernel
theorem dX8_now_32 : decode cX8_now 32 = .ok (.aload_n 0, 1) := by decide +kernel
theorem dX8_now_33 : decode cX8_now 33 = .ok (.getfield 29, 3) := by decide +kernel
theorem dX8_now_36 : decode cX8_now 36 = .ok (.getfield 113, 3) := by decide +kernel
theorem dX8_now_39 : decode cX8_now 39 = .ok (.getfield 179, 3) := by decide +kernel
theorem dX8_now_42 : decode cX8_now 42 = .ok (.ireturn, 1) := by decide +kernel
theorem dX8_now_43 : decode cX8_now 43 = .ok (.aload_n 0, 1) := by decide +kernel
theorem dX8_now_44 : decode cX8_now 44 = .ok (.aload_n 0, 1) := by decide +kernel
theorem dX8_now_45 : decode cX8_now 45 = .ok (.getfield 29, 3) := by decide +kernel
theorem dX8_now_48 : decode cX8_now 48 = .ok (.getfield 113, 3) := by decide +kernel
theorem dX8_now_51 : decode cX8_now 51 = .ok (.getfield 129, 3) := by decide +kernel
theorem dX8_now_54 : decode cX8_now 54 = .ok (.invokevirtual 182, 3) := by decide +kernel
theorem dX8_now_57 : decode cX8_now 57 = .ok (.ireturn, 1) := by decide +kernel
theorem dX8_now_58 : decode cX8_now 58 = .ok (.aload_n 0, 1) := by decide +kernel
theorem dX8_now_59 : decode cX8_now 59 = .ok (.aload_n 0, 1) := by decide +kernel
theorem dX8_now_60 : decode cX8_now 60 = .ok (.getfield 29, 3) := by decide +kernel
theorem dX8_now_63 : decode cX8_now 63 = .ok (.getfield 113, 3) := by decide +kernel
theorem dX8_now_66 : decode cX8_now 66 = .ok (.getfield 117, 3) := by decide +kernel
theorem dX8_now_69 : decode cX8_now 69 = .ok (.invokevirtual 182, 3) := by decide +kernel
theorem dX8_now_72 : decode cX8_now 72 = .ok (.ireturn, 1) := by decide +kernel
theorem dX8_now_73 : decode cX8_now 73 = .ok (.aload_n 0, 1) := by decide +kernel
theorem dX8_now_74 : decode cX8_now 74 = .ok (.invokevirtual 186, 3) := by decide +kernel
theorem dX8_now_77 : decode cX8_now 77 = .ok (.ireturn, 1) := by decide +kernel
theorem dX8_now_78 : decode cX8_now 78 = .ok (.iconst (-1), 1) := by decide +kernel
theorem dX8_now_79 : decode cX8_now 79 = .ok (.ireturn, 1) := by decide +kernel
theorem dX8_way_0 : decode cX8_way 0 = .ok (.aload_n 0, 1) := by decide +kernel
theorem dX8_way_1 : decode cX8_way 1 = .ok (.iload_n 1, 1) := by decide +kernel
theorem dX8_way_2 : decode cX8_way 2 = .ok (.invokevirtual 110, 3) := by decide +kernel
theorem dX8_way_5 : decode cX8_way 5 = .ok (.ifCond .ne 16, 3) := by decide +kernel
theorem dX8_way_8 : decode cX8_way 8 = .ok (.aload_n 0, 1) := by decide +kernel
theorem dX8_way_9 : decode cX8_way 9 = .ok (.iload_n 2, 1) := by decide +kernel
theorem dX8_way_10 : decode cX8_way 10 = .ok (.invokevirtual 189, 3) := by decide +kernel
theorem dX8_way_13 : decode cX8_way 13 = .ok (.ifCond .ne 8, 3) := by decide +kernel
theorem dX8_way_16 : decode cX8_way 16 = .ok (.iload_n 3, 1) := by decide +kernel
theorem dX8_way_17 : decode cX8_way 17 = .ok (.iconst (-1), 1) := by decide +kernel
theorem dX8_way_18 : decode cX8_way 18 = .ok (.if_icmp .ge 5, 3) := by decide +kernel
theorem dX8_way_21 : decode cX8_way 21 = .ok (.iconst (-1), 1) := by decide +kernel
theorem dX8_way_22 : decode cX8_way 22 = .ok (.ireturn, 1) := by decide +kernel
theorem dX8_way_23 : decode cX8_way 23 = .ok (.aload_n 0, 1) := by decide +kernel
theorem dX8_way_24 : decode cX8_way 24 = .ok (.getfield 51, 3) := by decide +kernel
theorem dX8_way_27 : decode cX8_way 27 = .ok (.aload_n 0, 1) := by decide +kernel
theorem dX8_way_28 : decode cX8_way 28 = .ok (.getfield 19, 3) := by decide +kernel
theorem dX8_way_31 : decode cX8_way 31 = .ok (.iload_n 2, 1) := by decide +kernel
theorem dX8_way_32 : decode cX8_way 32 = .ok (.aload_n 0, 1) := by decide +kernel
theorem dX8_way_33 : decode cX8_way 33 = .ok (.iload_n 1, 1) := by decide +kernel
theorem dX8_way_34 : decode cX8_way 34 = .ok (.invokevirtual 192, 3) := by decide +kernel
theorem dX8_way_37 : decode cX8_way 37 = .ok (.invokevirtual 195, 3) := by decide +kernel
theorem dX8_way_40 : decode cX8_way 40 = .ok (.aload_n 0, 1) := by decide +kernel
theorem dX8_way_41 : decode cX8_way 41 = .ok (.getfield 29, 3) := by decide +kernel
theorem dX8_way_44 : decode cX8_way 44 = .ok (.getfield 113, 3) := by decide +kernel
theorem dX8_way_47 : decode cX8_way 47 = .ok (.getfield 122, 3) := by decide +kernel
theorem dX8_way_50 : decode cX8_way 50 = .ok (.iload_n 1, 1) := by decide +kernel
theorem dX8_way_51 : decode cX8_way 51 = .ok (.iaload, 1) := by decide +kernel
theorem dX8_way_52 : decode cX8_way 52 = .ok (.istore 4, 2) := by decide +kernel
theorem dX8_way_54 : decode cX8_way 54 = .ok (.aload_n 0, 1) := by decide +kernel
theorem dX8_way_55 : decode cX8_way 55 = .ok (.getfield 51, 3) := by decide +kernel
theorem dX8_way_58 : decode cX8_way 58 = .ok (.iload 4, 2) := by decide +kernel
theorem dX8_way_60 : decode cX8_way 60 = .ok (.invokevirtual 199, 3) := by decide +kernel
theorem dX8_way_63 : decode cX8_way 63 = .ok (.istore 5, 2) := by decide +kernel
theorem dX8_way_65 : decode cX8_way 65 = .ok (.iload 5, 2) := by decide +kernel
theorem dX8_way_67 : decode cX8_way 67 = .ok (.bipush (-9), 2) := by decide +kernel
theorem dX8_way_69 : decode cX8_way 69 = .ok (.if_icmp .eq 8, 3) := by decide +kernel
theorem dX8_way_72 : decode cX8_way 72 = .ok (.iload_n 3, 1) := by decide +kernel
theorem dX8_way_73 : decode cX8_way 73 = .ok (.iconst (-1), 1) := by decide +kernel
theorem dX8_way_74 : decode cX8_way 74 = .ok (.if_icmp .ne 6, 3) := by decide +kernel
theorem dX8_way_77 : decode cX8_way 77 = .ok (.iload 5, 2) := by decide +kernel
theorem dX8_way_79 : decode cX8_way 79 = .ok (.ireturn, 1) := by decide +kernel
theorem dX8_way_80 : decode cX8_way 80 = .ok (.iload_n 3, 1) := by decide +kernel
theorem dX8_way_81 : decode cX8_way 81 = .ok (.iload 5, 2) := by decide +kernel
theorem dX8_way_83 : decode cX8_way 83 = .ok (.if_icmp .ge 20, 3) := by decide +kernel
theorem dX8_way_86 : decode cX8_way 86 = .ok (.aload_n 0, 1) := by decide +kernel
theorem dX8_way_87 : decode cX8_way 87 = .ok (.getfield 51, 3) := by decide +kernel
theorem dX8_way_90 : decode cX8_way 90 = .ok (.aload_n 0, 1) := by decide +kernel
theorem dX8_way_91 : decode cX8_way 91 = .ok (.getfield 19, 3) := by decide +kernel
theorem dX8_way_94 : decode cX8_way 94 = .ok (.iload 4, 2) := by decide +kernel
theorem dX8_way_96 : decode cX8_way 96 = .ok (.iload_n 3, 1) := by decide +kernel
theorem dX8_way_97 : decode cX8_way 97 = .ok (.invokevirtual 202, 3) := by decide +kernel
theorem dX8_way_100 : decode cX8_way 100 = .ok (.goto 5, 3) := by decide +kernel
theorem dX8_way_103 : decode cX8_way 103 = .ok (.bipush (-9), 2) := by decide +kernel
theorem dX8_way_105 : decode cX8_way 105 = .ok (.ireturn, 1) := by decide +kernel
theorem dX8_lacks_0 : decode cX8_lacks 0 = .ok (.aload_n 0, 1) := by decide +kernel
theorem dX8_lacks_1 : decode cX8_lacks 1 = .ok (.iload_n 1, 1) := by decide +kernel
theorem dX8_lacks_2 : decode cX8_lacks 2 = .ok (.invokevirtual 110, 3) := by decide +kernel
theorem dX8_lacks_5 : decode cX8_lacks 5 = .ok (.ifCond .ne 11, 3) := by decide +kernel
theorem dX8_lacks_8 : decode cX8_lacks 8 = .ok (.aload_n 0, 1) := by decide +kernel
theorem dX8_lacks_9 : decode cX8_lacks 9 = .ok (.iload_n 2, 1) := by decide +kernel
theorem dX8_lacks_10 : decode cX8_lacks 10 = .ok (.invokevirtual 189, 3) := by decide +kernel
theorem dX8_lacks_13 : decode cX8_lacks 13 = .ok (.ifCond .eq 5, 3) := by decide +kernel
theorem dX8_lacks_16 : decode cX8_lacks 16 = .ok (.iconst (-1), 1) := by decide +kernel
theorem dX8_lacks_17 : decode cX8_lacks 17 = .ok (.ireturn, 1) := by decide +kernel
theorem dX8_lacks_18 : decode cX8_lacks 18 = .ok (.aload_n 0, 1) := by decide +kernel
theorem dX8_lacks_19 : decode cX8_lacks 19 = .ok (.getfield 51, 3) := by decide +kernel
theorem dX8_lacks_22 : decode cX8_lacks 22 = .ok (.aload_n 0, 1) := by decide +kernel
theorem dX8_lacks_23 : decode cX8_lacks 23 = .ok (.getfield 19, 3) := by decide +kernel
theorem dX8_lacks_26 : decode cX8_lacks 26 = .ok (.iload_n 2, 1) := by decide +kernel
theorem dX8_lacks_27 : decode cX8_lacks 27 = .ok (.aload_n 0, 1) := by decide +kernel
theorem dX8_lacks_28 : decode cX8_lacks 28 = .ok (.invokevirtual 206, 3) := by decide +kernel
theorem dX8_lacks_31 : decode cX8_lacks 31 = .ok (.aload_n 0, 1) := by decide +kernel
theorem dX8_lacks_32 : decode cX8_lacks 32 = .ok (.iload_n 1, 1) := by decide +kernel
theorem dX8_lacks_33 : decode cX8_lacks 33 = .ok (.invokevirtual 125, 3) := by decide +kernel
theorem dX8_lacks_36 : decode cX8_lacks 36 = .ok (.invokevirtual 209, 3) := by decide +kernel
theorem dX8_lacks_39 : decode cX8_lacks 39 = .ok (.aload_n 0, 1) := by decide +kernel
theorem dX8_lacks_40 : decode cX8_lacks 40 = .ok (.getfield 51, 3) := by decide +kernel
theorem dX8_lacks_43 : decode cX8_lacks 43 = .ok (.aload_n 0, 1) := by decide +kernel
theorem dX8_lacks_44 : decode cX8_lacks 44 = .ok (.getfield 29, 3) := by decide +kernel
theorem dX8_lacks_47 : decode cX8_lacks 47 = .ok (.getfield 113, 3) := by decide +kernel
theorem dX8_lacks_50 : decode cX8_lacks 50 = .ok (.getfield 122, 3) := by decide +kernel
theorem dX8_lacks_53 : decode cX8_lacks 53 = .ok (.iload_n 1, 1) := by decide +kernel
theorem dX8_lacks_54 : decode cX8_lacks 54 = .ok (.iaload, 1) := by decide +kernel
theorem dX8_lacks_55 : decode cX8_lacks 55 = .ok (.invokevirtual 199, 3) := by decide +kernel
theorem dX8_lacks_58 : decode cX8_lacks 58 = .ok (.ireturn, 1) := by decide +kernel
theorem dX8_must_0 : decode cX8_must 0 = .ok (.aload_n 0, 1) := by decide +kernel
theorem dX8_must_1 : decode cX8_must 1 = .ok (.iload_n 1, 1) := by decide +kernel
theorem dX8_must_2 : decode cX8_must 2 = .ok (.invokevirtual 110, 3) := by decide +kernel
theorem dX8_must_5 : decode cX8_must 5 = .ok (.ifCond .ne 11, 3) := by decide +kernel
theorem dX8_must_8 : decode cX8_must 8 = .ok (.aload_n 0, 1) := by decide +kernel
theorem dX8_must_9 : decode cX8_must 9 = .ok (.iload_n 2, 1) := by decide +kernel
theorem dX8_must_10 : decode cX8_must 10 = .ok (.invokevirtual 189, 3) := by decide +kernel
theorem dX8_must_13 : decode cX8_must 13 = .ok (.ifCond .eq 5, 3) := by decide +kernel
theorem dX8_must_16 : decode cX8_must 16 = .ok (.iconst (-1), 1) := by decide +kernel
theorem dX8_must_17 : decode cX8_must 17 = .ok (.ireturn, 1) := by decide +kernel
theorem dX8_must_18 : decode cX8_must 18 = .ok (.aload_n 0, 1) := by decide +kernel
theorem dX8_must_19 : decode cX8_must 19 = .ok (.getfield 29, 3) := by decide +kernel
theorem dX8_must_22 : decode cX8_must 22 = .ok (.getfield 113, 3) := by decide +kernel
theorem dX8_must_25 : decode cX8_must 25 = .ok (.getfield 122, 3) := by decide +kernel
theorem dX8_must_28 : decode cX8_must 28 = .ok (.iload_n 1, 1) := by decide +kernel
theorem dX8_must_29 : decode cX8_must 29 = .ok (.iaload, 1) := by decide +kernel
theorem dX8_must_30 : decode cX8_must 30 = .ok (.istore_n 3, 1) := by decide +kernel
theorem dX8_must_31 : decode cX8_must 31 = .ok (.aload_n 0, 1) := by decide +kernel
theorem dX8_must_32 : decode cX8_must 32 = .ok (.iload_n 1, 1) := by decide +kernel
theorem dX8_must_33 : decode cX8_must 33 = .ok (.invokevirtual 192, 3) := by decide +kernel
theorem dX8_must_36 : decode cX8_must 36 = .ok (.istore 4, 2) := by decide +kernel
theorem dX8_must_38 : decode cX8_must 38 = .ok (.aload_n 0, 1) := by decide +kernel
theorem dX8_must_39 : decode cX8_must 39 = .ok (.getfield 19, 3) := by decide +kernel
theorem dX8_must_42 : decode cX8_must 42 = .ok (.iload 4, 2) := by decide +kernel
theorem dX8_must_44 : decode cX8_must 44 = .ok (.iload_n 3, 1) := by decide +kernel
theorem dX8_must_45 : decode cX8_must 45 = .ok (.iload_n 2, 1) := by decide +kernel
theorem dX8_must_46 : decode cX8_must 46 = .ok (.invokevirtual 213, 3) := by decide +kernel
theorem dX8_must_49 : decode cX8_must 49 = .ok (.ifCond .ne 5, 3) := by decide +kernel
theorem dX8_must_52 : decode cX8_must 52 = .ok (.iconst 0, 1) := by decide +kernel
theorem dX8_must_53 : decode cX8_must 53 = .ok (.ireturn, 1) := by decide +kernel
theorem dX8_must_54 : decode cX8_must 54 = .ok (.iconst 0, 1) := by decide +kernel
theorem dX8_must_55 : decode cX8_must 55 = .ok (.istore 5, 2) := by decide +kernel
theorem dX8_must_57 : decode cX8_must 57 = .ok (.iconst 0, 1) := by decide +kernel
theorem dX8_must_58 : decode cX8_must 58 = .ok (.istore 6, 2) := by decide +kernel
theorem dX8_must_60 : decode cX8_must 60 = .ok (.iload 6, 2) := by decide +kernel
theorem dX8_must_62 : decode cX8_must 62 = .ok (.aload_n 0, 1) := by decide +kernel
theorem dX8_must_63 : decode cX8_must 63 = .ok (.getfield 19, 3) := by decide +kernel
theorem dX8_must_66 : decode cX8_must 66 = .ok (.getfield 216, 3) := by decide +kernel
theorem dX8_must_69 : decode cX8_must 69 = .ok (.if_icmp .ge 39, 3) := by decide +kernel
theorem dX8_must_72 : decode cX8_must 72 = .ok (.aload_n 0, 1) := by decide +kernel
theorem dX8_must_73 : decode cX8_must 73 = .ok (.getfield 19, 3) := by decide +kernel
theorem dX8_must_76 : decode cX8_must 76 = .ok (.iload 4, 2) := by decide +kernel
theorem dX8_must_78 : decode cX8_must 78 = .ok (.iconst 1, 1) := by decide +kernel
theorem dX8_must_79 : decode cX8_must 79 = .ok (.iload 6, 2) := by decide +kernel
theorem dX8_must_81 : decode cX8_must 81 = .ok (.ishl, 1) := by decide +kernel
theorem dX8_must_82 : decode cX8_must 82 = .ok (.iconst (-1), 1) := by decide +kernel
theorem dX8_must_83 : decode cX8_must 83 = .ok (.ixor, 1) := by decide +kernel
theorem dX8_must_84 : decode cX8_must 84 = .ok (.iand, 1) := by decide +kernel
theorem dX8_must_85 : decode cX8_must 85 = .ok (.iload_n 3, 1) := by decide +kernel
theorem dX8_must_86 : decode cX8_must 86 = .ok (.iload_n 2, 1) := by decide +kernel
theorem dX8_must_87 : decode cX8_must 87 = .ok (.invokevirtual 213, 3) := by decide +kernel
theorem dX8_must_90 : decode cX8_must 90 = .ok (.ifCond .ne 12, 3) := by decide +kernel
theorem dX8_must_93 : decode cX8_must 93 = .ok (.iload 5, 2) := by decide +kernel
theorem dX8_must_95 : decode cX8_must 95 = .ok (.iconst 1, 1) := by decide +kernel
theorem dX8_must_96 : decode cX8_must 96 = .ok (.iload 6, 2) := by decide +kernel
theorem dX8_must_98 : decode cX8_must 98 = .ok (.ishl, 1) := by decide +kernel
theorem dX8_must_99 : decode cX8_must 99 = .ok (.ior, 1) := by decide +kernel
theorem dX8_must_100 : decode cX8_must 100 = .ok (.istore 5, 2) := by decide +kernel
theorem dX8_must_102 : decode cX8_must 102 = .ok (.iinc 6 1, 3) := by decide +kernel
theorem dX8_must_105 : decode cX8_must 105 = .ok (.goto (-45), 3) := by decide +kernel
theorem dX8_must_108 : decode cX8_must 108 = .ok (.iload 5, 2) := by decide +kernel
theorem dX8_must_110 : decode cX8_must 110 = .ok (.ireturn, 1) := by decide +kernel
theorem dX8_odds_0 : decode cX8_odds 0 = .ok (.aload_n 0, 1) := by decide +kernel
theorem dX8_odds_1 : decode cX8_odds 1 = .ok (.iload_n 1, 1) := by decide +kernel
theorem dX8_odds_2 : decode cX8_odds 2 = .ok (.invokevirtual 110, 3) := by decide +kernel
theorem dX8_odds_5 : decode cX8_odds 5 = .ok (.ifCond .ne 32, 3) := by decide +kernel
theorem dX8_odds_8 : decode cX8_odds 8 = .ok (.aload_n 0, 1) := by decide +kernel
theorem dX8_odds_9 : decode cX8_odds 9 = .ok (.iload_n 2, 1) := by decide +kernel
theorem dX8_odds_10 : decode cX8_odds 10 = .ok (.invokevirtual 189, 3) := by decide +kernel
theorem dX8_odds_13 : decode cX8_odds 13 = .ok (.ifCond .ne 24, 3) := by decide +kernel
theorem dX8_odds_16 : decode cX8_odds 16 = .ok (.iload_n 3, 1) := by decide +kernel
theorem dX8_odds_17 : decode cX8_odds 17 = .ok (.ifCond .lt 20, 3) := by decide +kernel
theorem dX8_odds_20 : decode cX8_odds 20 = .ok (.iload_n 3, 1) := by decide +kernel
theorem dX8_odds_21 : decode cX8_odds 21 = .ok (.bipush 10, 2) := by decide +kernel
theorem dX8_odds_23 : decode cX8_odds 23 = .ok (.if_icmp .gt 14, 3) := by decide +kernel
theorem dX8_odds_26 : decode cX8_odds 26 = .ok (.iload 4, 2) := by decide +kernel
theorem dX8_odds_28 : decode cX8_odds 28 = .ok (.ifCond .lt 9, 3) := by decide +kernel
theorem dX8_odds_31 : decode cX8_odds 31 = .ok (.iload 4, 2) := by decide +kernel
theorem dX8_odds_33 : decode cX8_odds 33 = .ok (.iconst 1, 1) := by decide +kernel
theorem dX8_odds_34 : decode cX8_odds 34 = .ok (.if_icmp .le 5, 3) := by decide +kernel
theorem dX8_odds_37 : decode cX8_odds 37 = .ok (.iconst (-1), 1) := by decide +kernel
theorem dX8_odds_38 : decode cX8_odds 38 = .ok (.ireturn, 1) := by decide +kernel
theorem dX8_odds_39 : decode cX8_odds 39 = .ok (.aload_n 0, 1) := by decide +kernel
theorem dX8_odds_40 : decode cX8_odds 40 = .ok (.iload_n 1, 1) := by decide +kernel
theorem dX8_odds_41 : decode cX8_odds 41 = .ok (.invokevirtual 192, 3) := by decide +kernel
theorem dX8_odds_44 : decode cX8_odds 44 = .ok (.istore 5, 2) := by decide +kernel
theorem dX8_odds_46 : decode cX8_odds 46 = .ok (.iload 5, 2) := by decide +kernel
theorem dX8_odds_48 : decode cX8_odds 48 = .ok (.invokestatic 219, 3) := by decide +kernel
theorem dX8_odds_51 : decode cX8_odds 51 = .ok (.istore 6, 2) := by decide +kernel
theorem dX8_odds_53 : decode cX8_odds 53 = .ok (.aload_n 0, 1) := by decide +kernel
theorem dX8_odds_54 : decode cX8_odds 54 = .ok (.iload 5, 2) := by decide +kernel
theorem dX8_odds_56 : decode cX8_odds 56 = .ok (.aload_n 0, 1) := by decide +kernel
theorem dX8_odds_57 : decode cX8_odds 57 = .ok (.getfield 29, 3) := by decide +kernel
theorem dX8_odds_60 : decode cX8_odds 60 = .ok (.getfield 113, 3) := by decide +kernel
theorem dX8_odds_63 : decode cX8_odds 63 = .ok (.getfield 122, 3) := by decide +kernel
theorem dX8_odds_66 : decode cX8_odds 66 = .ok (.iload_n 1, 1) := by decide +kernel
theorem dX8_odds_67 : decode cX8_odds 67 = .ok (.iaload, 1) := by decide +kernel
theorem dX8_odds_68 : decode cX8_odds 68 = .ok (.iload_n 2, 1) := by decide +kernel
theorem dX8_odds_69 : decode cX8_odds 69 = .ok (.iload_n 3, 1) := by decide +kernel
theorem dX8_odds_70 : decode cX8_odds 70 = .ok (.invokevirtual 224, 3) := by decide +kernel
theorem dX8_odds_73 : decode cX8_odds 73 = .ok (.istore 7, 2) := by decide +kernel
theorem dX8_odds_75 : decode cX8_odds 75 = .ok (.bipush 10, 2) := by decide +kernel
theorem dX8_odds_77 : decode cX8_odds 77 = .ok (.iload 6, 2) := by decide +kernel
theorem dX8_odds_79 : decode cX8_odds 79 = .ok (.invokestatic 228, 3) := by decide +kernel
theorem dX8_odds_82 : decode cX8_odds 82 = .ok (.istore 8, 2) := by decide +kernel
theorem dX8_odds_84 : decode cX8_odds 84 = .ok (.iconst 0, 1) := by decide +kernel
theorem dX8_odds_85 : decode cX8_odds 85 = .ok (.istore 9, 2) := by decide +kernel
theorem dX8_odds_87 : decode cX8_odds 87 = .ok (.iload 9, 2) := by decide +kernel
theorem dX8_odds_89 : decode cX8_odds 89 = .ok (.iload 6, 2) := by decide +kernel
theorem dX8_odds_91 : decode cX8_odds 91 = .ok (.if_icmp .ge 61, 3) := by decide +kernel
theorem dX8_odds_94 : decode cX8_odds 94 = .ok (.iload 7, 2) := by decide +kernel
theorem dX8_odds_96 : decode cX8_odds 96 = .ok (.iconst 2, 1) := by decide +kernel
theorem dX8_odds_97 : decode cX8_odds 97 = .ok (.irem, 1) := by decide +kernel
theorem dX8_odds_98 : decode cX8_odds 98 = .ok (.ifCond .ne 22, 3) := by decide +kernel
theorem dX8_odds_101 : decode cX8_odds 101 = .ok (.iload 8, 2) := by decide +kernel
theorem dX8_odds_103 : decode cX8_odds 103 = .ok (.iconst 2, 1) := by decide +kernel
theorem dX8_odds_104 : decode cX8_odds 104 = .ok (.irem, 1) := by decide +kernel
theorem dX8_odds_105 : decode cX8_odds 105 = .ok (.ifCond .ne 15, 3) := by decide +kernel
theorem dX8_odds_108 : decode cX8_odds 108 = .ok (.iload 7, 2) := by decide +kernel
theorem dX8_odds_110 : decode cX8_odds 110 = .ok (.iconst 2, 1) := by decide +kernel
theorem dX8_odds_111 : decode cX8_odds 111 = .ok (.idiv, 1) := by decide +kernel
theorem dX8_odds_112 : decode cX8_odds 112 = .ok (.istore 7, 2) := by decide +kernel
theorem dX8_odds_114 : decode cX8_odds 114 = .ok (.iload 8, 2) := by decide +kernel
theorem dX8_odds_116 : decode cX8_odds 116 = .ok (.iconst 2, 1) := by decide +kernel
theorem dX8_odds_117 : decode cX8_odds 117 = .ok (.idiv, 1) := by decide +kernel
theorem dX8_odds_118 : decode cX8_odds 118 = .ok (.istore 8, 2) := by decide +kernel
theorem dX8_odds_120 : decode cX8_odds 120 = .ok (.iload 7, 2) := by decide +kernel
theorem dX8_odds_122 : decode cX8_odds 122 = .ok (.iconst 5, 1) := by decide +kernel
theorem dX8_odds_123 : decode cX8_odds 123 = .ok (.irem, 1) := by decide +kernel
theorem dX8_odds_124 : decode cX8_odds 124 = .ok (.ifCond .ne 22, 3) := by decide +kernel
theorem dX8_odds_127 : decode cX8_odds 127 = .ok (.iload 8, 2) := by decide +kernel
theorem dX8_odds_129 : decode cX8_odds 129 = .ok (.iconst 5, 1) := by decide +kernel
theorem dX8_odds_130 : decode cX8_odds 130 = .ok (.irem, 1) := by decide +kernel
theorem dX8_odds_131 : decode cX8_odds 131 = .ok (.ifCond .ne 15, 3) := by decide +kernel
theorem dX8_odds_134 : decode cX8_odds 134 = .ok (.iload 7, 2) := by decide +kernel
theorem dX8_odds_136 : decode cX8_odds 136 = .ok (.iconst 5, 1) := by decide +kernel
theorem dX8_odds_137 : decode cX8_odds 137 = .ok (.idiv, 1) := by decide +kernel
theorem dX8_odds_138 : decode cX8_odds 138 = .ok (.istore 7, 2) := by decide +kernel
theorem dX8_odds_140 : decode cX8_odds 140 = .ok (.iload 8, 2) := by decide +kernel
theorem dX8_odds_142 : decode cX8_odds 142 = .ok (.iconst 5, 1) := by decide +kernel
theorem dX8_odds_143 : decode cX8_odds 143 = .ok (.idiv, 1) := by decide +kernel
theorem dX8_odds_144 : decode cX8_odds 144 = .ok (.istore 8, 2) := by decide +kernel
theorem dX8_odds_146 : decode cX8_odds 146 = .ok (.iinc 9 1, 3) := by decide +kernel
theorem dX8_odds_149 : decode cX8_odds 149 = .ok (.goto (-62), 3) := by decide +kernel
theorem dX8_odds_152 : decode cX8_odds 152 = .ok (.iload 4, 2) := by decide +kernel
theorem dX8_odds_154 : decode cX8_odds 154 = .ok (.ifCond .ne 8, 3) := by decide +kernel
theorem dX8_odds_157 : decode cX8_odds 157 = .ok (.iload 7, 2) := by decide +kernel
theorem dX8_odds_159 : decode cX8_odds 159 = .ok (.goto 5, 3) := by decide +kernel
theorem dX8_odds_162 : decode cX8_odds 162 = .ok (.iload 8, 2) := by decide +kernel
theorem dX8_odds_164 : decode cX8_odds 164 = .ok (.ireturn, 1) := by decide +kernel
theorem dX8_meeting_0 : decode cX8_meeting 0 = .ok (.aload_n 0, 1) := by decide +kernel
theorem dX8_meeting_1 : decode cX8_meeting 1 = .ok (.iload_n 1, 1) := by decide +kernel
theorem dX8_meeting_2 : decode cX8_meeting 2 = .ok (.invokevirtual 110, 3) := by decide +kernel
theorem dX8_meeting_5 : decode cX8_meeting 5 = .ok (.ifCond .ne 24, 3) := by decide +kernel
theorem dX8_meeting_8 : decode cX8_meeting 8 = .ok (.aload_n 0, 1) := by decide +kernel
theorem dX8_meeting_9 : decode cX8_meeting 9 = .ok (.iload_n 2, 1) := by decide +kernel
theorem dX8_meeting_10 : decode cX8_meeting 10 = .ok (.invokevirtual 110, 3) := by decide +kernel
theorem dX8_meeting_13 : decode cX8_meeting 13 = .ok (.ifCond .ne 16, 3) := by decide +kernel
theorem dX8_meeting_16 : decode cX8_meeting 16 = .ok (.iload_n 1, 1) := by decide +kernel
theorem dX8_meeting_17 : decode cX8_meeting 17 = .ok (.iload_n 2, 1) := by decide +kernel
theorem dX8_meeting_18 : decode cX8_meeting 18 = .ok (.if_icmp .eq 11, 3) := by decide +kernel
theorem dX8_meeting_21 : decode cX8_meeting 21 = .ok (.aload_n 0, 1) := by decide +kernel
theorem dX8_meeting_22 : decode cX8_meeting 22 = .ok (.iload_n 3, 1) := by decide +kernel
theorem dX8_meeting_23 : decode cX8_meeting 23 = .ok (.invokevirtual 94, 3) := by decide +kernel
theorem dX8_meeting_26 : decode cX8_meeting 26 = .ok (.ifCond .eq 5, 3) := by decide +kernel
theorem dX8_meeting_29 : decode cX8_meeting 29 = .ok (.iconst (-1), 1) := by decide +kernel
theorem dX8_meeting_30 : decode cX8_meeting 30 = .ok (.ireturn, 1) := by decide +kernel
theorem dX8_meeting_31 : decode cX8_meeting 31 = .ok (.aload_n 0, 1) := by decide +kernel
theorem dX8_meeting_32 : decode cX8_meeting 32 = .ok (.iload_n 1, 1) := by decide +kernel
theorem dX8_meeting_33 : decode cX8_meeting 33 = .ok (.iload_n 2, 1) := by decide +kernel
theorem dX8_meeting_34 : decode cX8_meeting 34 = .ok (.iload_n 3, 1) := by decide +kernel
theorem dX8_meeting_35 : decode cX8_meeting 35 = .ok (.invokevirtual 149, 3) := by decide +kernel
theorem dX8_meeting_38 : decode cX8_meeting 38 = .ok (.ireturn, 1) := by decide +kernel
theorem dX8_theatre_0 : decode cX8_theatre 0 = .ok (.iload_n 1, 1) := by decide +kernel
theorem dX8_theatre_1 : decode cX8_theatre 1 = .ok (.iconst 1, 1) := by decide +kernel
theorem dX8_theatre_2 : decode cX8_theatre 2 = .ok (.if_icmp .lt 22, 3) := by decide +kernel
theorem dX8_theatre_5 : decode cX8_theatre 5 = .ok (.iload_n 1, 1) := by decide +kernel
theorem dX8_theatre_6 : decode cX8_theatre 6 = .ok (.bipush 99, 2) := by decide +kernel
theorem dX8_theatre_8 : decode cX8_theatre 8 = .ok (.if_icmp .gt 16, 3) := by decide +kernel
theorem dX8_theatre_11 : decode cX8_theatre 11 = .ok (.iload_n 2, 1) := by decide +kernel
theorem dX8_theatre_12 : decode cX8_theatre 12 = .ok (.iconst (-1), 1) := by decide +kernel
theorem dX8_theatre_13 : decode cX8_theatre 13 = .ok (.if_icmp .eq 13, 3) := by decide +kernel
theorem dX8_theatre_16 : decode cX8_theatre 16 = .ok (.aload_n 0, 1) := by decide +kernel
theorem dX8_theatre_17 : decode cX8_theatre 17 = .ok (.iload_n 2, 1) := by decide +kernel
theorem dX8_theatre_18 : decode cX8_theatre 18 = .ok (.invokevirtual 110, 3) := by decide +kernel
theorem dX8_theatre_21 : decode cX8_theatre 21 = .ok (.ifCond .eq 5, 3) := by decide +kernel
theorem dX8_theatre_24 : decode cX8_theatre 24 = .ok (.iconst (-1), 1) := by decide +kernel
theorem dX8_theatre_25 : decode cX8_theatre 25 = .ok (.ireturn, 1) := by decide +kernel
theorem dX8_theatre_26 : decode cX8_theatre 26 = .ok (.aload_n 0, 1) := by decide +kernel
theorem dX8_theatre_27 : decode cX8_theatre 27 = .ok (.getfield 58, 3) := by decide +kernel
theorem dX8_theatre_30 : decode cX8_theatre 30 = .ok (.iload_n 1, 1) := by decide +kernel
theorem dX8_theatre_31 : decode cX8_theatre 31 = .ok (.aload_n 0, 1) := by decide +kernel
theorem dX8_theatre_32 : decode cX8_theatre 32 = .ok (.getfield 19, 3) := by decide +kernel
theorem dX8_theatre_35 : decode cX8_theatre 35 = .ok (.getfield 232, 3) := by decide +kernel
theorem dX8_theatre_38 : decode cX8_theatre 38 = .ok (.invokevirtual 235, 3) := by decide +kernel
theorem dX8_theatre_41 : decode cX8_theatre 41 = .ok (.iconst 0, 1) := by decide +kernel
theorem dX8_theatre_42 : decode cX8_theatre 42 = .ok (.istore_n 3, 1) := by decide +kernel
theorem dX8_theatre_43 : decode cX8_theatre 43 = .ok (.iload_n 3, 1) := by decide +kernel
theorem dX8_theatre_44 : decode cX8_theatre 44 = .ok (.aload_n 0, 1) := by decide +kernel
theorem dX8_theatre_45 : decode cX8_theatre 45 = .ok (.getfield 19, 3) := by decide +kernel
theorem dX8_theatre_48 : decode cX8_theatre 48 = .ok (.getfield 232, 3) := by decide +kernel
theorem dX8_theatre_51 : decode cX8_theatre 51 = .ok (.if_icmp .ge 22, 3) := by decide +kernel
theorem dX8_theatre_54 : decode cX8_theatre 54 = .ok (.aload_n 0, 1) := by decide +kernel
theorem dX8_theatre_55 : decode cX8_theatre 55 = .ok (.getfield 58, 3) := by decide +kernel
theorem dX8_theatre_58 : decode cX8_theatre 58 = .ok (.iload_n 3, 1) := by decide +kernel
theorem dX8_theatre_59 : decode cX8_theatre 59 = .ok (.aload_n 0, 1) := by decide +kernel
theorem dX8_theatre_60 : decode cX8_theatre 60 = .ok (.iload_n 3, 1) := by decide +kernel
theorem dX8_theatre_61 : decode cX8_theatre 61 = .ok (.invokevirtual 125, 3) := by decide +kernel
theorem dX8_theatre_64 : decode cX8_theatre 64 = .ok (.invokevirtual 237, 3) := by decide +kernel
theorem dX8_theatre_67 : decode cX8_theatre 67 = .ok (.iinc 3 1, 3) := by decide +kernel
theorem dX8_theatre_70 : decode cX8_theatre 70 = .ok (.goto (-27), 3) := by decide +kernel
theorem dX8_theatre_73 : decode cX8_theatre 73 = .ok (.aload_n 0, 1) := by decide +kernel
theorem dX8_theatre_74 : decode cX8_theatre 74 = .ok (.getfield 58, 3) := by decide +kernel
theorem dX8_theatre_77 : decode cX8_theatre 77 = .ok (.invokevirtual 240, 3) := by decide +kernel
theorem dX8_theatre_80 : decode cX8_theatre 80 = .ok (.istore_n 3, 1) := by decide +kernel
theorem dX8_theatre_81 : decode cX8_theatre 81 = .ok (.iload_n 3, 1) := by decide +kernel
theorem dX8_theatre_82 : decode cX8_theatre 82 = .ok (.bipush (-9), 2) := by decide +kernel
theorem dX8_theatre_84 : decode cX8_theatre 84 = .ok (.if_icmp .eq 8, 3) := by decide +kernel
theorem dX8_theatre_87 : decode cX8_theatre 87 = .ok (.iload_n 2, 1) := by decide +kernel
theorem dX8_theatre_88 : decode cX8_theatre 88 = .ok (.iconst (-1), 1) := by decide +kernel
theorem dX8_theatre_89 : decode cX8_theatre 89 = .ok (.if_icmp .ne 7, 3) := by decide +kernel
theorem dX8_theatre_92 : decode cX8_theatre 92 = .ok (.iload_n 3, 1) := by decide +kernel
theorem dX8_theatre_93 : decode cX8_theatre 93 = .ok (.goto 12, 3) := by decide +kernel
theorem dX8_theatre_96 : decode cX8_theatre 96 = .ok (.aload_n 0, 1) := by decide +kernel
theorem dX8_theatre_97 : decode cX8_theatre 97 = .ok (.getfield 58, 3) := by decide +kernel
theorem dX8_theatre_100 : decode cX8_theatre 100 = .ok (.getfield 243, 3) := by decide +kernel
theorem dX8_theatre_103 : decode cX8_theatre 103 = .ok (.iload_n 2, 1) := by decide +kernel
theorem dX8_theatre_104 : decode cX8_theatre 104 = .ok (.iaload, 1) := by decide +kernel
theorem dX8_theatre_105 : decode cX8_theatre 105 = .ok (.ireturn, 1) := by decide +kernel
theorem dX8_narrow_0 : decode cX8_narrow 0 = .ok (.aload_n 0, 1) := by decide +kernel
theorem dX8_narrow_1 : decode cX8_narrow 1 = .ok (.iload_n 1, 1) := by decide +kernel
theorem dX8_narrow_2 : decode cX8_narrow 2 = .ok (.invokevirtual 94, 3) := by decide +kernel
theorem dX8_narrow_5 : decode cX8_narrow 5 = .ok (.ifCond .eq 5, 3) := by decide +kernel
theorem dX8_narrow_8 : decode cX8_narrow 8 = .ok (.iconst (-1), 1) := by decide +kernel
theorem dX8_narrow_9 : decode cX8_narrow 9 = .ok (.ireturn, 1) := by decide +kernel
theorem dX8_narrow_10 : decode cX8_narrow 10 = .ok (.bipush (-9), 2) := by decide +kernel
theorem dX8_narrow_12 : decode cX8_narrow 12 = .ok (.istore_n 2, 1) := by decide +kernel
theorem dX8_narrow_13 : decode cX8_narrow 13 = .ok (.iconst 0, 1) := by decide +kernel
theorem dX8_narrow_14 : decode cX8_narrow 14 = .ok (.istore_n 3, 1) := by decide +kernel
theorem dX8_narrow_15 : decode cX8_narrow 15 = .ok (.iload_n 3, 1) := by decide +kernel
theorem dX8_narrow_16 : decode cX8_narrow 16 = .ok (.iconst 1, 1) := by decide +kernel
theorem dX8_narrow_17 : decode cX8_narrow 17 = .ok (.aload_n 0, 1) := by decide +kernel
theorem dX8_narrow_18 : decode cX8_narrow 18 = .ok (.getfield 19, 3) := by decide +kernel
theorem dX8_narrow_21 : decode cX8_narrow 21 = .ok (.getfield 232, 3) := by decide +kernel
theorem dX8_narrow_24 : decode cX8_narrow 24 = .ok (.ishl, 1) := by decide +kernel
theorem dX8_narrow_25 : decode cX8_narrow 25 = .ok (.if_icmp .ge 57, 3) := by decide +kernel
theorem dX8_narrow_28 : decode cX8_narrow 28 = .ok (.iload_n 2, 1) := by decide +kernel
theorem dX8_narrow_29 : decode cX8_narrow 29 = .ok (.bipush (-9), 2) := by decide +kernel
theorem dX8_narrow_31 : decode cX8_narrow 31 = .ok (.if_icmp .eq 14, 3) := by decide +kernel
theorem dX8_narrow_34 : decode cX8_narrow 34 = .ok (.iload_n 3, 1) := by decide +kernel
theorem dX8_narrow_35 : decode cX8_narrow 35 = .ok (.invokestatic 219, 3) := by decide +kernel
theorem dX8_narrow_38 : decode cX8_narrow 38 = .ok (.iload_n 2, 1) := by decide +kernel
theorem dX8_narrow_39 : decode cX8_narrow 39 = .ok (.invokestatic 219, 3) := by decide +kernel
theorem dX8_narrow_42 : decode cX8_narrow 42 = .ok (.if_icmp .ge 7, 3) := by decide +kernel
theorem dX8_narrow_45 : decode cX8_narrow 45 = .ok (.iconst 1, 1) := by decide +kernel
theorem dX8_narrow_46 : decode cX8_narrow 46 = .ok (.goto 4, 3) := by decide +kernel
theorem dX8_narrow_49 : decode cX8_narrow 49 = .ok (.iconst 0, 1) := by decide +kernel
theorem dX8_narrow_50 : decode cX8_narrow 50 = .ok (.istore 4, 2) := by decide +kernel
theorem dX8_narrow_52 : decode cX8_narrow 52 = .ok (.iload 4, 2) := by decide +kernel
theorem dX8_narrow_54 : decode cX8_narrow 54 = .ok (.ifCond .eq 22, 3) := by decide +kernel
theorem dX8_narrow_57 : decode cX8_narrow 57 = .ok (.aload_n 0, 1) := by decide +kernel
theorem dX8_narrow_58 : decode cX8_narrow 58 = .ok (.iload_n 3, 1) := by decide +kernel
theorem dX8_narrow_59 : decode cX8_narrow 59 = .ok (.invokevirtual 246, 3) := by decide +kernel
theorem dX8_narrow_62 : decode cX8_narrow 62 = .ok (.aload_n 0, 1) := by decide +kernel
theorem dX8_narrow_63 : decode cX8_narrow 63 = .ok (.getfield 19, 3) := by decide +kernel
theorem dX8_narrow_66 : decode cX8_narrow 66 = .ok (.getfield 104, 3) := by decide +kernel
theorem dX8_narrow_69 : decode cX8_narrow 69 = .ok (.iload_n 1, 1) := by decide +kernel
theorem dX8_narrow_70 : decode cX8_narrow 70 = .ok (.iaload, 1) := by decide +kernel
theorem dX8_narrow_71 : decode cX8_narrow 71 = .ok (.if_icmp .gt 5, 3) := by decide +kernel
theorem dX8_narrow_74 : decode cX8_narrow 74 = .ok (.iload_n 3, 1) := by decide +kernel
theorem dX8_narrow_75 : decode cX8_narrow 75 = .ok (.istore_n 2, 1) := by decide +kernel
theorem dX8_narrow_76 : decode cX8_narrow 76 = .ok (.iinc 3 1, 3) := by decide +kernel
theorem dX8_narrow_79 : decode cX8_narrow 79 = .ok (.goto (-64), 3) := by decide +kernel
theorem dX8_narrow_82 : decode cX8_narrow 82 = .ok (.iload_n 2, 1) := by decide +kernel
theorem dX8_narrow_83 : decode cX8_narrow 83 = .ok (.ireturn, 1) := by decide +kernel
theorem dX8_order_0 : decode cX8_order 0 = .ok (.aload_n 0, 1) := by decide +kernel
theorem dX8_order_1 : decode cX8_order 1 = .ok (.iload_n 1, 1) := by decide +kernel
theorem dX8_order_2 : decode cX8_order 2 = .ok (.invokevirtual 110, 3) := by decide +kernel
theorem dX8_order_5 : decode cX8_order 5 = .ok (.ifCond .eq 5, 3) := by decide +kernel
theorem dX8_order_8 : decode cX8_order 8 = .ok (.iconst (-1), 1) := by decide +kernel
theorem dX8_order_9 : decode cX8_order 9 = .ok (.ireturn, 1) := by decide +kernel
theorem dX8_order_10 : decode cX8_order 10 = .ok (.iconst (-1), 1) := by decide +kernel
theorem dX8_order_11 : decode cX8_order 11 = .ok (.istore_n 2, 1) := by decide +kernel
theorem dX8_order_12 : decode cX8_order 12 = .ok (.iconst 0, 1) := by decide +kernel
theorem dX8_order_13 : decode cX8_order 13 = .ok (.istore_n 3, 1) := by decide +kernel
theorem dX8_order_14 : decode cX8_order 14 = .ok (.iload_n 3, 1) := by decide +kernel
theorem dX8_order_15 : decode cX8_order 15 = .ok (.aload_n 0, 1) := by decide +kernel
theorem dX8_order_16 : decode cX8_order 16 = .ok (.getfield 19, 3) := by decide +kernel
theorem dX8_order_19 : decode cX8_order 19 = .ok (.getfield 232, 3) := by decide +kernel
theorem dX8_order_22 : decode cX8_order 22 = .ok (.if_icmp .ge 20, 3) := by decide +kernel
theorem dX8_order_25 : decode cX8_order 25 = .ok (.aload_n 0, 1) := by decide +kernel
theorem dX8_order_26 : decode cX8_order 26 = .ok (.iload_n 3, 1) := by decide +kernel
theorem dX8_order_27 : decode cX8_order 27 = .ok (.invokevirtual 249, 3) := by decide +kernel
theorem dX8_order_30 : decode cX8_order 30 = .ok (.iload_n 1, 1) := by decide +kernel
theorem dX8_order_31 : decode cX8_order 31 = .ok (.if_icmp .ne 5, 3) := by decide +kernel
theorem dX8_order_34 : decode cX8_order 34 = .ok (.iload_n 3, 1) := by decide +kernel
theorem dX8_order_35 : decode cX8_order 35 = .ok (.istore_n 2, 1) := by decide +kernel
theorem dX8_order_36 : decode cX8_order 36 = .ok (.iinc 3 1, 3) := by decide +kernel
theorem dX8_order_39 : decode cX8_order 39 = .ok (.goto (-25), 3) := by decide +kernel
theorem dX8_order_42 : decode cX8_order 42 = .ok (.iload_n 2, 1) := by decide +kernel
theorem dX8_order_43 : decode cX8_order 43 = .ok (.ireturn, 1) := by decide +kernel
theorem dX8_gate_0 : decode cX8_gate 0 = .ok (.aload_n 0, 1) := by decide +kernel
theorem dX8_gate_1 : decode cX8_gate 1 = .ok (.iload_n 1, 1) := by decide +kernel
theorem dX8_gate_2 : decode cX8_gate 2 = .ok (.invokevirtual 110, 3) := by decide +kernel
theorem dX8_gate_5 : decode cX8_gate 5 = .ok (.ifCond .ne 13, 3) := by decide +kernel
theorem dX8_gate_8 : decode cX8_gate 8 = .ok (.iload_n 2, 1) := by decide +kernel
theorem dX8_gate_9 : decode cX8_gate 9 = .ok (.ifCond .lt 9, 3) := by decide +kernel
theorem dX8_gate_12 : decode cX8_gate 12 = .ok (.iload_n 2, 1) := by decide +kernel
theorem dX8_gate_13 : decode cX8_gate 13 = .ok (.bipush 40, 2) := by decide +kernel
theorem dX8_gate_15 : decode cX8_gate 15 = .ok (.if_icmp .le 5, 3) := by decide +kernel
theorem dX8_gate_18 : decode cX8_gate 18 = .ok (.iconst (-1), 1) := by decide +kernel
theorem dX8_gate_19 : decode cX8_gate 19 = .ok (.ireturn, 1) := by decide +kernel
theorem dX8_gate_20 : decode cX8_gate 20 = .ok (.aload_n 0, 1) := by decide +kernel
theorem dX8_gate_21 : decode cX8_gate 21 = .ok (.getfield 44, 3) := by decide +kernel
theorem dX8_gate_24 : decode cX8_gate 24 = .ok (.iload_n 1, 1) := by decide +kernel
theorem dX8_gate_25 : decode cX8_gate 25 = .ok (.iload_n 2, 1) := by decide +kernel
theorem dX8_gate_26 : decode cX8_gate 26 = .ok (.invokevirtual 252, 3) := by decide +kernel
theorem dX8_gate_29 : decode cX8_gate 29 = .ok (.ifCond .eq 13, 3) := by decide +kernel
theorem dX8_gate_32 : decode cX8_gate 32 = .ok (.aload_n 0, 1) := by decide +kernel
theorem dX8_gate_33 : decode cX8_gate 33 = .ok (.getfield 44, 3) := by decide +kernel
theorem dX8_gate_36 : decode cX8_gate 36 = .ok (.getfield 91, 3) := by decide +kernel
theorem dX8_gate_39 : decode cX8_gate 39 = .ok (.goto 5, 3) := by decide +kernel
theorem dX8_gate_42 : decode cX8_gate 42 = .ok (.bipush (-3), 2) := by decide +kernel
theorem dX8_gate_44 : decode cX8_gate 44 = .ok (.ireturn, 1) := by decide +kernel
theorem dX8_forget_0 : decode cX8_forget 0 = .ok (.aload_n 0, 1) := by decide +kernel
theorem dX8_forget_1 : decode cX8_forget 1 = .ok (.getfield 44, 3) := by decide +kernel
theorem dX8_forget_4 : decode cX8_forget 4 = .ok (.getfield 91, 3) := by decide +kernel
theorem dX8_forget_7 : decode cX8_forget 7 = .ok (.istore_n 1, 1) := by decide +kernel
theorem dX8_forget_8 : decode cX8_forget 8 = .ok (.aload_n 0, 1) := by decide +kernel
theorem dX8_forget_9 : decode cX8_forget 9 = .ok (.getfield 44, 3) := by decide +kernel
theorem dX8_forget_12 : decode cX8_forget 12 = .ok (.iconst 0, 1) := by decide +kernel
theorem dX8_forget_13 : decode cX8_forget 13 = .ok (.putfield 91, 3) := by decide +kernel
theorem dX8_forget_16 : decode cX8_forget 16 = .ok (.iload_n 1, 1) := by decide +kernel
theorem dX8_forget_17 : decode cX8_forget 17 = .ok (.ireturn, 1) := by decide +kernel
theorem dX8_fits_0 : decode cX8_fits 0 = .ok (.aload_n 0, 1) := by decide +kernel
theorem dX8_fits_1 : decode cX8_fits 1 = .ok (.iload_n 1, 1) := by decide +kernel
theorem dX8_fits_2 : decode cX8_fits 2 = .ok (.invokevirtual 110, 3) := by decide +kernel
theorem dX8_fits_5 : decode cX8_fits 5 = .ok (.ifCond .eq 7, 3) := by decide +kernel
theorem dX8_fits_8 : decode cX8_fits 8 = .ok (.iconst (-1), 1) := by decide +kernel
theorem dX8_fits_9 : decode cX8_fits 9 = .ok (.goto 8, 3) := by decide +kernel
theorem dX8_fits_12 : decode cX8_fits 12 = .ok (.aload_n 0, 1) := by decide +kernel
theorem dX8_fits_13 : decode cX8_fits 13 = .ok (.iload_n 1, 1) := by decide +kernel
theorem dX8_fits_14 : decode cX8_fits 14 = .ok (.invokevirtual 254, 3) := by decide +kernel
theorem dX8_fits_17 : decode cX8_fits 17 = .ok (.ireturn, 1) := by decide +kernel
theorem dX8_mark_0 : decode cX8_mark 0 = .ok (.aload_n 0, 1) := by decide +kernel
theorem dX8_mark_1 : decode cX8_mark 1 = .ok (.iload_n 2, 1) := by decide +kernel
theorem dX8_mark_2 : decode cX8_mark 2 = .ok (.invokevirtual 110, 3) := by decide +kernel
theorem dX8_mark_5 : decode cX8_mark 5 = .ok (.ifCond .eq 7, 3) := by decide +kernel
theorem dX8_mark_8 : decode cX8_mark 8 = .ok (.ldc_w 257, 3) := by decide +kernel
theorem dX8_mark_11 : decode cX8_mark 11 = .ok (.ireturn, 1) := by decide +kernel
theorem dX8_mark_12 : decode cX8_mark 12 = .ok (.iload_n 1, 1) := by decide +kernel
theorem dX8_mark_13 : decode cX8_mark 13 = .ok (.tableswitch 75 0 5 #[39, 45, 51, 57, 63, 69], 39) := by decide +kernel
theorem dX8_mark_52 : decode cX8_mark 52 = .ok (.aload_n 0, 1) := by decide +kernel
theorem dX8_mark_53 : decode cX8_mark 53 = .ok (.iload_n 2, 1) := by decide +kernel
theorem dX8_mark_54 : decode cX8_mark 54 = .ok (.invokevirtual 258, 3) := by decide +kernel
theorem dX8_mark_57 : decode cX8_mark 57 = .ok (.ireturn, 1) := by decide +kernel
theorem dX8_mark_58 : decode cX8_mark 58 = .ok (.aload_n 0, 1) := by decide +kernel
theorem dX8_mark_59 : decode cX8_mark 59 = .ok (.iload_n 2, 1) := by decide +kernel
theorem dX8_mark_60 : decode cX8_mark 60 = .ok (.invokevirtual 261, 3) := by decide +kernel
theorem dX8_mark_63 : decode cX8_mark 63 = .ok (.ireturn, 1) := by decide +kernel
theorem dX8_mark_64 : decode cX8_mark 64 = .ok (.aload_n 0, 1) := by decide +kernel
theorem dX8_mark_65 : decode cX8_mark 65 = .ok (.iload_n 2, 1) := by decide +kernel
theorem dX8_mark_66 : decode cX8_mark 66 = .ok (.invokevirtual 264, 3) := by decide +kernel
theorem dX8_mark_69 : decode cX8_mark 69 = .ok (.ireturn, 1) := by decide +kernel
theorem dX8_mark_70 : decode cX8_mark 70 = .ok (.aload_n 0, 1) := by decide +kernel
theorem dX8_mark_71 : decode cX8_mark 71 = .ok (.iload_n 2, 1) := by decide +kernel
theorem dX8_mark_72 : decode cX8_mark 72 = .ok (.invokevirtual 267, 3) := by decide +kernel
theorem dX8_mark_75 : decode cX8_mark 75 = .ok (.ireturn, 1) := by decide +kernel
theorem dX8_mark_76 : decode cX8_mark 76 = .ok (.aload_n 0, 1) := by decide +kernel
theorem dX8_mark_77 : decode cX8_mark 77 = .ok (.iload_n 2, 1) := by decide +kernel
theorem dX8_mark_78 : decode cX8_mark 78 = .ok (.invokevirtual 270, 3) := by decide +kernel
theorem dX8_mark_81 : decode cX8_mark 81 = .ok (.ireturn, 1) := by decide +kernel
theorem dX8_mark_82 : decode cX8_mark 82 = .ok (.aload_n 0, 1) := by decide +kernel
theorem dX8_mark_83 : decode cX8_mark 83 = .ok (.iload_n 2, 1) := by decide +kernel
theorem dX8_mark_84 : decode cX8_mark 84 = .ok (.invokevirtual 273, 3) := by decide +kernel
theorem dX8_mark_87 : decode cX8_mark 87 = .ok (.ireturn, 1) := by decide +kernel
theorem dX8_mark_88 : decode cX8_mark 88 = .ok (.ldc_w 257, 3) := by decide +kernel
theorem dX8_mark_91 : decode cX8_mark 91 = .ok (.ireturn, 1) := by decide +kernel
theorem dX8_keep_0 : decode cX8_keep 0 = .ok (.iload_n 1, 1) := by decide +kernel
theorem dX8_keep_1 : decode cX8_keep 1 = .ok (.ifCond .lt 8, 3) := by decide +kernel
theorem dX8_keep_4 : decode cX8_keep 4 = .ok (.iload_n 1, 1) := by decide +kernel
theorem dX8_keep_5 : decode cX8_keep 5 = .ok (.iconst 2, 1) := by decide +kernel
theorem dX8_keep_6 : decode cX8_keep 6 = .ok (.if_icmp .lt 5, 3) := by decide +kernel
theorem dX8_keep_9 : decode cX8_keep 9 = .ok (.iconst (-1), 1) := by decide +kernel
theorem dX8_keep_10 : decode cX8_keep 10 = .ok (.ireturn, 1) := by decide +kernel
theorem dX8_keep_11 : decode cX8_keep 11 = .ok (.aload_n 0, 1) := by decide +kernel
theorem dX8_keep_12 : decode cX8_keep 12 = .ok (.getfield 33, 3) := by decide +kernel
theorem dX8_keep_15 : decode cX8_keep 15 = .ok (.iload_n 1, 1) := by decide +kernel
theorem dX8_keep_16 : decode cX8_keep 16 = .ok (.aaload, 1) := by decide +kernel
theorem dX8_keep_17 : decode cX8_keep 17 = .ok (.aload_n 0, 1) := by decide +kernel
theorem dX8_keep_18 : decode cX8_keep 18 = .ok (.getfield 29, 3) := by decide +kernel
theorem dX8_keep_21 : decode cX8_keep 21 = .ok (.invokevirtual 276, 3) := by decide +kernel
theorem dX8_keep_24 : decode cX8_keep 24 = .ok (.aload_n 0, 1) := by decide +kernel
theorem dX8_keep_25 : decode cX8_keep 25 = .ok (.getfield 37, 3) := by decide +kernel
theorem dX8_keep_28 : decode cX8_keep 28 = .ok (.iload_n 1, 1) := by decide +kernel
theorem dX8_keep_29 : decode cX8_keep 29 = .ok (.iconst 1, 1) := by decide +kernel
theorem dX8_keep_30 : decode cX8_keep 30 = .ok (.bastore, 1) := by decide +kernel
theorem dX8_keep_31 : decode cX8_keep 31 = .ok (.aload_n 0, 1) := by decide +kernel
theorem dX8_keep_32 : decode cX8_keep 32 = .ok (.invokevirtual 168, 3) := by decide +kernel
theorem dX8_keep_35 : decode cX8_keep 35 = .ok (.ireturn, 1) := by decide +kernel
theorem dX8_back_0 : decode cX8_back 0 = .ok (.iload_n 1, 1) := by decide +kernel
theorem dX8_back_1 : decode cX8_back 1 = .ok (.ifCond .lt 8, 3) := by decide +kernel
theorem dX8_back_4 : decode cX8_back 4 = .ok (.iload_n 1, 1) := by decide +kernel
theorem dX8_back_5 : decode cX8_back 5 = .ok (.iconst 2, 1) := by decide +kernel
theorem dX8_back_6 : decode cX8_back 6 = .ok (.if_icmp .lt 5, 3) := by decide +kernel
theorem dX8_back_9 : decode cX8_back 9 = .ok (.iconst (-1), 1) := by decide +kernel
theorem dX8_back_10 : decode cX8_back 10 = .ok (.ireturn, 1) := by decide +kernel
theorem dX8_back_11 : decode cX8_back 11 = .ok (.aload_n 0, 1) := by decide +kernel
theorem dX8_back_12 : decode cX8_back 12 = .ok (.getfield 37, 3) := by decide +kernel
theorem dX8_back_15 : decode cX8_back 15 = .ok (.iload_n 1, 1) := by decide +kernel
theorem dX8_back_16 : decode cX8_back 16 = .ok (.baload, 1) := by decide +kernel
theorem dX8_back_17 : decode cX8_back 17 = .ok (.ifCond .ne 6, 3) := by decide +kernel
theorem dX8_back_20 : decode cX8_back 20 = .ok (.bipush (-2), 2) := by decide +kernel
theorem dX8_back_22 : decode cX8_back 22 = .ok (.ireturn, 1) := by decide +kernel
theorem dX8_back_23 : decode cX8_back 23 = .ok (.aload_n 0, 1) := by decide +kernel
theorem dX8_back_24 : decode cX8_back 24 = .ok (.getfield 29, 3) := by decide +kernel
theorem dX8_back_27 : decode cX8_back 27 = .ok (.aload_n 0, 1) := by decide +kernel
theorem dX8_back_28 : decode cX8_back 28 = .ok (.getfield 33, 3) := by decide +kernel
theorem dX8_back_31 : decode cX8_back 31 = .ok (.iload_n 1, 1) := by decide +kernel
theorem dX8_back_32 : decode cX8_back 32 = .ok (.aaload, 1) := by decide +kernel
theorem dX8_back_33 : decode cX8_back 33 = .ok (.invokevirtual 276, 3) := by decide +kernel
theorem dX8_back_36 : decode cX8_back 36 = .ok (.aload_n 0, 1) := by decide +kernel
theorem dX8_back_37 : decode cX8_back 37 = .ok (.invokevirtual 168, 3) := by decide +kernel
theorem dX8_back_40 : decode cX8_back 40 = .ok (.ireturn, 1) := by decide +kernel
theorem dX8_count_0 : decode cX8_count 0 = .ok (.iload_n 1, 1) := by decide +kernel
theorem dX8_count_1 : decode cX8_count 1 = .ok (.tableswitch 114 0 7 #[47, 55, 63, 71, 79, 87, 95, 103], 47) := by decide +kernel
theorem dX8_count_48 : decode cX8_count 48 = .ok (.aload_n 0, 1) := by decide +kernel
theorem dX8_count_49 : decode cX8_count 49 = .ok (.getfield 19, 3) := by decide +kernel
theorem dX8_count_52 : decode cX8_count 52 = .ok (.getfield 280, 3) := by decide +kernel
theorem dX8_count_55 : decode cX8_count 55 = .ok (.ireturn, 1) := by decide +kernel
theorem dX8_count_56 : decode cX8_count 56 = .ok (.aload_n 0, 1) := by decide +kernel
theorem dX8_count_57 : decode cX8_count 57 = .ok (.getfield 19, 3) := by decide +kernel
theorem dX8_count_60 : decode cX8_count 60 = .ok (.getfield 216, 3) := by decide +kernel
theorem dX8_count_63 : decode cX8_count 63 = .ok (.ireturn, 1) := by decide +kernel
theorem dX8_count_64 : decode cX8_count 64 = .ok (.aload_n 0, 1) := by decide +kernel
theorem dX8_count_65 : decode cX8_count 65 = .ok (.getfield 19, 3) := by decide +kernel
theorem dX8_count_68 : decode cX8_count 68 = .ok (.getfield 232, 3) := by decide +kernel
theorem dX8_count_71 : decode cX8_count 71 = .ok (.ireturn, 1) := by decide +kernel
theorem dX8_count_72 : decode cX8_count 72 = .ok (.aload_n 0, 1) := by decide +kernel
theorem dX8_count_73 : decode cX8_count 73 = .ok (.getfield 19, 3) := by decide +kernel
theorem dX8_count_76 : decode cX8_count 76 = .ok (.getfield 283, 3) := by decide +kernel
theorem dX8_count_79 : decode cX8_count 79 = .ok (.ireturn, 1) := by decide +kernel
theorem dX8_count_80 : decode cX8_count 80 = .ok (.aload_n 0, 1) := by decide +kernel
theorem dX8_count_81 : decode cX8_count 81 = .ok (.getfield 19, 3) := by decide +kernel
theorem dX8_count_84 : decode cX8_count 84 = .ok (.getfield 286, 3) := by decide +kernel
theorem dX8_count_87 : decode cX8_count 87 = .ok (.ireturn, 1) := by decide +kernel
theorem dX8_count_88 : decode cX8_count 88 = .ok (.aload_n 0, 1) := by decide +kernel
theorem dX8_count_89 : decode cX8_count 89 = .ok (.getfield 44, 3) := by decide +kernel
theorem dX8_count_92 : decode cX8_count 92 = .ok (.getfield 91, 3) := by decide +kernel
theorem dX8_count_95 : decode cX8_count 95 = .ok (.ireturn, 1) := by decide +kernel
theorem dX8_count_96 : decode cX8_count 96 = .ok (.aload_n 0, 1) := by decide +kernel
theorem dX8_count_97 : decode cX8_count 97 = .ok (.getfield 29, 3) := by decide +kernel
theorem dX8_count_100 : decode cX8_count 100 = .ok (.getfield 176, 3) := by decide +kernel
theorem dX8_count_103 : decode cX8_count 103 = .ok (.ireturn, 1) := by decide +kernel
theorem dX8_count_104 : decode cX8_count 104 = .ok (.aload_n 0, 1) := by decide +kernel
theorem dX8_count_105 : decode cX8_count 105 = .ok (.getfield 10, 3) := by decide +kernel
theorem dX8_count_108 : decode cX8_count 108 = .ok (.getfield 66, 3) := by decide +kernel
theorem dX8_count_111 : decode cX8_count 111 = .ok (.getfield 76, 3) := by decide +kernel
theorem dX8_count_114 : decode cX8_count 114 = .ok (.ireturn, 1) := by decide +kernel
theorem dX8_count_115 : decode cX8_count 115 = .ok (.iconst (-1), 1) := by decide +kernel
theorem dX8_count_116 : decode cX8_count 116 = .ok (.ireturn, 1) := by decide +kernel
theorem dX8_trace_0 : decode cX8_trace 0 = .ok (.aload_n 0, 1) := by decide +kernel
theorem dX8_trace_1 : decode cX8_trace 1 = .ok (.getfield 62, 3) := by decide +kernel
theorem dX8_trace_4 : decode cX8_trace 4 = .ok (.lreturn, 1) := by decide +kernel
theorem dX8_noPlace_0 : decode cX8_noPlace 0 = .ok (.iload_n 1, 1) := by decide +kernel
theorem dX8_noPlace_1 : decode cX8_noPlace 1 = .ok (.ifCond .lt 14, 3) := by decide +kernel
theorem dX8_noPlace_4 : decode cX8_noPlace 4 = .ok (.iload_n 1, 1) := by decide +kernel
theorem dX8_noPlace_5 : decode cX8_noPlace 5 = .ok (.aload_n 0, 1) := by decide +kernel
theorem dX8_noPlace_6 : decode cX8_noPlace 6 = .ok (.getfield 19, 3) := by decide +kernel
theorem dX8_noPlace_9 : decode cX8_noPlace 9 = .ok (.getfield 280, 3) := by decide +kernel
theorem dX8_noPlace_12 : decode cX8_noPlace 12 = .ok (.if_icmp .lt 7, 3) := by decide +kernel
theorem dX8_noPlace_15 : decode cX8_noPlace 15 = .ok (.iconst 1, 1) := by decide +kernel
theorem dX8_noPlace_16 : decode cX8_noPlace 16 = .ok (.goto 4, 3) := by decide +kernel
theorem dX8_noPlace_19 : decode cX8_noPlace 19 = .ok (.iconst 0, 1) := by decide +kernel
theorem dX8_noPlace_20 : decode cX8_noPlace 20 = .ok (.ireturn, 1) := by decide +kernel
theorem dX8_noLane_0 : decode cX8_noLane 0 = .ok (.iload_n 1, 1) := by decide +kernel
theorem dX8_noLane_1 : decode cX8_noLane 1 = .ok (.ifCond .lt 14, 3) := by decide +kernel
theorem dX8_noLane_4 : decode cX8_noLane 4 = .ok (.iload_n 1, 1) := by decide +kernel
theorem dX8_noLane_5 : decode cX8_noLane 5 = .ok (.aload_n 0, 1) := by decide +kernel
theorem dX8_noLane_6 : decode cX8_noLane 6 = .ok (.getfield 19, 3) := by decide +kernel
theorem dX8_noLane_9 : decode cX8_noLane 9 = .ok (.getfield 216, 3) := by decide +kernel
theorem dX8_noLane_12 : decode cX8_noLane 12 = .ok (.if_icmp .lt 7, 3) := by decide +kernel
theorem dX8_noLane_15 : decode cX8_noLane 15 = .ok (.iconst 1, 1) := by decide +kernel
theorem dX8_noLane_16 : decode cX8_noLane 16 = .ok (.goto 4, 3) := by decide +kernel
theorem dX8_noLane_19 : decode cX8_noLane 19 = .ok (.iconst 0, 1) := by decide +kernel
theorem dX8_noLane_20 : decode cX8_noLane 20 = .ok (.ireturn, 1) := by decide +kernel
theorem dX8_noPerson_0 : decode cX8_noPerson 0 = .ok (.iload_n 1, 1) := by decide +kernel
theorem dX8_noPerson_1 : decode cX8_noPerson 1 = .ok (.ifCond .lt 14, 3) := by decide +kernel
theorem dX8_noPerson_4 : decode cX8_noPerson 4 = .ok (.iload_n 1, 1) := by decide +kernel
theorem dX8_noPerson_5 : decode cX8_noPerson 5 = .ok (.aload_n 0, 1) := by decide +kernel
theorem dX8_noPerson_6 : decode cX8_noPerson 6 = .ok (.getfield 19, 3) := by decide +kernel
theorem dX8_noPerson_9 : decode cX8_noPerson 9 = .ok (.getfield 232, 3) := by decide +kernel
theorem dX8_noPerson_12 : decode cX8_noPerson 12 = .ok (.if_icmp .lt 7, 3) := by decide +kernel
theorem dX8_noPerson_15 : decode cX8_noPerson 15 = .ok (.iconst 1, 1) := by decide +kernel
theorem dX8_noPerson_16 : decode cX8_noPerson 16 = .ok (.goto 4, 3) := by decide +kernel
theorem dX8_noPerson_19 : decode cX8_noPerson 19 = .ok (.iconst 0, 1) := by decide +kernel
theorem dX8_noPerson_20 : decode cX8_noPerson 20 = .ok (.ireturn, 1) := by decide +kernel
theorem dX8_wideness_0 : decode cX8_wideness 0 = .ok (.aload_n 0, 1) := by decide +kernel
theorem dX8_wideness_1 : decode cX8_wideness 1 = .ok (.getfield 19, 3) := by decide +kernel
theorem dX8_wideness_4 : decode cX8_wideness 4 = .ok (.getfield 283, 3) := by decide +kernel
theorem dX8_wideness_7 : decode cX8_wideness 7 = .ok (.iconst 2, 1) := by decide +kernel
theorem dX8_wideness_8 : decode cX8_wideness 8 = .ok (.aload_n 0, 1) := by decide +kernel
theorem dX8_wideness_9 : decode cX8_wideness 9 = .ok (.getfield 29, 3) := by decide +kernel
theorem dX8_wideness_12 : decode cX8_wideness 12 = .ok (.getfield 113, 3) := by decide +kernel
theorem dX8_wideness_15 : decode cX8_wideness 15 = .ok (.getfield 117, 3) := by decide +kernel
theorem dX8_wideness_18 : decode cX8_wideness 18 = .ok (.iload_n 1, 1) := by decide +kernel
theorem dX8_wideness_19 : decode cX8_wideness 19 = .ok (.iaload, 1) := by decide +kernel
theorem dX8_wideness_20 : decode cX8_wideness 20 = .ok (.imul, 1) := by decide +kernel
theorem dX8_wideness_21 : decode cX8_wideness 21 = .ok (.iadd, 1) := by decide +kernel
theorem dX8_wideness_22 : decode cX8_wideness 22 = .ok (.ireturn, 1) := by decide +kernel
theorem dX8_isClosed_0 : decode cX8_isClosed 0 = .ok (.aload_n 0, 1) := by decide +kernel
theorem dX8_isClosed_1 : decode cX8_isClosed 1 = .ok (.getfield 29, 3) := by decide +kernel
theorem dX8_isClosed_4 : decode cX8_isClosed 4 = .ok (.getfield 113, 3) := by decide +kernel
theorem dX8_isClosed_7 : decode cX8_isClosed 7 = .ok (.getfield 179, 3) := by decide +kernel
theorem dX8_isClosed_10 : decode cX8_isClosed 10 = .ok (.iload_n 1, 1) := by decide +kernel
theorem dX8_isClosed_11 : decode cX8_isClosed 11 = .ok (.ishr, 1) := by decide +kernel
theorem dX8_isClosed_12 : decode cX8_isClosed 12 = .ok (.iconst 1, 1) := by decide +kernel
theorem dX8_isClosed_13 : decode cX8_isClosed 13 = .ok (.iand, 1) := by decide +kernel
theorem dX8_isClosed_14 : decode cX8_isClosed 14 = .ok (.ifCond .eq 7, 3) := by decide +kernel
theorem dX8_isClosed_17 : decode cX8_isClosed 17 = .ok (.iconst 1, 1) := by decide +kernel
theorem dX8_isClosed_18 : decode cX8_isClosed 18 = .ok (.goto 4, 3) := by decide +kernel
theorem dX8_isClosed_21 : decode cX8_isClosed 21 = .ok (.iconst 0, 1) := by decide +kernel
theorem dX8_isClosed_22 : decode cX8_isClosed 22 = .ok (.ireturn, 1) := by decide +kernel
theorem dX8_isTooNarrow_0 : decode cX8_isTooNarrow 0 = .ok (.aload_n 0, 1) := by decide +kernel
theorem dX8_isTooNarrow_1 : decode cX8_isTooNarrow 1 = .ok (.iload_n 2, 1) := by decide +kernel
theorem dX8_isTooNarrow_2 : decode cX8_isTooNarrow 2 = .ok (.invokevirtual 125, 3) := by decide +kernel
theorem dX8_isTooNarrow_5 : decode cX8_isTooNarrow 5 = .ok (.aload_n 0, 1) := by decide +kernel
theorem dX8_isTooNarrow_6 : decode cX8_isTooNarrow 6 = .ok (.getfield 19, 3) := by decide +kernel
theorem dX8_isTooNarrow_9 : decode cX8_isTooNarrow 9 = .ok (.getfield 104, 3) := by decide +kernel
theorem dX8_isTooNarrow_12 : decode cX8_isTooNarrow 12 = .ok (.iload_n 1, 1) := by decide +kernel
theorem dX8_isTooNarrow_13 : decode cX8_isTooNarrow 13 = .ok (.iaload, 1) := by decide +kernel
theorem dX8_isTooNarrow_14 : decode cX8_isTooNarrow 14 = .ok (.if_icmp .le 7, 3) := by decide +kernel
theorem dX8_isTooNarrow_17 : decode cX8_isTooNarrow 17 = .ok (.iconst 1, 1) := by decide +kernel
theorem dX8_isTooNarrow_18 : decode cX8_isTooNarrow 18 = .ok (.goto 4, 3) := by decide +kernel
theorem dX8_isTooNarrow_21 : decode cX8_isTooNarrow 21 = .ok (.iconst 0, 1) := by decide +kernel
theorem dX8_isTooNarrow_22 : decode cX8_isTooNarrow 22 = .ok (.ireturn, 1) := by decide +kernel
theorem dX8_isAtEnd_0 : decode cX8_isAtEnd 0 = .ok (.aload_n 0, 1) := by decide +kernel
theorem dX8_isAtEnd_1 : decode cX8_isAtEnd 1 = .ok (.getfield 29, 3) := by decide +kernel
theorem dX8_isAtEnd_4 : decode cX8_isAtEnd 4 = .ok (.getfield 113, 3) := by decide +kernel
theorem dX8_isAtEnd_7 : decode cX8_isAtEnd 7 = .ok (.getfield 122, 3) := by decide +kernel
theorem dX8_isAtEnd_10 : decode cX8_isAtEnd 10 = .ok (.iload_n 1, 1) := by decide +kernel
theorem dX8_isAtEnd_11 : decode cX8_isAtEnd 11 = .ok (.iaload, 1) := by decide +kernel
theorem dX8_isAtEnd_12 : decode cX8_isAtEnd 12 = .ok (.istore_n 3, 1) := by decide +kernel
theorem dX8_isAtEnd_13 : decode cX8_isAtEnd 13 = .ok (.iload_n 3, 1) := by decide +kernel
theorem dX8_isAtEnd_14 : decode cX8_isAtEnd 14 = .ok (.aload_n 0, 1) := by decide +kernel
theorem dX8_isAtEnd_15 : decode cX8_isAtEnd 15 = .ok (.getfield 19, 3) := by decide +kernel
theorem dX8_isAtEnd_18 : decode cX8_isAtEnd 18 = .ok (.getfield 97, 3) := by decide +kernel
theorem dX8_isAtEnd_21 : decode cX8_isAtEnd 21 = .ok (.iload_n 2, 1) := by decide +kernel
theorem dX8_isAtEnd_22 : decode cX8_isAtEnd 22 = .ok (.iaload, 1) := by decide +kernel
theorem dX8_isAtEnd_23 : decode cX8_isAtEnd 23 = .ok (.if_icmp .eq 16, 3) := by decide +kernel
theorem dX8_isAtEnd_26 : decode cX8_isAtEnd 26 = .ok (.iload_n 3, 1) := by decide +kernel
theorem dX8_isAtEnd_27 : decode cX8_isAtEnd 27 = .ok (.aload_n 0, 1) := by decide +kernel
theorem dX8_isAtEnd_28 : decode cX8_isAtEnd 28 = .ok (.getfield 19, 3) := by decide +kernel
theorem dX8_isAtEnd_31 : decode cX8_isAtEnd 31 = .ok (.getfield 101, 3) := by decide +kernel
theorem dX8_isAtEnd_34 : decode cX8_isAtEnd 34 = .ok (.iload_n 2, 1) := by decide +kernel
theorem dX8_isAtEnd_35 : decode cX8_isAtEnd 35 = .ok (.iaload, 1) := by decide +kernel
theorem dX8_isAtEnd_36 : decode cX8_isAtEnd 36 = .ok (.if_icmp .ne 7, 3) := by decide +kernel
theorem dX8_isAtEnd_39 : decode cX8_isAtEnd 39 = .ok (.iconst 1, 1) := by decide +kernel
theorem dX8_isAtEnd_40 : decode cX8_isAtEnd 40 = .ok (.goto 4, 3) := by decide +kernel
theorem dX8_isAtEnd_43 : decode cX8_isAtEnd 43 = .ok (.iconst 0, 1) := by decide +kernel
theorem dX8_isAtEnd_44 : decode cX8_isAtEnd 44 = .ok (.ireturn, 1) := by decide +kernel
theorem dX8_areAtBothEnds_0 : decode cX8_areAtBothEnds 0 = .ok (.aload_n 0, 1) := by decide +kernel
theorem dX8_areAtBothEnds_1 : decode cX8_areAtBothEnds 1 = .ok (.iload_n 1, 1) := by decide +kernel
theorem dX8_areAtBothEnds_2 : decode cX8_areAtBothEnds 2 = .ok (.iload_n 3, 1) := by decide +kernel
theorem dX8_areAtBothEnds_3 : decode cX8_areAtBothEnds 3 = .ok (.invokevirtual 135, 3) := by decide +kernel
theorem dX8_areAtBothEnds_6 : decode cX8_areAtBothEnds 6 = .ok (.ifCond .eq 43, 3) := by decide +kernel
theorem dX8_areAtBothEnds_9 : decode cX8_areAtBothEnds 9 = .ok (.aload_n 0, 1) := by decide +kernel
theorem dX8_areAtBothEnds_10 : decode cX8_areAtBothEnds 10 = .ok (.iload_n 2, 1) := by decide +kernel
theorem dX8_areAtBothEnds_11 : decode cX8_areAtBothEnds 11 = .ok (.iload_n 3, 1) := by decide +kernel
theorem dX8_areAtBothEnds_12 : decode cX8_areAtBothEnds 12 = .ok (.invokevirtual 135, 3) := by decide +kernel
theorem dX8_areAtBothEnds_15 : decode cX8_areAtBothEnds 15 = .ok (.ifCond .eq 34, 3) := by decide +kernel
theorem dX8_areAtBothEnds_18 : decode cX8_areAtBothEnds 18 = .ok (.aload_n 0, 1) := by decide +kernel
theorem dX8_areAtBothEnds_19 : decode cX8_areAtBothEnds 19 = .ok (.getfield 29, 3) := by decide +kernel
theorem dX8_areAtBothEnds_22 : decode cX8_areAtBothEnds 22 = .ok (.getfield 113, 3) := by decide +kernel
theorem dX8_areAtBothEnds_25 : decode cX8_areAtBothEnds 25 = .ok (.getfield 122, 3) := by decide +kernel
theorem dX8_areAtBothEnds_28 : decode cX8_areAtBothEnds 28 = .ok (.iload_n 1, 1) := by decide +kernel
theorem dX8_areAtBothEnds_29 : decode cX8_areAtBothEnds 29 = .ok (.iaload, 1) := by decide +kernel
theorem dX8_areAtBothEnds_30 : decode cX8_areAtBothEnds 30 = .ok (.aload_n 0, 1) := by decide +kernel
theorem dX8_areAtBothEnds_31 : decode cX8_areAtBothEnds 31 = .ok (.getfield 29, 3) := by decide +kernel
theorem dX8_areAtBothEnds_34 : decode cX8_areAtBothEnds 34 = .ok (.getfield 113, 3) := by decide +kernel
theorem dX8_areAtBothEnds_37 : decode cX8_areAtBothEnds 37 = .ok (.getfield 122, 3) := by decide +kernel
theorem dX8_areAtBothEnds_40 : decode cX8_areAtBothEnds 40 = .ok (.iload_n 2, 1) := by decide +kernel
theorem dX8_areAtBothEnds_41 : decode cX8_areAtBothEnds 41 = .ok (.iaload, 1) := by decide +kernel
theorem dX8_areAtBothEnds_42 : decode cX8_areAtBothEnds 42 = .ok (.if_icmp .eq 7, 3) := by decide +kernel
theorem dX8_areAtBothEnds_45 : decode cX8_areAtBothEnds 45 = .ok (.iconst 1, 1) := by decide +kernel
theorem dX8_areAtBothEnds_46 : decode cX8_areAtBothEnds 46 = .ok (.goto 4, 3) := by decide +kernel
theorem dX8_areAtBothEnds_49 : decode cX8_areAtBothEnds 49 = .ok (.iconst 0, 1) := by decide +kernel
theorem dX8_areAtBothEnds_50 : decode cX8_areAtBothEnds 50 = .ok (.ireturn, 1) := by decide +kernel
theorem dX8_closedLanes_0 : decode cX8_closedLanes 0 = .ok (.aload_n 0, 1) := by decide +kernel
theorem dX8_closedLanes_1 : decode cX8_closedLanes 1 = .ok (.getfield 29, 3) := by decide +kernel
theorem dX8_closedLanes_4 : decode cX8_closedLanes 4 = .ok (.getfield 113, 3) := by decide +kernel
theorem dX8_closedLanes_7 : decode cX8_closedLanes 7 = .ok (.getfield 179, 3) := by decide +kernel
theorem dX8_closedLanes_10 : decode cX8_closedLanes 10 = .ok (.invokestatic 219, 3) := by decide +kernel
theorem dX8_closedLanes_13 : decode cX8_closedLanes 13 = .ok (.ireturn, 1) := by decide +kernel
theorem dX8_openLanes_0 : decode cX8_openLanes 0 = .ok (.iconst 1, 1) := by decide +kernel
theorem dX8_openLanes_1 : decode cX8_openLanes 1 = .ok (.aload_n 0, 1) := by decide +kernel
theorem dX8_openLanes_2 : decode cX8_openLanes 2 = .ok (.getfield 19, 3) := by decide +kernel
theorem dX8_openLanes_5 : decode cX8_openLanes 5 = .ok (.getfield 216, 3) := by decide +kernel
theorem dX8_openLanes_8 : decode cX8_openLanes 8 = .ok (.ishl, 1) := by decide +kernel
theorem dX8_openLanes_9 : decode cX8_openLanes 9 = .ok (.iconst 1, 1) := by decide +kernel
theorem dX8_openLanes_10 : decode cX8_openLanes 10 = .ok (.isub, 1) := by decide +kernel
theorem dX8_openLanes_11 : decode cX8_openLanes 11 = .ok (.aload_n 0, 1) := by decide +kernel
theorem dX8_openLanes_12 : decode cX8_openLanes 12 = .ok (.getfield 29, 3) := by decide +kernel
theorem dX8_openLanes_15 : decode cX8_openLanes 15 = .ok (.getfield 113, 3) := by decide +kernel
theorem dX8_openLanes_18 : decode cX8_openLanes 18 = .ok (.getfield 179, 3) := by decide +kernel
theorem dX8_openLanes_21 : decode cX8_openLanes 21 = .ok (.iconst (-1), 1) := by decide +kernel
theorem dX8_openLanes_22 : decode cX8_openLanes 22 = .ok (.ixor, 1) := by decide +kernel
theorem dX8_openLanes_23 : decode cX8_openLanes 23 = .ok (.iand, 1) := by decide +kernel
theorem dX8_openLanes_24 : decode cX8_openLanes 24 = .ok (.ireturn, 1) := by decide +kernel
theorem dX8_passable_0 : decode cX8_passable 0 = .ok (.aload_n 0, 1) := by decide +kernel
theorem dX8_passable_1 : decode cX8_passable 1 = .ok (.invokevirtual 206, 3) := by decide +kernel
theorem dX8_passable_4 : decode cX8_passable 4 = .ok (.istore_n 2, 1) := by decide +kernel
theorem dX8_passable_5 : decode cX8_passable 5 = .ok (.iconst 0, 1) := by decide +kernel
theorem dX8_passable_6 : decode cX8_passable 6 = .ok (.istore_n 3, 1) := by decide +kernel
theorem dX8_passable_7 : decode cX8_passable 7 = .ok (.iload_n 3, 1) := by decide +kernel
theorem dX8_passable_8 : decode cX8_passable 8 = .ok (.aload_n 0, 1) := by decide +kernel
theorem dX8_passable_9 : decode cX8_passable 9 = .ok (.getfield 19, 3) := by decide +kernel
theorem dX8_passable_12 : decode cX8_passable 12 = .ok (.getfield 216, 3) := by decide +kernel
theorem dX8_passable_15 : decode cX8_passable 15 = .ok (.if_icmp .ge 26, 3) := by decide +kernel
theorem dX8_passable_18 : decode cX8_passable 18 = .ok (.aload_n 0, 1) := by decide +kernel
theorem dX8_passable_19 : decode cX8_passable 19 = .ok (.iload_n 3, 1) := by decide +kernel
theorem dX8_passable_20 : decode cX8_passable 20 = .ok (.iload_n 1, 1) := by decide +kernel
theorem dX8_passable_21 : decode cX8_passable 21 = .ok (.invokevirtual 139, 3) := by decide +kernel
theorem dX8_passable_24 : decode cX8_passable 24 = .ok (.ifCond .eq 11, 3) := by decide +kernel
theorem dX8_passable_27 : decode cX8_passable 27 = .ok (.iload_n 2, 1) := by decide +kernel
theorem dX8_passable_28 : decode cX8_passable 28 = .ok (.iconst 1, 1) := by decide +kernel
theorem dX8_passable_29 : decode cX8_passable 29 = .ok (.iload_n 3, 1) := by decide +kernel
theorem dX8_passable_30 : decode cX8_passable 30 = .ok (.ishl, 1) := by decide +kernel
theorem dX8_passable_31 : decode cX8_passable 31 = .ok (.iconst (-1), 1) := by decide +kernel
theorem dX8_passable_32 : decode cX8_passable 32 = .ok (.ixor, 1) := by decide +kernel
theorem dX8_passable_33 : decode cX8_passable 33 = .ok (.iand, 1) := by decide +kernel
theorem dX8_passable_34 : decode cX8_passable 34 = .ok (.istore_n 2, 1) := by decide +kernel
theorem dX8_passable_35 : decode cX8_passable 35 = .ok (.iinc 3 1, 3) := by decide +kernel
theorem dX8_passable_38 : decode cX8_passable 38 = .ok (.goto (-31), 3) := by decide +kernel
theorem dX8_passable_41 : decode cX8_passable 41 = .ok (.iload_n 2, 1) := by decide +kernel
theorem dX8_passable_42 : decode cX8_passable 42 = .ok (.ireturn, 1) := by decide +kernel
theorem dX8_reach_0 : decode cX8_reach 0 = .ok (.aload_n 0, 1) := by decide +kernel
theorem dX8_reach_1 : decode cX8_reach 1 = .ok (.getfield 19, 3) := by decide +kernel
theorem dX8_reach_4 : decode cX8_reach 4 = .ok (.aload_n 0, 1) := by decide +kernel
theorem dX8_reach_5 : decode cX8_reach 5 = .ok (.iload_n 1, 1) := by decide +kernel
theorem dX8_reach_6 : decode cX8_reach 6 = .ok (.invokevirtual 192, 3) := by decide +kernel
theorem dX8_reach_9 : decode cX8_reach 9 = .ok (.aload_n 0, 1) := by decide +kernel
theorem dX8_reach_10 : decode cX8_reach 10 = .ok (.getfield 29, 3) := by decide +kernel
theorem dX8_reach_13 : decode cX8_reach 13 = .ok (.getfield 113, 3) := by decide +kernel
theorem dX8_reach_16 : decode cX8_reach 16 = .ok (.getfield 122, 3) := by decide +kernel
theorem dX8_reach_19 : decode cX8_reach 19 = .ok (.iload_n 1, 1) := by decide +kernel
theorem dX8_reach_20 : decode cX8_reach 20 = .ok (.iaload, 1) := by decide +kernel
theorem dX8_reach_21 : decode cX8_reach 21 = .ok (.invokevirtual 289, 3) := by decide +kernel
theorem dX8_reach_24 : decode cX8_reach 24 = .ok (.ireturn, 1) := by decide +kernel
theorem dX8_sum_0 : decode cX8_sum 0 = .ok (.iconst 0, 1) := by decide +kernel
theorem dX8_sum_1 : decode cX8_sum 1 = .ok (.istore_n 2, 1) := by decide +kernel
theorem dX8_sum_2 : decode cX8_sum 2 = .ok (.iconst 0, 1) := by decide +kernel
theorem dX8_sum_3 : decode cX8_sum 3 = .ok (.istore_n 3, 1) := by decide +kernel
theorem dX8_sum_4 : decode cX8_sum 4 = .ok (.iload_n 3, 1) := by decide +kernel
theorem dX8_sum_5 : decode cX8_sum 5 = .ok (.aload_n 0, 1) := by decide +kernel
theorem dX8_sum_6 : decode cX8_sum 6 = .ok (.getfield 19, 3) := by decide +kernel
theorem dX8_sum_9 : decode cX8_sum 9 = .ok (.getfield 232, 3) := by decide +kernel
theorem dX8_sum_12 : decode cX8_sum 12 = .ok (.if_icmp .ge 15, 3) := by decide +kernel
theorem dX8_sum_15 : decode cX8_sum 15 = .ok (.iload_n 2, 1) := by decide +kernel
theorem dX8_sum_16 : decode cX8_sum 16 = .ok (.aload_n 1, 1) := by decide +kernel
theorem dX8_sum_17 : decode cX8_sum 17 = .ok (.iload_n 3, 1) := by decide +kernel
theorem dX8_sum_18 : decode cX8_sum 18 = .ok (.iaload, 1) := by decide +kernel
theorem dX8_sum_19 : decode cX8_sum 19 = .ok (.iadd, 1) := by decide +kernel
theorem dX8_sum_20 : decode cX8_sum 20 = .ok (.istore_n 2, 1) := by decide +kernel
theorem dX8_sum_21 : decode cX8_sum 21 = .ok (.iinc 3 1, 3) := by decide +kernel
theorem dX8_sum_24 : decode cX8_sum 24 = .ok (.goto (-20), 3) := by decide +kernel
theorem dX8_sum_27 : decode cX8_sum 27 = .ok (.iload_n 2, 1) := by decide +kernel
theorem dX8_sum_28 : decode cX8_sum 28 = .ok (.ireturn, 1) := by decide +kernel
theorem dX8_outcome_0 : decode cX8_outcome 0 = .ok (.aload_n 0, 1) := by decide +kernel
theorem dX8_outcome_1 : decode cX8_outcome 1 = .ok (.iload_n 3, 1) := by decide +kernel
theorem dX8_outcome_2 : decode cX8_outcome 2 = .ok (.invokevirtual 107, 3) := by decide +kernel
theorem dX8_outcome_5 : decode cX8_outcome 5 = .ok (.ifCond .eq 5, 3) := by decide +kernel
theorem dX8_outcome_8 : decode cX8_outcome 8 = .ok (.iconst 5, 1) := by decide +kernel
theorem dX8_outcome_9 : decode cX8_outcome 9 = .ok (.ireturn, 1) := by decide +kernel
theorem dX8_outcome_10 : decode cX8_outcome 10 = .ok (.aload_n 0, 1) := by decide +kernel
theorem dX8_outcome_11 : decode cX8_outcome 11 = .ok (.iload_n 3, 1) := by decide +kernel
theorem dX8_outcome_12 : decode cX8_outcome 12 = .ok (.iload_n 1, 1) := by decide +kernel
theorem dX8_outcome_13 : decode cX8_outcome 13 = .ok (.invokevirtual 139, 3) := by decide +kernel
theorem dX8_outcome_16 : decode cX8_outcome 16 = .ok (.ifCond .ne 12, 3) := by decide +kernel
theorem dX8_outcome_19 : decode cX8_outcome 19 = .ok (.aload_n 0, 1) := by decide +kernel
theorem dX8_outcome_20 : decode cX8_outcome 20 = .ok (.iload_n 3, 1) := by decide +kernel
theorem dX8_outcome_21 : decode cX8_outcome 21 = .ok (.iload_n 2, 1) := by decide +kernel
theorem dX8_outcome_22 : decode cX8_outcome 22 = .ok (.invokevirtual 139, 3) := by decide +kernel
theorem dX8_outcome_25 : decode cX8_outcome 25 = .ok (.ifCond .eq 5, 3) := by decide +kernel
theorem dX8_outcome_28 : decode cX8_outcome 28 = .ok (.iconst 4, 1) := by decide +kernel
theorem dX8_outcome_29 : decode cX8_outcome 29 = .ok (.ireturn, 1) := by decide +kernel
theorem dX8_outcome_30 : decode cX8_outcome 30 = .ok (.aload_n 0, 1) := by decide +kernel
theorem dX8_outcome_31 : decode cX8_outcome 31 = .ok (.iload_n 1, 1) := by decide +kernel
theorem dX8_outcome_32 : decode cX8_outcome 32 = .ok (.invokevirtual 125, 3) := by decide +kernel
theorem dX8_outcome_35 : decode cX8_outcome 35 = .ok (.aload_n 0, 1) := by decide +kernel
theorem dX8_outcome_36 : decode cX8_outcome 36 = .ok (.iload_n 2, 1) := by decide +kernel
theorem dX8_outcome_37 : decode cX8_outcome 37 = .ok (.invokevirtual 125, 3) := by decide +kernel
theorem dX8_outcome_40 : decode cX8_outcome 40 = .ok (.iadd, 1) := by decide +kernel
theorem dX8_outcome_41 : decode cX8_outcome 41 = .ok (.aload_n 0, 1) := by decide +kernel
theorem dX8_outcome_42 : decode cX8_outcome 42 = .ok (.getfield 19, 3) := by decide +kernel
theorem dX8_outcome_45 : decode cX8_outcome 45 = .ok (.getfield 104, 3) := by decide +kernel
theorem dX8_outcome_48 : decode cX8_outcome 48 = .ok (.iload_n 3, 1) := by decide +kernel
theorem dX8_outcome_49 : decode cX8_outcome 49 = .ok (.iaload, 1) := by decide +kernel
theorem dX8_outcome_50 : decode cX8_outcome 50 = .ok (.if_icmp .gt 5, 3) := by decide +kernel
theorem dX8_outcome_53 : decode cX8_outcome 53 = .ok (.iconst 0, 1) := by decide +kernel
theorem dX8_outcome_54 : decode cX8_outcome 54 = .ok (.ireturn, 1) := by decide +kernel
theorem dX8_outcome_55 : decode cX8_outcome 55 = .ok (.aload_n 0, 1) := by decide +kernel
theorem dX8_outcome_56 : decode cX8_outcome 56 = .ok (.getfield 29, 3) := by decide +kernel
theorem dX8_outcome_59 : decode cX8_outcome 59 = .ok (.getfield 113, 3) := by decide +kernel
theorem dX8_outcome_62 : decode cX8_outcome 62 = .ok (.getfield 117, 3) := by decide +kernel
theorem dX8_outcome_65 : decode cX8_outcome 65 = .ok (.iload_n 1, 1) := by decide +kernel
theorem dX8_outcome_66 : decode cX8_outcome 66 = .ok (.iaload, 1) := by decide +kernel
theorem dX8_outcome_67 : decode cX8_outcome 67 = .ok (.aload_n 0, 1) := by decide +kernel
theorem dX8_outcome_68 : decode cX8_outcome 68 = .ok (.getfield 29, 3) := by decide +kernel
theorem dX8_outcome_71 : decode cX8_outcome 71 = .ok (.getfield 113, 3) := by decide +kernel
theorem dX8_outcome_74 : decode cX8_outcome 74 = .ok (.getfield 117, 3) := by decide +kernel
theorem dX8_outcome_77 : decode cX8_outcome 77 = .ok (.iload_n 2, 1) := by decide +kernel
theorem dX8_outcome_78 : decode cX8_outcome 78 = .ok (.iaload, 1) := by decide +kernel
theorem dX8_outcome_79 : decode cX8_outcome 79 = .ok (.isub, 1) := by decide +kernel
theorem dX8_outcome_80 : decode cX8_outcome 80 = .ok (.istore 4, 2) := by decide +kernel
theorem dX8_outcome_82 : decode cX8_outcome 82 = .ok (.iload 4, 2) := by decide +kernel
theorem dX8_outcome_84 : decode cX8_outcome 84 = .ok (.ifCond .ne 5, 3) := by decide +kernel
theorem dX8_outcome_87 : decode cX8_outcome 87 = .ok (.iconst 3, 1) := by decide +kernel
theorem dX8_outcome_88 : decode cX8_outcome 88 = .ok (.ireturn, 1) := by decide +kernel
theorem dX8_outcome_89 : decode cX8_outcome 89 = .ok (.iload 4, 2) := by decide +kernel
theorem dX8_outcome_91 : decode cX8_outcome 91 = .ok (.ifCond .le 7, 3) := by decide +kernel
theorem dX8_outcome_94 : decode cX8_outcome 94 = .ok (.iconst 1, 1) := by decide +kernel
theorem dX8_outcome_95 : decode cX8_outcome 95 = .ok (.goto 4, 3) := by decide +kernel
theorem dX8_outcome_98 : decode cX8_outcome 98 = .ok (.iconst 2, 1) := by decide +kernel
theorem dX8_outcome_99 : decode cX8_outcome 99 = .ok (.ireturn, 1) := by decide +kernel
theorem dX8_cross_0 : decode cX8_cross 0 = .ok (.aload_n 0, 1) := by decide +kernel
theorem dX8_cross_1 : decode cX8_cross 1 = .ok (.getfield 29, 3) := by decide +kernel
theorem dX8_cross_4 : decode cX8_cross 4 = .ok (.getfield 113, 3) := by decide +kernel
theorem dX8_cross_7 : decode cX8_cross 7 = .ok (.getfield 122, 3) := by decide +kernel
theorem dX8_cross_10 : decode cX8_cross 10 = .ok (.astore_n 3, 1) := by decide +kernel
theorem dX8_cross_11 : decode cX8_cross 11 = .ok (.aload_n 3, 1) := by decide +kernel
theorem dX8_cross_12 : decode cX8_cross 12 = .ok (.iload_n 1, 1) := by decide +kernel
theorem dX8_cross_13 : decode cX8_cross 13 = .ok (.aload_n 3, 1) := by decide +kernel
theorem dX8_cross_14 : decode cX8_cross 14 = .ok (.iload_n 1, 1) := by decide +kernel
theorem dX8_cross_15 : decode cX8_cross 15 = .ok (.iaload, 1) := by decide +kernel
theorem dX8_cross_16 : decode cX8_cross 16 = .ok (.aload_n 0, 1) := by decide +kernel
theorem dX8_cross_17 : decode cX8_cross 17 = .ok (.getfield 19, 3) := by decide +kernel
theorem dX8_cross_20 : decode cX8_cross 20 = .ok (.getfield 97, 3) := by decide +kernel
theorem dX8_cross_23 : decode cX8_cross 23 = .ok (.iload_n 2, 1) := by decide +kernel
theorem dX8_cross_24 : decode cX8_cross 24 = .ok (.iaload, 1) := by decide +kernel
theorem dX8_cross_25 : decode cX8_cross 25 = .ok (.if_icmp .ne 15, 3) := by decide +kernel
theorem dX8_cross_28 : decode cX8_cross 28 = .ok (.aload_n 0, 1) := by decide +kernel
theorem dX8_cross_29 : decode cX8_cross 29 = .ok (.getfield 19, 3) := by decide +kernel
theorem dX8_cross_32 : decode cX8_cross 32 = .ok (.getfield 101, 3) := by decide +kernel
theorem dX8_cross_35 : decode cX8_cross 35 = .ok (.iload_n 2, 1) := by decide +kernel
theorem dX8_cross_36 : decode cX8_cross 36 = .ok (.iaload, 1) := by decide +kernel
theorem dX8_cross_37 : decode cX8_cross 37 = .ok (.goto 12, 3) := by decide +kernel
theorem dX8_cross_40 : decode cX8_cross 40 = .ok (.aload_n 0, 1) := by decide +kernel
theorem dX8_cross_41 : decode cX8_cross 41 = .ok (.getfield 19, 3) := by decide +kernel
theorem dX8_cross_44 : decode cX8_cross 44 = .ok (.getfield 97, 3) := by decide +kernel
theorem dX8_cross_47 : decode cX8_cross 47 = .ok (.iload_n 2, 1) := by decide +kernel
theorem dX8_cross_48 : decode cX8_cross 48 = .ok (.iaload, 1) := by decide +kernel
theorem dX8_cross_49 : decode cX8_cross 49 = .ok (.iastore, 1) := by decide +kernel
theorem dX8_cross_50 : decode cX8_cross 50 = .ok (.return_, 1) := by decide +kernel
theorem dX8_moveOrYield_0 : decode cX8_moveOrYield 0 = .ok (.iload_n 3, 1) := by decide +kernel
theorem dX8_moveOrYield_1 : decode cX8_moveOrYield 1 = .ok (.ifCond .eq 12, 3) := by decide +kernel
theorem dX8_moveOrYield_4 : decode cX8_moveOrYield 4 = .ok (.aload_n 0, 1) := by decide +kernel
theorem dX8_moveOrYield_5 : decode cX8_moveOrYield 5 = .ok (.iload_n 1, 1) := by decide +kernel
theorem dX8_moveOrYield_6 : decode cX8_moveOrYield 6 = .ok (.iload_n 2, 1) := by decide +kernel
theorem dX8_moveOrYield_7 : decode cX8_moveOrYield 7 = .ok (.invokevirtual 145, 3) := by decide +kernel
theorem dX8_moveOrYield_10 : decode cX8_moveOrYield 10 = .ok (.goto 19, 3) := by decide +kernel
theorem dX8_moveOrYield_13 : decode cX8_moveOrYield 13 = .ok (.aload_n 0, 1) := by decide +kernel
theorem dX8_moveOrYield_14 : decode cX8_moveOrYield 14 = .ok (.getfield 29, 3) := by decide +kernel
theorem dX8_moveOrYield_17 : decode cX8_moveOrYield 17 = .ok (.getfield 113, 3) := by decide +kernel
theorem dX8_moveOrYield_20 : decode cX8_moveOrYield 20 = .ok (.getfield 129, 3) := by decide +kernel
theorem dX8_moveOrYield_23 : decode cX8_moveOrYield 23 = .ok (.iload_n 1, 1) := by decide +kernel
theorem dX8_moveOrYield_24 : decode cX8_moveOrYield 24 = .ok (.dup2, 1) := by decide +kernel
theorem dX8_moveOrYield_25 : decode cX8_moveOrYield 25 = .ok (.iaload, 1) := by decide +kernel
theorem dX8_moveOrYield_26 : decode cX8_moveOrYield 26 = .ok (.iconst 1, 1) := by decide +kernel
theorem dX8_moveOrYield_27 : decode cX8_moveOrYield 27 = .ok (.iadd, 1) := by decide +kernel
theorem dX8_moveOrYield_28 : decode cX8_moveOrYield 28 = .ok (.iastore, 1) := by decide +kernel
theorem dX8_moveOrYield_29 : decode cX8_moveOrYield 29 = .ok (.return_, 1) := by decide +kernel
theorem dX8_favourable_0 : decode cX8_favourable 0 = .ok (.iconst 0, 1) := by decide +kernel
theorem dX8_favourable_1 : decode cX8_favourable 1 = .ok (.istore 5, 2) := by decide +kernel
theorem dX8_favourable_3 : decode cX8_favourable 3 = .ok (.iconst 0, 1) := by decide +kernel
theorem dX8_favourable_4 : decode cX8_favourable 4 = .ok (.istore 6, 2) := by decide +kernel
theorem dX8_favourable_6 : decode cX8_favourable 6 = .ok (.iload 6, 2) := by decide +kernel
theorem dX8_favourable_8 : decode cX8_favourable 8 = .ok (.iconst 1, 1) := by decide +kernel
theorem dX8_favourable_9 : decode cX8_favourable 9 = .ok (.aload_n 0, 1) := by decide +kernel
theorem dX8_favourable_10 : decode cX8_favourable 10 = .ok (.getfield 19, 3) := by decide +kernel
theorem dX8_favourable_13 : decode cX8_favourable 13 = .ok (.getfield 216, 3) := by decide +kernel
theorem dX8_favourable_16 : decode cX8_favourable 16 = .ok (.ishl, 1) := by decide +kernel
theorem dX8_favourable_17 : decode cX8_favourable 17 = .ok (.if_icmp .ge 71, 3) := by decide +kernel
theorem dX8_favourable_20 : decode cX8_favourable 20 = .ok (.iload 6, 2) := by decide +kernel
theorem dX8_favourable_22 : decode cX8_favourable 22 = .ok (.iload_n 1, 1) := by decide +kernel
theorem dX8_favourable_23 : decode cX8_favourable 23 = .ok (.iconst (-1), 1) := by decide +kernel
theorem dX8_favourable_24 : decode cX8_favourable 24 = .ok (.ixor, 1) := by decide +kernel
theorem dX8_favourable_25 : decode cX8_favourable 25 = .ok (.iand, 1) := by decide +kernel
theorem dX8_favourable_26 : decode cX8_favourable 26 = .ok (.ifCond .ne 56, 3) := by decide +kernel
theorem dX8_favourable_29 : decode cX8_favourable 29 = .ok (.aload_n 0, 1) := by decide +kernel
theorem dX8_favourable_30 : decode cX8_favourable 30 = .ok (.getfield 19, 3) := by decide +kernel
theorem dX8_favourable_33 : decode cX8_favourable 33 = .ok (.iload 6, 2) := by decide +kernel
theorem dX8_favourable_35 : decode cX8_favourable 35 = .ok (.iload_n 2, 1) := by decide +kernel
theorem dX8_favourable_36 : decode cX8_favourable 36 = .ok (.iload_n 3, 1) := by decide +kernel
theorem dX8_favourable_37 : decode cX8_favourable 37 = .ok (.invokevirtual 213, 3) := by decide +kernel
theorem dX8_favourable_40 : decode cX8_favourable 40 = .ok (.ifCond .eq 42, 3) := by decide +kernel
theorem dX8_favourable_43 : decode cX8_favourable 43 = .ok (.iload 6, 2) := by decide +kernel
theorem dX8_favourable_45 : decode cX8_favourable 45 = .ok (.invokestatic 219, 3) := by decide +kernel
theorem dX8_favourable_48 : decode cX8_favourable 48 = .ok (.istore 7, 2) := by decide +kernel
theorem dX8_favourable_50 : decode cX8_favourable 50 = .ok (.iload_n 1, 1) := by decide +kernel
theorem dX8_favourable_51 : decode cX8_favourable 51 = .ok (.invokestatic 219, 3) := by decide +kernel
theorem dX8_favourable_54 : decode cX8_favourable 54 = .ok (.iload 7, 2) := by decide +kernel
theorem dX8_favourable_56 : decode cX8_favourable 56 = .ok (.isub, 1) := by decide +kernel
theorem dX8_favourable_57 : decode cX8_favourable 57 = .ok (.istore 8, 2) := by decide +kernel
theorem dX8_favourable_59 : decode cX8_favourable 59 = .ok (.iload 5, 2) := by decide +kernel
theorem dX8_favourable_61 : decode cX8_favourable 61 = .ok (.bipush 10, 2) := by decide +kernel
theorem dX8_favourable_63 : decode cX8_favourable 63 = .ok (.iload 4, 2) := by decide +kernel
theorem dX8_favourable_65 : decode cX8_favourable 65 = .ok (.isub, 1) := by decide +kernel
theorem dX8_favourable_66 : decode cX8_favourable 66 = .ok (.iload 7, 2) := by decide +kernel
theorem dX8_favourable_68 : decode cX8_favourable 68 = .ok (.invokestatic 228, 3) := by decide +kernel
theorem dX8_favourable_71 : decode cX8_favourable 71 = .ok (.iload 4, 2) := by decide +kernel
theorem dX8_favourable_73 : decode cX8_favourable 73 = .ok (.iload 8, 2) := by decide +kernel
theorem dX8_favourable_75 : decode cX8_favourable 75 = .ok (.invokestatic 228, 3) := by decide +kernel
theorem dX8_favourable_78 : decode cX8_favourable 78 = .ok (.imul, 1) := by decide +kernel
theorem dX8_favourable_79 : decode cX8_favourable 79 = .ok (.iadd, 1) := by decide +kernel
theorem dX8_favourable_80 : decode cX8_favourable 80 = .ok (.istore 5, 2) := by decide +kernel
theorem dX8_favourable_82 : decode cX8_favourable 82 = .ok (.iinc 6 1, 3) := by decide +kernel
theorem dX8_favourable_85 : decode cX8_favourable 85 = .ok (.goto (-79), 3) := by decide +kernel
theorem dX8_favourable_88 : decode cX8_favourable 88 = .ok (.iload 5, 2) := by decide +kernel
theorem dX8_favourable_90 : decode cX8_favourable 90 = .ok (.ireturn, 1) := by decide +kernel
theorem dX8_power_0 : decode cX8_power 0 = .ok (.iconst 1, 1) := by decide +kernel
theorem dX8_power_1 : decode cX8_power 1 = .ok (.istore_n 2, 1) := by decide +kernel
theorem dX8_power_2 : decode cX8_power 2 = .ok (.iconst 0, 1) := by decide +kernel
theorem dX8_power_3 : decode cX8_power 3 = .ok (.istore_n 3, 1) := by decide +kernel
theorem dX8_power_4 : decode cX8_power 4 = .ok (.iload_n 3, 1) := by decide +kernel
theorem dX8_power_5 : decode cX8_power 5 = .ok (.iload_n 1, 1) := by decide +kernel
theorem dX8_power_6 : decode cX8_power 6 = .ok (.if_icmp .ge 13, 3) := by decide +kernel
theorem dX8_power_9 : decode cX8_power 9 = .ok (.iload_n 2, 1) := by decide +kernel
theorem dX8_power_10 : decode cX8_power 10 = .ok (.iload_n 0, 1) := by decide +kernel
theorem dX8_power_11 : decode cX8_power 11 = .ok (.imul, 1) := by decide +kernel
theorem dX8_power_12 : decode cX8_power 12 = .ok (.istore_n 2, 1) := by decide +kernel
theorem dX8_power_13 : decode cX8_power 13 = .ok (.iinc 3 1, 3) := by decide +kernel
theorem dX8_power_16 : decode cX8_power 16 = .ok (.goto (-12), 3) := by decide +kernel
theorem dX8_power_19 : decode cX8_power 19 = .ok (.iload_n 2, 1) := by decide +kernel
theorem dX8_power_20 : decode cX8_power 20 = .ok (.ireturn, 1) := by decide +kernel
theorem dX8_widenessWithout_0 : decode cX8_widenessWithout 0 = .ok (.iconst 0, 1) := by decide +kernel
theorem dX8_widenessWithout_1 : decode cX8_widenessWithout 1 = .ok (.istore_n 2, 1) := by decide +kernel
theorem dX8_widenessWithout_2 : decode cX8_widenessWithout 2 = .ok (.iconst 0, 1) := by decide +kernel
theorem dX8_widenessWithout_3 : decode cX8_widenessWithout 3 = .ok (.istore_n 3, 1) := by decide +kernel
theorem dX8_widenessWithout_4 : decode cX8_widenessWithout 4 = .ok (.iload_n 3, 1) := by decide +kernel
theorem dX8_widenessWithout_5 : decode cX8_widenessWithout 5 = .ok (.aload_n 0, 1) := by decide +kernel
theorem dX8_widenessWithout_6 : decode cX8_widenessWithout 6 = .ok (.getfield 19, 3) := by decide +kernel
theorem dX8_widenessWithout_9 : decode cX8_widenessWithout 9 = .ok (.getfield 232, 3) := by decide +kernel
theorem dX8_widenessWithout_12 : decode cX8_widenessWithout 12 = .ok (.if_icmp .ge 35, 3) := by decide +kernel
theorem dX8_widenessWithout_15 : decode cX8_widenessWithout 15 = .ok (.iload_n 2, 1) := by decide +kernel
theorem dX8_widenessWithout_16 : decode cX8_widenessWithout 16 = .ok (.iload_n 1, 1) := by decide +kernel
theorem dX8_widenessWithout_17 : decode cX8_widenessWithout 17 = .ok (.iload_n 3, 1) := by decide +kernel
theorem dX8_widenessWithout_18 : decode cX8_widenessWithout 18 = .ok (.ishr, 1) := by decide +kernel
theorem dX8_widenessWithout_19 : decode cX8_widenessWithout 19 = .ok (.iconst 1, 1) := by decide +kernel
theorem dX8_widenessWithout_20 : decode cX8_widenessWithout 20 = .ok (.iand, 1) := by decide +kernel
theorem dX8_widenessWithout_21 : decode cX8_widenessWithout 21 = .ok (.ifCond .eq 13, 3) := by decide +kernel
theorem dX8_widenessWithout_24 : decode cX8_widenessWithout 24 = .ok (.aload_n 0, 1) := by decide +kernel
theorem dX8_widenessWithout_25 : decode cX8_widenessWithout 25 = .ok (.getfield 19, 3) := by decide +kernel
theorem dX8_widenessWithout_28 : decode cX8_widenessWithout 28 = .ok (.getfield 283, 3) := by decide +kernel
theorem dX8_widenessWithout_31 : decode cX8_widenessWithout 31 = .ok (.goto 8, 3) := by decide +kernel
theorem dX8_widenessWithout_34 : decode cX8_widenessWithout 34 = .ok (.aload_n 0, 1) := by decide +kernel
theorem dX8_widenessWithout_35 : decode cX8_widenessWithout 35 = .ok (.iload_n 3, 1) := by decide +kernel
theorem dX8_widenessWithout_36 : decode cX8_widenessWithout 36 = .ok (.invokevirtual 125, 3) := by decide +kernel
theorem dX8_widenessWithout_39 : decode cX8_widenessWithout 39 = .ok (.iadd, 1) := by decide +kernel
theorem dX8_widenessWithout_40 : decode cX8_widenessWithout 40 = .ok (.istore_n 2, 1) := by decide +kernel
theorem dX8_widenessWithout_41 : decode cX8_widenessWithout 41 = .ok (.iinc 3 1, 3) := by decide +kernel
theorem dX8_widenessWithout_44 : decode cX8_widenessWithout 44 = .ok (.goto (-40), 3) := by decide +kernel
theorem dX8_widenessWithout_47 : decode cX8_widenessWithout 47 = .ok (.iload_n 2, 1) := by decide +kernel
theorem dX8_widenessWithout_48 : decode cX8_widenessWithout 48 = .ok (.ireturn, 1) := by decide +kernel
theorem dX8_peopleAhead_0 : decode cX8_peopleAhead 0 = .ok (.aload_n 0, 1) := by decide +kernel
theorem dX8_peopleAhead_1 : decode cX8_peopleAhead 1 = .ok (.getfield 29, 3) := by decide +kernel
theorem dX8_peopleAhead_4 : decode cX8_peopleAhead 4 = .ok (.getfield 113, 3) := by decide +kernel
theorem dX8_peopleAhead_7 : decode cX8_peopleAhead 7 = .ok (.getfield 117, 3) := by decide +kernel
theorem dX8_peopleAhead_10 : decode cX8_peopleAhead 10 = .ok (.astore_n 2, 1) := by decide +kernel
theorem dX8_peopleAhead_11 : decode cX8_peopleAhead 11 = .ok (.iconst 0, 1) := by decide +kernel
theorem dX8_peopleAhead_12 : decode cX8_peopleAhead 12 = .ok (.istore_n 3, 1) := by decide +kernel
theorem dX8_peopleAhead_13 : decode cX8_peopleAhead 13 = .ok (.iconst 0, 1) := by decide +kernel
theorem dX8_peopleAhead_14 : decode cX8_peopleAhead 14 = .ok (.istore 4, 2) := by decide +kernel
theorem dX8_peopleAhead_16 : decode cX8_peopleAhead 16 = .ok (.iload 4, 2) := by decide +kernel
theorem dX8_peopleAhead_18 : decode cX8_peopleAhead 18 = .ok (.aload_n 0, 1) := by decide +kernel
theorem dX8_peopleAhead_19 : decode cX8_peopleAhead 19 = .ok (.getfield 19, 3) := by decide +kernel
theorem dX8_peopleAhead_22 : decode cX8_peopleAhead 22 = .ok (.getfield 232, 3) := by decide +kernel
theorem dX8_peopleAhead_25 : decode cX8_peopleAhead 25 = .ok (.if_icmp .ge 38, 3) := by decide +kernel
theorem dX8_peopleAhead_28 : decode cX8_peopleAhead 28 = .ok (.aload_n 2, 1) := by decide +kernel
theorem dX8_peopleAhead_29 : decode cX8_peopleAhead 29 = .ok (.iload 4, 2) := by decide +kernel
theorem dX8_peopleAhead_31 : decode cX8_peopleAhead 31 = .ok (.iaload, 1) := by decide +kernel
theorem dX8_peopleAhead_32 : decode cX8_peopleAhead 32 = .ok (.aload_n 2, 1) := by decide +kernel
theorem dX8_peopleAhead_33 : decode cX8_peopleAhead 33 = .ok (.iload_n 1, 1) := by decide +kernel
theorem dX8_peopleAhead_34 : decode cX8_peopleAhead 34 = .ok (.iaload, 1) := by decide +kernel
theorem dX8_peopleAhead_35 : decode cX8_peopleAhead 35 = .ok (.if_icmp .gt 19, 3) := by decide +kernel
theorem dX8_peopleAhead_38 : decode cX8_peopleAhead 38 = .ok (.aload_n 2, 1) := by decide +kernel
theorem dX8_peopleAhead_39 : decode cX8_peopleAhead 39 = .ok (.iload 4, 2) := by decide +kernel
theorem dX8_peopleAhead_41 : decode cX8_peopleAhead 41 = .ok (.iaload, 1) := by decide +kernel
theorem dX8_peopleAhead_42 : decode cX8_peopleAhead 42 = .ok (.aload_n 2, 1) := by decide +kernel
theorem dX8_peopleAhead_43 : decode cX8_peopleAhead 43 = .ok (.iload_n 1, 1) := by decide +kernel
theorem dX8_peopleAhead_44 : decode cX8_peopleAhead 44 = .ok (.iaload, 1) := by decide +kernel
theorem dX8_peopleAhead_45 : decode cX8_peopleAhead 45 = .ok (.if_icmp .ne 12, 3) := by decide +kernel
theorem dX8_peopleAhead_48 : decode cX8_peopleAhead 48 = .ok (.iload 4, 2) := by decide +kernel
theorem dX8_peopleAhead_50 : decode cX8_peopleAhead 50 = .ok (.iload_n 1, 1) := by decide +kernel
theorem dX8_peopleAhead_51 : decode cX8_peopleAhead 51 = .ok (.if_icmp .ge 6, 3) := by decide +kernel
theorem dX8_peopleAhead_54 : decode cX8_peopleAhead 54 = .ok (.iinc 3 1, 3) := by decide +kernel
theorem dX8_peopleAhead_57 : decode cX8_peopleAhead 57 = .ok (.iinc 4 1, 3) := by decide +kernel
theorem dX8_peopleAhead_60 : decode cX8_peopleAhead 60 = .ok (.goto (-44), 3) := by decide +kernel
theorem dX8_peopleAhead_63 : decode cX8_peopleAhead 63 = .ok (.iload_n 3, 1) := by decide +kernel
theorem dX8_peopleAhead_64 : decode cX8_peopleAhead 64 = .ok (.ireturn, 1) := by decide +kernel
theorem dX8_fitting_0 : decode cX8_fitting 0 = .ok (.iconst 0, 1) := by decide +kernel
theorem dX8_fitting_1 : decode cX8_fitting 1 = .ok (.istore_n 2, 1) := by decide +kernel
theorem dX8_fitting_2 : decode cX8_fitting 2 = .ok (.iconst 0, 1) := by decide +kernel
theorem dX8_fitting_3 : decode cX8_fitting 3 = .ok (.istore_n 3, 1) := by decide +kernel
theorem dX8_fitting_4 : decode cX8_fitting 4 = .ok (.iload_n 3, 1) := by decide +kernel
theorem dX8_fitting_5 : decode cX8_fitting 5 = .ok (.bipush 9, 2) := by decide +kernel
theorem dX8_fitting_7 : decode cX8_fitting 7 = .ok (.if_icmp .gt 44, 3) := by decide +kernel
theorem dX8_fitting_10 : decode cX8_fitting 10 = .ok (.aload_n 0, 1) := by decide +kernel
theorem dX8_fitting_11 : decode cX8_fitting 11 = .ok (.getfield 44, 3) := by decide +kernel
theorem dX8_fitting_14 : decode cX8_fitting 14 = .ok (.iload_n 1, 1) := by decide +kernel
theorem dX8_fitting_15 : decode cX8_fitting 15 = .ok (.aload_n 0, 1) := by decide +kernel
theorem dX8_fitting_16 : decode cX8_fitting 16 = .ok (.getfield 19, 3) := by decide +kernel
theorem dX8_fitting_19 : decode cX8_fitting 19 = .ok (.getfield 283, 3) := by decide +kernel
theorem dX8_fitting_22 : decode cX8_fitting 22 = .ok (.iconst 2, 1) := by decide +kernel
theorem dX8_fitting_23 : decode cX8_fitting 23 = .ok (.iload_n 3, 1) := by decide +kernel
theorem dX8_fitting_24 : decode cX8_fitting 24 = .ok (.imul, 1) := by decide +kernel
theorem dX8_fitting_25 : decode cX8_fitting 25 = .ok (.iadd, 1) := by decide +kernel
theorem dX8_fitting_26 : decode cX8_fitting 26 = .ok (.aload_n 0, 1) := by decide +kernel
theorem dX8_fitting_27 : decode cX8_fitting 27 = .ok (.getfield 19, 3) := by decide +kernel
theorem dX8_fitting_30 : decode cX8_fitting 30 = .ok (.getfield 286, 3) := by decide +kernel
theorem dX8_fitting_33 : decode cX8_fitting 33 = .ok (.invokevirtual 292, 3) := by decide +kernel
theorem dX8_fitting_36 : decode cX8_fitting 36 = .ok (.ifCond .eq 9, 3) := by decide +kernel
theorem dX8_fitting_39 : decode cX8_fitting 39 = .ok (.iload_n 2, 1) := by decide +kernel
theorem dX8_fitting_40 : decode cX8_fitting 40 = .ok (.iconst 1, 1) := by decide +kernel
theorem dX8_fitting_41 : decode cX8_fitting 41 = .ok (.iload_n 3, 1) := by decide +kernel
theorem dX8_fitting_42 : decode cX8_fitting 42 = .ok (.ishl, 1) := by decide +kernel
theorem dX8_fitting_43 : decode cX8_fitting 43 = .ok (.ior, 1) := by decide +kernel
theorem dX8_fitting_44 : decode cX8_fitting 44 = .ok (.istore_n 2, 1) := by decide +kernel
theorem dX8_fitting_45 : decode cX8_fitting 45 = .ok (.iinc 3 1, 3) := by decide +kernel
theorem dX8_fitting_48 : decode cX8_fitting 48 = .ok (.goto (-44), 3) := by decide +kernel
theorem dX8_fitting_51 : decode cX8_fitting 51 = .ok (.iload_n 2, 1) := by decide +kernel
theorem dX8_fitting_52 : decode cX8_fitting 52 = .ok (.ireturn, 1) := by decide +kernel
theorem dX8_padded_0 : decode cX8_padded 0 = .ok (.iconst 0, 1) := by decide +kernel
theorem dX8_padded_1 : decode cX8_padded 1 = .ok (.istore_n 1, 1) := by decide +kernel
theorem dX8_padded_2 : decode cX8_padded 2 = .ok (.iconst 0, 1) := by decide +kernel
theorem dX8_padded_3 : decode cX8_padded 3 = .ok (.istore_n 2, 1) := by decide +kernel
theorem dX8_padded_4 : decode cX8_padded 4 = .ok (.iload_n 2, 1) := by decide +kernel
theorem dX8_padded_5 : decode cX8_padded 5 = .ok (.aload_n 0, 1) := by decide +kernel
theorem dX8_padded_6 : decode cX8_padded 6 = .ok (.getfield 19, 3) := by decide +kernel
theorem dX8_padded_9 : decode cX8_padded 9 = .ok (.getfield 232, 3) := by decide +kernel
theorem dX8_padded_12 : decode cX8_padded 12 = .ok (.if_icmp .ge 38, 3) := by decide +kernel
theorem dX8_padded_15 : decode cX8_padded 15 = .ok (.aload_n 0, 1) := by decide +kernel
theorem dX8_padded_16 : decode cX8_padded 16 = .ok (.iload_n 2, 1) := by decide +kernel
theorem dX8_padded_17 : decode cX8_padded 17 = .ok (.invokevirtual 254, 3) := by decide +kernel
theorem dX8_padded_20 : decode cX8_padded 20 = .ok (.aload_n 0, 1) := by decide +kernel
theorem dX8_padded_21 : decode cX8_padded 21 = .ok (.getfield 29, 3) := by decide +kernel
theorem dX8_padded_24 : decode cX8_padded 24 = .ok (.getfield 113, 3) := by decide +kernel
theorem dX8_padded_27 : decode cX8_padded 27 = .ok (.getfield 117, 3) := by decide +kernel
theorem dX8_padded_30 : decode cX8_padded 30 = .ok (.iload_n 2, 1) := by decide +kernel
theorem dX8_padded_31 : decode cX8_padded 31 = .ok (.iaload, 1) := by decide +kernel
theorem dX8_padded_32 : decode cX8_padded 32 = .ok (.ishr, 1) := by decide +kernel
theorem dX8_padded_33 : decode cX8_padded 33 = .ok (.iconst 1, 1) := by decide +kernel
theorem dX8_padded_34 : decode cX8_padded 34 = .ok (.iand, 1) := by decide +kernel
theorem dX8_padded_35 : decode cX8_padded 35 = .ok (.ifCond .ne 9, 3) := by decide +kernel
theorem dX8_padded_38 : decode cX8_padded 38 = .ok (.iload_n 1, 1) := by decide +kernel
theorem dX8_padded_39 : decode cX8_padded 39 = .ok (.iconst 1, 1) := by decide +kernel
theorem dX8_padded_40 : decode cX8_padded 40 = .ok (.iload_n 2, 1) := by decide +kernel
theorem dX8_padded_41 : decode cX8_padded 41 = .ok (.ishl, 1) := by decide +kernel
theorem dX8_padded_42 : decode cX8_padded 42 = .ok (.ior, 1) := by decide +kernel
theorem dX8_padded_43 : decode cX8_padded 43 = .ok (.istore_n 1, 1) := by decide +kernel
theorem dX8_padded_44 : decode cX8_padded 44 = .ok (.iinc 2 1, 3) := by decide +kernel
theorem dX8_padded_47 : decode cX8_padded 47 = .ok (.goto (-43), 3) := by decide +kernel
theorem dX8_padded_50 : decode cX8_padded 50 = .ok (.iload_n 1, 1) := by decide +kernel
theorem dX8_padded_51 : decode cX8_padded 51 = .ok (.ireturn, 1) := by decide +kernel
theorem dX8_markPerson_0 : decode cX8_markPerson 0 = .ok (.aload_n 0, 1) := by decide +kernel
theorem dX8_markPerson_1 : decode cX8_markPerson 1 = .ok (.dup, 1) := by decide +kernel
theorem dX8_markPerson_2 : decode cX8_markPerson 2 = .ok (.getfield 62, 3) := by decide +kernel
theorem dX8_markPerson_5 : decode cX8_markPerson 5 = .ok (.lconst 1, 1) := by decide +kernel
theorem dX8_markPerson_6 : decode cX8_markPerson 6 = .ok (.ladd, 1) := by decide +kernel
theorem dX8_markPerson_7 : decode cX8_markPerson 7 = .ok (.putfield 62, 3) := by decide +kernel
theorem dX8_markPerson_10 : decode cX8_markPerson 10 = .ok (.aload_n 0, 1) := by decide +kernel
theorem dX8_markPerson_11 : decode cX8_markPerson 11 = .ok (.iload_n 1, 1) := by decide +kernel
theorem dX8_markPerson_12 : decode cX8_markPerson 12 = .ok (.invokevirtual 125, 3) := by decide +kernel
theorem dX8_markPerson_15 : decode cX8_markPerson 15 = .ok (.ireturn, 1) := by decide +kernel
theorem dX8_markEarl_0 : decode cX8_markEarl 0 = .ok (.aload_n 0, 1) := by decide +kernel
theorem dX8_markEarl_1 : decode cX8_markEarl 1 = .ok (.dup, 1) := by decide +kernel
theorem dX8_markEarl_2 : decode cX8_markEarl 2 = .ok (.getfield 62, 3) := by decide +kernel
theorem dX8_markEarl_5 : decode cX8_markEarl 5 = .ok (.ldc2_w 295, 3) := by decide +kernel
theorem dX8_markEarl_8 : decode cX8_markEarl 8 = .ok (.ladd, 1) := by decide +kernel
theorem dX8_markEarl_9 : decode cX8_markEarl 9 = .ok (.putfield 62, 3) := by decide +kernel
theorem dX8_markEarl_12 : decode cX8_markEarl 12 = .ok (.aload_n 0, 1) := by decide +kernel
theorem dX8_markEarl_13 : decode cX8_markEarl 13 = .ok (.iload_n 1, 1) := by decide +kernel
theorem dX8_markEarl_14 : decode cX8_markEarl 14 = .ok (.invokevirtual 258, 3) := by decide +kernel
theorem dX8_markEarl_17 : decode cX8_markEarl 17 = .ok (.aload_n 0, 1) := by decide +kernel
theorem dX8_markEarl_18 : decode cX8_markEarl 18 = .ok (.iload_n 1, 1) := by decide +kernel
theorem dX8_markEarl_19 : decode cX8_markEarl 19 = .ok (.invokevirtual 132, 3) := by decide +kernel
theorem dX8_markEarl_22 : decode cX8_markEarl 22 = .ok (.invokestatic 219, 3) := by decide +kernel
theorem dX8_markEarl_25 : decode cX8_markEarl 25 = .ok (.iadd, 1) := by decide +kernel
theorem dX8_markEarl_26 : decode cX8_markEarl 26 = .ok (.ireturn, 1) := by decide +kernel
theorem dX8_markPage_0 : decode cX8_markPage 0 = .ok (.aload_n 0, 1) := by decide +kernel
theorem dX8_markPage_1 : decode cX8_markPage 1 = .ok (.dup, 1) := by decide +kernel
theorem dX8_markPage_2 : decode cX8_markPage 2 = .ok (.getfield 62, 3) := by decide +kernel
theorem dX8_markPage_5 : decode cX8_markPage 5 = .ok (.ldc2_w 297, 3) := by decide +kernel
theorem dX8_markPage_8 : decode cX8_markPage 8 = .ok (.ladd, 1) := by decide +kernel
theorem dX8_markPage_9 : decode cX8_markPage 9 = .ok (.putfield 62, 3) := by decide +kernel
theorem dX8_markPage_12 : decode cX8_markPage 12 = .ok (.aload_n 0, 1) := by decide +kernel
theorem dX8_markPage_13 : decode cX8_markPage 13 = .ok (.iload_n 1, 1) := by decide +kernel
theorem dX8_markPage_14 : decode cX8_markPage 14 = .ok (.invokevirtual 258, 3) := by decide +kernel
theorem dX8_markPage_17 : decode cX8_markPage 17 = .ok (.iload_n 1, 1) := by decide +kernel
theorem dX8_markPage_18 : decode cX8_markPage 18 = .ok (.isub, 1) := by decide +kernel
theorem dX8_markPage_19 : decode cX8_markPage 19 = .ok (.ireturn, 1) := by decide +kernel
theorem dX8_markBride_0 : decode cX8_markBride 0 = .ok (.aload_n 0, 1) := by decide +kernel
theorem dX8_markBride_1 : decode cX8_markBride 1 = .ok (.dup, 1) := by decide +kernel
theorem dX8_markBride_2 : decode cX8_markBride 2 = .ok (.getfield 62, 3) := by decide +kernel
theorem dX8_markBride_5 : decode cX8_markBride 5 = .ok (.ldc2_w 299, 3) := by decide +kernel
theorem dX8_markBride_8 : decode cX8_markBride 8 = .ok (.ladd, 1) := by decide +kernel
theorem dX8_markBride_9 : decode cX8_markBride 9 = .ok (.putfield 62, 3) := by decide +kernel
theorem dX8_markBride_12 : decode cX8_markBride 12 = .ok (.aload_n 0, 1) := by decide +kernel
theorem dX8_markBride_13 : decode cX8_markBride 13 = .ok (.iload_n 1, 1) := by decide +kernel
theorem dX8_markBride_14 : decode cX8_markBride 14 = .ok (.invokevirtual 261, 3) := by decide +kernel
theorem dX8_markBride_17 : decode cX8_markBride 17 = .ok (.iconst 2, 1) := by decide +kernel
theorem dX8_markBride_18 : decode cX8_markBride 18 = .ok (.imul, 1) := by decide +kernel
theorem dX8_markBride_19 : decode cX8_markBride 19 = .ok (.ireturn, 1) := by decide +kernel
theorem dX8_markTailor_0 : decode cX8_markTailor 0 = .ok (.aload_n 0, 1) := by decide +kernel
theorem dX8_markTailor_1 : decode cX8_markTailor 1 = .ok (.dup, 1) := by decide +kernel
theorem dX8_markTailor_2 : decode cX8_markTailor 2 = .ok (.getfield 62, 3) := by decide +kernel
theorem dX8_markTailor_5 : decode cX8_markTailor 5 = .ok (.ldc2_w 301, 3) := by decide +kernel
theorem dX8_markTailor_8 : decode cX8_markTailor 8 = .ok (.ladd, 1) := by decide +kernel
theorem dX8_markTailor_9 : decode cX8_markTailor 9 = .ok (.putfield 62, 3) := by decide +kernel
theorem dX8_markTailor_12 : decode cX8_markTailor 12 = .ok (.aload_n 0, 1) := by decide +kernel
theorem dX8_markTailor_13 : decode cX8_markTailor 13 = .ok (.iload_n 1, 1) := by decide +kernel
theorem dX8_markTailor_14 : decode cX8_markTailor 14 = .ok (.invokevirtual 264, 3) := by decide +kernel
theorem dX8_markTailor_17 : decode cX8_markTailor 17 = .ok (.aload_n 0, 1) := by decide +kernel
theorem dX8_markTailor_18 : decode cX8_markTailor 18 = .ok (.getfield 29, 3) := by decide +kernel
theorem dX8_markTailor_21 : decode cX8_markTailor 21 = .ok (.getfield 113, 3) := by decide +kernel
theorem dX8_markTailor_24 : decode cX8_markTailor 24 = .ok (.getfield 129, 3) := by decide +kernel
theorem dX8_markTailor_27 : decode cX8_markTailor 27 = .ok (.iload_n 1, 1) := by decide +kernel
theorem dX8_markTailor_28 : decode cX8_markTailor 28 = .ok (.iaload, 1) := by decide +kernel
theorem dX8_markTailor_29 : decode cX8_markTailor 29 = .ok (.iadd, 1) := by decide +kernel
theorem dX8_markTailor_30 : decode cX8_markTailor 30 = .ok (.ireturn, 1) := by decide +kernel
theorem dX8_markThief_0 : decode cX8_markThief 0 = .ok (.aload_n 0, 1) := by decide +kernel
theorem dX8_markThief_1 : decode cX8_markThief 1 = .ok (.dup, 1) := by decide +kernel
theorem dX8_markThief_2 : decode cX8_markThief 2 = .ok (.getfield 62, 3) := by decide +kernel
theorem dX8_markThief_5 : decode cX8_markThief 5 = .ok (.ldc2_w 303, 3) := by decide +kernel
theorem dX8_markThief_8 : decode cX8_markThief 8 = .ok (.ladd, 1) := by decide +kernel
theorem dX8_markThief_9 : decode cX8_markThief 9 = .ok (.putfield 62, 3) := by decide +kernel
theorem dX8_markThief_12 : decode cX8_markThief 12 = .ok (.aload_n 0, 1) := by decide +kernel
theorem dX8_markThief_13 : decode cX8_markThief 13 = .ok (.iload_n 1, 1) := by decide +kernel
theorem dX8_markThief_14 : decode cX8_markThief 14 = .ok (.invokevirtual 258, 3) := by decide +kernel
theorem dX8_markThief_17 : decode cX8_markThief 17 = .ok (.aload_n 0, 1) := by decide +kernel
theorem dX8_markThief_18 : decode cX8_markThief 18 = .ok (.invokevirtual 168, 3) := by decide +kernel
theorem dX8_markThief_21 : decode cX8_markThief 21 = .ok (.iadd, 1) := by decide +kernel
theorem dX8_markThief_22 : decode cX8_markThief 22 = .ok (.ireturn, 1) := by decide +kernel
theorem dX9_init_0 : decode cX9_init 0 = .ok (.aload_n 0, 1) := by decide +kernel
theorem dX9_init_1 : decode cX9_init 1 = .ok (.invokespecial 1, 3) := by decide +kernel
theorem dX9_init_4 : decode cX9_init 4 = .ok (.aload_n 0, 1) := by decide +kernel
theorem dX9_init_5 : decode cX9_init 5 = .ok (.sipush 150, 3) := by decide +kernel
theorem dX9_init_8 : decode cX9_init 8 = .ok (.newarray .byte, 2) := by decide +kernel
theorem dX9_init_10 : decode cX9_init 10 = .ok (.putfield 7, 3) := by decide +kernel
theorem dX9_init_13 : decode cX9_init 13 = .ok (.aload_n 0, 1) := by decide +kernel
theorem dX9_init_14 : decode cX9_init 14 = .ok (.iconst 2, 1) := by decide +kernel
theorem dX9_init_15 : decode cX9_init 15 = .ok (.newarray .int, 2) := by decide +kernel
theorem dX9_init_17 : decode cX9_init 17 = .ok (.putfield 13, 3) := by decide +kernel
theorem dX9_init_20 : decode cX9_init 20 = .ok (.aload_n 0, 1) := by decide +kernel
theorem dX9_init_21 : decode cX9_init 21 = .ok (.iconst 2, 1) := by decide +kernel
theorem dX9_init_22 : decode cX9_init 22 = .ok (.newarray .int, 2) := by decide +kernel
theorem dX9_init_24 : decode cX9_init 24 = .ok (.putfield 17, 3) := by decide +kernel
theorem dX9_init_27 : decode cX9_init 27 = .ok (.aload_n 0, 1) := by decide +kernel
theorem dX9_init_28 : decode cX9_init 28 = .ok (.bipush 16, 2) := by decide +kernel
theorem dX9_init_30 : decode cX9_init 30 = .ok (.newarray .int, 2) := by decide +kernel
theorem dX9_init_32 : decode cX9_init 32 = .ok (.putfield 20, 3) := by decide +kernel
theorem dX9_init_35 : decode cX9_init 35 = .ok (.aload_n 0, 1) := by decide +kernel
theorem dX9_init_36 : decode cX9_init 36 = .ok (.bipush 16, 2) := by decide +kernel
theorem dX9_init_38 : decode cX9_init 38 = .ok (.newarray .int, 2) := by decide +kernel
theorem dX9_init_40 : decode cX9_init 40 = .ok (.putfield 23, 3) := by decide +kernel
theorem dX9_init_43 : decode cX9_init 43 = .ok (.aload_n 0, 1) := by decide +kernel
theorem dX9_init_44 : decode cX9_init 44 = .ok (.bipush 16, 2) := by decide +kernel
theorem dX9_init_46 : decode cX9_init 46 = .ok (.newarray .int, 2) := by decide +kernel
theorem dX9_init_48 : decode cX9_init 48 = .ok (.putfield 26, 3) := by decide +kernel
theorem dX9_init_51 : decode cX9_init 51 = .ok (.aload_n 0, 1) := by decide +kernel
theorem dX9_init_52 : decode cX9_init 52 = .ok (.iconst 2, 1) := by decide +kernel
theorem dX9_init_53 : decode cX9_init 53 = .ok (.newarray .int, 2) := by decide +kernel
theorem dX9_init_55 : decode cX9_init 55 = .ok (.putfield 29, 3) := by decide +kernel
theorem dX9_init_58 : decode cX9_init 58 = .ok (.aload_n 0, 1) := by decide +kernel
theorem dX9_init_59 : decode cX9_init 59 = .ok (.iconst 5, 1) := by decide +kernel
theorem dX9_init_60 : decode cX9_init 60 = .ok (.newarray .int, 2) := by decide +kernel
theorem dX9_init_62 : decode cX9_init 62 = .ok (.putfield 32, 3) := by decide +kernel
theorem dX9_init_65 : decode cX9_init 65 = .ok (.aload_n 0, 1) := by decide +kernel
theorem dX9_init_66 : decode cX9_init 66 = .ok (.iconst 5, 1) := by decide +kernel
theorem dX9_init_67 : decode cX9_init 67 = .ok (.newarray .int, 2) := by decide +kernel
theorem dX9_init_69 : decode cX9_init 69 = .ok (.putfield 35, 3) := by decide +kernel
theorem dX9_init_72 : decode cX9_init 72 = .ok (.aload_n 0, 1) := by decide +kernel
theorem dX9_init_73 : decode cX9_init 73 = .ok (.iconst 2, 1) := by decide +kernel
theorem dX9_init_74 : decode cX9_init 74 = .ok (.newarray .int, 2) := by decide +kernel
theorem dX9_init_76 : decode cX9_init 76 = .ok (.putfield 38, 3) := by decide +kernel
theorem dX9_init_79 : decode cX9_init 79 = .ok (.aload_n 0, 1) := by decide +kernel
theorem dX9_init_80 : decode cX9_init 80 = .ok (.iconst 2, 1) := by decide +kernel
theorem dX9_init_81 : decode cX9_init 81 = .ok (.newarray .int, 2) := by decide +kernel
theorem dX9_init_83 : decode cX9_init 83 = .ok (.putfield 41, 3) := by decide +kernel
theorem dX9_init_86 : decode cX9_init 86 = .ok (.aload_n 0, 1) := by decide +kernel
theorem dX9_init_87 : decode cX9_init 87 = .ok (.sipush 531, 3) := by decide +kernel
theorem dX9_init_90 : decode cX9_init 90 = .ok (.newarray .int, 2) := by decide +kernel
theorem dX9_init_92 : decode cX9_init 92 = .ok (.putfield 44, 3) := by decide +kernel
theorem dX9_init_95 : decode cX9_init 95 = .ok (.aload_n 0, 1) := by decide +kernel
theorem dX9_init_96 : decode cX9_init 96 = .ok (.iconst 2, 1) := by decide +kernel
theorem dX9_init_97 : decode cX9_init 97 = .ok (.newarray .boolean, 2) := by decide +kernel
theorem dX9_init_99 : decode cX9_init 99 = .ok (.putfield 47, 3) := by decide +kernel
theorem dX9_init_102 : decode cX9_init 102 = .ok (.aload_n 0, 1) := by decide +kernel
theorem dX9_init_103 : decode cX9_init 103 = .ok (.bipush 8, 2) := by decide +kernel
theorem dX9_init_105 : decode cX9_init 105 = .ok (.newarray .int, 2) := by decide +kernel
theorem dX9_init_107 : decode cX9_init 107 = .ok (.putfield 51, 3) := by decide +kernel
theorem dX9_init_110 : decode cX9_init 110 = .ok (.aload_n 0, 1) := by decide +kernel
theorem dX9_init_111 : decode cX9_init 111 = .ok (.iconst 5, 1) := by decide +kernel
theorem dX9_init_112 : decode cX9_init 112 = .ok (.newarray .int, 2) := by decide +kernel
theorem dX9_init_114 : decode cX9_init 114 = .ok (.putfield 54, 3) := by decide +kernel
theorem dX9_init_117 : decode cX9_init 117 = .ok (.aload_n 0, 1) := by decide +kernel
theorem dX9_init_118 : decode cX9_init 118 = .ok (.iconst 5, 1) := by decide +kernel
theorem dX9_init_119 : decode cX9_init 119 = .ok (.newarray .int, 2) := by decide +kernel
theorem dX9_init_121 : decode cX9_init 121 = .ok (.putfield 57, 3) := by decide +kernel
theorem dX9_init_124 : decode cX9_init 124 = .ok (.aload_n 0, 1) := by decide +kernel
theorem dX9_init_125 : decode cX9_init 125 = .ok (.bipush 6, 2) := by decide +kernel
theorem dX9_init_127 : decode cX9_init 127 = .ok (.newarray .int, 2) := by decide +kernel
theorem dX9_init_129 : decode cX9_init 129 = .ok (.putfield 60, 3) := by decide +kernel
theorem dX9_init_132 : decode cX9_init 132 = .ok (.aload_n 0, 1) := by decide +kernel
theorem dX9_init_133 : decode cX9_init 133 = .ok (.bipush 6, 2) := by decide +kernel
theorem dX9_init_135 : decode cX9_init 135 = .ok (.newarray .int, 2) := by decide +kernel
theorem dX9_init_137 : decode cX9_init 137 = .ok (.putfield 63, 3) := by decide +kernel
theorem dX9_init_140 : decode cX9_init 140 = .ok (.aload_n 0, 1) := by decide +kernel
theorem dX9_init_141 : decode cX9_init 141 = .ok (.invokevirtual 66, 3) := by decide +kernel
theorem dX9_init_144 : decode cX9_init 144 = .ok (.aload_n 0, 1) := by decide +kernel
theorem dX9_init_145 : decode cX9_init 145 = .ok (.invokevirtual 69, 3) := by decide +kernel
theorem dX9_init_148 : decode cX9_init 148 = .ok (.return_, 1) := by decide +kernel
theorem dX9_in_0 : decode cX9_in 0 = .ok (.iload_n 0, 1) := by decide +kernel
theorem dX9_in_1 : decode cX9_in 1 = .ok (.iload_n 1, 1) := by decide +kernel
theorem dX9_in_2 : decode cX9_in 2 = .ok (.if_icmp .lt 12, 3) := by decide +kernel
theorem dX9_in_5 : decode cX9_in 5 = .ok (.iload_n 0, 1) := by decide +kernel
theorem dX9_in_6 : decode cX9_in 6 = .ok (.iload_n 2, 1) := by decide +kernel
theorem dX9_in_7 : decode cX9_in 7 = .ok (.if_icmp .gt 7, 3) := by decide +kernel
theorem dX9_in_10 : decode cX9_in 10 = .ok (.iconst 1, 1) := by decide +kernel
theorem dX9_in_11 : decode cX9_in 11 = .ok (.goto 4, 3) := by decide +kernel
theorem dX9_in_14 : decode cX9_in 14 = .ok (.iconst 0, 1) := by decide +kernel
theorem dX9_in_15 : decode cX9_in 15 = .ok (.ireturn, 1) := by decide +kernel
theorem dX9_type_0 : decode cX9_type 0 = .ok (.iload_n 1, 1) := by decide +kernel
theorem dX9_type_1 : decode cX9_type 1 = .ok (.iconst 0, 1) := by decide +kernel
theorem dX9_type_2 : decode cX9_type 2 = .ok (.sipush 255, 3) := by decide +kernel
theorem dX9_type_5 : decode cX9_type 5 = .ok (.invokestatic 72, 3) := by decide +kernel
theorem dX9_type_8 : decode cX9_type 8 = .ok (.ifCond .ne 5, 3) := by decide +kernel
theorem dX9_type_11 : decode cX9_type 11 = .ok (.iconst (-1), 1) := by decide +kernel
theorem dX9_type_12 : decode cX9_type 12 = .ok (.ireturn, 1) := by decide +kernel
theorem dX9_type_13 : decode cX9_type 13 = .ok (.aload_n 0, 1) := by decide +kernel
theorem dX9_type_14 : decode cX9_type 14 = .ok (.getfield 76, 3) := by decide +kernel
theorem dX9_type_17 : decode cX9_type 17 = .ok (.sipush 150, 3) := by decide +kernel
theorem dX9_type_20 : decode cX9_type 20 = .ok (.if_icmp .ne 6, 3) := by decide +kernel
theorem dX9_type_23 : decode cX9_type 23 = .ok (.bipush (-3), 2) := by decide +kernel
theorem dX9_type_25 : decode cX9_type 25 = .ok (.ireturn, 1) := by decide +kernel
theorem dX9_type_26 : decode cX9_type 26 = .ok (.aload_n 0, 1) := by decide +kernel
theorem dX9_type_27 : decode cX9_type 27 = .ok (.getfield 7, 3) := by decide +kernel
theorem dX9_type_30 : decode cX9_type 30 = .ok (.aload_n 0, 1) := by decide +kernel
theorem dX9_type_31 : decode cX9_type 31 = .ok (.getfield 76, 3) := by decide +kernel
theorem dX9_type_34 : decode cX9_type 34 = .ok (.iload_n 1, 1) := by decide +kernel
theorem dX9_type_35 : decode cX9_type 35 = .ok (.i2b, 1) := by decide +kernel
theorem dX9_type_36 : decode cX9_type 36 = .ok (.bastore, 1) := by decide +kernel
theorem dX9_type_37 : decode cX9_type 37 = .ok (.aload_n 0, 1) := by decide +kernel
theorem dX9_type_38 : decode cX9_type 38 = .ok (.dup, 1) := by decide +kernel
theorem dX9_type_39 : decode cX9_type 39 = .ok (.getfield 76, 3) := by decide +kernel
theorem dX9_type_42 : decode cX9_type 42 = .ok (.iconst 1, 1) := by decide +kernel
theorem dX9_type_43 : decode cX9_type 43 = .ok (.iadd, 1) := by decide +kernel
theorem dX9_type_44 : decode cX9_type 44 = .ok (.putfield 76, 3) := by decide +kernel
theorem dX9_type_47 : decode cX9_type 47 = .ok (.aload_n 0, 1) := by decide +kernel
theorem dX9_type_48 : decode cX9_type 48 = .ok (.getfield 76, 3) := by decide +kernel
theorem dX9_type_51 : decode cX9_type 51 = .ok (.ireturn, 1) := by decide +kernel
theorem dX9_clear_0 : decode cX9_clear 0 = .ok (.aload_n 0, 1) := by decide +kernel
theorem dX9_clear_1 : decode cX9_clear 1 = .ok (.getfield 76, 3) := by decide +kernel
theorem dX9_clear_4 : decode cX9_clear 4 = .ok (.istore_n 1, 1) := by decide +kernel
theorem dX9_clear_5 : decode cX9_clear 5 = .ok (.aload_n 0, 1) := by decide +kernel
theorem dX9_clear_6 : decode cX9_clear 6 = .ok (.iconst 0, 1) := by decide +kernel
theorem dX9_clear_7 : decode cX9_clear 7 = .ok (.putfield 76, 3) := by decide +kernel
theorem dX9_clear_10 : decode cX9_clear 10 = .ok (.iload_n 1, 1) := by decide +kernel
theorem dX9_clear_11 : decode cX9_clear 11 = .ok (.ireturn, 1) := by decide +kernel
theorem dX9_here_0 : decode cX9_here 0 = .ok (.aload_n 0, 1) := by decide +kernel
theorem dX9_here_1 : decode cX9_here 1 = .ok (.getfield 80, 3) := by decide +kernel
theorem dX9_here_4 : decode cX9_here 4 = .ok (.aload_n 0, 1) := by decide +kernel
theorem dX9_here_5 : decode cX9_here 5 = .ok (.getfield 76, 3) := by decide +kernel
theorem dX9_here_8 : decode cX9_here 8 = .ok (.if_icmp .ge 19, 3) := by decide +kernel
theorem dX9_here_11 : decode cX9_here 11 = .ok (.aload_n 0, 1) := by decide +kernel
theorem dX9_here_12 : decode cX9_here 12 = .ok (.getfield 7, 3) := by decide +kernel
theorem dX9_here_15 : decode cX9_here 15 = .ok (.aload_n 0, 1) := by decide +kernel
theorem dX9_here_16 : decode cX9_here 16 = .ok (.getfield 80, 3) := by decide +kernel
theorem dX9_here_19 : decode cX9_here 19 = .ok (.baload, 1) := by decide +kernel
theorem dX9_here_20 : decode cX9_here 20 = .ok (.sipush 255, 3) := by decide +kernel
theorem dX9_here_23 : decode cX9_here 23 = .ok (.iand, 1) := by decide +kernel
theorem dX9_here_24 : decode cX9_here 24 = .ok (.goto 4, 3) := by decide +kernel
theorem dX9_here_27 : decode cX9_here 27 = .ok (.iconst (-1), 1) := by decide +kernel
theorem dX9_here_28 : decode cX9_here 28 = .ok (.ireturn, 1) := by decide +kernel
theorem dX9_step_0 : decode cX9_step 0 = .ok (.aload_n 0, 1) := by decide +kernel
theorem dX9_step_1 : decode cX9_step 1 = .ok (.invokevirtual 83, 3) := by decide +kernel
theorem dX9_step_4 : decode cX9_step 4 = .ok (.bipush 32, 2) := by decide +kernel
theorem dX9_step_6 : decode cX9_step 6 = .ok (.if_icmp .ne 16, 3) := by decide +kernel
theorem dX9_step_9 : decode cX9_step 9 = .ok (.aload_n 0, 1) := by decide +kernel
theorem dX9_step_10 : decode cX9_step 10 = .ok (.dup, 1) := by decide +kernel
theorem dX9_step_11 : decode cX9_step 11 = .ok (.getfield 80, 3) := by decide +kernel
theorem dX9_step_14 : decode cX9_step 14 = .ok (.iconst 1, 1) := by decide +kernel
theorem dX9_step_15 : decode cX9_step 15 = .ok (.iadd, 1) := by decide +kernel
theorem dX9_step_16 : decode cX9_step 16 = .ok (.putfield 80, 3) := by decide +kernel
theorem dX9_step_19 : decode cX9_step 19 = .ok (.goto (-19), 3) := by decide +kernel
theorem dX9_step_22 : decode cX9_step 22 = .ok (.aload_n 0, 1) := by decide +kernel
theorem dX9_step_23 : decode cX9_step 23 = .ok (.aload_n 0, 1) := by decide +kernel
theorem dX9_step_24 : decode cX9_step 24 = .ok (.getfield 80, 3) := by decide +kernel
theorem dX9_step_27 : decode cX9_step 27 = .ok (.putfield 87, 3) := by decide +kernel
theorem dX9_step_30 : decode cX9_step 30 = .ok (.aload_n 0, 1) := by decide +kernel
theorem dX9_step_31 : decode cX9_step 31 = .ok (.iconst 0, 1) := by decide +kernel
theorem dX9_step_32 : decode cX9_step 32 = .ok (.putfield 90, 3) := by decide +kernel
theorem dX9_step_35 : decode cX9_step 35 = .ok (.aload_n 0, 1) := by decide +kernel
theorem dX9_step_36 : decode cX9_step 36 = .ok (.invokevirtual 83, 3) := by decide +kernel
theorem dX9_step_39 : decode cX9_step 39 = .ok (.istore_n 1, 1) := by decide +kernel
theorem dX9_step_40 : decode cX9_step 40 = .ok (.iload_n 1, 1) := by decide +kernel
theorem dX9_step_41 : decode cX9_step 41 = .ok (.ifCond .ge 11, 3) := by decide +kernel
theorem dX9_step_44 : decode cX9_step 44 = .ok (.aload_n 0, 1) := by decide +kernel
theorem dX9_step_45 : decode cX9_step 45 = .ok (.iconst 3, 1) := by decide +kernel
theorem dX9_step_46 : decode cX9_step 46 = .ok (.putfield 93, 3) := by decide +kernel
theorem dX9_step_49 : decode cX9_step 49 = .ok (.goto 204, 3) := by decide +kernel
theorem dX9_step_52 : decode cX9_step 52 = .ok (.iload_n 1, 1) := by decide +kernel
theorem dX9_step_53 : decode cX9_step 53 = .ok (.bipush 97, 2) := by decide +kernel
theorem dX9_step_55 : decode cX9_step 55 = .ok (.bipush 122, 2) := by decide +kernel
theorem dX9_step_57 : decode cX9_step 57 = .ok (.invokestatic 72, 3) := by decide +kernel
theorem dX9_step_60 : decode cX9_step 60 = .ok (.ifCond .eq 55, 3) := by decide +kernel
theorem dX9_step_63 : decode cX9_step 63 = .ok (.aload_n 0, 1) := by decide +kernel
theorem dX9_step_64 : decode cX9_step 64 = .ok (.invokevirtual 83, 3) := by decide +kernel
theorem dX9_step_67 : decode cX9_step 67 = .ok (.bipush 97, 2) := by decide +kernel
theorem dX9_step_69 : decode cX9_step 69 = .ok (.bipush 122, 2) := by decide +kernel
theorem dX9_step_71 : decode cX9_step 71 = .ok (.invokestatic 72, 3) := by decide +kernel
theorem dX9_step_74 : decode cX9_step 74 = .ok (.ifCond .eq 16, 3) := by decide +kernel
theorem dX9_step_77 : decode cX9_step 77 = .ok (.aload_n 0, 1) := by decide +kernel
theorem dX9_step_78 : decode cX9_step 78 = .ok (.dup, 1) := by decide +kernel
theorem dX9_step_79 : decode cX9_step 79 = .ok (.getfield 80, 3) := by decide +kernel
theorem dX9_step_82 : decode cX9_step 82 = .ok (.iconst 1, 1) := by decide +kernel
theorem dX9_step_83 : decode cX9_step 83 = .ok (.iadd, 1) := by decide +kernel
theorem dX9_step_84 : decode cX9_step 84 = .ok (.putfield 80, 3) := by decide +kernel
theorem dX9_step_87 : decode cX9_step 87 = .ok (.goto (-24), 3) := by decide +kernel
theorem dX9_step_90 : decode cX9_step 90 = .ok (.aload_n 0, 1) := by decide +kernel
theorem dX9_step_91 : decode cX9_step 91 = .ok (.aload_n 0, 1) := by decide +kernel
theorem dX9_step_92 : decode cX9_step 92 = .ok (.getfield 80, 3) := by decide +kernel
theorem dX9_step_95 : decode cX9_step 95 = .ok (.aload_n 0, 1) := by decide +kernel
theorem dX9_step_96 : decode cX9_step 96 = .ok (.getfield 87, 3) := by decide +kernel
theorem dX9_step_99 : decode cX9_step 99 = .ok (.isub, 1) := by decide +kernel
theorem dX9_step_100 : decode cX9_step 100 = .ok (.iconst 1, 1) := by decide +kernel
theorem dX9_step_101 : decode cX9_step 101 = .ok (.if_icmp .ne 7, 3) := by decide +kernel
theorem dX9_step_104 : decode cX9_step 104 = .ok (.iload_n 1, 1) := by decide +kernel
theorem dX9_step_105 : decode cX9_step 105 = .ok (.goto 4, 3) := by decide +kernel
theorem dX9_step_108 : decode cX9_step 108 = .ok (.iconst 4, 1) := by decide +kernel
theorem dX9_step_109 : decode cX9_step 109 = .ok (.putfield 93, 3) := by decide +kernel
theorem dX9_step_112 : decode cX9_step 112 = .ok (.goto 141, 3) := by decide +kernel
theorem dX9_step_115 : decode cX9_step 115 = .ok (.iload_n 1, 1) := by decide +kernel
theorem dX9_step_116 : decode cX9_step 116 = .ok (.bipush 48, 2) := by decide +kernel
theorem dX9_step_118 : decode cX9_step 118 = .ok (.bipush 57, 2) := by decide +kernel
theorem dX9_step_120 : decode cX9_step 120 = .ok (.invokestatic 72, 3) := by decide +kernel
theorem dX9_step_123 : decode cX9_step 123 = .ok (.ifCond .eq 105, 3) := by decide +kernel
theorem dX9_step_126 : decode cX9_step 126 = .ok (.aload_n 0, 1) := by decide +kernel
theorem dX9_step_127 : decode cX9_step 127 = .ok (.invokevirtual 83, 3) := by decide +kernel
theorem dX9_step_130 : decode cX9_step 130 = .ok (.bipush 48, 2) := by decide +kernel
theorem dX9_step_132 : decode cX9_step 132 = .ok (.bipush 57, 2) := by decide +kernel
theorem dX9_step_134 : decode cX9_step 134 = .ok (.invokestatic 72, 3) := by decide +kernel
theorem dX9_step_137 : decode cX9_step 137 = .ok (.ifCond .eq 51, 3) := by decide +kernel
theorem dX9_step_140 : decode cX9_step 140 = .ok (.aload_n 0, 1) := by decide +kernel
theorem dX9_step_141 : decode cX9_step 141 = .ok (.aload_n 0, 1) := by decide +kernel
theorem dX9_step_142 : decode cX9_step 142 = .ok (.getfield 90, 3) := by decide +kernel
theorem dX9_step_145 : decode cX9_step 145 = .ok (.bipush 99, 2) := by decide +kernel
theorem dX9_step_147 : decode cX9_step 147 = .ok (.if_icmp .le 10, 3) := by decide +kernel
theorem dX9_step_150 : decode cX9_step 150 = .ok (.aload_n 0, 1) := by decide +kernel
theorem dX9_step_151 : decode cX9_step 151 = .ok (.getfield 90, 3) := by decide +kernel
theorem dX9_step_154 : decode cX9_step 154 = .ok (.goto 18, 3) := by decide +kernel
theorem dX9_step_157 : decode cX9_step 157 = .ok (.bipush 10, 2) := by decide +kernel
theorem dX9_step_159 : decode cX9_step 159 = .ok (.aload_n 0, 1) := by decide +kernel
theorem dX9_step_160 : decode cX9_step 160 = .ok (.getfield 90, 3) := by decide +kernel
theorem dX9_step_163 : decode cX9_step 163 = .ok (.imul, 1) := by decide +kernel
theorem dX9_step_164 : decode cX9_step 164 = .ok (.aload_n 0, 1) := by decide +kernel
theorem dX9_step_165 : decode cX9_step 165 = .ok (.invokevirtual 83, 3) := by decide +kernel
theorem dX9_step_168 : decode cX9_step 168 = .ok (.iadd, 1) := by decide +kernel
theorem dX9_step_169 : decode cX9_step 169 = .ok (.bipush 48, 2) := by decide +kernel
theorem dX9_step_171 : decode cX9_step 171 = .ok (.isub, 1) := by decide +kernel
theorem dX9_step_172 : decode cX9_step 172 = .ok (.putfield 90, 3) := by decide +kernel
theorem dX9_step_175 : decode cX9_step 175 = .ok (.aload_n 0, 1) := by decide +kernel
theorem dX9_step_176 : decode cX9_step 176 = .ok (.dup, 1) := by decide +kernel
theorem dX9_step_177 : decode cX9_step 177 = .ok (.getfield 80, 3) := by decide +kernel
theorem dX9_step_180 : decode cX9_step 180 = .ok (.iconst 1, 1) := by decide +kernel
theorem dX9_step_181 : decode cX9_step 181 = .ok (.iadd, 1) := by decide +kernel
theorem dX9_step_182 : decode cX9_step 182 = .ok (.putfield 80, 3) := by decide +kernel
theorem dX9_step_185 : decode cX9_step 185 = .ok (.goto (-59), 3) := by decide +kernel
theorem dX9_step_188 : decode cX9_step 188 = .ok (.aload_n 0, 1) := by decide +kernel
theorem dX9_step_189 : decode cX9_step 189 = .ok (.aload_n 0, 1) := by decide +kernel
theorem dX9_step_190 : decode cX9_step 190 = .ok (.getfield 90, 3) := by decide +kernel
theorem dX9_step_193 : decode cX9_step 193 = .ok (.bipush 99, 2) := by decide +kernel
theorem dX9_step_195 : decode cX9_step 195 = .ok (.if_icmp .gt 22, 3) := by decide +kernel
theorem dX9_step_198 : decode cX9_step 198 = .ok (.iload_n 1, 1) := by decide +kernel
theorem dX9_step_199 : decode cX9_step 199 = .ok (.bipush 48, 2) := by decide +kernel
theorem dX9_step_201 : decode cX9_step 201 = .ok (.if_icmp .ne 20, 3) := by decide +kernel
theorem dX9_step_204 : decode cX9_step 204 = .ok (.aload_n 0, 1) := by decide +kernel
theorem dX9_step_205 : decode cX9_step 205 = .ok (.getfield 80, 3) := by decide +kernel
theorem dX9_step_208 : decode cX9_step 208 = .ok (.aload_n 0, 1) := by decide +kernel
theorem dX9_step_209 : decode cX9_step 209 = .ok (.getfield 87, 3) := by decide +kernel
theorem dX9_step_212 : decode cX9_step 212 = .ok (.isub, 1) := by decide +kernel
theorem dX9_step_213 : decode cX9_step 213 = .ok (.iconst 1, 1) := by decide +kernel
theorem dX9_step_214 : decode cX9_step 214 = .ok (.if_icmp .le 7, 3) := by decide +kernel
theorem dX9_step_217 : decode cX9_step 217 = .ok (.iconst 4, 1) := by decide +kernel
theorem dX9_step_218 : decode cX9_step 218 = .ok (.goto 4, 3) := by decide +kernel
theorem dX9_step_221 : decode cX9_step 221 = .ok (.iconst 1, 1) := by decide +kernel
theorem dX9_step_222 : decode cX9_step 222 = .ok (.putfield 93, 3) := by decide +kernel
theorem dX9_step_225 : decode cX9_step 225 = .ok (.goto 28, 3) := by decide +kernel
theorem dX9_step_228 : decode cX9_step 228 = .ok (.aload_n 0, 1) := by decide +kernel
theorem dX9_step_229 : decode cX9_step 229 = .ok (.dup, 1) := by decide +kernel
theorem dX9_step_230 : decode cX9_step 230 = .ok (.getfield 80, 3) := by decide +kernel
theorem dX9_step_233 : decode cX9_step 233 = .ok (.iconst 1, 1) := by decide +kernel
theorem dX9_step_234 : decode cX9_step 234 = .ok (.iadd, 1) := by decide +kernel
theorem dX9_step_235 : decode cX9_step 235 = .ok (.putfield 80, 3) := by decide +kernel
theorem dX9_step_238 : decode cX9_step 238 = .ok (.aload_n 0, 1) := by decide +kernel
theorem dX9_step_239 : decode cX9_step 239 = .ok (.iload_n 1, 1) := by decide +kernel
theorem dX9_step_240 : decode cX9_step 240 = .ok (.bipush 59, 2) := by decide +kernel
theorem dX9_step_242 : decode cX9_step 242 = .ok (.if_icmp .ne 7, 3) := by decide +kernel
theorem dX9_step_245 : decode cX9_step 245 = .ok (.iconst 2, 1) := by decide +kernel
theorem dX9_step_246 : decode cX9_step 246 = .ok (.goto 4, 3) := by decide +kernel
theorem dX9_step_249 : decode cX9_step 249 = .ok (.iconst 4, 1) := by decide +kernel
theorem dX9_step_250 : decode cX9_step 250 = .ok (.putfield 93, 3) := by decide +kernel
theorem dX9_step_253 : decode cX9_step 253 = .ok (.return_, 1) := by decide +kernel
theorem dX9_due_0 : decode cX9_due 0 = .ok (.aload_n 0, 1) := by decide +kernel
theorem dX9_due_1 : decode cX9_due 1 = .ok (.getfield 90, 3) := by decide +kernel
theorem dX9_due_4 : decode cX9_due 4 = .ok (.istore_n 2, 1) := by decide +kernel
theorem dX9_due_5 : decode cX9_due 5 = .ok (.aload_n 0, 1) := by decide +kernel
theorem dX9_due_6 : decode cX9_due 6 = .ok (.getfield 96, 3) := by decide +kernel
theorem dX9_due_9 : decode cX9_due 9 = .ok (.bipush (-9), 2) := by decide +kernel
theorem dX9_due_11 : decode cX9_due 11 = .ok (.if_icmp .ne 22, 3) := by decide +kernel
theorem dX9_due_14 : decode cX9_due 14 = .ok (.iload_n 1, 1) := by decide +kernel
theorem dX9_due_15 : decode cX9_due 15 = .ok (.ifCond .eq 10, 3) := by decide +kernel
theorem dX9_due_18 : decode cX9_due 18 = .ok (.aload_n 0, 1) := by decide +kernel
theorem dX9_due_19 : decode cX9_due 19 = .ok (.invokevirtual 99, 3) := by decide +kernel
theorem dX9_due_22 : decode cX9_due 22 = .ok (.goto 11, 3) := by decide +kernel
theorem dX9_due_25 : decode cX9_due 25 = .ok (.aload_n 0, 1) := by decide +kernel
theorem dX9_due_26 : decode cX9_due 26 = .ok (.aload_n 0, 1) := by decide +kernel
theorem dX9_due_27 : decode cX9_due 27 = .ok (.getfield 87, 3) := by decide +kernel
theorem dX9_due_30 : decode cX9_due 30 = .ok (.putfield 96, 3) := by decide +kernel
theorem dX9_due_33 : decode cX9_due 33 = .ok (.iload_n 2, 1) := by decide +kernel
theorem dX9_due_34 : decode cX9_due 34 = .ok (.ireturn, 1) := by decide +kernel
theorem dX9_number_0 : decode cX9_number 0 = .ok (.aload_n 0, 1) := by decide +kernel
theorem dX9_number_1 : decode cX9_number 1 = .ok (.aload_n 0, 1) := by decide +kernel
theorem dX9_number_2 : decode cX9_number 2 = .ok (.getfield 93, 3) := by decide +kernel
theorem dX9_number_5 : decode cX9_number 5 = .ok (.iconst 1, 1) := by decide +kernel
theorem dX9_number_6 : decode cX9_number 6 = .ok (.if_icmp .ne 19, 3) := by decide +kernel
theorem dX9_number_9 : decode cX9_number 9 = .ok (.aload_n 0, 1) := by decide +kernel
theorem dX9_number_10 : decode cX9_number 10 = .ok (.getfield 90, 3) := by decide +kernel
theorem dX9_number_13 : decode cX9_number 13 = .ok (.iload_n 1, 1) := by decide +kernel
theorem dX9_number_14 : decode cX9_number 14 = .ok (.iload_n 2, 1) := by decide +kernel
theorem dX9_number_15 : decode cX9_number 15 = .ok (.invokestatic 72, 3) := by decide +kernel
theorem dX9_number_18 : decode cX9_number 18 = .ok (.ifCond .eq 7, 3) := by decide +kernel
theorem dX9_number_21 : decode cX9_number 21 = .ok (.iconst 1, 1) := by decide +kernel
theorem dX9_number_22 : decode cX9_number 22 = .ok (.goto 4, 3) := by decide +kernel
theorem dX9_number_25 : decode cX9_number 25 = .ok (.iconst 0, 1) := by decide +kernel
theorem dX9_number_26 : decode cX9_number 26 = .ok (.invokevirtual 102, 3) := by decide +kernel
theorem dX9_number_29 : decode cX9_number 29 = .ok (.ireturn, 1) := by decide +kernel
theorem dX9_mayBe_0 : decode cX9_mayBe 0 = .ok (.iload_n 1, 1) := by decide +kernel
theorem dX9_mayBe_1 : decode cX9_mayBe 1 = .ok (.tableswitch 148 98 112 #[118, 148, 148, 133, 148, 148, 148, 148, 148, 148, 85, 148, 75, 148, 102], 75) := by decide +kernel
theorem dX9_mayBe_76 : decode cX9_mayBe 76 = .ok (.iload_n 2, 1) := by decide +kernel
theorem dX9_mayBe_77 : decode cX9_mayBe 77 = .ok (.ifCond .ne 7, 3) := by decide +kernel
theorem dX9_mayBe_80 : decode cX9_mayBe 80 = .ok (.iconst 1, 1) := by decide +kernel
theorem dX9_mayBe_81 : decode cX9_mayBe 81 = .ok (.goto 4, 3) := by decide +kernel
theorem dX9_mayBe_84 : decode cX9_mayBe 84 = .ok (.iconst 0, 1) := by decide +kernel
theorem dX9_mayBe_85 : decode cX9_mayBe 85 = .ok (.ireturn, 1) := by decide +kernel
theorem dX9_mayBe_86 : decode cX9_mayBe 86 = .ok (.aload_n 0, 1) := by decide +kernel
theorem dX9_mayBe_87 : decode cX9_mayBe 87 = .ok (.getfield 17, 3) := by decide +kernel
theorem dX9_mayBe_90 : decode cX9_mayBe 90 = .ok (.iconst 1, 1) := by decide +kernel
theorem dX9_mayBe_91 : decode cX9_mayBe 91 = .ok (.iaload, 1) := by decide +kernel
theorem dX9_mayBe_92 : decode cX9_mayBe 92 = .ok (.bipush 8, 2) := by decide +kernel
theorem dX9_mayBe_94 : decode cX9_mayBe 94 = .ok (.if_icmp .ge 7, 3) := by decide +kernel
theorem dX9_mayBe_97 : decode cX9_mayBe 97 = .ok (.iconst 1, 1) := by decide +kernel
theorem dX9_mayBe_98 : decode cX9_mayBe 98 = .ok (.goto 4, 3) := by decide +kernel
theorem dX9_mayBe_101 : decode cX9_mayBe 101 = .ok (.iconst 0, 1) := by decide +kernel
theorem dX9_mayBe_102 : decode cX9_mayBe 102 = .ok (.ireturn, 1) := by decide +kernel
theorem dX9_mayBe_103 : decode cX9_mayBe 103 = .ok (.aload_n 0, 1) := by decide +kernel
theorem dX9_mayBe_104 : decode cX9_mayBe 104 = .ok (.getfield 29, 3) := by decide +kernel
theorem dX9_mayBe_107 : decode cX9_mayBe 107 = .ok (.iconst 1, 1) := by decide +kernel
theorem dX9_mayBe_108 : decode cX9_mayBe 108 = .ok (.iaload, 1) := by decide +kernel
theorem dX9_mayBe_109 : decode cX9_mayBe 109 = .ok (.iconst 5, 1) := by decide +kernel
theorem dX9_mayBe_110 : decode cX9_mayBe 110 = .ok (.if_icmp .ge 7, 3) := by decide +kernel
theorem dX9_mayBe_113 : decode cX9_mayBe 113 = .ok (.iconst 1, 1) := by decide +kernel
theorem dX9_mayBe_114 : decode cX9_mayBe 114 = .ok (.goto 4, 3) := by decide +kernel
theorem dX9_mayBe_117 : decode cX9_mayBe 117 = .ok (.iconst 0, 1) := by decide +kernel
theorem dX9_mayBe_118 : decode cX9_mayBe 118 = .ok (.ireturn, 1) := by decide +kernel
theorem dX9_mayBe_119 : decode cX9_mayBe 119 = .ok (.aload_n 0, 1) := by decide +kernel
theorem dX9_mayBe_120 : decode cX9_mayBe 120 = .ok (.getfield 106, 3) := by decide +kernel
theorem dX9_mayBe_123 : decode cX9_mayBe 123 = .ok (.iconst 1, 1) := by decide +kernel
theorem dX9_mayBe_124 : decode cX9_mayBe 124 = .ok (.iand, 1) := by decide +kernel
theorem dX9_mayBe_125 : decode cX9_mayBe 125 = .ok (.ifCond .ne 7, 3) := by decide +kernel
theorem dX9_mayBe_128 : decode cX9_mayBe 128 = .ok (.iconst 1, 1) := by decide +kernel
theorem dX9_mayBe_129 : decode cX9_mayBe 129 = .ok (.goto 4, 3) := by decide +kernel
theorem dX9_mayBe_132 : decode cX9_mayBe 132 = .ok (.iconst 0, 1) := by decide +kernel
theorem dX9_mayBe_133 : decode cX9_mayBe 133 = .ok (.ireturn, 1) := by decide +kernel
theorem dX9_mayBe_134 : decode cX9_mayBe 134 = .ok (.aload_n 0, 1) := by decide +kernel
theorem dX9_mayBe_135 : decode cX9_mayBe 135 = .ok (.getfield 106, 3) := by decide +kernel
theorem dX9_mayBe_138 : decode cX9_mayBe 138 = .ok (.iconst 2, 1) := by decide +kernel
theorem dX9_mayBe_139 : decode cX9_mayBe 139 = .ok (.iand, 1) := by decide +kernel
theorem dX9_mayBe_140 : decode cX9_mayBe 140 = .ok (.ifCond .ne 7, 3) := by decide +kernel
theorem dX9_mayBe_143 : decode cX9_mayBe 143 = .ok (.iconst 1, 1) := by decide +kernel
theorem dX9_mayBe_144 : decode cX9_mayBe 144 = .ok (.goto 4, 3) := by decide +kernel
theorem dX9_mayBe_147 : decode cX9_mayBe 147 = .ok (.iconst 0, 1) := by decide +kernel
theorem dX9_mayBe_148 : decode cX9_mayBe 148 = .ok (.ireturn, 1) := by decide +kernel
theorem dX9_mayBe_149 : decode cX9_mayBe 149 = .ok (.iconst 0, 1) := by decide +kernel
theorem dX9_mayBe_150 : decode cX9_mayBe 150 = .ok (.ireturn, 1) := by decide +kernel
theorem dX9_readRow_0 : decode cX9_readRow 0 = .ok (.iload_n 1, 1) := by decide +kernel
theorem dX9_readRow_1 : decode cX9_readRow 1 = .ok (.lookupswitch 244 #[(98, 218), (108, 59), (110, 43), (112, 163)], 43) := by decide +kernel
theorem dX9_readRow_44 : decode cX9_readRow 44 = .ok (.aload_n 0, 1) := by decide +kernel
theorem dX9_readRow_45 : decode cX9_readRow 45 = .ok (.getfield 13, 3) := by decide +kernel
theorem dX9_readRow_48 : decode cX9_readRow 48 = .ok (.iconst 1, 1) := by decide +kernel
theorem dX9_readRow_49 : decode cX9_readRow 49 = .ok (.aload_n 0, 1) := by decide +kernel
theorem dX9_readRow_50 : decode cX9_readRow 50 = .ok (.iconst 2, 1) := by decide +kernel
theorem dX9_readRow_51 : decode cX9_readRow 51 = .ok (.bipush 8, 2) := by decide +kernel
theorem dX9_readRow_53 : decode cX9_readRow 53 = .ok (.invokevirtual 109, 3) := by decide +kernel
theorem dX9_readRow_56 : decode cX9_readRow 56 = .ok (.iastore, 1) := by decide +kernel
theorem dX9_readRow_57 : decode cX9_readRow 57 = .ok (.goto 210, 3) := by decide +kernel
theorem dX9_readRow_60 : decode cX9_readRow 60 = .ok (.bipush 8, 2) := by decide +kernel
theorem dX9_readRow_62 : decode cX9_readRow 62 = .ok (.aload_n 0, 1) := by decide +kernel
theorem dX9_readRow_63 : decode cX9_readRow 63 = .ok (.getfield 17, 3) := by decide +kernel
theorem dX9_readRow_66 : decode cX9_readRow 66 = .ok (.iconst 1, 1) := by decide +kernel
theorem dX9_readRow_67 : decode cX9_readRow 67 = .ok (.iaload, 1) := by decide +kernel
theorem dX9_readRow_68 : decode cX9_readRow 68 = .ok (.iadd, 1) := by decide +kernel
theorem dX9_readRow_69 : decode cX9_readRow 69 = .ok (.istore_n 2, 1) := by decide +kernel
theorem dX9_readRow_70 : decode cX9_readRow 70 = .ok (.aload_n 0, 1) := by decide +kernel
theorem dX9_readRow_71 : decode cX9_readRow 71 = .ok (.getfield 20, 3) := by decide +kernel
theorem dX9_readRow_74 : decode cX9_readRow 74 = .ok (.iload_n 2, 1) := by decide +kernel
theorem dX9_readRow_75 : decode cX9_readRow 75 = .ok (.aload_n 0, 1) := by decide +kernel
theorem dX9_readRow_76 : decode cX9_readRow 76 = .ok (.iconst 0, 1) := by decide +kernel
theorem dX9_readRow_77 : decode cX9_readRow 77 = .ok (.aload_n 0, 1) := by decide +kernel
theorem dX9_readRow_78 : decode cX9_readRow 78 = .ok (.getfield 13, 3) := by decide +kernel
theorem dX9_readRow_81 : decode cX9_readRow 81 = .ok (.iconst 1, 1) := by decide +kernel
