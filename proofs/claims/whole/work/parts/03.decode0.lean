theorem dX0_init_0 : decode cX0_init 0 = .ok (.aload_n 0, 1) := by decide +kernel
theorem dX0_init_1 : decode cX0_init 1 = .ok (.invokespecial 3, 3) := by decide +kernel
theorem dX0_init_4 : decode cX0_init 4 = .ok (.aload_n 0, 1) := by decide +kernel
theorem dX0_init_5 : decode cX0_init 5 = .ok (.new 9, 3) := by decide +kernel
theorem dX0_init_8 : decode cX0_init 8 = .ok (.dup, 1) := by decide +kernel
theorem dX0_init_9 : decode cX0_init 9 = .ok (.invokespecial 11, 3) := by decide +kernel
theorem dX0_init_12 : decode cX0_init 12 = .ok (.putfield 12, 3) := by decide +kernel
theorem dX0_init_15 : decode cX0_init 15 = .ok (.aload_n 0, 1) := by decide +kernel
theorem dX0_init_16 : decode cX0_init 16 = .ok (.bipush 10, 2) := by decide +kernel
theorem dX0_init_18 : decode cX0_init 18 = .ok (.anewarray 9, 3) := by decide +kernel
theorem dX0_init_21 : decode cX0_init 21 = .ok (.putfield 18, 3) := by decide +kernel
theorem dX0_init_24 : decode cX0_init 24 = .ok (.aload_n 0, 1) := by decide +kernel
theorem dX0_init_25 : decode cX0_init 25 = .ok (.iconst 0, 1) := by decide +kernel
theorem dX0_init_26 : decode cX0_init 26 = .ok (.putfield 22, 3) := by decide +kernel
theorem dX0_init_29 : decode cX0_init 29 = .ok (.iconst 0, 1) := by decide +kernel
theorem dX0_init_30 : decode cX0_init 30 = .ok (.istore_n 1, 1) := by decide +kernel
theorem dX0_init_31 : decode cX0_init 31 = .ok (.iload_n 1, 1) := by decide +kernel
theorem dX0_init_32 : decode cX0_init 32 = .ok (.bipush 10, 2) := by decide +kernel
theorem dX0_init_34 : decode cX0_init 34 = .ok (.if_icmp .ge 22, 3) := by decide +kernel
theorem dX0_init_37 : decode cX0_init 37 = .ok (.aload_n 0, 1) := by decide +kernel
theorem dX0_init_38 : decode cX0_init 38 = .ok (.getfield 18, 3) := by decide +kernel
theorem dX0_init_41 : decode cX0_init 41 = .ok (.iload_n 1, 1) := by decide +kernel
theorem dX0_init_42 : decode cX0_init 42 = .ok (.new 9, 3) := by decide +kernel
theorem dX0_init_45 : decode cX0_init 45 = .ok (.dup, 1) := by decide +kernel
theorem dX0_init_46 : decode cX0_init 46 = .ok (.invokespecial 11, 3) := by decide +kernel
theorem dX0_init_49 : decode cX0_init 49 = .ok (.aastore, 1) := by decide +kernel
theorem dX0_init_50 : decode cX0_init 50 = .ok (.iinc 1 1, 3) := by decide +kernel
theorem dX0_init_53 : decode cX0_init 53 = .ok (.goto (-22), 3) := by decide +kernel
theorem dX0_init_56 : decode cX0_init 56 = .ok (.return_, 1) := by decide +kernel
theorem dX0_begin_0 : decode cX0_begin 0 = .ok (.aload_n 0, 1) := by decide +kernel
theorem dX0_begin_1 : decode cX0_begin 1 = .ok (.getfield 12, 3) := by decide +kernel
theorem dX0_begin_4 : decode cX0_begin 4 = .ok (.aload_n 1, 1) := by decide +kernel
theorem dX0_begin_5 : decode cX0_begin 5 = .ok (.invokevirtual 26, 3) := by decide +kernel
theorem dX0_begin_8 : decode cX0_begin 8 = .ok (.aload_n 0, 1) := by decide +kernel
theorem dX0_begin_9 : decode cX0_begin 9 = .ok (.iconst 0, 1) := by decide +kernel
theorem dX0_begin_10 : decode cX0_begin 10 = .ok (.putfield 22, 3) := by decide +kernel
theorem dX0_begin_13 : decode cX0_begin 13 = .ok (.return_, 1) := by decide +kernel
theorem dX0_remember_0 : decode cX0_remember 0 = .ok (.aload_n 0, 1) := by decide +kernel
theorem dX0_remember_1 : decode cX0_remember 1 = .ok (.getfield 22, 3) := by decide +kernel
theorem dX0_remember_4 : decode cX0_remember 4 = .ok (.bipush 10, 2) := by decide +kernel
theorem dX0_remember_6 : decode cX0_remember 6 = .ok (.if_icmp .lt 7, 3) := by decide +kernel
theorem dX0_remember_9 : decode cX0_remember 9 = .ok (.aload_n 0, 1) := by decide +kernel
theorem dX0_remember_10 : decode cX0_remember 10 = .ok (.invokevirtual 30, 3) := by decide +kernel
theorem dX0_remember_13 : decode cX0_remember 13 = .ok (.aload_n 0, 1) := by decide +kernel
theorem dX0_remember_14 : decode cX0_remember 14 = .ok (.getfield 18, 3) := by decide +kernel
theorem dX0_remember_17 : decode cX0_remember 17 = .ok (.aload_n 0, 1) := by decide +kernel
theorem dX0_remember_18 : decode cX0_remember 18 = .ok (.getfield 22, 3) := by decide +kernel
theorem dX0_remember_21 : decode cX0_remember 21 = .ok (.aaload, 1) := by decide +kernel
theorem dX0_remember_22 : decode cX0_remember 22 = .ok (.aload_n 0, 1) := by decide +kernel
theorem dX0_remember_23 : decode cX0_remember 23 = .ok (.getfield 12, 3) := by decide +kernel
theorem dX0_remember_26 : decode cX0_remember 26 = .ok (.invokevirtual 33, 3) := by decide +kernel
theorem dX0_remember_29 : decode cX0_remember 29 = .ok (.aload_n 0, 1) := by decide +kernel
theorem dX0_remember_30 : decode cX0_remember 30 = .ok (.dup, 1) := by decide +kernel
theorem dX0_remember_31 : decode cX0_remember 31 = .ok (.getfield 22, 3) := by decide +kernel
theorem dX0_remember_34 : decode cX0_remember 34 = .ok (.iconst 1, 1) := by decide +kernel
theorem dX0_remember_35 : decode cX0_remember 35 = .ok (.iadd, 1) := by decide +kernel
theorem dX0_remember_36 : decode cX0_remember 36 = .ok (.putfield 22, 3) := by decide +kernel
theorem dX0_remember_39 : decode cX0_remember 39 = .ok (.return_, 1) := by decide +kernel
theorem dX0_loseOldest_0 : decode cX0_loseOldest 0 = .ok (.aload_n 0, 1) := by decide +kernel
theorem dX0_loseOldest_1 : decode cX0_loseOldest 1 = .ok (.getfield 18, 3) := by decide +kernel
theorem dX0_loseOldest_4 : decode cX0_loseOldest 4 = .ok (.iconst 0, 1) := by decide +kernel
theorem dX0_loseOldest_5 : decode cX0_loseOldest 5 = .ok (.aaload, 1) := by decide +kernel
theorem dX0_loseOldest_6 : decode cX0_loseOldest 6 = .ok (.astore_n 1, 1) := by decide +kernel
theorem dX0_loseOldest_7 : decode cX0_loseOldest 7 = .ok (.iconst 1, 1) := by decide +kernel
theorem dX0_loseOldest_8 : decode cX0_loseOldest 8 = .ok (.istore_n 2, 1) := by decide +kernel
theorem dX0_loseOldest_9 : decode cX0_loseOldest 9 = .ok (.iload_n 2, 1) := by decide +kernel
theorem dX0_loseOldest_10 : decode cX0_loseOldest 10 = .ok (.bipush 10, 2) := by decide +kernel
theorem dX0_loseOldest_12 : decode cX0_loseOldest 12 = .ok (.if_icmp .ge 23, 3) := by decide +kernel
theorem dX0_loseOldest_15 : decode cX0_loseOldest 15 = .ok (.aload_n 0, 1) := by decide +kernel
theorem dX0_loseOldest_16 : decode cX0_loseOldest 16 = .ok (.getfield 18, 3) := by decide +kernel
theorem dX0_loseOldest_19 : decode cX0_loseOldest 19 = .ok (.iload_n 2, 1) := by decide +kernel
theorem dX0_loseOldest_20 : decode cX0_loseOldest 20 = .ok (.iconst 1, 1) := by decide +kernel
theorem dX0_loseOldest_21 : decode cX0_loseOldest 21 = .ok (.isub, 1) := by decide +kernel
theorem dX0_loseOldest_22 : decode cX0_loseOldest 22 = .ok (.aload_n 0, 1) := by decide +kernel
theorem dX0_loseOldest_23 : decode cX0_loseOldest 23 = .ok (.getfield 18, 3) := by decide +kernel
theorem dX0_loseOldest_26 : decode cX0_loseOldest 26 = .ok (.iload_n 2, 1) := by decide +kernel
theorem dX0_loseOldest_27 : decode cX0_loseOldest 27 = .ok (.aaload, 1) := by decide +kernel
theorem dX0_loseOldest_28 : decode cX0_loseOldest 28 = .ok (.aastore, 1) := by decide +kernel
theorem dX0_loseOldest_29 : decode cX0_loseOldest 29 = .ok (.iinc 2 1, 3) := by decide +kernel
theorem dX0_loseOldest_32 : decode cX0_loseOldest 32 = .ok (.goto (-23), 3) := by decide +kernel
theorem dX0_loseOldest_35 : decode cX0_loseOldest 35 = .ok (.aload_n 0, 1) := by decide +kernel
theorem dX0_loseOldest_36 : decode cX0_loseOldest 36 = .ok (.getfield 18, 3) := by decide +kernel
theorem dX0_loseOldest_39 : decode cX0_loseOldest 39 = .ok (.bipush 9, 2) := by decide +kernel
theorem dX0_loseOldest_41 : decode cX0_loseOldest 41 = .ok (.aload_n 1, 1) := by decide +kernel
theorem dX0_loseOldest_42 : decode cX0_loseOldest 42 = .ok (.aastore, 1) := by decide +kernel
theorem dX0_loseOldest_43 : decode cX0_loseOldest 43 = .ok (.aload_n 0, 1) := by decide +kernel
theorem dX0_loseOldest_44 : decode cX0_loseOldest 44 = .ok (.bipush 9, 2) := by decide +kernel
theorem dX0_loseOldest_46 : decode cX0_loseOldest 46 = .ok (.putfield 22, 3) := by decide +kernel
theorem dX0_loseOldest_49 : decode cX0_loseOldest 49 = .ok (.return_, 1) := by decide +kernel
theorem dX0_stepBack_0 : decode cX0_stepBack 0 = .ok (.aload_n 0, 1) := by decide +kernel
theorem dX0_stepBack_1 : decode cX0_stepBack 1 = .ok (.getfield 22, 3) := by decide +kernel
theorem dX0_stepBack_4 : decode cX0_stepBack 4 = .ok (.ifCond .gt 5, 3) := by decide +kernel
theorem dX0_stepBack_7 : decode cX0_stepBack 7 = .ok (.iconst 0, 1) := by decide +kernel
theorem dX0_stepBack_8 : decode cX0_stepBack 8 = .ok (.ireturn, 1) := by decide +kernel
theorem dX0_stepBack_9 : decode cX0_stepBack 9 = .ok (.aload_n 0, 1) := by decide +kernel
theorem dX0_stepBack_10 : decode cX0_stepBack 10 = .ok (.dup, 1) := by decide +kernel
theorem dX0_stepBack_11 : decode cX0_stepBack 11 = .ok (.getfield 22, 3) := by decide +kernel
theorem dX0_stepBack_14 : decode cX0_stepBack 14 = .ok (.iconst 1, 1) := by decide +kernel
theorem dX0_stepBack_15 : decode cX0_stepBack 15 = .ok (.isub, 1) := by decide +kernel
theorem dX0_stepBack_16 : decode cX0_stepBack 16 = .ok (.putfield 22, 3) := by decide +kernel
theorem dX0_stepBack_19 : decode cX0_stepBack 19 = .ok (.aload_n 0, 1) := by decide +kernel
theorem dX0_stepBack_20 : decode cX0_stepBack 20 = .ok (.getfield 12, 3) := by decide +kernel
theorem dX0_stepBack_23 : decode cX0_stepBack 23 = .ok (.aload_n 0, 1) := by decide +kernel
theorem dX0_stepBack_24 : decode cX0_stepBack 24 = .ok (.getfield 18, 3) := by decide +kernel
theorem dX0_stepBack_27 : decode cX0_stepBack 27 = .ok (.aload_n 0, 1) := by decide +kernel
theorem dX0_stepBack_28 : decode cX0_stepBack 28 = .ok (.getfield 22, 3) := by decide +kernel
theorem dX0_stepBack_31 : decode cX0_stepBack 31 = .ok (.aaload, 1) := by decide +kernel
theorem dX0_stepBack_32 : decode cX0_stepBack 32 = .ok (.invokevirtual 33, 3) := by decide +kernel
theorem dX0_stepBack_35 : decode cX0_stepBack 35 = .ok (.iconst 1, 1) := by decide +kernel
theorem dX0_stepBack_36 : decode cX0_stepBack 36 = .ok (.ireturn, 1) := by decide +kernel
theorem dX0_copy_0 : decode cX0_copy 0 = .ok (.aload_n 0, 1) := by decide +kernel
theorem dX0_copy_1 : decode cX0_copy 1 = .ok (.getfield 12, 3) := by decide +kernel
theorem dX0_copy_4 : decode cX0_copy 4 = .ok (.aload_n 1, 1) := by decide +kernel
theorem dX0_copy_5 : decode cX0_copy 5 = .ok (.getfield 12, 3) := by decide +kernel
theorem dX0_copy_8 : decode cX0_copy 8 = .ok (.invokevirtual 33, 3) := by decide +kernel
theorem dX0_copy_11 : decode cX0_copy 11 = .ok (.iconst 0, 1) := by decide +kernel
theorem dX0_copy_12 : decode cX0_copy 12 = .ok (.istore_n 2, 1) := by decide +kernel
theorem dX0_copy_13 : decode cX0_copy 13 = .ok (.iload_n 2, 1) := by decide +kernel
theorem dX0_copy_14 : decode cX0_copy 14 = .ok (.aload_n 1, 1) := by decide +kernel
theorem dX0_copy_15 : decode cX0_copy 15 = .ok (.getfield 22, 3) := by decide +kernel
theorem dX0_copy_18 : decode cX0_copy 18 = .ok (.if_icmp .ge 24, 3) := by decide +kernel
theorem dX0_copy_21 : decode cX0_copy 21 = .ok (.aload_n 0, 1) := by decide +kernel
theorem dX0_copy_22 : decode cX0_copy 22 = .ok (.getfield 18, 3) := by decide +kernel
theorem dX0_copy_25 : decode cX0_copy 25 = .ok (.iload_n 2, 1) := by decide +kernel
theorem dX0_copy_26 : decode cX0_copy 26 = .ok (.aaload, 1) := by decide +kernel
theorem dX0_copy_27 : decode cX0_copy 27 = .ok (.aload_n 1, 1) := by decide +kernel
theorem dX0_copy_28 : decode cX0_copy 28 = .ok (.getfield 18, 3) := by decide +kernel
theorem dX0_copy_31 : decode cX0_copy 31 = .ok (.iload_n 2, 1) := by decide +kernel
theorem dX0_copy_32 : decode cX0_copy 32 = .ok (.aaload, 1) := by decide +kernel
theorem dX0_copy_33 : decode cX0_copy 33 = .ok (.invokevirtual 33, 3) := by decide +kernel
theorem dX0_copy_36 : decode cX0_copy 36 = .ok (.iinc 2 1, 3) := by decide +kernel
theorem dX0_copy_39 : decode cX0_copy 39 = .ok (.goto (-26), 3) := by decide +kernel
theorem dX0_copy_42 : decode cX0_copy 42 = .ok (.aload_n 0, 1) := by decide +kernel
theorem dX0_copy_43 : decode cX0_copy 43 = .ok (.aload_n 1, 1) := by decide +kernel
theorem dX0_copy_44 : decode cX0_copy 44 = .ok (.getfield 22, 3) := by decide +kernel
theorem dX0_copy_47 : decode cX0_copy 47 = .ok (.putfield 22, 3) := by decide +kernel
theorem dX0_copy_50 : decode cX0_copy 50 = .ok (.return_, 1) := by decide +kernel
theorem dX1_init_0 : decode cX1_init 0 = .ok (.aload_n 0, 1) := by decide +kernel
theorem dX1_init_1 : decode cX1_init 1 = .ok (.invokespecial 3, 3) := by decide +kernel
theorem dX1_init_4 : decode cX1_init 4 = .ok (.aload_n 0, 1) := by decide +kernel
theorem dX1_init_5 : decode cX1_init 5 = .ok (.bipush 8, 2) := by decide +kernel
theorem dX1_init_7 : decode cX1_init 7 = .ok (.newarray .int, 2) := by decide +kernel
theorem dX1_init_9 : decode cX1_init 9 = .ok (.putfield 9, 3) := by decide +kernel
theorem dX1_init_12 : decode cX1_init 12 = .ok (.aload_n 0, 1) := by decide +kernel
theorem dX1_init_13 : decode cX1_init 13 = .ok (.bipush 8, 2) := by decide +kernel
theorem dX1_init_15 : decode cX1_init 15 = .ok (.newarray .int, 2) := by decide +kernel
theorem dX1_init_17 : decode cX1_init 17 = .ok (.putfield 15, 3) := by decide +kernel
theorem dX1_init_20 : decode cX1_init 20 = .ok (.return_, 1) := by decide +kernel
theorem dX1_countLanes_0 : decode cX1_countLanes 0 = .ok (.iconst 0, 1) := by decide +kernel
theorem dX1_countLanes_1 : decode cX1_countLanes 1 = .ok (.istore 4, 2) := by decide +kernel
theorem dX1_countLanes_3 : decode cX1_countLanes 3 = .ok (.iload 4, 2) := by decide +kernel
theorem dX1_countLanes_5 : decode cX1_countLanes 5 = .ok (.aload_n 1, 1) := by decide +kernel
theorem dX1_countLanes_6 : decode cX1_countLanes 6 = .ok (.getfield 18, 3) := by decide +kernel
theorem dX1_countLanes_9 : decode cX1_countLanes 9 = .ok (.if_icmp .ge 31, 3) := by decide +kernel
theorem dX1_countLanes_12 : decode cX1_countLanes 12 = .ok (.aload_n 0, 1) := by decide +kernel
theorem dX1_countLanes_13 : decode cX1_countLanes 13 = .ok (.getfield 9, 3) := by decide +kernel
theorem dX1_countLanes_16 : decode cX1_countLanes 16 = .ok (.iload 4, 2) := by decide +kernel
theorem dX1_countLanes_18 : decode cX1_countLanes 18 = .ok (.iload_n 3, 1) := by decide +kernel
theorem dX1_countLanes_19 : decode cX1_countLanes 19 = .ok (.iload 4, 2) := by decide +kernel
theorem dX1_countLanes_21 : decode cX1_countLanes 21 = .ok (.ishr, 1) := by decide +kernel
theorem dX1_countLanes_22 : decode cX1_countLanes 22 = .ok (.iconst 1, 1) := by decide +kernel
theorem dX1_countLanes_23 : decode cX1_countLanes 23 = .ok (.iand, 1) := by decide +kernel
theorem dX1_countLanes_24 : decode cX1_countLanes 24 = .ok (.ifCond .eq 7, 3) := by decide +kernel
theorem dX1_countLanes_27 : decode cX1_countLanes 27 = .ok (.iconst 1, 1) := by decide +kernel
theorem dX1_countLanes_28 : decode cX1_countLanes 28 = .ok (.goto 5, 3) := by decide +kernel
theorem dX1_countLanes_31 : decode cX1_countLanes 31 = .ok (.ldc 24, 2) := by decide +kernel
theorem dX1_countLanes_33 : decode cX1_countLanes 33 = .ok (.iastore, 1) := by decide +kernel
theorem dX1_countLanes_34 : decode cX1_countLanes 34 = .ok (.iinc 4 1, 3) := by decide +kernel
theorem dX1_countLanes_37 : decode cX1_countLanes 37 = .ok (.goto (-34), 3) := by decide +kernel
theorem dX1_countLanes_40 : decode cX1_countLanes 40 = .ok (.aload_n 0, 1) := by decide +kernel
theorem dX1_countLanes_41 : decode cX1_countLanes 41 = .ok (.aload_n 1, 1) := by decide +kernel
theorem dX1_countLanes_42 : decode cX1_countLanes 42 = .ok (.iload_n 2, 1) := by decide +kernel
theorem dX1_countLanes_43 : decode cX1_countLanes 43 = .ok (.invokevirtual 25, 3) := by decide +kernel
theorem dX1_countLanes_46 : decode cX1_countLanes 46 = .ok (.return_, 1) := by decide +kernel
theorem dX1_addLacks_0 : decode cX1_addLacks 0 = .ok (.iconst 0, 1) := by decide +kernel
theorem dX1_addLacks_1 : decode cX1_addLacks 1 = .ok (.istore 5, 2) := by decide +kernel
theorem dX1_addLacks_3 : decode cX1_addLacks 3 = .ok (.iload 5, 2) := by decide +kernel
theorem dX1_addLacks_5 : decode cX1_addLacks 5 = .ok (.aload_n 1, 1) := by decide +kernel
theorem dX1_addLacks_6 : decode cX1_addLacks 6 = .ok (.getfield 18, 3) := by decide +kernel
theorem dX1_addLacks_9 : decode cX1_addLacks 9 = .ok (.if_icmp .ge 44, 3) := by decide +kernel
theorem dX1_addLacks_12 : decode cX1_addLacks 12 = .ok (.aload_n 0, 1) := by decide +kernel
theorem dX1_addLacks_13 : decode cX1_addLacks 13 = .ok (.getfield 9, 3) := by decide +kernel
theorem dX1_addLacks_16 : decode cX1_addLacks 16 = .ok (.iload 5, 2) := by decide +kernel
theorem dX1_addLacks_18 : decode cX1_addLacks 18 = .ok (.iload_n 3, 1) := by decide +kernel
theorem dX1_addLacks_19 : decode cX1_addLacks 19 = .ok (.iload 5, 2) := by decide +kernel
theorem dX1_addLacks_21 : decode cX1_addLacks 21 = .ok (.ishr, 1) := by decide +kernel
theorem dX1_addLacks_22 : decode cX1_addLacks 22 = .ok (.iconst 1, 1) := by decide +kernel
theorem dX1_addLacks_23 : decode cX1_addLacks 23 = .ok (.iand, 1) := by decide +kernel
theorem dX1_addLacks_24 : decode cX1_addLacks 24 = .ok (.ifCond .eq 20, 3) := by decide +kernel
theorem dX1_addLacks_27 : decode cX1_addLacks 27 = .ok (.iconst 0, 1) := by decide +kernel
theorem dX1_addLacks_28 : decode cX1_addLacks 28 = .ok (.iload 4, 2) := by decide +kernel
theorem dX1_addLacks_30 : decode cX1_addLacks 30 = .ok (.aload_n 1, 1) := by decide +kernel
theorem dX1_addLacks_31 : decode cX1_addLacks 31 = .ok (.getfield 29, 3) := by decide +kernel
theorem dX1_addLacks_34 : decode cX1_addLacks 34 = .ok (.iload 5, 2) := by decide +kernel
theorem dX1_addLacks_36 : decode cX1_addLacks 36 = .ok (.iaload, 1) := by decide +kernel
theorem dX1_addLacks_37 : decode cX1_addLacks 37 = .ok (.isub, 1) := by decide +kernel
theorem dX1_addLacks_38 : decode cX1_addLacks 38 = .ok (.invokestatic 32, 3) := by decide +kernel
theorem dX1_addLacks_41 : decode cX1_addLacks 41 = .ok (.goto 5, 3) := by decide +kernel
theorem dX1_addLacks_44 : decode cX1_addLacks 44 = .ok (.ldc 24, 2) := by decide +kernel
theorem dX1_addLacks_46 : decode cX1_addLacks 46 = .ok (.iastore, 1) := by decide +kernel
theorem dX1_addLacks_47 : decode cX1_addLacks 47 = .ok (.iinc 5 1, 3) := by decide +kernel
theorem dX1_addLacks_50 : decode cX1_addLacks 50 = .ok (.goto (-47), 3) := by decide +kernel
theorem dX1_addLacks_53 : decode cX1_addLacks 53 = .ok (.aload_n 0, 1) := by decide +kernel
theorem dX1_addLacks_54 : decode cX1_addLacks 54 = .ok (.aload_n 1, 1) := by decide +kernel
theorem dX1_addLacks_55 : decode cX1_addLacks 55 = .ok (.iload_n 2, 1) := by decide +kernel
theorem dX1_addLacks_56 : decode cX1_addLacks 56 = .ok (.invokevirtual 25, 3) := by decide +kernel
theorem dX1_addLacks_59 : decode cX1_addLacks 59 = .ok (.return_, 1) := by decide +kernel
theorem dX1_measure_0 : decode cX1_measure 0 = .ok (.iconst 0, 1) := by decide +kernel
theorem dX1_measure_1 : decode cX1_measure 1 = .ok (.istore_n 3, 1) := by decide +kernel
theorem dX1_measure_2 : decode cX1_measure 2 = .ok (.iload_n 3, 1) := by decide +kernel
theorem dX1_measure_3 : decode cX1_measure 3 = .ok (.aload_n 1, 1) := by decide +kernel
theorem dX1_measure_4 : decode cX1_measure 4 = .ok (.getfield 38, 3) := by decide +kernel
theorem dX1_measure_7 : decode cX1_measure 7 = .ok (.if_icmp .ge 26, 3) := by decide +kernel
theorem dX1_measure_10 : decode cX1_measure 10 = .ok (.aload_n 0, 1) := by decide +kernel
theorem dX1_measure_11 : decode cX1_measure 11 = .ok (.getfield 15, 3) := by decide +kernel
theorem dX1_measure_14 : decode cX1_measure 14 = .ok (.iload_n 3, 1) := by decide +kernel
theorem dX1_measure_15 : decode cX1_measure 15 = .ok (.iload_n 3, 1) := by decide +kernel
theorem dX1_measure_16 : decode cX1_measure 16 = .ok (.iload_n 2, 1) := by decide +kernel
theorem dX1_measure_17 : decode cX1_measure 17 = .ok (.if_icmp .ne 7, 3) := by decide +kernel
theorem dX1_measure_20 : decode cX1_measure 20 = .ok (.iconst 0, 1) := by decide +kernel
theorem dX1_measure_21 : decode cX1_measure 21 = .ok (.goto 5, 3) := by decide +kernel
theorem dX1_measure_24 : decode cX1_measure 24 = .ok (.ldc 24, 2) := by decide +kernel
theorem dX1_measure_26 : decode cX1_measure 26 = .ok (.iastore, 1) := by decide +kernel
theorem dX1_measure_27 : decode cX1_measure 27 = .ok (.iinc 3 1, 3) := by decide +kernel
theorem dX1_measure_30 : decode cX1_measure 30 = .ok (.goto (-28), 3) := by decide +kernel
theorem dX1_measure_33 : decode cX1_measure 33 = .ok (.iconst 1, 1) := by decide +kernel
theorem dX1_measure_34 : decode cX1_measure 34 = .ok (.istore_n 3, 1) := by decide +kernel
theorem dX1_measure_35 : decode cX1_measure 35 = .ok (.iload_n 3, 1) := by decide +kernel
theorem dX1_measure_36 : decode cX1_measure 36 = .ok (.aload_n 1, 1) := by decide +kernel
theorem dX1_measure_37 : decode cX1_measure 37 = .ok (.getfield 38, 3) := by decide +kernel
theorem dX1_measure_40 : decode cX1_measure 40 = .ok (.if_icmp .ge 109, 3) := by decide +kernel
theorem dX1_measure_43 : decode cX1_measure 43 = .ok (.iconst 0, 1) := by decide +kernel
theorem dX1_measure_44 : decode cX1_measure 44 = .ok (.istore 4, 2) := by decide +kernel
theorem dX1_measure_46 : decode cX1_measure 46 = .ok (.iload 4, 2) := by decide +kernel
theorem dX1_measure_48 : decode cX1_measure 48 = .ok (.aload_n 1, 1) := by decide +kernel
theorem dX1_measure_49 : decode cX1_measure 49 = .ok (.getfield 18, 3) := by decide +kernel
theorem dX1_measure_52 : decode cX1_measure 52 = .ok (.if_icmp .ge 91, 3) := by decide +kernel
theorem dX1_measure_55 : decode cX1_measure 55 = .ok (.aload_n 1, 1) := by decide +kernel
theorem dX1_measure_56 : decode cX1_measure 56 = .ok (.getfield 41, 3) := by decide +kernel
theorem dX1_measure_59 : decode cX1_measure 59 = .ok (.iload 4, 2) := by decide +kernel
theorem dX1_measure_61 : decode cX1_measure 61 = .ok (.iaload, 1) := by decide +kernel
theorem dX1_measure_62 : decode cX1_measure 62 = .ok (.istore 5, 2) := by decide +kernel
theorem dX1_measure_64 : decode cX1_measure 64 = .ok (.aload_n 1, 1) := by decide +kernel
theorem dX1_measure_65 : decode cX1_measure 65 = .ok (.getfield 44, 3) := by decide +kernel
theorem dX1_measure_68 : decode cX1_measure 68 = .ok (.iload 4, 2) := by decide +kernel
theorem dX1_measure_70 : decode cX1_measure 70 = .ok (.iaload, 1) := by decide +kernel
theorem dX1_measure_71 : decode cX1_measure 71 = .ok (.istore 6, 2) := by decide +kernel
theorem dX1_measure_73 : decode cX1_measure 73 = .ok (.aload_n 0, 1) := by decide +kernel
theorem dX1_measure_74 : decode cX1_measure 74 = .ok (.getfield 15, 3) := by decide +kernel
theorem dX1_measure_77 : decode cX1_measure 77 = .ok (.iload 5, 2) := by decide +kernel
theorem dX1_measure_79 : decode cX1_measure 79 = .ok (.aload_n 0, 1) := by decide +kernel
theorem dX1_measure_80 : decode cX1_measure 80 = .ok (.getfield 15, 3) := by decide +kernel
theorem dX1_measure_83 : decode cX1_measure 83 = .ok (.iload 5, 2) := by decide +kernel
theorem dX1_measure_85 : decode cX1_measure 85 = .ok (.iaload, 1) := by decide +kernel
theorem dX1_measure_86 : decode cX1_measure 86 = .ok (.aload_n 0, 1) := by decide +kernel
theorem dX1_measure_87 : decode cX1_measure 87 = .ok (.getfield 15, 3) := by decide +kernel
theorem dX1_measure_90 : decode cX1_measure 90 = .ok (.iload 6, 2) := by decide +kernel
theorem dX1_measure_92 : decode cX1_measure 92 = .ok (.iaload, 1) := by decide +kernel
theorem dX1_measure_93 : decode cX1_measure 93 = .ok (.aload_n 0, 1) := by decide +kernel
theorem dX1_measure_94 : decode cX1_measure 94 = .ok (.getfield 9, 3) := by decide +kernel
theorem dX1_measure_97 : decode cX1_measure 97 = .ok (.iload 4, 2) := by decide +kernel
theorem dX1_measure_99 : decode cX1_measure 99 = .ok (.iaload, 1) := by decide +kernel
theorem dX1_measure_100 : decode cX1_measure 100 = .ok (.iadd, 1) := by decide +kernel
theorem dX1_measure_101 : decode cX1_measure 101 = .ok (.invokestatic 47, 3) := by decide +kernel
theorem dX1_measure_104 : decode cX1_measure 104 = .ok (.iastore, 1) := by decide +kernel
theorem dX1_measure_105 : decode cX1_measure 105 = .ok (.aload_n 0, 1) := by decide +kernel
theorem dX1_measure_106 : decode cX1_measure 106 = .ok (.getfield 15, 3) := by decide +kernel
theorem dX1_measure_109 : decode cX1_measure 109 = .ok (.iload 6, 2) := by decide +kernel
theorem dX1_measure_111 : decode cX1_measure 111 = .ok (.aload_n 0, 1) := by decide +kernel
theorem dX1_measure_112 : decode cX1_measure 112 = .ok (.getfield 15, 3) := by decide +kernel
theorem dX1_measure_115 : decode cX1_measure 115 = .ok (.iload 6, 2) := by decide +kernel
theorem dX1_measure_117 : decode cX1_measure 117 = .ok (.iaload, 1) := by decide +kernel
theorem dX1_measure_118 : decode cX1_measure 118 = .ok (.aload_n 0, 1) := by decide +kernel
theorem dX1_measure_119 : decode cX1_measure 119 = .ok (.getfield 15, 3) := by decide +kernel
theorem dX1_measure_122 : decode cX1_measure 122 = .ok (.iload 5, 2) := by decide +kernel
theorem dX1_measure_124 : decode cX1_measure 124 = .ok (.iaload, 1) := by decide +kernel
theorem dX1_measure_125 : decode cX1_measure 125 = .ok (.aload_n 0, 1) := by decide +kernel
theorem dX1_measure_126 : decode cX1_measure 126 = .ok (.getfield 9, 3) := by decide +kernel
theorem dX1_measure_129 : decode cX1_measure 129 = .ok (.iload 4, 2) := by decide +kernel
theorem dX1_measure_131 : decode cX1_measure 131 = .ok (.iaload, 1) := by decide +kernel
theorem dX1_measure_132 : decode cX1_measure 132 = .ok (.iadd, 1) := by decide +kernel
theorem dX1_measure_133 : decode cX1_measure 133 = .ok (.invokestatic 47, 3) := by decide +kernel
theorem dX1_measure_136 : decode cX1_measure 136 = .ok (.iastore, 1) := by decide +kernel
theorem dX1_measure_137 : decode cX1_measure 137 = .ok (.iinc 4 1, 3) := by decide +kernel
theorem dX1_measure_140 : decode cX1_measure 140 = .ok (.goto (-94), 3) := by decide +kernel
theorem dX1_measure_143 : decode cX1_measure 143 = .ok (.iinc 3 1, 3) := by decide +kernel
theorem dX1_measure_146 : decode cX1_measure 146 = .ok (.goto (-111), 3) := by decide +kernel
theorem dX1_measure_149 : decode cX1_measure 149 = .ok (.return_, 1) := by decide +kernel
theorem dX1_from_0 : decode cX1_from 0 = .ok (.aload_n 0, 1) := by decide +kernel
theorem dX1_from_1 : decode cX1_from 1 = .ok (.getfield 15, 3) := by decide +kernel
theorem dX1_from_4 : decode cX1_from 4 = .ok (.iload_n 1, 1) := by decide +kernel
theorem dX1_from_5 : decode cX1_from 5 = .ok (.iaload, 1) := by decide +kernel
theorem dX1_from_6 : decode cX1_from 6 = .ok (.ldc 24, 2) := by decide +kernel
theorem dX1_from_8 : decode cX1_from 8 = .ok (.if_icmp .lt 8, 3) := by decide +kernel
theorem dX1_from_11 : decode cX1_from 11 = .ok (.bipush (-9), 2) := by decide +kernel
theorem dX1_from_13 : decode cX1_from 13 = .ok (.goto 9, 3) := by decide +kernel
theorem dX1_from_16 : decode cX1_from 16 = .ok (.aload_n 0, 1) := by decide +kernel
theorem dX1_from_17 : decode cX1_from 17 = .ok (.getfield 15, 3) := by decide +kernel
theorem dX1_from_20 : decode cX1_from 20 = .ok (.iload_n 1, 1) := by decide +kernel
theorem dX1_from_21 : decode cX1_from 21 = .ok (.iaload, 1) := by decide +kernel
theorem dX1_from_22 : decode cX1_from 22 = .ok (.ireturn, 1) := by decide +kernel
theorem dX1_laneOfWay_0 : decode cX1_laneOfWay 0 = .ok (.iload_n 2, 1) := by decide +kernel
theorem dX1_laneOfWay_1 : decode cX1_laneOfWay 1 = .ok (.istore 4, 2) := by decide +kernel
theorem dX1_laneOfWay_3 : decode cX1_laneOfWay 3 = .ok (.bipush (-9), 2) := by decide +kernel
theorem dX1_laneOfWay_5 : decode cX1_laneOfWay 5 = .ok (.istore 5, 2) := by decide +kernel
theorem dX1_laneOfWay_7 : decode cX1_laneOfWay 7 = .ok (.iconst 0, 1) := by decide +kernel
theorem dX1_laneOfWay_8 : decode cX1_laneOfWay 8 = .ok (.istore 6, 2) := by decide +kernel
theorem dX1_laneOfWay_10 : decode cX1_laneOfWay 10 = .ok (.iload 6, 2) := by decide +kernel
theorem dX1_laneOfWay_12 : decode cX1_laneOfWay 12 = .ok (.iload_n 3, 1) := by decide +kernel
theorem dX1_laneOfWay_13 : decode cX1_laneOfWay 13 = .ok (.if_icmp .gt 68, 3) := by decide +kernel
theorem dX1_laneOfWay_16 : decode cX1_laneOfWay 16 = .ok (.iload 6, 2) := by decide +kernel
theorem dX1_laneOfWay_18 : decode cX1_laneOfWay 18 = .ok (.aload_n 1, 1) := by decide +kernel
theorem dX1_laneOfWay_19 : decode cX1_laneOfWay 19 = .ok (.getfield 38, 3) := by decide +kernel
theorem dX1_laneOfWay_22 : decode cX1_laneOfWay 22 = .ok (.if_icmp .ge 59, 3) := by decide +kernel
theorem dX1_laneOfWay_25 : decode cX1_laneOfWay 25 = .ok (.aload_n 0, 1) := by decide +kernel
theorem dX1_laneOfWay_26 : decode cX1_laneOfWay 26 = .ok (.aload_n 1, 1) := by decide +kernel
theorem dX1_laneOfWay_27 : decode cX1_laneOfWay 27 = .ok (.iload 4, 2) := by decide +kernel
theorem dX1_laneOfWay_29 : decode cX1_laneOfWay 29 = .ok (.invokevirtual 50, 3) := by decide +kernel
theorem dX1_laneOfWay_32 : decode cX1_laneOfWay 32 = .ok (.istore 5, 2) := by decide +kernel
theorem dX1_laneOfWay_34 : decode cX1_laneOfWay 34 = .ok (.iload 5, 2) := by decide +kernel
theorem dX1_laneOfWay_36 : decode cX1_laneOfWay 36 = .ok (.bipush (-9), 2) := by decide +kernel
theorem dX1_laneOfWay_38 : decode cX1_laneOfWay 38 = .ok (.if_icmp .ne 6, 3) := by decide +kernel
theorem dX1_laneOfWay_41 : decode cX1_laneOfWay 41 = .ok (.bipush (-9), 2) := by decide +kernel
theorem dX1_laneOfWay_43 : decode cX1_laneOfWay 43 = .ok (.ireturn, 1) := by decide +kernel
theorem dX1_laneOfWay_44 : decode cX1_laneOfWay 44 = .ok (.iload 4, 2) := by decide +kernel
theorem dX1_laneOfWay_46 : decode cX1_laneOfWay 46 = .ok (.aload_n 1, 1) := by decide +kernel
theorem dX1_laneOfWay_47 : decode cX1_laneOfWay 47 = .ok (.getfield 41, 3) := by decide +kernel
theorem dX1_laneOfWay_50 : decode cX1_laneOfWay 50 = .ok (.iload 5, 2) := by decide +kernel
theorem dX1_laneOfWay_52 : decode cX1_laneOfWay 52 = .ok (.iaload, 1) := by decide +kernel
theorem dX1_laneOfWay_53 : decode cX1_laneOfWay 53 = .ok (.if_icmp .ne 13, 3) := by decide +kernel
theorem dX1_laneOfWay_56 : decode cX1_laneOfWay 56 = .ok (.aload_n 1, 1) := by decide +kernel
theorem dX1_laneOfWay_57 : decode cX1_laneOfWay 57 = .ok (.getfield 44, 3) := by decide +kernel
theorem dX1_laneOfWay_60 : decode cX1_laneOfWay 60 = .ok (.iload 5, 2) := by decide +kernel
theorem dX1_laneOfWay_62 : decode cX1_laneOfWay 62 = .ok (.iaload, 1) := by decide +kernel
theorem dX1_laneOfWay_63 : decode cX1_laneOfWay 63 = .ok (.goto 10, 3) := by decide +kernel
theorem dX1_laneOfWay_66 : decode cX1_laneOfWay 66 = .ok (.aload_n 1, 1) := by decide +kernel
theorem dX1_laneOfWay_67 : decode cX1_laneOfWay 67 = .ok (.getfield 41, 3) := by decide +kernel
theorem dX1_laneOfWay_70 : decode cX1_laneOfWay 70 = .ok (.iload 5, 2) := by decide +kernel
theorem dX1_laneOfWay_72 : decode cX1_laneOfWay 72 = .ok (.iaload, 1) := by decide +kernel
theorem dX1_laneOfWay_73 : decode cX1_laneOfWay 73 = .ok (.istore 4, 2) := by decide +kernel
theorem dX1_laneOfWay_75 : decode cX1_laneOfWay 75 = .ok (.iinc 6 1, 3) := by decide +kernel
theorem dX1_laneOfWay_78 : decode cX1_laneOfWay 78 = .ok (.goto (-68), 3) := by decide +kernel
theorem dX1_laneOfWay_81 : decode cX1_laneOfWay 81 = .ok (.iload 5, 2) := by decide +kernel
theorem dX1_laneOfWay_83 : decode cX1_laneOfWay 83 = .ok (.ireturn, 1) := by decide +kernel
theorem dX1_firstLaneNearer_0 : decode cX1_firstLaneNearer 0 = .ok (.iconst 0, 1) := by decide +kernel
theorem dX1_firstLaneNearer_1 : decode cX1_firstLaneNearer 1 = .ok (.istore_n 3, 1) := by decide +kernel
theorem dX1_firstLaneNearer_2 : decode cX1_firstLaneNearer 2 = .ok (.iload_n 3, 1) := by decide +kernel
theorem dX1_firstLaneNearer_3 : decode cX1_firstLaneNearer 3 = .ok (.aload_n 1, 1) := by decide +kernel
theorem dX1_firstLaneNearer_4 : decode cX1_firstLaneNearer 4 = .ok (.getfield 18, 3) := by decide +kernel
theorem dX1_firstLaneNearer_7 : decode cX1_firstLaneNearer 7 = .ok (.if_icmp .ge 94, 3) := by decide +kernel
theorem dX1_firstLaneNearer_10 : decode cX1_firstLaneNearer 10 = .ok (.aload_n 1, 1) := by decide +kernel
theorem dX1_firstLaneNearer_11 : decode cX1_firstLaneNearer 11 = .ok (.getfield 41, 3) := by decide +kernel
theorem dX1_firstLaneNearer_14 : decode cX1_firstLaneNearer 14 = .ok (.iload_n 3, 1) := by decide +kernel
theorem dX1_firstLaneNearer_15 : decode cX1_firstLaneNearer 15 = .ok (.iaload, 1) := by decide +kernel
theorem dX1_firstLaneNearer_16 : decode cX1_firstLaneNearer 16 = .ok (.istore 4, 2) := by decide +kernel
theorem dX1_firstLaneNearer_18 : decode cX1_firstLaneNearer 18 = .ok (.aload_n 1, 1) := by decide +kernel
theorem dX1_firstLaneNearer_19 : decode cX1_firstLaneNearer 19 = .ok (.getfield 44, 3) := by decide +kernel
theorem dX1_firstLaneNearer_22 : decode cX1_firstLaneNearer 22 = .ok (.iload_n 3, 1) := by decide +kernel
theorem dX1_firstLaneNearer_23 : decode cX1_firstLaneNearer 23 = .ok (.iaload, 1) := by decide +kernel
theorem dX1_firstLaneNearer_24 : decode cX1_firstLaneNearer 24 = .ok (.istore 5, 2) := by decide +kernel
theorem dX1_firstLaneNearer_26 : decode cX1_firstLaneNearer 26 = .ok (.iload_n 2, 1) := by decide +kernel
theorem dX1_firstLaneNearer_27 : decode cX1_firstLaneNearer 27 = .ok (.iload 4, 2) := by decide +kernel
theorem dX1_firstLaneNearer_29 : decode cX1_firstLaneNearer 29 = .ok (.if_icmp .eq 9, 3) := by decide +kernel
theorem dX1_firstLaneNearer_32 : decode cX1_firstLaneNearer 32 = .ok (.iload_n 2, 1) := by decide +kernel
theorem dX1_firstLaneNearer_33 : decode cX1_firstLaneNearer 33 = .ok (.iload 5, 2) := by decide +kernel
theorem dX1_firstLaneNearer_35 : decode cX1_firstLaneNearer 35 = .ok (.if_icmp .ne 7, 3) := by decide +kernel
theorem dX1_firstLaneNearer_38 : decode cX1_firstLaneNearer 38 = .ok (.iconst 1, 1) := by decide +kernel
theorem dX1_firstLaneNearer_39 : decode cX1_firstLaneNearer 39 = .ok (.goto 4, 3) := by decide +kernel
theorem dX1_firstLaneNearer_42 : decode cX1_firstLaneNearer 42 = .ok (.iconst 0, 1) := by decide +kernel
theorem dX1_firstLaneNearer_43 : decode cX1_firstLaneNearer 43 = .ok (.istore 6, 2) := by decide +kernel
theorem dX1_firstLaneNearer_45 : decode cX1_firstLaneNearer 45 = .ok (.iload_n 2, 1) := by decide +kernel
theorem dX1_firstLaneNearer_46 : decode cX1_firstLaneNearer 46 = .ok (.iload 4, 2) := by decide +kernel
theorem dX1_firstLaneNearer_48 : decode cX1_firstLaneNearer 48 = .ok (.if_icmp .ne 8, 3) := by decide +kernel
theorem dX1_firstLaneNearer_51 : decode cX1_firstLaneNearer 51 = .ok (.iload 5, 2) := by decide +kernel
theorem dX1_firstLaneNearer_53 : decode cX1_firstLaneNearer 53 = .ok (.goto 5, 3) := by decide +kernel
theorem dX1_firstLaneNearer_56 : decode cX1_firstLaneNearer 56 = .ok (.iload 4, 2) := by decide +kernel
theorem dX1_firstLaneNearer_58 : decode cX1_firstLaneNearer 58 = .ok (.istore 7, 2) := by decide +kernel
theorem dX1_firstLaneNearer_60 : decode cX1_firstLaneNearer 60 = .ok (.iload 6, 2) := by decide +kernel
theorem dX1_firstLaneNearer_62 : decode cX1_firstLaneNearer 62 = .ok (.ifCond .eq 33, 3) := by decide +kernel
theorem dX1_firstLaneNearer_65 : decode cX1_firstLaneNearer 65 = .ok (.aload_n 0, 1) := by decide +kernel
theorem dX1_firstLaneNearer_66 : decode cX1_firstLaneNearer 66 = .ok (.getfield 9, 3) := by decide +kernel
theorem dX1_firstLaneNearer_69 : decode cX1_firstLaneNearer 69 = .ok (.iload_n 3, 1) := by decide +kernel
theorem dX1_firstLaneNearer_70 : decode cX1_firstLaneNearer 70 = .ok (.iaload, 1) := by decide +kernel
theorem dX1_firstLaneNearer_71 : decode cX1_firstLaneNearer 71 = .ok (.iconst 1, 1) := by decide +kernel
theorem dX1_firstLaneNearer_72 : decode cX1_firstLaneNearer 72 = .ok (.if_icmp .ne 23, 3) := by decide +kernel
theorem dX1_firstLaneNearer_75 : decode cX1_firstLaneNearer 75 = .ok (.aload_n 0, 1) := by decide +kernel
theorem dX1_firstLaneNearer_76 : decode cX1_firstLaneNearer 76 = .ok (.getfield 15, 3) := by decide +kernel
theorem dX1_firstLaneNearer_79 : decode cX1_firstLaneNearer 79 = .ok (.iload 7, 2) := by decide +kernel
theorem dX1_firstLaneNearer_81 : decode cX1_firstLaneNearer 81 = .ok (.iaload, 1) := by decide +kernel
theorem dX1_firstLaneNearer_82 : decode cX1_firstLaneNearer 82 = .ok (.aload_n 0, 1) := by decide +kernel
theorem dX1_firstLaneNearer_83 : decode cX1_firstLaneNearer 83 = .ok (.getfield 15, 3) := by decide +kernel
theorem dX1_firstLaneNearer_86 : decode cX1_firstLaneNearer 86 = .ok (.iload_n 2, 1) := by decide +kernel
theorem dX1_firstLaneNearer_87 : decode cX1_firstLaneNearer 87 = .ok (.iaload, 1) := by decide +kernel
theorem dX1_firstLaneNearer_88 : decode cX1_firstLaneNearer 88 = .ok (.iconst 1, 1) := by decide +kernel
theorem dX1_firstLaneNearer_89 : decode cX1_firstLaneNearer 89 = .ok (.isub, 1) := by decide +kernel
theorem dX1_firstLaneNearer_90 : decode cX1_firstLaneNearer 90 = .ok (.if_icmp .ne 5, 3) := by decide +kernel
theorem dX1_firstLaneNearer_93 : decode cX1_firstLaneNearer 93 = .ok (.iload_n 3, 1) := by decide +kernel
theorem dX1_firstLaneNearer_94 : decode cX1_firstLaneNearer 94 = .ok (.ireturn, 1) := by decide +kernel
theorem dX1_firstLaneNearer_95 : decode cX1_firstLaneNearer 95 = .ok (.iinc 3 1, 3) := by decide +kernel
theorem dX1_firstLaneNearer_98 : decode cX1_firstLaneNearer 98 = .ok (.goto (-96), 3) := by decide +kernel
theorem dX1_firstLaneNearer_101 : decode cX1_firstLaneNearer 101 = .ok (.bipush (-9), 2) := by decide +kernel
theorem dX1_firstLaneNearer_103 : decode cX1_firstLaneNearer 103 = .ok (.ireturn, 1) := by decide +kernel
theorem dX2_init_0 : decode cX2_init 0 = .ok (.aload_n 0, 1) := by decide +kernel
theorem dX2_init_1 : decode cX2_init 1 = .ok (.invokespecial 3, 3) := by decide +kernel
theorem dX2_init_4 : decode cX2_init 4 = .ok (.aload_n 0, 1) := by decide +kernel
theorem dX2_init_5 : decode cX2_init 5 = .ok (.bipush 6, 2) := by decide +kernel
theorem dX2_init_7 : decode cX2_init 7 = .ok (.newarray .int, 2) := by decide +kernel
theorem dX2_init_9 : decode cX2_init 9 = .ok (.putfield 9, 3) := by decide +kernel
theorem dX2_init_12 : decode cX2_init 12 = .ok (.aload_n 0, 1) := by decide +kernel
theorem dX2_init_13 : decode cX2_init 13 = .ok (.bipush 6, 2) := by decide +kernel
theorem dX2_init_15 : decode cX2_init 15 = .ok (.newarray .int, 2) := by decide +kernel
theorem dX2_init_17 : decode cX2_init 17 = .ok (.putfield 15, 3) := by decide +kernel
theorem dX2_init_20 : decode cX2_init 20 = .ok (.aload_n 0, 1) := by decide +kernel
theorem dX2_init_21 : decode cX2_init 21 = .ok (.iconst 0, 1) := by decide +kernel
theorem dX2_init_22 : decode cX2_init 22 = .ok (.putfield 18, 3) := by decide +kernel
theorem dX2_init_25 : decode cX2_init 25 = .ok (.return_, 1) := by decide +kernel
theorem dX2_add_0 : decode cX2_add 0 = .ok (.aload_n 0, 1) := by decide +kernel
theorem dX2_add_1 : decode cX2_add 1 = .ok (.getfield 18, 3) := by decide +kernel
theorem dX2_add_4 : decode cX2_add 4 = .ok (.bipush 6, 2) := by decide +kernel
theorem dX2_add_6 : decode cX2_add 6 = .ok (.if_icmp .lt 5, 3) := by decide +kernel
theorem dX2_add_9 : decode cX2_add 9 = .ok (.iconst 0, 1) := by decide +kernel
theorem dX2_add_10 : decode cX2_add 10 = .ok (.ireturn, 1) := by decide +kernel
theorem dX2_add_11 : decode cX2_add 11 = .ok (.aload_n 0, 1) := by decide +kernel
theorem dX2_add_12 : decode cX2_add 12 = .ok (.getfield 9, 3) := by decide +kernel
theorem dX2_add_15 : decode cX2_add 15 = .ok (.aload_n 0, 1) := by decide +kernel
theorem dX2_add_16 : decode cX2_add 16 = .ok (.getfield 18, 3) := by decide +kernel
theorem dX2_add_19 : decode cX2_add 19 = .ok (.iload_n 1, 1) := by decide +kernel
theorem dX2_add_20 : decode cX2_add 20 = .ok (.iastore, 1) := by decide +kernel
theorem dX2_add_21 : decode cX2_add 21 = .ok (.aload_n 0, 1) := by decide +kernel
theorem dX2_add_22 : decode cX2_add 22 = .ok (.getfield 15, 3) := by decide +kernel
theorem dX2_add_25 : decode cX2_add 25 = .ok (.aload_n 0, 1) := by decide +kernel
theorem dX2_add_26 : decode cX2_add 26 = .ok (.getfield 18, 3) := by decide +kernel
theorem dX2_add_29 : decode cX2_add 29 = .ok (.iload_n 2, 1) := by decide +kernel
theorem dX2_add_30 : decode cX2_add 30 = .ok (.iastore, 1) := by decide +kernel
theorem dX2_add_31 : decode cX2_add 31 = .ok (.aload_n 0, 1) := by decide +kernel
theorem dX2_add_32 : decode cX2_add 32 = .ok (.dup, 1) := by decide +kernel
theorem dX2_add_33 : decode cX2_add 33 = .ok (.getfield 18, 3) := by decide +kernel
theorem dX2_add_36 : decode cX2_add 36 = .ok (.iconst 1, 1) := by decide +kernel
theorem dX2_add_37 : decode cX2_add 37 = .ok (.iadd, 1) := by decide +kernel
theorem dX2_add_38 : decode cX2_add 38 = .ok (.putfield 18, 3) := by decide +kernel
theorem dX2_add_41 : decode cX2_add 41 = .ok (.iconst 1, 1) := by decide +kernel
theorem dX2_add_42 : decode cX2_add 42 = .ok (.ireturn, 1) := by decide +kernel
theorem dX2_allow_0 : decode cX2_allow 0 = .ok (.iconst 0, 1) := by decide +kernel
theorem dX2_allow_1 : decode cX2_allow 1 = .ok (.istore 4, 2) := by decide +kernel
theorem dX2_allow_3 : decode cX2_allow 3 = .ok (.iload 4, 2) := by decide +kernel
theorem dX2_allow_5 : decode cX2_allow 5 = .ok (.aload_n 0, 1) := by decide +kernel
theorem dX2_allow_6 : decode cX2_allow 6 = .ok (.getfield 18, 3) := by decide +kernel
theorem dX2_allow_9 : decode cX2_allow 9 = .ok (.if_icmp .ge 38, 3) := by decide +kernel
theorem dX2_allow_12 : decode cX2_allow 12 = .ok (.aload_n 0, 1) := by decide +kernel
theorem dX2_allow_13 : decode cX2_allow 13 = .ok (.getfield 9, 3) := by decide +kernel
theorem dX2_allow_16 : decode cX2_allow 16 = .ok (.iload 4, 2) := by decide +kernel
theorem dX2_allow_18 : decode cX2_allow 18 = .ok (.iaload, 1) := by decide +kernel
theorem dX2_allow_19 : decode cX2_allow 19 = .ok (.iload_n 1, 1) := by decide +kernel
theorem dX2_allow_20 : decode cX2_allow 20 = .ok (.if_icmp .ne 21, 3) := by decide +kernel
theorem dX2_allow_23 : decode cX2_allow 23 = .ok (.aload_n 0, 1) := by decide +kernel
theorem dX2_allow_24 : decode cX2_allow 24 = .ok (.getfield 15, 3) := by decide +kernel
theorem dX2_allow_27 : decode cX2_allow 27 = .ok (.iload 4, 2) := by decide +kernel
theorem dX2_allow_29 : decode cX2_allow 29 = .ok (.iaload, 1) := by decide +kernel
theorem dX2_allow_30 : decode cX2_allow 30 = .ok (.iload_n 2, 1) := by decide +kernel
theorem dX2_allow_31 : decode cX2_allow 31 = .ok (.isub, 1) := by decide +kernel
theorem dX2_allow_32 : decode cX2_allow 32 = .ok (.invokestatic 22, 3) := by decide +kernel
theorem dX2_allow_35 : decode cX2_allow 35 = .ok (.iload_n 3, 1) := by decide +kernel
theorem dX2_allow_36 : decode cX2_allow 36 = .ok (.if_icmp .le 5, 3) := by decide +kernel
theorem dX2_allow_39 : decode cX2_allow 39 = .ok (.iconst 0, 1) := by decide +kernel
theorem dX2_allow_40 : decode cX2_allow 40 = .ok (.ireturn, 1) := by decide +kernel
theorem dX2_allow_41 : decode cX2_allow 41 = .ok (.iinc 4 1, 3) := by decide +kernel
theorem dX2_allow_44 : decode cX2_allow 44 = .ok (.goto (-41), 3) := by decide +kernel
theorem dX2_allow_47 : decode cX2_allow 47 = .ok (.iconst 1, 1) := by decide +kernel
theorem dX2_allow_48 : decode cX2_allow 48 = .ok (.ireturn, 1) := by decide +kernel
theorem dX3_init_0 : decode cX3_init 0 = .ok (.aload_n 0, 1) := by decide +kernel
theorem dX3_init_1 : decode cX3_init 1 = .ok (.invokespecial 3, 3) := by decide +kernel
theorem dX3_init_4 : decode cX3_init 4 = .ok (.aload_n 0, 1) := by decide +kernel
theorem dX3_init_5 : decode cX3_init 5 = .ok (.iconst 5, 1) := by decide +kernel
theorem dX3_init_6 : decode cX3_init 6 = .ok (.newarray .int, 2) := by decide +kernel
theorem dX3_init_8 : decode cX3_init 8 = .ok (.putfield 9, 3) := by decide +kernel
theorem dX3_init_11 : decode cX3_init 11 = .ok (.aload_n 0, 1) := by decide +kernel
theorem dX3_init_12 : decode cX3_init 12 = .ok (.iconst 5, 1) := by decide +kernel
theorem dX3_init_13 : decode cX3_init 13 = .ok (.newarray .int, 2) := by decide +kernel
theorem dX3_init_15 : decode cX3_init 15 = .ok (.putfield 15, 3) := by decide +kernel
theorem dX3_init_18 : decode cX3_init 18 = .ok (.aload_n 0, 1) := by decide +kernel
theorem dX3_init_19 : decode cX3_init 19 = .ok (.iconst 5, 1) := by decide +kernel
theorem dX3_init_20 : decode cX3_init 20 = .ok (.newarray .int, 2) := by decide +kernel
theorem dX3_init_22 : decode cX3_init 22 = .ok (.putfield 18, 3) := by decide +kernel
theorem dX3_init_25 : decode cX3_init 25 = .ok (.aload_n 0, 1) := by decide +kernel
theorem dX3_init_26 : decode cX3_init 26 = .ok (.iconst 0, 1) := by decide +kernel
theorem dX3_init_27 : decode cX3_init 27 = .ok (.putfield 21, 3) := by decide +kernel
theorem dX3_init_30 : decode cX3_init 30 = .ok (.return_, 1) := by decide +kernel
theorem dX3_begin_0 : decode cX3_begin 0 = .ok (.iconst 0, 1) := by decide +kernel
theorem dX3_begin_1 : decode cX3_begin 1 = .ok (.istore_n 2, 1) := by decide +kernel
theorem dX3_begin_2 : decode cX3_begin 2 = .ok (.iload_n 2, 1) := by decide +kernel
theorem dX3_begin_3 : decode cX3_begin 3 = .ok (.iconst 5, 1) := by decide +kernel
theorem dX3_begin_4 : decode cX3_begin 4 = .ok (.if_icmp .ge 40, 3) := by decide +kernel
theorem dX3_begin_7 : decode cX3_begin 7 = .ok (.aload_n 0, 1) := by decide +kernel
theorem dX3_begin_8 : decode cX3_begin 8 = .ok (.getfield 9, 3) := by decide +kernel
theorem dX3_begin_11 : decode cX3_begin 11 = .ok (.iload_n 2, 1) := by decide +kernel
theorem dX3_begin_12 : decode cX3_begin 12 = .ok (.aload_n 1, 1) := by decide +kernel
theorem dX3_begin_13 : decode cX3_begin 13 = .ok (.getfield 25, 3) := by decide +kernel
theorem dX3_begin_16 : decode cX3_begin 16 = .ok (.iload_n 2, 1) := by decide +kernel
theorem dX3_begin_17 : decode cX3_begin 17 = .ok (.iaload, 1) := by decide +kernel
theorem dX3_begin_18 : decode cX3_begin 18 = .ok (.iastore, 1) := by decide +kernel
theorem dX3_begin_19 : decode cX3_begin 19 = .ok (.aload_n 0, 1) := by decide +kernel
theorem dX3_begin_20 : decode cX3_begin 20 = .ok (.getfield 15, 3) := by decide +kernel
theorem dX3_begin_23 : decode cX3_begin 23 = .ok (.iload_n 2, 1) := by decide +kernel
theorem dX3_begin_24 : decode cX3_begin 24 = .ok (.aload_n 1, 1) := by decide +kernel
theorem dX3_begin_25 : decode cX3_begin 25 = .ok (.getfield 28, 3) := by decide +kernel
theorem dX3_begin_28 : decode cX3_begin 28 = .ok (.iload_n 2, 1) := by decide +kernel
theorem dX3_begin_29 : decode cX3_begin 29 = .ok (.iaload, 1) := by decide +kernel
theorem dX3_begin_30 : decode cX3_begin 30 = .ok (.iastore, 1) := by decide +kernel
theorem dX3_begin_31 : decode cX3_begin 31 = .ok (.aload_n 0, 1) := by decide +kernel
theorem dX3_begin_32 : decode cX3_begin 32 = .ok (.getfield 18, 3) := by decide +kernel
theorem dX3_begin_35 : decode cX3_begin 35 = .ok (.iload_n 2, 1) := by decide +kernel
theorem dX3_begin_36 : decode cX3_begin 36 = .ok (.iconst 0, 1) := by decide +kernel
theorem dX3_begin_37 : decode cX3_begin 37 = .ok (.iastore, 1) := by decide +kernel
theorem dX3_begin_38 : decode cX3_begin 38 = .ok (.iinc 2 1, 3) := by decide +kernel
theorem dX3_begin_41 : decode cX3_begin 41 = .ok (.goto (-39), 3) := by decide +kernel
theorem dX3_begin_44 : decode cX3_begin 44 = .ok (.aload_n 0, 1) := by decide +kernel
theorem dX3_begin_45 : decode cX3_begin 45 = .ok (.iconst 0, 1) := by decide +kernel
theorem dX3_begin_46 : decode cX3_begin 46 = .ok (.putfield 21, 3) := by decide +kernel
theorem dX3_begin_49 : decode cX3_begin 49 = .ok (.return_, 1) := by decide +kernel
theorem dX3_copy_0 : decode cX3_copy 0 = .ok (.iconst 0, 1) := by decide +kernel
theorem dX3_copy_1 : decode cX3_copy 1 = .ok (.istore_n 2, 1) := by decide +kernel
theorem dX3_copy_2 : decode cX3_copy 2 = .ok (.iload_n 2, 1) := by decide +kernel
theorem dX3_copy_3 : decode cX3_copy 3 = .ok (.iconst 5, 1) := by decide +kernel
theorem dX3_copy_4 : decode cX3_copy 4 = .ok (.if_icmp .ge 45, 3) := by decide +kernel
theorem dX3_copy_7 : decode cX3_copy 7 = .ok (.aload_n 0, 1) := by decide +kernel
theorem dX3_copy_8 : decode cX3_copy 8 = .ok (.getfield 9, 3) := by decide +kernel
theorem dX3_copy_11 : decode cX3_copy 11 = .ok (.iload_n 2, 1) := by decide +kernel
theorem dX3_copy_12 : decode cX3_copy 12 = .ok (.aload_n 1, 1) := by decide +kernel
theorem dX3_copy_13 : decode cX3_copy 13 = .ok (.getfield 9, 3) := by decide +kernel
theorem dX3_copy_16 : decode cX3_copy 16 = .ok (.iload_n 2, 1) := by decide +kernel
theorem dX3_copy_17 : decode cX3_copy 17 = .ok (.iaload, 1) := by decide +kernel
theorem dX3_copy_18 : decode cX3_copy 18 = .ok (.iastore, 1) := by decide +kernel
theorem dX3_copy_19 : decode cX3_copy 19 = .ok (.aload_n 0, 1) := by decide +kernel
theorem dX3_copy_20 : decode cX3_copy 20 = .ok (.getfield 15, 3) := by decide +kernel
theorem dX3_copy_23 : decode cX3_copy 23 = .ok (.iload_n 2, 1) := by decide +kernel
theorem dX3_copy_24 : decode cX3_copy 24 = .ok (.aload_n 1, 1) := by decide +kernel
theorem dX3_copy_25 : decode cX3_copy 25 = .ok (.getfield 15, 3) := by decide +kernel
theorem dX3_copy_28 : decode cX3_copy 28 = .ok (.iload_n 2, 1) := by decide +kernel
theorem dX3_copy_29 : decode cX3_copy 29 = .ok (.iaload, 1) := by decide +kernel
theorem dX3_copy_30 : decode cX3_copy 30 = .ok (.iastore, 1) := by decide +kernel
theorem dX3_copy_31 : decode cX3_copy 31 = .ok (.aload_n 0, 1) := by decide +kernel
theorem dX3_copy_32 : decode cX3_copy 32 = .ok (.getfield 18, 3) := by decide +kernel
theorem dX3_copy_35 : decode cX3_copy 35 = .ok (.iload_n 2, 1) := by decide +kernel
theorem dX3_copy_36 : decode cX3_copy 36 = .ok (.aload_n 1, 1) := by decide +kernel
theorem dX3_copy_37 : decode cX3_copy 37 = .ok (.getfield 18, 3) := by decide +kernel
theorem dX3_copy_40 : decode cX3_copy 40 = .ok (.iload_n 2, 1) := by decide +kernel
theorem dX3_copy_41 : decode cX3_copy 41 = .ok (.iaload, 1) := by decide +kernel
theorem dX3_copy_42 : decode cX3_copy 42 = .ok (.iastore, 1) := by decide +kernel
theorem dX3_copy_43 : decode cX3_copy 43 = .ok (.iinc 2 1, 3) := by decide +kernel
theorem dX3_copy_46 : decode cX3_copy 46 = .ok (.goto (-44), 3) := by decide +kernel
theorem dX3_copy_49 : decode cX3_copy 49 = .ok (.aload_n 0, 1) := by decide +kernel
theorem dX3_copy_50 : decode cX3_copy 50 = .ok (.aload_n 1, 1) := by decide +kernel
theorem dX3_copy_51 : decode cX3_copy 51 = .ok (.getfield 21, 3) := by decide +kernel
theorem dX3_copy_54 : decode cX3_copy 54 = .ok (.putfield 21, 3) := by decide +kernel
theorem dX3_copy_57 : decode cX3_copy 57 = .ok (.return_, 1) := by decide +kernel
theorem dX3_close_0 : decode cX3_close 0 = .ok (.aload_n 0, 1) := by decide +kernel
theorem dX3_close_1 : decode cX3_close 1 = .ok (.dup, 1) := by decide +kernel
theorem dX3_close_2 : decode cX3_close 2 = .ok (.getfield 21, 3) := by decide +kernel
theorem dX3_close_5 : decode cX3_close 5 = .ok (.iconst 1, 1) := by decide +kernel
theorem dX3_close_6 : decode cX3_close 6 = .ok (.iload_n 1, 1) := by decide +kernel
theorem dX3_close_7 : decode cX3_close 7 = .ok (.ishl, 1) := by decide +kernel
theorem dX3_close_8 : decode cX3_close 8 = .ok (.ior, 1) := by decide +kernel
theorem dX3_close_9 : decode cX3_close 9 = .ok (.putfield 21, 3) := by decide +kernel
theorem dX3_close_12 : decode cX3_close 12 = .ok (.return_, 1) := by decide +kernel
theorem dX3_open_0 : decode cX3_open 0 = .ok (.aload_n 0, 1) := by decide +kernel
theorem dX3_open_1 : decode cX3_open 1 = .ok (.dup, 1) := by decide +kernel
theorem dX3_open_2 : decode cX3_open 2 = .ok (.getfield 21, 3) := by decide +kernel
theorem dX3_open_5 : decode cX3_open 5 = .ok (.iconst 1, 1) := by decide +kernel
theorem dX3_open_6 : decode cX3_open 6 = .ok (.iload_n 1, 1) := by decide +kernel
theorem dX3_open_7 : decode cX3_open 7 = .ok (.ishl, 1) := by decide +kernel
theorem dX3_open_8 : decode cX3_open 8 = .ok (.iconst (-1), 1) := by decide +kernel
theorem dX3_open_9 : decode cX3_open 9 = .ok (.ixor, 1) := by decide +kernel
theorem dX3_open_10 : decode cX3_open 10 = .ok (.iand, 1) := by decide +kernel
theorem dX3_open_11 : decode cX3_open 11 = .ok (.putfield 21, 3) := by decide +kernel
theorem dX3_open_14 : decode cX3_open 14 = .ok (.return_, 1) := by decide +kernel
theorem dX4_init_0 : decode cX4_init 0 = .ok (.aload_n 0, 1) := by decide +kernel
theorem dX4_init_1 : decode cX4_init 1 = .ok (.invokespecial 3, 3) := by decide +kernel
theorem dX4_init_4 : decode cX4_init 4 = .ok (.aload_n 0, 1) := by decide +kernel
theorem dX4_init_5 : decode cX4_init 5 = .ok (.new 9, 3) := by decide +kernel
theorem dX4_init_8 : decode cX4_init 8 = .ok (.dup, 1) := by decide +kernel
theorem dX4_init_9 : decode cX4_init 9 = .ok (.invokespecial 11, 3) := by decide +kernel
theorem dX4_init_12 : decode cX4_init 12 = .ok (.putfield 12, 3) := by decide +kernel
theorem dX4_init_15 : decode cX4_init 15 = .ok (.aload_n 0, 1) := by decide +kernel
theorem dX4_init_16 : decode cX4_init 16 = .ok (.iconst 0, 1) := by decide +kernel
theorem dX4_init_17 : decode cX4_init 17 = .ok (.putfield 18, 3) := by decide +kernel
theorem dX4_init_20 : decode cX4_init 20 = .ok (.aload_n 0, 1) := by decide +kernel
theorem dX4_init_21 : decode cX4_init 21 = .ok (.iconst 0, 1) := by decide +kernel
theorem dX4_init_22 : decode cX4_init 22 = .ok (.putfield 22, 3) := by decide +kernel
theorem dX4_init_25 : decode cX4_init 25 = .ok (.aload_n 0, 1) := by decide +kernel
theorem dX4_init_26 : decode cX4_init 26 = .ok (.iconst 0, 1) := by decide +kernel
theorem dX4_init_27 : decode cX4_init 27 = .ok (.putfield 25, 3) := by decide +kernel
theorem dX4_init_30 : decode cX4_init 30 = .ok (.aload_n 0, 1) := by decide +kernel
theorem dX4_init_31 : decode cX4_init 31 = .ok (.iconst 0, 1) := by decide +kernel
theorem dX4_init_32 : decode cX4_init 32 = .ok (.putfield 28, 3) := by decide +kernel
theorem dX4_init_35 : decode cX4_init 35 = .ok (.aload_n 0, 1) := by decide +kernel
theorem dX4_init_36 : decode cX4_init 36 = .ok (.iconst 0, 1) := by decide +kernel
theorem dX4_init_37 : decode cX4_init 37 = .ok (.putfield 31, 3) := by decide +kernel
theorem dX4_init_40 : decode cX4_init 40 = .ok (.aload_n 0, 1) := by decide +kernel
theorem dX4_init_41 : decode cX4_init 41 = .ok (.iconst 0, 1) := by decide +kernel
theorem dX4_init_42 : decode cX4_init 42 = .ok (.putfield 35, 3) := by decide +kernel
theorem dX4_init_45 : decode cX4_init 45 = .ok (.return_, 1) := by decide +kernel
theorem dX4_read_0 : decode cX4_read 0 = .ok (.aload_n 1, 1) := by decide +kernel
theorem dX4_read_1 : decode cX4_read 1 = .ok (.invokevirtual 38, 3) := by decide +kernel
theorem dX4_read_4 : decode cX4_read 4 = .ok (.aload_n 0, 1) := by decide +kernel
theorem dX4_read_5 : decode cX4_read 5 = .ok (.iconst 0, 1) := by decide +kernel
theorem dX4_read_6 : decode cX4_read 6 = .ok (.putfield 18, 3) := by decide +kernel
theorem dX4_read_9 : decode cX4_read 9 = .ok (.aload_n 0, 1) := by decide +kernel
theorem dX4_read_10 : decode cX4_read 10 = .ok (.iconst 0, 1) := by decide +kernel
theorem dX4_read_11 : decode cX4_read 11 = .ok (.putfield 31, 3) := by decide +kernel
theorem dX4_read_14 : decode cX4_read 14 = .ok (.aload_n 0, 1) := by decide +kernel
theorem dX4_read_15 : decode cX4_read 15 = .ok (.iconst 0, 1) := by decide +kernel
theorem dX4_read_16 : decode cX4_read 16 = .ok (.putfield 35, 3) := by decide +kernel
theorem dX4_read_19 : decode cX4_read 19 = .ok (.iconst 0, 1) := by decide +kernel
theorem dX4_read_20 : decode cX4_read 20 = .ok (.istore_n 2, 1) := by decide +kernel
theorem dX4_read_21 : decode cX4_read 21 = .ok (.aload_n 0, 1) := by decide +kernel
theorem dX4_read_22 : decode cX4_read 22 = .ok (.invokevirtual 43, 3) := by decide +kernel
theorem dX4_read_25 : decode cX4_read 25 = .ok (.iload_n 2, 1) := by decide +kernel
theorem dX4_read_26 : decode cX4_read 26 = .ok (.sipush 150, 3) := by decide +kernel
theorem dX4_read_29 : decode cX4_read 29 = .ok (.if_icmp .ge 53, 3) := by decide +kernel
theorem dX4_read_32 : decode cX4_read 32 = .ok (.aload_n 0, 1) := by decide +kernel
theorem dX4_read_33 : decode cX4_read 33 = .ok (.getfield 25, 3) := by decide +kernel
theorem dX4_read_36 : decode cX4_read 36 = .ok (.ifCond .eq 46, 3) := by decide +kernel
theorem dX4_read_39 : decode cX4_read 39 = .ok (.aload_n 0, 1) := by decide +kernel
theorem dX4_read_40 : decode cX4_read 40 = .ok (.aload_n 1, 1) := by decide +kernel
theorem dX4_read_41 : decode cX4_read 41 = .ok (.iload_n 2, 1) := by decide +kernel
theorem dX4_read_42 : decode cX4_read 42 = .ok (.ifCond .ne 7, 3) := by decide +kernel
theorem dX4_read_45 : decode cX4_read 45 = .ok (.iconst 1, 1) := by decide +kernel
theorem dX4_read_46 : decode cX4_read 46 = .ok (.goto 4, 3) := by decide +kernel
theorem dX4_read_49 : decode cX4_read 49 = .ok (.iconst 0, 1) := by decide +kernel
theorem dX4_read_50 : decode cX4_read 50 = .ok (.invokevirtual 46, 3) := by decide +kernel
theorem dX4_read_53 : decode cX4_read 53 = .ok (.ifCond .ne 5, 3) := by decide +kernel
theorem dX4_read_56 : decode cX4_read 56 = .ok (.iconst (-1), 1) := by decide +kernel
theorem dX4_read_57 : decode cX4_read 57 = .ok (.ireturn, 1) := by decide +kernel
theorem dX4_read_58 : decode cX4_read 58 = .ok (.aload_n 0, 1) := by decide +kernel
theorem dX4_read_59 : decode cX4_read 59 = .ok (.invokevirtual 43, 3) := by decide +kernel
theorem dX4_read_62 : decode cX4_read 62 = .ok (.aload_n 0, 1) := by decide +kernel
theorem dX4_read_63 : decode cX4_read 63 = .ok (.getfield 25, 3) := by decide +kernel
theorem dX4_read_66 : decode cX4_read 66 = .ok (.iconst 3, 1) := by decide +kernel
theorem dX4_read_67 : decode cX4_read 67 = .ok (.if_icmp .eq 5, 3) := by decide +kernel
theorem dX4_read_70 : decode cX4_read 70 = .ok (.iconst (-1), 1) := by decide +kernel
theorem dX4_read_71 : decode cX4_read 71 = .ok (.ireturn, 1) := by decide +kernel
theorem dX4_read_72 : decode cX4_read 72 = .ok (.iinc 2 1, 3) := by decide +kernel
theorem dX4_read_75 : decode cX4_read 75 = .ok (.aload_n 0, 1) := by decide +kernel
theorem dX4_read_76 : decode cX4_read 76 = .ok (.invokevirtual 43, 3) := by decide +kernel
theorem dX4_read_79 : decode cX4_read 79 = .ok (.goto (-54), 3) := by decide +kernel
theorem dX4_read_82 : decode cX4_read 82 = .ok (.iload_n 2, 1) := by decide +kernel
theorem dX4_read_83 : decode cX4_read 83 = .ok (.ireturn, 1) := by decide +kernel
theorem dX4_readItem_0 : decode cX4_readItem 0 = .ok (.aload_n 0, 1) := by decide +kernel
theorem dX4_readItem_1 : decode cX4_readItem 1 = .ok (.getfield 25, 3) := by decide +kernel
theorem dX4_readItem_4 : decode cX4_readItem 4 = .ok (.iconst 1, 1) := by decide +kernel
theorem dX4_readItem_5 : decode cX4_readItem 5 = .ok (.if_icmp .eq 5, 3) := by decide +kernel
theorem dX4_readItem_8 : decode cX4_readItem 8 = .ok (.iconst 0, 1) := by decide +kernel
theorem dX4_readItem_9 : decode cX4_readItem 9 = .ok (.ireturn, 1) := by decide +kernel
theorem dX4_readItem_10 : decode cX4_readItem 10 = .ok (.aload_n 0, 1) := by decide +kernel
theorem dX4_readItem_11 : decode cX4_readItem 11 = .ok (.getfield 28, 3) := by decide +kernel
theorem dX4_readItem_14 : decode cX4_readItem 14 = .ok (.tableswitch 179 98 112 #[137, 179, 179, 158, 179, 179, 179, 179, 179, 179, 92, 179, 74, 179, 115], 74) := by decide +kernel
theorem dX4_readItem_88 : decode cX4_readItem 88 = .ok (.iload_n 2, 1) := by decide +kernel
theorem dX4_readItem_89 : decode cX4_readItem 89 = .ok (.ifCond .eq 15, 3) := by decide +kernel
theorem dX4_readItem_92 : decode cX4_readItem 92 = .ok (.aload_n 0, 1) := by decide +kernel
theorem dX4_readItem_93 : decode cX4_readItem 93 = .ok (.aload_n 1, 1) := by decide +kernel
theorem dX4_readItem_94 : decode cX4_readItem 94 = .ok (.invokevirtual 50, 3) := by decide +kernel
theorem dX4_readItem_97 : decode cX4_readItem 97 = .ok (.ifCond .eq 7, 3) := by decide +kernel
theorem dX4_readItem_100 : decode cX4_readItem 100 = .ok (.iconst 1, 1) := by decide +kernel
theorem dX4_readItem_101 : decode cX4_readItem 101 = .ok (.goto 4, 3) := by decide +kernel
theorem dX4_readItem_104 : decode cX4_readItem 104 = .ok (.iconst 0, 1) := by decide +kernel
theorem dX4_readItem_105 : decode cX4_readItem 105 = .ok (.ireturn, 1) := by decide +kernel
theorem dX4_readItem_106 : decode cX4_readItem 106 = .ok (.aload_n 1, 1) := by decide +kernel
theorem dX4_readItem_107 : decode cX4_readItem 107 = .ok (.getfield 54, 3) := by decide +kernel
theorem dX4_readItem_110 : decode cX4_readItem 110 = .ok (.bipush 8, 2) := by decide +kernel
theorem dX4_readItem_112 : decode cX4_readItem 112 = .ok (.if_icmp .ge 15, 3) := by decide +kernel
theorem dX4_readItem_115 : decode cX4_readItem 115 = .ok (.aload_n 0, 1) := by decide +kernel
theorem dX4_readItem_116 : decode cX4_readItem 116 = .ok (.aload_n 1, 1) := by decide +kernel
theorem dX4_readItem_117 : decode cX4_readItem 117 = .ok (.invokevirtual 57, 3) := by decide +kernel
theorem dX4_readItem_120 : decode cX4_readItem 120 = .ok (.ifCond .eq 7, 3) := by decide +kernel
theorem dX4_readItem_123 : decode cX4_readItem 123 = .ok (.iconst 1, 1) := by decide +kernel
theorem dX4_readItem_124 : decode cX4_readItem 124 = .ok (.goto 4, 3) := by decide +kernel
theorem dX4_readItem_127 : decode cX4_readItem 127 = .ok (.iconst 0, 1) := by decide +kernel
theorem dX4_readItem_128 : decode cX4_readItem 128 = .ok (.ireturn, 1) := by decide +kernel
theorem dX4_readItem_129 : decode cX4_readItem 129 = .ok (.aload_n 1, 1) := by decide +kernel
theorem dX4_readItem_130 : decode cX4_readItem 130 = .ok (.getfield 60, 3) := by decide +kernel
theorem dX4_readItem_133 : decode cX4_readItem 133 = .ok (.iconst 5, 1) := by decide +kernel
theorem dX4_readItem_134 : decode cX4_readItem 134 = .ok (.if_icmp .ge 15, 3) := by decide +kernel
theorem dX4_readItem_137 : decode cX4_readItem 137 = .ok (.aload_n 0, 1) := by decide +kernel
theorem dX4_readItem_138 : decode cX4_readItem 138 = .ok (.aload_n 1, 1) := by decide +kernel
theorem dX4_readItem_139 : decode cX4_readItem 139 = .ok (.invokevirtual 63, 3) := by decide +kernel
theorem dX4_readItem_142 : decode cX4_readItem 142 = .ok (.ifCond .eq 7, 3) := by decide +kernel
theorem dX4_readItem_145 : decode cX4_readItem 145 = .ok (.iconst 1, 1) := by decide +kernel
theorem dX4_readItem_146 : decode cX4_readItem 146 = .ok (.goto 4, 3) := by decide +kernel
theorem dX4_readItem_149 : decode cX4_readItem 149 = .ok (.iconst 0, 1) := by decide +kernel
theorem dX4_readItem_150 : decode cX4_readItem 150 = .ok (.ireturn, 1) := by decide +kernel
theorem dX4_readItem_151 : decode cX4_readItem 151 = .ok (.aload_n 0, 1) := by decide +kernel
theorem dX4_readItem_152 : decode cX4_readItem 152 = .ok (.getfield 31, 3) := by decide +kernel
theorem dX4_readItem_155 : decode cX4_readItem 155 = .ok (.ifCond .ne 15, 3) := by decide +kernel
theorem dX4_readItem_158 : decode cX4_readItem 158 = .ok (.aload_n 0, 1) := by decide +kernel
theorem dX4_readItem_159 : decode cX4_readItem 159 = .ok (.aload_n 1, 1) := by decide +kernel
theorem dX4_readItem_160 : decode cX4_readItem 160 = .ok (.invokevirtual 66, 3) := by decide +kernel
theorem dX4_readItem_163 : decode cX4_readItem 163 = .ok (.ifCond .eq 7, 3) := by decide +kernel
theorem dX4_readItem_166 : decode cX4_readItem 166 = .ok (.iconst 1, 1) := by decide +kernel
theorem dX4_readItem_167 : decode cX4_readItem 167 = .ok (.goto 4, 3) := by decide +kernel
theorem dX4_readItem_170 : decode cX4_readItem 170 = .ok (.iconst 0, 1) := by decide +kernel
theorem dX4_readItem_171 : decode cX4_readItem 171 = .ok (.ireturn, 1) := by decide +kernel
theorem dX4_readItem_172 : decode cX4_readItem 172 = .ok (.aload_n 0, 1) := by decide +kernel
theorem dX4_readItem_173 : decode cX4_readItem 173 = .ok (.getfield 35, 3) := by decide +kernel
theorem dX4_readItem_176 : decode cX4_readItem 176 = .ok (.ifCond .ne 15, 3) := by decide +kernel
theorem dX4_readItem_179 : decode cX4_readItem 179 = .ok (.aload_n 0, 1) := by decide +kernel
theorem dX4_readItem_180 : decode cX4_readItem 180 = .ok (.aload_n 1, 1) := by decide +kernel
theorem dX4_readItem_181 : decode cX4_readItem 181 = .ok (.invokevirtual 69, 3) := by decide +kernel
theorem dX4_readItem_184 : decode cX4_readItem 184 = .ok (.ifCond .eq 7, 3) := by decide +kernel
theorem dX4_readItem_187 : decode cX4_readItem 187 = .ok (.iconst 1, 1) := by decide +kernel
theorem dX4_readItem_188 : decode cX4_readItem 188 = .ok (.goto 4, 3) := by decide +kernel
theorem dX4_readItem_191 : decode cX4_readItem 191 = .ok (.iconst 0, 1) := by decide +kernel
theorem dX4_readItem_192 : decode cX4_readItem 192 = .ok (.ireturn, 1) := by decide +kernel
theorem dX4_readItem_193 : decode cX4_readItem 193 = .ok (.iconst 0, 1) := by decide +kernel
theorem dX4_readItem_194 : decode cX4_readItem 194 = .ok (.ireturn, 1) := by decide +kernel
theorem dX4_readPlaces_0 : decode cX4_readPlaces 0 = .ok (.aload_n 0, 1) := by decide +kernel
theorem dX4_readPlaces_1 : decode cX4_readPlaces 1 = .ok (.iconst 2, 1) := by decide +kernel
theorem dX4_readPlaces_2 : decode cX4_readPlaces 2 = .ok (.bipush 8, 2) := by decide +kernel
theorem dX4_readPlaces_4 : decode cX4_readPlaces 4 = .ok (.invokevirtual 72, 3) := by decide +kernel
theorem dX4_readPlaces_7 : decode cX4_readPlaces 7 = .ok (.ifCond .ne 5, 3) := by decide +kernel
theorem dX4_readPlaces_10 : decode cX4_readPlaces 10 = .ok (.iconst 0, 1) := by decide +kernel
theorem dX4_readPlaces_11 : decode cX4_readPlaces 11 = .ok (.ireturn, 1) := by decide +kernel
theorem dX4_readPlaces_12 : decode cX4_readPlaces 12 = .ok (.aload_n 1, 1) := by decide +kernel
theorem dX4_readPlaces_13 : decode cX4_readPlaces 13 = .ok (.aload_n 0, 1) := by decide +kernel
theorem dX4_readPlaces_14 : decode cX4_readPlaces 14 = .ok (.getfield 28, 3) := by decide +kernel
theorem dX4_readPlaces_17 : decode cX4_readPlaces 17 = .ok (.putfield 76, 3) := by decide +kernel
theorem dX4_readPlaces_20 : decode cX4_readPlaces 20 = .ok (.iconst 1, 1) := by decide +kernel
theorem dX4_readPlaces_21 : decode cX4_readPlaces 21 = .ok (.ireturn, 1) := by decide +kernel
theorem dX4_readLane_0 : decode cX4_readLane 0 = .ok (.aload_n 0, 1) := by decide +kernel
theorem dX4_readLane_1 : decode cX4_readLane 1 = .ok (.iconst 0, 1) := by decide +kernel
theorem dX4_readLane_2 : decode cX4_readLane 2 = .ok (.aload_n 1, 1) := by decide +kernel
theorem dX4_readLane_3 : decode cX4_readLane 3 = .ok (.getfield 76, 3) := by decide +kernel
theorem dX4_readLane_6 : decode cX4_readLane 6 = .ok (.iconst 1, 1) := by decide +kernel
theorem dX4_readLane_7 : decode cX4_readLane 7 = .ok (.isub, 1) := by decide +kernel
theorem dX4_readLane_8 : decode cX4_readLane 8 = .ok (.invokevirtual 72, 3) := by decide +kernel
theorem dX4_readLane_11 : decode cX4_readLane 11 = .ok (.ifCond .ne 5, 3) := by decide +kernel
theorem dX4_readLane_14 : decode cX4_readLane 14 = .ok (.iconst 0, 1) := by decide +kernel
theorem dX4_readLane_15 : decode cX4_readLane 15 = .ok (.ireturn, 1) := by decide +kernel
theorem dX4_readLane_16 : decode cX4_readLane 16 = .ok (.aload_n 0, 1) := by decide +kernel
theorem dX4_readLane_17 : decode cX4_readLane 17 = .ok (.getfield 28, 3) := by decide +kernel
theorem dX4_readLane_20 : decode cX4_readLane 20 = .ok (.istore_n 2, 1) := by decide +kernel
theorem dX4_readLane_21 : decode cX4_readLane 21 = .ok (.aload_n 0, 1) := by decide +kernel
theorem dX4_readLane_22 : decode cX4_readLane 22 = .ok (.iconst 0, 1) := by decide +kernel
theorem dX4_readLane_23 : decode cX4_readLane 23 = .ok (.aload_n 1, 1) := by decide +kernel
theorem dX4_readLane_24 : decode cX4_readLane 24 = .ok (.getfield 76, 3) := by decide +kernel
theorem dX4_readLane_27 : decode cX4_readLane 27 = .ok (.iconst 1, 1) := by decide +kernel
theorem dX4_readLane_28 : decode cX4_readLane 28 = .ok (.isub, 1) := by decide +kernel
theorem dX4_readLane_29 : decode cX4_readLane 29 = .ok (.invokevirtual 72, 3) := by decide +kernel
theorem dX4_readLane_32 : decode cX4_readLane 32 = .ok (.ifCond .eq 11, 3) := by decide +kernel
theorem dX4_readLane_35 : decode cX4_readLane 35 = .ok (.aload_n 0, 1) := by decide +kernel
theorem dX4_readLane_36 : decode cX4_readLane 36 = .ok (.getfield 28, 3) := by decide +kernel
theorem dX4_readLane_39 : decode cX4_readLane 39 = .ok (.iload_n 2, 1) := by decide +kernel
theorem dX4_readLane_40 : decode cX4_readLane 40 = .ok (.if_icmp .ne 5, 3) := by decide +kernel
theorem dX4_readLane_43 : decode cX4_readLane 43 = .ok (.iconst 0, 1) := by decide +kernel
theorem dX4_readLane_44 : decode cX4_readLane 44 = .ok (.ireturn, 1) := by decide +kernel
theorem dX4_readLane_45 : decode cX4_readLane 45 = .ok (.aload_n 0, 1) := by decide +kernel
theorem dX4_readLane_46 : decode cX4_readLane 46 = .ok (.getfield 28, 3) := by decide +kernel
theorem dX4_readLane_49 : decode cX4_readLane 49 = .ok (.istore_n 3, 1) := by decide +kernel
theorem dX4_readLane_50 : decode cX4_readLane 50 = .ok (.aload_n 0, 1) := by decide +kernel
theorem dX4_readLane_51 : decode cX4_readLane 51 = .ok (.iconst 1, 1) := by decide +kernel
theorem dX4_readLane_52 : decode cX4_readLane 52 = .ok (.bipush 40, 2) := by decide +kernel
theorem dX4_readLane_54 : decode cX4_readLane 54 = .ok (.invokevirtual 72, 3) := by decide +kernel
theorem dX4_readLane_57 : decode cX4_readLane 57 = .ok (.ifCond .eq 20, 3) := by decide +kernel
theorem dX4_readLane_60 : decode cX4_readLane 60 = .ok (.aload_n 1, 1) := by decide +kernel
theorem dX4_readLane_61 : decode cX4_readLane 61 = .ok (.iload_n 2, 1) := by decide +kernel
theorem dX4_readLane_62 : decode cX4_readLane 62 = .ok (.iload_n 3, 1) := by decide +kernel
theorem dX4_readLane_63 : decode cX4_readLane 63 = .ok (.aload_n 0, 1) := by decide +kernel
theorem dX4_readLane_64 : decode cX4_readLane 64 = .ok (.getfield 28, 3) := by decide +kernel
theorem dX4_readLane_67 : decode cX4_readLane 67 = .ok (.invokevirtual 79, 3) := by decide +kernel
theorem dX4_readLane_70 : decode cX4_readLane 70 = .ok (.ifCond .eq 7, 3) := by decide +kernel
theorem dX4_readLane_73 : decode cX4_readLane 73 = .ok (.iconst 1, 1) := by decide +kernel
theorem dX4_readLane_74 : decode cX4_readLane 74 = .ok (.goto 4, 3) := by decide +kernel
theorem dX4_readLane_77 : decode cX4_readLane 77 = .ok (.iconst 0, 1) := by decide +kernel
theorem dX4_readLane_78 : decode cX4_readLane 78 = .ok (.ireturn, 1) := by decide +kernel
theorem dX4_readPerson_0 : decode cX4_readPerson 0 = .ok (.aload_n 0, 1) := by decide +kernel
theorem dX4_readPerson_1 : decode cX4_readPerson 1 = .ok (.iconst 0, 1) := by decide +kernel
theorem dX4_readPerson_2 : decode cX4_readPerson 2 = .ok (.bipush 9, 2) := by decide +kernel
theorem dX4_readPerson_4 : decode cX4_readPerson 4 = .ok (.invokevirtual 72, 3) := by decide +kernel
theorem dX4_readPerson_7 : decode cX4_readPerson 7 = .ok (.ifCond .ne 5, 3) := by decide +kernel
theorem dX4_readPerson_10 : decode cX4_readPerson 10 = .ok (.iconst 0, 1) := by decide +kernel
theorem dX4_readPerson_11 : decode cX4_readPerson 11 = .ok (.ireturn, 1) := by decide +kernel
theorem dX4_readPerson_12 : decode cX4_readPerson 12 = .ok (.aload_n 0, 1) := by decide +kernel
theorem dX4_readPerson_13 : decode cX4_readPerson 13 = .ok (.getfield 28, 3) := by decide +kernel
theorem dX4_readPerson_16 : decode cX4_readPerson 16 = .ok (.istore_n 2, 1) := by decide +kernel
theorem dX4_readPerson_17 : decode cX4_readPerson 17 = .ok (.aload_n 0, 1) := by decide +kernel
theorem dX4_readPerson_18 : decode cX4_readPerson 18 = .ok (.iconst 0, 1) := by decide +kernel
theorem dX4_readPerson_19 : decode cX4_readPerson 19 = .ok (.aload_n 1, 1) := by decide +kernel
theorem dX4_readPerson_20 : decode cX4_readPerson 20 = .ok (.getfield 76, 3) := by decide +kernel
theorem dX4_readPerson_23 : decode cX4_readPerson 23 = .ok (.iconst 1, 1) := by decide +kernel
theorem dX4_readPerson_24 : decode cX4_readPerson 24 = .ok (.isub, 1) := by decide +kernel
theorem dX4_readPerson_25 : decode cX4_readPerson 25 = .ok (.invokevirtual 72, 3) := by decide +kernel
theorem dX4_readPerson_28 : decode cX4_readPerson 28 = .ok (.ifCond .eq 19, 3) := by decide +kernel
theorem dX4_readPerson_31 : decode cX4_readPerson 31 = .ok (.aload_n 1, 1) := by decide +kernel
theorem dX4_readPerson_32 : decode cX4_readPerson 32 = .ok (.iload_n 2, 1) := by decide +kernel
theorem dX4_readPerson_33 : decode cX4_readPerson 33 = .ok (.aload_n 0, 1) := by decide +kernel
theorem dX4_readPerson_34 : decode cX4_readPerson 34 = .ok (.getfield 28, 3) := by decide +kernel
theorem dX4_readPerson_37 : decode cX4_readPerson 37 = .ok (.invokevirtual 83, 3) := by decide +kernel
theorem dX4_readPerson_40 : decode cX4_readPerson 40 = .ok (.ifCond .eq 7, 3) := by decide +kernel
theorem dX4_readPerson_43 : decode cX4_readPerson 43 = .ok (.iconst 1, 1) := by decide +kernel
theorem dX4_readPerson_44 : decode cX4_readPerson 44 = .ok (.goto 4, 3) := by decide +kernel
theorem dX4_readPerson_47 : decode cX4_readPerson 47 = .ok (.iconst 0, 1) := by decide +kernel
theorem dX4_readPerson_48 : decode cX4_readPerson 48 = .ok (.ireturn, 1) := by decide +kernel
theorem dX4_readBody_0 : decode cX4_readBody 0 = .ok (.aload_n 0, 1) := by decide +kernel
theorem dX4_readBody_1 : decode cX4_readBody 1 = .ok (.iconst 1, 1) := by decide +kernel
theorem dX4_readBody_2 : decode cX4_readBody 2 = .ok (.bipush 9, 2) := by decide +kernel
theorem dX4_readBody_4 : decode cX4_readBody 4 = .ok (.invokevirtual 72, 3) := by decide +kernel
theorem dX4_readBody_7 : decode cX4_readBody 7 = .ok (.ifCond .ne 5, 3) := by decide +kernel
theorem dX4_readBody_10 : decode cX4_readBody 10 = .ok (.iconst 0, 1) := by decide +kernel
theorem dX4_readBody_11 : decode cX4_readBody 11 = .ok (.ireturn, 1) := by decide +kernel
theorem dX4_readBody_12 : decode cX4_readBody 12 = .ok (.aload_n 1, 1) := by decide +kernel
theorem dX4_readBody_13 : decode cX4_readBody 13 = .ok (.aload_n 0, 1) := by decide +kernel
theorem dX4_readBody_14 : decode cX4_readBody 14 = .ok (.getfield 28, 3) := by decide +kernel
theorem dX4_readBody_17 : decode cX4_readBody 17 = .ok (.putfield 86, 3) := by decide +kernel
theorem dX4_readBody_20 : decode cX4_readBody 20 = .ok (.aload_n 0, 1) := by decide +kernel
theorem dX4_readBody_21 : decode cX4_readBody 21 = .ok (.iconst 1, 1) := by decide +kernel
theorem dX4_readBody_22 : decode cX4_readBody 22 = .ok (.putfield 31, 3) := by decide +kernel
theorem dX4_readBody_25 : decode cX4_readBody 25 = .ok (.iconst 1, 1) := by decide +kernel
theorem dX4_readBody_26 : decode cX4_readBody 26 = .ok (.ireturn, 1) := by decide +kernel
theorem dX4_readError_0 : decode cX4_readError 0 = .ok (.aload_n 0, 1) := by decide +kernel
theorem dX4_readError_1 : decode cX4_readError 1 = .ok (.iconst 0, 1) := by decide +kernel
theorem dX4_readError_2 : decode cX4_readError 2 = .ok (.iconst 3, 1) := by decide +kernel
theorem dX4_readError_3 : decode cX4_readError 3 = .ok (.invokevirtual 72, 3) := by decide +kernel
theorem dX4_readError_6 : decode cX4_readError 6 = .ok (.ifCond .ne 5, 3) := by decide +kernel
theorem dX4_readError_9 : decode cX4_readError 9 = .ok (.iconst 0, 1) := by decide +kernel
theorem dX4_readError_10 : decode cX4_readError 10 = .ok (.ireturn, 1) := by decide +kernel
theorem dX4_readError_11 : decode cX4_readError 11 = .ok (.aload_n 1, 1) := by decide +kernel
theorem dX4_readError_12 : decode cX4_readError 12 = .ok (.aload_n 0, 1) := by decide +kernel
theorem dX4_readError_13 : decode cX4_readError 13 = .ok (.getfield 28, 3) := by decide +kernel
theorem dX4_readError_16 : decode cX4_readError 16 = .ok (.putfield 89, 3) := by decide +kernel
theorem dX4_readError_19 : decode cX4_readError 19 = .ok (.aload_n 0, 1) := by decide +kernel
theorem dX4_readError_20 : decode cX4_readError 20 = .ok (.iconst 1, 1) := by decide +kernel
theorem dX4_readError_21 : decode cX4_readError 21 = .ok (.putfield 35, 3) := by decide +kernel
theorem dX4_readError_24 : decode cX4_readError 24 = .ok (.iconst 1, 1) := by decide +kernel
theorem dX4_readError_25 : decode cX4_readError 25 = .ok (.ireturn, 1) := by decide +kernel
theorem dX4_isNumber_0 : decode cX4_isNumber 0 = .ok (.aload_n 0, 1) := by decide +kernel
theorem dX4_isNumber_1 : decode cX4_isNumber 1 = .ok (.invokevirtual 43, 3) := by decide +kernel
theorem dX4_isNumber_4 : decode cX4_isNumber 4 = .ok (.aload_n 0, 1) := by decide +kernel
theorem dX4_isNumber_5 : decode cX4_isNumber 5 = .ok (.getfield 25, 3) := by decide +kernel
theorem dX4_isNumber_8 : decode cX4_isNumber 8 = .ok (.iconst 2, 1) := by decide +kernel
theorem dX4_isNumber_9 : decode cX4_isNumber 9 = .ok (.if_icmp .ne 23, 3) := by decide +kernel
theorem dX4_isNumber_12 : decode cX4_isNumber 12 = .ok (.aload_n 0, 1) := by decide +kernel
theorem dX4_isNumber_13 : decode cX4_isNumber 13 = .ok (.getfield 28, 3) := by decide +kernel
theorem dX4_isNumber_16 : decode cX4_isNumber 16 = .ok (.iload_n 1, 1) := by decide +kernel
theorem dX4_isNumber_17 : decode cX4_isNumber 17 = .ok (.if_icmp .lt 15, 3) := by decide +kernel
theorem dX4_isNumber_20 : decode cX4_isNumber 20 = .ok (.aload_n 0, 1) := by decide +kernel
theorem dX4_isNumber_21 : decode cX4_isNumber 21 = .ok (.getfield 28, 3) := by decide +kernel
theorem dX4_isNumber_24 : decode cX4_isNumber 24 = .ok (.iload_n 2, 1) := by decide +kernel
theorem dX4_isNumber_25 : decode cX4_isNumber 25 = .ok (.if_icmp .gt 7, 3) := by decide +kernel
theorem dX4_isNumber_28 : decode cX4_isNumber 28 = .ok (.iconst 1, 1) := by decide +kernel
theorem dX4_isNumber_29 : decode cX4_isNumber 29 = .ok (.goto 4, 3) := by decide +kernel
theorem dX4_isNumber_32 : decode cX4_isNumber 32 = .ok (.iconst 0, 1) := by decide +kernel
theorem dX4_isNumber_33 : decode cX4_isNumber 33 = .ok (.ireturn, 1) := by decide +kernel
theorem dX4_takeToken_0 : decode cX4_takeToken 0 = .ok (.aload_n 0, 1) := by decide +kernel
theorem dX4_takeToken_1 : decode cX4_takeToken 1 = .ok (.aload_n 0, 1) := by decide +kernel
theorem dX4_takeToken_2 : decode cX4_takeToken 2 = .ok (.aload_n 0, 1) := by decide +kernel
theorem dX4_takeToken_3 : decode cX4_takeToken 3 = .ok (.getfield 18, 3) := by decide +kernel
theorem dX4_takeToken_6 : decode cX4_takeToken 6 = .ok (.bipush 32, 2) := by decide +kernel
theorem dX4_takeToken_8 : decode cX4_takeToken 8 = .ok (.bipush 32, 2) := by decide +kernel
theorem dX4_takeToken_10 : decode cX4_takeToken 10 = .ok (.invokevirtual 92, 3) := by decide +kernel
theorem dX4_takeToken_13 : decode cX4_takeToken 13 = .ok (.putfield 18, 3) := by decide +kernel
theorem dX4_takeToken_16 : decode cX4_takeToken 16 = .ok (.aload_n 0, 1) := by decide +kernel
theorem dX4_takeToken_17 : decode cX4_takeToken 17 = .ok (.aload_n 0, 1) := by decide +kernel
theorem dX4_takeToken_18 : decode cX4_takeToken 18 = .ok (.getfield 18, 3) := by decide +kernel
theorem dX4_takeToken_21 : decode cX4_takeToken 21 = .ok (.putfield 22, 3) := by decide +kernel
theorem dX4_takeToken_24 : decode cX4_takeToken 24 = .ok (.aload_n 0, 1) := by decide +kernel
theorem dX4_takeToken_25 : decode cX4_takeToken 25 = .ok (.aload_n 0, 1) := by decide +kernel
theorem dX4_takeToken_26 : decode cX4_takeToken 26 = .ok (.getfield 22, 3) := by decide +kernel
theorem dX4_takeToken_29 : decode cX4_takeToken 29 = .ok (.bipush 97, 2) := by decide +kernel
theorem dX4_takeToken_31 : decode cX4_takeToken 31 = .ok (.bipush 122, 2) := by decide +kernel
theorem dX4_takeToken_33 : decode cX4_takeToken 33 = .ok (.invokevirtual 92, 3) := by decide +kernel
theorem dX4_takeToken_36 : decode cX4_takeToken 36 = .ok (.aload_n 0, 1) := by decide +kernel
theorem dX4_takeToken_37 : decode cX4_takeToken 37 = .ok (.getfield 22, 3) := by decide +kernel
theorem dX4_takeToken_40 : decode cX4_takeToken 40 = .ok (.isub, 1) := by decide +kernel
theorem dX4_takeToken_41 : decode cX4_takeToken 41 = .ok (.istore_n 1, 1) := by decide +kernel
theorem dX4_takeToken_42 : decode cX4_takeToken 42 = .ok (.aload_n 0, 1) := by decide +kernel
theorem dX4_takeToken_43 : decode cX4_takeToken 43 = .ok (.aload_n 0, 1) := by decide +kernel
theorem dX4_takeToken_44 : decode cX4_takeToken 44 = .ok (.getfield 22, 3) := by decide +kernel
theorem dX4_takeToken_47 : decode cX4_takeToken 47 = .ok (.bipush 48, 2) := by decide +kernel
theorem dX4_takeToken_49 : decode cX4_takeToken 49 = .ok (.bipush 57, 2) := by decide +kernel
theorem dX4_takeToken_51 : decode cX4_takeToken 51 = .ok (.invokevirtual 92, 3) := by decide +kernel
theorem dX4_takeToken_54 : decode cX4_takeToken 54 = .ok (.aload_n 0, 1) := by decide +kernel
theorem dX4_takeToken_55 : decode cX4_takeToken 55 = .ok (.getfield 22, 3) := by decide +kernel
theorem dX4_takeToken_58 : decode cX4_takeToken 58 = .ok (.isub, 1) := by decide +kernel
theorem dX4_takeToken_59 : decode cX4_takeToken 59 = .ok (.istore_n 2, 1) := by decide +kernel
theorem dX4_takeToken_60 : decode cX4_takeToken 60 = .ok (.aload_n 0, 1) := by decide +kernel
theorem dX4_takeToken_61 : decode cX4_takeToken 61 = .ok (.getfield 22, 3) := by decide +kernel
theorem dX4_takeToken_64 : decode cX4_takeToken 64 = .ok (.aload_n 0, 1) := by decide +kernel
theorem dX4_takeToken_65 : decode cX4_takeToken 65 = .ok (.getfield 12, 3) := by decide +kernel
theorem dX4_takeToken_68 : decode cX4_takeToken 68 = .ok (.getfield 96, 3) := by decide +kernel
theorem dX4_takeToken_71 : decode cX4_takeToken 71 = .ok (.if_icmp .lt 11, 3) := by decide +kernel
theorem dX4_takeToken_74 : decode cX4_takeToken 74 = .ok (.aload_n 0, 1) := by decide +kernel
theorem dX4_takeToken_75 : decode cX4_takeToken 75 = .ok (.iconst 0, 1) := by decide +kernel
theorem dX4_takeToken_76 : decode cX4_takeToken 76 = .ok (.putfield 25, 3) := by decide +kernel
theorem dX4_takeToken_79 : decode cX4_takeToken 79 = .ok (.goto 98, 3) := by decide +kernel
theorem dX4_takeToken_82 : decode cX4_takeToken 82 = .ok (.iload_n 1, 1) := by decide +kernel
theorem dX4_takeToken_83 : decode cX4_takeToken 83 = .ok (.ifCond .le 46, 3) := by decide +kernel
theorem dX4_takeToken_86 : decode cX4_takeToken 86 = .ok (.aload_n 0, 1) := by decide +kernel
theorem dX4_takeToken_87 : decode cX4_takeToken 87 = .ok (.iload_n 1, 1) := by decide +kernel
theorem dX4_takeToken_88 : decode cX4_takeToken 88 = .ok (.iconst 1, 1) := by decide +kernel
theorem dX4_takeToken_89 : decode cX4_takeToken 89 = .ok (.if_icmp .ne 7, 3) := by decide +kernel
theorem dX4_takeToken_92 : decode cX4_takeToken 92 = .ok (.iconst 1, 1) := by decide +kernel
theorem dX4_takeToken_93 : decode cX4_takeToken 93 = .ok (.goto 4, 3) := by decide +kernel
theorem dX4_takeToken_96 : decode cX4_takeToken 96 = .ok (.iconst 4, 1) := by decide +kernel
theorem dX4_takeToken_97 : decode cX4_takeToken 97 = .ok (.putfield 25, 3) := by decide +kernel
theorem dX4_takeToken_100 : decode cX4_takeToken 100 = .ok (.aload_n 0, 1) := by decide +kernel
theorem dX4_takeToken_101 : decode cX4_takeToken 101 = .ok (.aload_n 0, 1) := by decide +kernel
theorem dX4_takeToken_102 : decode cX4_takeToken 102 = .ok (.getfield 12, 3) := by decide +kernel
theorem dX4_takeToken_105 : decode cX4_takeToken 105 = .ok (.getfield 99, 3) := by decide +kernel
theorem dX4_takeToken_108 : decode cX4_takeToken 108 = .ok (.aload_n 0, 1) := by decide +kernel
theorem dX4_takeToken_109 : decode cX4_takeToken 109 = .ok (.getfield 22, 3) := by decide +kernel
theorem dX4_takeToken_112 : decode cX4_takeToken 112 = .ok (.iaload, 1) := by decide +kernel
theorem dX4_takeToken_113 : decode cX4_takeToken 113 = .ok (.putfield 28, 3) := by decide +kernel
theorem dX4_takeToken_116 : decode cX4_takeToken 116 = .ok (.aload_n 0, 1) := by decide +kernel
theorem dX4_takeToken_117 : decode cX4_takeToken 117 = .ok (.dup, 1) := by decide +kernel
theorem dX4_takeToken_118 : decode cX4_takeToken 118 = .ok (.getfield 18, 3) := by decide +kernel
theorem dX4_takeToken_121 : decode cX4_takeToken 121 = .ok (.iload_n 1, 1) := by decide +kernel
theorem dX4_takeToken_122 : decode cX4_takeToken 122 = .ok (.iadd, 1) := by decide +kernel
theorem dX4_takeToken_123 : decode cX4_takeToken 123 = .ok (.putfield 18, 3) := by decide +kernel
theorem dX4_takeToken_126 : decode cX4_takeToken 126 = .ok (.goto 51, 3) := by decide +kernel
theorem dX4_takeToken_129 : decode cX4_takeToken 129 = .ok (.iload_n 2, 1) := by decide +kernel
theorem dX4_takeToken_130 : decode cX4_takeToken 130 = .ok (.ifCond .le 11, 3) := by decide +kernel
theorem dX4_takeToken_133 : decode cX4_takeToken 133 = .ok (.aload_n 0, 1) := by decide +kernel
theorem dX4_takeToken_134 : decode cX4_takeToken 134 = .ok (.iload_n 2, 1) := by decide +kernel
theorem dX4_takeToken_135 : decode cX4_takeToken 135 = .ok (.invokevirtual 103, 3) := by decide +kernel
theorem dX4_takeToken_138 : decode cX4_takeToken 138 = .ok (.goto 39, 3) := by decide +kernel
theorem dX4_takeToken_141 : decode cX4_takeToken 141 = .ok (.aload_n 0, 1) := by decide +kernel
theorem dX4_takeToken_142 : decode cX4_takeToken 142 = .ok (.aload_n 0, 1) := by decide +kernel
theorem dX4_takeToken_143 : decode cX4_takeToken 143 = .ok (.getfield 12, 3) := by decide +kernel
theorem dX4_takeToken_146 : decode cX4_takeToken 146 = .ok (.getfield 99, 3) := by decide +kernel
theorem dX4_takeToken_149 : decode cX4_takeToken 149 = .ok (.aload_n 0, 1) := by decide +kernel
theorem dX4_takeToken_150 : decode cX4_takeToken 150 = .ok (.getfield 22, 3) := by decide +kernel
theorem dX4_takeToken_153 : decode cX4_takeToken 153 = .ok (.iaload, 1) := by decide +kernel
theorem dX4_takeToken_154 : decode cX4_takeToken 154 = .ok (.bipush 59, 2) := by decide +kernel
theorem dX4_takeToken_156 : decode cX4_takeToken 156 = .ok (.if_icmp .ne 7, 3) := by decide +kernel
theorem dX4_takeToken_159 : decode cX4_takeToken 159 = .ok (.iconst 3, 1) := by decide +kernel
theorem dX4_takeToken_160 : decode cX4_takeToken 160 = .ok (.goto 4, 3) := by decide +kernel
theorem dX4_takeToken_163 : decode cX4_takeToken 163 = .ok (.iconst 4, 1) := by decide +kernel
theorem dX4_takeToken_164 : decode cX4_takeToken 164 = .ok (.putfield 25, 3) := by decide +kernel
theorem dX4_takeToken_167 : decode cX4_takeToken 167 = .ok (.aload_n 0, 1) := by decide +kernel
theorem dX4_takeToken_168 : decode cX4_takeToken 168 = .ok (.dup, 1) := by decide +kernel
theorem dX4_takeToken_169 : decode cX4_takeToken 169 = .ok (.getfield 18, 3) := by decide +kernel
theorem dX4_takeToken_172 : decode cX4_takeToken 172 = .ok (.iconst 1, 1) := by decide +kernel
theorem dX4_takeToken_173 : decode cX4_takeToken 173 = .ok (.iadd, 1) := by decide +kernel
theorem dX4_takeToken_174 : decode cX4_takeToken 174 = .ok (.putfield 18, 3) := by decide +kernel
theorem dX4_takeToken_177 : decode cX4_takeToken 177 = .ok (.return_, 1) := by decide +kernel
theorem dX4_takeNumber_0 : decode cX4_takeNumber 0 = .ok (.iload_n 1, 1) := by decide +kernel
theorem dX4_takeNumber_1 : decode cX4_takeNumber 1 = .ok (.iconst 2, 1) := by decide +kernel
theorem dX4_takeNumber_2 : decode cX4_takeNumber 2 = .ok (.if_icmp .gt 25, 3) := by decide +kernel
theorem dX4_takeNumber_5 : decode cX4_takeNumber 5 = .ok (.iload_n 1, 1) := by decide +kernel
theorem dX4_takeNumber_6 : decode cX4_takeNumber 6 = .ok (.iconst 2, 1) := by decide +kernel
theorem dX4_takeNumber_7 : decode cX4_takeNumber 7 = .ok (.if_icmp .ne 24, 3) := by decide +kernel
theorem dX4_takeNumber_10 : decode cX4_takeNumber 10 = .ok (.aload_n 0, 1) := by decide +kernel
theorem dX4_takeNumber_11 : decode cX4_takeNumber 11 = .ok (.getfield 12, 3) := by decide +kernel
theorem dX4_takeNumber_14 : decode cX4_takeNumber 14 = .ok (.getfield 99, 3) := by decide +kernel
theorem dX4_takeNumber_17 : decode cX4_takeNumber 17 = .ok (.aload_n 0, 1) := by decide +kernel
theorem dX4_takeNumber_18 : decode cX4_takeNumber 18 = .ok (.getfield 22, 3) := by decide +kernel
theorem dX4_takeNumber_21 : decode cX4_takeNumber 21 = .ok (.iaload, 1) := by decide +kernel
theorem dX4_takeNumber_22 : decode cX4_takeNumber 22 = .ok (.bipush 48, 2) := by decide +kernel
theorem dX4_takeNumber_24 : decode cX4_takeNumber 24 = .ok (.if_icmp .ne 7, 3) := by decide +kernel
theorem dX4_takeNumber_27 : decode cX4_takeNumber 27 = .ok (.iconst 1, 1) := by decide +kernel
theorem dX4_takeNumber_28 : decode cX4_takeNumber 28 = .ok (.goto 4, 3) := by decide +kernel
theorem dX4_takeNumber_31 : decode cX4_takeNumber 31 = .ok (.iconst 0, 1) := by decide +kernel
theorem dX4_takeNumber_32 : decode cX4_takeNumber 32 = .ok (.istore_n 2, 1) := by decide +kernel
theorem dX4_takeNumber_33 : decode cX4_takeNumber 33 = .ok (.aload_n 0, 1) := by decide +kernel
theorem dX4_takeNumber_34 : decode cX4_takeNumber 34 = .ok (.iload_n 2, 1) := by decide +kernel
theorem dX4_takeNumber_35 : decode cX4_takeNumber 35 = .ok (.ifCond .eq 7, 3) := by decide +kernel
theorem dX4_takeNumber_38 : decode cX4_takeNumber 38 = .ok (.iconst 4, 1) := by decide +kernel
theorem dX4_takeNumber_39 : decode cX4_takeNumber 39 = .ok (.goto 4, 3) := by decide +kernel
theorem dX4_takeNumber_42 : decode cX4_takeNumber 42 = .ok (.iconst 2, 1) := by decide +kernel
theorem dX4_takeNumber_43 : decode cX4_takeNumber 43 = .ok (.putfield 25, 3) := by decide +kernel
theorem dX4_takeNumber_46 : decode cX4_takeNumber 46 = .ok (.aload_n 0, 1) := by decide +kernel
theorem dX4_takeNumber_47 : decode cX4_takeNumber 47 = .ok (.iconst 0, 1) := by decide +kernel
theorem dX4_takeNumber_48 : decode cX4_takeNumber 48 = .ok (.putfield 28, 3) := by decide +kernel
theorem dX4_takeNumber_51 : decode cX4_takeNumber 51 = .ok (.iconst 0, 1) := by decide +kernel
theorem dX4_takeNumber_52 : decode cX4_takeNumber 52 = .ok (.istore_n 3, 1) := by decide +kernel
theorem dX4_takeNumber_53 : decode cX4_takeNumber 53 = .ok (.iload_n 3, 1) := by decide +kernel
theorem dX4_takeNumber_54 : decode cX4_takeNumber 54 = .ok (.iload_n 1, 1) := by decide +kernel
theorem dX4_takeNumber_55 : decode cX4_takeNumber 55 = .ok (.if_icmp .ge 46, 3) := by decide +kernel
theorem dX4_takeNumber_58 : decode cX4_takeNumber 58 = .ok (.aload_n 0, 1) := by decide +kernel
theorem dX4_takeNumber_59 : decode cX4_takeNumber 59 = .ok (.aload_n 0, 1) := by decide +kernel
theorem dX4_takeNumber_60 : decode cX4_takeNumber 60 = .ok (.getfield 28, 3) := by decide +kernel
theorem dX4_takeNumber_63 : decode cX4_takeNumber 63 = .ok (.bipush 10, 2) := by decide +kernel
theorem dX4_takeNumber_65 : decode cX4_takeNumber 65 = .ok (.imul, 1) := by decide +kernel
theorem dX4_takeNumber_66 : decode cX4_takeNumber 66 = .ok (.aload_n 0, 1) := by decide +kernel
theorem dX4_takeNumber_67 : decode cX4_takeNumber 67 = .ok (.getfield 12, 3) := by decide +kernel
theorem dX4_takeNumber_70 : decode cX4_takeNumber 70 = .ok (.getfield 99, 3) := by decide +kernel
theorem dX4_takeNumber_73 : decode cX4_takeNumber 73 = .ok (.aload_n 0, 1) := by decide +kernel
theorem dX4_takeNumber_74 : decode cX4_takeNumber 74 = .ok (.getfield 18, 3) := by decide +kernel
theorem dX4_takeNumber_77 : decode cX4_takeNumber 77 = .ok (.iaload, 1) := by decide +kernel
theorem dX4_takeNumber_78 : decode cX4_takeNumber 78 = .ok (.iadd, 1) := by decide +kernel
theorem dX4_takeNumber_79 : decode cX4_takeNumber 79 = .ok (.bipush 48, 2) := by decide +kernel
theorem dX4_takeNumber_81 : decode cX4_takeNumber 81 = .ok (.isub, 1) := by decide +kernel
theorem dX4_takeNumber_82 : decode cX4_takeNumber 82 = .ok (.putfield 28, 3) := by decide +kernel
theorem dX4_takeNumber_85 : decode cX4_takeNumber 85 = .ok (.aload_n 0, 1) := by decide +kernel
theorem dX4_takeNumber_86 : decode cX4_takeNumber 86 = .ok (.dup, 1) := by decide +kernel
theorem dX4_takeNumber_87 : decode cX4_takeNumber 87 = .ok (.getfield 18, 3) := by decide +kernel
theorem dX4_takeNumber_90 : decode cX4_takeNumber 90 = .ok (.iconst 1, 1) := by decide +kernel
theorem dX4_takeNumber_91 : decode cX4_takeNumber 91 = .ok (.iadd, 1) := by decide +kernel
theorem dX4_takeNumber_92 : decode cX4_takeNumber 92 = .ok (.putfield 18, 3) := by decide +kernel
theorem dX4_takeNumber_95 : decode cX4_takeNumber 95 = .ok (.iinc 3 1, 3) := by decide +kernel
theorem dX4_takeNumber_98 : decode cX4_takeNumber 98 = .ok (.goto (-45), 3) := by decide +kernel
theorem dX4_takeNumber_101 : decode cX4_takeNumber 101 = .ok (.return_, 1) := by decide +kernel
theorem dX4_endOfRun_0 : decode cX4_endOfRun 0 = .ok (.iload_n 1, 1) := by decide +kernel
theorem dX4_endOfRun_1 : decode cX4_endOfRun 1 = .ok (.istore 4, 2) := by decide +kernel
theorem dX4_endOfRun_3 : decode cX4_endOfRun 3 = .ok (.iload 4, 2) := by decide +kernel
theorem dX4_endOfRun_5 : decode cX4_endOfRun 5 = .ok (.aload_n 0, 1) := by decide +kernel
theorem dX4_endOfRun_6 : decode cX4_endOfRun 6 = .ok (.getfield 12, 3) := by decide +kernel
theorem dX4_endOfRun_9 : decode cX4_endOfRun 9 = .ok (.getfield 96, 3) := by decide +kernel
theorem dX4_endOfRun_12 : decode cX4_endOfRun 12 = .ok (.if_icmp .ge 37, 3) := by decide +kernel
theorem dX4_endOfRun_15 : decode cX4_endOfRun 15 = .ok (.aload_n 0, 1) := by decide +kernel
theorem dX4_endOfRun_16 : decode cX4_endOfRun 16 = .ok (.getfield 12, 3) := by decide +kernel
theorem dX4_endOfRun_19 : decode cX4_endOfRun 19 = .ok (.getfield 99, 3) := by decide +kernel
theorem dX4_endOfRun_22 : decode cX4_endOfRun 22 = .ok (.iload 4, 2) := by decide +kernel
theorem dX4_endOfRun_24 : decode cX4_endOfRun 24 = .ok (.iaload, 1) := by decide +kernel
theorem dX4_endOfRun_25 : decode cX4_endOfRun 25 = .ok (.iload_n 2, 1) := by decide +kernel
theorem dX4_endOfRun_26 : decode cX4_endOfRun 26 = .ok (.if_icmp .lt 23, 3) := by decide +kernel
theorem dX4_endOfRun_29 : decode cX4_endOfRun 29 = .ok (.aload_n 0, 1) := by decide +kernel
theorem dX4_endOfRun_30 : decode cX4_endOfRun 30 = .ok (.getfield 12, 3) := by decide +kernel
theorem dX4_endOfRun_33 : decode cX4_endOfRun 33 = .ok (.getfield 99, 3) := by decide +kernel
theorem dX4_endOfRun_36 : decode cX4_endOfRun 36 = .ok (.iload 4, 2) := by decide +kernel
theorem dX4_endOfRun_38 : decode cX4_endOfRun 38 = .ok (.iaload, 1) := by decide +kernel
theorem dX4_endOfRun_39 : decode cX4_endOfRun 39 = .ok (.iload_n 3, 1) := by decide +kernel
theorem dX4_endOfRun_40 : decode cX4_endOfRun 40 = .ok (.if_icmp .gt 9, 3) := by decide +kernel
theorem dX4_endOfRun_43 : decode cX4_endOfRun 43 = .ok (.iinc 4 1, 3) := by decide +kernel
theorem dX4_endOfRun_46 : decode cX4_endOfRun 46 = .ok (.goto (-43), 3) := by decide +kernel
theorem dX4_endOfRun_49 : decode cX4_endOfRun 49 = .ok (.iload 4, 2) := by decide +kernel
theorem dX4_endOfRun_51 : decode cX4_endOfRun 51 = .ok (.ireturn, 1) := by decide +kernel
theorem dX5_init_0 : decode cX5_init 0 = .ok (.aload_n 0, 1) := by decide +kernel
theorem dX5_init_1 : decode cX5_init 1 = .ok (.invokespecial 3, 3) := by decide +kernel
theorem dX5_init_4 : decode cX5_init 4 = .ok (.aload_n 0, 1) := by decide +kernel
theorem dX5_init_5 : decode cX5_init 5 = .ok (.sipush 150, 3) := by decide +kernel
theorem dX5_init_8 : decode cX5_init 8 = .ok (.newarray .int, 2) := by decide +kernel
theorem dX5_init_10 : decode cX5_init 10 = .ok (.putfield 9, 3) := by decide +kernel
theorem dX5_init_13 : decode cX5_init 13 = .ok (.aload_n 0, 1) := by decide +kernel
theorem dX5_init_14 : decode cX5_init 14 = .ok (.iconst 0, 1) := by decide +kernel
theorem dX5_init_15 : decode cX5_init 15 = .ok (.putfield 15, 3) := by decide +kernel
theorem dX5_init_18 : decode cX5_init 18 = .ok (.return_, 1) := by decide +kernel
theorem dX5_add_0 : decode cX5_add 0 = .ok (.aload_n 0, 1) := by decide +kernel
theorem dX5_add_1 : decode cX5_add 1 = .ok (.getfield 15, 3) := by decide +kernel
theorem dX5_add_4 : decode cX5_add 4 = .ok (.sipush 150, 3) := by decide +kernel
theorem dX5_add_7 : decode cX5_add 7 = .ok (.if_icmp .lt 5, 3) := by decide +kernel
theorem dX5_add_10 : decode cX5_add 10 = .ok (.iconst 0, 1) := by decide +kernel
theorem dX5_add_11 : decode cX5_add 11 = .ok (.ireturn, 1) := by decide +kernel
theorem dX5_add_12 : decode cX5_add 12 = .ok (.aload_n 0, 1) := by decide +kernel
theorem dX5_add_13 : decode cX5_add 13 = .ok (.getfield 9, 3) := by decide +kernel
theorem dX5_add_16 : decode cX5_add 16 = .ok (.aload_n 0, 1) := by decide +kernel
theorem dX5_add_17 : decode cX5_add 17 = .ok (.getfield 15, 3) := by decide +kernel
theorem dX5_add_20 : decode cX5_add 20 = .ok (.iload_n 1, 1) := by decide +kernel
theorem dX5_add_21 : decode cX5_add 21 = .ok (.iastore, 1) := by decide +kernel
theorem dX5_add_22 : decode cX5_add 22 = .ok (.aload_n 0, 1) := by decide +kernel
theorem dX5_add_23 : decode cX5_add 23 = .ok (.dup, 1) := by decide +kernel
theorem dX5_add_24 : decode cX5_add 24 = .ok (.getfield 15, 3) := by decide +kernel
theorem dX5_add_27 : decode cX5_add 27 = .ok (.iconst 1, 1) := by decide +kernel
theorem dX5_add_28 : decode cX5_add 28 = .ok (.iadd, 1) := by decide +kernel
theorem dX5_add_29 : decode cX5_add 29 = .ok (.putfield 15, 3) := by decide +kernel
theorem dX5_add_32 : decode cX5_add 32 = .ok (.iconst 1, 1) := by decide +kernel
theorem dX5_add_33 : decode cX5_add 33 = .ok (.ireturn, 1) := by decide +kernel
theorem dX6_init_0 : decode cX6_init 0 = .ok (.aload_n 0, 1) := by decide +kernel
theorem dX6_init_1 : decode cX6_init 1 = .ok (.invokespecial 3, 3) := by decide +kernel
theorem dX6_init_4 : decode cX6_init 4 = .ok (.aload_n 0, 1) := by decide +kernel
theorem dX6_init_5 : decode cX6_init 5 = .ok (.iconst 5, 1) := by decide +kernel
theorem dX6_init_6 : decode cX6_init 6 = .ok (.newarray .int, 2) := by decide +kernel
theorem dX6_init_8 : decode cX6_init 8 = .ok (.putfield 9, 3) := by decide +kernel
theorem dX6_init_11 : decode cX6_init 11 = .ok (.aload_n 0, 1) := by decide +kernel
theorem dX6_init_12 : decode cX6_init 12 = .ok (.iconst 5, 1) := by decide +kernel
theorem dX6_init_13 : decode cX6_init 13 = .ok (.newarray .int, 2) := by decide +kernel
theorem dX6_init_15 : decode cX6_init 15 = .ok (.putfield 15, 3) := by decide +kernel
theorem dX6_init_18 : decode cX6_init 18 = .ok (.aload_n 0, 1) := by decide +kernel
theorem dX6_init_19 : decode cX6_init 19 = .ok (.iconst 5, 1) := by decide +kernel
theorem dX6_init_20 : decode cX6_init 20 = .ok (.newarray .int, 2) := by decide +kernel
theorem dX6_init_22 : decode cX6_init 22 = .ok (.putfield 18, 3) := by decide +kernel
theorem dX6_init_25 : decode cX6_init 25 = .ok (.aload_n 0, 1) := by decide +kernel
theorem dX6_init_26 : decode cX6_init 26 = .ok (.iconst 0, 1) := by decide +kernel
theorem dX6_init_27 : decode cX6_init 27 = .ok (.putfield 21, 3) := by decide +kernel
theorem dX6_init_30 : decode cX6_init 30 = .ok (.aload_n 0, 1) := by decide +kernel
theorem dX6_init_31 : decode cX6_init 31 = .ok (.iconst 0, 1) := by decide +kernel
theorem dX6_init_32 : decode cX6_init 32 = .ok (.putfield 25, 3) := by decide +kernel
theorem dX6_init_35 : decode cX6_init 35 = .ok (.return_, 1) := by decide +kernel
theorem dX6_begin_0 : decode cX6_begin 0 = .ok (.aload_n 0, 1) := by decide +kernel
theorem dX6_begin_1 : decode cX6_begin 1 = .ok (.iload_n 1, 1) := by decide +kernel
theorem dX6_begin_2 : decode cX6_begin 2 = .ok (.putfield 25, 3) := by decide +kernel
theorem dX6_begin_5 : decode cX6_begin 5 = .ok (.aload_n 0, 1) := by decide +kernel
theorem dX6_begin_6 : decode cX6_begin 6 = .ok (.iload_n 2, 1) := by decide +kernel
theorem dX6_begin_7 : decode cX6_begin 7 = .ok (.iconst 5, 1) := by decide +kernel
theorem dX6_begin_8 : decode cX6_begin 8 = .ok (.invokestatic 28, 3) := by decide +kernel
theorem dX6_begin_11 : decode cX6_begin 11 = .ok (.putfield 21, 3) := by decide +kernel
theorem dX6_begin_14 : decode cX6_begin 14 = .ok (.return_, 1) := by decide +kernel
theorem dX6_admit_0 : decode cX6_admit 0 = .ok (.iload_n 1, 1) := by decide +kernel
theorem dX6_admit_1 : decode cX6_admit 1 = .ok (.ifCond .lt 18, 3) := by decide +kernel
theorem dX6_admit_4 : decode cX6_admit 4 = .ok (.iload_n 1, 1) := by decide +kernel
theorem dX6_admit_5 : decode cX6_admit 5 = .ok (.aload_n 0, 1) := by decide +kernel
theorem dX6_admit_6 : decode cX6_admit 6 = .ok (.getfield 21, 3) := by decide +kernel
theorem dX6_admit_9 : decode cX6_admit 9 = .ok (.if_icmp .ge 10, 3) := by decide +kernel
theorem dX6_admit_12 : decode cX6_admit 12 = .ok (.aload_n 0, 1) := by decide +kernel
theorem dX6_admit_13 : decode cX6_admit 13 = .ok (.getfield 9, 3) := by decide +kernel
theorem dX6_admit_16 : decode cX6_admit 16 = .ok (.iload_n 1, 1) := by decide +kernel
theorem dX6_admit_17 : decode cX6_admit 17 = .ok (.iload_n 2, 1) := by decide +kernel
theorem dX6_admit_18 : decode cX6_admit 18 = .ok (.iastore, 1) := by decide +kernel
theorem dX6_admit_19 : decode cX6_admit 19 = .ok (.return_, 1) := by decide +kernel
theorem dX6_fill_0 : decode cX6_fill 0 = .ok (.iconst 0, 1) := by decide +kernel
theorem dX6_fill_1 : decode cX6_fill 1 = .ok (.istore_n 1, 1) := by decide +kernel
theorem dX6_fill_2 : decode cX6_fill 2 = .ok (.iload_n 1, 1) := by decide +kernel
theorem dX6_fill_3 : decode cX6_fill 3 = .ok (.aload_n 0, 1) := by decide +kernel
theorem dX6_fill_4 : decode cX6_fill 4 = .ok (.getfield 21, 3) := by decide +kernel
theorem dX6_fill_7 : decode cX6_fill 7 = .ok (.if_icmp .gt 44, 3) := by decide +kernel
theorem dX6_fill_10 : decode cX6_fill 10 = .ok (.iconst 0, 1) := by decide +kernel
theorem dX6_fill_11 : decode cX6_fill 11 = .ok (.istore_n 2, 1) := by decide +kernel
theorem dX6_fill_12 : decode cX6_fill 12 = .ok (.iload_n 2, 1) := by decide +kernel
theorem dX6_fill_13 : decode cX6_fill 13 = .ok (.iload_n 1, 1) := by decide +kernel
theorem dX6_fill_14 : decode cX6_fill 14 = .ok (.if_icmp .ge 19, 3) := by decide +kernel
theorem dX6_fill_17 : decode cX6_fill 17 = .ok (.aload_n 0, 1) := by decide +kernel
theorem dX6_fill_18 : decode cX6_fill 18 = .ok (.getfield 18, 3) := by decide +kernel
theorem dX6_fill_21 : decode cX6_fill 21 = .ok (.iload_n 2, 1) := by decide +kernel
theorem dX6_fill_22 : decode cX6_fill 22 = .ok (.aload_n 0, 1) := by decide +kernel
theorem dX6_fill_23 : decode cX6_fill 23 = .ok (.getfield 25, 3) := by decide +kernel
theorem dX6_fill_26 : decode cX6_fill 26 = .ok (.iastore, 1) := by decide +kernel
theorem dX6_fill_27 : decode cX6_fill 27 = .ok (.iinc 2 1, 3) := by decide +kernel
theorem dX6_fill_30 : decode cX6_fill 30 = .ok (.goto (-18), 3) := by decide +kernel
theorem dX6_fill_33 : decode cX6_fill 33 = .ok (.aload_n 0, 1) := by decide +kernel
theorem dX6_fill_34 : decode cX6_fill 34 = .ok (.iconst 0, 1) := by decide +kernel
theorem dX6_fill_35 : decode cX6_fill 35 = .ok (.iconst 0, 1) := by decide +kernel
theorem dX6_fill_36 : decode cX6_fill 36 = .ok (.iload_n 1, 1) := by decide +kernel
theorem dX6_fill_37 : decode cX6_fill 37 = .ok (.invokestatic 34, 3) := by decide +kernel
theorem dX6_fill_40 : decode cX6_fill 40 = .ok (.ifCond .eq 5, 3) := by decide +kernel
theorem dX6_fill_43 : decode cX6_fill 43 = .ok (.iload_n 1, 1) := by decide +kernel
theorem dX6_fill_44 : decode cX6_fill 44 = .ok (.ireturn, 1) := by decide +kernel
theorem dX6_fill_45 : decode cX6_fill 45 = .ok (.iinc 1 1, 3) := by decide +kernel
theorem dX6_fill_48 : decode cX6_fill 48 = .ok (.goto (-46), 3) := by decide +kernel
theorem dX6_fill_51 : decode cX6_fill 51 = .ok (.bipush (-9), 2) := by decide +kernel
theorem dX6_fill_53 : decode cX6_fill 53 = .ok (.ireturn, 1) := by decide +kernel
theorem dX6_seat_0 : decode cX6_seat 0 = .ok (.iload_n 1, 1) := by decide +kernel
theorem dX6_seat_1 : decode cX6_seat 1 = .ok (.aload_n 0, 1) := by decide +kernel
theorem dX6_seat_2 : decode cX6_seat 2 = .ok (.getfield 21, 3) := by decide +kernel
theorem dX6_seat_5 : decode cX6_seat 5 = .ok (.if_icmp .lt 5, 3) := by decide +kernel
theorem dX6_seat_8 : decode cX6_seat 8 = .ok (.iconst 1, 1) := by decide +kernel
theorem dX6_seat_9 : decode cX6_seat 9 = .ok (.ireturn, 1) := by decide +kernel
theorem dX6_seat_10 : decode cX6_seat 10 = .ok (.aload_n 0, 1) := by decide +kernel
theorem dX6_seat_11 : decode cX6_seat 11 = .ok (.getfield 9, 3) := by decide +kernel
theorem dX6_seat_14 : decode cX6_seat 14 = .ok (.iload_n 1, 1) := by decide +kernel
theorem dX6_seat_15 : decode cX6_seat 15 = .ok (.iaload, 1) := by decide +kernel
theorem dX6_seat_16 : decode cX6_seat 16 = .ok (.istore 4, 2) := by decide +kernel
theorem dX6_seat_18 : decode cX6_seat 18 = .ok (.iconst 0, 1) := by decide +kernel
theorem dX6_seat_19 : decode cX6_seat 19 = .ok (.istore 5, 2) := by decide +kernel
theorem dX6_seat_21 : decode cX6_seat 21 = .ok (.iload 5, 2) := by decide +kernel
theorem dX6_seat_23 : decode cX6_seat 23 = .ok (.iload_n 2, 1) := by decide +kernel
theorem dX6_seat_24 : decode cX6_seat 24 = .ok (.if_icmp .gt 80, 3) := by decide +kernel
theorem dX6_seat_27 : decode cX6_seat 27 = .ok (.iload 5, 2) := by decide +kernel
theorem dX6_seat_29 : decode cX6_seat 29 = .ok (.iload_n 3, 1) := by decide +kernel
theorem dX6_seat_30 : decode cX6_seat 30 = .ok (.if_icmp .ge 74, 3) := by decide +kernel
theorem dX6_seat_33 : decode cX6_seat 33 = .ok (.iload 4, 2) := by decide +kernel
theorem dX6_seat_35 : decode cX6_seat 35 = .ok (.aload_n 0, 1) := by decide +kernel
theorem dX6_seat_36 : decode cX6_seat 36 = .ok (.getfield 18, 3) := by decide +kernel
theorem dX6_seat_39 : decode cX6_seat 39 = .ok (.iload 5, 2) := by decide +kernel
theorem dX6_seat_41 : decode cX6_seat 41 = .ok (.iaload, 1) := by decide +kernel
theorem dX6_seat_42 : decode cX6_seat 42 = .ok (.if_icmp .gt 56, 3) := by decide +kernel
theorem dX6_seat_45 : decode cX6_seat 45 = .ok (.aload_n 0, 1) := by decide +kernel
theorem dX6_seat_46 : decode cX6_seat 46 = .ok (.getfield 15, 3) := by decide +kernel
theorem dX6_seat_49 : decode cX6_seat 49 = .ok (.iload_n 1, 1) := by decide +kernel
theorem dX6_seat_50 : decode cX6_seat 50 = .ok (.iload 5, 2) := by decide +kernel
theorem dX6_seat_52 : decode cX6_seat 52 = .ok (.iastore, 1) := by decide +kernel
theorem dX6_seat_53 : decode cX6_seat 53 = .ok (.aload_n 0, 1) := by decide +kernel
theorem dX6_seat_54 : decode cX6_seat 54 = .ok (.getfield 18, 3) := by decide +kernel
theorem dX6_seat_57 : decode cX6_seat 57 = .ok (.iload 5, 2) := by decide +kernel
theorem dX6_seat_59 : decode cX6_seat 59 = .ok (.dup2, 1) := by decide +kernel
theorem dX6_seat_60 : decode cX6_seat 60 = .ok (.iaload, 1) := by decide +kernel
theorem dX6_seat_61 : decode cX6_seat 61 = .ok (.iload 4, 2) := by decide +kernel
theorem dX6_seat_63 : decode cX6_seat 63 = .ok (.isub, 1) := by decide +kernel
theorem dX6_seat_64 : decode cX6_seat 64 = .ok (.iastore, 1) := by decide +kernel
theorem dX6_seat_65 : decode cX6_seat 65 = .ok (.aload_n 0, 1) := by decide +kernel
theorem dX6_seat_66 : decode cX6_seat 66 = .ok (.iload_n 1, 1) := by decide +kernel
theorem dX6_seat_67 : decode cX6_seat 67 = .ok (.iconst 1, 1) := by decide +kernel
theorem dX6_seat_68 : decode cX6_seat 68 = .ok (.iadd, 1) := by decide +kernel
theorem dX6_seat_69 : decode cX6_seat 69 = .ok (.iload_n 2, 1) := by decide +kernel
theorem dX6_seat_70 : decode cX6_seat 70 = .ok (.iload 5, 2) := by decide +kernel
theorem dX6_seat_72 : decode cX6_seat 72 = .ok (.iconst 1, 1) := by decide +kernel
theorem dX6_seat_73 : decode cX6_seat 73 = .ok (.iadd, 1) := by decide +kernel
theorem dX6_seat_74 : decode cX6_seat 74 = .ok (.invokestatic 38, 3) := by decide +kernel
theorem dX6_seat_77 : decode cX6_seat 77 = .ok (.iload_n 3, 1) := by decide +kernel
theorem dX6_seat_78 : decode cX6_seat 78 = .ok (.invokestatic 34, 3) := by decide +kernel
theorem dX6_seat_81 : decode cX6_seat 81 = .ok (.ifCond .eq 5, 3) := by decide +kernel
theorem dX6_seat_84 : decode cX6_seat 84 = .ok (.iconst 1, 1) := by decide +kernel
theorem dX6_seat_85 : decode cX6_seat 85 = .ok (.ireturn, 1) := by decide +kernel
theorem dX6_seat_86 : decode cX6_seat 86 = .ok (.aload_n 0, 1) := by decide +kernel
theorem dX6_seat_87 : decode cX6_seat 87 = .ok (.getfield 18, 3) := by decide +kernel
theorem dX6_seat_90 : decode cX6_seat 90 = .ok (.iload 5, 2) := by decide +kernel
theorem dX6_seat_92 : decode cX6_seat 92 = .ok (.dup2, 1) := by decide +kernel
theorem dX6_seat_93 : decode cX6_seat 93 = .ok (.iaload, 1) := by decide +kernel
theorem dX6_seat_94 : decode cX6_seat 94 = .ok (.iload 4, 2) := by decide +kernel
theorem dX6_seat_96 : decode cX6_seat 96 = .ok (.iadd, 1) := by decide +kernel
theorem dX6_seat_97 : decode cX6_seat 97 = .ok (.iastore, 1) := by decide +kernel
theorem dX6_seat_98 : decode cX6_seat 98 = .ok (.iinc 5 1, 3) := by decide +kernel
theorem dX6_seat_101 : decode cX6_seat 101 = .ok (.goto (-80), 3) := by decide +kernel
theorem dX6_seat_104 : decode cX6_seat 104 = .ok (.iconst 0, 1) := by decide +kernel
theorem dX6_seat_105 : decode cX6_seat 105 = .ok (.ireturn, 1) := by decide +kernel
theorem dX7_init_0 : decode cX7_init 0 = .ok (.aload_n 0, 1) := by decide +kernel
theorem dX7_init_1 : decode cX7_init 1 = .ok (.invokespecial 3, 3) := by decide +kernel
theorem dX7_init_4 : decode cX7_init 4 = .ok (.aload_n 0, 1) := by decide +kernel
theorem dX7_init_5 : decode cX7_init 5 = .ok (.iconst 2, 1) := by decide +kernel
theorem dX7_init_6 : decode cX7_init 6 = .ok (.putfield 9, 3) := by decide +kernel
theorem dX7_init_9 : decode cX7_init 9 = .ok (.aload_n 0, 1) := by decide +kernel
theorem dX7_init_10 : decode cX7_init 10 = .ok (.iconst 0, 1) := by decide +kernel
theorem dX7_init_11 : decode cX7_init 11 = .ok (.putfield 15, 3) := by decide +kernel
theorem dX7_init_14 : decode cX7_init 14 = .ok (.aload_n 0, 1) := by decide +kernel
theorem dX7_init_15 : decode cX7_init 15 = .ok (.bipush 8, 2) := by decide +kernel
theorem dX7_init_17 : decode cX7_init 17 = .ok (.newarray .int, 2) := by decide +kernel
theorem dX7_init_19 : decode cX7_init 19 = .ok (.putfield 18, 3) := by decide +kernel
theorem dX7_init_22 : decode cX7_init 22 = .ok (.aload_n 0, 1) := by decide +kernel
theorem dX7_init_23 : decode cX7_init 23 = .ok (.bipush 8, 2) := by decide +kernel
theorem dX7_init_25 : decode cX7_init 25 = .ok (.newarray .int, 2) := by decide +kernel
theorem dX7_init_27 : decode cX7_init 27 = .ok (.putfield 22, 3) := by decide +kernel
theorem dX7_init_30 : decode cX7_init 30 = .ok (.aload_n 0, 1) := by decide +kernel
theorem dX7_init_31 : decode cX7_init 31 = .ok (.bipush 8, 2) := by decide +kernel
theorem dX7_init_33 : decode cX7_init 33 = .ok (.newarray .int, 2) := by decide +kernel
theorem dX7_init_35 : decode cX7_init 35 = .ok (.putfield 25, 3) := by decide +kernel
theorem dX7_init_38 : decode cX7_init 38 = .ok (.aload_n 0, 1) := by decide +kernel
theorem dX7_init_39 : decode cX7_init 39 = .ok (.iconst 0, 1) := by decide +kernel
theorem dX7_init_40 : decode cX7_init 40 = .ok (.putfield 28, 3) := by decide +kernel
theorem dX7_init_43 : decode cX7_init 43 = .ok (.aload_n 0, 1) := by decide +kernel
theorem dX7_init_44 : decode cX7_init 44 = .ok (.iconst 5, 1) := by decide +kernel
theorem dX7_init_45 : decode cX7_init 45 = .ok (.newarray .int, 2) := by decide +kernel
theorem dX7_init_47 : decode cX7_init 47 = .ok (.putfield 31, 3) := by decide +kernel
theorem dX7_init_50 : decode cX7_init 50 = .ok (.aload_n 0, 1) := by decide +kernel
theorem dX7_init_51 : decode cX7_init 51 = .ok (.iconst 5, 1) := by decide +kernel
theorem dX7_init_52 : decode cX7_init 52 = .ok (.newarray .int, 2) := by decide +kernel
theorem dX7_init_54 : decode cX7_init 54 = .ok (.putfield 34, 3) := by decide +kernel
theorem dX7_init_57 : decode cX7_init 57 = .ok (.aload_n 0, 1) := by decide +kernel
theorem dX7_init_58 : decode cX7_init 58 = .ok (.iconst 4, 1) := by decide +kernel
theorem dX7_init_59 : decode cX7_init 59 = .ok (.putfield 37, 3) := by decide +kernel
theorem dX7_init_62 : decode cX7_init 62 = .ok (.aload_n 0, 1) := by decide +kernel
theorem dX7_init_63 : decode cX7_init 63 = .ok (.iconst 1, 1) := by decide +kernel
theorem dX7_init_64 : decode cX7_init 64 = .ok (.putfield 40, 3) := by decide +kernel
theorem dX7_init_67 : decode cX7_init 67 = .ok (.return_, 1) := by decide +kernel
theorem dX7_begin_0 : decode cX7_begin 0 = .ok (.aload_n 0, 1) := by decide +kernel
theorem dX7_begin_1 : decode cX7_begin 1 = .ok (.iconst 2, 1) := by decide +kernel
theorem dX7_begin_2 : decode cX7_begin 2 = .ok (.putfield 9, 3) := by decide +kernel
theorem dX7_begin_5 : decode cX7_begin 5 = .ok (.aload_n 0, 1) := by decide +kernel
theorem dX7_begin_6 : decode cX7_begin 6 = .ok (.iconst 0, 1) := by decide +kernel
theorem dX7_begin_7 : decode cX7_begin 7 = .ok (.putfield 15, 3) := by decide +kernel
theorem dX7_begin_10 : decode cX7_begin 10 = .ok (.aload_n 0, 1) := by decide +kernel
theorem dX7_begin_11 : decode cX7_begin 11 = .ok (.iconst 0, 1) := by decide +kernel
theorem dX7_begin_12 : decode cX7_begin 12 = .ok (.putfield 28, 3) := by decide +kernel
theorem dX7_begin_15 : decode cX7_begin 15 = .ok (.aload_n 0, 1) := by decide +kernel
theorem dX7_begin_16 : decode cX7_begin 16 = .ok (.iconst 4, 1) := by decide +kernel
theorem dX7_begin_17 : decode cX7_begin 17 = .ok (.putfield 37, 3) := by decide +kernel
theorem dX7_begin_20 : decode cX7_begin 20 = .ok (.aload_n 0, 1) := by decide +kernel
theorem dX7_begin_21 : decode cX7_begin 21 = .ok (.iconst 1, 1) := by decide +kernel
theorem dX7_begin_22 : decode cX7_begin 22 = .ok (.putfield 40, 3) := by decide +kernel
theorem dX7_begin_25 : decode cX7_begin 25 = .ok (.return_, 1) := by decide +kernel
theorem dX7_addLane_0 : decode cX7_addLane 0 = .ok (.aload_n 0, 1) := by decide +kernel
theorem dX7_addLane_1 : decode cX7_addLane 1 = .ok (.getfield 15, 3) := by decide +kernel
theorem dX7_addLane_4 : decode cX7_addLane 4 = .ok (.bipush 8, 2) := by decide +kernel
theorem dX7_addLane_6 : decode cX7_addLane 6 = .ok (.if_icmp .lt 5, 3) := by decide +kernel
theorem dX7_addLane_9 : decode cX7_addLane 9 = .ok (.iconst 0, 1) := by decide +kernel
theorem dX7_addLane_10 : decode cX7_addLane 10 = .ok (.ireturn, 1) := by decide +kernel
theorem dX7_addLane_11 : decode cX7_addLane 11 = .ok (.aload_n 0, 1) := by decide +kernel
theorem dX7_addLane_12 : decode cX7_addLane 12 = .ok (.getfield 18, 3) := by decide +kernel
theorem dX7_addLane_15 : decode cX7_addLane 15 = .ok (.aload_n 0, 1) := by decide +kernel
theorem dX7_addLane_16 : decode cX7_addLane 16 = .ok (.getfield 15, 3) := by decide +kernel
theorem dX7_addLane_19 : decode cX7_addLane 19 = .ok (.iload_n 1, 1) := by decide +kernel
theorem dX7_addLane_20 : decode cX7_addLane 20 = .ok (.iastore, 1) := by decide +kernel
theorem dX7_addLane_21 : decode cX7_addLane 21 = .ok (.aload_n 0, 1) := by decide +kernel
theorem dX7_addLane_22 : decode cX7_addLane 22 = .ok (.getfield 22, 3) := by decide +kernel
theorem dX7_addLane_25 : decode cX7_addLane 25 = .ok (.aload_n 0, 1) := by decide +kernel
theorem dX7_addLane_26 : decode cX7_addLane 26 = .ok (.getfield 15, 3) := by decide +kernel
theorem dX7_addLane_29 : decode cX7_addLane 29 = .ok (.iload_n 2, 1) := by decide +kernel
theorem dX7_addLane_30 : decode cX7_addLane 30 = .ok (.iastore, 1) := by decide +kernel
theorem dX7_addLane_31 : decode cX7_addLane 31 = .ok (.aload_n 0, 1) := by decide +kernel
theorem dX7_addLane_32 : decode cX7_addLane 32 = .ok (.getfield 25, 3) := by decide +kernel
theorem dX7_addLane_35 : decode cX7_addLane 35 = .ok (.aload_n 0, 1) := by decide +kernel
theorem dX7_addLane_36 : decode cX7_addLane 36 = .ok (.getfield 15, 3) := by decide +kernel
theorem dX7_addLane_39 : decode cX7_addLane 39 = .ok (.iload_n 3, 1) := by decide +kernel
theorem dX7_addLane_40 : decode cX7_addLane 40 = .ok (.iastore, 1) := by decide +kernel
theorem dX7_addLane_41 : decode cX7_addLane 41 = .ok (.aload_n 0, 1) := by decide +kernel
theorem dX7_addLane_42 : decode cX7_addLane 42 = .ok (.dup, 1) := by decide +kernel
theorem dX7_addLane_43 : decode cX7_addLane 43 = .ok (.getfield 15, 3) := by decide +kernel
theorem dX7_addLane_46 : decode cX7_addLane 46 = .ok (.iconst 1, 1) := by decide +kernel
theorem dX7_addLane_47 : decode cX7_addLane 47 = .ok (.iadd, 1) := by decide +kernel
theorem dX7_addLane_48 : decode cX7_addLane 48 = .ok (.putfield 15, 3) := by decide +kernel
theorem dX7_addLane_51 : decode cX7_addLane 51 = .ok (.iconst 1, 1) := by decide +kernel
theorem dX7_addLane_52 : decode cX7_addLane 52 = .ok (.ireturn, 1) := by decide +kernel
theorem dX7_addPerson_0 : decode cX7_addPerson 0 = .ok (.aload_n 0, 1) := by decide +kernel
theorem dX7_addPerson_1 : decode cX7_addPerson 1 = .ok (.getfield 28, 3) := by decide +kernel
theorem dX7_addPerson_4 : decode cX7_addPerson 4 = .ok (.iconst 5, 1) := by decide +kernel
theorem dX7_addPerson_5 : decode cX7_addPerson 5 = .ok (.if_icmp .lt 5, 3) := by decide +kernel
theorem dX7_addPerson_8 : decode cX7_addPerson 8 = .ok (.iconst 0, 1) := by decide +kernel
theorem dX7_addPerson_9 : decode cX7_addPerson 9 = .ok (.ireturn, 1) := by decide +kernel
theorem dX7_addPerson_10 : decode cX7_addPerson 10 = .ok (.aload_n 0, 1) := by decide +kernel
theorem dX7_addPerson_11 : decode cX7_addPerson 11 = .ok (.getfield 31, 3) := by decide +kernel
theorem dX7_addPerson_14 : decode cX7_addPerson 14 = .ok (.aload_n 0, 1) := by decide +kernel
theorem dX7_addPerson_15 : decode cX7_addPerson 15 = .ok (.getfield 28, 3) := by decide +kernel
theorem dX7_addPerson_18 : decode cX7_addPerson 18 = .ok (.iload_n 1, 1) := by decide +kernel
theorem dX7_addPerson_19 : decode cX7_addPerson 19 = .ok (.iastore, 1) := by decide +kernel
theorem dX7_addPerson_20 : decode cX7_addPerson 20 = .ok (.aload_n 0, 1) := by decide +kernel
theorem dX7_addPerson_21 : decode cX7_addPerson 21 = .ok (.getfield 34, 3) := by decide +kernel
theorem dX7_addPerson_24 : decode cX7_addPerson 24 = .ok (.aload_n 0, 1) := by decide +kernel
theorem dX7_addPerson_25 : decode cX7_addPerson 25 = .ok (.getfield 28, 3) := by decide +kernel
theorem dX7_addPerson_28 : decode cX7_addPerson 28 = .ok (.iload_n 2, 1) := by decide +kernel
theorem dX7_addPerson_29 : decode cX7_addPerson 29 = .ok (.iastore, 1) := by decide +kernel
theorem dX7_addPerson_30 : decode cX7_addPerson 30 = .ok (.aload_n 0, 1) := by decide +kernel
theorem dX7_addPerson_31 : decode cX7_addPerson 31 = .ok (.dup, 1) := by decide +kernel
theorem dX7_addPerson_32 : decode cX7_addPerson 32 = .ok (.getfield 28, 3) := by decide +kernel
theorem dX7_addPerson_35 : decode cX7_addPerson 35 = .ok (.iconst 1, 1) := by decide +kernel
theorem dX7_addPerson_36 : decode cX7_addPerson 36 = .ok (.iadd, 1) := by decide +kernel
theorem dX7_addPerson_37 : decode cX7_addPerson 37 = .ok (.putfield 28, 3) := by decide +kernel
theorem dX7_addPerson_40 : decode cX7_addPerson 40 = .ok (.iconst 1, 1) := by decide +kernel
theorem dX7_addPerson_41 : decode cX7_addPerson 41 = .ok (.ireturn, 1) := by decide +kernel
theorem dX7_ends_0 : decode cX7_ends 0 = .ok (.iconst 1, 1) := by decide +kernel
theorem dX7_ends_1 : decode cX7_ends 1 = .ok (.aload_n 0, 1) := by decide +kernel
theorem dX7_ends_2 : decode cX7_ends 2 = .ok (.getfield 18, 3) := by decide +kernel
theorem dX7_ends_5 : decode cX7_ends 5 = .ok (.iload_n 1, 1) := by decide +kernel
theorem dX7_ends_6 : decode cX7_ends 6 = .ok (.iaload, 1) := by decide +kernel
theorem dX7_ends_7 : decode cX7_ends 7 = .ok (.ishl, 1) := by decide +kernel
theorem dX7_ends_8 : decode cX7_ends 8 = .ok (.iconst 1, 1) := by decide +kernel
theorem dX7_ends_9 : decode cX7_ends 9 = .ok (.aload_n 0, 1) := by decide +kernel
theorem dX7_ends_10 : decode cX7_ends 10 = .ok (.getfield 22, 3) := by decide +kernel
theorem dX7_ends_13 : decode cX7_ends 13 = .ok (.iload_n 1, 1) := by decide +kernel
theorem dX7_ends_14 : decode cX7_ends 14 = .ok (.iaload, 1) := by decide +kernel
theorem dX7_ends_15 : decode cX7_ends 15 = .ok (.ishl, 1) := by decide +kernel
theorem dX7_ends_16 : decode cX7_ends 16 = .ok (.ior, 1) := by decide +kernel
theorem dX7_ends_17 : decode cX7_ends 17 = .ok (.ireturn, 1) := by decide +kernel
theorem dX7_joined_0 : decode cX7_joined 0 = .ok (.iconst 1, 1) := by decide +kernel
theorem dX7_joined_1 : decode cX7_joined 1 = .ok (.iload_n 2, 1) := by decide +kernel
theorem dX7_joined_2 : decode cX7_joined 2 = .ok (.ishl, 1) := by decide +kernel
theorem dX7_joined_3 : decode cX7_joined 3 = .ok (.istore_n 3, 1) := by decide +kernel
theorem dX7_joined_4 : decode cX7_joined 4 = .ok (.iconst 1, 1) := by decide +kernel
theorem dX7_joined_5 : decode cX7_joined 5 = .ok (.istore 4, 2) := by decide +kernel
theorem dX7_joined_7 : decode cX7_joined 7 = .ok (.iload 4, 2) := by decide +kernel
theorem dX7_joined_9 : decode cX7_joined 9 = .ok (.aload_n 0, 1) := by decide +kernel
theorem dX7_joined_10 : decode cX7_joined 10 = .ok (.getfield 9, 3) := by decide +kernel
theorem dX7_joined_13 : decode cX7_joined 13 = .ok (.if_icmp .ge 67, 3) := by decide +kernel
theorem dX7_joined_16 : decode cX7_joined 16 = .ok (.iload_n 3, 1) := by decide +kernel
theorem dX7_joined_17 : decode cX7_joined 17 = .ok (.istore 5, 2) := by decide +kernel
theorem dX7_joined_19 : decode cX7_joined 19 = .ok (.iconst 0, 1) := by decide +kernel
theorem dX7_joined_20 : decode cX7_joined 20 = .ok (.istore 6, 2) := by decide +kernel
theorem dX7_joined_22 : decode cX7_joined 22 = .ok (.iload 6, 2) := by decide +kernel
theorem dX7_joined_24 : decode cX7_joined 24 = .ok (.aload_n 0, 1) := by decide +kernel
theorem dX7_joined_25 : decode cX7_joined 25 = .ok (.getfield 15, 3) := by decide +kernel
theorem dX7_joined_28 : decode cX7_joined 28 = .ok (.if_icmp .ge 38, 3) := by decide +kernel
theorem dX7_joined_31 : decode cX7_joined 31 = .ok (.iload_n 1, 1) := by decide +kernel
theorem dX7_joined_32 : decode cX7_joined 32 = .ok (.iload 6, 2) := by decide +kernel
theorem dX7_joined_34 : decode cX7_joined 34 = .ok (.ishr, 1) := by decide +kernel
theorem dX7_joined_35 : decode cX7_joined 35 = .ok (.iconst 1, 1) := by decide +kernel
theorem dX7_joined_36 : decode cX7_joined 36 = .ok (.iand, 1) := by decide +kernel
theorem dX7_joined_37 : decode cX7_joined 37 = .ok (.ifCond .eq 23, 3) := by decide +kernel
theorem dX7_joined_40 : decode cX7_joined 40 = .ok (.iload_n 3, 1) := by decide +kernel
theorem dX7_joined_41 : decode cX7_joined 41 = .ok (.aload_n 0, 1) := by decide +kernel
theorem dX7_joined_42 : decode cX7_joined 42 = .ok (.iload 6, 2) := by decide +kernel
theorem dX7_joined_44 : decode cX7_joined 44 = .ok (.invokevirtual 43, 3) := by decide +kernel
theorem dX7_joined_47 : decode cX7_joined 47 = .ok (.iand, 1) := by decide +kernel
theorem dX7_joined_48 : decode cX7_joined 48 = .ok (.ifCond .eq 12, 3) := by decide +kernel
theorem dX7_joined_51 : decode cX7_joined 51 = .ok (.iload_n 3, 1) := by decide +kernel
theorem dX7_joined_52 : decode cX7_joined 52 = .ok (.aload_n 0, 1) := by decide +kernel
theorem dX7_joined_53 : decode cX7_joined 53 = .ok (.iload 6, 2) := by decide +kernel
theorem dX7_joined_55 : decode cX7_joined 55 = .ok (.invokevirtual 43, 3) := by decide +kernel
theorem dX7_joined_58 : decode cX7_joined 58 = .ok (.ior, 1) := by decide +kernel
theorem dX7_joined_59 : decode cX7_joined 59 = .ok (.istore_n 3, 1) := by decide +kernel
theorem dX7_joined_60 : decode cX7_joined 60 = .ok (.iinc 6 1, 3) := by decide +kernel
theorem dX7_joined_63 : decode cX7_joined 63 = .ok (.goto (-41), 3) := by decide +kernel
theorem dX7_joined_66 : decode cX7_joined 66 = .ok (.iload_n 3, 1) := by decide +kernel
theorem dX7_joined_67 : decode cX7_joined 67 = .ok (.iload 5, 2) := by decide +kernel
theorem dX7_joined_69 : decode cX7_joined 69 = .ok (.if_icmp .ne 5, 3) := by decide +kernel
theorem dX7_joined_72 : decode cX7_joined 72 = .ok (.iload_n 3, 1) := by decide +kernel
theorem dX7_joined_73 : decode cX7_joined 73 = .ok (.ireturn, 1) := by decide +kernel
theorem dX7_joined_74 : decode cX7_joined 74 = .ok (.iinc 4 1, 3) := by decide +kernel
theorem dX7_joined_77 : decode cX7_joined 77 = .ok (.goto (-70), 3) := by decide +kernel
theorem dX7_joined_80 : decode cX7_joined 80 = .ok (.iload_n 3, 1) := by decide +kernel
theorem dX7_joined_81 : decode cX7_joined 81 = .ok (.ireturn, 1) := by decide +kernel
theorem dX7_joins_0 : decode cX7_joins 0 = .ok (.aload_n 0, 1) := by decide +kernel
theorem dX7_joins_1 : decode cX7_joins 1 = .ok (.iload_n 1, 1) := by decide +kernel
theorem dX7_joins_2 : decode cX7_joins 2 = .ok (.iload_n 2, 1) := by decide +kernel
theorem dX7_joins_3 : decode cX7_joins 3 = .ok (.invokevirtual 47, 3) := by decide +kernel
theorem dX7_joins_6 : decode cX7_joins 6 = .ok (.iload_n 3, 1) := by decide +kernel
theorem dX7_joins_7 : decode cX7_joins 7 = .ok (.ishr, 1) := by decide +kernel
theorem dX7_joins_8 : decode cX7_joins 8 = .ok (.iconst 1, 1) := by decide +kernel
theorem dX7_joins_9 : decode cX7_joins 9 = .ok (.iand, 1) := by decide +kernel
theorem dX7_joins_10 : decode cX7_joins 10 = .ok (.ifCond .eq 7, 3) := by decide +kernel
theorem dX7_joins_13 : decode cX7_joins 13 = .ok (.iconst 1, 1) := by decide +kernel
theorem dX7_joins_14 : decode cX7_joins 14 = .ok (.goto 4, 3) := by decide +kernel
theorem dX7_joins_17 : decode cX7_joins 17 = .ok (.iconst 0, 1) := by decide +kernel
theorem dX7_joins_18 : decode cX7_joins 18 = .ok (.ireturn, 1) := by decide +kernel
theorem dX8_init_0 : decode cX8_init 0 = .ok (.aload_n 0, 1) := by decide +kernel
theorem dX8_init_1 : decode cX8_init 1 = .ok (.invokespecial 1, 3) := by decide +kernel
theorem dX8_init_4 : decode cX8_init 4 = .ok (.aload_n 0, 1) := by decide +kernel
theorem dX8_init_5 : decode cX8_init 5 = .ok (.new 7, 3) := by decide +kernel
theorem dX8_init_8 : decode cX8_init 8 = .ok (.dup, 1) := by decide +kernel
theorem dX8_init_9 : decode cX8_init 9 = .ok (.invokespecial 9, 3) := by decide +kernel
theorem dX8_init_12 : decode cX8_init 12 = .ok (.putfield 10, 3) := by decide +kernel
theorem dX8_init_15 : decode cX8_init 15 = .ok (.aload_n 0, 1) := by decide +kernel
theorem dX8_init_16 : decode cX8_init 16 = .ok (.new 16, 3) := by decide +kernel
theorem dX8_init_19 : decode cX8_init 19 = .ok (.dup, 1) := by decide +kernel
theorem dX8_init_20 : decode cX8_init 20 = .ok (.invokespecial 18, 3) := by decide +kernel
theorem dX8_init_23 : decode cX8_init 23 = .ok (.putfield 19, 3) := by decide +kernel
theorem dX8_init_26 : decode cX8_init 26 = .ok (.aload_n 0, 1) := by decide +kernel
theorem dX8_init_27 : decode cX8_init 27 = .ok (.new 16, 3) := by decide +kernel
theorem dX8_init_30 : decode cX8_init 30 = .ok (.dup, 1) := by decide +kernel
theorem dX8_init_31 : decode cX8_init 31 = .ok (.invokespecial 18, 3) := by decide +kernel
theorem dX8_init_34 : decode cX8_init 34 = .ok (.putfield 23, 3) := by decide +kernel
theorem dX8_init_37 : decode cX8_init 37 = .ok (.aload_n 0, 1) := by decide +kernel
theorem dX8_init_38 : decode cX8_init 38 = .ok (.new 26, 3) := by decide +kernel
theorem dX8_init_41 : decode cX8_init 41 = .ok (.dup, 1) := by decide +kernel
theorem dX8_init_42 : decode cX8_init 42 = .ok (.invokespecial 28, 3) := by decide +kernel
theorem dX8_init_45 : decode cX8_init 45 = .ok (.putfield 29, 3) := by decide +kernel
theorem dX8_init_48 : decode cX8_init 48 = .ok (.aload_n 0, 1) := by decide +kernel
theorem dX8_init_49 : decode cX8_init 49 = .ok (.iconst 2, 1) := by decide +kernel
theorem dX8_init_50 : decode cX8_init 50 = .ok (.anewarray 26, 3) := by decide +kernel
theorem dX8_init_53 : decode cX8_init 53 = .ok (.putfield 33, 3) := by decide +kernel
theorem dX8_init_56 : decode cX8_init 56 = .ok (.aload_n 0, 1) := by decide +kernel
theorem dX8_init_57 : decode cX8_init 57 = .ok (.iconst 2, 1) := by decide +kernel
theorem dX8_init_58 : decode cX8_init 58 = .ok (.newarray .boolean, 2) := by decide +kernel
theorem dX8_init_60 : decode cX8_init 60 = .ok (.putfield 37, 3) := by decide +kernel
theorem dX8_init_63 : decode cX8_init 63 = .ok (.aload_n 0, 1) := by decide +kernel
theorem dX8_init_64 : decode cX8_init 64 = .ok (.new 41, 3) := by decide +kernel
theorem dX8_init_67 : decode cX8_init 67 = .ok (.dup, 1) := by decide +kernel
theorem dX8_init_68 : decode cX8_init 68 = .ok (.invokespecial 43, 3) := by decide +kernel
theorem dX8_init_71 : decode cX8_init 71 = .ok (.putfield 44, 3) := by decide +kernel
theorem dX8_init_74 : decode cX8_init 74 = .ok (.aload_n 0, 1) := by decide +kernel
theorem dX8_init_75 : decode cX8_init 75 = .ok (.new 48, 3) := by decide +kernel
theorem dX8_init_78 : decode cX8_init 78 = .ok (.dup, 1) := by decide +kernel
theorem dX8_init_79 : decode cX8_init 79 = .ok (.invokespecial 50, 3) := by decide +kernel
theorem dX8_init_82 : decode cX8_init 82 = .ok (.putfield 51, 3) := by decide +kernel
theorem dX8_init_85 : decode cX8_init 85 = .ok (.aload_n 0, 1) := by decide +kernel
theorem dX8_init_86 : decode cX8_init 86 = .ok (.new 55, 3) := by decide +kernel
theorem dX8_init_89 : decode cX8_init 89 = .ok (.dup, 1) := by decide +kernel
theorem dX8_init_90 : decode cX8_init 90 = .ok (.invokespecial 57, 3) := by decide +kernel
theorem dX8_init_93 : decode cX8_init 93 = .ok (.putfield 58, 3) := by decide +kernel
theorem dX8_init_96 : decode cX8_init 96 = .ok (.aload_n 0, 1) := by decide +kernel
theorem dX8_init_97 : decode cX8_init 97 = .ok (.lconst 0, 1) := by decide +kernel
theorem dX8_init_98 : decode cX8_init 98 = .ok (.putfield 62, 3) := by decide +kernel
theorem dX8_init_101 : decode cX8_init 101 = .ok (.iconst 0, 1) := by decide +kernel
theorem dX8_init_102 : decode cX8_init 102 = .ok (.istore_n 1, 1) := by decide +kernel
theorem dX8_init_103 : decode cX8_init 103 = .ok (.iload_n 1, 1) := by decide +kernel
theorem dX8_init_104 : decode cX8_init 104 = .ok (.iconst 2, 1) := by decide +kernel
theorem dX8_init_105 : decode cX8_init 105 = .ok (.if_icmp .ge 22, 3) := by decide +kernel
theorem dX8_init_108 : decode cX8_init 108 = .ok (.aload_n 0, 1) := by decide +kernel
theorem dX8_init_109 : decode cX8_init 109 = .ok (.getfield 33, 3) := by decide +kernel
theorem dX8_init_112 : decode cX8_init 112 = .ok (.iload_n 1, 1) := by decide +kernel
theorem dX8_init_113 : decode cX8_init 113 = .ok (.new 26, 3) := by decide +kernel
theorem dX8_init_116 : decode cX8_init 116 = .ok (.dup, 1) := by decide +kernel
theorem dX8_init_117 : decode cX8_init 117 = .ok (.invokespecial 28, 3) := by decide +kernel
theorem dX8_init_120 : decode cX8_init 120 = .ok (.aastore, 1) := by decide +kernel
theorem dX8_init_121 : decode cX8_init 121 = .ok (.iinc 1 1, 3) := by decide +kernel
theorem dX8_init_124 : decode cX8_init 124 = .ok (.goto (-21), 3) := by decide +kernel
theorem dX8_init_127 : decode cX8_init 127 = .ok (.return_, 1) := by decide +kernel
theorem dX8_type_0 : decode cX8_type 0 = .ok (.iload_n 1, 1) := by decide +kernel
theorem dX8_type_1 : decode cX8_type 1 = .ok (.ifCond .lt 10, 3) := by decide +kernel
theorem dX8_type_4 : decode cX8_type 4 = .ok (.iload_n 1, 1) := by decide +kernel
theorem dX8_type_5 : decode cX8_type 5 = .ok (.sipush 255, 3) := by decide +kernel
theorem dX8_type_8 : decode cX8_type 8 = .ok (.if_icmp .le 5, 3) := by decide +kernel
theorem dX8_type_11 : decode cX8_type 11 = .ok (.iconst (-1), 1) := by decide +kernel
theorem dX8_type_12 : decode cX8_type 12 = .ok (.ireturn, 1) := by decide +kernel
theorem dX8_type_13 : decode cX8_type 13 = .ok (.aload_n 0, 1) := by decide +kernel
theorem dX8_type_14 : decode cX8_type 14 = .ok (.getfield 10, 3) := by decide +kernel
theorem dX8_type_17 : decode cX8_type 17 = .ok (.getfield 66, 3) := by decide +kernel
theorem dX8_type_20 : decode cX8_type 20 = .ok (.iload_n 1, 1) := by decide +kernel
theorem dX8_type_21 : decode cX8_type 21 = .ok (.invokevirtual 70, 3) := by decide +kernel
theorem dX8_type_24 : decode cX8_type 24 = .ok (.ifCond .eq 16, 3) := by decide +kernel
theorem dX8_type_27 : decode cX8_type 27 = .ok (.aload_n 0, 1) := by decide +kernel
theorem dX8_type_28 : decode cX8_type 28 = .ok (.getfield 10, 3) := by decide +kernel
theorem dX8_type_31 : decode cX8_type 31 = .ok (.getfield 66, 3) := by decide +kernel
theorem dX8_type_34 : decode cX8_type 34 = .ok (.getfield 76, 3) := by decide +kernel
theorem dX8_type_37 : decode cX8_type 37 = .ok (.goto 5, 3) := by decide +kernel
theorem dX8_type_40 : decode cX8_type 40 = .ok (.bipush (-3), 2) := by decide +kernel
theorem dX8_type_42 : decode cX8_type 42 = .ok (.ireturn, 1) := by decide +kernel
theorem dX8_clear_0 : decode cX8_clear 0 = .ok (.aload_n 0, 1) := by decide +kernel
theorem dX8_clear_1 : decode cX8_clear 1 = .ok (.getfield 10, 3) := by decide +kernel
theorem dX8_clear_4 : decode cX8_clear 4 = .ok (.getfield 66, 3) := by decide +kernel
theorem dX8_clear_7 : decode cX8_clear 7 = .ok (.getfield 76, 3) := by decide +kernel
theorem dX8_clear_10 : decode cX8_clear 10 = .ok (.istore_n 1, 1) := by decide +kernel
theorem dX8_clear_11 : decode cX8_clear 11 = .ok (.aload_n 0, 1) := by decide +kernel
theorem dX8_clear_12 : decode cX8_clear 12 = .ok (.getfield 10, 3) := by decide +kernel
theorem dX8_clear_15 : decode cX8_clear 15 = .ok (.getfield 66, 3) := by decide +kernel
theorem dX8_clear_18 : decode cX8_clear 18 = .ok (.iconst 0, 1) := by decide +kernel
theorem dX8_clear_19 : decode cX8_clear 19 = .ok (.putfield 76, 3) := by decide +kernel
theorem dX8_clear_22 : decode cX8_clear 22 = .ok (.iload_n 1, 1) := by decide +kernel
theorem dX8_clear_23 : decode cX8_clear 23 = .ok (.ireturn, 1) := by decide +kernel
theorem dX8_capital_0 : decode cX8_capital 0 = .ok (.aload_n 0, 1) := by decide +kernel
theorem dX8_capital_1 : decode cX8_capital 1 = .ok (.getfield 10, 3) := by decide +kernel
theorem dX8_capital_4 : decode cX8_capital 4 = .ok (.aload_n 0, 1) := by decide +kernel
theorem dX8_capital_5 : decode cX8_capital 5 = .ok (.getfield 23, 3) := by decide +kernel
theorem dX8_capital_8 : decode cX8_capital 8 = .ok (.invokevirtual 80, 3) := by decide +kernel
theorem dX8_capital_11 : decode cX8_capital 11 = .ok (.istore_n 1, 1) := by decide +kernel
theorem dX8_capital_12 : decode cX8_capital 12 = .ok (.iload_n 1, 1) := by decide +kernel
theorem dX8_capital_13 : decode cX8_capital 13 = .ok (.ifCond .ge 14, 3) := by decide +kernel
theorem dX8_capital_16 : decode cX8_capital 16 = .ok (.bipush (-10), 2) := by decide +kernel
theorem dX8_capital_18 : decode cX8_capital 18 = .ok (.aload_n 0, 1) := by decide +kernel
theorem dX8_capital_19 : decode cX8_capital 19 = .ok (.getfield 10, 3) := by decide +kernel
theorem dX8_capital_22 : decode cX8_capital 22 = .ok (.getfield 84, 3) := by decide +kernel
theorem dX8_capital_25 : decode cX8_capital 25 = .ok (.isub, 1) := by decide +kernel
theorem dX8_capital_26 : decode cX8_capital 26 = .ok (.ireturn, 1) := by decide +kernel
theorem dX8_capital_27 : decode cX8_capital 27 = .ok (.aload_n 0, 1) := by decide +kernel
theorem dX8_capital_28 : decode cX8_capital 28 = .ok (.getfield 19, 3) := by decide +kernel
theorem dX8_capital_31 : decode cX8_capital 31 = .ok (.astore_n 2, 1) := by decide +kernel
theorem dX8_capital_32 : decode cX8_capital 32 = .ok (.aload_n 0, 1) := by decide +kernel
theorem dX8_capital_33 : decode cX8_capital 33 = .ok (.aload_n 0, 1) := by decide +kernel
theorem dX8_capital_34 : decode cX8_capital 34 = .ok (.getfield 23, 3) := by decide +kernel
theorem dX8_capital_37 : decode cX8_capital 37 = .ok (.putfield 19, 3) := by decide +kernel
theorem dX8_capital_40 : decode cX8_capital 40 = .ok (.aload_n 0, 1) := by decide +kernel
theorem dX8_capital_41 : decode cX8_capital 41 = .ok (.aload_n 2, 1) := by decide +kernel
theorem dX8_capital_42 : decode cX8_capital 42 = .ok (.putfield 23, 3) := by decide +kernel
theorem dX8_capital_45 : decode cX8_capital 45 = .ok (.aload_n 0, 1) := by decide +kernel
theorem dX8_capital_46 : decode cX8_capital 46 = .ok (.getfield 10, 3) := by decide +kernel
theorem dX8_capital_49 : decode cX8_capital 49 = .ok (.getfield 66, 3) := by decide +kernel
theorem dX8_capital_52 : decode cX8_capital 52 = .ok (.iconst 0, 1) := by decide +kernel
theorem dX8_capital_53 : decode cX8_capital 53 = .ok (.putfield 76, 3) := by decide +kernel
theorem dX8_capital_56 : decode cX8_capital 56 = .ok (.aload_n 0, 1) := by decide +kernel
theorem dX8_capital_57 : decode cX8_capital 57 = .ok (.getfield 29, 3) := by decide +kernel
theorem dX8_capital_60 : decode cX8_capital 60 = .ok (.aload_n 0, 1) := by decide +kernel
theorem dX8_capital_61 : decode cX8_capital 61 = .ok (.getfield 19, 3) := by decide +kernel
theorem dX8_capital_64 : decode cX8_capital 64 = .ok (.invokevirtual 87, 3) := by decide +kernel
theorem dX8_capital_67 : decode cX8_capital 67 = .ok (.aload_n 0, 1) := by decide +kernel
theorem dX8_capital_68 : decode cX8_capital 68 = .ok (.getfield 44, 3) := by decide +kernel
theorem dX8_capital_71 : decode cX8_capital 71 = .ok (.iconst 0, 1) := by decide +kernel
theorem dX8_capital_72 : decode cX8_capital 72 = .ok (.putfield 91, 3) := by decide +kernel
theorem dX8_capital_75 : decode cX8_capital 75 = .ok (.iconst 0, 1) := by decide +kernel
theorem dX8_capital_76 : decode cX8_capital 76 = .ok (.istore_n 3, 1) := by decide +kernel
theorem dX8_capital_77 : decode cX8_capital 77 = .ok (.iload_n 3, 1) := by decide +kernel
theorem dX8_capital_78 : decode cX8_capital 78 = .ok (.iconst 2, 1) := by decide +kernel
theorem dX8_capital_79 : decode cX8_capital 79 = .ok (.if_icmp .ge 16, 3) := by decide +kernel
theorem dX8_capital_82 : decode cX8_capital 82 = .ok (.aload_n 0, 1) := by decide +kernel
theorem dX8_capital_83 : decode cX8_capital 83 = .ok (.getfield 37, 3) := by decide +kernel
theorem dX8_capital_86 : decode cX8_capital 86 = .ok (.iload_n 3, 1) := by decide +kernel
theorem dX8_capital_87 : decode cX8_capital 87 = .ok (.iconst 0, 1) := by decide +kernel
theorem dX8_capital_88 : decode cX8_capital 88 = .ok (.bastore, 1) := by decide +kernel
theorem dX8_capital_89 : decode cX8_capital 89 = .ok (.iinc 3 1, 3) := by decide +kernel
theorem dX8_capital_92 : decode cX8_capital 92 = .ok (.goto (-15), 3) := by decide +kernel
theorem dX8_capital_95 : decode cX8_capital 95 = .ok (.iload_n 1, 1) := by decide +kernel
theorem dX8_capital_96 : decode cX8_capital 96 = .ok (.ireturn, 1) := by decide +kernel
theorem dX8_lane_0 : decode cX8_lane 0 = .ok (.aload_n 0, 1) := by decide +kernel
theorem dX8_lane_1 : decode cX8_lane 1 = .ok (.iload_n 1, 1) := by decide +kernel
theorem dX8_lane_2 : decode cX8_lane 2 = .ok (.invokevirtual 94, 3) := by decide +kernel
theorem dX8_lane_5 : decode cX8_lane 5 = .ok (.ifCond .eq 5, 3) := by decide +kernel
theorem dX8_lane_8 : decode cX8_lane 8 = .ok (.iconst (-1), 1) := by decide +kernel
theorem dX8_lane_9 : decode cX8_lane 9 = .ok (.ireturn, 1) := by decide +kernel
theorem dX8_lane_10 : decode cX8_lane 10 = .ok (.iload_n 2, 1) := by decide +kernel
theorem dX8_lane_11 : decode cX8_lane 11 = .ok (.tableswitch 73 0 3 #[29, 39, 49, 59], 29) := by decide +kernel
theorem dX8_lane_40 : decode cX8_lane 40 = .ok (.aload_n 0, 1) := by decide +kernel
theorem dX8_lane_41 : decode cX8_lane 41 = .ok (.getfield 19, 3) := by decide +kernel
theorem dX8_lane_44 : decode cX8_lane 44 = .ok (.getfield 97, 3) := by decide +kernel
theorem dX8_lane_47 : decode cX8_lane 47 = .ok (.iload_n 1, 1) := by decide +kernel
theorem dX8_lane_48 : decode cX8_lane 48 = .ok (.iaload, 1) := by decide +kernel
theorem dX8_lane_49 : decode cX8_lane 49 = .ok (.ireturn, 1) := by decide +kernel
theorem dX8_lane_50 : decode cX8_lane 50 = .ok (.aload_n 0, 1) := by decide +kernel
theorem dX8_lane_51 : decode cX8_lane 51 = .ok (.getfield 19, 3) := by decide +kernel
theorem dX8_lane_54 : decode cX8_lane 54 = .ok (.getfield 101, 3) := by decide +kernel
theorem dX8_lane_57 : decode cX8_lane 57 = .ok (.iload_n 1, 1) := by decide +kernel
theorem dX8_lane_58 : decode cX8_lane 58 = .ok (.iaload, 1) := by decide +kernel
theorem dX8_lane_59 : decode cX8_lane 59 = .ok (.ireturn, 1) := by decide +kernel
theorem dX8_lane_60 : decode cX8_lane 60 = .ok (.aload_n 0, 1) := by decide +kernel
theorem dX8_lane_61 : decode cX8_lane 61 = .ok (.getfield 19, 3) := by decide +kernel
theorem dX8_lane_64 : decode cX8_lane 64 = .ok (.getfield 104, 3) := by decide +kernel
theorem dX8_lane_67 : decode cX8_lane 67 = .ok (.iload_n 1, 1) := by decide +kernel
theorem dX8_lane_68 : decode cX8_lane 68 = .ok (.iaload, 1) := by decide +kernel
theorem dX8_lane_69 : decode cX8_lane 69 = .ok (.ireturn, 1) := by decide +kernel
theorem dX8_lane_70 : decode cX8_lane 70 = .ok (.aload_n 0, 1) := by decide +kernel
theorem dX8_lane_71 : decode cX8_lane 71 = .ok (.iload_n 1, 1) := by decide +kernel
theorem dX8_lane_72 : decode cX8_lane 72 = .ok (.invokevirtual 107, 3) := by decide +kernel
theorem dX8_lane_75 : decode cX8_lane 75 = .ok (.ifCond .eq 7, 3) := by decide +kernel
theorem dX8_lane_78 : decode cX8_lane 78 = .ok (.iconst 1, 1) := by decide +kernel
theorem dX8_lane_79 : decode cX8_lane 79 = .ok (.goto 4, 3) := by decide +kernel
theorem dX8_lane_82 : decode cX8_lane 82 = .ok (.iconst 0, 1) := by decide +kernel
theorem dX8_lane_83 : decode cX8_lane 83 = .ok (.ireturn, 1) := by decide +kernel
theorem dX8_lane_84 : decode cX8_lane 84 = .ok (.iconst (-1), 1) := by decide +kernel
theorem dX8_lane_85 : decode cX8_lane 85 = .ok (.ireturn, 1) := by decide +kernel
theorem dX8_person_0 : decode cX8_person 0 = .ok (.aload_n 0, 1) := by decide +kernel
theorem dX8_person_1 : decode cX8_person 1 = .ok (.iload_n 1, 1) := by decide +kernel
theorem dX8_person_2 : decode cX8_person 2 = .ok (.invokevirtual 110, 3) := by decide +kernel
theorem dX8_person_5 : decode cX8_person 5 = .ok (.ifCond .eq 5, 3) := by decide +kernel
theorem dX8_person_8 : decode cX8_person 8 = .ok (.iconst (-1), 1) := by decide +kernel
theorem dX8_person_9 : decode cX8_person 9 = .ok (.ireturn, 1) := by decide +kernel
theorem dX8_person_10 : decode cX8_person 10 = .ok (.iload_n 2, 1) := by decide +kernel
theorem dX8_person_11 : decode cX8_person 11 = .ok (.tableswitch 84 0 4 #[33, 46, 59, 65, 78], 33) := by decide +kernel
theorem dX8_person_44 : decode cX8_person 44 = .ok (.aload_n 0, 1) := by decide +kernel
theorem dX8_person_45 : decode cX8_person 45 = .ok (.getfield 29, 3) := by decide +kernel
theorem dX8_person_48 : decode cX8_person 48 = .ok (.getfield 113, 3) := by decide +kernel
theorem dX8_person_51 : decode cX8_person 51 = .ok (.getfield 117, 3) := by decide +kernel
theorem dX8_person_54 : decode cX8_person 54 = .ok (.iload_n 1, 1) := by decide +kernel
theorem dX8_person_55 : decode cX8_person 55 = .ok (.iaload, 1) := by decide +kernel
theorem dX8_person_56 : decode cX8_person 56 = .ok (.ireturn, 1) := by decide +kernel
theorem dX8_person_57 : decode cX8_person 57 = .ok (.aload_n 0, 1) := by decide +kernel
theorem dX8_person_58 : decode cX8_person 58 = .ok (.getfield 29, 3) := by decide +kernel
theorem dX8_person_61 : decode cX8_person 61 = .ok (.getfield 113, 3) := by decide +kernel
theorem dX8_person_64 : decode cX8_person 64 = .ok (.getfield 122, 3) := by decide +kernel
theorem dX8_person_67 : decode cX8_person 67 = .ok (.iload_n 1, 1) := by decide +kernel
theorem dX8_person_68 : decode cX8_person 68 = .ok (.iaload, 1) := by decide +kernel
theorem dX8_person_69 : decode cX8_person 69 = .ok (.ireturn, 1) := by decide +kernel
theorem dX8_person_70 : decode cX8_person 70 = .ok (.aload_n 0, 1) := by decide +kernel
theorem dX8_person_71 : decode cX8_person 71 = .ok (.iload_n 1, 1) := by decide +kernel
theorem dX8_person_72 : decode cX8_person 72 = .ok (.invokevirtual 125, 3) := by decide +kernel
theorem dX8_person_75 : decode cX8_person 75 = .ok (.ireturn, 1) := by decide +kernel
theorem dX8_person_76 : decode cX8_person 76 = .ok (.aload_n 0, 1) := by decide +kernel
theorem dX8_person_77 : decode cX8_person 77 = .ok (.getfield 29, 3) := by decide +kernel
theorem dX8_person_80 : decode cX8_person 80 = .ok (.getfield 113, 3) := by decide +kernel
theorem dX8_person_83 : decode cX8_person 83 = .ok (.getfield 129, 3) := by decide +kernel
theorem dX8_person_86 : decode cX8_person 86 = .ok (.iload_n 1, 1) := by decide +kernel
theorem dX8_person_87 : decode cX8_person 87 = .ok (.iaload, 1) := by decide +kernel
theorem dX8_person_88 : decode cX8_person 88 = .ok (.ireturn, 1) := by decide +kernel
theorem dX8_person_89 : decode cX8_person 89 = .ok (.aload_n 0, 1) := by decide +kernel
theorem dX8_person_90 : decode cX8_person 90 = .ok (.iload_n 1, 1) := by decide +kernel
theorem dX8_person_91 : decode cX8_person 91 = .ok (.invokevirtual 132, 3) := by decide +kernel
theorem dX8_person_94 : decode cX8_person 94 = .ok (.ireturn, 1) := by decide +kernel
theorem dX8_person_95 : decode cX8_person 95 = .ok (.iconst (-1), 1) := by decide +kernel
theorem dX8_person_96 : decode cX8_person 96 = .ok (.ireturn, 1) := by decide +kernel
theorem dX8_goes_0 : decode cX8_goes 0 = .ok (.aload_n 0, 1) := by decide +kernel
theorem dX8_goes_1 : decode cX8_goes 1 = .ok (.iload_n 1, 1) := by decide +kernel
theorem dX8_goes_2 : decode cX8_goes 2 = .ok (.invokevirtual 110, 3) := by decide +kernel
theorem dX8_goes_5 : decode cX8_goes 5 = .ok (.ifCond .ne 11, 3) := by decide +kernel
theorem dX8_goes_8 : decode cX8_goes 8 = .ok (.aload_n 0, 1) := by decide +kernel
theorem dX8_goes_9 : decode cX8_goes 9 = .ok (.iload_n 2, 1) := by decide +kernel
theorem dX8_goes_10 : decode cX8_goes 10 = .ok (.invokevirtual 94, 3) := by decide +kernel
theorem dX8_goes_13 : decode cX8_goes 13 = .ok (.ifCond .eq 5, 3) := by decide +kernel
theorem dX8_goes_16 : decode cX8_goes 16 = .ok (.iconst (-1), 1) := by decide +kernel
theorem dX8_goes_17 : decode cX8_goes 17 = .ok (.ireturn, 1) := by decide +kernel
theorem dX8_goes_18 : decode cX8_goes 18 = .ok (.aload_n 0, 1) := by decide +kernel
theorem dX8_goes_19 : decode cX8_goes 19 = .ok (.iload_n 1, 1) := by decide +kernel
theorem dX8_goes_20 : decode cX8_goes 20 = .ok (.iload_n 2, 1) := by decide +kernel
theorem dX8_goes_21 : decode cX8_goes 21 = .ok (.invokevirtual 135, 3) := by decide +kernel
theorem dX8_goes_24 : decode cX8_goes 24 = .ok (.ifCond .eq 20, 3) := by decide +kernel
theorem dX8_goes_27 : decode cX8_goes 27 = .ok (.aload_n 0, 1) := by decide +kernel
theorem dX8_goes_28 : decode cX8_goes 28 = .ok (.iload_n 2, 1) := by decide +kernel
theorem dX8_goes_29 : decode cX8_goes 29 = .ok (.invokevirtual 107, 3) := by decide +kernel
theorem dX8_goes_32 : decode cX8_goes 32 = .ok (.ifCond .ne 12, 3) := by decide +kernel
theorem dX8_goes_35 : decode cX8_goes 35 = .ok (.aload_n 0, 1) := by decide +kernel
theorem dX8_goes_36 : decode cX8_goes 36 = .ok (.iload_n 2, 1) := by decide +kernel
theorem dX8_goes_37 : decode cX8_goes 37 = .ok (.iload_n 1, 1) := by decide +kernel
theorem dX8_goes_38 : decode cX8_goes 38 = .ok (.invokevirtual 139, 3) := by decide +kernel
theorem dX8_goes_41 : decode cX8_goes 41 = .ok (.ifCond .eq 6, 3) := by decide +kernel
theorem dX8_goes_44 : decode cX8_goes 44 = .ok (.bipush (-2), 2) := by decide +kernel
theorem dX8_goes_46 : decode cX8_goes 46 = .ok (.ireturn, 1) := by decide +kernel
theorem dX8_goes_47 : decode cX8_goes 47 = .ok (.aload_n 0, 1) := by decide +kernel
theorem dX8_goes_48 : decode cX8_goes 48 = .ok (.getfield 29, 3) := by decide +kernel
theorem dX8_goes_51 : decode cX8_goes 51 = .ok (.invokevirtual 142, 3) := by decide +kernel
theorem dX8_goes_54 : decode cX8_goes 54 = .ok (.aload_n 0, 1) := by decide +kernel
theorem dX8_goes_55 : decode cX8_goes 55 = .ok (.iload_n 1, 1) := by decide +kernel
theorem dX8_goes_56 : decode cX8_goes 56 = .ok (.iload_n 2, 1) := by decide +kernel
theorem dX8_goes_57 : decode cX8_goes 57 = .ok (.invokevirtual 145, 3) := by decide +kernel
theorem dX8_goes_60 : decode cX8_goes 60 = .ok (.aload_n 0, 1) := by decide +kernel
theorem dX8_goes_61 : decode cX8_goes 61 = .ok (.getfield 29, 3) := by decide +kernel
theorem dX8_goes_64 : decode cX8_goes 64 = .ok (.getfield 113, 3) := by decide +kernel
theorem dX8_goes_67 : decode cX8_goes 67 = .ok (.getfield 122, 3) := by decide +kernel
theorem dX8_goes_70 : decode cX8_goes 70 = .ok (.iload_n 1, 1) := by decide +kernel
theorem dX8_goes_71 : decode cX8_goes 71 = .ok (.iaload, 1) := by decide +kernel
theorem dX8_goes_72 : decode cX8_goes 72 = .ok (.ireturn, 1) := by decide +kernel
theorem dX8_meets_0 : decode cX8_meets 0 = .ok (.aload_n 0, 1) := by decide +kernel
theorem dX8_meets_1 : decode cX8_meets 1 = .ok (.iload_n 1, 1) := by decide +kernel
theorem dX8_meets_2 : decode cX8_meets 2 = .ok (.invokevirtual 110, 3) := by decide +kernel
theorem dX8_meets_5 : decode cX8_meets 5 = .ok (.ifCond .ne 24, 3) := by decide +kernel
theorem dX8_meets_8 : decode cX8_meets 8 = .ok (.aload_n 0, 1) := by decide +kernel
theorem dX8_meets_9 : decode cX8_meets 9 = .ok (.iload_n 2, 1) := by decide +kernel
theorem dX8_meets_10 : decode cX8_meets 10 = .ok (.invokevirtual 110, 3) := by decide +kernel
theorem dX8_meets_13 : decode cX8_meets 13 = .ok (.ifCond .ne 16, 3) := by decide +kernel
theorem dX8_meets_16 : decode cX8_meets 16 = .ok (.iload_n 1, 1) := by decide +kernel
theorem dX8_meets_17 : decode cX8_meets 17 = .ok (.iload_n 2, 1) := by decide +kernel
theorem dX8_meets_18 : decode cX8_meets 18 = .ok (.if_icmp .eq 11, 3) := by decide +kernel
theorem dX8_meets_21 : decode cX8_meets 21 = .ok (.aload_n 0, 1) := by decide +kernel
theorem dX8_meets_22 : decode cX8_meets 22 = .ok (.iload_n 3, 1) := by decide +kernel
theorem dX8_meets_23 : decode cX8_meets 23 = .ok (.invokevirtual 94, 3) := by decide +kernel
theorem dX8_meets_26 : decode cX8_meets 26 = .ok (.ifCond .eq 5, 3) := by decide +kernel
theorem dX8_meets_29 : decode cX8_meets 29 = .ok (.iconst (-1), 1) := by decide +kernel
theorem dX8_meets_30 : decode cX8_meets 30 = .ok (.ireturn, 1) := by decide +kernel
theorem dX8_meets_31 : decode cX8_meets 31 = .ok (.aload_n 0, 1) := by decide +kernel
theorem dX8_meets_32 : decode cX8_meets 32 = .ok (.iload_n 1, 1) := by decide +kernel
theorem dX8_meets_33 : decode cX8_meets 33 = .ok (.iload_n 2, 1) := by decide +kernel
theorem dX8_meets_34 : decode cX8_meets 34 = .ok (.iload_n 3, 1) := by decide +kernel
theorem dX8_meets_35 : decode cX8_meets 35 = .ok (.invokevirtual 149, 3) := by decide +kernel
theorem dX8_meets_38 : decode cX8_meets 38 = .ok (.istore 4, 2) := by decide +kernel
theorem dX8_meets_40 : decode cX8_meets 40 = .ok (.iload 4, 2) := by decide +kernel
theorem dX8_meets_42 : decode cX8_meets 42 = .ok (.iconst 3, 1) := by decide +kernel
theorem dX8_meets_43 : decode cX8_meets 43 = .ok (.if_icmp .gt 13, 3) := by decide +kernel
theorem dX8_meets_46 : decode cX8_meets 46 = .ok (.aload_n 0, 1) := by decide +kernel
theorem dX8_meets_47 : decode cX8_meets 47 = .ok (.iload_n 1, 1) := by decide +kernel
theorem dX8_meets_48 : decode cX8_meets 48 = .ok (.iload_n 2, 1) := by decide +kernel
theorem dX8_meets_49 : decode cX8_meets 49 = .ok (.iload_n 3, 1) := by decide +kernel
theorem dX8_meets_50 : decode cX8_meets 50 = .ok (.invokevirtual 153, 3) := by decide +kernel
theorem dX8_meets_53 : decode cX8_meets 53 = .ok (.ifCond .ne 6, 3) := by decide +kernel
theorem dX8_meets_56 : decode cX8_meets 56 = .ok (.bipush (-2), 2) := by decide +kernel
theorem dX8_meets_58 : decode cX8_meets 58 = .ok (.ireturn, 1) := by decide +kernel
theorem dX8_meets_59 : decode cX8_meets 59 = .ok (.aload_n 0, 1) := by decide +kernel
theorem dX8_meets_60 : decode cX8_meets 60 = .ok (.getfield 29, 3) := by decide +kernel
theorem dX8_meets_63 : decode cX8_meets 63 = .ok (.invokevirtual 142, 3) := by decide +kernel
theorem dX8_meets_66 : decode cX8_meets 66 = .ok (.iload 4, 2) := by decide +kernel
theorem dX8_meets_68 : decode cX8_meets 68 = .ok (.iconst 3, 1) := by decide +kernel
theorem dX8_meets_69 : decode cX8_meets 69 = .ok (.if_icmp .ne 17, 3) := by decide +kernel
theorem dX8_meets_72 : decode cX8_meets 72 = .ok (.aload_n 0, 1) := by decide +kernel
theorem dX8_meets_73 : decode cX8_meets 73 = .ok (.getfield 29, 3) := by decide +kernel
theorem dX8_meets_76 : decode cX8_meets 76 = .ok (.getfield 113, 3) := by decide +kernel
theorem dX8_meets_79 : decode cX8_meets 79 = .ok (.iload_n 3, 1) := by decide +kernel
theorem dX8_meets_80 : decode cX8_meets 80 = .ok (.invokevirtual 157, 3) := by decide +kernel
theorem dX8_meets_83 : decode cX8_meets 83 = .ok (.goto 37, 3) := by decide +kernel
theorem dX8_meets_86 : decode cX8_meets 86 = .ok (.aload_n 0, 1) := by decide +kernel
theorem dX8_meets_87 : decode cX8_meets 87 = .ok (.iload_n 1, 1) := by decide +kernel
theorem dX8_meets_88 : decode cX8_meets 88 = .ok (.iload_n 3, 1) := by decide +kernel
theorem dX8_meets_89 : decode cX8_meets 89 = .ok (.iload 4, 2) := by decide +kernel
theorem dX8_meets_91 : decode cX8_meets 91 = .ok (.iconst 2, 1) := by decide +kernel
theorem dX8_meets_92 : decode cX8_meets 92 = .ok (.if_icmp .eq 7, 3) := by decide +kernel
theorem dX8_meets_95 : decode cX8_meets 95 = .ok (.iconst 1, 1) := by decide +kernel
theorem dX8_meets_96 : decode cX8_meets 96 = .ok (.goto 4, 3) := by decide +kernel
theorem dX8_meets_99 : decode cX8_meets 99 = .ok (.iconst 0, 1) := by decide +kernel
theorem dX8_meets_100 : decode cX8_meets 100 = .ok (.invokevirtual 161, 3) := by decide +kernel
theorem dX8_meets_103 : decode cX8_meets 103 = .ok (.aload_n 0, 1) := by decide +kernel
theorem dX8_meets_104 : decode cX8_meets 104 = .ok (.iload_n 2, 1) := by decide +kernel
theorem dX8_meets_105 : decode cX8_meets 105 = .ok (.iload_n 3, 1) := by decide +kernel
