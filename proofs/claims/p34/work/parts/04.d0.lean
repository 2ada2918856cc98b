theorem dX0_init_0 : decode cX0_init 0 = .ok (.aload_n 0, 1) := by decide +kernel
theorem dX0_init_1 : decode cX0_init 1 = .ok (.invokespecial 3, 3) := by decide +kernel
theorem dX0_init_4 : decode cX0_init 4 = .ok (.aload_n 0, 1) := by decide +kernel
theorem dX0_init_5 : decode cX0_init 5 = .ok (.bipush 14, 2) := by decide +kernel
theorem dX0_init_7 : decode cX0_init 7 = .ok (.anewarray 9, 3) := by decide +kernel
theorem dX0_init_10 : decode cX0_init 10 = .ok (.putfield 11, 3) := by decide +kernel
theorem dX0_init_13 : decode cX0_init 13 = .ok (.iconst 0, 1) := by decide +kernel
theorem dX0_init_14 : decode cX0_init 14 = .ok (.istore_n 1, 1) := by decide +kernel
theorem dX0_init_15 : decode cX0_init 15 = .ok (.iload_n 1, 1) := by decide +kernel
theorem dX0_init_16 : decode cX0_init 16 = .ok (.bipush 14, 2) := by decide +kernel
theorem dX0_init_18 : decode cX0_init 18 = .ok (.if_icmp .ge 22, 3) := by decide +kernel
theorem dX0_init_21 : decode cX0_init 21 = .ok (.aload_n 0, 1) := by decide +kernel
theorem dX0_init_22 : decode cX0_init 22 = .ok (.getfield 11, 3) := by decide +kernel
theorem dX0_init_25 : decode cX0_init 25 = .ok (.iload_n 1, 1) := by decide +kernel
theorem dX0_init_26 : decode cX0_init 26 = .ok (.new 9, 3) := by decide +kernel
theorem dX0_init_29 : decode cX0_init 29 = .ok (.dup, 1) := by decide +kernel
theorem dX0_init_30 : decode cX0_init 30 = .ok (.invokespecial 17, 3) := by decide +kernel
theorem dX0_init_33 : decode cX0_init 33 = .ok (.aastore, 1) := by decide +kernel
theorem dX0_init_34 : decode cX0_init 34 = .ok (.iinc 1 1, 3) := by decide +kernel
theorem dX0_init_37 : decode cX0_init 37 = .ok (.goto (-22), 3) := by decide +kernel
theorem dX0_init_40 : decode cX0_init 40 = .ok (.return_, 1) := by decide +kernel
theorem dX0_remember_0 : decode cX0_remember 0 = .ok (.aload_n 0, 1) := by decide +kernel
theorem dX0_remember_1 : decode cX0_remember 1 = .ok (.getfield 11, 3) := by decide +kernel
theorem dX0_remember_4 : decode cX0_remember 4 = .ok (.aload_n 0, 1) := by decide +kernel
theorem dX0_remember_5 : decode cX0_remember 5 = .ok (.getfield 18, 3) := by decide +kernel
theorem dX0_remember_8 : decode cX0_remember 8 = .ok (.aaload, 1) := by decide +kernel
theorem dX0_remember_9 : decode cX0_remember 9 = .ok (.aload_n 1, 1) := by decide +kernel
theorem dX0_remember_10 : decode cX0_remember 10 = .ok (.invokevirtual 22, 3) := by decide +kernel
theorem dX0_remember_13 : decode cX0_remember 13 = .ok (.aload_n 0, 1) := by decide +kernel
theorem dX0_remember_14 : decode cX0_remember 14 = .ok (.aload_n 0, 1) := by decide +kernel
theorem dX0_remember_15 : decode cX0_remember 15 = .ok (.getfield 18, 3) := by decide +kernel
theorem dX0_remember_18 : decode cX0_remember 18 = .ok (.iconst 1, 1) := by decide +kernel
theorem dX0_remember_19 : decode cX0_remember 19 = .ok (.iadd, 1) := by decide +kernel
theorem dX0_remember_20 : decode cX0_remember 20 = .ok (.bipush 14, 2) := by decide +kernel
theorem dX0_remember_22 : decode cX0_remember 22 = .ok (.if_icmp .ge 12, 3) := by decide +kernel
theorem dX0_remember_25 : decode cX0_remember 25 = .ok (.aload_n 0, 1) := by decide +kernel
theorem dX0_remember_26 : decode cX0_remember 26 = .ok (.getfield 18, 3) := by decide +kernel
theorem dX0_remember_29 : decode cX0_remember 29 = .ok (.iconst 1, 1) := by decide +kernel
theorem dX0_remember_30 : decode cX0_remember 30 = .ok (.iadd, 1) := by decide +kernel
theorem dX0_remember_31 : decode cX0_remember 31 = .ok (.goto 4, 3) := by decide +kernel
theorem dX0_remember_34 : decode cX0_remember 34 = .ok (.iconst 0, 1) := by decide +kernel
theorem dX0_remember_35 : decode cX0_remember 35 = .ok (.putfield 18, 3) := by decide +kernel
theorem dX0_remember_38 : decode cX0_remember 38 = .ok (.aload_n 0, 1) := by decide +kernel
theorem dX0_remember_39 : decode cX0_remember 39 = .ok (.bipush 14, 2) := by decide +kernel
theorem dX0_remember_41 : decode cX0_remember 41 = .ok (.aload_n 0, 1) := by decide +kernel
theorem dX0_remember_42 : decode cX0_remember 42 = .ok (.getfield 26, 3) := by decide +kernel
theorem dX0_remember_45 : decode cX0_remember 45 = .ok (.iconst 1, 1) := by decide +kernel
theorem dX0_remember_46 : decode cX0_remember 46 = .ok (.iadd, 1) := by decide +kernel
theorem dX0_remember_47 : decode cX0_remember 47 = .ok (.invokestatic 29, 3) := by decide +kernel
theorem dX0_remember_50 : decode cX0_remember 50 = .ok (.putfield 26, 3) := by decide +kernel
theorem dX0_remember_53 : decode cX0_remember 53 = .ok (.return_, 1) := by decide +kernel
theorem dX0_takeBack_0 : decode cX0_takeBack 0 = .ok (.aload_n 0, 1) := by decide +kernel
theorem dX0_takeBack_1 : decode cX0_takeBack 1 = .ok (.aload_n 0, 1) := by decide +kernel
theorem dX0_takeBack_2 : decode cX0_takeBack 2 = .ok (.getfield 18, 3) := by decide +kernel
theorem dX0_takeBack_5 : decode cX0_takeBack 5 = .ok (.ifCond .le 12, 3) := by decide +kernel
theorem dX0_takeBack_8 : decode cX0_takeBack 8 = .ok (.aload_n 0, 1) := by decide +kernel
theorem dX0_takeBack_9 : decode cX0_takeBack 9 = .ok (.getfield 18, 3) := by decide +kernel
theorem dX0_takeBack_12 : decode cX0_takeBack 12 = .ok (.iconst 1, 1) := by decide +kernel
theorem dX0_takeBack_13 : decode cX0_takeBack 13 = .ok (.isub, 1) := by decide +kernel
theorem dX0_takeBack_14 : decode cX0_takeBack 14 = .ok (.goto 5, 3) := by decide +kernel
theorem dX0_takeBack_17 : decode cX0_takeBack 17 = .ok (.bipush 13, 2) := by decide +kernel
theorem dX0_takeBack_19 : decode cX0_takeBack 19 = .ok (.putfield 18, 3) := by decide +kernel
theorem dX0_takeBack_22 : decode cX0_takeBack 22 = .ok (.aload_n 0, 1) := by decide +kernel
theorem dX0_takeBack_23 : decode cX0_takeBack 23 = .ok (.dup, 1) := by decide +kernel
theorem dX0_takeBack_24 : decode cX0_takeBack 24 = .ok (.getfield 26, 3) := by decide +kernel
theorem dX0_takeBack_27 : decode cX0_takeBack 27 = .ok (.iconst 1, 1) := by decide +kernel
theorem dX0_takeBack_28 : decode cX0_takeBack 28 = .ok (.isub, 1) := by decide +kernel
theorem dX0_takeBack_29 : decode cX0_takeBack 29 = .ok (.putfield 26, 3) := by decide +kernel
theorem dX0_takeBack_32 : decode cX0_takeBack 32 = .ok (.aload_n 1, 1) := by decide +kernel
theorem dX0_takeBack_33 : decode cX0_takeBack 33 = .ok (.aload_n 0, 1) := by decide +kernel
theorem dX0_takeBack_34 : decode cX0_takeBack 34 = .ok (.getfield 11, 3) := by decide +kernel
theorem dX0_takeBack_37 : decode cX0_takeBack 37 = .ok (.aload_n 0, 1) := by decide +kernel
theorem dX0_takeBack_38 : decode cX0_takeBack 38 = .ok (.getfield 18, 3) := by decide +kernel
theorem dX0_takeBack_41 : decode cX0_takeBack 41 = .ok (.aaload, 1) := by decide +kernel
theorem dX0_takeBack_42 : decode cX0_takeBack 42 = .ok (.invokevirtual 22, 3) := by decide +kernel
theorem dX0_takeBack_45 : decode cX0_takeBack 45 = .ok (.return_, 1) := by decide +kernel
theorem dX0_forget_0 : decode cX0_forget 0 = .ok (.aload_n 0, 1) := by decide +kernel
theorem dX0_forget_1 : decode cX0_forget 1 = .ok (.iconst 0, 1) := by decide +kernel
theorem dX0_forget_2 : decode cX0_forget 2 = .ok (.putfield 26, 3) := by decide +kernel
theorem dX0_forget_5 : decode cX0_forget 5 = .ok (.return_, 1) := by decide +kernel
theorem dX1_init_0 : decode cX1_init 0 = .ok (.aload_n 0, 1) := by decide +kernel
theorem dX1_init_1 : decode cX1_init 1 = .ok (.invokespecial 3, 3) := by decide +kernel
theorem dX1_init_4 : decode cX1_init 4 = .ok (.aload_n 0, 1) := by decide +kernel
theorem dX1_init_5 : decode cX1_init 5 = .ok (.aload_n 1, 1) := by decide +kernel
theorem dX1_init_6 : decode cX1_init 6 = .ok (.putfield 9, 3) := by decide +kernel
theorem dX1_init_9 : decode cX1_init 9 = .ok (.return_, 1) := by decide +kernel
theorem dX1_begin_0 : decode cX1_begin 0 = .ok (.aload_n 0, 1) := by decide +kernel
theorem dX1_begin_1 : decode cX1_begin 1 = .ok (.sipush 900, 3) := by decide +kernel
theorem dX1_begin_4 : decode cX1_begin 4 = .ok (.aload_n 0, 1) := by decide +kernel
theorem dX1_begin_5 : decode cX1_begin 5 = .ok (.getfield 9, 3) := by decide +kernel
theorem dX1_begin_8 : decode cX1_begin 8 = .ok (.getfield 15, 3) := by decide +kernel
theorem dX1_begin_11 : decode cX1_begin 11 = .ok (.iconst 0, 1) := by decide +kernel
theorem dX1_begin_12 : decode cX1_begin 12 = .ok (.iaload, 1) := by decide +kernel
theorem dX1_begin_13 : decode cX1_begin 13 = .ok (.invokestatic 21, 3) := by decide +kernel
theorem dX1_begin_16 : decode cX1_begin 16 = .ok (.imul, 1) := by decide +kernel
theorem dX1_begin_17 : decode cX1_begin 17 = .ok (.putfield 25, 3) := by decide +kernel
theorem dX1_begin_20 : decode cX1_begin 20 = .ok (.aload_n 0, 1) := by decide +kernel
theorem dX1_begin_21 : decode cX1_begin 21 = .ok (.aload_n 0, 1) := by decide +kernel
theorem dX1_begin_22 : decode cX1_begin 22 = .ok (.getfield 9, 3) := by decide +kernel
theorem dX1_begin_25 : decode cX1_begin 25 = .ok (.invokevirtual 29, 3) := by decide +kernel
theorem dX1_begin_28 : decode cX1_begin 28 = .ok (.putfield 33, 3) := by decide +kernel
theorem dX1_begin_31 : decode cX1_begin 31 = .ok (.aload_n 0, 1) := by decide +kernel
theorem dX1_begin_32 : decode cX1_begin 32 = .ok (.aload_n 0, 1) := by decide +kernel
theorem dX1_begin_33 : decode cX1_begin 33 = .ok (.invokevirtual 35, 3) := by decide +kernel
theorem dX1_begin_36 : decode cX1_begin 36 = .ok (.putfield 38, 3) := by decide +kernel
theorem dX1_begin_39 : decode cX1_begin 39 = .ok (.aload_n 0, 1) := by decide +kernel
theorem dX1_begin_40 : decode cX1_begin 40 = .ok (.bipush (-9), 2) := by decide +kernel
theorem dX1_begin_42 : decode cX1_begin 42 = .ok (.putfield 41, 3) := by decide +kernel
theorem dX1_begin_45 : decode cX1_begin 45 = .ok (.return_, 1) := by decide +kernel
theorem dX1_turns_0 : decode cX1_turns 0 = .ok (.iconst 0, 1) := by decide +kernel
theorem dX1_turns_1 : decode cX1_turns 1 = .ok (.istore_n 2, 1) := by decide +kernel
theorem dX1_turns_2 : decode cX1_turns 2 = .ok (.iconst 0, 1) := by decide +kernel
theorem dX1_turns_3 : decode cX1_turns 3 = .ok (.istore_n 3, 1) := by decide +kernel
theorem dX1_turns_4 : decode cX1_turns 4 = .ok (.iload_n 3, 1) := by decide +kernel
theorem dX1_turns_5 : decode cX1_turns 5 = .ok (.iload_n 1, 1) := by decide +kernel
theorem dX1_turns_6 : decode cX1_turns 6 = .ok (.if_icmp .ge 16, 3) := by decide +kernel
theorem dX1_turns_9 : decode cX1_turns 9 = .ok (.iload_n 2, 1) := by decide +kernel
theorem dX1_turns_10 : decode cX1_turns 10 = .ok (.aload_n 0, 1) := by decide +kernel
theorem dX1_turns_11 : decode cX1_turns 11 = .ok (.invokevirtual 44, 3) := by decide +kernel
theorem dX1_turns_14 : decode cX1_turns 14 = .ok (.iadd, 1) := by decide +kernel
theorem dX1_turns_15 : decode cX1_turns 15 = .ok (.istore_n 2, 1) := by decide +kernel
theorem dX1_turns_16 : decode cX1_turns 16 = .ok (.iinc 3 1, 3) := by decide +kernel
theorem dX1_turns_19 : decode cX1_turns 19 = .ok (.goto (-15), 3) := by decide +kernel
theorem dX1_turns_22 : decode cX1_turns 22 = .ok (.iload_n 2, 1) := by decide +kernel
theorem dX1_turns_23 : decode cX1_turns 23 = .ok (.ireturn, 1) := by decide +kernel
theorem dX1_turn_0 : decode cX1_turn 0 = .ok (.iconst 0, 1) := by decide +kernel
theorem dX1_turn_1 : decode cX1_turn 1 = .ok (.istore_n 1, 1) := by decide +kernel
theorem dX1_turn_2 : decode cX1_turn 2 = .ok (.aload_n 0, 1) := by decide +kernel
theorem dX1_turn_3 : decode cX1_turn 3 = .ok (.getfield 9, 3) := by decide +kernel
theorem dX1_turn_6 : decode cX1_turn 6 = .ok (.getfield 47, 3) := by decide +kernel
theorem dX1_turn_9 : decode cX1_turn 9 = .ok (.ifCond .le 16, 3) := by decide +kernel
theorem dX1_turn_12 : decode cX1_turn 12 = .ok (.aload_n 0, 1) := by decide +kernel
theorem dX1_turn_13 : decode cX1_turn 13 = .ok (.aload_n 0, 1) := by decide +kernel
theorem dX1_turn_14 : decode cX1_turn 14 = .ok (.invokevirtual 50, 3) := by decide +kernel
theorem dX1_turn_17 : decode cX1_turn 17 = .ok (.invokevirtual 53, 3) := by decide +kernel
theorem dX1_turn_20 : decode cX1_turn 20 = .ok (.istore_n 1, 1) := by decide +kernel
theorem dX1_turn_21 : decode cX1_turn 21 = .ok (.aload_n 0, 1) := by decide +kernel
theorem dX1_turn_22 : decode cX1_turn 22 = .ok (.invokevirtual 56, 3) := by decide +kernel
theorem dX1_turn_25 : decode cX1_turn 25 = .ok (.aload_n 0, 1) := by decide +kernel
theorem dX1_turn_26 : decode cX1_turn 26 = .ok (.getfield 9, 3) := by decide +kernel
theorem dX1_turn_29 : decode cX1_turn 29 = .ok (.dup, 1) := by decide +kernel
theorem dX1_turn_30 : decode cX1_turn 30 = .ok (.getfield 59, 3) := by decide +kernel
theorem dX1_turn_33 : decode cX1_turn 33 = .ok (.iconst 1, 1) := by decide +kernel
theorem dX1_turn_34 : decode cX1_turn 34 = .ok (.iadd, 1) := by decide +kernel
theorem dX1_turn_35 : decode cX1_turn 35 = .ok (.putfield 59, 3) := by decide +kernel
theorem dX1_turn_38 : decode cX1_turn 38 = .ok (.iload_n 1, 1) := by decide +kernel
theorem dX1_turn_39 : decode cX1_turn 39 = .ok (.ireturn, 1) := by decide +kernel
theorem dX1_wayOfTurn_0 : decode cX1_wayOfTurn 0 = .ok (.aload_n 0, 1) := by decide +kernel
theorem dX1_wayOfTurn_1 : decode cX1_wayOfTurn 1 = .ok (.getfield 9, 3) := by decide +kernel
theorem dX1_wayOfTurn_4 : decode cX1_wayOfTurn 4 = .ok (.getfield 62, 3) := by decide +kernel
theorem dX1_wayOfTurn_7 : decode cX1_wayOfTurn 7 = .ok (.aload_n 0, 1) := by decide +kernel
theorem dX1_wayOfTurn_8 : decode cX1_wayOfTurn 8 = .ok (.getfield 25, 3) := by decide +kernel
theorem dX1_wayOfTurn_11 : decode cX1_wayOfTurn 11 = .ok (.iadd, 1) := by decide +kernel
theorem dX1_wayOfTurn_12 : decode cX1_wayOfTurn 12 = .ok (.istore_n 1, 1) := by decide +kernel
theorem dX1_wayOfTurn_13 : decode cX1_wayOfTurn 13 = .ok (.iload_n 1, 1) := by decide +kernel
theorem dX1_wayOfTurn_14 : decode cX1_wayOfTurn 14 = .ok (.i2l, 1) := by decide +kernel
theorem dX1_wayOfTurn_15 : decode cX1_wayOfTurn 15 = .ok (.aload_n 0, 1) := by decide +kernel
theorem dX1_wayOfTurn_16 : decode cX1_wayOfTurn 16 = .ok (.getfield 33, 3) := by decide +kernel
theorem dX1_wayOfTurn_19 : decode cX1_wayOfTurn 19 = .ok (.i2l, 1) := by decide +kernel
theorem dX1_wayOfTurn_20 : decode cX1_wayOfTurn 20 = .ok (.invokestatic 65, 3) := by decide +kernel
theorem dX1_wayOfTurn_23 : decode cX1_wayOfTurn 23 = .ok (.l2i, 1) := by decide +kernel
theorem dX1_wayOfTurn_24 : decode cX1_wayOfTurn 24 = .ok (.istore_n 2, 1) := by decide +kernel
theorem dX1_wayOfTurn_25 : decode cX1_wayOfTurn 25 = .ok (.aload_n 0, 1) := by decide +kernel
theorem dX1_wayOfTurn_26 : decode cX1_wayOfTurn 26 = .ok (.getfield 9, 3) := by decide +kernel
theorem dX1_wayOfTurn_29 : decode cX1_wayOfTurn 29 = .ok (.iload_n 1, 1) := by decide +kernel
theorem dX1_wayOfTurn_30 : decode cX1_wayOfTurn 30 = .ok (.iload_n 2, 1) := by decide +kernel
theorem dX1_wayOfTurn_31 : decode cX1_wayOfTurn 31 = .ok (.aload_n 0, 1) := by decide +kernel
theorem dX1_wayOfTurn_32 : decode cX1_wayOfTurn 32 = .ok (.getfield 33, 3) := by decide +kernel
theorem dX1_wayOfTurn_35 : decode cX1_wayOfTurn 35 = .ok (.imul, 1) := by decide +kernel
theorem dX1_wayOfTurn_36 : decode cX1_wayOfTurn 36 = .ok (.isub, 1) := by decide +kernel
theorem dX1_wayOfTurn_37 : decode cX1_wayOfTurn 37 = .ok (.putfield 62, 3) := by decide +kernel
theorem dX1_wayOfTurn_40 : decode cX1_wayOfTurn 40 = .ok (.iload_n 2, 1) := by decide +kernel
theorem dX1_wayOfTurn_41 : decode cX1_wayOfTurn 41 = .ok (.ireturn, 1) := by decide +kernel
theorem dX1_go_0 : decode cX1_go 0 = .ok (.iload_n 1, 1) := by decide +kernel
theorem dX1_go_1 : decode cX1_go 1 = .ok (.invokestatic 69, 3) := by decide +kernel
theorem dX1_go_4 : decode cX1_go 4 = .ok (.istore_n 2, 1) := by decide +kernel
theorem dX1_go_5 : decode cX1_go 5 = .ok (.iload_n 2, 1) := by decide +kernel
theorem dX1_go_6 : decode cX1_go 6 = .ok (.aload_n 0, 1) := by decide +kernel
theorem dX1_go_7 : decode cX1_go 7 = .ok (.getfield 38, 3) := by decide +kernel
theorem dX1_go_10 : decode cX1_go 10 = .ok (.if_icmp .ge 34, 3) := by decide +kernel
theorem dX1_go_13 : decode cX1_go 13 = .ok (.aload_n 0, 1) := by decide +kernel
theorem dX1_go_14 : decode cX1_go 14 = .ok (.dup, 1) := by decide +kernel
theorem dX1_go_15 : decode cX1_go 15 = .ok (.getfield 38, 3) := by decide +kernel
theorem dX1_go_18 : decode cX1_go 18 = .ok (.iload_n 2, 1) := by decide +kernel
theorem dX1_go_19 : decode cX1_go 19 = .ok (.isub, 1) := by decide +kernel
theorem dX1_go_20 : decode cX1_go 20 = .ok (.putfield 38, 3) := by decide +kernel
theorem dX1_go_23 : decode cX1_go 23 = .ok (.aload_n 0, 1) := by decide +kernel
theorem dX1_go_24 : decode cX1_go 24 = .ok (.getfield 9, 3) := by decide +kernel
theorem dX1_go_27 : decode cX1_go 27 = .ok (.aload_n 0, 1) := by decide +kernel
theorem dX1_go_28 : decode cX1_go 28 = .ok (.getfield 9, 3) := by decide +kernel
theorem dX1_go_31 : decode cX1_go 31 = .ok (.getfield 74, 3) := by decide +kernel
theorem dX1_go_34 : decode cX1_go 34 = .ok (.iload_n 1, 1) := by decide +kernel
theorem dX1_go_35 : decode cX1_go 35 = .ok (.iadd, 1) := by decide +kernel
theorem dX1_go_36 : decode cX1_go 36 = .ok (.invokestatic 77, 3) := by decide +kernel
theorem dX1_go_39 : decode cX1_go 39 = .ok (.putfield 74, 3) := by decide +kernel
theorem dX1_go_42 : decode cX1_go 42 = .ok (.iconst 0, 1) := by decide +kernel
theorem dX1_go_43 : decode cX1_go 43 = .ok (.ireturn, 1) := by decide +kernel
theorem dX1_go_44 : decode cX1_go 44 = .ok (.iconst 0, 1) := by decide +kernel
theorem dX1_go_45 : decode cX1_go 45 = .ok (.istore_n 3, 1) := by decide +kernel
theorem dX1_go_46 : decode cX1_go 46 = .ok (.iconst 0, 1) := by decide +kernel
theorem dX1_go_47 : decode cX1_go 47 = .ok (.istore 4, 2) := by decide +kernel
theorem dX1_go_49 : decode cX1_go 49 = .ok (.iload 4, 2) := by decide +kernel
theorem dX1_go_51 : decode cX1_go 51 = .ok (.iload_n 2, 1) := by decide +kernel
theorem dX1_go_52 : decode cX1_go 52 = .ok (.if_icmp .ge 124, 3) := by decide +kernel
theorem dX1_go_55 : decode cX1_go 55 = .ok (.aload_n 0, 1) := by decide +kernel
theorem dX1_go_56 : decode cX1_go 56 = .ok (.getfield 9, 3) := by decide +kernel
theorem dX1_go_59 : decode cX1_go 59 = .ok (.aload_n 0, 1) := by decide +kernel
theorem dX1_go_60 : decode cX1_go 60 = .ok (.getfield 9, 3) := by decide +kernel
theorem dX1_go_63 : decode cX1_go 63 = .ok (.getfield 74, 3) := by decide +kernel
theorem dX1_go_66 : decode cX1_go 66 = .ok (.iload_n 1, 1) := by decide +kernel
theorem dX1_go_67 : decode cX1_go 67 = .ok (.ifCond .ge 7, 3) := by decide +kernel
theorem dX1_go_70 : decode cX1_go 70 = .ok (.iconst (-1), 1) := by decide +kernel
theorem dX1_go_71 : decode cX1_go 71 = .ok (.goto 4, 3) := by decide +kernel
theorem dX1_go_74 : decode cX1_go 74 = .ok (.iconst 1, 1) := by decide +kernel
theorem dX1_go_75 : decode cX1_go 75 = .ok (.iadd, 1) := by decide +kernel
theorem dX1_go_76 : decode cX1_go 76 = .ok (.invokestatic 77, 3) := by decide +kernel
theorem dX1_go_79 : decode cX1_go 79 = .ok (.putfield 74, 3) := by decide +kernel
theorem dX1_go_82 : decode cX1_go 82 = .ok (.aload_n 0, 1) := by decide +kernel
theorem dX1_go_83 : decode cX1_go 83 = .ok (.getfield 9, 3) := by decide +kernel
theorem dX1_go_86 : decode cX1_go 86 = .ok (.aload_n 0, 1) := by decide +kernel
theorem dX1_go_87 : decode cX1_go 87 = .ok (.getfield 9, 3) := by decide +kernel
theorem dX1_go_90 : decode cX1_go 90 = .ok (.getfield 74, 3) := by decide +kernel
theorem dX1_go_93 : decode cX1_go 93 = .ok (.invokevirtual 80, 3) := by decide +kernel
theorem dX1_go_96 : decode cX1_go 96 = .ok (.istore 5, 2) := by decide +kernel
theorem dX1_go_98 : decode cX1_go 98 = .ok (.iload 5, 2) := by decide +kernel
theorem dX1_go_100 : decode cX1_go 100 = .ok (.ifCond .lt 70, 3) := by decide +kernel
theorem dX1_go_103 : decode cX1_go 103 = .ok (.aload_n 0, 1) := by decide +kernel
theorem dX1_go_104 : decode cX1_go 104 = .ok (.getfield 9, 3) := by decide +kernel
theorem dX1_go_107 : decode cX1_go 107 = .ok (.getfield 83, 3) := by decide +kernel
theorem dX1_go_110 : decode cX1_go 110 = .ok (.iload 5, 2) := by decide +kernel
theorem dX1_go_112 : decode cX1_go 112 = .ok (.iaload, 1) := by decide +kernel
theorem dX1_go_113 : decode cX1_go 113 = .ok (.iconst 1, 1) := by decide +kernel
theorem dX1_go_114 : decode cX1_go 114 = .ok (.if_icmp .ne 56, 3) := by decide +kernel
theorem dX1_go_117 : decode cX1_go 117 = .ok (.aload_n 0, 1) := by decide +kernel
theorem dX1_go_118 : decode cX1_go 118 = .ok (.getfield 9, 3) := by decide +kernel
theorem dX1_go_121 : decode cX1_go 121 = .ok (.getfield 47, 3) := by decide +kernel
theorem dX1_go_124 : decode cX1_go 124 = .ok (.aload_n 0, 1) := by decide +kernel
theorem dX1_go_125 : decode cX1_go 125 = .ok (.getfield 9, 3) := by decide +kernel
theorem dX1_go_128 : decode cX1_go 128 = .ok (.getfield 15, 3) := by decide +kernel
theorem dX1_go_131 : decode cX1_go 131 = .ok (.iconst 3, 1) := by decide +kernel
theorem dX1_go_132 : decode cX1_go 132 = .ok (.iaload, 1) := by decide +kernel
theorem dX1_go_133 : decode cX1_go 133 = .ok (.if_icmp .lt 37, 3) := by decide +kernel
theorem dX1_go_136 : decode cX1_go 136 = .ok (.aload_n 0, 1) := by decide +kernel
theorem dX1_go_137 : decode cX1_go 137 = .ok (.getfield 9, 3) := by decide +kernel
theorem dX1_go_140 : decode cX1_go 140 = .ok (.iload 5, 2) := by decide +kernel
theorem dX1_go_142 : decode cX1_go 142 = .ok (.invokevirtual 86, 3) := by decide +kernel
theorem dX1_go_145 : decode cX1_go 145 = .ok (.iinc 3 1, 3) := by decide +kernel
theorem dX1_go_148 : decode cX1_go 148 = .ok (.aload_n 0, 1) := by decide +kernel
theorem dX1_go_149 : decode cX1_go 149 = .ok (.aload_n 0, 1) := by decide +kernel
theorem dX1_go_150 : decode cX1_go 150 = .ok (.getfield 41, 3) := by decide +kernel
theorem dX1_go_153 : decode cX1_go 153 = .ok (.bipush (-9), 2) := by decide +kernel
theorem dX1_go_155 : decode cX1_go 155 = .ok (.if_icmp .ne 8, 3) := by decide +kernel
theorem dX1_go_158 : decode cX1_go 158 = .ok (.iload 5, 2) := by decide +kernel
theorem dX1_go_160 : decode cX1_go 160 = .ok (.goto 7, 3) := by decide +kernel
theorem dX1_go_163 : decode cX1_go 163 = .ok (.aload_n 0, 1) := by decide +kernel
theorem dX1_go_164 : decode cX1_go 164 = .ok (.getfield 41, 3) := by decide +kernel
theorem dX1_go_167 : decode cX1_go 167 = .ok (.putfield 41, 3) := by decide +kernel
theorem dX1_go_170 : decode cX1_go 170 = .ok (.iinc 4 1, 3) := by decide +kernel
theorem dX1_go_173 : decode cX1_go 173 = .ok (.goto (-124), 3) := by decide +kernel
theorem dX1_go_176 : decode cX1_go 176 = .ok (.aload_n 0, 1) := by decide +kernel
theorem dX1_go_177 : decode cX1_go 177 = .ok (.aload_n 0, 1) := by decide +kernel
theorem dX1_go_178 : decode cX1_go 178 = .ok (.invokevirtual 35, 3) := by decide +kernel
theorem dX1_go_181 : decode cX1_go 181 = .ok (.putfield 38, 3) := by decide +kernel
theorem dX1_go_184 : decode cX1_go 184 = .ok (.iload_n 3, 1) := by decide +kernel
theorem dX1_go_185 : decode cX1_go 185 = .ok (.ireturn, 1) := by decide +kernel
theorem dX1_gapAhead_0 : decode cX1_gapAhead 0 = .ok (.sipush 10800, 3) := by decide +kernel
theorem dX1_gapAhead_3 : decode cX1_gapAhead 3 = .ok (.istore_n 1, 1) := by decide +kernel
theorem dX1_gapAhead_4 : decode cX1_gapAhead 4 = .ok (.iconst 0, 1) := by decide +kernel
theorem dX1_gapAhead_5 : decode cX1_gapAhead 5 = .ok (.istore_n 2, 1) := by decide +kernel
theorem dX1_gapAhead_6 : decode cX1_gapAhead 6 = .ok (.iload_n 2, 1) := by decide +kernel
theorem dX1_gapAhead_7 : decode cX1_gapAhead 7 = .ok (.aload_n 0, 1) := by decide +kernel
theorem dX1_gapAhead_8 : decode cX1_gapAhead 8 = .ok (.getfield 9, 3) := by decide +kernel
theorem dX1_gapAhead_11 : decode cX1_gapAhead 11 = .ok (.getfield 90, 3) := by decide +kernel
theorem dX1_gapAhead_14 : decode cX1_gapAhead 14 = .ok (.if_icmp .ge 73, 3) := by decide +kernel
theorem dX1_gapAhead_17 : decode cX1_gapAhead 17 = .ok (.aload_n 0, 1) := by decide +kernel
theorem dX1_gapAhead_18 : decode cX1_gapAhead 18 = .ok (.getfield 9, 3) := by decide +kernel
theorem dX1_gapAhead_21 : decode cX1_gapAhead 21 = .ok (.getfield 93, 3) := by decide +kernel
theorem dX1_gapAhead_24 : decode cX1_gapAhead 24 = .ok (.iload_n 2, 1) := by decide +kernel
theorem dX1_gapAhead_25 : decode cX1_gapAhead 25 = .ok (.iaload, 1) := by decide +kernel
theorem dX1_gapAhead_26 : decode cX1_gapAhead 26 = .ok (.aload_n 0, 1) := by decide +kernel
theorem dX1_gapAhead_27 : decode cX1_gapAhead 27 = .ok (.getfield 9, 3) := by decide +kernel
theorem dX1_gapAhead_30 : decode cX1_gapAhead 30 = .ok (.getfield 74, 3) := by decide +kernel
theorem dX1_gapAhead_33 : decode cX1_gapAhead 33 = .ok (.isub, 1) := by decide +kernel
theorem dX1_gapAhead_34 : decode cX1_gapAhead 34 = .ok (.invokestatic 77, 3) := by decide +kernel
theorem dX1_gapAhead_37 : decode cX1_gapAhead 37 = .ok (.istore_n 3, 1) := by decide +kernel
theorem dX1_gapAhead_38 : decode cX1_gapAhead 38 = .ok (.aload_n 0, 1) := by decide +kernel
theorem dX1_gapAhead_39 : decode cX1_gapAhead 39 = .ok (.getfield 25, 3) := by decide +kernel
theorem dX1_gapAhead_42 : decode cX1_gapAhead 42 = .ok (.ifCond .ge 11, 3) := by decide +kernel
theorem dX1_gapAhead_45 : decode cX1_gapAhead 45 = .ok (.iload_n 3, 1) := by decide +kernel
theorem dX1_gapAhead_46 : decode cX1_gapAhead 46 = .ok (.ineg, 1) := by decide +kernel
theorem dX1_gapAhead_47 : decode cX1_gapAhead 47 = .ok (.invokestatic 77, 3) := by decide +kernel
theorem dX1_gapAhead_50 : decode cX1_gapAhead 50 = .ok (.goto 4, 3) := by decide +kernel
theorem dX1_gapAhead_53 : decode cX1_gapAhead 53 = .ok (.iload_n 3, 1) := by decide +kernel
theorem dX1_gapAhead_54 : decode cX1_gapAhead 54 = .ok (.istore 4, 2) := by decide +kernel
theorem dX1_gapAhead_56 : decode cX1_gapAhead 56 = .ok (.aload_n 0, 1) := by decide +kernel
theorem dX1_gapAhead_57 : decode cX1_gapAhead 57 = .ok (.getfield 9, 3) := by decide +kernel
theorem dX1_gapAhead_60 : decode cX1_gapAhead 60 = .ok (.getfield 83, 3) := by decide +kernel
theorem dX1_gapAhead_63 : decode cX1_gapAhead 63 = .ok (.iload_n 2, 1) := by decide +kernel
theorem dX1_gapAhead_64 : decode cX1_gapAhead 64 = .ok (.iaload, 1) := by decide +kernel
theorem dX1_gapAhead_65 : decode cX1_gapAhead 65 = .ok (.iconst 1, 1) := by decide +kernel
theorem dX1_gapAhead_66 : decode cX1_gapAhead 66 = .ok (.if_icmp .ne 15, 3) := by decide +kernel
theorem dX1_gapAhead_69 : decode cX1_gapAhead 69 = .ok (.iload 4, 2) := by decide +kernel
theorem dX1_gapAhead_71 : decode cX1_gapAhead 71 = .ok (.ifCond .le 10, 3) := by decide +kernel
theorem dX1_gapAhead_74 : decode cX1_gapAhead 74 = .ok (.iload_n 1, 1) := by decide +kernel
theorem dX1_gapAhead_75 : decode cX1_gapAhead 75 = .ok (.iload 4, 2) := by decide +kernel
theorem dX1_gapAhead_77 : decode cX1_gapAhead 77 = .ok (.invokestatic 96, 3) := by decide +kernel
theorem dX1_gapAhead_80 : decode cX1_gapAhead 80 = .ok (.istore_n 1, 1) := by decide +kernel
theorem dX1_gapAhead_81 : decode cX1_gapAhead 81 = .ok (.iinc 2 1, 3) := by decide +kernel
theorem dX1_gapAhead_84 : decode cX1_gapAhead 84 = .ok (.goto (-78), 3) := by decide +kernel
theorem dX1_gapAhead_87 : decode cX1_gapAhead 87 = .ok (.iload_n 1, 1) := by decide +kernel
theorem dX1_gapAhead_88 : decode cX1_gapAhead 88 = .ok (.ireturn, 1) := by decide +kernel
theorem dX1_dragAndDrive_0 : decode cX1_dragAndDrive 0 = .ok (.aload_n 0, 1) := by decide +kernel
theorem dX1_dragAndDrive_1 : decode cX1_dragAndDrive 1 = .ok (.getfield 9, 3) := by decide +kernel
theorem dX1_dragAndDrive_4 : decode cX1_dragAndDrive 4 = .ok (.aload_n 0, 1) := by decide +kernel
theorem dX1_dragAndDrive_5 : decode cX1_dragAndDrive 5 = .ok (.getfield 9, 3) := by decide +kernel
theorem dX1_dragAndDrive_8 : decode cX1_dragAndDrive 8 = .ok (.getfield 47, 3) := by decide +kernel
theorem dX1_dragAndDrive_11 : decode cX1_dragAndDrive 11 = .ok (.aload_n 0, 1) := by decide +kernel
theorem dX1_dragAndDrive_12 : decode cX1_dragAndDrive 12 = .ok (.getfield 9, 3) := by decide +kernel
theorem dX1_dragAndDrive_15 : decode cX1_dragAndDrive 15 = .ok (.getfield 15, 3) := by decide +kernel
theorem dX1_dragAndDrive_18 : decode cX1_dragAndDrive 18 = .ok (.iconst 2, 1) := by decide +kernel
theorem dX1_dragAndDrive_19 : decode cX1_dragAndDrive 19 = .ok (.iaload, 1) := by decide +kernel
theorem dX1_dragAndDrive_20 : decode cX1_dragAndDrive 20 = .ok (.imul, 1) := by decide +kernel
theorem dX1_dragAndDrive_21 : decode cX1_dragAndDrive 21 = .ok (.sipush 10000, 3) := by decide +kernel
theorem dX1_dragAndDrive_24 : decode cX1_dragAndDrive 24 = .ok (.idiv, 1) := by decide +kernel
theorem dX1_dragAndDrive_25 : decode cX1_dragAndDrive 25 = .ok (.iconst 1, 1) := by decide +kernel
theorem dX1_dragAndDrive_26 : decode cX1_dragAndDrive 26 = .ok (.iadd, 1) := by decide +kernel
theorem dX1_dragAndDrive_27 : decode cX1_dragAndDrive 27 = .ok (.invokevirtual 100, 3) := by decide +kernel
theorem dX1_dragAndDrive_30 : decode cX1_dragAndDrive 30 = .ok (.aload_n 0, 1) := by decide +kernel
theorem dX1_dragAndDrive_31 : decode cX1_dragAndDrive 31 = .ok (.getfield 9, 3) := by decide +kernel
theorem dX1_dragAndDrive_34 : decode cX1_dragAndDrive 34 = .ok (.aload_n 0, 1) := by decide +kernel
theorem dX1_dragAndDrive_35 : decode cX1_dragAndDrive 35 = .ok (.getfield 9, 3) := by decide +kernel
theorem dX1_dragAndDrive_38 : decode cX1_dragAndDrive 38 = .ok (.getfield 15, 3) := by decide +kernel
theorem dX1_dragAndDrive_41 : decode cX1_dragAndDrive 41 = .ok (.iconst 4, 1) := by decide +kernel
theorem dX1_dragAndDrive_42 : decode cX1_dragAndDrive 42 = .ok (.iaload, 1) := by decide +kernel
theorem dX1_dragAndDrive_43 : decode cX1_dragAndDrive 43 = .ok (.invokevirtual 103, 3) := by decide +kernel
theorem dX1_dragAndDrive_46 : decode cX1_dragAndDrive 46 = .ok (.return_, 1) := by decide +kernel
theorem dX2_init_0 : decode cX2_init 0 = .ok (.aload_n 0, 1) := by decide +kernel
theorem dX2_init_1 : decode cX2_init 1 = .ok (.invokespecial 3, 3) := by decide +kernel
theorem dX2_init_4 : decode cX2_init 4 = .ok (.aload_n 0, 1) := by decide +kernel
theorem dX2_init_5 : decode cX2_init 5 = .ok (.iconst 5, 1) := by decide +kernel
theorem dX2_init_6 : decode cX2_init 6 = .ok (.newarray .int, 2) := by decide +kernel
theorem dX2_init_8 : decode cX2_init 8 = .ok (.putfield 9, 3) := by decide +kernel
theorem dX2_init_11 : decode cX2_init 11 = .ok (.aload_n 0, 1) := by decide +kernel
theorem dX2_init_12 : decode cX2_init 12 = .ok (.bipush 40, 2) := by decide +kernel
theorem dX2_init_14 : decode cX2_init 14 = .ok (.newarray .int, 2) := by decide +kernel
theorem dX2_init_16 : decode cX2_init 16 = .ok (.putfield 15, 3) := by decide +kernel
theorem dX2_init_19 : decode cX2_init 19 = .ok (.aload_n 0, 1) := by decide +kernel
theorem dX2_init_20 : decode cX2_init 20 = .ok (.bipush 40, 2) := by decide +kernel
theorem dX2_init_22 : decode cX2_init 22 = .ok (.newarray .int, 2) := by decide +kernel
theorem dX2_init_24 : decode cX2_init 24 = .ok (.putfield 18, 3) := by decide +kernel
theorem dX2_init_27 : decode cX2_init 27 = .ok (.aload_n 0, 1) := by decide +kernel
theorem dX2_init_28 : decode cX2_init 28 = .ok (.bipush 60, 2) := by decide +kernel
theorem dX2_init_30 : decode cX2_init 30 = .ok (.newarray .int, 2) := by decide +kernel
theorem dX2_init_32 : decode cX2_init 32 = .ok (.putfield 21, 3) := by decide +kernel
theorem dX2_init_35 : decode cX2_init 35 = .ok (.aload_n 0, 1) := by decide +kernel
theorem dX2_init_36 : decode cX2_init 36 = .ok (.bipush 60, 2) := by decide +kernel
theorem dX2_init_38 : decode cX2_init 38 = .ok (.newarray .int, 2) := by decide +kernel
theorem dX2_init_40 : decode cX2_init 40 = .ok (.putfield 24, 3) := by decide +kernel
theorem dX2_init_43 : decode cX2_init 43 = .ok (.aload_n 0, 1) := by decide +kernel
theorem dX2_init_44 : decode cX2_init 44 = .ok (.invokevirtual 27, 3) := by decide +kernel
theorem dX2_init_47 : decode cX2_init 47 = .ok (.return_, 1) := by decide +kernel
theorem dX2_begin_0 : decode cX2_begin 0 = .ok (.getstatic 30, 3) := by decide +kernel
theorem dX2_begin_3 : decode cX2_begin 3 = .ok (.iconst 0, 1) := by decide +kernel
theorem dX2_begin_4 : decode cX2_begin 4 = .ok (.aload_n 0, 1) := by decide +kernel
theorem dX2_begin_5 : decode cX2_begin 5 = .ok (.getfield 9, 3) := by decide +kernel
theorem dX2_begin_8 : decode cX2_begin 8 = .ok (.iconst 0, 1) := by decide +kernel
theorem dX2_begin_9 : decode cX2_begin 9 = .ok (.aload_n 0, 1) := by decide +kernel
theorem dX2_begin_10 : decode cX2_begin 10 = .ok (.getfield 9, 3) := by decide +kernel
theorem dX2_begin_13 : decode cX2_begin 13 = .ok (.arraylength, 1) := by decide +kernel
theorem dX2_begin_14 : decode cX2_begin 14 = .ok (.invokestatic 33, 3) := by decide +kernel
theorem dX2_begin_17 : decode cX2_begin 17 = .ok (.aload_n 0, 1) := by decide +kernel
theorem dX2_begin_18 : decode cX2_begin 18 = .ok (.iconst 0, 1) := by decide +kernel
theorem dX2_begin_19 : decode cX2_begin 19 = .ok (.putfield 39, 3) := by decide +kernel
theorem dX2_begin_22 : decode cX2_begin 22 = .ok (.aload_n 0, 1) := by decide +kernel
theorem dX2_begin_23 : decode cX2_begin 23 = .ok (.iconst 0, 1) := by decide +kernel
theorem dX2_begin_24 : decode cX2_begin 24 = .ok (.putfield 43, 3) := by decide +kernel
theorem dX2_begin_27 : decode cX2_begin 27 = .ok (.aload_n 0, 1) := by decide +kernel
theorem dX2_begin_28 : decode cX2_begin 28 = .ok (.sipush 5000, 3) := by decide +kernel
theorem dX2_begin_31 : decode cX2_begin 31 = .ok (.putfield 46, 3) := by decide +kernel
theorem dX2_begin_34 : decode cX2_begin 34 = .ok (.aload_n 0, 1) := by decide +kernel
theorem dX2_begin_35 : decode cX2_begin 35 = .ok (.iconst 0, 1) := by decide +kernel
theorem dX2_begin_36 : decode cX2_begin 36 = .ok (.putfield 49, 3) := by decide +kernel
theorem dX2_begin_39 : decode cX2_begin 39 = .ok (.aload_n 0, 1) := by decide +kernel
theorem dX2_begin_40 : decode cX2_begin 40 = .ok (.iconst 0, 1) := by decide +kernel
theorem dX2_begin_41 : decode cX2_begin 41 = .ok (.putfield 52, 3) := by decide +kernel
theorem dX2_begin_44 : decode cX2_begin 44 = .ok (.aload_n 0, 1) := by decide +kernel
theorem dX2_begin_45 : decode cX2_begin 45 = .ok (.iconst 0, 1) := by decide +kernel
theorem dX2_begin_46 : decode cX2_begin 46 = .ok (.putfield 55, 3) := by decide +kernel
theorem dX2_begin_49 : decode cX2_begin 49 = .ok (.aload_n 0, 1) := by decide +kernel
theorem dX2_begin_50 : decode cX2_begin 50 = .ok (.iconst 0, 1) := by decide +kernel
theorem dX2_begin_51 : decode cX2_begin 51 = .ok (.putfield 58, 3) := by decide +kernel
theorem dX2_begin_54 : decode cX2_begin 54 = .ok (.aload_n 0, 1) := by decide +kernel
theorem dX2_begin_55 : decode cX2_begin 55 = .ok (.iconst 0, 1) := by decide +kernel
theorem dX2_begin_56 : decode cX2_begin 56 = .ok (.putfield 61, 3) := by decide +kernel
theorem dX2_begin_59 : decode cX2_begin 59 = .ok (.return_, 1) := by decide +kernel
theorem dX2_copyFrom_0 : decode cX2_copyFrom 0 = .ok (.aload_n 1, 1) := by decide +kernel
theorem dX2_copyFrom_1 : decode cX2_copyFrom 1 = .ok (.getfield 9, 3) := by decide +kernel
theorem dX2_copyFrom_4 : decode cX2_copyFrom 4 = .ok (.iconst 0, 1) := by decide +kernel
theorem dX2_copyFrom_5 : decode cX2_copyFrom 5 = .ok (.aload_n 0, 1) := by decide +kernel
theorem dX2_copyFrom_6 : decode cX2_copyFrom 6 = .ok (.getfield 9, 3) := by decide +kernel
theorem dX2_copyFrom_9 : decode cX2_copyFrom 9 = .ok (.iconst 0, 1) := by decide +kernel
theorem dX2_copyFrom_10 : decode cX2_copyFrom 10 = .ok (.aload_n 0, 1) := by decide +kernel
theorem dX2_copyFrom_11 : decode cX2_copyFrom 11 = .ok (.getfield 9, 3) := by decide +kernel
theorem dX2_copyFrom_14 : decode cX2_copyFrom 14 = .ok (.arraylength, 1) := by decide +kernel
theorem dX2_copyFrom_15 : decode cX2_copyFrom 15 = .ok (.invokestatic 33, 3) := by decide +kernel
theorem dX2_copyFrom_18 : decode cX2_copyFrom 18 = .ok (.aload_n 0, 1) := by decide +kernel
theorem dX2_copyFrom_19 : decode cX2_copyFrom 19 = .ok (.aload_n 1, 1) := by decide +kernel
theorem dX2_copyFrom_20 : decode cX2_copyFrom 20 = .ok (.getfield 39, 3) := by decide +kernel
theorem dX2_copyFrom_23 : decode cX2_copyFrom 23 = .ok (.putfield 39, 3) := by decide +kernel
theorem dX2_copyFrom_26 : decode cX2_copyFrom 26 = .ok (.aload_n 0, 1) := by decide +kernel
theorem dX2_copyFrom_27 : decode cX2_copyFrom 27 = .ok (.aload_n 1, 1) := by decide +kernel
theorem dX2_copyFrom_28 : decode cX2_copyFrom 28 = .ok (.getfield 43, 3) := by decide +kernel
theorem dX2_copyFrom_31 : decode cX2_copyFrom 31 = .ok (.putfield 43, 3) := by decide +kernel
theorem dX2_copyFrom_34 : decode cX2_copyFrom 34 = .ok (.aload_n 0, 1) := by decide +kernel
theorem dX2_copyFrom_35 : decode cX2_copyFrom 35 = .ok (.aload_n 1, 1) := by decide +kernel
theorem dX2_copyFrom_36 : decode cX2_copyFrom 36 = .ok (.getfield 46, 3) := by decide +kernel
theorem dX2_copyFrom_39 : decode cX2_copyFrom 39 = .ok (.putfield 46, 3) := by decide +kernel
theorem dX2_copyFrom_42 : decode cX2_copyFrom 42 = .ok (.aload_n 0, 1) := by decide +kernel
theorem dX2_copyFrom_43 : decode cX2_copyFrom 43 = .ok (.aload_n 1, 1) := by decide +kernel
theorem dX2_copyFrom_44 : decode cX2_copyFrom 44 = .ok (.getfield 49, 3) := by decide +kernel
theorem dX2_copyFrom_47 : decode cX2_copyFrom 47 = .ok (.putfield 49, 3) := by decide +kernel
theorem dX2_copyFrom_50 : decode cX2_copyFrom 50 = .ok (.aload_n 0, 1) := by decide +kernel
theorem dX2_copyFrom_51 : decode cX2_copyFrom 51 = .ok (.aload_n 1, 1) := by decide +kernel
theorem dX2_copyFrom_52 : decode cX2_copyFrom 52 = .ok (.getfield 52, 3) := by decide +kernel
theorem dX2_copyFrom_55 : decode cX2_copyFrom 55 = .ok (.putfield 52, 3) := by decide +kernel
theorem dX2_copyFrom_58 : decode cX2_copyFrom 58 = .ok (.aload_n 1, 1) := by decide +kernel
theorem dX2_copyFrom_59 : decode cX2_copyFrom 59 = .ok (.getfield 15, 3) := by decide +kernel
theorem dX2_copyFrom_62 : decode cX2_copyFrom 62 = .ok (.iconst 0, 1) := by decide +kernel
theorem dX2_copyFrom_63 : decode cX2_copyFrom 63 = .ok (.aload_n 0, 1) := by decide +kernel
theorem dX2_copyFrom_64 : decode cX2_copyFrom 64 = .ok (.getfield 15, 3) := by decide +kernel
theorem dX2_copyFrom_67 : decode cX2_copyFrom 67 = .ok (.iconst 0, 1) := by decide +kernel
theorem dX2_copyFrom_68 : decode cX2_copyFrom 68 = .ok (.aload_n 0, 1) := by decide +kernel
theorem dX2_copyFrom_69 : decode cX2_copyFrom 69 = .ok (.getfield 15, 3) := by decide +kernel
theorem dX2_copyFrom_72 : decode cX2_copyFrom 72 = .ok (.arraylength, 1) := by decide +kernel
theorem dX2_copyFrom_73 : decode cX2_copyFrom 73 = .ok (.invokestatic 33, 3) := by decide +kernel
theorem dX2_copyFrom_76 : decode cX2_copyFrom 76 = .ok (.aload_n 1, 1) := by decide +kernel
theorem dX2_copyFrom_77 : decode cX2_copyFrom 77 = .ok (.getfield 18, 3) := by decide +kernel
theorem dX2_copyFrom_80 : decode cX2_copyFrom 80 = .ok (.iconst 0, 1) := by decide +kernel
theorem dX2_copyFrom_81 : decode cX2_copyFrom 81 = .ok (.aload_n 0, 1) := by decide +kernel
theorem dX2_copyFrom_82 : decode cX2_copyFrom 82 = .ok (.getfield 18, 3) := by decide +kernel
theorem dX2_copyFrom_85 : decode cX2_copyFrom 85 = .ok (.iconst 0, 1) := by decide +kernel
theorem dX2_copyFrom_86 : decode cX2_copyFrom 86 = .ok (.aload_n 0, 1) := by decide +kernel
theorem dX2_copyFrom_87 : decode cX2_copyFrom 87 = .ok (.getfield 18, 3) := by decide +kernel
theorem dX2_copyFrom_90 : decode cX2_copyFrom 90 = .ok (.arraylength, 1) := by decide +kernel
theorem dX2_copyFrom_91 : decode cX2_copyFrom 91 = .ok (.invokestatic 33, 3) := by decide +kernel
theorem dX2_copyFrom_94 : decode cX2_copyFrom 94 = .ok (.aload_n 0, 1) := by decide +kernel
theorem dX2_copyFrom_95 : decode cX2_copyFrom 95 = .ok (.aload_n 1, 1) := by decide +kernel
theorem dX2_copyFrom_96 : decode cX2_copyFrom 96 = .ok (.getfield 55, 3) := by decide +kernel
theorem dX2_copyFrom_99 : decode cX2_copyFrom 99 = .ok (.putfield 55, 3) := by decide +kernel
theorem dX2_copyFrom_102 : decode cX2_copyFrom 102 = .ok (.aload_n 0, 1) := by decide +kernel
theorem dX2_copyFrom_103 : decode cX2_copyFrom 103 = .ok (.aload_n 1, 1) := by decide +kernel
theorem dX2_copyFrom_104 : decode cX2_copyFrom 104 = .ok (.getfield 58, 3) := by decide +kernel
theorem dX2_copyFrom_107 : decode cX2_copyFrom 107 = .ok (.putfield 58, 3) := by decide +kernel
theorem dX2_copyFrom_110 : decode cX2_copyFrom 110 = .ok (.aload_n 1, 1) := by decide +kernel
theorem dX2_copyFrom_111 : decode cX2_copyFrom 111 = .ok (.getfield 21, 3) := by decide +kernel
theorem dX2_copyFrom_114 : decode cX2_copyFrom 114 = .ok (.iconst 0, 1) := by decide +kernel
theorem dX2_copyFrom_115 : decode cX2_copyFrom 115 = .ok (.aload_n 0, 1) := by decide +kernel
theorem dX2_copyFrom_116 : decode cX2_copyFrom 116 = .ok (.getfield 21, 3) := by decide +kernel
theorem dX2_copyFrom_119 : decode cX2_copyFrom 119 = .ok (.iconst 0, 1) := by decide +kernel
theorem dX2_copyFrom_120 : decode cX2_copyFrom 120 = .ok (.aload_n 0, 1) := by decide +kernel
theorem dX2_copyFrom_121 : decode cX2_copyFrom 121 = .ok (.getfield 21, 3) := by decide +kernel
theorem dX2_copyFrom_124 : decode cX2_copyFrom 124 = .ok (.arraylength, 1) := by decide +kernel
theorem dX2_copyFrom_125 : decode cX2_copyFrom 125 = .ok (.invokestatic 33, 3) := by decide +kernel
theorem dX2_copyFrom_128 : decode cX2_copyFrom 128 = .ok (.aload_n 0, 1) := by decide +kernel
theorem dX2_copyFrom_129 : decode cX2_copyFrom 129 = .ok (.aload_n 1, 1) := by decide +kernel
theorem dX2_copyFrom_130 : decode cX2_copyFrom 130 = .ok (.getfield 61, 3) := by decide +kernel
theorem dX2_copyFrom_133 : decode cX2_copyFrom 133 = .ok (.putfield 61, 3) := by decide +kernel
theorem dX2_copyFrom_136 : decode cX2_copyFrom 136 = .ok (.aload_n 1, 1) := by decide +kernel
theorem dX2_copyFrom_137 : decode cX2_copyFrom 137 = .ok (.getfield 24, 3) := by decide +kernel
theorem dX2_copyFrom_140 : decode cX2_copyFrom 140 = .ok (.iconst 0, 1) := by decide +kernel
theorem dX2_copyFrom_141 : decode cX2_copyFrom 141 = .ok (.aload_n 0, 1) := by decide +kernel
theorem dX2_copyFrom_142 : decode cX2_copyFrom 142 = .ok (.getfield 24, 3) := by decide +kernel
theorem dX2_copyFrom_145 : decode cX2_copyFrom 145 = .ok (.iconst 0, 1) := by decide +kernel
theorem dX2_copyFrom_146 : decode cX2_copyFrom 146 = .ok (.aload_n 0, 1) := by decide +kernel
theorem dX2_copyFrom_147 : decode cX2_copyFrom 147 = .ok (.getfield 24, 3) := by decide +kernel
theorem dX2_copyFrom_150 : decode cX2_copyFrom 150 = .ok (.arraylength, 1) := by decide +kernel
theorem dX2_copyFrom_151 : decode cX2_copyFrom 151 = .ok (.invokestatic 33, 3) := by decide +kernel
theorem dX2_copyFrom_154 : decode cX2_copyFrom 154 = .ok (.return_, 1) := by decide +kernel
theorem dX2_unit_0 : decode cX2_unit 0 = .ok (.sipush 1000, 3) := by decide +kernel
theorem dX2_unit_3 : decode cX2_unit 3 = .ok (.aload_n 0, 1) := by decide +kernel
theorem dX2_unit_4 : decode cX2_unit 4 = .ok (.getfield 9, 3) := by decide +kernel
theorem dX2_unit_7 : decode cX2_unit 7 = .ok (.iconst 1, 1) := by decide +kernel
theorem dX2_unit_8 : decode cX2_unit 8 = .ok (.iaload, 1) := by decide +kernel
theorem dX2_unit_9 : decode cX2_unit 9 = .ok (.imul, 1) := by decide +kernel
theorem dX2_unit_10 : decode cX2_unit 10 = .ok (.ireturn, 1) := by decide +kernel
theorem dX2_changeSetting_0 : decode cX2_changeSetting 0 = .ok (.aload_n 0, 1) := by decide +kernel
theorem dX2_changeSetting_1 : decode cX2_changeSetting 1 = .ok (.getfield 9, 3) := by decide +kernel
theorem dX2_changeSetting_4 : decode cX2_changeSetting 4 = .ok (.iload_n 1, 1) := by decide +kernel
theorem dX2_changeSetting_5 : decode cX2_changeSetting 5 = .ok (.iload_n 2, 1) := by decide +kernel
theorem dX2_changeSetting_6 : decode cX2_changeSetting 6 = .ok (.iastore, 1) := by decide +kernel
theorem dX2_changeSetting_7 : decode cX2_changeSetting 7 = .ok (.iload_n 1, 1) := by decide +kernel
theorem dX2_changeSetting_8 : decode cX2_changeSetting 8 = .ok (.iconst 1, 1) := by decide +kernel
theorem dX2_changeSetting_9 : decode cX2_changeSetting 9 = .ok (.if_icmp .ne 8, 3) := by decide +kernel
theorem dX2_changeSetting_12 : decode cX2_changeSetting 12 = .ok (.aload_n 0, 1) := by decide +kernel
theorem dX2_changeSetting_13 : decode cX2_changeSetting 13 = .ok (.iconst 0, 1) := by decide +kernel
theorem dX2_changeSetting_14 : decode cX2_changeSetting 14 = .ok (.putfield 43, 3) := by decide +kernel
theorem dX2_changeSetting_17 : decode cX2_changeSetting 17 = .ok (.return_, 1) := by decide +kernel
theorem dX2_gainHeight_0 : decode cX2_gainHeight 0 = .ok (.aload_n 0, 1) := by decide +kernel
theorem dX2_gainHeight_1 : decode cX2_gainHeight 1 = .ok (.sipush 9999, 3) := by decide +kernel
theorem dX2_gainHeight_4 : decode cX2_gainHeight 4 = .ok (.aload_n 0, 1) := by decide +kernel
theorem dX2_gainHeight_5 : decode cX2_gainHeight 5 = .ok (.getfield 46, 3) := by decide +kernel
theorem dX2_gainHeight_8 : decode cX2_gainHeight 8 = .ok (.iload_n 1, 1) := by decide +kernel
theorem dX2_gainHeight_9 : decode cX2_gainHeight 9 = .ok (.iadd, 1) := by decide +kernel
theorem dX2_gainHeight_10 : decode cX2_gainHeight 10 = .ok (.invokestatic 64, 3) := by decide +kernel
theorem dX2_gainHeight_13 : decode cX2_gainHeight 13 = .ok (.putfield 46, 3) := by decide +kernel
theorem dX2_gainHeight_16 : decode cX2_gainHeight 16 = .ok (.return_, 1) := by decide +kernel
theorem dX2_loseHeight_0 : decode cX2_loseHeight 0 = .ok (.aload_n 0, 1) := by decide +kernel
theorem dX2_loseHeight_1 : decode cX2_loseHeight 1 = .ok (.iconst 0, 1) := by decide +kernel
theorem dX2_loseHeight_2 : decode cX2_loseHeight 2 = .ok (.aload_n 0, 1) := by decide +kernel
theorem dX2_loseHeight_3 : decode cX2_loseHeight 3 = .ok (.getfield 46, 3) := by decide +kernel
theorem dX2_loseHeight_6 : decode cX2_loseHeight 6 = .ok (.iload_n 1, 1) := by decide +kernel
theorem dX2_loseHeight_7 : decode cX2_loseHeight 7 = .ok (.isub, 1) := by decide +kernel
theorem dX2_loseHeight_8 : decode cX2_loseHeight 8 = .ok (.invokestatic 70, 3) := by decide +kernel
theorem dX2_loseHeight_11 : decode cX2_loseHeight 11 = .ok (.putfield 46, 3) := by decide +kernel
theorem dX2_loseHeight_14 : decode cX2_loseHeight 14 = .ok (.return_, 1) := by decide +kernel
theorem dX2_turnAside_0 : decode cX2_turnAside 0 = .ok (.aload_n 0, 1) := by decide +kernel
theorem dX2_turnAside_1 : decode cX2_turnAside 1 = .ok (.aload_n 0, 1) := by decide +kernel
theorem dX2_turnAside_2 : decode cX2_turnAside 2 = .ok (.getfield 39, 3) := by decide +kernel
theorem dX2_turnAside_5 : decode cX2_turnAside 5 = .ok (.iload_n 1, 1) := by decide +kernel
theorem dX2_turnAside_6 : decode cX2_turnAside 6 = .ok (.iadd, 1) := by decide +kernel
theorem dX2_turnAside_7 : decode cX2_turnAside 7 = .ok (.invokestatic 73, 3) := by decide +kernel
theorem dX2_turnAside_10 : decode cX2_turnAside 10 = .ok (.putfield 39, 3) := by decide +kernel
theorem dX2_turnAside_13 : decode cX2_turnAside 13 = .ok (.aload_n 0, 1) := by decide +kernel
theorem dX2_turnAside_14 : decode cX2_turnAside 14 = .ok (.iconst 2, 1) := by decide +kernel
theorem dX2_turnAside_15 : decode cX2_turnAside 15 = .ok (.iload_n 1, 1) := by decide +kernel
theorem dX2_turnAside_16 : decode cX2_turnAside 16 = .ok (.invokestatic 77, 3) := by decide +kernel
theorem dX2_turnAside_19 : decode cX2_turnAside 19 = .ok (.imul, 1) := by decide +kernel
theorem dX2_turnAside_20 : decode cX2_turnAside 20 = .ok (.invokevirtual 80, 3) := by decide +kernel
theorem dX2_turnAside_23 : decode cX2_turnAside 23 = .ok (.aload_n 0, 1) := by decide +kernel
theorem dX2_turnAside_24 : decode cX2_turnAside 24 = .ok (.iconst 0, 1) := by decide +kernel
theorem dX2_turnAside_25 : decode cX2_turnAside 25 = .ok (.putfield 43, 3) := by decide +kernel
theorem dX2_turnAside_28 : decode cX2_turnAside 28 = .ok (.return_, 1) := by decide +kernel
theorem dX2_standing_0 : decode cX2_standing 0 = .ok (.iconst 0, 1) := by decide +kernel
theorem dX2_standing_1 : decode cX2_standing 1 = .ok (.istore_n 1, 1) := by decide +kernel
theorem dX2_standing_2 : decode cX2_standing 2 = .ok (.iconst 0, 1) := by decide +kernel
theorem dX2_standing_3 : decode cX2_standing 3 = .ok (.istore_n 2, 1) := by decide +kernel
theorem dX2_standing_4 : decode cX2_standing 4 = .ok (.iload_n 2, 1) := by decide +kernel
theorem dX2_standing_5 : decode cX2_standing 5 = .ok (.aload_n 0, 1) := by decide +kernel
theorem dX2_standing_6 : decode cX2_standing 6 = .ok (.getfield 52, 3) := by decide +kernel
theorem dX2_standing_9 : decode cX2_standing 9 = .ok (.if_icmp .ge 18, 3) := by decide +kernel
theorem dX2_standing_12 : decode cX2_standing 12 = .ok (.iload_n 1, 1) := by decide +kernel
theorem dX2_standing_13 : decode cX2_standing 13 = .ok (.aload_n 0, 1) := by decide +kernel
theorem dX2_standing_14 : decode cX2_standing 14 = .ok (.getfield 18, 3) := by decide +kernel
theorem dX2_standing_17 : decode cX2_standing 17 = .ok (.iload_n 2, 1) := by decide +kernel
theorem dX2_standing_18 : decode cX2_standing 18 = .ok (.iaload, 1) := by decide +kernel
theorem dX2_standing_19 : decode cX2_standing 19 = .ok (.iadd, 1) := by decide +kernel
theorem dX2_standing_20 : decode cX2_standing 20 = .ok (.istore_n 1, 1) := by decide +kernel
theorem dX2_standing_21 : decode cX2_standing 21 = .ok (.iinc 2 1, 3) := by decide +kernel
theorem dX2_standing_24 : decode cX2_standing 24 = .ok (.goto (-20), 3) := by decide +kernel
theorem dX2_standing_27 : decode cX2_standing 27 = .ok (.iload_n 1, 1) := by decide +kernel
theorem dX2_standing_28 : decode cX2_standing 28 = .ok (.ireturn, 1) := by decide +kernel
theorem dX2_pinAt_0 : decode cX2_pinAt 0 = .ok (.iconst 0, 1) := by decide +kernel
theorem dX2_pinAt_1 : decode cX2_pinAt 1 = .ok (.istore_n 2, 1) := by decide +kernel
theorem dX2_pinAt_2 : decode cX2_pinAt 2 = .ok (.iload_n 2, 1) := by decide +kernel
theorem dX2_pinAt_3 : decode cX2_pinAt 3 = .ok (.aload_n 0, 1) := by decide +kernel
theorem dX2_pinAt_4 : decode cX2_pinAt 4 = .ok (.getfield 52, 3) := by decide +kernel
theorem dX2_pinAt_7 : decode cX2_pinAt 7 = .ok (.if_icmp .ge 21, 3) := by decide +kernel
theorem dX2_pinAt_10 : decode cX2_pinAt 10 = .ok (.aload_n 0, 1) := by decide +kernel
theorem dX2_pinAt_11 : decode cX2_pinAt 11 = .ok (.getfield 15, 3) := by decide +kernel
theorem dX2_pinAt_14 : decode cX2_pinAt 14 = .ok (.iload_n 2, 1) := by decide +kernel
theorem dX2_pinAt_15 : decode cX2_pinAt 15 = .ok (.iaload, 1) := by decide +kernel
theorem dX2_pinAt_16 : decode cX2_pinAt 16 = .ok (.iload_n 1, 1) := by decide +kernel
theorem dX2_pinAt_17 : decode cX2_pinAt 17 = .ok (.if_icmp .ne 5, 3) := by decide +kernel
theorem dX2_pinAt_20 : decode cX2_pinAt 20 = .ok (.iload_n 2, 1) := by decide +kernel
theorem dX2_pinAt_21 : decode cX2_pinAt 21 = .ok (.ireturn, 1) := by decide +kernel
theorem dX2_pinAt_22 : decode cX2_pinAt 22 = .ok (.iinc 2 1, 3) := by decide +kernel
theorem dX2_pinAt_25 : decode cX2_pinAt 25 = .ok (.goto (-23), 3) := by decide +kernel
theorem dX2_pinAt_28 : decode cX2_pinAt 28 = .ok (.bipush (-9), 2) := by decide +kernel
theorem dX2_pinAt_30 : decode cX2_pinAt 30 = .ok (.ireturn, 1) := by decide +kernel
theorem dX2_putPin_0 : decode cX2_putPin 0 = .ok (.aload_n 0, 1) := by decide +kernel
theorem dX2_putPin_1 : decode cX2_putPin 1 = .ok (.getfield 52, 3) := by decide +kernel
theorem dX2_putPin_4 : decode cX2_putPin 4 = .ok (.bipush 40, 2) := by decide +kernel
theorem dX2_putPin_6 : decode cX2_putPin 6 = .ok (.if_icmp .ge 33, 3) := by decide +kernel
theorem dX2_putPin_9 : decode cX2_putPin 9 = .ok (.aload_n 0, 1) := by decide +kernel
theorem dX2_putPin_10 : decode cX2_putPin 10 = .ok (.getfield 15, 3) := by decide +kernel
theorem dX2_putPin_13 : decode cX2_putPin 13 = .ok (.aload_n 0, 1) := by decide +kernel
theorem dX2_putPin_14 : decode cX2_putPin 14 = .ok (.getfield 52, 3) := by decide +kernel
theorem dX2_putPin_17 : decode cX2_putPin 17 = .ok (.iload_n 1, 1) := by decide +kernel
theorem dX2_putPin_18 : decode cX2_putPin 18 = .ok (.iastore, 1) := by decide +kernel
theorem dX2_putPin_19 : decode cX2_putPin 19 = .ok (.aload_n 0, 1) := by decide +kernel
theorem dX2_putPin_20 : decode cX2_putPin 20 = .ok (.getfield 18, 3) := by decide +kernel
theorem dX2_putPin_23 : decode cX2_putPin 23 = .ok (.aload_n 0, 1) := by decide +kernel
theorem dX2_putPin_24 : decode cX2_putPin 24 = .ok (.getfield 52, 3) := by decide +kernel
theorem dX2_putPin_27 : decode cX2_putPin 27 = .ok (.iconst 1, 1) := by decide +kernel
theorem dX2_putPin_28 : decode cX2_putPin 28 = .ok (.iastore, 1) := by decide +kernel
theorem dX2_putPin_29 : decode cX2_putPin 29 = .ok (.aload_n 0, 1) := by decide +kernel
theorem dX2_putPin_30 : decode cX2_putPin 30 = .ok (.dup, 1) := by decide +kernel
theorem dX2_putPin_31 : decode cX2_putPin 31 = .ok (.getfield 52, 3) := by decide +kernel
theorem dX2_putPin_34 : decode cX2_putPin 34 = .ok (.iconst 1, 1) := by decide +kernel
theorem dX2_putPin_35 : decode cX2_putPin 35 = .ok (.iadd, 1) := by decide +kernel
theorem dX2_putPin_36 : decode cX2_putPin 36 = .ok (.putfield 52, 3) := by decide +kernel
theorem dX2_putPin_39 : decode cX2_putPin 39 = .ok (.return_, 1) := by decide +kernel
theorem dX2_takePin_0 : decode cX2_takePin 0 = .ok (.aload_n 0, 1) := by decide +kernel
theorem dX2_takePin_1 : decode cX2_takePin 1 = .ok (.dup, 1) := by decide +kernel
theorem dX2_takePin_2 : decode cX2_takePin 2 = .ok (.getfield 52, 3) := by decide +kernel
theorem dX2_takePin_5 : decode cX2_takePin 5 = .ok (.iconst 1, 1) := by decide +kernel
theorem dX2_takePin_6 : decode cX2_takePin 6 = .ok (.isub, 1) := by decide +kernel
theorem dX2_takePin_7 : decode cX2_takePin 7 = .ok (.putfield 52, 3) := by decide +kernel
theorem dX2_takePin_10 : decode cX2_takePin 10 = .ok (.iload_n 1, 1) := by decide +kernel
theorem dX2_takePin_11 : decode cX2_takePin 11 = .ok (.istore_n 2, 1) := by decide +kernel
theorem dX2_takePin_12 : decode cX2_takePin 12 = .ok (.iload_n 2, 1) := by decide +kernel
theorem dX2_takePin_13 : decode cX2_takePin 13 = .ok (.aload_n 0, 1) := by decide +kernel
theorem dX2_takePin_14 : decode cX2_takePin 14 = .ok (.getfield 52, 3) := by decide +kernel
theorem dX2_takePin_17 : decode cX2_takePin 17 = .ok (.if_icmp .ge 37, 3) := by decide +kernel
theorem dX2_takePin_20 : decode cX2_takePin 20 = .ok (.aload_n 0, 1) := by decide +kernel
theorem dX2_takePin_21 : decode cX2_takePin 21 = .ok (.getfield 15, 3) := by decide +kernel
theorem dX2_takePin_24 : decode cX2_takePin 24 = .ok (.iload_n 2, 1) := by decide +kernel
theorem dX2_takePin_25 : decode cX2_takePin 25 = .ok (.aload_n 0, 1) := by decide +kernel
theorem dX2_takePin_26 : decode cX2_takePin 26 = .ok (.getfield 15, 3) := by decide +kernel
theorem dX2_takePin_29 : decode cX2_takePin 29 = .ok (.iload_n 2, 1) := by decide +kernel
theorem dX2_takePin_30 : decode cX2_takePin 30 = .ok (.iconst 1, 1) := by decide +kernel
theorem dX2_takePin_31 : decode cX2_takePin 31 = .ok (.iadd, 1) := by decide +kernel
theorem dX2_takePin_32 : decode cX2_takePin 32 = .ok (.iaload, 1) := by decide +kernel
theorem dX2_takePin_33 : decode cX2_takePin 33 = .ok (.iastore, 1) := by decide +kernel
theorem dX2_takePin_34 : decode cX2_takePin 34 = .ok (.aload_n 0, 1) := by decide +kernel
theorem dX2_takePin_35 : decode cX2_takePin 35 = .ok (.getfield 18, 3) := by decide +kernel
theorem dX2_takePin_38 : decode cX2_takePin 38 = .ok (.iload_n 2, 1) := by decide +kernel
theorem dX2_takePin_39 : decode cX2_takePin 39 = .ok (.aload_n 0, 1) := by decide +kernel
theorem dX2_takePin_40 : decode cX2_takePin 40 = .ok (.getfield 18, 3) := by decide +kernel
theorem dX2_takePin_43 : decode cX2_takePin 43 = .ok (.iload_n 2, 1) := by decide +kernel
theorem dX2_takePin_44 : decode cX2_takePin 44 = .ok (.iconst 1, 1) := by decide +kernel
theorem dX2_takePin_45 : decode cX2_takePin 45 = .ok (.iadd, 1) := by decide +kernel
theorem dX2_takePin_46 : decode cX2_takePin 46 = .ok (.iaload, 1) := by decide +kernel
theorem dX2_takePin_47 : decode cX2_takePin 47 = .ok (.iastore, 1) := by decide +kernel
theorem dX2_takePin_48 : decode cX2_takePin 48 = .ok (.iinc 2 1, 3) := by decide +kernel
theorem dX2_takePin_51 : decode cX2_takePin 51 = .ok (.goto (-39), 3) := by decide +kernel
theorem dX2_takePin_54 : decode cX2_takePin 54 = .ok (.return_, 1) := by decide +kernel
theorem dX2_standAllPins_0 : decode cX2_standAllPins 0 = .ok (.iconst 0, 1) := by decide +kernel
theorem dX2_standAllPins_1 : decode cX2_standAllPins 1 = .ok (.istore_n 1, 1) := by decide +kernel
theorem dX2_standAllPins_2 : decode cX2_standAllPins 2 = .ok (.iload_n 1, 1) := by decide +kernel
theorem dX2_standAllPins_3 : decode cX2_standAllPins 3 = .ok (.aload_n 0, 1) := by decide +kernel
theorem dX2_standAllPins_4 : decode cX2_standAllPins 4 = .ok (.getfield 52, 3) := by decide +kernel
theorem dX2_standAllPins_7 : decode cX2_standAllPins 7 = .ok (.if_icmp .ge 16, 3) := by decide +kernel
theorem dX2_standAllPins_10 : decode cX2_standAllPins 10 = .ok (.aload_n 0, 1) := by decide +kernel
theorem dX2_standAllPins_11 : decode cX2_standAllPins 11 = .ok (.getfield 18, 3) := by decide +kernel
theorem dX2_standAllPins_14 : decode cX2_standAllPins 14 = .ok (.iload_n 1, 1) := by decide +kernel
theorem dX2_standAllPins_15 : decode cX2_standAllPins 15 = .ok (.iconst 1, 1) := by decide +kernel
theorem dX2_standAllPins_16 : decode cX2_standAllPins 16 = .ok (.iastore, 1) := by decide +kernel
theorem dX2_standAllPins_17 : decode cX2_standAllPins 17 = .ok (.iinc 1 1, 3) := by decide +kernel
theorem dX2_standAllPins_20 : decode cX2_standAllPins 20 = .ok (.goto (-18), 3) := by decide +kernel
theorem dX2_standAllPins_23 : decode cX2_standAllPins 23 = .ok (.return_, 1) := by decide +kernel
theorem dX2_knockDown_0 : decode cX2_knockDown 0 = .ok (.aload_n 0, 1) := by decide +kernel
theorem dX2_knockDown_1 : decode cX2_knockDown 1 = .ok (.getfield 18, 3) := by decide +kernel
theorem dX2_knockDown_4 : decode cX2_knockDown 4 = .ok (.iload_n 1, 1) := by decide +kernel
theorem dX2_knockDown_5 : decode cX2_knockDown 5 = .ok (.iconst 0, 1) := by decide +kernel
theorem dX2_knockDown_6 : decode cX2_knockDown 6 = .ok (.iastore, 1) := by decide +kernel
theorem dX2_knockDown_7 : decode cX2_knockDown 7 = .ok (.aload_n 0, 1) := by decide +kernel
theorem dX2_knockDown_8 : decode cX2_knockDown 8 = .ok (.iconst 0, 1) := by decide +kernel
theorem dX2_knockDown_9 : decode cX2_knockDown 9 = .ok (.aload_n 0, 1) := by decide +kernel
theorem dX2_knockDown_10 : decode cX2_knockDown 10 = .ok (.getfield 46, 3) := by decide +kernel
theorem dX2_knockDown_13 : decode cX2_knockDown 13 = .ok (.bipush 50, 2) := by decide +kernel
theorem dX2_knockDown_15 : decode cX2_knockDown 15 = .ok (.isub, 1) := by decide +kernel
theorem dX2_knockDown_16 : decode cX2_knockDown 16 = .ok (.invokestatic 70, 3) := by decide +kernel
theorem dX2_knockDown_19 : decode cX2_knockDown 19 = .ok (.putfield 46, 3) := by decide +kernel
theorem dX2_knockDown_22 : decode cX2_knockDown 22 = .ok (.aload_n 0, 1) := by decide +kernel
theorem dX2_knockDown_23 : decode cX2_knockDown 23 = .ok (.aload_n 0, 1) := by decide +kernel
theorem dX2_knockDown_24 : decode cX2_knockDown 24 = .ok (.getfield 58, 3) := by decide +kernel
theorem dX2_knockDown_27 : decode cX2_knockDown 27 = .ok (.iconst 1, 1) := by decide +kernel
theorem dX2_knockDown_28 : decode cX2_knockDown 28 = .ok (.iadd, 1) := by decide +kernel
theorem dX2_knockDown_29 : decode cX2_knockDown 29 = .ok (.bipush 20, 2) := by decide +kernel
theorem dX2_knockDown_31 : decode cX2_knockDown 31 = .ok (.if_icmp .ge 12, 3) := by decide +kernel
theorem dX2_knockDown_34 : decode cX2_knockDown 34 = .ok (.aload_n 0, 1) := by decide +kernel
theorem dX2_knockDown_35 : decode cX2_knockDown 35 = .ok (.getfield 58, 3) := by decide +kernel
theorem dX2_knockDown_38 : decode cX2_knockDown 38 = .ok (.iconst 1, 1) := by decide +kernel
theorem dX2_knockDown_39 : decode cX2_knockDown 39 = .ok (.iadd, 1) := by decide +kernel
theorem dX2_knockDown_40 : decode cX2_knockDown 40 = .ok (.goto 4, 3) := by decide +kernel
theorem dX2_knockDown_43 : decode cX2_knockDown 43 = .ok (.iconst 0, 1) := by decide +kernel
theorem dX2_knockDown_44 : decode cX2_knockDown 44 = .ok (.putfield 58, 3) := by decide +kernel
theorem dX2_knockDown_47 : decode cX2_knockDown 47 = .ok (.aload_n 0, 1) := by decide +kernel
theorem dX2_knockDown_48 : decode cX2_knockDown 48 = .ok (.bipush 20, 2) := by decide +kernel
theorem dX2_knockDown_50 : decode cX2_knockDown 50 = .ok (.aload_n 0, 1) := by decide +kernel
theorem dX2_knockDown_51 : decode cX2_knockDown 51 = .ok (.getfield 55, 3) := by decide +kernel
theorem dX2_knockDown_54 : decode cX2_knockDown 54 = .ok (.iconst 1, 1) := by decide +kernel
theorem dX2_knockDown_55 : decode cX2_knockDown 55 = .ok (.iadd, 1) := by decide +kernel
theorem dX2_knockDown_56 : decode cX2_knockDown 56 = .ok (.invokestatic 64, 3) := by decide +kernel
theorem dX2_knockDown_59 : decode cX2_knockDown 59 = .ok (.putfield 55, 3) := by decide +kernel
theorem dX2_knockDown_62 : decode cX2_knockDown 62 = .ok (.aload_n 0, 1) := by decide +kernel
theorem dX2_knockDown_63 : decode cX2_knockDown 63 = .ok (.getfield 21, 3) := by decide +kernel
theorem dX2_knockDown_66 : decode cX2_knockDown 66 = .ok (.iconst 3, 1) := by decide +kernel
theorem dX2_knockDown_67 : decode cX2_knockDown 67 = .ok (.aload_n 0, 1) := by decide +kernel
theorem dX2_knockDown_68 : decode cX2_knockDown 68 = .ok (.getfield 58, 3) := by decide +kernel
theorem dX2_knockDown_71 : decode cX2_knockDown 71 = .ok (.imul, 1) := by decide +kernel
theorem dX2_knockDown_72 : decode cX2_knockDown 72 = .ok (.aload_n 0, 1) := by decide +kernel
theorem dX2_knockDown_73 : decode cX2_knockDown 73 = .ok (.getfield 15, 3) := by decide +kernel
theorem dX2_knockDown_76 : decode cX2_knockDown 76 = .ok (.iload_n 1, 1) := by decide +kernel
theorem dX2_knockDown_77 : decode cX2_knockDown 77 = .ok (.iaload, 1) := by decide +kernel
theorem dX2_knockDown_78 : decode cX2_knockDown 78 = .ok (.iastore, 1) := by decide +kernel
theorem dX2_knockDown_79 : decode cX2_knockDown 79 = .ok (.aload_n 0, 1) := by decide +kernel
theorem dX2_knockDown_80 : decode cX2_knockDown 80 = .ok (.getfield 21, 3) := by decide +kernel
theorem dX2_knockDown_83 : decode cX2_knockDown 83 = .ok (.iconst 3, 1) := by decide +kernel
theorem dX2_knockDown_84 : decode cX2_knockDown 84 = .ok (.aload_n 0, 1) := by decide +kernel
theorem dX2_knockDown_85 : decode cX2_knockDown 85 = .ok (.getfield 58, 3) := by decide +kernel
theorem dX2_knockDown_88 : decode cX2_knockDown 88 = .ok (.imul, 1) := by decide +kernel
theorem dX2_knockDown_89 : decode cX2_knockDown 89 = .ok (.iconst 1, 1) := by decide +kernel
theorem dX2_knockDown_90 : decode cX2_knockDown 90 = .ok (.iadd, 1) := by decide +kernel
theorem dX2_knockDown_91 : decode cX2_knockDown 91 = .ok (.aload_n 0, 1) := by decide +kernel
theorem dX2_knockDown_92 : decode cX2_knockDown 92 = .ok (.getfield 49, 3) := by decide +kernel
theorem dX2_knockDown_95 : decode cX2_knockDown 95 = .ok (.iastore, 1) := by decide +kernel
theorem dX2_knockDown_96 : decode cX2_knockDown 96 = .ok (.aload_n 0, 1) := by decide +kernel
theorem dX2_knockDown_97 : decode cX2_knockDown 97 = .ok (.getfield 21, 3) := by decide +kernel
theorem dX2_knockDown_100 : decode cX2_knockDown 100 = .ok (.iconst 3, 1) := by decide +kernel
theorem dX2_knockDown_101 : decode cX2_knockDown 101 = .ok (.aload_n 0, 1) := by decide +kernel
theorem dX2_knockDown_102 : decode cX2_knockDown 102 = .ok (.getfield 58, 3) := by decide +kernel
theorem dX2_knockDown_105 : decode cX2_knockDown 105 = .ok (.imul, 1) := by decide +kernel
theorem dX2_knockDown_106 : decode cX2_knockDown 106 = .ok (.iconst 2, 1) := by decide +kernel
theorem dX2_knockDown_107 : decode cX2_knockDown 107 = .ok (.iadd, 1) := by decide +kernel
theorem dX2_knockDown_108 : decode cX2_knockDown 108 = .ok (.aload_n 0, 1) := by decide +kernel
theorem dX2_knockDown_109 : decode cX2_knockDown 109 = .ok (.getfield 46, 3) := by decide +kernel
theorem dX2_knockDown_112 : decode cX2_knockDown 112 = .ok (.iastore, 1) := by decide +kernel
theorem dX2_knockDown_113 : decode cX2_knockDown 113 = .ok (.return_, 1) := by decide +kernel
theorem dX2_rowOfHit_0 : decode cX2_rowOfHit 0 = .ok (.iload_n 1, 1) := by decide +kernel
theorem dX2_rowOfHit_1 : decode cX2_rowOfHit 1 = .ok (.aload_n 0, 1) := by decide +kernel
theorem dX2_rowOfHit_2 : decode cX2_rowOfHit 2 = .ok (.getfield 58, 3) := by decide +kernel
theorem dX2_rowOfHit_5 : decode cX2_rowOfHit 5 = .ok (.if_icmp .gt 12, 3) := by decide +kernel
theorem dX2_rowOfHit_8 : decode cX2_rowOfHit 8 = .ok (.aload_n 0, 1) := by decide +kernel
theorem dX2_rowOfHit_9 : decode cX2_rowOfHit 9 = .ok (.getfield 58, 3) := by decide +kernel
theorem dX2_rowOfHit_12 : decode cX2_rowOfHit 12 = .ok (.iload_n 1, 1) := by decide +kernel
theorem dX2_rowOfHit_13 : decode cX2_rowOfHit 13 = .ok (.isub, 1) := by decide +kernel
theorem dX2_rowOfHit_14 : decode cX2_rowOfHit 14 = .ok (.goto 12, 3) := by decide +kernel
theorem dX2_rowOfHit_17 : decode cX2_rowOfHit 17 = .ok (.aload_n 0, 1) := by decide +kernel
theorem dX2_rowOfHit_18 : decode cX2_rowOfHit 18 = .ok (.getfield 58, 3) := by decide +kernel
theorem dX2_rowOfHit_21 : decode cX2_rowOfHit 21 = .ok (.iload_n 1, 1) := by decide +kernel
theorem dX2_rowOfHit_22 : decode cX2_rowOfHit 22 = .ok (.isub, 1) := by decide +kernel
theorem dX2_rowOfHit_23 : decode cX2_rowOfHit 23 = .ok (.bipush 20, 2) := by decide +kernel
theorem dX2_rowOfHit_25 : decode cX2_rowOfHit 25 = .ok (.iadd, 1) := by decide +kernel
theorem dX2_rowOfHit_26 : decode cX2_rowOfHit 26 = .ok (.ireturn, 1) := by decide +kernel
theorem dX2_noteReading_0 : decode cX2_noteReading 0 = .ok (.aload_n 0, 1) := by decide +kernel
theorem dX2_noteReading_1 : decode cX2_noteReading 1 = .ok (.getfield 61, 3) := by decide +kernel
theorem dX2_noteReading_4 : decode cX2_noteReading 4 = .ok (.bipush 20, 2) := by decide +kernel
theorem dX2_noteReading_6 : decode cX2_noteReading 6 = .ok (.if_icmp .ge 62, 3) := by decide +kernel
theorem dX2_noteReading_9 : decode cX2_noteReading 9 = .ok (.aload_n 0, 1) := by decide +kernel
theorem dX2_noteReading_10 : decode cX2_noteReading 10 = .ok (.getfield 24, 3) := by decide +kernel
theorem dX2_noteReading_13 : decode cX2_noteReading 13 = .ok (.iconst 3, 1) := by decide +kernel
theorem dX2_noteReading_14 : decode cX2_noteReading 14 = .ok (.aload_n 0, 1) := by decide +kernel
theorem dX2_noteReading_15 : decode cX2_noteReading 15 = .ok (.getfield 61, 3) := by decide +kernel
theorem dX2_noteReading_18 : decode cX2_noteReading 18 = .ok (.imul, 1) := by decide +kernel
theorem dX2_noteReading_19 : decode cX2_noteReading 19 = .ok (.aload_n 0, 1) := by decide +kernel
theorem dX2_noteReading_20 : decode cX2_noteReading 20 = .ok (.getfield 49, 3) := by decide +kernel
theorem dX2_noteReading_23 : decode cX2_noteReading 23 = .ok (.iastore, 1) := by decide +kernel
theorem dX2_noteReading_24 : decode cX2_noteReading 24 = .ok (.aload_n 0, 1) := by decide +kernel
theorem dX2_noteReading_25 : decode cX2_noteReading 25 = .ok (.getfield 24, 3) := by decide +kernel
theorem dX2_noteReading_28 : decode cX2_noteReading 28 = .ok (.iconst 3, 1) := by decide +kernel
theorem dX2_noteReading_29 : decode cX2_noteReading 29 = .ok (.aload_n 0, 1) := by decide +kernel
theorem dX2_noteReading_30 : decode cX2_noteReading 30 = .ok (.getfield 61, 3) := by decide +kernel
theorem dX2_noteReading_33 : decode cX2_noteReading 33 = .ok (.imul, 1) := by decide +kernel
theorem dX2_noteReading_34 : decode cX2_noteReading 34 = .ok (.iconst 1, 1) := by decide +kernel
theorem dX2_noteReading_35 : decode cX2_noteReading 35 = .ok (.iadd, 1) := by decide +kernel
theorem dX2_noteReading_36 : decode cX2_noteReading 36 = .ok (.aload_n 0, 1) := by decide +kernel
theorem dX2_noteReading_37 : decode cX2_noteReading 37 = .ok (.getfield 39, 3) := by decide +kernel
theorem dX2_noteReading_40 : decode cX2_noteReading 40 = .ok (.iastore, 1) := by decide +kernel
theorem dX2_noteReading_41 : decode cX2_noteReading 41 = .ok (.aload_n 0, 1) := by decide +kernel
theorem dX2_noteReading_42 : decode cX2_noteReading 42 = .ok (.getfield 24, 3) := by decide +kernel
theorem dX2_noteReading_45 : decode cX2_noteReading 45 = .ok (.iconst 3, 1) := by decide +kernel
theorem dX2_noteReading_46 : decode cX2_noteReading 46 = .ok (.aload_n 0, 1) := by decide +kernel
theorem dX2_noteReading_47 : decode cX2_noteReading 47 = .ok (.getfield 61, 3) := by decide +kernel
theorem dX2_noteReading_50 : decode cX2_noteReading 50 = .ok (.imul, 1) := by decide +kernel
theorem dX2_noteReading_51 : decode cX2_noteReading 51 = .ok (.iconst 2, 1) := by decide +kernel
theorem dX2_noteReading_52 : decode cX2_noteReading 52 = .ok (.iadd, 1) := by decide +kernel
theorem dX2_noteReading_53 : decode cX2_noteReading 53 = .ok (.aload_n 0, 1) := by decide +kernel
theorem dX2_noteReading_54 : decode cX2_noteReading 54 = .ok (.getfield 46, 3) := by decide +kernel
theorem dX2_noteReading_57 : decode cX2_noteReading 57 = .ok (.iastore, 1) := by decide +kernel
theorem dX2_noteReading_58 : decode cX2_noteReading 58 = .ok (.aload_n 0, 1) := by decide +kernel
theorem dX2_noteReading_59 : decode cX2_noteReading 59 = .ok (.dup, 1) := by decide +kernel
theorem dX2_noteReading_60 : decode cX2_noteReading 60 = .ok (.getfield 61, 3) := by decide +kernel
theorem dX2_noteReading_63 : decode cX2_noteReading 63 = .ok (.iconst 1, 1) := by decide +kernel
theorem dX2_noteReading_64 : decode cX2_noteReading 64 = .ok (.iadd, 1) := by decide +kernel
theorem dX2_noteReading_65 : decode cX2_noteReading 65 = .ok (.putfield 61, 3) := by decide +kernel
theorem dX2_noteReading_68 : decode cX2_noteReading 68 = .ok (.return_, 1) := by decide +kernel
theorem dX2_clockOf_0 : decode cX2_clockOf 0 = .ok (.aload_n 0, 1) := by decide +kernel
theorem dX2_clockOf_1 : decode cX2_clockOf 1 = .ok (.getfield 24, 3) := by decide +kernel
theorem dX2_clockOf_4 : decode cX2_clockOf 4 = .ok (.iconst 3, 1) := by decide +kernel
theorem dX2_clockOf_5 : decode cX2_clockOf 5 = .ok (.iload_n 1, 1) := by decide +kernel
theorem dX2_clockOf_6 : decode cX2_clockOf 6 = .ok (.imul, 1) := by decide +kernel
theorem dX2_clockOf_7 : decode cX2_clockOf 7 = .ok (.iaload, 1) := by decide +kernel
theorem dX2_clockOf_8 : decode cX2_clockOf 8 = .ok (.ireturn, 1) := by decide +kernel
theorem dX2_directionOf_0 : decode cX2_directionOf 0 = .ok (.aload_n 0, 1) := by decide +kernel
theorem dX2_directionOf_1 : decode cX2_directionOf 1 = .ok (.getfield 24, 3) := by decide +kernel
theorem dX2_directionOf_4 : decode cX2_directionOf 4 = .ok (.iconst 3, 1) := by decide +kernel
theorem dX2_directionOf_5 : decode cX2_directionOf 5 = .ok (.iload_n 1, 1) := by decide +kernel
theorem dX2_directionOf_6 : decode cX2_directionOf 6 = .ok (.imul, 1) := by decide +kernel
theorem dX2_directionOf_7 : decode cX2_directionOf 7 = .ok (.iconst 1, 1) := by decide +kernel
theorem dX2_directionOf_8 : decode cX2_directionOf 8 = .ok (.iadd, 1) := by decide +kernel
theorem dX2_directionOf_9 : decode cX2_directionOf 9 = .ok (.iaload, 1) := by decide +kernel
theorem dX2_directionOf_10 : decode cX2_directionOf 10 = .ok (.ireturn, 1) := by decide +kernel
theorem dX2_moveBetween_0 : decode cX2_moveBetween 0 = .ok (.aload_n 0, 1) := by decide +kernel
theorem dX2_moveBetween_1 : decode cX2_moveBetween 1 = .ok (.iload_n 2, 1) := by decide +kernel
theorem dX2_moveBetween_2 : decode cX2_moveBetween 2 = .ok (.invokevirtual 84, 3) := by decide +kernel
theorem dX2_moveBetween_5 : decode cX2_moveBetween 5 = .ok (.aload_n 0, 1) := by decide +kernel
theorem dX2_moveBetween_6 : decode cX2_moveBetween 6 = .ok (.iload_n 1, 1) := by decide +kernel
theorem dX2_moveBetween_7 : decode cX2_moveBetween 7 = .ok (.invokevirtual 84, 3) := by decide +kernel
theorem dX2_moveBetween_10 : decode cX2_moveBetween 10 = .ok (.isub, 1) := by decide +kernel
theorem dX2_moveBetween_11 : decode cX2_moveBetween 11 = .ok (.invokestatic 73, 3) := by decide +kernel
theorem dX2_moveBetween_14 : decode cX2_moveBetween 14 = .ok (.ireturn, 1) := by decide +kernel
theorem dX2_distanceFromExpected_0 : decode cX2_distanceFromExpected 0 = .ok (.aload_n 0, 1) := by decide +kernel
theorem dX2_distanceFromExpected_1 : decode cX2_distanceFromExpected 1 = .ok (.iload_n 2, 1) := by decide +kernel
theorem dX2_distanceFromExpected_2 : decode cX2_distanceFromExpected 2 = .ok (.invokevirtual 87, 3) := by decide +kernel
theorem dX2_distanceFromExpected_5 : decode cX2_distanceFromExpected 5 = .ok (.aload_n 0, 1) := by decide +kernel
theorem dX2_distanceFromExpected_6 : decode cX2_distanceFromExpected 6 = .ok (.iload_n 1, 1) := by decide +kernel
theorem dX2_distanceFromExpected_7 : decode cX2_distanceFromExpected 7 = .ok (.invokevirtual 87, 3) := by decide +kernel
theorem dX2_distanceFromExpected_10 : decode cX2_distanceFromExpected 10 = .ok (.isub, 1) := by decide +kernel
theorem dX2_distanceFromExpected_11 : decode cX2_distanceFromExpected 11 = .ok (.i2l, 1) := by decide +kernel
theorem dX2_distanceFromExpected_12 : decode cX2_distanceFromExpected 12 = .ok (.lstore 4, 2) := by decide +kernel
theorem dX2_distanceFromExpected_14 : decode cX2_distanceFromExpected 14 = .ok (.ldc2_w 90, 3) := by decide +kernel
theorem dX2_distanceFromExpected_17 : decode cX2_distanceFromExpected 17 = .ok (.iload_n 3, 1) := by decide +kernel
theorem dX2_distanceFromExpected_18 : decode cX2_distanceFromExpected 18 = .ok (.invokestatic 92, 3) := by decide +kernel
theorem dX2_distanceFromExpected_21 : decode cX2_distanceFromExpected 21 = .ok (.i2l, 1) := by decide +kernel
theorem dX2_distanceFromExpected_22 : decode cX2_distanceFromExpected 22 = .ok (.lmul, 1) := by decide +kernel
theorem dX2_distanceFromExpected_23 : decode cX2_distanceFromExpected 23 = .ok (.lload 4, 2) := by decide +kernel
theorem dX2_distanceFromExpected_25 : decode cX2_distanceFromExpected 25 = .ok (.lmul, 1) := by decide +kernel
theorem dX2_distanceFromExpected_26 : decode cX2_distanceFromExpected 26 = .ok (.aload_n 0, 1) := by decide +kernel
theorem dX2_distanceFromExpected_27 : decode cX2_distanceFromExpected 27 = .ok (.invokevirtual 95, 3) := by decide +kernel
theorem dX2_distanceFromExpected_30 : decode cX2_distanceFromExpected 30 = .ok (.i2l, 1) := by decide +kernel
theorem dX2_distanceFromExpected_31 : decode cX2_distanceFromExpected 31 = .ok (.invokestatic 99, 3) := by decide +kernel
theorem dX2_distanceFromExpected_34 : decode cX2_distanceFromExpected 34 = .ok (.lstore 6, 2) := by decide +kernel
theorem dX2_distanceFromExpected_36 : decode cX2_distanceFromExpected 36 = .ok (.aload_n 0, 1) := by decide +kernel
theorem dX2_distanceFromExpected_37 : decode cX2_distanceFromExpected 37 = .ok (.iload_n 1, 1) := by decide +kernel
theorem dX2_distanceFromExpected_38 : decode cX2_distanceFromExpected 38 = .ok (.invokevirtual 84, 3) := by decide +kernel
theorem dX2_distanceFromExpected_41 : decode cX2_distanceFromExpected 41 = .ok (.i2l, 1) := by decide +kernel
theorem dX2_distanceFromExpected_42 : decode cX2_distanceFromExpected 42 = .ok (.lload 6, 2) := by decide +kernel
theorem dX2_distanceFromExpected_44 : decode cX2_distanceFromExpected 44 = .ok (.ladd, 1) := by decide +kernel
theorem dX2_distanceFromExpected_45 : decode cX2_distanceFromExpected 45 = .ok (.ldc2_w 103, 3) := by decide +kernel
theorem dX2_distanceFromExpected_48 : decode cX2_distanceFromExpected 48 = .ok (.invokestatic 105, 3) := by decide +kernel
theorem dX2_distanceFromExpected_51 : decode cX2_distanceFromExpected 51 = .ok (.l2i, 1) := by decide +kernel
theorem dX2_distanceFromExpected_52 : decode cX2_distanceFromExpected 52 = .ok (.istore 8, 2) := by decide +kernel
theorem dX2_distanceFromExpected_54 : decode cX2_distanceFromExpected 54 = .ok (.aload_n 0, 1) := by decide +kernel
theorem dX2_distanceFromExpected_55 : decode cX2_distanceFromExpected 55 = .ok (.iload_n 2, 1) := by decide +kernel
theorem dX2_distanceFromExpected_56 : decode cX2_distanceFromExpected 56 = .ok (.invokevirtual 84, 3) := by decide +kernel
theorem dX2_distanceFromExpected_59 : decode cX2_distanceFromExpected 59 = .ok (.iload 8, 2) := by decide +kernel
theorem dX2_distanceFromExpected_61 : decode cX2_distanceFromExpected 61 = .ok (.isub, 1) := by decide +kernel
theorem dX2_distanceFromExpected_62 : decode cX2_distanceFromExpected 62 = .ok (.invokestatic 73, 3) := by decide +kernel
theorem dX2_distanceFromExpected_65 : decode cX2_distanceFromExpected 65 = .ok (.istore 9, 2) := by decide +kernel
theorem dX2_distanceFromExpected_67 : decode cX2_distanceFromExpected 67 = .ok (.iload 9, 2) := by decide +kernel
theorem dX2_distanceFromExpected_69 : decode cX2_distanceFromExpected 69 = .ok (.sipush 10800, 3) := by decide +kernel
theorem dX2_distanceFromExpected_72 : decode cX2_distanceFromExpected 72 = .ok (.iload 9, 2) := by decide +kernel
theorem dX2_distanceFromExpected_74 : decode cX2_distanceFromExpected 74 = .ok (.isub, 1) := by decide +kernel
theorem dX2_distanceFromExpected_75 : decode cX2_distanceFromExpected 75 = .ok (.invokestatic 64, 3) := by decide +kernel
theorem dX2_distanceFromExpected_78 : decode cX2_distanceFromExpected 78 = .ok (.ireturn, 1) := by decide +kernel
theorem dX3_init_0 : decode cX3_init 0 = .ok (.aload_n 0, 1) := by decide +kernel
theorem dX3_init_1 : decode cX3_init 1 = .ok (.invokespecial 3, 3) := by decide +kernel
theorem dX3_init_4 : decode cX3_init 4 = .ok (.aload_n 0, 1) := by decide +kernel
theorem dX3_init_5 : decode cX3_init 5 = .ok (.bipush 100, 2) := by decide +kernel
theorem dX3_init_7 : decode cX3_init 7 = .ok (.newarray .char, 2) := by decide +kernel
theorem dX3_init_9 : decode cX3_init 9 = .ok (.putfield 11, 3) := by decide +kernel
theorem dX3_init_12 : decode cX3_init 12 = .ok (.return_, 1) := by decide +kernel
theorem dX3_firstError_0 : decode cX3_firstError 0 = .ok (.iconst 0, 1) := by decide +kernel
theorem dX3_firstError_1 : decode cX3_firstError 1 = .ok (.istore_n 1, 1) := by decide +kernel
theorem dX3_firstError_2 : decode cX3_firstError 2 = .ok (.iload_n 1, 1) := by decide +kernel
theorem dX3_firstError_3 : decode cX3_firstError 3 = .ok (.aload_n 0, 1) := by decide +kernel
theorem dX3_firstError_4 : decode cX3_firstError 4 = .ok (.getfield 15, 3) := by decide +kernel
theorem dX3_firstError_7 : decode cX3_firstError 7 = .ok (.if_icmp .ge 19, 3) := by decide +kernel
theorem dX3_firstError_10 : decode cX3_firstError 10 = .ok (.aload_n 0, 1) := by decide +kernel
theorem dX3_firstError_11 : decode cX3_firstError 11 = .ok (.iload_n 1, 1) := by decide +kernel
theorem dX3_firstError_12 : decode cX3_firstError 12 = .ok (.invokevirtual 19, 3) := by decide +kernel
theorem dX3_firstError_15 : decode cX3_firstError 15 = .ok (.ifCond .ne 5, 3) := by decide +kernel
theorem dX3_firstError_18 : decode cX3_firstError 18 = .ok (.iload_n 1, 1) := by decide +kernel
theorem dX3_firstError_19 : decode cX3_firstError 19 = .ok (.ireturn, 1) := by decide +kernel
theorem dX3_firstError_20 : decode cX3_firstError 20 = .ok (.iinc 1 1, 3) := by decide +kernel
theorem dX3_firstError_23 : decode cX3_firstError 23 = .ok (.goto (-21), 3) := by decide +kernel
theorem dX3_firstError_26 : decode cX3_firstError 26 = .ok (.aload_n 0, 1) := by decide +kernel
theorem dX3_firstError_27 : decode cX3_firstError 27 = .ok (.getfield 15, 3) := by decide +kernel
theorem dX3_firstError_30 : decode cX3_firstError 30 = .ok (.bipush 13, 2) := by decide +kernel
theorem dX3_firstError_32 : decode cX3_firstError 32 = .ok (.if_icmp .lt 19, 3) := by decide +kernel
theorem dX3_firstError_35 : decode cX3_firstError 35 = .ok (.aload_n 0, 1) := by decide +kernel
theorem dX3_firstError_36 : decode cX3_firstError 36 = .ok (.getfield 15, 3) := by decide +kernel
theorem dX3_firstError_39 : decode cX3_firstError 39 = .ok (.bipush 13, 2) := by decide +kernel
theorem dX3_firstError_41 : decode cX3_firstError 41 = .ok (.isub, 1) := by decide +kernel
theorem dX3_firstError_42 : decode cX3_firstError 42 = .ok (.iconst 4, 1) := by decide +kernel
theorem dX3_firstError_43 : decode cX3_firstError 43 = .ok (.irem, 1) := by decide +kernel
theorem dX3_firstError_44 : decode cX3_firstError 44 = .ok (.ifCond .ne 7, 3) := by decide +kernel
theorem dX3_firstError_47 : decode cX3_firstError 47 = .ok (.iconst 1, 1) := by decide +kernel
theorem dX3_firstError_48 : decode cX3_firstError 48 = .ok (.goto 4, 3) := by decide +kernel
theorem dX3_firstError_51 : decode cX3_firstError 51 = .ok (.iconst 0, 1) := by decide +kernel
theorem dX3_firstError_52 : decode cX3_firstError 52 = .ok (.istore_n 1, 1) := by decide +kernel
theorem dX3_firstError_53 : decode cX3_firstError 53 = .ok (.iload_n 1, 1) := by decide +kernel
theorem dX3_firstError_54 : decode cX3_firstError 54 = .ok (.ifCond .eq 8, 3) := by decide +kernel
theorem dX3_firstError_57 : decode cX3_firstError 57 = .ok (.bipush (-9), 2) := by decide +kernel
theorem dX3_firstError_59 : decode cX3_firstError 59 = .ok (.goto 7, 3) := by decide +kernel
theorem dX3_firstError_62 : decode cX3_firstError 62 = .ok (.aload_n 0, 1) := by decide +kernel
theorem dX3_firstError_63 : decode cX3_firstError 63 = .ok (.getfield 15, 3) := by decide +kernel
theorem dX3_firstError_66 : decode cX3_firstError 66 = .ok (.ireturn, 1) := by decide +kernel
theorem dX3_latitude_0 : decode cX3_latitude 0 = .ok (.aload_n 0, 1) := by decide +kernel
theorem dX3_latitude_1 : decode cX3_latitude 1 = .ok (.iconst 2, 1) := by decide +kernel
theorem dX3_latitude_2 : decode cX3_latitude 2 = .ok (.iconst 4, 1) := by decide +kernel
theorem dX3_latitude_3 : decode cX3_latitude 3 = .ok (.invokevirtual 23, 3) := by decide +kernel
theorem dX3_latitude_6 : decode cX3_latitude 6 = .ok (.istore_n 1, 1) := by decide +kernel
theorem dX3_latitude_7 : decode cX3_latitude 7 = .ok (.aload_n 0, 1) := by decide +kernel
theorem dX3_latitude_8 : decode cX3_latitude 8 = .ok (.getfield 11, 3) := by decide +kernel
theorem dX3_latitude_11 : decode cX3_latitude 11 = .ok (.iconst 1, 1) := by decide +kernel
theorem dX3_latitude_12 : decode cX3_latitude 12 = .ok (.caload, 1) := by decide +kernel
theorem dX3_latitude_13 : decode cX3_latitude 13 = .ok (.bipush 45, 2) := by decide +kernel
theorem dX3_latitude_15 : decode cX3_latitude 15 = .ok (.if_icmp .ne 8, 3) := by decide +kernel
theorem dX3_latitude_18 : decode cX3_latitude 18 = .ok (.iload_n 1, 1) := by decide +kernel
theorem dX3_latitude_19 : decode cX3_latitude 19 = .ok (.ineg, 1) := by decide +kernel
theorem dX3_latitude_20 : decode cX3_latitude 20 = .ok (.goto 4, 3) := by decide +kernel
theorem dX3_latitude_23 : decode cX3_latitude 23 = .ok (.iload_n 1, 1) := by decide +kernel
theorem dX3_latitude_24 : decode cX3_latitude 24 = .ok (.ireturn, 1) := by decide +kernel
theorem dX3_turnsInHour_0 : decode cX3_turnsInHour 0 = .ok (.aload_n 0, 1) := by decide +kernel
theorem dX3_turnsInHour_1 : decode cX3_turnsInHour 1 = .ok (.iconst 4, 1) := by decide +kernel
theorem dX3_turnsInHour_2 : decode cX3_turnsInHour 2 = .ok (.bipush 7, 2) := by decide +kernel
theorem dX3_turnsInHour_4 : decode cX3_turnsInHour 4 = .ok (.invokevirtual 23, 3) := by decide +kernel
theorem dX3_turnsInHour_7 : decode cX3_turnsInHour 7 = .ok (.ireturn, 1) := by decide +kernel
theorem dX3_drag_0 : decode cX3_drag 0 = .ok (.aload_n 0, 1) := by decide +kernel
theorem dX3_drag_1 : decode cX3_drag 1 = .ok (.bipush 7, 2) := by decide +kernel
theorem dX3_drag_3 : decode cX3_drag 3 = .ok (.bipush 9, 2) := by decide +kernel
theorem dX3_drag_5 : decode cX3_drag 5 = .ok (.invokevirtual 23, 3) := by decide +kernel
theorem dX3_drag_8 : decode cX3_drag 8 = .ok (.ireturn, 1) := by decide +kernel
theorem dX3_height_0 : decode cX3_height 0 = .ok (.aload_n 0, 1) := by decide +kernel
theorem dX3_height_1 : decode cX3_height 1 = .ok (.bipush 9, 2) := by decide +kernel
theorem dX3_height_3 : decode cX3_height 3 = .ok (.bipush 13, 2) := by decide +kernel
theorem dX3_height_5 : decode cX3_height 5 = .ok (.invokevirtual 23, 3) := by decide +kernel
theorem dX3_height_8 : decode cX3_height 8 = .ok (.ireturn, 1) := by decide +kernel
theorem dX3_pins_0 : decode cX3_pins 0 = .ok (.aload_n 0, 1) := by decide +kernel
theorem dX3_pins_1 : decode cX3_pins 1 = .ok (.getfield 15, 3) := by decide +kernel
theorem dX3_pins_4 : decode cX3_pins 4 = .ok (.bipush 13, 2) := by decide +kernel
theorem dX3_pins_6 : decode cX3_pins 6 = .ok (.isub, 1) := by decide +kernel
theorem dX3_pins_7 : decode cX3_pins 7 = .ok (.iconst 4, 1) := by decide +kernel
theorem dX3_pins_8 : decode cX3_pins 8 = .ok (.idiv, 1) := by decide +kernel
theorem dX3_pins_9 : decode cX3_pins 9 = .ok (.ireturn, 1) := by decide +kernel
theorem dX3_placeOfPin_0 : decode cX3_placeOfPin 0 = .ok (.bipush 60, 2) := by decide +kernel
theorem dX3_placeOfPin_2 : decode cX3_placeOfPin 2 = .ok (.aload_n 0, 1) := by decide +kernel
theorem dX3_placeOfPin_3 : decode cX3_placeOfPin 3 = .ok (.iload_n 1, 1) := by decide +kernel
theorem dX3_placeOfPin_4 : decode cX3_placeOfPin 4 = .ok (.invokevirtual 27, 3) := by decide +kernel
theorem dX3_placeOfPin_7 : decode cX3_placeOfPin 7 = .ok (.imul, 1) := by decide +kernel
theorem dX3_placeOfPin_8 : decode cX3_placeOfPin 8 = .ok (.ireturn, 1) := by decide +kernel
theorem dX3_degreesOfPin_0 : decode cX3_degreesOfPin 0 = .ok (.bipush 13, 2) := by decide +kernel
theorem dX3_degreesOfPin_2 : decode cX3_degreesOfPin 2 = .ok (.iconst 4, 1) := by decide +kernel
theorem dX3_degreesOfPin_3 : decode cX3_degreesOfPin 3 = .ok (.iload_n 1, 1) := by decide +kernel
theorem dX3_degreesOfPin_4 : decode cX3_degreesOfPin 4 = .ok (.imul, 1) := by decide +kernel
theorem dX3_degreesOfPin_5 : decode cX3_degreesOfPin 5 = .ok (.iadd, 1) := by decide +kernel
theorem dX3_degreesOfPin_6 : decode cX3_degreesOfPin 6 = .ok (.istore_n 2, 1) := by decide +kernel
theorem dX3_degreesOfPin_7 : decode cX3_degreesOfPin 7 = .ok (.aload_n 0, 1) := by decide +kernel
theorem dX3_degreesOfPin_8 : decode cX3_degreesOfPin 8 = .ok (.iload_n 2, 1) := by decide +kernel
theorem dX3_degreesOfPin_9 : decode cX3_degreesOfPin 9 = .ok (.iconst 1, 1) := by decide +kernel
theorem dX3_degreesOfPin_10 : decode cX3_degreesOfPin 10 = .ok (.iadd, 1) := by decide +kernel
theorem dX3_degreesOfPin_11 : decode cX3_degreesOfPin 11 = .ok (.iload_n 2, 1) := by decide +kernel
theorem dX3_degreesOfPin_12 : decode cX3_degreesOfPin 12 = .ok (.iconst 4, 1) := by decide +kernel
theorem dX3_degreesOfPin_13 : decode cX3_degreesOfPin 13 = .ok (.iadd, 1) := by decide +kernel
theorem dX3_degreesOfPin_14 : decode cX3_degreesOfPin 14 = .ok (.invokevirtual 23, 3) := by decide +kernel
theorem dX3_degreesOfPin_17 : decode cX3_degreesOfPin 17 = .ok (.ireturn, 1) := by decide +kernel
theorem dX3_number_0 : decode cX3_number 0 = .ok (.iconst 0, 1) := by decide +kernel
theorem dX3_number_1 : decode cX3_number 1 = .ok (.istore_n 3, 1) := by decide +kernel
theorem dX3_number_2 : decode cX3_number 2 = .ok (.iload_n 1, 1) := by decide +kernel
theorem dX3_number_3 : decode cX3_number 3 = .ok (.istore 4, 2) := by decide +kernel
theorem dX3_number_5 : decode cX3_number 5 = .ok (.iload 4, 2) := by decide +kernel
theorem dX3_number_7 : decode cX3_number 7 = .ok (.iload_n 2, 1) := by decide +kernel
theorem dX3_number_8 : decode cX3_number 8 = .ok (.if_icmp .ge 34, 3) := by decide +kernel
theorem dX3_number_11 : decode cX3_number 11 = .ok (.iload 4, 2) := by decide +kernel
theorem dX3_number_13 : decode cX3_number 13 = .ok (.aload_n 0, 1) := by decide +kernel
theorem dX3_number_14 : decode cX3_number 14 = .ok (.getfield 15, 3) := by decide +kernel
theorem dX3_number_17 : decode cX3_number 17 = .ok (.if_icmp .ge 25, 3) := by decide +kernel
theorem dX3_number_20 : decode cX3_number 20 = .ok (.bipush 10, 2) := by decide +kernel
theorem dX3_number_22 : decode cX3_number 22 = .ok (.iload_n 3, 1) := by decide +kernel
theorem dX3_number_23 : decode cX3_number 23 = .ok (.imul, 1) := by decide +kernel
theorem dX3_number_24 : decode cX3_number 24 = .ok (.aload_n 0, 1) := by decide +kernel
theorem dX3_number_25 : decode cX3_number 25 = .ok (.getfield 11, 3) := by decide +kernel
theorem dX3_number_28 : decode cX3_number 28 = .ok (.iload 4, 2) := by decide +kernel
theorem dX3_number_30 : decode cX3_number 30 = .ok (.caload, 1) := by decide +kernel
theorem dX3_number_31 : decode cX3_number 31 = .ok (.bipush 48, 2) := by decide +kernel
theorem dX3_number_33 : decode cX3_number 33 = .ok (.isub, 1) := by decide +kernel
theorem dX3_number_34 : decode cX3_number 34 = .ok (.iadd, 1) := by decide +kernel
theorem dX3_number_35 : decode cX3_number 35 = .ok (.istore_n 3, 1) := by decide +kernel
theorem dX3_number_36 : decode cX3_number 36 = .ok (.iinc 4 1, 3) := by decide +kernel
theorem dX3_number_39 : decode cX3_number 39 = .ok (.goto (-34), 3) := by decide +kernel
theorem dX3_number_42 : decode cX3_number 42 = .ok (.iload_n 3, 1) := by decide +kernel
theorem dX3_number_43 : decode cX3_number 43 = .ok (.ireturn, 1) := by decide +kernel
theorem dX3_isAllowed_0 : decode cX3_isAllowed 0 = .ok (.iload_n 1, 1) := by decide +kernel
theorem dX3_isAllowed_1 : decode cX3_isAllowed 1 = .ok (.ifCond .ne 20, 3) := by decide +kernel
theorem dX3_isAllowed_4 : decode cX3_isAllowed 4 = .ok (.aload_n 0, 1) := by decide +kernel
theorem dX3_isAllowed_5 : decode cX3_isAllowed 5 = .ok (.getfield 11, 3) := by decide +kernel
theorem dX3_isAllowed_8 : decode cX3_isAllowed 8 = .ok (.iload_n 1, 1) := by decide +kernel
theorem dX3_isAllowed_9 : decode cX3_isAllowed 9 = .ok (.caload, 1) := by decide +kernel
theorem dX3_isAllowed_10 : decode cX3_isAllowed 10 = .ok (.bipush 70, 2) := by decide +kernel
theorem dX3_isAllowed_12 : decode cX3_isAllowed 12 = .ok (.if_icmp .ne 7, 3) := by decide +kernel
theorem dX3_isAllowed_15 : decode cX3_isAllowed 15 = .ok (.iconst 1, 1) := by decide +kernel
theorem dX3_isAllowed_16 : decode cX3_isAllowed 16 = .ok (.goto 4, 3) := by decide +kernel
theorem dX3_isAllowed_19 : decode cX3_isAllowed 19 = .ok (.iconst 0, 1) := by decide +kernel
theorem dX3_isAllowed_20 : decode cX3_isAllowed 20 = .ok (.ireturn, 1) := by decide +kernel
theorem dX3_isAllowed_21 : decode cX3_isAllowed 21 = .ok (.iload_n 1, 1) := by decide +kernel
theorem dX3_isAllowed_22 : decode cX3_isAllowed 22 = .ok (.iconst 2, 1) := by decide +kernel
theorem dX3_isAllowed_23 : decode cX3_isAllowed 23 = .ok (.if_icmp .ge 31, 3) := by decide +kernel
theorem dX3_isAllowed_26 : decode cX3_isAllowed 26 = .ok (.aload_n 0, 1) := by decide +kernel
theorem dX3_isAllowed_27 : decode cX3_isAllowed 27 = .ok (.getfield 11, 3) := by decide +kernel
theorem dX3_isAllowed_30 : decode cX3_isAllowed 30 = .ok (.iload_n 1, 1) := by decide +kernel
theorem dX3_isAllowed_31 : decode cX3_isAllowed 31 = .ok (.caload, 1) := by decide +kernel
theorem dX3_isAllowed_32 : decode cX3_isAllowed 32 = .ok (.bipush 43, 2) := by decide +kernel
theorem dX3_isAllowed_34 : decode cX3_isAllowed 34 = .ok (.if_icmp .eq 14, 3) := by decide +kernel
theorem dX3_isAllowed_37 : decode cX3_isAllowed 37 = .ok (.aload_n 0, 1) := by decide +kernel
theorem dX3_isAllowed_38 : decode cX3_isAllowed 38 = .ok (.getfield 11, 3) := by decide +kernel
theorem dX3_isAllowed_41 : decode cX3_isAllowed 41 = .ok (.iload_n 1, 1) := by decide +kernel
theorem dX3_isAllowed_42 : decode cX3_isAllowed 42 = .ok (.caload, 1) := by decide +kernel
theorem dX3_isAllowed_43 : decode cX3_isAllowed 43 = .ok (.bipush 45, 2) := by decide +kernel
theorem dX3_isAllowed_45 : decode cX3_isAllowed 45 = .ok (.if_icmp .ne 7, 3) := by decide +kernel
theorem dX3_isAllowed_48 : decode cX3_isAllowed 48 = .ok (.iconst 1, 1) := by decide +kernel
theorem dX3_isAllowed_49 : decode cX3_isAllowed 49 = .ok (.goto 4, 3) := by decide +kernel
theorem dX3_isAllowed_52 : decode cX3_isAllowed 52 = .ok (.iconst 0, 1) := by decide +kernel
theorem dX3_isAllowed_53 : decode cX3_isAllowed 53 = .ok (.ireturn, 1) := by decide +kernel
theorem dX3_isAllowed_54 : decode cX3_isAllowed 54 = .ok (.iload_n 1, 1) := by decide +kernel
theorem dX3_isAllowed_55 : decode cX3_isAllowed 55 = .ok (.bipush 13, 2) := by decide +kernel
theorem dX3_isAllowed_57 : decode cX3_isAllowed 57 = .ok (.if_icmp .ge 25, 3) := by decide +kernel
theorem dX3_isAllowed_60 : decode cX3_isAllowed 60 = .ok (.aload_n 0, 1) := by decide +kernel
theorem dX3_isAllowed_61 : decode cX3_isAllowed 61 = .ok (.iload_n 1, 1) := by decide +kernel
theorem dX3_isAllowed_62 : decode cX3_isAllowed 62 = .ok (.invokevirtual 31, 3) := by decide +kernel
theorem dX3_isAllowed_65 : decode cX3_isAllowed 65 = .ok (.ifCond .eq 15, 3) := by decide +kernel
theorem dX3_isAllowed_68 : decode cX3_isAllowed 68 = .ok (.aload_n 0, 1) := by decide +kernel
theorem dX3_isAllowed_69 : decode cX3_isAllowed 69 = .ok (.iload_n 1, 1) := by decide +kernel
theorem dX3_isAllowed_70 : decode cX3_isAllowed 70 = .ok (.invokevirtual 34, 3) := by decide +kernel
theorem dX3_isAllowed_73 : decode cX3_isAllowed 73 = .ok (.ifCond .eq 7, 3) := by decide +kernel
theorem dX3_isAllowed_76 : decode cX3_isAllowed 76 = .ok (.iconst 1, 1) := by decide +kernel
theorem dX3_isAllowed_77 : decode cX3_isAllowed 77 = .ok (.goto 4, 3) := by decide +kernel
theorem dX3_isAllowed_80 : decode cX3_isAllowed 80 = .ok (.iconst 0, 1) := by decide +kernel
theorem dX3_isAllowed_81 : decode cX3_isAllowed 81 = .ok (.ireturn, 1) := by decide +kernel
theorem dX3_isAllowed_82 : decode cX3_isAllowed 82 = .ok (.iload_n 1, 1) := by decide +kernel
theorem dX3_isAllowed_83 : decode cX3_isAllowed 83 = .ok (.bipush 93, 2) := by decide +kernel
theorem dX3_isAllowed_85 : decode cX3_isAllowed 85 = .ok (.if_icmp .lt 5, 3) := by decide +kernel
theorem dX3_isAllowed_88 : decode cX3_isAllowed 88 = .ok (.iconst 0, 1) := by decide +kernel
theorem dX3_isAllowed_89 : decode cX3_isAllowed 89 = .ok (.ireturn, 1) := by decide +kernel
theorem dX3_isAllowed_90 : decode cX3_isAllowed 90 = .ok (.iload_n 1, 1) := by decide +kernel
theorem dX3_isAllowed_91 : decode cX3_isAllowed 91 = .ok (.bipush 13, 2) := by decide +kernel
theorem dX3_isAllowed_93 : decode cX3_isAllowed 93 = .ok (.isub, 1) := by decide +kernel
theorem dX3_isAllowed_94 : decode cX3_isAllowed 94 = .ok (.iconst 4, 1) := by decide +kernel
theorem dX3_isAllowed_95 : decode cX3_isAllowed 95 = .ok (.irem, 1) := by decide +kernel
theorem dX3_isAllowed_96 : decode cX3_isAllowed 96 = .ok (.ifCond .ne 20, 3) := by decide +kernel
theorem dX3_isAllowed_99 : decode cX3_isAllowed 99 = .ok (.aload_n 0, 1) := by decide +kernel
theorem dX3_isAllowed_100 : decode cX3_isAllowed 100 = .ok (.getfield 11, 3) := by decide +kernel
theorem dX3_isAllowed_103 : decode cX3_isAllowed 103 = .ok (.iload_n 1, 1) := by decide +kernel
theorem dX3_isAllowed_104 : decode cX3_isAllowed 104 = .ok (.caload, 1) := by decide +kernel
theorem dX3_isAllowed_105 : decode cX3_isAllowed 105 = .ok (.bipush 112, 2) := by decide +kernel
theorem dX3_isAllowed_107 : decode cX3_isAllowed 107 = .ok (.if_icmp .ne 7, 3) := by decide +kernel
theorem dX3_isAllowed_110 : decode cX3_isAllowed 110 = .ok (.iconst 1, 1) := by decide +kernel
theorem dX3_isAllowed_111 : decode cX3_isAllowed 111 = .ok (.goto 4, 3) := by decide +kernel
theorem dX3_isAllowed_114 : decode cX3_isAllowed 114 = .ok (.iconst 0, 1) := by decide +kernel
theorem dX3_isAllowed_115 : decode cX3_isAllowed 115 = .ok (.ireturn, 1) := by decide +kernel
theorem dX3_isAllowed_116 : decode cX3_isAllowed 116 = .ok (.aload_n 0, 1) := by decide +kernel
theorem dX3_isAllowed_117 : decode cX3_isAllowed 117 = .ok (.iload_n 1, 1) := by decide +kernel
theorem dX3_isAllowed_118 : decode cX3_isAllowed 118 = .ok (.invokevirtual 31, 3) := by decide +kernel
theorem dX3_isAllowed_121 : decode cX3_isAllowed 121 = .ok (.ifCond .eq 15, 3) := by decide +kernel
theorem dX3_isAllowed_124 : decode cX3_isAllowed 124 = .ok (.aload_n 0, 1) := by decide +kernel
theorem dX3_isAllowed_125 : decode cX3_isAllowed 125 = .ok (.iload_n 1, 1) := by decide +kernel
theorem dX3_isAllowed_126 : decode cX3_isAllowed 126 = .ok (.invokevirtual 37, 3) := by decide +kernel
theorem dX3_isAllowed_129 : decode cX3_isAllowed 129 = .ok (.ifCond .eq 7, 3) := by decide +kernel
theorem dX3_isAllowed_132 : decode cX3_isAllowed 132 = .ok (.iconst 1, 1) := by decide +kernel
theorem dX3_isAllowed_133 : decode cX3_isAllowed 133 = .ok (.goto 4, 3) := by decide +kernel
theorem dX3_isAllowed_136 : decode cX3_isAllowed 136 = .ok (.iconst 0, 1) := by decide +kernel
theorem dX3_isAllowed_137 : decode cX3_isAllowed 137 = .ok (.ireturn, 1) := by decide +kernel
theorem dX3_isDigit_0 : decode cX3_isDigit 0 = .ok (.aload_n 0, 1) := by decide +kernel
theorem dX3_isDigit_1 : decode cX3_isDigit 1 = .ok (.getfield 11, 3) := by decide +kernel
theorem dX3_isDigit_4 : decode cX3_isDigit 4 = .ok (.iload_n 1, 1) := by decide +kernel
theorem dX3_isDigit_5 : decode cX3_isDigit 5 = .ok (.caload, 1) := by decide +kernel
theorem dX3_isDigit_6 : decode cX3_isDigit 6 = .ok (.bipush 48, 2) := by decide +kernel
theorem dX3_isDigit_8 : decode cX3_isDigit 8 = .ok (.if_icmp .lt 18, 3) := by decide +kernel
theorem dX3_isDigit_11 : decode cX3_isDigit 11 = .ok (.aload_n 0, 1) := by decide +kernel
theorem dX3_isDigit_12 : decode cX3_isDigit 12 = .ok (.getfield 11, 3) := by decide +kernel
theorem dX3_isDigit_15 : decode cX3_isDigit 15 = .ok (.iload_n 1, 1) := by decide +kernel
theorem dX3_isDigit_16 : decode cX3_isDigit 16 = .ok (.caload, 1) := by decide +kernel
theorem dX3_isDigit_17 : decode cX3_isDigit 17 = .ok (.bipush 57, 2) := by decide +kernel
theorem dX3_isDigit_19 : decode cX3_isDigit 19 = .ok (.if_icmp .gt 7, 3) := by decide +kernel
theorem dX3_isDigit_22 : decode cX3_isDigit 22 = .ok (.iconst 1, 1) := by decide +kernel
theorem dX3_isDigit_23 : decode cX3_isDigit 23 = .ok (.goto 4, 3) := by decide +kernel
theorem dX3_isDigit_26 : decode cX3_isDigit 26 = .ok (.iconst 0, 1) := by decide +kernel
theorem dX3_isDigit_27 : decode cX3_isDigit 27 = .ok (.ireturn, 1) := by decide +kernel
theorem dX3_settingDigitFits_0 : decode cX3_settingDigitFits 0 = .ok (.iload_n 1, 1) := by decide +kernel
theorem dX3_settingDigitFits_1 : decode cX3_settingDigitFits 1 = .ok (.iconst 4, 1) := by decide +kernel
theorem dX3_settingDigitFits_2 : decode cX3_settingDigitFits 2 = .ok (.if_icmp .ge 28, 3) := by decide +kernel
theorem dX3_settingDigitFits_5 : decode cX3_settingDigitFits 5 = .ok (.aload_n 0, 1) := by decide +kernel
theorem dX3_settingDigitFits_6 : decode cX3_settingDigitFits 6 = .ok (.aload_n 0, 1) := by decide +kernel
theorem dX3_settingDigitFits_7 : decode cX3_settingDigitFits 7 = .ok (.iconst 2, 1) := by decide +kernel
theorem dX3_settingDigitFits_8 : decode cX3_settingDigitFits 8 = .ok (.iload_n 1, 1) := by decide +kernel
theorem dX3_settingDigitFits_9 : decode cX3_settingDigitFits 9 = .ok (.iconst 1, 1) := by decide +kernel
theorem dX3_settingDigitFits_10 : decode cX3_settingDigitFits 10 = .ok (.iadd, 1) := by decide +kernel
theorem dX3_settingDigitFits_11 : decode cX3_settingDigitFits 11 = .ok (.invokevirtual 23, 3) := by decide +kernel
theorem dX3_settingDigitFits_14 : decode cX3_settingDigitFits 14 = .ok (.aload_n 0, 1) := by decide +kernel
theorem dX3_settingDigitFits_15 : decode cX3_settingDigitFits 15 = .ok (.iload_n 1, 1) := by decide +kernel
theorem dX3_settingDigitFits_16 : decode cX3_settingDigitFits 16 = .ok (.iconst 4, 1) := by decide +kernel
theorem dX3_settingDigitFits_17 : decode cX3_settingDigitFits 17 = .ok (.invokevirtual 40, 3) := by decide +kernel
theorem dX3_settingDigitFits_20 : decode cX3_settingDigitFits 20 = .ok (.iconst 0, 1) := by decide +kernel
theorem dX3_settingDigitFits_21 : decode cX3_settingDigitFits 21 = .ok (.getstatic 43, 3) := by decide +kernel
theorem dX3_settingDigitFits_24 : decode cX3_settingDigitFits 24 = .ok (.iconst 0, 1) := by decide +kernel
theorem dX3_settingDigitFits_25 : decode cX3_settingDigitFits 25 = .ok (.iaload, 1) := by decide +kernel
theorem dX3_settingDigitFits_26 : decode cX3_settingDigitFits 26 = .ok (.invokevirtual 47, 3) := by decide +kernel
theorem dX3_settingDigitFits_29 : decode cX3_settingDigitFits 29 = .ok (.ireturn, 1) := by decide +kernel
theorem dX3_settingDigitFits_30 : decode cX3_settingDigitFits 30 = .ok (.iload_n 1, 1) := by decide +kernel
theorem dX3_settingDigitFits_31 : decode cX3_settingDigitFits 31 = .ok (.bipush 7, 2) := by decide +kernel
theorem dX3_settingDigitFits_33 : decode cX3_settingDigitFits 33 = .ok (.if_icmp .ge 33, 3) := by decide +kernel
theorem dX3_settingDigitFits_36 : decode cX3_settingDigitFits 36 = .ok (.aload_n 0, 1) := by decide +kernel
theorem dX3_settingDigitFits_37 : decode cX3_settingDigitFits 37 = .ok (.aload_n 0, 1) := by decide +kernel
theorem dX3_settingDigitFits_38 : decode cX3_settingDigitFits 38 = .ok (.iconst 4, 1) := by decide +kernel
theorem dX3_settingDigitFits_39 : decode cX3_settingDigitFits 39 = .ok (.iload_n 1, 1) := by decide +kernel
theorem dX3_settingDigitFits_40 : decode cX3_settingDigitFits 40 = .ok (.iconst 1, 1) := by decide +kernel
theorem dX3_settingDigitFits_41 : decode cX3_settingDigitFits 41 = .ok (.iadd, 1) := by decide +kernel
theorem dX3_settingDigitFits_42 : decode cX3_settingDigitFits 42 = .ok (.invokevirtual 23, 3) := by decide +kernel
theorem dX3_settingDigitFits_45 : decode cX3_settingDigitFits 45 = .ok (.aload_n 0, 1) := by decide +kernel
theorem dX3_settingDigitFits_46 : decode cX3_settingDigitFits 46 = .ok (.iload_n 1, 1) := by decide +kernel
theorem dX3_settingDigitFits_47 : decode cX3_settingDigitFits 47 = .ok (.bipush 7, 2) := by decide +kernel
theorem dX3_settingDigitFits_49 : decode cX3_settingDigitFits 49 = .ok (.invokevirtual 40, 3) := by decide +kernel
theorem dX3_settingDigitFits_52 : decode cX3_settingDigitFits 52 = .ok (.getstatic 51, 3) := by decide +kernel
theorem dX3_settingDigitFits_55 : decode cX3_settingDigitFits 55 = .ok (.iconst 1, 1) := by decide +kernel
theorem dX3_settingDigitFits_56 : decode cX3_settingDigitFits 56 = .ok (.iaload, 1) := by decide +kernel
theorem dX3_settingDigitFits_57 : decode cX3_settingDigitFits 57 = .ok (.getstatic 43, 3) := by decide +kernel
theorem dX3_settingDigitFits_60 : decode cX3_settingDigitFits 60 = .ok (.iconst 1, 1) := by decide +kernel
theorem dX3_settingDigitFits_61 : decode cX3_settingDigitFits 61 = .ok (.iaload, 1) := by decide +kernel
theorem dX3_settingDigitFits_62 : decode cX3_settingDigitFits 62 = .ok (.invokevirtual 47, 3) := by decide +kernel
theorem dX3_settingDigitFits_65 : decode cX3_settingDigitFits 65 = .ok (.ireturn, 1) := by decide +kernel
theorem dX3_settingDigitFits_66 : decode cX3_settingDigitFits 66 = .ok (.iconst 1, 1) := by decide +kernel
theorem dX3_settingDigitFits_67 : decode cX3_settingDigitFits 67 = .ok (.ireturn, 1) := by decide +kernel
theorem dX3_span_0 : decode cX3_span 0 = .ok (.iconst 1, 1) := by decide +kernel
theorem dX3_span_1 : decode cX3_span 1 = .ok (.istore_n 3, 1) := by decide +kernel
theorem dX3_span_2 : decode cX3_span 2 = .ok (.iload_n 1, 1) := by decide +kernel
theorem dX3_span_3 : decode cX3_span 3 = .ok (.iconst 1, 1) := by decide +kernel
theorem dX3_span_4 : decode cX3_span 4 = .ok (.iadd, 1) := by decide +kernel
theorem dX3_span_5 : decode cX3_span 5 = .ok (.istore 4, 2) := by decide +kernel
theorem dX3_span_7 : decode cX3_span 7 = .ok (.iload 4, 2) := by decide +kernel
theorem dX3_span_9 : decode cX3_span 9 = .ok (.iload_n 2, 1) := by decide +kernel
theorem dX3_span_10 : decode cX3_span 10 = .ok (.if_icmp .ge 14, 3) := by decide +kernel
theorem dX3_span_13 : decode cX3_span 13 = .ok (.iload_n 3, 1) := by decide +kernel
theorem dX3_span_14 : decode cX3_span 14 = .ok (.bipush 10, 2) := by decide +kernel
theorem dX3_span_16 : decode cX3_span 16 = .ok (.imul, 1) := by decide +kernel
theorem dX3_span_17 : decode cX3_span 17 = .ok (.istore_n 3, 1) := by decide +kernel
theorem dX3_span_18 : decode cX3_span 18 = .ok (.iinc 4 1, 3) := by decide +kernel
theorem dX3_span_21 : decode cX3_span 21 = .ok (.goto (-14), 3) := by decide +kernel
theorem dX3_span_24 : decode cX3_span 24 = .ok (.iload_n 3, 1) := by decide +kernel
theorem dX3_span_25 : decode cX3_span 25 = .ok (.ireturn, 1) := by decide +kernel
theorem dX3_beginsNumber_0 : decode cX3_beginsNumber 0 = .ok (.iload_n 1, 1) := by decide +kernel
theorem dX3_beginsNumber_1 : decode cX3_beginsNumber 1 = .ok (.iload_n 2, 1) := by decide +kernel
theorem dX3_beginsNumber_2 : decode cX3_beginsNumber 2 = .ok (.imul, 1) := by decide +kernel
theorem dX3_beginsNumber_3 : decode cX3_beginsNumber 3 = .ok (.istore 5, 2) := by decide +kernel
theorem dX3_beginsNumber_5 : decode cX3_beginsNumber 5 = .ok (.iload 5, 2) := by decide +kernel
theorem dX3_beginsNumber_7 : decode cX3_beginsNumber 7 = .ok (.iload 4, 2) := by decide +kernel
theorem dX3_beginsNumber_9 : decode cX3_beginsNumber 9 = .ok (.if_icmp .gt 17, 3) := by decide +kernel
theorem dX3_beginsNumber_12 : decode cX3_beginsNumber 12 = .ok (.iload 5, 2) := by decide +kernel
theorem dX3_beginsNumber_14 : decode cX3_beginsNumber 14 = .ok (.iload_n 2, 1) := by decide +kernel
theorem dX3_beginsNumber_15 : decode cX3_beginsNumber 15 = .ok (.iadd, 1) := by decide +kernel
theorem dX3_beginsNumber_16 : decode cX3_beginsNumber 16 = .ok (.iconst 1, 1) := by decide +kernel
theorem dX3_beginsNumber_17 : decode cX3_beginsNumber 17 = .ok (.isub, 1) := by decide +kernel
theorem dX3_beginsNumber_18 : decode cX3_beginsNumber 18 = .ok (.iload_n 3, 1) := by decide +kernel
theorem dX3_beginsNumber_19 : decode cX3_beginsNumber 19 = .ok (.if_icmp .lt 7, 3) := by decide +kernel
theorem dX3_beginsNumber_22 : decode cX3_beginsNumber 22 = .ok (.iconst 1, 1) := by decide +kernel
theorem dX3_beginsNumber_23 : decode cX3_beginsNumber 23 = .ok (.goto 4, 3) := by decide +kernel
theorem dX3_beginsNumber_26 : decode cX3_beginsNumber 26 = .ok (.iconst 0, 1) := by decide +kernel
theorem dX3_beginsNumber_27 : decode cX3_beginsNumber 27 = .ok (.ireturn, 1) := by decide +kernel
theorem dX3_placeDigitFits_0 : decode cX3_placeDigitFits 0 = .ok (.iload_n 1, 1) := by decide +kernel
theorem dX3_placeDigitFits_1 : decode cX3_placeDigitFits 1 = .ok (.bipush 13, 2) := by decide +kernel
theorem dX3_placeDigitFits_3 : decode cX3_placeDigitFits 3 = .ok (.isub, 1) := by decide +kernel
theorem dX3_placeDigitFits_4 : decode cX3_placeDigitFits 4 = .ok (.iconst 4, 1) := by decide +kernel
theorem dX3_placeDigitFits_5 : decode cX3_placeDigitFits 5 = .ok (.idiv, 1) := by decide +kernel
theorem dX3_placeDigitFits_6 : decode cX3_placeDigitFits 6 = .ok (.istore_n 2, 1) := by decide +kernel
theorem dX3_placeDigitFits_7 : decode cX3_placeDigitFits 7 = .ok (.bipush 13, 2) := by decide +kernel
theorem dX3_placeDigitFits_9 : decode cX3_placeDigitFits 9 = .ok (.iconst 4, 1) := by decide +kernel
theorem dX3_placeDigitFits_10 : decode cX3_placeDigitFits 10 = .ok (.iload_n 2, 1) := by decide +kernel
theorem dX3_placeDigitFits_11 : decode cX3_placeDigitFits 11 = .ok (.imul, 1) := by decide +kernel
theorem dX3_placeDigitFits_12 : decode cX3_placeDigitFits 12 = .ok (.iadd, 1) := by decide +kernel
theorem dX3_placeDigitFits_13 : decode cX3_placeDigitFits 13 = .ok (.istore_n 3, 1) := by decide +kernel
theorem dX3_placeDigitFits_14 : decode cX3_placeDigitFits 14 = .ok (.aload_n 0, 1) := by decide +kernel
theorem dX3_placeDigitFits_15 : decode cX3_placeDigitFits 15 = .ok (.iload_n 1, 1) := by decide +kernel
theorem dX3_placeDigitFits_16 : decode cX3_placeDigitFits 16 = .ok (.iload_n 3, 1) := by decide +kernel
theorem dX3_placeDigitFits_17 : decode cX3_placeDigitFits 17 = .ok (.iconst 4, 1) := by decide +kernel
theorem dX3_placeDigitFits_18 : decode cX3_placeDigitFits 18 = .ok (.iadd, 1) := by decide +kernel
theorem dX3_placeDigitFits_19 : decode cX3_placeDigitFits 19 = .ok (.invokevirtual 40, 3) := by decide +kernel
theorem dX3_placeDigitFits_22 : decode cX3_placeDigitFits 22 = .ok (.istore 4, 2) := by decide +kernel
theorem dX3_placeDigitFits_24 : decode cX3_placeDigitFits 24 = .ok (.aload_n 0, 1) := by decide +kernel
theorem dX3_placeDigitFits_25 : decode cX3_placeDigitFits 25 = .ok (.iload_n 3, 1) := by decide +kernel
theorem dX3_placeDigitFits_26 : decode cX3_placeDigitFits 26 = .ok (.iconst 1, 1) := by decide +kernel
theorem dX3_placeDigitFits_27 : decode cX3_placeDigitFits 27 = .ok (.iadd, 1) := by decide +kernel
theorem dX3_placeDigitFits_28 : decode cX3_placeDigitFits 28 = .ok (.iload_n 1, 1) := by decide +kernel
theorem dX3_placeDigitFits_29 : decode cX3_placeDigitFits 29 = .ok (.iconst 1, 1) := by decide +kernel
theorem dX3_placeDigitFits_30 : decode cX3_placeDigitFits 30 = .ok (.iadd, 1) := by decide +kernel
theorem dX3_placeDigitFits_31 : decode cX3_placeDigitFits 31 = .ok (.invokevirtual 23, 3) := by decide +kernel
theorem dX3_placeDigitFits_34 : decode cX3_placeDigitFits 34 = .ok (.iload 4, 2) := by decide +kernel
theorem dX3_placeDigitFits_36 : decode cX3_placeDigitFits 36 = .ok (.imul, 1) := by decide +kernel
theorem dX3_placeDigitFits_37 : decode cX3_placeDigitFits 37 = .ok (.istore 5, 2) := by decide +kernel
theorem dX3_placeDigitFits_39 : decode cX3_placeDigitFits 39 = .ok (.sipush 179, 3) := by decide +kernel
theorem dX3_placeDigitFits_42 : decode cX3_placeDigitFits 42 = .ok (.iload 5, 2) := by decide +kernel
theorem dX3_placeDigitFits_44 : decode cX3_placeDigitFits 44 = .ok (.iload 4, 2) := by decide +kernel
theorem dX3_placeDigitFits_46 : decode cX3_placeDigitFits 46 = .ok (.iadd, 1) := by decide +kernel
theorem dX3_placeDigitFits_47 : decode cX3_placeDigitFits 47 = .ok (.iconst 1, 1) := by decide +kernel
theorem dX3_placeDigitFits_48 : decode cX3_placeDigitFits 48 = .ok (.isub, 1) := by decide +kernel
theorem dX3_placeDigitFits_49 : decode cX3_placeDigitFits 49 = .ok (.invokestatic 54, 3) := by decide +kernel
theorem dX3_placeDigitFits_52 : decode cX3_placeDigitFits 52 = .ok (.istore 6, 2) := by decide +kernel
theorem dX3_placeDigitFits_54 : decode cX3_placeDigitFits 54 = .ok (.iload 6, 2) := by decide +kernel
theorem dX3_placeDigitFits_56 : decode cX3_placeDigitFits 56 = .ok (.iload 5, 2) := by decide +kernel
theorem dX3_placeDigitFits_58 : decode cX3_placeDigitFits 58 = .ok (.isub, 1) := by decide +kernel
theorem dX3_placeDigitFits_59 : decode cX3_placeDigitFits 59 = .ok (.iconst 1, 1) := by decide +kernel
theorem dX3_placeDigitFits_60 : decode cX3_placeDigitFits 60 = .ok (.iadd, 1) := by decide +kernel
theorem dX3_placeDigitFits_61 : decode cX3_placeDigitFits 61 = .ok (.istore 7, 2) := by decide +kernel
theorem dX3_placeDigitFits_63 : decode cX3_placeDigitFits 63 = .ok (.iconst 0, 1) := by decide +kernel
theorem dX3_placeDigitFits_64 : decode cX3_placeDigitFits 64 = .ok (.istore 8, 2) := by decide +kernel
theorem dX3_placeDigitFits_66 : decode cX3_placeDigitFits 66 = .ok (.iload 8, 2) := by decide +kernel
theorem dX3_placeDigitFits_68 : decode cX3_placeDigitFits 68 = .ok (.iload_n 2, 1) := by decide +kernel
theorem dX3_placeDigitFits_69 : decode cX3_placeDigitFits 69 = .ok (.if_icmp .ge 34, 3) := by decide +kernel
theorem dX3_placeDigitFits_72 : decode cX3_placeDigitFits 72 = .ok (.aload_n 0, 1) := by decide +kernel
theorem dX3_placeDigitFits_73 : decode cX3_placeDigitFits 73 = .ok (.iload 8, 2) := by decide +kernel
theorem dX3_placeDigitFits_75 : decode cX3_placeDigitFits 75 = .ok (.invokevirtual 27, 3) := by decide +kernel
theorem dX3_placeDigitFits_78 : decode cX3_placeDigitFits 78 = .ok (.istore 9, 2) := by decide +kernel
theorem dX3_placeDigitFits_80 : decode cX3_placeDigitFits 80 = .ok (.iload 9, 2) := by decide +kernel
theorem dX3_placeDigitFits_82 : decode cX3_placeDigitFits 82 = .ok (.iload 5, 2) := by decide +kernel
theorem dX3_placeDigitFits_84 : decode cX3_placeDigitFits 84 = .ok (.if_icmp .lt 13, 3) := by decide +kernel
theorem dX3_placeDigitFits_87 : decode cX3_placeDigitFits 87 = .ok (.iload 9, 2) := by decide +kernel
theorem dX3_placeDigitFits_89 : decode cX3_placeDigitFits 89 = .ok (.iload 6, 2) := by decide +kernel
theorem dX3_placeDigitFits_91 : decode cX3_placeDigitFits 91 = .ok (.if_icmp .gt 6, 3) := by decide +kernel
theorem dX3_placeDigitFits_94 : decode cX3_placeDigitFits 94 = .ok (.iinc 7 (-1), 3) := by decide +kernel
theorem dX3_placeDigitFits_97 : decode cX3_placeDigitFits 97 = .ok (.iinc 8 1, 3) := by decide +kernel
theorem dX3_placeDigitFits_100 : decode cX3_placeDigitFits 100 = .ok (.goto (-34), 3) := by decide +kernel
theorem dX3_placeDigitFits_103 : decode cX3_placeDigitFits 103 = .ok (.iload 7, 2) := by decide +kernel
theorem dX3_placeDigitFits_105 : decode cX3_placeDigitFits 105 = .ok (.ifCond .le 7, 3) := by decide +kernel
theorem dX3_placeDigitFits_108 : decode cX3_placeDigitFits 108 = .ok (.iconst 1, 1) := by decide +kernel
theorem dX3_placeDigitFits_109 : decode cX3_placeDigitFits 109 = .ok (.goto 4, 3) := by decide +kernel
theorem dX3_placeDigitFits_112 : decode cX3_placeDigitFits 112 = .ok (.iconst 0, 1) := by decide +kernel
theorem dX3_placeDigitFits_113 : decode cX3_placeDigitFits 113 = .ok (.ireturn, 1) := by decide +kernel
theorem dX4_init_0 : decode cX4_init 0 = .ok (.aload_n 0, 1) := by decide +kernel
theorem dX4_init_1 : decode cX4_init 1 = .ok (.invokespecial 1, 3) := by decide +kernel
theorem dX4_init_4 : decode cX4_init 4 = .ok (.aload_n 0, 1) := by decide +kernel
theorem dX4_init_5 : decode cX4_init 5 = .ok (.new 7, 3) := by decide +kernel
theorem dX4_init_8 : decode cX4_init 8 = .ok (.dup, 1) := by decide +kernel
theorem dX4_init_9 : decode cX4_init 9 = .ok (.invokespecial 9, 3) := by decide +kernel
theorem dX4_init_12 : decode cX4_init 12 = .ok (.putfield 10, 3) := by decide +kernel
theorem dX4_init_15 : decode cX4_init 15 = .ok (.aload_n 0, 1) := by decide +kernel
theorem dX4_init_16 : decode cX4_init 16 = .ok (.new 16, 3) := by decide +kernel
theorem dX4_init_19 : decode cX4_init 19 = .ok (.dup, 1) := by decide +kernel
theorem dX4_init_20 : decode cX4_init 20 = .ok (.invokespecial 18, 3) := by decide +kernel
theorem dX4_init_23 : decode cX4_init 23 = .ok (.putfield 19, 3) := by decide +kernel
theorem dX4_init_26 : decode cX4_init 26 = .ok (.aload_n 0, 1) := by decide +kernel
theorem dX4_init_27 : decode cX4_init 27 = .ok (.new 23, 3) := by decide +kernel
theorem dX4_init_30 : decode cX4_init 30 = .ok (.dup, 1) := by decide +kernel
theorem dX4_init_31 : decode cX4_init 31 = .ok (.aload_n 0, 1) := by decide +kernel
theorem dX4_init_32 : decode cX4_init 32 = .ok (.getfield 19, 3) := by decide +kernel
theorem dX4_init_35 : decode cX4_init 35 = .ok (.invokespecial 25, 3) := by decide +kernel
theorem dX4_init_38 : decode cX4_init 38 = .ok (.putfield 28, 3) := by decide +kernel
theorem dX4_init_41 : decode cX4_init 41 = .ok (.aload_n 0, 1) := by decide +kernel
theorem dX4_init_42 : decode cX4_init 42 = .ok (.new 32, 3) := by decide +kernel
theorem dX4_init_45 : decode cX4_init 45 = .ok (.dup, 1) := by decide +kernel
theorem dX4_init_46 : decode cX4_init 46 = .ok (.invokespecial 34, 3) := by decide +kernel
theorem dX4_init_49 : decode cX4_init 49 = .ok (.putfield 35, 3) := by decide +kernel
theorem dX4_init_52 : decode cX4_init 52 = .ok (.aload_n 0, 1) := by decide +kernel
theorem dX4_init_53 : decode cX4_init 53 = .ok (.iconst 2, 1) := by decide +kernel
theorem dX4_init_54 : decode cX4_init 54 = .ok (.anewarray 16, 3) := by decide +kernel
theorem dX4_init_57 : decode cX4_init 57 = .ok (.putfield 39, 3) := by decide +kernel
theorem dX4_init_60 : decode cX4_init 60 = .ok (.aload_n 0, 1) := by decide +kernel
theorem dX4_init_61 : decode cX4_init 61 = .ok (.iconst 2, 1) := by decide +kernel
theorem dX4_init_62 : decode cX4_init 62 = .ok (.newarray .boolean, 2) := by decide +kernel
theorem dX4_init_64 : decode cX4_init 64 = .ok (.putfield 43, 3) := by decide +kernel
theorem dX4_init_67 : decode cX4_init 67 = .ok (.aload_n 0, 1) := by decide +kernel
theorem dX4_init_68 : decode cX4_init 68 = .ok (.new 16, 3) := by decide +kernel
theorem dX4_init_71 : decode cX4_init 71 = .ok (.dup, 1) := by decide +kernel
theorem dX4_init_72 : decode cX4_init 72 = .ok (.invokespecial 18, 3) := by decide +kernel
theorem dX4_init_75 : decode cX4_init 75 = .ok (.putfield 47, 3) := by decide +kernel
theorem dX4_init_78 : decode cX4_init 78 = .ok (.aload_n 0, 1) := by decide +kernel
theorem dX4_init_79 : decode cX4_init 79 = .ok (.new 23, 3) := by decide +kernel
theorem dX4_init_82 : decode cX4_init 82 = .ok (.dup, 1) := by decide +kernel
theorem dX4_init_83 : decode cX4_init 83 = .ok (.aload_n 0, 1) := by decide +kernel
theorem dX4_init_84 : decode cX4_init 84 = .ok (.getfield 47, 3) := by decide +kernel
theorem dX4_init_87 : decode cX4_init 87 = .ok (.invokespecial 25, 3) := by decide +kernel
theorem dX4_init_90 : decode cX4_init 90 = .ok (.putfield 50, 3) := by decide +kernel
theorem dX4_init_93 : decode cX4_init 93 = .ok (.iconst 0, 1) := by decide +kernel
theorem dX4_init_94 : decode cX4_init 94 = .ok (.istore_n 1, 1) := by decide +kernel
theorem dX4_init_95 : decode cX4_init 95 = .ok (.iload_n 1, 1) := by decide +kernel
theorem dX4_init_96 : decode cX4_init 96 = .ok (.iconst 2, 1) := by decide +kernel
theorem dX4_init_97 : decode cX4_init 97 = .ok (.if_icmp .ge 22, 3) := by decide +kernel
theorem dX4_init_100 : decode cX4_init 100 = .ok (.aload_n 0, 1) := by decide +kernel
theorem dX4_init_101 : decode cX4_init 101 = .ok (.getfield 39, 3) := by decide +kernel
theorem dX4_init_104 : decode cX4_init 104 = .ok (.iload_n 1, 1) := by decide +kernel
theorem dX4_init_105 : decode cX4_init 105 = .ok (.new 16, 3) := by decide +kernel
theorem dX4_init_108 : decode cX4_init 108 = .ok (.dup, 1) := by decide +kernel
theorem dX4_init_109 : decode cX4_init 109 = .ok (.invokespecial 18, 3) := by decide +kernel
theorem dX4_init_112 : decode cX4_init 112 = .ok (.aastore, 1) := by decide +kernel
theorem dX4_init_113 : decode cX4_init 113 = .ok (.iinc 1 1, 3) := by decide +kernel
theorem dX4_init_116 : decode cX4_init 116 = .ok (.goto (-21), 3) := by decide +kernel
theorem dX4_init_119 : decode cX4_init 119 = .ok (.return_, 1) := by decide +kernel
theorem dX4_append_0 : decode cX4_append 0 = .ok (.iload_n 1, 1) := by decide +kernel
theorem dX4_append_1 : decode cX4_append 1 = .ok (.ifCond .lt 10, 3) := by decide +kernel
theorem dX4_append_4 : decode cX4_append 4 = .ok (.iload_n 1, 1) := by decide +kernel
theorem dX4_append_5 : decode cX4_append 5 = .ok (.sipush 255, 3) := by decide +kernel
theorem dX4_append_8 : decode cX4_append 8 = .ok (.if_icmp .le 13, 3) := by decide +kernel
theorem dX4_append_11 : decode cX4_append 11 = .ok (.new 53, 3) := by decide +kernel
theorem dX4_append_14 : decode cX4_append 14 = .ok (.dup, 1) := by decide +kernel
theorem dX4_append_15 : decode cX4_append 15 = .ok (.ldc 55, 2) := by decide +kernel
theorem dX4_append_17 : decode cX4_append 17 = .ok (.invokespecial 57, 3) := by decide +kernel
theorem dX4_append_20 : decode cX4_append 20 = .ok (.athrow, 1) := by decide +kernel
theorem dX4_append_21 : decode cX4_append 21 = .ok (.aload_n 0, 1) := by decide +kernel
theorem dX4_append_22 : decode cX4_append 22 = .ok (.getfield 10, 3) := by decide +kernel
theorem dX4_append_25 : decode cX4_append 25 = .ok (.getfield 60, 3) := by decide +kernel
theorem dX4_append_28 : decode cX4_append 28 = .ok (.bipush 100, 2) := by decide +kernel
theorem dX4_append_30 : decode cX4_append 30 = .ok (.if_icmp .lt 13, 3) := by decide +kernel
theorem dX4_append_33 : decode cX4_append 33 = .ok (.new 64, 3) := by decide +kernel
theorem dX4_append_36 : decode cX4_append 36 = .ok (.dup, 1) := by decide +kernel
theorem dX4_append_37 : decode cX4_append 37 = .ok (.ldc 66, 2) := by decide +kernel
theorem dX4_append_39 : decode cX4_append 39 = .ok (.invokespecial 68, 3) := by decide +kernel
theorem dX4_append_42 : decode cX4_append 42 = .ok (.athrow, 1) := by decide +kernel
theorem dX4_append_43 : decode cX4_append 43 = .ok (.aload_n 0, 1) := by decide +kernel
theorem dX4_append_44 : decode cX4_append 44 = .ok (.getfield 10, 3) := by decide +kernel
theorem dX4_append_47 : decode cX4_append 47 = .ok (.getfield 69, 3) := by decide +kernel
theorem dX4_append_50 : decode cX4_append 50 = .ok (.aload_n 0, 1) := by decide +kernel
theorem dX4_append_51 : decode cX4_append 51 = .ok (.getfield 10, 3) := by decide +kernel
theorem dX4_append_54 : decode cX4_append 54 = .ok (.getfield 60, 3) := by decide +kernel
theorem dX4_append_57 : decode cX4_append 57 = .ok (.iload_n 1, 1) := by decide +kernel
theorem dX4_append_58 : decode cX4_append 58 = .ok (.i2c, 1) := by decide +kernel
theorem dX4_append_59 : decode cX4_append 59 = .ok (.castore, 1) := by decide +kernel
theorem dX4_append_60 : decode cX4_append 60 = .ok (.aload_n 0, 1) := by decide +kernel
theorem dX4_append_61 : decode cX4_append 61 = .ok (.getfield 10, 3) := by decide +kernel
theorem dX4_append_64 : decode cX4_append 64 = .ok (.dup, 1) := by decide +kernel
theorem dX4_append_65 : decode cX4_append 65 = .ok (.getfield 60, 3) := by decide +kernel
theorem dX4_append_68 : decode cX4_append 68 = .ok (.iconst 1, 1) := by decide +kernel
theorem dX4_append_69 : decode cX4_append 69 = .ok (.iadd, 1) := by decide +kernel
theorem dX4_append_70 : decode cX4_append 70 = .ok (.putfield 60, 3) := by decide +kernel
theorem dX4_append_73 : decode cX4_append 73 = .ok (.aload_n 0, 1) := by decide +kernel
theorem dX4_append_74 : decode cX4_append 74 = .ok (.getfield 10, 3) := by decide +kernel
theorem dX4_append_77 : decode cX4_append 77 = .ok (.getfield 60, 3) := by decide +kernel
theorem dX4_append_80 : decode cX4_append 80 = .ok (.ireturn, 1) := by decide +kernel
theorem dX4_clearText_0 : decode cX4_clearText 0 = .ok (.aload_n 0, 1) := by decide +kernel
theorem dX4_clearText_1 : decode cX4_clearText 1 = .ok (.getfield 10, 3) := by decide +kernel
theorem dX4_clearText_4 : decode cX4_clearText 4 = .ok (.getfield 60, 3) := by decide +kernel
theorem dX4_clearText_7 : decode cX4_clearText 7 = .ok (.istore_n 1, 1) := by decide +kernel
theorem dX4_clearText_8 : decode cX4_clearText 8 = .ok (.aload_n 0, 1) := by decide +kernel
theorem dX4_clearText_9 : decode cX4_clearText 9 = .ok (.getfield 10, 3) := by decide +kernel
theorem dX4_clearText_12 : decode cX4_clearText 12 = .ok (.iconst 0, 1) := by decide +kernel
theorem dX4_clearText_13 : decode cX4_clearText 13 = .ok (.putfield 60, 3) := by decide +kernel
theorem dX4_clearText_16 : decode cX4_clearText 16 = .ok (.iload_n 1, 1) := by decide +kernel
theorem dX4_clearText_17 : decode cX4_clearText 17 = .ok (.ireturn, 1) := by decide +kernel
theorem dX4_errorPosition_0 : decode cX4_errorPosition 0 = .ok (.aload_n 0, 1) := by decide +kernel
theorem dX4_errorPosition_1 : decode cX4_errorPosition 1 = .ok (.getfield 10, 3) := by decide +kernel
theorem dX4_errorPosition_4 : decode cX4_errorPosition 4 = .ok (.invokevirtual 73, 3) := by decide +kernel
theorem dX4_errorPosition_7 : decode cX4_errorPosition 7 = .ok (.ireturn, 1) := by decide +kernel
theorem dX4_load_0 : decode cX4_load 0 = .ok (.aload_n 0, 1) := by decide +kernel
theorem dX4_load_1 : decode cX4_load 1 = .ok (.getfield 10, 3) := by decide +kernel
theorem dX4_load_4 : decode cX4_load 4 = .ok (.invokevirtual 73, 3) := by decide +kernel
theorem dX4_load_7 : decode cX4_load 7 = .ok (.bipush (-9), 2) := by decide +kernel
theorem dX4_load_9 : decode cX4_load 9 = .ok (.if_icmp .eq 13, 3) := by decide +kernel
theorem dX4_load_12 : decode cX4_load 12 = .ok (.new 64, 3) := by decide +kernel
theorem dX4_load_15 : decode cX4_load 15 = .ok (.dup, 1) := by decide +kernel
theorem dX4_load_16 : decode cX4_load 16 = .ok (.ldc 77, 2) := by decide +kernel
theorem dX4_load_18 : decode cX4_load 18 = .ok (.invokespecial 68, 3) := by decide +kernel
theorem dX4_load_21 : decode cX4_load 21 = .ok (.athrow, 1) := by decide +kernel
theorem dX4_load_22 : decode cX4_load 22 = .ok (.aload_n 0, 1) := by decide +kernel
theorem dX4_load_23 : decode cX4_load 23 = .ok (.getfield 19, 3) := by decide +kernel
theorem dX4_load_26 : decode cX4_load 26 = .ok (.invokevirtual 79, 3) := by decide +kernel
theorem dX4_load_29 : decode cX4_load 29 = .ok (.aload_n 0, 1) := by decide +kernel
theorem dX4_load_30 : decode cX4_load 30 = .ok (.getfield 19, 3) := by decide +kernel
theorem dX4_load_33 : decode cX4_load 33 = .ok (.getfield 82, 3) := by decide +kernel
theorem dX4_load_36 : decode cX4_load 36 = .ok (.iconst 0, 1) := by decide +kernel
theorem dX4_load_37 : decode cX4_load 37 = .ok (.aload_n 0, 1) := by decide +kernel
theorem dX4_load_38 : decode cX4_load 38 = .ok (.getfield 10, 3) := by decide +kernel
theorem dX4_load_41 : decode cX4_load 41 = .ok (.invokevirtual 86, 3) := by decide +kernel
theorem dX4_load_44 : decode cX4_load 44 = .ok (.iastore, 1) := by decide +kernel
theorem dX4_load_45 : decode cX4_load 45 = .ok (.aload_n 0, 1) := by decide +kernel
theorem dX4_load_46 : decode cX4_load 46 = .ok (.getfield 19, 3) := by decide +kernel
theorem dX4_load_49 : decode cX4_load 49 = .ok (.getfield 82, 3) := by decide +kernel
theorem dX4_load_52 : decode cX4_load 52 = .ok (.iconst 1, 1) := by decide +kernel
theorem dX4_load_53 : decode cX4_load 53 = .ok (.aload_n 0, 1) := by decide +kernel
theorem dX4_load_54 : decode cX4_load 54 = .ok (.getfield 10, 3) := by decide +kernel
theorem dX4_load_57 : decode cX4_load 57 = .ok (.invokevirtual 89, 3) := by decide +kernel
theorem dX4_load_60 : decode cX4_load 60 = .ok (.iastore, 1) := by decide +kernel
theorem dX4_load_61 : decode cX4_load 61 = .ok (.aload_n 0, 1) := by decide +kernel
theorem dX4_load_62 : decode cX4_load 62 = .ok (.getfield 19, 3) := by decide +kernel
theorem dX4_load_65 : decode cX4_load 65 = .ok (.getfield 82, 3) := by decide +kernel
theorem dX4_load_68 : decode cX4_load 68 = .ok (.iconst 2, 1) := by decide +kernel
theorem dX4_load_69 : decode cX4_load 69 = .ok (.aload_n 0, 1) := by decide +kernel
theorem dX4_load_70 : decode cX4_load 70 = .ok (.getfield 10, 3) := by decide +kernel
theorem dX4_load_73 : decode cX4_load 73 = .ok (.invokevirtual 92, 3) := by decide +kernel
theorem dX4_load_76 : decode cX4_load 76 = .ok (.iastore, 1) := by decide +kernel
theorem dX4_load_77 : decode cX4_load 77 = .ok (.aload_n 0, 1) := by decide +kernel
theorem dX4_load_78 : decode cX4_load 78 = .ok (.getfield 19, 3) := by decide +kernel
theorem dX4_load_81 : decode cX4_load 81 = .ok (.aload_n 0, 1) := by decide +kernel
theorem dX4_load_82 : decode cX4_load 82 = .ok (.getfield 10, 3) := by decide +kernel
theorem dX4_load_85 : decode cX4_load 85 = .ok (.invokevirtual 95, 3) := by decide +kernel
theorem dX4_load_88 : decode cX4_load 88 = .ok (.putfield 98, 3) := by decide +kernel
theorem dX4_load_91 : decode cX4_load 91 = .ok (.aload_n 0, 1) := by decide +kernel
theorem dX4_load_92 : decode cX4_load 92 = .ok (.getfield 10, 3) := by decide +kernel
theorem dX4_load_95 : decode cX4_load 95 = .ok (.invokevirtual 100, 3) := by decide +kernel
theorem dX4_load_98 : decode cX4_load 98 = .ok (.istore_n 1, 1) := by decide +kernel
theorem dX4_load_99 : decode cX4_load 99 = .ok (.iconst 0, 1) := by decide +kernel
theorem dX4_load_100 : decode cX4_load 100 = .ok (.istore_n 2, 1) := by decide +kernel
theorem dX4_load_101 : decode cX4_load 101 = .ok (.iload_n 2, 1) := by decide +kernel
theorem dX4_load_102 : decode cX4_load 102 = .ok (.iload_n 1, 1) := by decide +kernel
theorem dX4_load_103 : decode cX4_load 103 = .ok (.if_icmp .ge 24, 3) := by decide +kernel
theorem dX4_load_106 : decode cX4_load 106 = .ok (.aload_n 0, 1) := by decide +kernel
theorem dX4_load_107 : decode cX4_load 107 = .ok (.getfield 19, 3) := by decide +kernel
theorem dX4_load_110 : decode cX4_load 110 = .ok (.aload_n 0, 1) := by decide +kernel
theorem dX4_load_111 : decode cX4_load 111 = .ok (.getfield 10, 3) := by decide +kernel
theorem dX4_load_114 : decode cX4_load 114 = .ok (.iload_n 2, 1) := by decide +kernel
theorem dX4_load_115 : decode cX4_load 115 = .ok (.invokevirtual 103, 3) := by decide +kernel
theorem dX4_load_118 : decode cX4_load 118 = .ok (.invokevirtual 107, 3) := by decide +kernel
theorem dX4_load_121 : decode cX4_load 121 = .ok (.iinc 2 1, 3) := by decide +kernel
theorem dX4_load_124 : decode cX4_load 124 = .ok (.goto (-23), 3) := by decide +kernel
theorem dX4_load_127 : decode cX4_load 127 = .ok (.aload_n 0, 1) := by decide +kernel
theorem dX4_load_128 : decode cX4_load 128 = .ok (.getfield 35, 3) := by decide +kernel
theorem dX4_load_131 : decode cX4_load 131 = .ok (.invokevirtual 111, 3) := by decide +kernel
theorem dX4_load_134 : decode cX4_load 134 = .ok (.iconst 0, 1) := by decide +kernel
theorem dX4_load_135 : decode cX4_load 135 = .ok (.istore_n 2, 1) := by decide +kernel
theorem dX4_load_136 : decode cX4_load 136 = .ok (.iload_n 2, 1) := by decide +kernel
theorem dX4_load_137 : decode cX4_load 137 = .ok (.iconst 2, 1) := by decide +kernel
theorem dX4_load_138 : decode cX4_load 138 = .ok (.if_icmp .ge 16, 3) := by decide +kernel
theorem dX4_load_141 : decode cX4_load 141 = .ok (.aload_n 0, 1) := by decide +kernel
theorem dX4_load_142 : decode cX4_load 142 = .ok (.getfield 43, 3) := by decide +kernel
theorem dX4_load_145 : decode cX4_load 145 = .ok (.iload_n 2, 1) := by decide +kernel
theorem dX4_load_146 : decode cX4_load 146 = .ok (.iconst 0, 1) := by decide +kernel
theorem dX4_load_147 : decode cX4_load 147 = .ok (.bastore, 1) := by decide +kernel
theorem dX4_load_148 : decode cX4_load 148 = .ok (.iinc 2 1, 3) := by decide +kernel
theorem dX4_load_151 : decode cX4_load 151 = .ok (.goto (-15), 3) := by decide +kernel
theorem dX4_load_154 : decode cX4_load 154 = .ok (.aload_n 0, 1) := by decide +kernel
theorem dX4_load_155 : decode cX4_load 155 = .ok (.getfield 19, 3) := by decide +kernel
theorem dX4_load_158 : decode cX4_load 158 = .ok (.getfield 114, 3) := by decide +kernel
theorem dX4_load_161 : decode cX4_load 161 = .ok (.ireturn, 1) := by decide +kernel
theorem dX4_about_0 : decode cX4_about 0 = .ok (.iload_n 1, 1) := by decide +kernel
theorem dX4_about_1 : decode cX4_about 1 = .ok (.ifCond .lt 9, 3) := by decide +kernel
theorem dX4_about_4 : decode cX4_about 4 = .ok (.iload_n 1, 1) := by decide +kernel
theorem dX4_about_5 : decode cX4_about 5 = .ok (.bipush 12, 2) := by decide +kernel
theorem dX4_about_7 : decode cX4_about 7 = .ok (.if_icmp .le 13, 3) := by decide +kernel
theorem dX4_about_10 : decode cX4_about 10 = .ok (.new 53, 3) := by decide +kernel
theorem dX4_about_13 : decode cX4_about 13 = .ok (.dup, 1) := by decide +kernel
theorem dX4_about_14 : decode cX4_about 14 = .ok (.ldc 116, 2) := by decide +kernel
theorem dX4_about_16 : decode cX4_about 16 = .ok (.invokespecial 57, 3) := by decide +kernel
theorem dX4_about_19 : decode cX4_about 19 = .ok (.athrow, 1) := by decide +kernel
theorem dX4_about_20 : decode cX4_about 20 = .ok (.iload_n 1, 1) := by decide +kernel
theorem dX4_about_21 : decode cX4_about 21 = .ok (.getstatic 118, 3) := by decide +kernel
theorem dX4_about_24 : decode cX4_about 24 = .ok (.arraylength, 1) := by decide +kernel
theorem dX4_about_25 : decode cX4_about 25 = .ok (.if_icmp .ge 13, 3) := by decide +kernel
theorem dX4_about_28 : decode cX4_about 28 = .ok (.aload_n 0, 1) := by decide +kernel
theorem dX4_about_29 : decode cX4_about 29 = .ok (.getfield 19, 3) := by decide +kernel
theorem dX4_about_32 : decode cX4_about 32 = .ok (.getfield 82, 3) := by decide +kernel
theorem dX4_about_35 : decode cX4_about 35 = .ok (.iload_n 1, 1) := by decide +kernel
theorem dX4_about_36 : decode cX4_about 36 = .ok (.iaload, 1) := by decide +kernel
theorem dX4_about_37 : decode cX4_about 37 = .ok (.ireturn, 1) := by decide +kernel
theorem dX4_about_38 : decode cX4_about 38 = .ok (.iload_n 1, 1) := by decide +kernel
theorem dX4_about_39 : decode cX4_about 39 = .ok (.tableswitch 97 5 11 #[41, 49, 57, 65, 73, 81, 89], 41) := by decide +kernel
theorem dX4_about_80 : decode cX4_about 80 = .ok (.aload_n 0, 1) := by decide +kernel
theorem dX4_about_81 : decode cX4_about 81 = .ok (.getfield 19, 3) := by decide +kernel
theorem dX4_about_84 : decode cX4_about 84 = .ok (.getfield 121, 3) := by decide +kernel
theorem dX4_about_87 : decode cX4_about 87 = .ok (.ireturn, 1) := by decide +kernel
theorem dX4_about_88 : decode cX4_about 88 = .ok (.aload_n 0, 1) := by decide +kernel
theorem dX4_about_89 : decode cX4_about 89 = .ok (.getfield 19, 3) := by decide +kernel
theorem dX4_about_92 : decode cX4_about 92 = .ok (.getfield 124, 3) := by decide +kernel
theorem dX4_about_95 : decode cX4_about 95 = .ok (.ireturn, 1) := by decide +kernel
theorem dX4_about_96 : decode cX4_about 96 = .ok (.aload_n 0, 1) := by decide +kernel
theorem dX4_about_97 : decode cX4_about 97 = .ok (.getfield 19, 3) := by decide +kernel
theorem dX4_about_100 : decode cX4_about 100 = .ok (.getfield 98, 3) := by decide +kernel
theorem dX4_about_103 : decode cX4_about 103 = .ok (.ireturn, 1) := by decide +kernel
theorem dX4_about_104 : decode cX4_about 104 = .ok (.aload_n 0, 1) := by decide +kernel
theorem dX4_about_105 : decode cX4_about 105 = .ok (.getfield 19, 3) := by decide +kernel
theorem dX4_about_108 : decode cX4_about 108 = .ok (.getfield 127, 3) := by decide +kernel
theorem dX4_about_111 : decode cX4_about 111 = .ok (.ireturn, 1) := by decide +kernel
theorem dX4_about_112 : decode cX4_about 112 = .ok (.aload_n 0, 1) := by decide +kernel
theorem dX4_about_113 : decode cX4_about 113 = .ok (.getfield 19, 3) := by decide +kernel
theorem dX4_about_116 : decode cX4_about 116 = .ok (.getfield 114, 3) := by decide +kernel
theorem dX4_about_119 : decode cX4_about 119 = .ok (.ireturn, 1) := by decide +kernel
theorem dX4_about_120 : decode cX4_about 120 = .ok (.aload_n 0, 1) := by decide +kernel
theorem dX4_about_121 : decode cX4_about 121 = .ok (.getfield 19, 3) := by decide +kernel
theorem dX4_about_124 : decode cX4_about 124 = .ok (.invokevirtual 130, 3) := by decide +kernel
theorem dX4_about_127 : decode cX4_about 127 = .ok (.ireturn, 1) := by decide +kernel
theorem dX4_about_128 : decode cX4_about 128 = .ok (.aload_n 0, 1) := by decide +kernel
theorem dX4_about_129 : decode cX4_about 129 = .ok (.getfield 19, 3) := by decide +kernel
theorem dX4_about_132 : decode cX4_about 132 = .ok (.getfield 133, 3) := by decide +kernel
theorem dX4_about_135 : decode cX4_about 135 = .ok (.ireturn, 1) := by decide +kernel
theorem dX4_about_136 : decode cX4_about 136 = .ok (.aload_n 0, 1) := by decide +kernel
theorem dX4_about_137 : decode cX4_about 137 = .ok (.getfield 19, 3) := by decide +kernel
theorem dX4_about_140 : decode cX4_about 140 = .ok (.getfield 136, 3) := by decide +kernel
theorem dX4_about_143 : decode cX4_about 143 = .ok (.ireturn, 1) := by decide +kernel
theorem dX4_pin_0 : decode cX4_pin 0 = .ok (.aload_n 0, 1) := by decide +kernel
theorem dX4_pin_1 : decode cX4_pin 1 = .ok (.iload_n 1, 1) := by decide +kernel
theorem dX4_pin_2 : decode cX4_pin 2 = .ok (.invokevirtual 139, 3) := by decide +kernel
theorem dX4_pin_5 : decode cX4_pin 5 = .ok (.iload_n 2, 1) := by decide +kernel
theorem dX4_pin_6 : decode cX4_pin 6 = .ok (.ifCond .lt 8, 3) := by decide +kernel
theorem dX4_pin_9 : decode cX4_pin 9 = .ok (.iload_n 2, 1) := by decide +kernel
theorem dX4_pin_10 : decode cX4_pin 10 = .ok (.iconst 2, 1) := by decide +kernel
theorem dX4_pin_11 : decode cX4_pin 11 = .ok (.if_icmp .le 13, 3) := by decide +kernel
theorem dX4_pin_14 : decode cX4_pin 14 = .ok (.new 53, 3) := by decide +kernel
theorem dX4_pin_17 : decode cX4_pin 17 = .ok (.dup, 1) := by decide +kernel
theorem dX4_pin_18 : decode cX4_pin 18 = .ok (.ldc 142, 2) := by decide +kernel
theorem dX4_pin_20 : decode cX4_pin 20 = .ok (.invokespecial 57, 3) := by decide +kernel
theorem dX4_pin_23 : decode cX4_pin 23 = .ok (.athrow, 1) := by decide +kernel
theorem dX4_pin_24 : decode cX4_pin 24 = .ok (.iload_n 2, 1) := by decide +kernel
theorem dX4_pin_25 : decode cX4_pin 25 = .ok (.lookupswitch 47 #[(0, 27), (1, 37)], 27) := by decide +kernel
theorem dX4_pin_52 : decode cX4_pin 52 = .ok (.aload_n 0, 1) := by decide +kernel
theorem dX4_pin_53 : decode cX4_pin 53 = .ok (.getfield 19, 3) := by decide +kernel
theorem dX4_pin_56 : decode cX4_pin 56 = .ok (.getfield 144, 3) := by decide +kernel
theorem dX4_pin_59 : decode cX4_pin 59 = .ok (.iload_n 1, 1) := by decide +kernel
theorem dX4_pin_60 : decode cX4_pin 60 = .ok (.iaload, 1) := by decide +kernel
theorem dX4_pin_61 : decode cX4_pin 61 = .ok (.ireturn, 1) := by decide +kernel
theorem dX4_pin_62 : decode cX4_pin 62 = .ok (.aload_n 0, 1) := by decide +kernel
theorem dX4_pin_63 : decode cX4_pin 63 = .ok (.getfield 19, 3) := by decide +kernel
theorem dX4_pin_66 : decode cX4_pin 66 = .ok (.getfield 147, 3) := by decide +kernel
theorem dX4_pin_69 : decode cX4_pin 69 = .ok (.iload_n 1, 1) := by decide +kernel
theorem dX4_pin_70 : decode cX4_pin 70 = .ok (.iaload, 1) := by decide +kernel
theorem dX4_pin_71 : decode cX4_pin 71 = .ok (.ireturn, 1) := by decide +kernel
theorem dX4_pin_72 : decode cX4_pin 72 = .ok (.aload_n 0, 1) := by decide +kernel
theorem dX4_pin_73 : decode cX4_pin 73 = .ok (.getfield 19, 3) := by decide +kernel
theorem dX4_pin_76 : decode cX4_pin 76 = .ok (.getfield 144, 3) := by decide +kernel
theorem dX4_pin_79 : decode cX4_pin 79 = .ok (.iload_n 1, 1) := by decide +kernel
theorem dX4_pin_80 : decode cX4_pin 80 = .ok (.iaload, 1) := by decide +kernel
theorem dX4_pin_81 : decode cX4_pin 81 = .ok (.aload_n 0, 1) := by decide +kernel
theorem dX4_pin_82 : decode cX4_pin 82 = .ok (.getfield 19, 3) := by decide +kernel
theorem dX4_pin_85 : decode cX4_pin 85 = .ok (.getfield 121, 3) := by decide +kernel
theorem dX4_pin_88 : decode cX4_pin 88 = .ok (.isub, 1) := by decide +kernel
theorem dX4_pin_89 : decode cX4_pin 89 = .ok (.invokestatic 150, 3) := by decide +kernel
theorem dX4_pin_92 : decode cX4_pin 92 = .ok (.ireturn, 1) := by decide +kernel
theorem dX4_hit_0 : decode cX4_hit 0 = .ok (.iload_n 1, 1) := by decide +kernel
theorem dX4_hit_1 : decode cX4_hit 1 = .ok (.ifCond .lt 12, 3) := by decide +kernel
theorem dX4_hit_4 : decode cX4_hit 4 = .ok (.iload_n 2, 1) := by decide +kernel
theorem dX4_hit_5 : decode cX4_hit 5 = .ok (.ifCond .lt 8, 3) := by decide +kernel
theorem dX4_hit_8 : decode cX4_hit 8 = .ok (.iload_n 2, 1) := by decide +kernel
theorem dX4_hit_9 : decode cX4_hit 9 = .ok (.iconst 2, 1) := by decide +kernel
theorem dX4_hit_10 : decode cX4_hit 10 = .ok (.if_icmp .le 13, 3) := by decide +kernel
theorem dX4_hit_13 : decode cX4_hit 13 = .ok (.new 53, 3) := by decide +kernel
theorem dX4_hit_16 : decode cX4_hit 16 = .ok (.dup, 1) := by decide +kernel
theorem dX4_hit_17 : decode cX4_hit 17 = .ok (.ldc 153, 2) := by decide +kernel
theorem dX4_hit_19 : decode cX4_hit 19 = .ok (.invokespecial 57, 3) := by decide +kernel
theorem dX4_hit_22 : decode cX4_hit 22 = .ok (.athrow, 1) := by decide +kernel
theorem dX4_hit_23 : decode cX4_hit 23 = .ok (.iload_n 1, 1) := by decide +kernel
theorem dX4_hit_24 : decode cX4_hit 24 = .ok (.aload_n 0, 1) := by decide +kernel
theorem dX4_hit_25 : decode cX4_hit 25 = .ok (.getfield 19, 3) := by decide +kernel
theorem dX4_hit_28 : decode cX4_hit 28 = .ok (.getfield 133, 3) := by decide +kernel
theorem dX4_hit_31 : decode cX4_hit 31 = .ok (.if_icmp .lt 6, 3) := by decide +kernel
theorem dX4_hit_34 : decode cX4_hit 34 = .ok (.bipush (-9), 2) := by decide +kernel
theorem dX4_hit_36 : decode cX4_hit 36 = .ok (.ireturn, 1) := by decide +kernel
theorem dX4_hit_37 : decode cX4_hit 37 = .ok (.aload_n 0, 1) := by decide +kernel
theorem dX4_hit_38 : decode cX4_hit 38 = .ok (.getfield 19, 3) := by decide +kernel
theorem dX4_hit_41 : decode cX4_hit 41 = .ok (.getfield 155, 3) := by decide +kernel
theorem dX4_hit_44 : decode cX4_hit 44 = .ok (.iconst 3, 1) := by decide +kernel
theorem dX4_hit_45 : decode cX4_hit 45 = .ok (.aload_n 0, 1) := by decide +kernel
theorem dX4_hit_46 : decode cX4_hit 46 = .ok (.getfield 19, 3) := by decide +kernel
theorem dX4_hit_49 : decode cX4_hit 49 = .ok (.iload_n 1, 1) := by decide +kernel
theorem dX4_hit_50 : decode cX4_hit 50 = .ok (.invokevirtual 158, 3) := by decide +kernel
theorem dX4_hit_53 : decode cX4_hit 53 = .ok (.imul, 1) := by decide +kernel
theorem dX4_hit_54 : decode cX4_hit 54 = .ok (.iload_n 2, 1) := by decide +kernel
theorem dX4_hit_55 : decode cX4_hit 55 = .ok (.iadd, 1) := by decide +kernel
theorem dX4_hit_56 : decode cX4_hit 56 = .ok (.iaload, 1) := by decide +kernel
theorem dX4_hit_57 : decode cX4_hit 57 = .ok (.ireturn, 1) := by decide +kernel
theorem dX4_reading_0 : decode cX4_reading 0 = .ok (.aload_n 0, 1) := by decide +kernel
theorem dX4_reading_1 : decode cX4_reading 1 = .ok (.iload_n 1, 1) := by decide +kernel
theorem dX4_reading_2 : decode cX4_reading 2 = .ok (.invokevirtual 161, 3) := by decide +kernel
theorem dX4_reading_5 : decode cX4_reading 5 = .ok (.iload_n 2, 1) := by decide +kernel
theorem dX4_reading_6 : decode cX4_reading 6 = .ok (.ifCond .lt 8, 3) := by decide +kernel
theorem dX4_reading_9 : decode cX4_reading 9 = .ok (.iload_n 2, 1) := by decide +kernel
theorem dX4_reading_10 : decode cX4_reading 10 = .ok (.iconst 2, 1) := by decide +kernel
theorem dX4_reading_11 : decode cX4_reading 11 = .ok (.if_icmp .le 13, 3) := by decide +kernel
theorem dX4_reading_14 : decode cX4_reading 14 = .ok (.new 53, 3) := by decide +kernel
theorem dX4_reading_17 : decode cX4_reading 17 = .ok (.dup, 1) := by decide +kernel
theorem dX4_reading_18 : decode cX4_reading 18 = .ok (.ldc 142, 2) := by decide +kernel
theorem dX4_reading_20 : decode cX4_reading 20 = .ok (.invokespecial 57, 3) := by decide +kernel
theorem dX4_reading_23 : decode cX4_reading 23 = .ok (.athrow, 1) := by decide +kernel
theorem dX4_reading_24 : decode cX4_reading 24 = .ok (.aload_n 0, 1) := by decide +kernel
theorem dX4_reading_25 : decode cX4_reading 25 = .ok (.getfield 19, 3) := by decide +kernel
theorem dX4_reading_28 : decode cX4_reading 28 = .ok (.getfield 164, 3) := by decide +kernel
theorem dX4_reading_31 : decode cX4_reading 31 = .ok (.iconst 3, 1) := by decide +kernel
theorem dX4_reading_32 : decode cX4_reading 32 = .ok (.iload_n 1, 1) := by decide +kernel
theorem dX4_reading_33 : decode cX4_reading 33 = .ok (.imul, 1) := by decide +kernel
theorem dX4_reading_34 : decode cX4_reading 34 = .ok (.iload_n 2, 1) := by decide +kernel
theorem dX4_reading_35 : decode cX4_reading 35 = .ok (.iadd, 1) := by decide +kernel
theorem dX4_reading_36 : decode cX4_reading 36 = .ok (.iaload, 1) := by decide +kernel
theorem dX4_reading_37 : decode cX4_reading 37 = .ok (.ireturn, 1) := by decide +kernel
theorem dX4_sine_0 : decode cX4_sine 0 = .ok (.iconst 0, 1) := by decide +kernel
theorem dX4_sine_1 : decode cX4_sine 1 = .ok (.iload_n 1, 1) := by decide +kernel
theorem dX4_sine_2 : decode cX4_sine 2 = .ok (.invokestatic 167, 3) := by decide +kernel
theorem dX4_sine_5 : decode cX4_sine 5 = .ok (.ifCond .ne 13, 3) := by decide +kernel
theorem dX4_sine_8 : decode cX4_sine 8 = .ok (.new 53, 3) := by decide +kernel
theorem dX4_sine_11 : decode cX4_sine 11 = .ok (.dup, 1) := by decide +kernel
theorem dX4_sine_12 : decode cX4_sine 12 = .ok (.ldc 171, 2) := by decide +kernel
theorem dX4_sine_14 : decode cX4_sine 14 = .ok (.invokespecial 57, 3) := by decide +kernel
theorem dX4_sine_17 : decode cX4_sine 17 = .ok (.athrow, 1) := by decide +kernel
theorem dX4_sine_18 : decode cX4_sine 18 = .ok (.iload_n 1, 1) := by decide +kernel
theorem dX4_sine_19 : decode cX4_sine 19 = .ok (.invokestatic 173, 3) := by decide +kernel
theorem dX4_sine_22 : decode cX4_sine 22 = .ok (.ireturn, 1) := by decide +kernel
theorem dX4_swing_0 : decode cX4_swing 0 = .ok (.iload_n 1, 1) := by decide +kernel
theorem dX4_swing_1 : decode cX4_swing 1 = .ok (.invokestatic 176, 3) := by decide +kernel
theorem dX4_swing_4 : decode cX4_swing 4 = .ok (.ifCond .ne 13, 3) := by decide +kernel
theorem dX4_swing_7 : decode cX4_swing 7 = .ok (.new 53, 3) := by decide +kernel
theorem dX4_swing_10 : decode cX4_swing 10 = .ok (.dup, 1) := by decide +kernel
theorem dX4_swing_11 : decode cX4_swing 11 = .ok (.ldc 180, 2) := by decide +kernel
theorem dX4_swing_13 : decode cX4_swing 13 = .ok (.invokespecial 57, 3) := by decide +kernel
theorem dX4_swing_16 : decode cX4_swing 16 = .ok (.athrow, 1) := by decide +kernel
theorem dX4_swing_17 : decode cX4_swing 17 = .ok (.aload_n 0, 1) := by decide +kernel
theorem dX4_swing_18 : decode cX4_swing 18 = .ok (.getfield 35, 3) := by decide +kernel
theorem dX4_swing_21 : decode cX4_swing 21 = .ok (.aload_n 0, 1) := by decide +kernel
theorem dX4_swing_22 : decode cX4_swing 22 = .ok (.getfield 19, 3) := by decide +kernel
theorem dX4_swing_25 : decode cX4_swing 25 = .ok (.invokevirtual 182, 3) := by decide +kernel
theorem dX4_swing_28 : decode cX4_swing 28 = .ok (.aload_n 0, 1) := by decide +kernel
theorem dX4_swing_29 : decode cX4_swing 29 = .ok (.getfield 28, 3) := by decide +kernel
theorem dX4_swing_32 : decode cX4_swing 32 = .ok (.invokevirtual 185, 3) := by decide +kernel
theorem dX4_swing_35 : decode cX4_swing 35 = .ok (.aload_n 0, 1) := by decide +kernel
theorem dX4_swing_36 : decode cX4_swing 36 = .ok (.getfield 28, 3) := by decide +kernel
theorem dX4_swing_39 : decode cX4_swing 39 = .ok (.iload_n 1, 1) := by decide +kernel
theorem dX4_swing_40 : decode cX4_swing 40 = .ok (.invokevirtual 186, 3) := by decide +kernel
theorem dX4_swing_43 : decode cX4_swing 43 = .ok (.ireturn, 1) := by decide +kernel
theorem dX4_set_0 : decode cX4_set 0 = .ok (.iload_n 1, 1) := by decide +kernel
theorem dX4_set_1 : decode cX4_set 1 = .ok (.iload_n 2, 1) := by decide +kernel
theorem dX4_set_2 : decode cX4_set 2 = .ok (.invokestatic 167, 3) := by decide +kernel
theorem dX4_set_5 : decode cX4_set 5 = .ok (.ifCond .ne 13, 3) := by decide +kernel
theorem dX4_set_8 : decode cX4_set 8 = .ok (.new 53, 3) := by decide +kernel
theorem dX4_set_11 : decode cX4_set 11 = .ok (.dup, 1) := by decide +kernel
theorem dX4_set_12 : decode cX4_set 12 = .ok (.ldc 189, 2) := by decide +kernel
theorem dX4_set_14 : decode cX4_set 14 = .ok (.invokespecial 57, 3) := by decide +kernel
theorem dX4_set_17 : decode cX4_set 17 = .ok (.athrow, 1) := by decide +kernel
theorem dX4_set_18 : decode cX4_set 18 = .ok (.aload_n 0, 1) := by decide +kernel
theorem dX4_set_19 : decode cX4_set 19 = .ok (.getfield 35, 3) := by decide +kernel
theorem dX4_set_22 : decode cX4_set 22 = .ok (.aload_n 0, 1) := by decide +kernel
theorem dX4_set_23 : decode cX4_set 23 = .ok (.getfield 19, 3) := by decide +kernel
theorem dX4_set_26 : decode cX4_set 26 = .ok (.invokevirtual 182, 3) := by decide +kernel
theorem dX4_set_29 : decode cX4_set 29 = .ok (.aload_n 0, 1) := by decide +kernel
theorem dX4_set_30 : decode cX4_set 30 = .ok (.getfield 19, 3) := by decide +kernel
theorem dX4_set_33 : decode cX4_set 33 = .ok (.getfield 82, 3) := by decide +kernel
theorem dX4_set_36 : decode cX4_set 36 = .ok (.iload_n 1, 1) := by decide +kernel
theorem dX4_set_37 : decode cX4_set 37 = .ok (.iaload, 1) := by decide +kernel
theorem dX4_set_38 : decode cX4_set 38 = .ok (.istore_n 3, 1) := by decide +kernel
theorem dX4_set_39 : decode cX4_set 39 = .ok (.aload_n 0, 1) := by decide +kernel
theorem dX4_set_40 : decode cX4_set 40 = .ok (.getfield 19, 3) := by decide +kernel
theorem dX4_set_43 : decode cX4_set 43 = .ok (.iload_n 1, 1) := by decide +kernel
theorem dX4_set_44 : decode cX4_set 44 = .ok (.iload_n 2, 1) := by decide +kernel
theorem dX4_set_45 : decode cX4_set 45 = .ok (.invokevirtual 191, 3) := by decide +kernel
theorem dX4_set_48 : decode cX4_set 48 = .ok (.iload_n 3, 1) := by decide +kernel
theorem dX4_set_49 : decode cX4_set 49 = .ok (.ireturn, 1) := by decide +kernel
theorem dX4_push_0 : decode cX4_push 0 = .ok (.iload_n 1, 1) := by decide +kernel
theorem dX4_push_1 : decode cX4_push 1 = .ok (.invokestatic 195, 3) := by decide +kernel
theorem dX4_push_4 : decode cX4_push 4 = .ok (.ifCond .ne 13, 3) := by decide +kernel
theorem dX4_push_7 : decode cX4_push 7 = .ok (.new 53, 3) := by decide +kernel
theorem dX4_push_10 : decode cX4_push 10 = .ok (.dup, 1) := by decide +kernel
theorem dX4_push_11 : decode cX4_push 11 = .ok (.ldc 198, 2) := by decide +kernel
theorem dX4_push_13 : decode cX4_push 13 = .ok (.invokespecial 57, 3) := by decide +kernel
theorem dX4_push_16 : decode cX4_push 16 = .ok (.athrow, 1) := by decide +kernel
theorem dX4_push_17 : decode cX4_push 17 = .ok (.aload_n 0, 1) := by decide +kernel
theorem dX4_push_18 : decode cX4_push 18 = .ok (.getfield 35, 3) := by decide +kernel
theorem dX4_push_21 : decode cX4_push 21 = .ok (.aload_n 0, 1) := by decide +kernel
theorem dX4_push_22 : decode cX4_push 22 = .ok (.getfield 19, 3) := by decide +kernel
theorem dX4_push_25 : decode cX4_push 25 = .ok (.invokevirtual 182, 3) := by decide +kernel
theorem dX4_push_28 : decode cX4_push 28 = .ok (.aload_n 0, 1) := by decide +kernel
theorem dX4_push_29 : decode cX4_push 29 = .ok (.getfield 19, 3) := by decide +kernel
theorem dX4_push_32 : decode cX4_push 32 = .ok (.iload_n 1, 1) := by decide +kernel
theorem dX4_push_33 : decode cX4_push 33 = .ok (.invokevirtual 200, 3) := by decide +kernel
theorem dX4_push_36 : decode cX4_push 36 = .ok (.aload_n 0, 1) := by decide +kernel
theorem dX4_push_37 : decode cX4_push 37 = .ok (.getfield 19, 3) := by decide +kernel
theorem dX4_push_40 : decode cX4_push 40 = .ok (.getfield 98, 3) := by decide +kernel
theorem dX4_push_43 : decode cX4_push 43 = .ok (.ireturn, 1) := by decide +kernel
theorem dX4_nudge_0 : decode cX4_nudge 0 = .ok (.iload_n 1, 1) := by decide +kernel
theorem dX4_nudge_1 : decode cX4_nudge 1 = .ok (.invokestatic 203, 3) := by decide +kernel
theorem dX4_nudge_4 : decode cX4_nudge 4 = .ok (.ifCond .ne 13, 3) := by decide +kernel
theorem dX4_nudge_7 : decode cX4_nudge 7 = .ok (.new 53, 3) := by decide +kernel
theorem dX4_nudge_10 : decode cX4_nudge 10 = .ok (.dup, 1) := by decide +kernel
theorem dX4_nudge_11 : decode cX4_nudge 11 = .ok (.ldc 206, 2) := by decide +kernel
theorem dX4_nudge_13 : decode cX4_nudge 13 = .ok (.invokespecial 57, 3) := by decide +kernel
theorem dX4_nudge_16 : decode cX4_nudge 16 = .ok (.athrow, 1) := by decide +kernel
theorem dX4_nudge_17 : decode cX4_nudge 17 = .ok (.aload_n 0, 1) := by decide +kernel
theorem dX4_nudge_18 : decode cX4_nudge 18 = .ok (.getfield 35, 3) := by decide +kernel
theorem dX4_nudge_21 : decode cX4_nudge 21 = .ok (.aload_n 0, 1) := by decide +kernel
theorem dX4_nudge_22 : decode cX4_nudge 22 = .ok (.getfield 19, 3) := by decide +kernel
theorem dX4_nudge_25 : decode cX4_nudge 25 = .ok (.invokevirtual 182, 3) := by decide +kernel
theorem dX4_nudge_28 : decode cX4_nudge 28 = .ok (.aload_n 0, 1) := by decide +kernel
theorem dX4_nudge_29 : decode cX4_nudge 29 = .ok (.getfield 19, 3) := by decide +kernel
theorem dX4_nudge_32 : decode cX4_nudge 32 = .ok (.iload_n 1, 1) := by decide +kernel
theorem dX4_nudge_33 : decode cX4_nudge 33 = .ok (.invokevirtual 208, 3) := by decide +kernel
theorem dX4_nudge_36 : decode cX4_nudge 36 = .ok (.aload_n 0, 1) := by decide +kernel
theorem dX4_nudge_37 : decode cX4_nudge 37 = .ok (.getfield 19, 3) := by decide +kernel
theorem dX4_nudge_40 : decode cX4_nudge 40 = .ok (.getfield 121, 3) := by decide +kernel
theorem dX4_nudge_43 : decode cX4_nudge 43 = .ok (.ireturn, 1) := by decide +kernel
theorem dX4_addPin_0 : decode cX4_addPin 0 = .ok (.iload_n 1, 1) := by decide +kernel
theorem dX4_addPin_1 : decode cX4_addPin 1 = .ok (.ifCond .lt 10, 3) := by decide +kernel
theorem dX4_addPin_4 : decode cX4_addPin 4 = .ok (.iload_n 1, 1) := by decide +kernel
theorem dX4_addPin_5 : decode cX4_addPin 5 = .ok (.sipush 10800, 3) := by decide +kernel
theorem dX4_addPin_8 : decode cX4_addPin 8 = .ok (.if_icmp .lt 13, 3) := by decide +kernel
theorem dX4_addPin_11 : decode cX4_addPin 11 = .ok (.new 53, 3) := by decide +kernel
theorem dX4_addPin_14 : decode cX4_addPin 14 = .ok (.dup, 1) := by decide +kernel
theorem dX4_addPin_15 : decode cX4_addPin 15 = .ok (.ldc 211, 2) := by decide +kernel
theorem dX4_addPin_17 : decode cX4_addPin 17 = .ok (.invokespecial 57, 3) := by decide +kernel
theorem dX4_addPin_20 : decode cX4_addPin 20 = .ok (.athrow, 1) := by decide +kernel
theorem dX4_addPin_21 : decode cX4_addPin 21 = .ok (.aload_n 0, 1) := by decide +kernel
theorem dX4_addPin_22 : decode cX4_addPin 22 = .ok (.getfield 19, 3) := by decide +kernel
theorem dX4_addPin_25 : decode cX4_addPin 25 = .ok (.getfield 114, 3) := by decide +kernel
theorem dX4_addPin_28 : decode cX4_addPin 28 = .ok (.bipush 40, 2) := by decide +kernel
theorem dX4_addPin_30 : decode cX4_addPin 30 = .ok (.if_icmp .ge 16, 3) := by decide +kernel
theorem dX4_addPin_33 : decode cX4_addPin 33 = .ok (.aload_n 0, 1) := by decide +kernel
theorem dX4_addPin_34 : decode cX4_addPin 34 = .ok (.getfield 19, 3) := by decide +kernel
theorem dX4_addPin_37 : decode cX4_addPin 37 = .ok (.iload_n 1, 1) := by decide +kernel
theorem dX4_addPin_38 : decode cX4_addPin 38 = .ok (.invokevirtual 213, 3) := by decide +kernel
theorem dX4_addPin_41 : decode cX4_addPin 41 = .ok (.bipush (-9), 2) := by decide +kernel
theorem dX4_addPin_43 : decode cX4_addPin 43 = .ok (.if_icmp .eq 13, 3) := by decide +kernel
theorem dX4_addPin_46 : decode cX4_addPin 46 = .ok (.new 64, 3) := by decide +kernel
theorem dX4_addPin_49 : decode cX4_addPin 49 = .ok (.dup, 1) := by decide +kernel
theorem dX4_addPin_50 : decode cX4_addPin 50 = .ok (.ldc 216, 2) := by decide +kernel
theorem dX4_addPin_52 : decode cX4_addPin 52 = .ok (.invokespecial 68, 3) := by decide +kernel
theorem dX4_addPin_55 : decode cX4_addPin 55 = .ok (.athrow, 1) := by decide +kernel
theorem dX4_addPin_56 : decode cX4_addPin 56 = .ok (.aload_n 0, 1) := by decide +kernel
theorem dX4_addPin_57 : decode cX4_addPin 57 = .ok (.getfield 35, 3) := by decide +kernel
theorem dX4_addPin_60 : decode cX4_addPin 60 = .ok (.aload_n 0, 1) := by decide +kernel
theorem dX4_addPin_61 : decode cX4_addPin 61 = .ok (.getfield 19, 3) := by decide +kernel
theorem dX4_addPin_64 : decode cX4_addPin 64 = .ok (.invokevirtual 182, 3) := by decide +kernel
theorem dX4_addPin_67 : decode cX4_addPin 67 = .ok (.aload_n 0, 1) := by decide +kernel
theorem dX4_addPin_68 : decode cX4_addPin 68 = .ok (.getfield 19, 3) := by decide +kernel
theorem dX4_addPin_71 : decode cX4_addPin 71 = .ok (.iload_n 1, 1) := by decide +kernel
theorem dX4_addPin_72 : decode cX4_addPin 72 = .ok (.invokevirtual 107, 3) := by decide +kernel
theorem dX4_addPin_75 : decode cX4_addPin 75 = .ok (.aload_n 0, 1) := by decide +kernel
theorem dX4_addPin_76 : decode cX4_addPin 76 = .ok (.getfield 19, 3) := by decide +kernel
theorem dX4_addPin_79 : decode cX4_addPin 79 = .ok (.getfield 114, 3) := by decide +kernel
theorem dX4_addPin_82 : decode cX4_addPin 82 = .ok (.iconst 1, 1) := by decide +kernel
theorem dX4_addPin_83 : decode cX4_addPin 83 = .ok (.isub, 1) := by decide +kernel
theorem dX4_addPin_84 : decode cX4_addPin 84 = .ok (.ireturn, 1) := by decide +kernel
theorem dX4_removePin_0 : decode cX4_removePin 0 = .ok (.aload_n 0, 1) := by decide +kernel
theorem dX4_removePin_1 : decode cX4_removePin 1 = .ok (.iload_n 1, 1) := by decide +kernel
theorem dX4_removePin_2 : decode cX4_removePin 2 = .ok (.invokevirtual 139, 3) := by decide +kernel
theorem dX4_removePin_5 : decode cX4_removePin 5 = .ok (.aload_n 0, 1) := by decide +kernel
theorem dX4_removePin_6 : decode cX4_removePin 6 = .ok (.getfield 35, 3) := by decide +kernel
theorem dX4_removePin_9 : decode cX4_removePin 9 = .ok (.aload_n 0, 1) := by decide +kernel
theorem dX4_removePin_10 : decode cX4_removePin 10 = .ok (.getfield 19, 3) := by decide +kernel
theorem dX4_removePin_13 : decode cX4_removePin 13 = .ok (.invokevirtual 182, 3) := by decide +kernel
theorem dX4_removePin_16 : decode cX4_removePin 16 = .ok (.aload_n 0, 1) := by decide +kernel
theorem dX4_removePin_17 : decode cX4_removePin 17 = .ok (.getfield 19, 3) := by decide +kernel
theorem dX4_removePin_20 : decode cX4_removePin 20 = .ok (.getfield 144, 3) := by decide +kernel
theorem dX4_removePin_23 : decode cX4_removePin 23 = .ok (.iload_n 1, 1) := by decide +kernel
theorem dX4_removePin_24 : decode cX4_removePin 24 = .ok (.iaload, 1) := by decide +kernel
theorem dX4_removePin_25 : decode cX4_removePin 25 = .ok (.istore_n 2, 1) := by decide +kernel
theorem dX4_removePin_26 : decode cX4_removePin 26 = .ok (.aload_n 0, 1) := by decide +kernel
theorem dX4_removePin_27 : decode cX4_removePin 27 = .ok (.getfield 19, 3) := by decide +kernel
theorem dX4_removePin_30 : decode cX4_removePin 30 = .ok (.iload_n 1, 1) := by decide +kernel
theorem dX4_removePin_31 : decode cX4_removePin 31 = .ok (.invokevirtual 218, 3) := by decide +kernel
theorem dX4_removePin_34 : decode cX4_removePin 34 = .ok (.iload_n 2, 1) := by decide +kernel
theorem dX4_removePin_35 : decode cX4_removePin 35 = .ok (.ireturn, 1) := by decide +kernel
theorem dX4_raise_0 : decode cX4_raise 0 = .ok (.aload_n 0, 1) := by decide +kernel
theorem dX4_raise_1 : decode cX4_raise 1 = .ok (.getfield 35, 3) := by decide +kernel
theorem dX4_raise_4 : decode cX4_raise 4 = .ok (.aload_n 0, 1) := by decide +kernel
theorem dX4_raise_5 : decode cX4_raise 5 = .ok (.getfield 19, 3) := by decide +kernel
theorem dX4_raise_8 : decode cX4_raise 8 = .ok (.invokevirtual 182, 3) := by decide +kernel
theorem dX4_raise_11 : decode cX4_raise 11 = .ok (.aload_n 0, 1) := by decide +kernel
theorem dX4_raise_12 : decode cX4_raise 12 = .ok (.getfield 19, 3) := by decide +kernel
theorem dX4_raise_15 : decode cX4_raise 15 = .ok (.getfield 114, 3) := by decide +kernel
theorem dX4_raise_18 : decode cX4_raise 18 = .ok (.aload_n 0, 1) := by decide +kernel
theorem dX4_raise_19 : decode cX4_raise 19 = .ok (.getfield 19, 3) := by decide +kernel
theorem dX4_raise_22 : decode cX4_raise 22 = .ok (.invokevirtual 130, 3) := by decide +kernel
theorem dX4_raise_25 : decode cX4_raise 25 = .ok (.isub, 1) := by decide +kernel
theorem dX4_raise_26 : decode cX4_raise 26 = .ok (.istore_n 1, 1) := by decide +kernel
theorem dX4_raise_27 : decode cX4_raise 27 = .ok (.aload_n 0, 1) := by decide +kernel
theorem dX4_raise_28 : decode cX4_raise 28 = .ok (.getfield 19, 3) := by decide +kernel
theorem dX4_raise_31 : decode cX4_raise 31 = .ok (.invokevirtual 221, 3) := by decide +kernel
theorem dX4_raise_34 : decode cX4_raise 34 = .ok (.iload_n 1, 1) := by decide +kernel
theorem dX4_raise_35 : decode cX4_raise 35 = .ok (.ireturn, 1) := by decide +kernel
theorem dX4_read_0 : decode cX4_read 0 = .ok (.aload_n 0, 1) := by decide +kernel
theorem dX4_read_1 : decode cX4_read 1 = .ok (.getfield 19, 3) := by decide +kernel
theorem dX4_read_4 : decode cX4_read 4 = .ok (.getfield 136, 3) := by decide +kernel
theorem dX4_read_7 : decode cX4_read 7 = .ok (.bipush 20, 2) := by decide +kernel
theorem dX4_read_9 : decode cX4_read 9 = .ok (.if_icmp .lt 13, 3) := by decide +kernel
theorem dX4_read_12 : decode cX4_read 12 = .ok (.new 64, 3) := by decide +kernel
theorem dX4_read_15 : decode cX4_read 15 = .ok (.dup, 1) := by decide +kernel
theorem dX4_read_16 : decode cX4_read 16 = .ok (.ldc 224, 2) := by decide +kernel
theorem dX4_read_18 : decode cX4_read 18 = .ok (.invokespecial 68, 3) := by decide +kernel
theorem dX4_read_21 : decode cX4_read 21 = .ok (.athrow, 1) := by decide +kernel
theorem dX4_read_22 : decode cX4_read 22 = .ok (.aload_n 0, 1) := by decide +kernel
theorem dX4_read_23 : decode cX4_read 23 = .ok (.getfield 35, 3) := by decide +kernel
theorem dX4_read_26 : decode cX4_read 26 = .ok (.aload_n 0, 1) := by decide +kernel
theorem dX4_read_27 : decode cX4_read 27 = .ok (.getfield 19, 3) := by decide +kernel
theorem dX4_read_30 : decode cX4_read 30 = .ok (.invokevirtual 182, 3) := by decide +kernel
theorem dX4_read_33 : decode cX4_read 33 = .ok (.aload_n 0, 1) := by decide +kernel
theorem dX4_read_34 : decode cX4_read 34 = .ok (.getfield 19, 3) := by decide +kernel
theorem dX4_read_37 : decode cX4_read 37 = .ok (.invokevirtual 226, 3) := by decide +kernel
theorem dX4_read_40 : decode cX4_read 40 = .ok (.aload_n 0, 1) := by decide +kernel
theorem dX4_read_41 : decode cX4_read 41 = .ok (.getfield 19, 3) := by decide +kernel
theorem dX4_read_44 : decode cX4_read 44 = .ok (.getfield 136, 3) := by decide +kernel
theorem dX4_read_47 : decode cX4_read 47 = .ok (.iconst 1, 1) := by decide +kernel
theorem dX4_read_48 : decode cX4_read 48 = .ok (.isub, 1) := by decide +kernel
theorem dX4_read_49 : decode cX4_read 49 = .ok (.ireturn, 1) := by decide +kernel
theorem dX4_undo_0 : decode cX4_undo 0 = .ok (.aload_n 0, 1) := by decide +kernel
theorem dX4_undo_1 : decode cX4_undo 1 = .ok (.getfield 35, 3) := by decide +kernel
theorem dX4_undo_4 : decode cX4_undo 4 = .ok (.getfield 229, 3) := by decide +kernel
theorem dX4_undo_7 : decode cX4_undo 7 = .ok (.iconst 1, 1) := by decide +kernel
theorem dX4_undo_8 : decode cX4_undo 8 = .ok (.if_icmp .ge 13, 3) := by decide +kernel
theorem dX4_undo_11 : decode cX4_undo 11 = .ok (.new 64, 3) := by decide +kernel
theorem dX4_undo_14 : decode cX4_undo 14 = .ok (.dup, 1) := by decide +kernel
theorem dX4_undo_15 : decode cX4_undo 15 = .ok (.ldc 232, 2) := by decide +kernel
theorem dX4_undo_17 : decode cX4_undo 17 = .ok (.invokespecial 68, 3) := by decide +kernel
theorem dX4_undo_20 : decode cX4_undo 20 = .ok (.athrow, 1) := by decide +kernel
theorem dX4_undo_21 : decode cX4_undo 21 = .ok (.aload_n 0, 1) := by decide +kernel
theorem dX4_undo_22 : decode cX4_undo 22 = .ok (.getfield 35, 3) := by decide +kernel
theorem dX4_undo_25 : decode cX4_undo 25 = .ok (.aload_n 0, 1) := by decide +kernel
theorem dX4_undo_26 : decode cX4_undo 26 = .ok (.getfield 19, 3) := by decide +kernel
theorem dX4_undo_29 : decode cX4_undo 29 = .ok (.invokevirtual 234, 3) := by decide +kernel
theorem dX4_undo_32 : decode cX4_undo 32 = .ok (.aload_n 0, 1) := by decide +kernel
theorem dX4_undo_33 : decode cX4_undo 33 = .ok (.getfield 35, 3) := by decide +kernel
theorem dX4_undo_36 : decode cX4_undo 36 = .ok (.getfield 229, 3) := by decide +kernel
theorem dX4_undo_39 : decode cX4_undo 39 = .ok (.ireturn, 1) := by decide +kernel
theorem dX4_move_0 : decode cX4_move 0 = .ok (.aload_n 0, 1) := by decide +kernel
theorem dX4_move_1 : decode cX4_move 1 = .ok (.iload_n 1, 1) := by decide +kernel
theorem dX4_move_2 : decode cX4_move 2 = .ok (.iload_n 2, 1) := by decide +kernel
theorem dX4_move_3 : decode cX4_move 3 = .ok (.invokevirtual 237, 3) := by decide +kernel
theorem dX4_move_6 : decode cX4_move 6 = .ok (.aload_n 0, 1) := by decide +kernel
theorem dX4_move_7 : decode cX4_move 7 = .ok (.getfield 19, 3) := by decide +kernel
theorem dX4_move_10 : decode cX4_move 10 = .ok (.iload_n 1, 1) := by decide +kernel
theorem dX4_move_11 : decode cX4_move 11 = .ok (.iload_n 2, 1) := by decide +kernel
theorem dX4_move_12 : decode cX4_move 12 = .ok (.invokevirtual 240, 3) := by decide +kernel
theorem dX4_move_15 : decode cX4_move 15 = .ok (.ireturn, 1) := by decide +kernel
theorem dX4_time_0 : decode cX4_time 0 = .ok (.aload_n 0, 1) := by decide +kernel
theorem dX4_time_1 : decode cX4_time 1 = .ok (.iload_n 1, 1) := by decide +kernel
theorem dX4_time_2 : decode cX4_time 2 = .ok (.iload_n 2, 1) := by decide +kernel
theorem dX4_time_3 : decode cX4_time 3 = .ok (.invokevirtual 237, 3) := by decide +kernel
theorem dX4_time_6 : decode cX4_time 6 = .ok (.aload_n 0, 1) := by decide +kernel
theorem dX4_time_7 : decode cX4_time 7 = .ok (.getfield 19, 3) := by decide +kernel
theorem dX4_time_10 : decode cX4_time 10 = .ok (.getfield 82, 3) := by decide +kernel
theorem dX4_time_13 : decode cX4_time 13 = .ok (.iconst 0, 1) := by decide +kernel
theorem dX4_time_14 : decode cX4_time 14 = .ok (.iaload, 1) := by decide +kernel
theorem dX4_time_15 : decode cX4_time 15 = .ok (.istore_n 3, 1) := by decide +kernel
theorem dX4_time_16 : decode cX4_time 16 = .ok (.iload_n 3, 1) := by decide +kernel
theorem dX4_time_17 : decode cX4_time 17 = .ok (.invokestatic 244, 3) := by decide +kernel
theorem dX4_time_20 : decode cX4_time 20 = .ok (.invokestatic 173, 3) := by decide +kernel
theorem dX4_time_23 : decode cX4_time 23 = .ok (.istore 4, 2) := by decide +kernel
theorem dX4_time_25 : decode cX4_time 25 = .ok (.iload 4, 2) := by decide +kernel
theorem dX4_time_27 : decode cX4_time 27 = .ok (.ifCond .ne 6, 3) := by decide +kernel
theorem dX4_time_30 : decode cX4_time 30 = .ok (.bipush (-9), 2) := by decide +kernel
theorem dX4_time_32 : decode cX4_time 32 = .ok (.ireturn, 1) := by decide +kernel
theorem dX4_time_33 : decode cX4_time 33 = .ok (.aload_n 0, 1) := by decide +kernel
theorem dX4_time_34 : decode cX4_time 34 = .ok (.getfield 19, 3) := by decide +kernel
theorem dX4_time_37 : decode cX4_time 37 = .ok (.iload_n 1, 1) := by decide +kernel
theorem dX4_time_38 : decode cX4_time 38 = .ok (.iload_n 2, 1) := by decide +kernel
theorem dX4_time_39 : decode cX4_time 39 = .ok (.invokevirtual 240, 3) := by decide +kernel
theorem dX4_time_42 : decode cX4_time 42 = .ok (.istore 5, 2) := by decide +kernel
theorem dX4_time_44 : decode cX4_time 44 = .ok (.iload_n 3, 1) := by decide +kernel
theorem dX4_time_45 : decode cX4_time 45 = .ok (.ifCond .ge 11, 3) := by decide +kernel
theorem dX4_time_48 : decode cX4_time 48 = .ok (.iload 5, 2) := by decide +kernel
theorem dX4_time_50 : decode cX4_time 50 = .ok (.ineg, 1) := by decide +kernel
theorem dX4_time_51 : decode cX4_time 51 = .ok (.invokestatic 150, 3) := by decide +kernel
theorem dX4_time_54 : decode cX4_time 54 = .ok (.istore 5, 2) := by decide +kernel
theorem dX4_time_56 : decode cX4_time 56 = .ok (.iload 5, 2) := by decide +kernel
theorem dX4_time_58 : decode cX4_time 58 = .ok (.ldc 249, 2) := by decide +kernel
theorem dX4_time_60 : decode cX4_time 60 = .ok (.imul, 1) := by decide +kernel
theorem dX4_time_61 : decode cX4_time 61 = .ok (.sipush 900, 3) := by decide +kernel
theorem dX4_time_64 : decode cX4_time 64 = .ok (.iload 4, 2) := by decide +kernel
theorem dX4_time_66 : decode cX4_time 66 = .ok (.imul, 1) := by decide +kernel
theorem dX4_time_67 : decode cX4_time 67 = .ok (.idiv, 1) := by decide +kernel
theorem dX4_time_68 : decode cX4_time 68 = .ok (.ireturn, 1) := by decide +kernel
theorem dX4_latitudeFrom_0 : decode cX4_latitudeFrom 0 = .ok (.aload_n 0, 1) := by decide +kernel
theorem dX4_latitudeFrom_1 : decode cX4_latitudeFrom 1 = .ok (.iload_n 1, 1) := by decide +kernel
theorem dX4_latitudeFrom_2 : decode cX4_latitudeFrom 2 = .ok (.iload_n 2, 1) := by decide +kernel
theorem dX4_latitudeFrom_3 : decode cX4_latitudeFrom 3 = .ok (.invokevirtual 237, 3) := by decide +kernel
theorem dX4_latitudeFrom_6 : decode cX4_latitudeFrom 6 = .ok (.iconst 0, 1) := by decide +kernel
theorem dX4_latitudeFrom_7 : decode cX4_latitudeFrom 7 = .ok (.istore_n 3, 1) := by decide +kernel
theorem dX4_latitudeFrom_8 : decode cX4_latitudeFrom 8 = .ok (.sipush 10800, 3) := by decide +kernel
theorem dX4_latitudeFrom_11 : decode cX4_latitudeFrom 11 = .ok (.istore 4, 2) := by decide +kernel
theorem dX4_latitudeFrom_13 : decode cX4_latitudeFrom 13 = .ok (.iconst 0, 1) := by decide +kernel
theorem dX4_latitudeFrom_14 : decode cX4_latitudeFrom 14 = .ok (.istore 5, 2) := by decide +kernel
theorem dX4_latitudeFrom_16 : decode cX4_latitudeFrom 16 = .ok (.iload 5, 2) := by decide +kernel
theorem dX4_latitudeFrom_18 : decode cX4_latitudeFrom 18 = .ok (.getstatic 250, 3) := by decide +kernel
theorem dX4_latitudeFrom_21 : decode cX4_latitudeFrom 21 = .ok (.iconst 0, 1) := by decide +kernel
theorem dX4_latitudeFrom_22 : decode cX4_latitudeFrom 22 = .ok (.iaload, 1) := by decide +kernel
theorem dX4_latitudeFrom_23 : decode cX4_latitudeFrom 23 = .ok (.if_icmp .gt 65, 3) := by decide +kernel
theorem dX4_latitudeFrom_26 : decode cX4_latitudeFrom 26 = .ok (.aload_n 0, 1) := by decide +kernel
theorem dX4_latitudeFrom_27 : decode cX4_latitudeFrom 27 = .ok (.getfield 19, 3) := by decide +kernel
theorem dX4_latitudeFrom_30 : decode cX4_latitudeFrom 30 = .ok (.iload_n 1, 1) := by decide +kernel
theorem dX4_latitudeFrom_31 : decode cX4_latitudeFrom 31 = .ok (.iload_n 2, 1) := by decide +kernel
theorem dX4_latitudeFrom_32 : decode cX4_latitudeFrom 32 = .ok (.iload 5, 2) := by decide +kernel
theorem dX4_latitudeFrom_34 : decode cX4_latitudeFrom 34 = .ok (.invokevirtual 253, 3) := by decide +kernel
theorem dX4_latitudeFrom_37 : decode cX4_latitudeFrom 37 = .ok (.istore 6, 2) := by decide +kernel
theorem dX4_latitudeFrom_39 : decode cX4_latitudeFrom 39 = .ok (.iload 6, 2) := by decide +kernel
theorem dX4_latitudeFrom_41 : decode cX4_latitudeFrom 41 = .ok (.iload 4, 2) := by decide +kernel
theorem dX4_latitudeFrom_43 : decode cX4_latitudeFrom 43 = .ok (.if_icmp .ge 10, 3) := by decide +kernel
theorem dX4_latitudeFrom_46 : decode cX4_latitudeFrom 46 = .ok (.iload 6, 2) := by decide +kernel
theorem dX4_latitudeFrom_48 : decode cX4_latitudeFrom 48 = .ok (.istore 4, 2) := by decide +kernel
theorem dX4_latitudeFrom_50 : decode cX4_latitudeFrom 50 = .ok (.iload 5, 2) := by decide +kernel
theorem dX4_latitudeFrom_52 : decode cX4_latitudeFrom 52 = .ok (.istore_n 3, 1) := by decide +kernel
theorem dX4_latitudeFrom_53 : decode cX4_latitudeFrom 53 = .ok (.aload_n 0, 1) := by decide +kernel
theorem dX4_latitudeFrom_54 : decode cX4_latitudeFrom 54 = .ok (.getfield 19, 3) := by decide +kernel
theorem dX4_latitudeFrom_57 : decode cX4_latitudeFrom 57 = .ok (.iload_n 1, 1) := by decide +kernel
theorem dX4_latitudeFrom_58 : decode cX4_latitudeFrom 58 = .ok (.iload_n 2, 1) := by decide +kernel
theorem dX4_latitudeFrom_59 : decode cX4_latitudeFrom 59 = .ok (.iload 5, 2) := by decide +kernel
theorem dX4_latitudeFrom_61 : decode cX4_latitudeFrom 61 = .ok (.ineg, 1) := by decide +kernel
theorem dX4_latitudeFrom_62 : decode cX4_latitudeFrom 62 = .ok (.invokevirtual 253, 3) := by decide +kernel
theorem dX4_latitudeFrom_65 : decode cX4_latitudeFrom 65 = .ok (.istore 6, 2) := by decide +kernel
theorem dX4_latitudeFrom_67 : decode cX4_latitudeFrom 67 = .ok (.iload 6, 2) := by decide +kernel
theorem dX4_latitudeFrom_69 : decode cX4_latitudeFrom 69 = .ok (.iload 4, 2) := by decide +kernel
theorem dX4_latitudeFrom_71 : decode cX4_latitudeFrom 71 = .ok (.if_icmp .ge 11, 3) := by decide +kernel
theorem dX4_latitudeFrom_74 : decode cX4_latitudeFrom 74 = .ok (.iload 6, 2) := by decide +kernel
theorem dX4_latitudeFrom_76 : decode cX4_latitudeFrom 76 = .ok (.istore 4, 2) := by decide +kernel
theorem dX4_latitudeFrom_78 : decode cX4_latitudeFrom 78 = .ok (.iload 5, 2) := by decide +kernel
theorem dX4_latitudeFrom_80 : decode cX4_latitudeFrom 80 = .ok (.ineg, 1) := by decide +kernel
theorem dX4_latitudeFrom_81 : decode cX4_latitudeFrom 81 = .ok (.istore_n 3, 1) := by decide +kernel
theorem dX4_latitudeFrom_82 : decode cX4_latitudeFrom 82 = .ok (.iinc 5 1, 3) := by decide +kernel
theorem dX4_latitudeFrom_85 : decode cX4_latitudeFrom 85 = .ok (.goto (-69), 3) := by decide +kernel
theorem dX4_latitudeFrom_88 : decode cX4_latitudeFrom 88 = .ok (.iload_n 3, 1) := by decide +kernel
theorem dX4_latitudeFrom_89 : decode cX4_latitudeFrom 89 = .ok (.ireturn, 1) := by decide +kernel
theorem dX4_ahead_0 : decode cX4_ahead 0 = .ok (.iload_n 1, 1) := by decide +kernel
theorem dX4_ahead_1 : decode cX4_ahead 1 = .ok (.ifCond .lt 19, 3) := by decide +kernel
theorem dX4_ahead_4 : decode cX4_ahead 4 = .ok (.iload_n 1, 1) := by decide +kernel
theorem dX4_ahead_5 : decode cX4_ahead 5 = .ok (.sipush 500, 3) := by decide +kernel
theorem dX4_ahead_8 : decode cX4_ahead 8 = .ok (.if_icmp .gt 12, 3) := by decide +kernel
theorem dX4_ahead_11 : decode cX4_ahead 11 = .ok (.iload_n 2, 1) := by decide +kernel
theorem dX4_ahead_12 : decode cX4_ahead 12 = .ok (.ifCond .lt 8, 3) := by decide +kernel
theorem dX4_ahead_15 : decode cX4_ahead 15 = .ok (.iload_n 2, 1) := by decide +kernel
theorem dX4_ahead_16 : decode cX4_ahead 16 = .ok (.iconst 3, 1) := by decide +kernel
theorem dX4_ahead_17 : decode cX4_ahead 17 = .ok (.if_icmp .le 14, 3) := by decide +kernel
theorem dX4_ahead_20 : decode cX4_ahead 20 = .ok (.new 53, 3) := by decide +kernel
theorem dX4_ahead_23 : decode cX4_ahead 23 = .ok (.dup, 1) := by decide +kernel
theorem dX4_ahead_24 : decode cX4_ahead 24 = .ok (.ldc_w 257, 3) := by decide +kernel
theorem dX4_ahead_27 : decode cX4_ahead 27 = .ok (.invokespecial 57, 3) := by decide +kernel
theorem dX4_ahead_30 : decode cX4_ahead 30 = .ok (.athrow, 1) := by decide +kernel
theorem dX4_ahead_31 : decode cX4_ahead 31 = .ok (.aload_n 0, 1) := by decide +kernel
theorem dX4_ahead_32 : decode cX4_ahead 32 = .ok (.invokevirtual 259, 3) := by decide +kernel
theorem dX4_ahead_35 : decode cX4_ahead 35 = .ok (.aload_n 0, 1) := by decide +kernel
theorem dX4_ahead_36 : decode cX4_ahead 36 = .ok (.getfield 50, 3) := by decide +kernel
theorem dX4_ahead_39 : decode cX4_ahead 39 = .ok (.iload_n 1, 1) := by decide +kernel
theorem dX4_ahead_40 : decode cX4_ahead 40 = .ok (.invokevirtual 186, 3) := by decide +kernel
theorem dX4_ahead_43 : decode cX4_ahead 43 = .ok (.istore_n 3, 1) := by decide +kernel
theorem dX4_ahead_44 : decode cX4_ahead 44 = .ok (.iload_n 2, 1) := by decide +kernel
theorem dX4_ahead_45 : decode cX4_ahead 45 = .ok (.tableswitch 45 0 2 #[27, 35, 43], 27) := by decide +kernel
theorem dX4_ahead_72 : decode cX4_ahead 72 = .ok (.aload_n 0, 1) := by decide +kernel
theorem dX4_ahead_73 : decode cX4_ahead 73 = .ok (.getfield 47, 3) := by decide +kernel
theorem dX4_ahead_76 : decode cX4_ahead 76 = .ok (.getfield 121, 3) := by decide +kernel
theorem dX4_ahead_79 : decode cX4_ahead 79 = .ok (.ireturn, 1) := by decide +kernel
theorem dX4_ahead_80 : decode cX4_ahead 80 = .ok (.aload_n 0, 1) := by decide +kernel
theorem dX4_ahead_81 : decode cX4_ahead 81 = .ok (.getfield 47, 3) := by decide +kernel
theorem dX4_ahead_84 : decode cX4_ahead 84 = .ok (.getfield 98, 3) := by decide +kernel
theorem dX4_ahead_87 : decode cX4_ahead 87 = .ok (.ireturn, 1) := by decide +kernel
theorem dX4_ahead_88 : decode cX4_ahead 88 = .ok (.iload_n 3, 1) := by decide +kernel
theorem dX4_ahead_89 : decode cX4_ahead 89 = .ok (.ireturn, 1) := by decide +kernel
theorem dX4_ahead_90 : decode cX4_ahead 90 = .ok (.aload_n 0, 1) := by decide +kernel
theorem dX4_ahead_91 : decode cX4_ahead 91 = .ok (.getfield 47, 3) := by decide +kernel
theorem dX4_ahead_94 : decode cX4_ahead 94 = .ok (.invokevirtual 130, 3) := by decide +kernel
theorem dX4_ahead_97 : decode cX4_ahead 97 = .ok (.ireturn, 1) := by decide +kernel
theorem dX4_fallsAfter_0 : decode cX4_fallsAfter 0 = .ok (.aload_n 0, 1) := by decide +kernel
theorem dX4_fallsAfter_1 : decode cX4_fallsAfter 1 = .ok (.iload_n 1, 1) := by decide +kernel
theorem dX4_fallsAfter_2 : decode cX4_fallsAfter 2 = .ok (.invokevirtual 139, 3) := by decide +kernel
theorem dX4_fallsAfter_5 : decode cX4_fallsAfter 5 = .ok (.aload_n 0, 1) := by decide +kernel
theorem dX4_fallsAfter_6 : decode cX4_fallsAfter 6 = .ok (.invokevirtual 259, 3) := by decide +kernel
theorem dX4_fallsAfter_9 : decode cX4_fallsAfter 9 = .ok (.iconst 0, 1) := by decide +kernel
theorem dX4_fallsAfter_10 : decode cX4_fallsAfter 10 = .ok (.istore_n 2, 1) := by decide +kernel
theorem dX4_fallsAfter_11 : decode cX4_fallsAfter 11 = .ok (.iload_n 2, 1) := by decide +kernel
theorem dX4_fallsAfter_12 : decode cX4_fallsAfter 12 = .ok (.sipush 2000, 3) := by decide +kernel
theorem dX4_fallsAfter_15 : decode cX4_fallsAfter 15 = .ok (.if_icmp .gt 31, 3) := by decide +kernel
theorem dX4_fallsAfter_18 : decode cX4_fallsAfter 18 = .ok (.aload_n 0, 1) := by decide +kernel
theorem dX4_fallsAfter_19 : decode cX4_fallsAfter 19 = .ok (.getfield 47, 3) := by decide +kernel
theorem dX4_fallsAfter_22 : decode cX4_fallsAfter 22 = .ok (.getfield 147, 3) := by decide +kernel
theorem dX4_fallsAfter_25 : decode cX4_fallsAfter 25 = .ok (.iload_n 1, 1) := by decide +kernel
theorem dX4_fallsAfter_26 : decode cX4_fallsAfter 26 = .ok (.iaload, 1) := by decide +kernel
theorem dX4_fallsAfter_27 : decode cX4_fallsAfter 27 = .ok (.ifCond .ne 5, 3) := by decide +kernel
theorem dX4_fallsAfter_30 : decode cX4_fallsAfter 30 = .ok (.iload_n 2, 1) := by decide +kernel
theorem dX4_fallsAfter_31 : decode cX4_fallsAfter 31 = .ok (.ireturn, 1) := by decide +kernel
theorem dX4_fallsAfter_32 : decode cX4_fallsAfter 32 = .ok (.aload_n 0, 1) := by decide +kernel
theorem dX4_fallsAfter_33 : decode cX4_fallsAfter 33 = .ok (.getfield 50, 3) := by decide +kernel
theorem dX4_fallsAfter_36 : decode cX4_fallsAfter 36 = .ok (.invokevirtual 262, 3) := by decide +kernel
theorem dX4_fallsAfter_39 : decode cX4_fallsAfter 39 = .ok (.pop, 1) := by decide +kernel
theorem dX4_fallsAfter_40 : decode cX4_fallsAfter 40 = .ok (.iinc 2 1, 3) := by decide +kernel
theorem dX4_fallsAfter_43 : decode cX4_fallsAfter 43 = .ok (.goto (-32), 3) := by decide +kernel
theorem dX4_fallsAfter_46 : decode cX4_fallsAfter 46 = .ok (.bipush (-9), 2) := by decide +kernel
theorem dX4_fallsAfter_48 : decode cX4_fallsAfter 48 = .ok (.ireturn, 1) := by decide +kernel
theorem dX4_lowAfter_0 : decode cX4_lowAfter 0 = .ok (.iload_n 1, 1) := by decide +kernel
theorem dX4_lowAfter_1 : decode cX4_lowAfter 1 = .ok (.ifCond .lt 10, 3) := by decide +kernel
theorem dX4_lowAfter_4 : decode cX4_lowAfter 4 = .ok (.iload_n 1, 1) := by decide +kernel
theorem dX4_lowAfter_5 : decode cX4_lowAfter 5 = .ok (.sipush 9999, 3) := by decide +kernel
theorem dX4_lowAfter_8 : decode cX4_lowAfter 8 = .ok (.if_icmp .le 14, 3) := by decide +kernel
theorem dX4_lowAfter_11 : decode cX4_lowAfter 11 = .ok (.new 53, 3) := by decide +kernel
theorem dX4_lowAfter_14 : decode cX4_lowAfter 14 = .ok (.dup, 1) := by decide +kernel
theorem dX4_lowAfter_15 : decode cX4_lowAfter 15 = .ok (.ldc_w 265, 3) := by decide +kernel
theorem dX4_lowAfter_18 : decode cX4_lowAfter 18 = .ok (.invokespecial 57, 3) := by decide +kernel
theorem dX4_lowAfter_21 : decode cX4_lowAfter 21 = .ok (.athrow, 1) := by decide +kernel
theorem dX4_lowAfter_22 : decode cX4_lowAfter 22 = .ok (.aload_n 0, 1) := by decide +kernel
theorem dX4_lowAfter_23 : decode cX4_lowAfter 23 = .ok (.invokevirtual 259, 3) := by decide +kernel
theorem dX4_lowAfter_26 : decode cX4_lowAfter 26 = .ok (.iconst 0, 1) := by decide +kernel
theorem dX4_lowAfter_27 : decode cX4_lowAfter 27 = .ok (.istore_n 2, 1) := by decide +kernel
theorem dX4_lowAfter_28 : decode cX4_lowAfter 28 = .ok (.iload_n 2, 1) := by decide +kernel
theorem dX4_lowAfter_29 : decode cX4_lowAfter 29 = .ok (.sipush 3000, 3) := by decide +kernel
theorem dX4_lowAfter_32 : decode cX4_lowAfter 32 = .ok (.if_icmp .gt 30, 3) := by decide +kernel
theorem dX4_lowAfter_35 : decode cX4_lowAfter 35 = .ok (.aload_n 0, 1) := by decide +kernel
theorem dX4_lowAfter_36 : decode cX4_lowAfter 36 = .ok (.getfield 47, 3) := by decide +kernel
theorem dX4_lowAfter_39 : decode cX4_lowAfter 39 = .ok (.getfield 98, 3) := by decide +kernel
theorem dX4_lowAfter_42 : decode cX4_lowAfter 42 = .ok (.iload_n 1, 1) := by decide +kernel
theorem dX4_lowAfter_43 : decode cX4_lowAfter 43 = .ok (.if_icmp .gt 5, 3) := by decide +kernel
theorem dX4_lowAfter_46 : decode cX4_lowAfter 46 = .ok (.iload_n 2, 1) := by decide +kernel
theorem dX4_lowAfter_47 : decode cX4_lowAfter 47 = .ok (.ireturn, 1) := by decide +kernel
theorem dX4_lowAfter_48 : decode cX4_lowAfter 48 = .ok (.aload_n 0, 1) := by decide +kernel
theorem dX4_lowAfter_49 : decode cX4_lowAfter 49 = .ok (.getfield 50, 3) := by decide +kernel
theorem dX4_lowAfter_52 : decode cX4_lowAfter 52 = .ok (.invokevirtual 262, 3) := by decide +kernel
theorem dX4_lowAfter_55 : decode cX4_lowAfter 55 = .ok (.pop, 1) := by decide +kernel
theorem dX4_lowAfter_56 : decode cX4_lowAfter 56 = .ok (.iinc 2 1, 3) := by decide +kernel
theorem dX4_lowAfter_59 : decode cX4_lowAfter 59 = .ok (.goto (-31), 3) := by decide +kernel
theorem dX4_lowAfter_62 : decode cX4_lowAfter 62 = .ok (.bipush (-9), 2) := by decide +kernel
theorem dX4_lowAfter_64 : decode cX4_lowAfter 64 = .ok (.ireturn, 1) := by decide +kernel
theorem dX4_pushFor_0 : decode cX4_pushFor 0 = .ok (.iload_n 1, 1) := by decide +kernel
theorem dX4_pushFor_1 : decode cX4_pushFor 1 = .ok (.invokestatic 267, 3) := by decide +kernel
theorem dX4_pushFor_4 : decode cX4_pushFor 4 = .ok (.iconst 0, 1) := by decide +kernel
theorem dX4_pushFor_5 : decode cX4_pushFor 5 = .ok (.istore_n 2, 1) := by decide +kernel
theorem dX4_pushFor_6 : decode cX4_pushFor 6 = .ok (.iload_n 2, 1) := by decide +kernel
theorem dX4_pushFor_7 : decode cX4_pushFor 7 = .ok (.sipush 9900, 3) := by decide +kernel
theorem dX4_pushFor_10 : decode cX4_pushFor 10 = .ok (.if_icmp .gt 31, 3) := by decide +kernel
theorem dX4_pushFor_13 : decode cX4_pushFor 13 = .ok (.aload_n 0, 1) := by decide +kernel
theorem dX4_pushFor_14 : decode cX4_pushFor 14 = .ok (.invokevirtual 259, 3) := by decide +kernel
theorem dX4_pushFor_17 : decode cX4_pushFor 17 = .ok (.aload_n 0, 1) := by decide +kernel
theorem dX4_pushFor_18 : decode cX4_pushFor 18 = .ok (.getfield 47, 3) := by decide +kernel
theorem dX4_pushFor_21 : decode cX4_pushFor 21 = .ok (.iload_n 2, 1) := by decide +kernel
theorem dX4_pushFor_22 : decode cX4_pushFor 22 = .ok (.invokevirtual 200, 3) := by decide +kernel
theorem dX4_pushFor_25 : decode cX4_pushFor 25 = .ok (.aload_n 0, 1) := by decide +kernel
theorem dX4_pushFor_26 : decode cX4_pushFor 26 = .ok (.iload_n 1, 1) := by decide +kernel
theorem dX4_pushFor_27 : decode cX4_pushFor 27 = .ok (.invokevirtual 270, 3) := by decide +kernel
theorem dX4_pushFor_30 : decode cX4_pushFor 30 = .ok (.ifCond .eq 5, 3) := by decide +kernel
theorem dX4_pushFor_33 : decode cX4_pushFor 33 = .ok (.iload_n 2, 1) := by decide +kernel
theorem dX4_pushFor_34 : decode cX4_pushFor 34 = .ok (.ireturn, 1) := by decide +kernel
theorem dX4_pushFor_35 : decode cX4_pushFor 35 = .ok (.iinc 2 100, 3) := by decide +kernel
theorem dX4_pushFor_38 : decode cX4_pushFor 38 = .ok (.goto (-32), 3) := by decide +kernel
theorem dX4_pushFor_41 : decode cX4_pushFor 41 = .ok (.bipush (-9), 2) := by decide +kernel
theorem dX4_pushFor_43 : decode cX4_pushFor 43 = .ok (.ireturn, 1) := by decide +kernel
theorem dX4_freeStart_0 : decode cX4_freeStart 0 = .ok (.iload_n 1, 1) := by decide +kernel
theorem dX4_freeStart_1 : decode cX4_freeStart 1 = .ok (.invokestatic 267, 3) := by decide +kernel
theorem dX4_freeStart_4 : decode cX4_freeStart 4 = .ok (.iconst 0, 1) := by decide +kernel
theorem dX4_freeStart_5 : decode cX4_freeStart 5 = .ok (.istore_n 2, 1) := by decide +kernel
theorem dX4_freeStart_6 : decode cX4_freeStart 6 = .ok (.iload_n 2, 1) := by decide +kernel
theorem dX4_freeStart_7 : decode cX4_freeStart 7 = .ok (.sipush 10800, 3) := by decide +kernel
theorem dX4_freeStart_10 : decode cX4_freeStart 10 = .ok (.if_icmp .ge 47, 3) := by decide +kernel
theorem dX4_freeStart_13 : decode cX4_freeStart 13 = .ok (.aload_n 0, 1) := by decide +kernel
theorem dX4_freeStart_14 : decode cX4_freeStart 14 = .ok (.getfield 47, 3) := by decide +kernel
theorem dX4_freeStart_17 : decode cX4_freeStart 17 = .ok (.aload_n 0, 1) := by decide +kernel
theorem dX4_freeStart_18 : decode cX4_freeStart 18 = .ok (.getfield 19, 3) := by decide +kernel
theorem dX4_freeStart_21 : decode cX4_freeStart 21 = .ok (.invokevirtual 273, 3) := by decide +kernel
theorem dX4_freeStart_24 : decode cX4_freeStart 24 = .ok (.aload_n 0, 1) := by decide +kernel
theorem dX4_freeStart_25 : decode cX4_freeStart 25 = .ok (.getfield 47, 3) := by decide +kernel
theorem dX4_freeStart_28 : decode cX4_freeStart 28 = .ok (.iload_n 2, 1) := by decide +kernel
theorem dX4_freeStart_29 : decode cX4_freeStart 29 = .ok (.putfield 121, 3) := by decide +kernel
theorem dX4_freeStart_32 : decode cX4_freeStart 32 = .ok (.aload_n 0, 1) := by decide +kernel
theorem dX4_freeStart_33 : decode cX4_freeStart 33 = .ok (.getfield 50, 3) := by decide +kernel
theorem dX4_freeStart_36 : decode cX4_freeStart 36 = .ok (.invokevirtual 185, 3) := by decide +kernel
theorem dX4_freeStart_39 : decode cX4_freeStart 39 = .ok (.aload_n 0, 1) := by decide +kernel
theorem dX4_freeStart_40 : decode cX4_freeStart 40 = .ok (.iload_n 1, 1) := by decide +kernel
theorem dX4_freeStart_41 : decode cX4_freeStart 41 = .ok (.invokevirtual 276, 3) := by decide +kernel
theorem dX4_freeStart_44 : decode cX4_freeStart 44 = .ok (.bipush (-9), 2) := by decide +kernel
theorem dX4_freeStart_46 : decode cX4_freeStart 46 = .ok (.if_icmp .ne 5, 3) := by decide +kernel
theorem dX4_freeStart_49 : decode cX4_freeStart 49 = .ok (.iload_n 2, 1) := by decide +kernel
theorem dX4_freeStart_50 : decode cX4_freeStart 50 = .ok (.ireturn, 1) := by decide +kernel
theorem dX4_freeStart_51 : decode cX4_freeStart 51 = .ok (.iinc 2 60, 3) := by decide +kernel
theorem dX4_freeStart_54 : decode cX4_freeStart 54 = .ok (.goto (-48), 3) := by decide +kernel
theorem dX4_freeStart_57 : decode cX4_freeStart 57 = .ok (.bipush (-9), 2) := by decide +kernel
theorem dX4_freeStart_59 : decode cX4_freeStart 59 = .ok (.ireturn, 1) := by decide +kernel
theorem dX4_next_0 : decode cX4_next 0 = .ok (.aload_n 0, 1) := by decide +kernel
theorem dX4_next_1 : decode cX4_next 1 = .ok (.invokevirtual 259, 3) := by decide +kernel
theorem dX4_next_4 : decode cX4_next 4 = .ok (.aload_n 0, 1) := by decide +kernel
theorem dX4_next_5 : decode cX4_next 5 = .ok (.sipush 2000, 3) := by decide +kernel
theorem dX4_next_8 : decode cX4_next 8 = .ok (.invokevirtual 276, 3) := by decide +kernel
theorem dX4_next_11 : decode cX4_next 11 = .ok (.ireturn, 1) := by decide +kernel
theorem dX4_runScript_0 : decode cX4_runScript 0 = .ok (.iload_n 1, 1) := by decide +kernel
theorem dX4_runScript_1 : decode cX4_runScript 1 = .ok (.iconst 1, 1) := by decide +kernel
theorem dX4_runScript_2 : decode cX4_runScript 2 = .ok (.if_icmp .lt 8, 3) := by decide +kernel
theorem dX4_runScript_5 : decode cX4_runScript 5 = .ok (.iload_n 1, 1) := by decide +kernel
theorem dX4_runScript_6 : decode cX4_runScript 6 = .ok (.iconst 3, 1) := by decide +kernel
theorem dX4_runScript_7 : decode cX4_runScript 7 = .ok (.if_icmp .le 14, 3) := by decide +kernel
theorem dX4_runScript_10 : decode cX4_runScript 10 = .ok (.new 53, 3) := by decide +kernel
theorem dX4_runScript_13 : decode cX4_runScript 13 = .ok (.dup, 1) := by decide +kernel
theorem dX4_runScript_14 : decode cX4_runScript 14 = .ok (.ldc_w 279, 3) := by decide +kernel
theorem dX4_runScript_17 : decode cX4_runScript 17 = .ok (.invokespecial 57, 3) := by decide +kernel
theorem dX4_runScript_20 : decode cX4_runScript 20 = .ok (.athrow, 1) := by decide +kernel
theorem dX4_runScript_21 : decode cX4_runScript 21 = .ok (.lload_n 2, 1) := by decide +kernel
theorem dX4_runScript_22 : decode cX4_runScript 22 = .ok (.lconst 0, 1) := by decide +kernel
theorem dX4_runScript_23 : decode cX4_runScript 23 = .ok (.lcmp, 1) := by decide +kernel
theorem dX4_runScript_24 : decode cX4_runScript 24 = .ok (.ifCond .lt 13, 3) := by decide +kernel
theorem dX4_runScript_27 : decode cX4_runScript 27 = .ok (.lload_n 2, 1) := by decide +kernel
theorem dX4_runScript_28 : decode cX4_runScript 28 = .ok (.iload_n 1, 1) := by decide +kernel
theorem dX4_runScript_29 : decode cX4_runScript 29 = .ok (.invokestatic 281, 3) := by decide +kernel
theorem dX4_runScript_32 : decode cX4_runScript 32 = .ok (.lconst 0, 1) := by decide +kernel
theorem dX4_runScript_33 : decode cX4_runScript 33 = .ok (.lcmp, 1) := by decide +kernel
theorem dX4_runScript_34 : decode cX4_runScript 34 = .ok (.ifCond .le 14, 3) := by decide +kernel
theorem dX4_runScript_37 : decode cX4_runScript 37 = .ok (.new 53, 3) := by decide +kernel
theorem dX4_runScript_40 : decode cX4_runScript 40 = .ok (.dup, 1) := by decide +kernel
theorem dX4_runScript_41 : decode cX4_runScript 41 = .ok (.ldc_w 285, 3) := by decide +kernel
theorem dX4_runScript_44 : decode cX4_runScript 44 = .ok (.invokespecial 57, 3) := by decide +kernel
theorem dX4_runScript_47 : decode cX4_runScript 47 = .ok (.athrow, 1) := by decide +kernel
theorem dX4_runScript_48 : decode cX4_runScript 48 = .ok (.aload_n 0, 1) := by decide +kernel
theorem dX4_runScript_49 : decode cX4_runScript 49 = .ok (.getfield 47, 3) := by decide +kernel
theorem dX4_runScript_52 : decode cX4_runScript 52 = .ok (.aload_n 0, 1) := by decide +kernel
theorem dX4_runScript_53 : decode cX4_runScript 53 = .ok (.getfield 19, 3) := by decide +kernel
theorem dX4_runScript_56 : decode cX4_runScript 56 = .ok (.invokevirtual 273, 3) := by decide +kernel
theorem dX4_runScript_59 : decode cX4_runScript 59 = .ok (.iconst 0, 1) := by decide +kernel
theorem dX4_runScript_60 : decode cX4_runScript 60 = .ok (.istore 4, 2) := by decide +kernel
theorem dX4_runScript_62 : decode cX4_runScript 62 = .ok (.iload 4, 2) := by decide +kernel
theorem dX4_runScript_64 : decode cX4_runScript 64 = .ok (.iload_n 1, 1) := by decide +kernel
theorem dX4_runScript_65 : decode cX4_runScript 65 = .ok (.if_icmp .ge 38, 3) := by decide +kernel
theorem dX4_runScript_68 : decode cX4_runScript 68 = .ok (.lload_n 2, 1) := by decide +kernel
theorem dX4_runScript_69 : decode cX4_runScript 69 = .ok (.iload_n 1, 1) := by decide +kernel
theorem dX4_runScript_70 : decode cX4_runScript 70 = .ok (.iconst 1, 1) := by decide +kernel
theorem dX4_runScript_71 : decode cX4_runScript 71 = .ok (.isub, 1) := by decide +kernel
theorem dX4_runScript_72 : decode cX4_runScript 72 = .ok (.iload 4, 2) := by decide +kernel
theorem dX4_runScript_74 : decode cX4_runScript 74 = .ok (.isub, 1) := by decide +kernel
theorem dX4_runScript_75 : decode cX4_runScript 75 = .ok (.invokestatic 281, 3) := by decide +kernel
theorem dX4_runScript_78 : decode cX4_runScript 78 = .ok (.ldc2_w 287, 3) := by decide +kernel
theorem dX4_runScript_81 : decode cX4_runScript 81 = .ok (.lrem, 1) := by decide +kernel
theorem dX4_runScript_82 : decode cX4_runScript 82 = .ok (.l2i, 1) := by decide +kernel
theorem dX4_runScript_83 : decode cX4_runScript 83 = .ok (.istore 5, 2) := by decide +kernel
theorem dX4_runScript_85 : decode cX4_runScript 85 = .ok (.aload_n 0, 1) := by decide +kernel
theorem dX4_runScript_86 : decode cX4_runScript 86 = .ok (.iload 5, 2) := by decide +kernel
theorem dX4_runScript_88 : decode cX4_runScript 88 = .ok (.invokevirtual 289, 3) := by decide +kernel
theorem dX4_runScript_91 : decode cX4_runScript 91 = .ok (.ifCond .ne 6, 3) := by decide +kernel
theorem dX4_runScript_94 : decode cX4_runScript 94 = .ok (.iload 4, 2) := by decide +kernel
theorem dX4_runScript_96 : decode cX4_runScript 96 = .ok (.ireturn, 1) := by decide +kernel
theorem dX4_runScript_97 : decode cX4_runScript 97 = .ok (.iinc 4 1, 3) := by decide +kernel
theorem dX4_runScript_100 : decode cX4_runScript 100 = .ok (.goto (-38), 3) := by decide +kernel
theorem dX4_runScript_103 : decode cX4_runScript 103 = .ok (.bipush (-9), 2) := by decide +kernel
theorem dX4_runScript_105 : decode cX4_runScript 105 = .ok (.ireturn, 1) := by decide +kernel
theorem dX4_simulate_0 : decode cX4_simulate 0 = .ok (.iload_n 3, 1) := by decide +kernel
theorem dX4_simulate_1 : decode cX4_simulate 1 = .ok (.iconst 1, 1) := by decide +kernel
theorem dX4_simulate_2 : decode cX4_simulate 2 = .ok (.if_icmp .lt 9, 3) := by decide +kernel
theorem dX4_simulate_5 : decode cX4_simulate 5 = .ok (.iload_n 3, 1) := by decide +kernel
theorem dX4_simulate_6 : decode cX4_simulate 6 = .ok (.bipush 60, 2) := by decide +kernel
theorem dX4_simulate_8 : decode cX4_simulate 8 = .ok (.if_icmp .le 14, 3) := by decide +kernel
theorem dX4_simulate_11 : decode cX4_simulate 11 = .ok (.new 53, 3) := by decide +kernel
theorem dX4_simulate_14 : decode cX4_simulate 14 = .ok (.dup, 1) := by decide +kernel
theorem dX4_simulate_15 : decode cX4_simulate 15 = .ok (.ldc_w 292, 3) := by decide +kernel
theorem dX4_simulate_18 : decode cX4_simulate 18 = .ok (.invokespecial 57, 3) := by decide +kernel
theorem dX4_simulate_21 : decode cX4_simulate 21 = .ok (.athrow, 1) := by decide +kernel
theorem dX4_simulate_22 : decode cX4_simulate 22 = .ok (.aload_n 0, 1) := by decide +kernel
theorem dX4_simulate_23 : decode cX4_simulate 23 = .ok (.getfield 47, 3) := by decide +kernel
theorem dX4_simulate_26 : decode cX4_simulate 26 = .ok (.aload_n 0, 1) := by decide +kernel
theorem dX4_simulate_27 : decode cX4_simulate 27 = .ok (.getfield 19, 3) := by decide +kernel
theorem dX4_simulate_30 : decode cX4_simulate 30 = .ok (.invokevirtual 273, 3) := by decide +kernel
theorem dX4_simulate_33 : decode cX4_simulate 33 = .ok (.lload_n 1, 1) := by decide +kernel
theorem dX4_simulate_34 : decode cX4_simulate 34 = .ok (.lstore 4, 2) := by decide +kernel
theorem dX4_simulate_36 : decode cX4_simulate 36 = .ok (.iconst 0, 1) := by decide +kernel
theorem dX4_simulate_37 : decode cX4_simulate 37 = .ok (.istore 6, 2) := by decide +kernel
theorem dX4_simulate_39 : decode cX4_simulate 39 = .ok (.iconst 0, 1) := by decide +kernel
theorem dX4_simulate_40 : decode cX4_simulate 40 = .ok (.istore 7, 2) := by decide +kernel
theorem dX4_simulate_42 : decode cX4_simulate 42 = .ok (.iload 7, 2) := by decide +kernel
theorem dX4_simulate_44 : decode cX4_simulate 44 = .ok (.iload_n 3, 1) := by decide +kernel
theorem dX4_simulate_45 : decode cX4_simulate 45 = .ok (.if_icmp .ge 115, 3) := by decide +kernel
theorem dX4_simulate_48 : decode cX4_simulate 48 = .ok (.lload 4, 2) := by decide +kernel
theorem dX4_simulate_50 : decode cX4_simulate 50 = .ok (.ldc2_w 294, 3) := by decide +kernel
theorem dX4_simulate_53 : decode cX4_simulate 53 = .ok (.lmul, 1) := by decide +kernel
theorem dX4_simulate_54 : decode cX4_simulate 54 = .ok (.ldc2_w 296, 3) := by decide +kernel
theorem dX4_simulate_57 : decode cX4_simulate 57 = .ok (.ladd, 1) := by decide +kernel
theorem dX4_simulate_58 : decode cX4_simulate 58 = .ok (.lstore 4, 2) := by decide +kernel
theorem dX4_simulate_60 : decode cX4_simulate 60 = .ok (.lload 4, 2) := by decide +kernel
theorem dX4_simulate_62 : decode cX4_simulate 62 = .ok (.bipush 33, 2) := by decide +kernel
theorem dX4_simulate_64 : decode cX4_simulate 64 = .ok (.lushr, 1) := by decide +kernel
theorem dX4_simulate_65 : decode cX4_simulate 65 = .ok (.l2i, 1) := by decide +kernel
theorem dX4_simulate_66 : decode cX4_simulate 66 = .ok (.istore 8, 2) := by decide +kernel
theorem dX4_simulate_68 : decode cX4_simulate 68 = .ok (.iload 8, 2) := by decide +kernel
theorem dX4_simulate_70 : decode cX4_simulate 70 = .ok (.bipush 8, 2) := by decide +kernel
theorem dX4_simulate_72 : decode cX4_simulate 72 = .ok (.irem, 1) := by decide +kernel
theorem dX4_simulate_73 : decode cX4_simulate 73 = .ok (.ifCond .ne 24, 3) := by decide +kernel
theorem dX4_simulate_76 : decode cX4_simulate 76 = .ok (.aload_n 0, 1) := by decide +kernel
theorem dX4_simulate_77 : decode cX4_simulate 77 = .ok (.getfield 47, 3) := by decide +kernel
theorem dX4_simulate_80 : decode cX4_simulate 80 = .ok (.iload 8, 2) := by decide +kernel
theorem dX4_simulate_82 : decode cX4_simulate 82 = .ok (.bipush 8, 2) := by decide +kernel
theorem dX4_simulate_84 : decode cX4_simulate 84 = .ok (.idiv, 1) := by decide +kernel
theorem dX4_simulate_85 : decode cX4_simulate 85 = .ok (.bipush 121, 2) := by decide +kernel
theorem dX4_simulate_87 : decode cX4_simulate 87 = .ok (.irem, 1) := by decide +kernel
theorem dX4_simulate_88 : decode cX4_simulate 88 = .ok (.bipush 60, 2) := by decide +kernel
theorem dX4_simulate_90 : decode cX4_simulate 90 = .ok (.isub, 1) := by decide +kernel
theorem dX4_simulate_91 : decode cX4_simulate 91 = .ok (.invokevirtual 208, 3) := by decide +kernel
theorem dX4_simulate_94 : decode cX4_simulate 94 = .ok (.goto 30, 3) := by decide +kernel
theorem dX4_simulate_97 : decode cX4_simulate 97 = .ok (.iload 8, 2) := by decide +kernel
theorem dX4_simulate_99 : decode cX4_simulate 99 = .ok (.bipush 8, 2) := by decide +kernel
theorem dX4_simulate_101 : decode cX4_simulate 101 = .ok (.irem, 1) := by decide +kernel
theorem dX4_simulate_102 : decode cX4_simulate 102 = .ok (.iconst 1, 1) := by decide +kernel
theorem dX4_simulate_103 : decode cX4_simulate 103 = .ok (.if_icmp .ne 21, 3) := by decide +kernel
theorem dX4_simulate_106 : decode cX4_simulate 106 = .ok (.aload_n 0, 1) := by decide +kernel
theorem dX4_simulate_107 : decode cX4_simulate 107 = .ok (.getfield 47, 3) := by decide +kernel
theorem dX4_simulate_110 : decode cX4_simulate 110 = .ok (.iconst 1, 1) := by decide +kernel
theorem dX4_simulate_111 : decode cX4_simulate 111 = .ok (.iload 8, 2) := by decide +kernel
theorem dX4_simulate_113 : decode cX4_simulate 113 = .ok (.bipush 8, 2) := by decide +kernel
theorem dX4_simulate_115 : decode cX4_simulate 115 = .ok (.idiv, 1) := by decide +kernel
theorem dX4_simulate_116 : decode cX4_simulate 116 = .ok (.sipush 500, 3) := by decide +kernel
theorem dX4_simulate_119 : decode cX4_simulate 119 = .ok (.irem, 1) := by decide +kernel
theorem dX4_simulate_120 : decode cX4_simulate 120 = .ok (.iadd, 1) := by decide +kernel
theorem dX4_simulate_121 : decode cX4_simulate 121 = .ok (.invokevirtual 200, 3) := by decide +kernel
theorem dX4_simulate_124 : decode cX4_simulate 124 = .ok (.aload_n 0, 1) := by decide +kernel
theorem dX4_simulate_125 : decode cX4_simulate 125 = .ok (.getfield 50, 3) := by decide +kernel
theorem dX4_simulate_128 : decode cX4_simulate 128 = .ok (.invokevirtual 185, 3) := by decide +kernel
theorem dX4_simulate_131 : decode cX4_simulate 131 = .ok (.iload 6, 2) := by decide +kernel
theorem dX4_simulate_133 : decode cX4_simulate 133 = .ok (.aload_n 0, 1) := by decide +kernel
theorem dX4_simulate_134 : decode cX4_simulate 134 = .ok (.getfield 50, 3) := by decide +kernel
theorem dX4_simulate_137 : decode cX4_simulate 137 = .ok (.iconst 1, 1) := by decide +kernel
theorem dX4_simulate_138 : decode cX4_simulate 138 = .ok (.iload 8, 2) := by decide +kernel
theorem dX4_simulate_140 : decode cX4_simulate 140 = .ok (.sipush 1024, 3) := by decide +kernel
theorem dX4_simulate_143 : decode cX4_simulate 143 = .ok (.idiv, 1) := by decide +kernel
theorem dX4_simulate_144 : decode cX4_simulate 144 = .ok (.bipush 20, 2) := by decide +kernel
theorem dX4_simulate_146 : decode cX4_simulate 146 = .ok (.irem, 1) := by decide +kernel
theorem dX4_simulate_147 : decode cX4_simulate 147 = .ok (.iadd, 1) := by decide +kernel
theorem dX4_simulate_148 : decode cX4_simulate 148 = .ok (.invokevirtual 186, 3) := by decide +kernel
theorem dX4_simulate_151 : decode cX4_simulate 151 = .ok (.iadd, 1) := by decide +kernel
theorem dX4_simulate_152 : decode cX4_simulate 152 = .ok (.istore 6, 2) := by decide +kernel
theorem dX4_simulate_154 : decode cX4_simulate 154 = .ok (.iinc 7 1, 3) := by decide +kernel
theorem dX4_simulate_157 : decode cX4_simulate 157 = .ok (.goto (-115), 3) := by decide +kernel
theorem dX4_simulate_160 : decode cX4_simulate 160 = .ok (.sipush 10000, 3) := by decide +kernel
theorem dX4_simulate_163 : decode cX4_simulate 163 = .ok (.iload 6, 2) := by decide +kernel
theorem dX4_simulate_165 : decode cX4_simulate 165 = .ok (.imul, 1) := by decide +kernel
theorem dX4_simulate_166 : decode cX4_simulate 166 = .ok (.aload_n 0, 1) := by decide +kernel
theorem dX4_simulate_167 : decode cX4_simulate 167 = .ok (.getfield 47, 3) := by decide +kernel
theorem dX4_simulate_170 : decode cX4_simulate 170 = .ok (.getfield 121, 3) := by decide +kernel
theorem dX4_simulate_173 : decode cX4_simulate 173 = .ok (.iadd, 1) := by decide +kernel
theorem dX4_simulate_174 : decode cX4_simulate 174 = .ok (.ireturn, 1) := by decide +kernel
theorem dX4_save_0 : decode cX4_save 0 = .ok (.iload_n 1, 1) := by decide +kernel
theorem dX4_save_1 : decode cX4_save 1 = .ok (.invokestatic 298, 3) := by decide +kernel
theorem dX4_save_4 : decode cX4_save 4 = .ok (.aload_n 0, 1) := by decide +kernel
theorem dX4_save_5 : decode cX4_save 5 = .ok (.getfield 39, 3) := by decide +kernel
theorem dX4_save_8 : decode cX4_save 8 = .ok (.iload_n 1, 1) := by decide +kernel
theorem dX4_save_9 : decode cX4_save 9 = .ok (.aaload, 1) := by decide +kernel
theorem dX4_save_10 : decode cX4_save 10 = .ok (.aload_n 0, 1) := by decide +kernel
theorem dX4_save_11 : decode cX4_save 11 = .ok (.getfield 19, 3) := by decide +kernel
theorem dX4_save_14 : decode cX4_save 14 = .ok (.invokevirtual 273, 3) := by decide +kernel
theorem dX4_save_17 : decode cX4_save 17 = .ok (.aload_n 0, 1) := by decide +kernel
theorem dX4_save_18 : decode cX4_save 18 = .ok (.getfield 43, 3) := by decide +kernel
theorem dX4_save_21 : decode cX4_save 21 = .ok (.iload_n 1, 1) := by decide +kernel
theorem dX4_save_22 : decode cX4_save 22 = .ok (.iconst 1, 1) := by decide +kernel
theorem dX4_save_23 : decode cX4_save 23 = .ok (.bastore, 1) := by decide +kernel
theorem dX4_save_24 : decode cX4_save 24 = .ok (.aload_n 0, 1) := by decide +kernel
theorem dX4_save_25 : decode cX4_save 25 = .ok (.getfield 19, 3) := by decide +kernel
theorem dX4_save_28 : decode cX4_save 28 = .ok (.getfield 127, 3) := by decide +kernel
theorem dX4_save_31 : decode cX4_save 31 = .ok (.ireturn, 1) := by decide +kernel
theorem dX4_restore_0 : decode cX4_restore 0 = .ok (.iload_n 1, 1) := by decide +kernel
theorem dX4_restore_1 : decode cX4_restore 1 = .ok (.invokestatic 298, 3) := by decide +kernel
theorem dX4_restore_4 : decode cX4_restore 4 = .ok (.aload_n 0, 1) := by decide +kernel
theorem dX4_restore_5 : decode cX4_restore 5 = .ok (.getfield 43, 3) := by decide +kernel
theorem dX4_restore_8 : decode cX4_restore 8 = .ok (.iload_n 1, 1) := by decide +kernel
theorem dX4_restore_9 : decode cX4_restore 9 = .ok (.baload, 1) := by decide +kernel
theorem dX4_restore_10 : decode cX4_restore 10 = .ok (.ifCond .ne 14, 3) := by decide +kernel
theorem dX4_restore_13 : decode cX4_restore 13 = .ok (.new 64, 3) := by decide +kernel
theorem dX4_restore_16 : decode cX4_restore 16 = .ok (.dup, 1) := by decide +kernel
theorem dX4_restore_17 : decode cX4_restore 17 = .ok (.ldc_w 301, 3) := by decide +kernel
theorem dX4_restore_20 : decode cX4_restore 20 = .ok (.invokespecial 68, 3) := by decide +kernel
theorem dX4_restore_23 : decode cX4_restore 23 = .ok (.athrow, 1) := by decide +kernel
theorem dX4_restore_24 : decode cX4_restore 24 = .ok (.aload_n 0, 1) := by decide +kernel
theorem dX4_restore_25 : decode cX4_restore 25 = .ok (.getfield 19, 3) := by decide +kernel
theorem dX4_restore_28 : decode cX4_restore 28 = .ok (.aload_n 0, 1) := by decide +kernel
theorem dX4_restore_29 : decode cX4_restore 29 = .ok (.getfield 39, 3) := by decide +kernel
theorem dX4_restore_32 : decode cX4_restore 32 = .ok (.iload_n 1, 1) := by decide +kernel
theorem dX4_restore_33 : decode cX4_restore 33 = .ok (.aaload, 1) := by decide +kernel
theorem dX4_restore_34 : decode cX4_restore 34 = .ok (.invokevirtual 273, 3) := by decide +kernel
theorem dX4_restore_37 : decode cX4_restore 37 = .ok (.aload_n 0, 1) := by decide +kernel
theorem dX4_restore_38 : decode cX4_restore 38 = .ok (.getfield 35, 3) := by decide +kernel
theorem dX4_restore_41 : decode cX4_restore 41 = .ok (.invokevirtual 111, 3) := by decide +kernel
theorem dX4_restore_44 : decode cX4_restore 44 = .ok (.aload_n 0, 1) := by decide +kernel
theorem dX4_restore_45 : decode cX4_restore 45 = .ok (.getfield 19, 3) := by decide +kernel
theorem dX4_restore_48 : decode cX4_restore 48 = .ok (.getfield 127, 3) := by decide +kernel
theorem dX4_restore_51 : decode cX4_restore 51 = .ok (.ireturn, 1) := by decide +kernel
theorem dX4_checkPin_0 : decode cX4_checkPin 0 = .ok (.iload_n 1, 1) := by decide +kernel
theorem dX4_checkPin_1 : decode cX4_checkPin 1 = .ok (.ifCond .lt 14, 3) := by decide +kernel
theorem dX4_checkPin_4 : decode cX4_checkPin 4 = .ok (.iload_n 1, 1) := by decide +kernel
theorem dX4_checkPin_5 : decode cX4_checkPin 5 = .ok (.aload_n 0, 1) := by decide +kernel
theorem dX4_checkPin_6 : decode cX4_checkPin 6 = .ok (.getfield 19, 3) := by decide +kernel
theorem dX4_checkPin_9 : decode cX4_checkPin 9 = .ok (.getfield 114, 3) := by decide +kernel
theorem dX4_checkPin_12 : decode cX4_checkPin 12 = .ok (.if_icmp .lt 14, 3) := by decide +kernel
theorem dX4_checkPin_15 : decode cX4_checkPin 15 = .ok (.new 303, 3) := by decide +kernel
theorem dX4_checkPin_18 : decode cX4_checkPin 18 = .ok (.dup, 1) := by decide +kernel
theorem dX4_checkPin_19 : decode cX4_checkPin 19 = .ok (.ldc_w 305, 3) := by decide +kernel
theorem dX4_checkPin_22 : decode cX4_checkPin 22 = .ok (.invokespecial 307, 3) := by decide +kernel
theorem dX4_checkPin_25 : decode cX4_checkPin 25 = .ok (.athrow, 1) := by decide +kernel
theorem dX4_checkPin_26 : decode cX4_checkPin 26 = .ok (.return_, 1) := by decide +kernel
theorem dX4_checkReading_0 : decode cX4_checkReading 0 = .ok (.iload_n 1, 1) := by decide +kernel
theorem dX4_checkReading_1 : decode cX4_checkReading 1 = .ok (.ifCond .lt 14, 3) := by decide +kernel
theorem dX4_checkReading_4 : decode cX4_checkReading 4 = .ok (.iload_n 1, 1) := by decide +kernel
theorem dX4_checkReading_5 : decode cX4_checkReading 5 = .ok (.aload_n 0, 1) := by decide +kernel
theorem dX4_checkReading_6 : decode cX4_checkReading 6 = .ok (.getfield 19, 3) := by decide +kernel
theorem dX4_checkReading_9 : decode cX4_checkReading 9 = .ok (.getfield 136, 3) := by decide +kernel
theorem dX4_checkReading_12 : decode cX4_checkReading 12 = .ok (.if_icmp .lt 14, 3) := by decide +kernel
theorem dX4_checkReading_15 : decode cX4_checkReading 15 = .ok (.new 303, 3) := by decide +kernel
theorem dX4_checkReading_18 : decode cX4_checkReading 18 = .ok (.dup, 1) := by decide +kernel
theorem dX4_checkReading_19 : decode cX4_checkReading 19 = .ok (.ldc_w 308, 3) := by decide +kernel
theorem dX4_checkReading_22 : decode cX4_checkReading 22 = .ok (.invokespecial 307, 3) := by decide +kernel
theorem dX4_checkReading_25 : decode cX4_checkReading 25 = .ok (.athrow, 1) := by decide +kernel
theorem dX4_checkReading_26 : decode cX4_checkReading 26 = .ok (.return_, 1) := by decide +kernel
theorem dX4_checkReadings_0 : decode cX4_checkReadings 0 = .ok (.aload_n 0, 1) := by decide +kernel
theorem dX4_checkReadings_1 : decode cX4_checkReadings 1 = .ok (.iload_n 1, 1) := by decide +kernel
theorem dX4_checkReadings_2 : decode cX4_checkReadings 2 = .ok (.invokevirtual 161, 3) := by decide +kernel
theorem dX4_checkReadings_5 : decode cX4_checkReadings 5 = .ok (.aload_n 0, 1) := by decide +kernel
theorem dX4_checkReadings_6 : decode cX4_checkReadings 6 = .ok (.iload_n 2, 1) := by decide +kernel
theorem dX4_checkReadings_7 : decode cX4_checkReadings 7 = .ok (.invokevirtual 161, 3) := by decide +kernel
theorem dX4_checkReadings_10 : decode cX4_checkReadings 10 = .ok (.iload_n 2, 1) := by decide +kernel
theorem dX4_checkReadings_11 : decode cX4_checkReadings 11 = .ok (.iload_n 1, 1) := by decide +kernel
theorem dX4_checkReadings_12 : decode cX4_checkReadings 12 = .ok (.if_icmp .gt 14, 3) := by decide +kernel
theorem dX4_checkReadings_15 : decode cX4_checkReadings 15 = .ok (.new 53, 3) := by decide +kernel
theorem dX4_checkReadings_18 : decode cX4_checkReadings 18 = .ok (.dup, 1) := by decide +kernel
theorem dX4_checkReadings_19 : decode cX4_checkReadings 19 = .ok (.ldc_w 310, 3) := by decide +kernel
theorem dX4_checkReadings_22 : decode cX4_checkReadings 22 = .ok (.invokespecial 57, 3) := by decide +kernel
theorem dX4_checkReadings_25 : decode cX4_checkReadings 25 = .ok (.athrow, 1) := by decide +kernel
theorem dX4_checkReadings_26 : decode cX4_checkReadings 26 = .ok (.return_, 1) := by decide +kernel
theorem dX4_checkSlot_0 : decode cX4_checkSlot 0 = .ok (.iload_n 0, 1) := by decide +kernel
theorem dX4_checkSlot_1 : decode cX4_checkSlot 1 = .ok (.ifCond .lt 8, 3) := by decide +kernel
theorem dX4_checkSlot_4 : decode cX4_checkSlot 4 = .ok (.iload_n 0, 1) := by decide +kernel
theorem dX4_checkSlot_5 : decode cX4_checkSlot 5 = .ok (.iconst 2, 1) := by decide +kernel
theorem dX4_checkSlot_6 : decode cX4_checkSlot 6 = .ok (.if_icmp .lt 14, 3) := by decide +kernel
theorem dX4_checkSlot_9 : decode cX4_checkSlot 9 = .ok (.new 303, 3) := by decide +kernel
theorem dX4_checkSlot_12 : decode cX4_checkSlot 12 = .ok (.dup, 1) := by decide +kernel
theorem dX4_checkSlot_13 : decode cX4_checkSlot 13 = .ok (.ldc_w 312, 3) := by decide +kernel
theorem dX4_checkSlot_16 : decode cX4_checkSlot 16 = .ok (.invokespecial 307, 3) := by decide +kernel
theorem dX4_checkSlot_19 : decode cX4_checkSlot 19 = .ok (.athrow, 1) := by decide +kernel
theorem dX4_checkSlot_20 : decode cX4_checkSlot 20 = .ok (.return_, 1) := by decide +kernel
theorem dX4_checkTurnsOfSearch_0 : decode cX4_checkTurnsOfSearch 0 = .ok (.iload_n 0, 1) := by decide +kernel
theorem dX4_checkTurnsOfSearch_1 : decode cX4_checkTurnsOfSearch 1 = .ok (.iconst 1, 1) := by decide +kernel
theorem dX4_checkTurnsOfSearch_2 : decode cX4_checkTurnsOfSearch 2 = .ok (.if_icmp .lt 10, 3) := by decide +kernel
theorem dX4_checkTurnsOfSearch_5 : decode cX4_checkTurnsOfSearch 5 = .ok (.iload_n 0, 1) := by decide +kernel
theorem dX4_checkTurnsOfSearch_6 : decode cX4_checkTurnsOfSearch 6 = .ok (.sipush 200, 3) := by decide +kernel
theorem dX4_checkTurnsOfSearch_9 : decode cX4_checkTurnsOfSearch 9 = .ok (.if_icmp .le 14, 3) := by decide +kernel
theorem dX4_checkTurnsOfSearch_12 : decode cX4_checkTurnsOfSearch 12 = .ok (.new 53, 3) := by decide +kernel
theorem dX4_checkTurnsOfSearch_15 : decode cX4_checkTurnsOfSearch 15 = .ok (.dup, 1) := by decide +kernel
theorem dX4_checkTurnsOfSearch_16 : decode cX4_checkTurnsOfSearch 16 = .ok (.ldc_w 314, 3) := by decide +kernel
theorem dX4_checkTurnsOfSearch_19 : decode cX4_checkTurnsOfSearch 19 = .ok (.invokespecial 57, 3) := by decide +kernel
theorem dX4_checkTurnsOfSearch_22 : decode cX4_checkTurnsOfSearch 22 = .ok (.athrow, 1) := by decide +kernel
theorem dX4_checkTurnsOfSearch_23 : decode cX4_checkTurnsOfSearch 23 = .ok (.return_, 1) := by decide +kernel
theorem dX4_turnsFit_0 : decode cX4_turnsFit 0 = .ok (.iload_n 0, 1) := by decide +kernel
theorem dX4_turnsFit_1 : decode cX4_turnsFit 1 = .ok (.iconst 1, 1) := by decide +kernel
theorem dX4_turnsFit_2 : decode cX4_turnsFit 2 = .ok (.if_icmp .lt 14, 3) := by decide +kernel
theorem dX4_turnsFit_5 : decode cX4_turnsFit 5 = .ok (.iload_n 0, 1) := by decide +kernel
theorem dX4_turnsFit_6 : decode cX4_turnsFit 6 = .ok (.sipush 500, 3) := by decide +kernel
theorem dX4_turnsFit_9 : decode cX4_turnsFit 9 = .ok (.if_icmp .gt 7, 3) := by decide +kernel
theorem dX4_turnsFit_12 : decode cX4_turnsFit 12 = .ok (.iconst 1, 1) := by decide +kernel
theorem dX4_turnsFit_13 : decode cX4_turnsFit 13 = .ok (.goto 4, 3) := by decide +kernel
theorem dX4_turnsFit_16 : decode cX4_turnsFit 16 = .ok (.iconst 0, 1) := by decide +kernel
theorem dX4_turnsFit_17 : decode cX4_turnsFit 17 = .ok (.ireturn, 1) := by decide +kernel
theorem dX4_pushFits_0 : decode cX4_pushFits 0 = .ok (.iload_n 0, 1) := by decide +kernel
theorem dX4_pushFits_1 : decode cX4_pushFits 1 = .ok (.iconst 1, 1) := by decide +kernel
theorem dX4_pushFits_2 : decode cX4_pushFits 2 = .ok (.if_icmp .lt 14, 3) := by decide +kernel
theorem dX4_pushFits_5 : decode cX4_pushFits 5 = .ok (.iload_n 0, 1) := by decide +kernel
theorem dX4_pushFits_6 : decode cX4_pushFits 6 = .ok (.sipush 9999, 3) := by decide +kernel
theorem dX4_pushFits_9 : decode cX4_pushFits 9 = .ok (.if_icmp .gt 7, 3) := by decide +kernel
theorem dX4_pushFits_12 : decode cX4_pushFits 12 = .ok (.iconst 1, 1) := by decide +kernel
theorem dX4_pushFits_13 : decode cX4_pushFits 13 = .ok (.goto 4, 3) := by decide +kernel
theorem dX4_pushFits_16 : decode cX4_pushFits 16 = .ok (.iconst 0, 1) := by decide +kernel
theorem dX4_pushFits_17 : decode cX4_pushFits 17 = .ok (.ireturn, 1) := by decide +kernel
theorem dX4_nudgeFits_0 : decode cX4_nudgeFits 0 = .ok (.iload_n 0, 1) := by decide +kernel
theorem dX4_nudgeFits_1 : decode cX4_nudgeFits 1 = .ok (.sipush (-600), 3) := by decide +kernel
theorem dX4_nudgeFits_4 : decode cX4_nudgeFits 4 = .ok (.if_icmp .lt 14, 3) := by decide +kernel
theorem dX4_nudgeFits_7 : decode cX4_nudgeFits 7 = .ok (.iload_n 0, 1) := by decide +kernel
theorem dX4_nudgeFits_8 : decode cX4_nudgeFits 8 = .ok (.sipush 600, 3) := by decide +kernel
theorem dX4_nudgeFits_11 : decode cX4_nudgeFits 11 = .ok (.if_icmp .gt 7, 3) := by decide +kernel
theorem dX4_nudgeFits_14 : decode cX4_nudgeFits 14 = .ok (.iconst 1, 1) := by decide +kernel
theorem dX4_nudgeFits_15 : decode cX4_nudgeFits 15 = .ok (.goto 4, 3) := by decide +kernel
theorem dX4_nudgeFits_18 : decode cX4_nudgeFits 18 = .ok (.iconst 0, 1) := by decide +kernel
theorem dX4_nudgeFits_19 : decode cX4_nudgeFits 19 = .ok (.ireturn, 1) := by decide +kernel
theorem dX4_settingFits_0 : decode cX4_settingFits 0 = .ok (.iload_n 0, 1) := by decide +kernel
theorem dX4_settingFits_1 : decode cX4_settingFits 1 = .ok (.ifCond .lt 11, 3) := by decide +kernel
theorem dX4_settingFits_4 : decode cX4_settingFits 4 = .ok (.iload_n 0, 1) := by decide +kernel
theorem dX4_settingFits_5 : decode cX4_settingFits 5 = .ok (.getstatic 118, 3) := by decide +kernel
theorem dX4_settingFits_8 : decode cX4_settingFits 8 = .ok (.arraylength, 1) := by decide +kernel
theorem dX4_settingFits_9 : decode cX4_settingFits 9 = .ok (.if_icmp .lt 5, 3) := by decide +kernel
theorem dX4_settingFits_12 : decode cX4_settingFits 12 = .ok (.iconst 0, 1) := by decide +kernel
theorem dX4_settingFits_13 : decode cX4_settingFits 13 = .ok (.ireturn, 1) := by decide +kernel
theorem dX4_settingFits_14 : decode cX4_settingFits 14 = .ok (.iload_n 1, 1) := by decide +kernel
theorem dX4_settingFits_15 : decode cX4_settingFits 15 = .ok (.getstatic 316, 3) := by decide +kernel
theorem dX4_settingFits_18 : decode cX4_settingFits 18 = .ok (.iload_n 0, 1) := by decide +kernel
theorem dX4_settingFits_19 : decode cX4_settingFits 19 = .ok (.iaload, 1) := by decide +kernel
theorem dX4_settingFits_20 : decode cX4_settingFits 20 = .ok (.if_icmp .lt 16, 3) := by decide +kernel
theorem dX4_settingFits_23 : decode cX4_settingFits 23 = .ok (.iload_n 1, 1) := by decide +kernel
theorem dX4_settingFits_24 : decode cX4_settingFits 24 = .ok (.getstatic 250, 3) := by decide +kernel
theorem dX4_settingFits_27 : decode cX4_settingFits 27 = .ok (.iload_n 0, 1) := by decide +kernel
theorem dX4_settingFits_28 : decode cX4_settingFits 28 = .ok (.iaload, 1) := by decide +kernel
theorem dX4_settingFits_29 : decode cX4_settingFits 29 = .ok (.if_icmp .gt 7, 3) := by decide +kernel
theorem dX4_settingFits_32 : decode cX4_settingFits 32 = .ok (.iconst 1, 1) := by decide +kernel
theorem dX4_settingFits_33 : decode cX4_settingFits 33 = .ok (.goto 4, 3) := by decide +kernel
theorem dX4_settingFits_36 : decode cX4_settingFits 36 = .ok (.iconst 0, 1) := by decide +kernel
theorem dX4_settingFits_37 : decode cX4_settingFits 37 = .ok (.ireturn, 1) := by decide +kernel
theorem dX4_around_0 : decode cX4_around 0 = .ok (.iload_n 0, 1) := by decide +kernel
theorem dX4_around_1 : decode cX4_around 1 = .ok (.sipush 10800, 3) := by decide +kernel
theorem dX4_around_4 : decode cX4_around 4 = .ok (.irem, 1) := by decide +kernel
theorem dX4_around_5 : decode cX4_around 5 = .ok (.istore_n 1, 1) := by decide +kernel
theorem dX4_around_6 : decode cX4_around 6 = .ok (.iload_n 1, 1) := by decide +kernel
theorem dX4_around_7 : decode cX4_around 7 = .ok (.ifCond .ge 11, 3) := by decide +kernel
theorem dX4_around_10 : decode cX4_around 10 = .ok (.iload_n 1, 1) := by decide +kernel
theorem dX4_around_11 : decode cX4_around 11 = .ok (.sipush 10800, 3) := by decide +kernel
theorem dX4_around_14 : decode cX4_around 14 = .ok (.iadd, 1) := by decide +kernel
theorem dX4_around_15 : decode cX4_around 15 = .ok (.goto 4, 3) := by decide +kernel
theorem dX4_around_18 : decode cX4_around 18 = .ok (.iload_n 1, 1) := by decide +kernel
theorem dX4_around_19 : decode cX4_around 19 = .ok (.ireturn, 1) := by decide +kernel
theorem dX4_sineOf_0 : decode cX4_sineOf 0 = .ok (.iload_n 0, 1) := by decide +kernel
theorem dX4_sineOf_1 : decode cX4_sineOf 1 = .ok (.invokestatic 244, 3) := by decide +kernel
theorem dX4_sineOf_4 : decode cX4_sineOf 4 = .ok (.istore_n 1, 1) := by decide +kernel
theorem dX4_sineOf_5 : decode cX4_sineOf 5 = .ok (.iload_n 1, 1) := by decide +kernel
theorem dX4_sineOf_6 : decode cX4_sineOf 6 = .ok (.iconst 5, 1) := by decide +kernel
theorem dX4_sineOf_7 : decode cX4_sineOf 7 = .ok (.idiv, 1) := by decide +kernel
theorem dX4_sineOf_8 : decode cX4_sineOf 8 = .ok (.istore_n 2, 1) := by decide +kernel
theorem dX4_sineOf_9 : decode cX4_sineOf 9 = .ok (.iload_n 2, 1) := by decide +kernel
theorem dX4_sineOf_10 : decode cX4_sineOf 10 = .ok (.getstatic 319, 3) := by decide +kernel
theorem dX4_sineOf_13 : decode cX4_sineOf 13 = .ok (.arraylength, 1) := by decide +kernel
theorem dX4_sineOf_14 : decode cX4_sineOf 14 = .ok (.iconst 1, 1) := by decide +kernel
theorem dX4_sineOf_15 : decode cX4_sineOf 15 = .ok (.isub, 1) := by decide +kernel
theorem dX4_sineOf_16 : decode cX4_sineOf 16 = .ok (.if_icmp .lt 17, 3) := by decide +kernel
theorem dX4_sineOf_19 : decode cX4_sineOf 19 = .ok (.getstatic 319, 3) := by decide +kernel
theorem dX4_sineOf_22 : decode cX4_sineOf 22 = .ok (.getstatic 319, 3) := by decide +kernel
theorem dX4_sineOf_25 : decode cX4_sineOf 25 = .ok (.arraylength, 1) := by decide +kernel
theorem dX4_sineOf_26 : decode cX4_sineOf 26 = .ok (.iconst 1, 1) := by decide +kernel
theorem dX4_sineOf_27 : decode cX4_sineOf 27 = .ok (.isub, 1) := by decide +kernel
theorem dX4_sineOf_28 : decode cX4_sineOf 28 = .ok (.iaload, 1) := by decide +kernel
theorem dX4_sineOf_29 : decode cX4_sineOf 29 = .ok (.istore_n 3, 1) := by decide +kernel
theorem dX4_sineOf_30 : decode cX4_sineOf 30 = .ok (.goto 29, 3) := by decide +kernel
theorem dX4_sineOf_33 : decode cX4_sineOf 33 = .ok (.getstatic 319, 3) := by decide +kernel
theorem dX4_sineOf_36 : decode cX4_sineOf 36 = .ok (.iload_n 2, 1) := by decide +kernel
theorem dX4_sineOf_37 : decode cX4_sineOf 37 = .ok (.iaload, 1) := by decide +kernel
theorem dX4_sineOf_38 : decode cX4_sineOf 38 = .ok (.getstatic 319, 3) := by decide +kernel
theorem dX4_sineOf_41 : decode cX4_sineOf 41 = .ok (.iload_n 2, 1) := by decide +kernel
theorem dX4_sineOf_42 : decode cX4_sineOf 42 = .ok (.iconst 1, 1) := by decide +kernel
theorem dX4_sineOf_43 : decode cX4_sineOf 43 = .ok (.iadd, 1) := by decide +kernel
theorem dX4_sineOf_44 : decode cX4_sineOf 44 = .ok (.iaload, 1) := by decide +kernel
theorem dX4_sineOf_45 : decode cX4_sineOf 45 = .ok (.getstatic 319, 3) := by decide +kernel
theorem dX4_sineOf_48 : decode cX4_sineOf 48 = .ok (.iload_n 2, 1) := by decide +kernel
theorem dX4_sineOf_49 : decode cX4_sineOf 49 = .ok (.iaload, 1) := by decide +kernel
theorem dX4_sineOf_50 : decode cX4_sineOf 50 = .ok (.isub, 1) := by decide +kernel
theorem dX4_sineOf_51 : decode cX4_sineOf 51 = .ok (.iload_n 1, 1) := by decide +kernel
theorem dX4_sineOf_52 : decode cX4_sineOf 52 = .ok (.iconst 5, 1) := by decide +kernel
theorem dX4_sineOf_53 : decode cX4_sineOf 53 = .ok (.irem, 1) := by decide +kernel
theorem dX4_sineOf_54 : decode cX4_sineOf 54 = .ok (.imul, 1) := by decide +kernel
theorem dX4_sineOf_55 : decode cX4_sineOf 55 = .ok (.iconst 5, 1) := by decide +kernel
theorem dX4_sineOf_56 : decode cX4_sineOf 56 = .ok (.idiv, 1) := by decide +kernel
theorem dX4_sineOf_57 : decode cX4_sineOf 57 = .ok (.iadd, 1) := by decide +kernel
theorem dX4_sineOf_58 : decode cX4_sineOf 58 = .ok (.istore_n 3, 1) := by decide +kernel
theorem dX4_sineOf_59 : decode cX4_sineOf 59 = .ok (.iload_n 0, 1) := by decide +kernel
theorem dX4_sineOf_60 : decode cX4_sineOf 60 = .ok (.ifCond .ge 8, 3) := by decide +kernel
theorem dX4_sineOf_63 : decode cX4_sineOf 63 = .ok (.iload_n 3, 1) := by decide +kernel
theorem dX4_sineOf_64 : decode cX4_sineOf 64 = .ok (.ineg, 1) := by decide +kernel
theorem dX4_sineOf_65 : decode cX4_sineOf 65 = .ok (.goto 4, 3) := by decide +kernel
theorem dX4_sineOf_68 : decode cX4_sineOf 68 = .ok (.iload_n 3, 1) := by decide +kernel
theorem dX4_sineOf_69 : decode cX4_sineOf 69 = .ok (.ireturn, 1) := by decide +kernel
theorem dX4_divideDown_0 : decode cX4_divideDown 0 = .ok (.lload_n 2, 1) := by decide +kernel
theorem dX4_divideDown_1 : decode cX4_divideDown 1 = .ok (.lconst 0, 1) := by decide +kernel
theorem dX4_divideDown_2 : decode cX4_divideDown 2 = .ok (.lcmp, 1) := by decide +kernel
theorem dX4_divideDown_3 : decode cX4_divideDown 3 = .ok (.ifCond .le 11, 3) := by decide +kernel
theorem dX4_divideDown_6 : decode cX4_divideDown 6 = .ok (.lload_n 0, 1) := by decide +kernel
theorem dX4_divideDown_7 : decode cX4_divideDown 7 = .ok (.lload_n 2, 1) := by decide +kernel
theorem dX4_divideDown_8 : decode cX4_divideDown 8 = .ok (.invokestatic 322, 3) := by decide +kernel
theorem dX4_divideDown_11 : decode cX4_divideDown 11 = .ok (.goto 4, 3) := by decide +kernel
