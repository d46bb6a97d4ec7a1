/-! What each instruction is, by program (wip/whole/mkdec.py) -/
theorem dX0_init_0 : decode cX0_init 0 = .ok (.aload_n 0, 1) := by decide +kernel
theorem dX0_init_1 : decode cX0_init 1 = .ok (.invokespecial 3, 3) := by decide +kernel
theorem dX0_init_4 : decode cX0_init 4 = .ok (.aload_n 0, 1) := by decide +kernel
theorem dX0_init_5 : decode cX0_init 5 = .ok (.bipush 41, 2) := by decide +kernel
theorem dX0_init_7 : decode cX0_init 7 = .ok (.anewarray 9, 3) := by decide +kernel
theorem dX0_init_10 : decode cX0_init 10 = .ok (.putfield 11, 3) := by decide +kernel
theorem dX0_init_13 : decode cX0_init 13 = .ok (.aload_n 0, 1) := by decide +kernel
theorem dX0_init_14 : decode cX0_init 14 = .ok (.iconst 0, 1) := by decide +kernel
theorem dX0_init_15 : decode cX0_init 15 = .ok (.putfield 17, 3) := by decide +kernel
theorem dX0_init_18 : decode cX0_init 18 = .ok (.aload_n 0, 1) := by decide +kernel
theorem dX0_init_19 : decode cX0_init 19 = .ok (.iconst 0, 1) := by decide +kernel
theorem dX0_init_20 : decode cX0_init 20 = .ok (.putfield 21, 3) := by decide +kernel
theorem dX0_init_23 : decode cX0_init 23 = .ok (.iconst 0, 1) := by decide +kernel
theorem dX0_init_24 : decode cX0_init 24 = .ok (.istore_n 2, 1) := by decide +kernel
theorem dX0_init_25 : decode cX0_init 25 = .ok (.iload_n 2, 1) := by decide +kernel
theorem dX0_init_26 : decode cX0_init 26 = .ok (.bipush 40, 2) := by decide +kernel
theorem dX0_init_28 : decode cX0_init 28 = .ok (.if_icmp .gt 23, 3) := by decide +kernel
theorem dX0_init_31 : decode cX0_init 31 = .ok (.aload_n 0, 1) := by decide +kernel
theorem dX0_init_32 : decode cX0_init 32 = .ok (.getfield 11, 3) := by decide +kernel
theorem dX0_init_35 : decode cX0_init 35 = .ok (.iload_n 2, 1) := by decide +kernel
theorem dX0_init_36 : decode cX0_init 36 = .ok (.new 9, 3) := by decide +kernel
theorem dX0_init_39 : decode cX0_init 39 = .ok (.dup, 1) := by decide +kernel
theorem dX0_init_40 : decode cX0_init 40 = .ok (.aload_n 1, 1) := by decide +kernel
theorem dX0_init_41 : decode cX0_init 41 = .ok (.invokespecial 24, 3) := by decide +kernel
theorem dX0_init_44 : decode cX0_init 44 = .ok (.aastore, 1) := by decide +kernel
theorem dX0_init_45 : decode cX0_init 45 = .ok (.iinc 2 1, 3) := by decide +kernel
theorem dX0_init_48 : decode cX0_init 48 = .ok (.goto (-23), 3) := by decide +kernel
theorem dX0_init_51 : decode cX0_init 51 = .ok (.return_, 1) := by decide +kernel
theorem dX0_begin_0 : decode cX0_begin 0 = .ok (.aload_n 0, 1) := by decide +kernel
theorem dX0_begin_1 : decode cX0_begin 1 = .ok (.iconst 0, 1) := by decide +kernel
theorem dX0_begin_2 : decode cX0_begin 2 = .ok (.putfield 17, 3) := by decide +kernel
theorem dX0_begin_5 : decode cX0_begin 5 = .ok (.aload_n 0, 1) := by decide +kernel
theorem dX0_begin_6 : decode cX0_begin 6 = .ok (.iconst 0, 1) := by decide +kernel
theorem dX0_begin_7 : decode cX0_begin 7 = .ok (.putfield 21, 3) := by decide +kernel
theorem dX0_begin_10 : decode cX0_begin 10 = .ok (.aload_n 0, 1) := by decide +kernel
theorem dX0_begin_11 : decode cX0_begin 11 = .ok (.iconst 0, 1) := by decide +kernel
theorem dX0_begin_12 : decode cX0_begin 12 = .ok (.aload_n 1, 1) := by decide +kernel
theorem dX0_begin_13 : decode cX0_begin 13 = .ok (.invokevirtual 27, 3) := by decide +kernel
theorem dX0_begin_16 : decode cX0_begin 16 = .ok (.return_, 1) := by decide +kernel
theorem dX0_keep_0 : decode cX0_keep 0 = .ok (.aload_n 0, 1) := by decide +kernel
theorem dX0_keep_1 : decode cX0_keep 1 = .ok (.getfield 17, 3) := by decide +kernel
theorem dX0_keep_4 : decode cX0_keep 4 = .ok (.bipush 40, 2) := by decide +kernel
theorem dX0_keep_6 : decode cX0_keep 6 = .ok (.if_icmp .ge 16, 3) := by decide +kernel
theorem dX0_keep_9 : decode cX0_keep 9 = .ok (.aload_n 0, 1) := by decide +kernel
theorem dX0_keep_10 : decode cX0_keep 10 = .ok (.dup, 1) := by decide +kernel
theorem dX0_keep_11 : decode cX0_keep 11 = .ok (.getfield 17, 3) := by decide +kernel
theorem dX0_keep_14 : decode cX0_keep 14 = .ok (.iconst 1, 1) := by decide +kernel
theorem dX0_keep_15 : decode cX0_keep 15 = .ok (.iadd, 1) := by decide +kernel
theorem dX0_keep_16 : decode cX0_keep 16 = .ok (.putfield 17, 3) := by decide +kernel
theorem dX0_keep_19 : decode cX0_keep 19 = .ok (.goto 7, 3) := by decide +kernel
theorem dX0_keep_22 : decode cX0_keep 22 = .ok (.aload_n 0, 1) := by decide +kernel
theorem dX0_keep_23 : decode cX0_keep 23 = .ok (.invokevirtual 31, 3) := by decide +kernel
theorem dX0_keep_26 : decode cX0_keep 26 = .ok (.aload_n 0, 1) := by decide +kernel
theorem dX0_keep_27 : decode cX0_keep 27 = .ok (.aload_n 0, 1) := by decide +kernel
theorem dX0_keep_28 : decode cX0_keep 28 = .ok (.getfield 17, 3) := by decide +kernel
theorem dX0_keep_31 : decode cX0_keep 31 = .ok (.putfield 21, 3) := by decide +kernel
theorem dX0_keep_34 : decode cX0_keep 34 = .ok (.aload_n 0, 1) := by decide +kernel
theorem dX0_keep_35 : decode cX0_keep 35 = .ok (.aload_n 0, 1) := by decide +kernel
theorem dX0_keep_36 : decode cX0_keep 36 = .ok (.getfield 17, 3) := by decide +kernel
theorem dX0_keep_39 : decode cX0_keep 39 = .ok (.aload_n 1, 1) := by decide +kernel
theorem dX0_keep_40 : decode cX0_keep 40 = .ok (.invokevirtual 27, 3) := by decide +kernel
theorem dX0_keep_43 : decode cX0_keep 43 = .ok (.return_, 1) := by decide +kernel
theorem dX0_stepBack_0 : decode cX0_stepBack 0 = .ok (.aload_n 0, 1) := by decide +kernel
theorem dX0_stepBack_1 : decode cX0_stepBack 1 = .ok (.getfield 17, 3) := by decide +kernel
theorem dX0_stepBack_4 : decode cX0_stepBack 4 = .ok (.iconst 1, 1) := by decide +kernel
theorem dX0_stepBack_5 : decode cX0_stepBack 5 = .ok (.if_icmp .ge 5, 3) := by decide +kernel
theorem dX0_stepBack_8 : decode cX0_stepBack 8 = .ok (.iconst 0, 1) := by decide +kernel
theorem dX0_stepBack_9 : decode cX0_stepBack 9 = .ok (.ireturn, 1) := by decide +kernel
theorem dX0_stepBack_10 : decode cX0_stepBack 10 = .ok (.aload_n 0, 1) := by decide +kernel
theorem dX0_stepBack_11 : decode cX0_stepBack 11 = .ok (.dup, 1) := by decide +kernel
theorem dX0_stepBack_12 : decode cX0_stepBack 12 = .ok (.getfield 17, 3) := by decide +kernel
theorem dX0_stepBack_15 : decode cX0_stepBack 15 = .ok (.iconst 1, 1) := by decide +kernel
theorem dX0_stepBack_16 : decode cX0_stepBack 16 = .ok (.isub, 1) := by decide +kernel
theorem dX0_stepBack_17 : decode cX0_stepBack 17 = .ok (.putfield 17, 3) := by decide +kernel
theorem dX0_stepBack_20 : decode cX0_stepBack 20 = .ok (.aload_n 0, 1) := by decide +kernel
theorem dX0_stepBack_21 : decode cX0_stepBack 21 = .ok (.aload_n 0, 1) := by decide +kernel
theorem dX0_stepBack_22 : decode cX0_stepBack 22 = .ok (.getfield 17, 3) := by decide +kernel
theorem dX0_stepBack_25 : decode cX0_stepBack 25 = .ok (.aload_n 1, 1) := by decide +kernel
theorem dX0_stepBack_26 : decode cX0_stepBack 26 = .ok (.invokevirtual 34, 3) := by decide +kernel
theorem dX0_stepBack_29 : decode cX0_stepBack 29 = .ok (.iconst 1, 1) := by decide +kernel
theorem dX0_stepBack_30 : decode cX0_stepBack 30 = .ok (.ireturn, 1) := by decide +kernel
theorem dX0_stepOn_0 : decode cX0_stepOn 0 = .ok (.aload_n 0, 1) := by decide +kernel
theorem dX0_stepOn_1 : decode cX0_stepOn 1 = .ok (.getfield 17, 3) := by decide +kernel
theorem dX0_stepOn_4 : decode cX0_stepOn 4 = .ok (.aload_n 0, 1) := by decide +kernel
theorem dX0_stepOn_5 : decode cX0_stepOn 5 = .ok (.getfield 21, 3) := by decide +kernel
theorem dX0_stepOn_8 : decode cX0_stepOn 8 = .ok (.if_icmp .lt 5, 3) := by decide +kernel
theorem dX0_stepOn_11 : decode cX0_stepOn 11 = .ok (.iconst 0, 1) := by decide +kernel
theorem dX0_stepOn_12 : decode cX0_stepOn 12 = .ok (.ireturn, 1) := by decide +kernel
theorem dX0_stepOn_13 : decode cX0_stepOn 13 = .ok (.aload_n 0, 1) := by decide +kernel
theorem dX0_stepOn_14 : decode cX0_stepOn 14 = .ok (.dup, 1) := by decide +kernel
theorem dX0_stepOn_15 : decode cX0_stepOn 15 = .ok (.getfield 17, 3) := by decide +kernel
theorem dX0_stepOn_18 : decode cX0_stepOn 18 = .ok (.iconst 1, 1) := by decide +kernel
theorem dX0_stepOn_19 : decode cX0_stepOn 19 = .ok (.iadd, 1) := by decide +kernel
theorem dX0_stepOn_20 : decode cX0_stepOn 20 = .ok (.putfield 17, 3) := by decide +kernel
theorem dX0_stepOn_23 : decode cX0_stepOn 23 = .ok (.aload_n 0, 1) := by decide +kernel
theorem dX0_stepOn_24 : decode cX0_stepOn 24 = .ok (.aload_n 0, 1) := by decide +kernel
theorem dX0_stepOn_25 : decode cX0_stepOn 25 = .ok (.getfield 17, 3) := by decide +kernel
theorem dX0_stepOn_28 : decode cX0_stepOn 28 = .ok (.aload_n 1, 1) := by decide +kernel
theorem dX0_stepOn_29 : decode cX0_stepOn 29 = .ok (.invokevirtual 34, 3) := by decide +kernel
theorem dX0_stepOn_32 : decode cX0_stepOn 32 = .ok (.iconst 1, 1) := by decide +kernel
theorem dX0_stepOn_33 : decode cX0_stepOn 33 = .ok (.ireturn, 1) := by decide +kernel
theorem dX0_dropOldest_0 : decode cX0_dropOldest 0 = .ok (.aload_n 0, 1) := by decide +kernel
theorem dX0_dropOldest_1 : decode cX0_dropOldest 1 = .ok (.getfield 11, 3) := by decide +kernel
theorem dX0_dropOldest_4 : decode cX0_dropOldest 4 = .ok (.iconst 0, 1) := by decide +kernel
theorem dX0_dropOldest_5 : decode cX0_dropOldest 5 = .ok (.aaload, 1) := by decide +kernel
theorem dX0_dropOldest_6 : decode cX0_dropOldest 6 = .ok (.astore_n 1, 1) := by decide +kernel
theorem dX0_dropOldest_7 : decode cX0_dropOldest 7 = .ok (.iconst 0, 1) := by decide +kernel
theorem dX0_dropOldest_8 : decode cX0_dropOldest 8 = .ok (.istore_n 2, 1) := by decide +kernel
theorem dX0_dropOldest_9 : decode cX0_dropOldest 9 = .ok (.iload_n 2, 1) := by decide +kernel
theorem dX0_dropOldest_10 : decode cX0_dropOldest 10 = .ok (.bipush 40, 2) := by decide +kernel
theorem dX0_dropOldest_12 : decode cX0_dropOldest 12 = .ok (.if_icmp .ge 23, 3) := by decide +kernel
theorem dX0_dropOldest_15 : decode cX0_dropOldest 15 = .ok (.aload_n 0, 1) := by decide +kernel
theorem dX0_dropOldest_16 : decode cX0_dropOldest 16 = .ok (.getfield 11, 3) := by decide +kernel
theorem dX0_dropOldest_19 : decode cX0_dropOldest 19 = .ok (.iload_n 2, 1) := by decide +kernel
theorem dX0_dropOldest_20 : decode cX0_dropOldest 20 = .ok (.aload_n 0, 1) := by decide +kernel
theorem dX0_dropOldest_21 : decode cX0_dropOldest 21 = .ok (.getfield 11, 3) := by decide +kernel
theorem dX0_dropOldest_24 : decode cX0_dropOldest 24 = .ok (.iload_n 2, 1) := by decide +kernel
theorem dX0_dropOldest_25 : decode cX0_dropOldest 25 = .ok (.iconst 1, 1) := by decide +kernel
theorem dX0_dropOldest_26 : decode cX0_dropOldest 26 = .ok (.iadd, 1) := by decide +kernel
theorem dX0_dropOldest_27 : decode cX0_dropOldest 27 = .ok (.aaload, 1) := by decide +kernel
theorem dX0_dropOldest_28 : decode cX0_dropOldest 28 = .ok (.aastore, 1) := by decide +kernel
theorem dX0_dropOldest_29 : decode cX0_dropOldest 29 = .ok (.iinc 2 1, 3) := by decide +kernel
theorem dX0_dropOldest_32 : decode cX0_dropOldest 32 = .ok (.goto (-23), 3) := by decide +kernel
theorem dX0_dropOldest_35 : decode cX0_dropOldest 35 = .ok (.aload_n 0, 1) := by decide +kernel
theorem dX0_dropOldest_36 : decode cX0_dropOldest 36 = .ok (.getfield 11, 3) := by decide +kernel
theorem dX0_dropOldest_39 : decode cX0_dropOldest 39 = .ok (.bipush 40, 2) := by decide +kernel
theorem dX0_dropOldest_41 : decode cX0_dropOldest 41 = .ok (.aload_n 1, 1) := by decide +kernel
theorem dX0_dropOldest_42 : decode cX0_dropOldest 42 = .ok (.aastore, 1) := by decide +kernel
theorem dX0_dropOldest_43 : decode cX0_dropOldest 43 = .ok (.return_, 1) := by decide +kernel
theorem dX0_write_0 : decode cX0_write 0 = .ok (.iload_n 1, 1) := by decide +kernel
theorem dX0_write_1 : decode cX0_write 1 = .ok (.ifCond .lt 18, 3) := by decide +kernel
theorem dX0_write_4 : decode cX0_write 4 = .ok (.iload_n 1, 1) := by decide +kernel
theorem dX0_write_5 : decode cX0_write 5 = .ok (.bipush 40, 2) := by decide +kernel
theorem dX0_write_7 : decode cX0_write 7 = .ok (.if_icmp .gt 12, 3) := by decide +kernel
theorem dX0_write_10 : decode cX0_write 10 = .ok (.aload_n 0, 1) := by decide +kernel
theorem dX0_write_11 : decode cX0_write 11 = .ok (.getfield 11, 3) := by decide +kernel
theorem dX0_write_14 : decode cX0_write 14 = .ok (.iload_n 1, 1) := by decide +kernel
theorem dX0_write_15 : decode cX0_write 15 = .ok (.aaload, 1) := by decide +kernel
theorem dX0_write_16 : decode cX0_write 16 = .ok (.goto 4, 3) := by decide +kernel
theorem dX0_write_19 : decode cX0_write 19 = .ok (.aconst_null, 1) := by decide +kernel
theorem dX0_write_20 : decode cX0_write 20 = .ok (.astore_n 3, 1) := by decide +kernel
theorem dX0_write_21 : decode cX0_write 21 = .ok (.aload_n 3, 1) := by decide +kernel
theorem dX0_write_22 : decode cX0_write 22 = .ok (.ifnull 8, 3) := by decide +kernel
theorem dX0_write_25 : decode cX0_write 25 = .ok (.aload_n 3, 1) := by decide +kernel
theorem dX0_write_26 : decode cX0_write 26 = .ok (.aload_n 2, 1) := by decide +kernel
theorem dX0_write_27 : decode cX0_write 27 = .ok (.invokevirtual 37, 3) := by decide +kernel
theorem dX0_write_30 : decode cX0_write 30 = .ok (.return_, 1) := by decide +kernel
theorem dX0_read_0 : decode cX0_read 0 = .ok (.iload_n 1, 1) := by decide +kernel
theorem dX0_read_1 : decode cX0_read 1 = .ok (.ifCond .lt 18, 3) := by decide +kernel
theorem dX0_read_4 : decode cX0_read 4 = .ok (.iload_n 1, 1) := by decide +kernel
theorem dX0_read_5 : decode cX0_read 5 = .ok (.bipush 40, 2) := by decide +kernel
theorem dX0_read_7 : decode cX0_read 7 = .ok (.if_icmp .gt 12, 3) := by decide +kernel
theorem dX0_read_10 : decode cX0_read 10 = .ok (.aload_n 0, 1) := by decide +kernel
theorem dX0_read_11 : decode cX0_read 11 = .ok (.getfield 11, 3) := by decide +kernel
theorem dX0_read_14 : decode cX0_read 14 = .ok (.iload_n 1, 1) := by decide +kernel
theorem dX0_read_15 : decode cX0_read 15 = .ok (.aaload, 1) := by decide +kernel
theorem dX0_read_16 : decode cX0_read 16 = .ok (.goto 4, 3) := by decide +kernel
theorem dX0_read_19 : decode cX0_read 19 = .ok (.aconst_null, 1) := by decide +kernel
theorem dX0_read_20 : decode cX0_read 20 = .ok (.astore_n 3, 1) := by decide +kernel
theorem dX0_read_21 : decode cX0_read 21 = .ok (.aload_n 3, 1) := by decide +kernel
theorem dX0_read_22 : decode cX0_read 22 = .ok (.ifnull 8, 3) := by decide +kernel
theorem dX0_read_25 : decode cX0_read 25 = .ok (.aload_n 2, 1) := by decide +kernel
theorem dX0_read_26 : decode cX0_read 26 = .ok (.aload_n 3, 1) := by decide +kernel
theorem dX0_read_27 : decode cX0_read 27 = .ok (.invokevirtual 37, 3) := by decide +kernel
theorem dX0_read_30 : decode cX0_read 30 = .ok (.return_, 1) := by decide +kernel
theorem dX1_init_0 : decode cX1_init 0 = .ok (.aload_n 0, 1) := by decide +kernel
theorem dX1_init_1 : decode cX1_init 1 = .ok (.invokespecial 3, 3) := by decide +kernel
theorem dX1_init_4 : decode cX1_init 4 = .ok (.aload_n 0, 1) := by decide +kernel
theorem dX1_init_5 : decode cX1_init 5 = .ok (.iconst 3, 1) := by decide +kernel
theorem dX1_init_6 : decode cX1_init 6 = .ok (.anewarray 9, 3) := by decide +kernel
theorem dX1_init_9 : decode cX1_init 9 = .ok (.putfield 11, 3) := by decide +kernel
theorem dX1_init_12 : decode cX1_init 12 = .ok (.aload_n 0, 1) := by decide +kernel
theorem dX1_init_13 : decode cX1_init 13 = .ok (.iconst 3, 1) := by decide +kernel
theorem dX1_init_14 : decode cX1_init 14 = .ok (.newarray .boolean, 2) := by decide +kernel
theorem dX1_init_16 : decode cX1_init 16 = .ok (.putfield 17, 3) := by decide +kernel
theorem dX1_init_19 : decode cX1_init 19 = .ok (.iconst 0, 1) := by decide +kernel
theorem dX1_init_20 : decode cX1_init 20 = .ok (.istore_n 2, 1) := by decide +kernel
theorem dX1_init_21 : decode cX1_init 21 = .ok (.iload_n 2, 1) := by decide +kernel
theorem dX1_init_22 : decode cX1_init 22 = .ok (.iconst 3, 1) := by decide +kernel
theorem dX1_init_23 : decode cX1_init 23 = .ok (.if_icmp .ge 23, 3) := by decide +kernel
theorem dX1_init_26 : decode cX1_init 26 = .ok (.aload_n 0, 1) := by decide +kernel
theorem dX1_init_27 : decode cX1_init 27 = .ok (.getfield 11, 3) := by decide +kernel
theorem dX1_init_30 : decode cX1_init 30 = .ok (.iload_n 2, 1) := by decide +kernel
theorem dX1_init_31 : decode cX1_init 31 = .ok (.new 9, 3) := by decide +kernel
theorem dX1_init_34 : decode cX1_init 34 = .ok (.dup, 1) := by decide +kernel
theorem dX1_init_35 : decode cX1_init 35 = .ok (.aload_n 1, 1) := by decide +kernel
theorem dX1_init_36 : decode cX1_init 36 = .ok (.invokespecial 21, 3) := by decide +kernel
theorem dX1_init_39 : decode cX1_init 39 = .ok (.aastore, 1) := by decide +kernel
theorem dX1_init_40 : decode cX1_init 40 = .ok (.iinc 2 1, 3) := by decide +kernel
theorem dX1_init_43 : decode cX1_init 43 = .ok (.goto (-22), 3) := by decide +kernel
theorem dX1_init_46 : decode cX1_init 46 = .ok (.return_, 1) := by decide +kernel
theorem dX1_clear_0 : decode cX1_clear 0 = .ok (.iconst 0, 1) := by decide +kernel
theorem dX1_clear_1 : decode cX1_clear 1 = .ok (.istore_n 1, 1) := by decide +kernel
theorem dX1_clear_2 : decode cX1_clear 2 = .ok (.iload_n 1, 1) := by decide +kernel
theorem dX1_clear_3 : decode cX1_clear 3 = .ok (.iconst 3, 1) := by decide +kernel
theorem dX1_clear_4 : decode cX1_clear 4 = .ok (.if_icmp .ge 16, 3) := by decide +kernel
theorem dX1_clear_7 : decode cX1_clear 7 = .ok (.aload_n 0, 1) := by decide +kernel
theorem dX1_clear_8 : decode cX1_clear 8 = .ok (.getfield 17, 3) := by decide +kernel
theorem dX1_clear_11 : decode cX1_clear 11 = .ok (.iload_n 1, 1) := by decide +kernel
theorem dX1_clear_12 : decode cX1_clear 12 = .ok (.iconst 0, 1) := by decide +kernel
theorem dX1_clear_13 : decode cX1_clear 13 = .ok (.bastore, 1) := by decide +kernel
theorem dX1_clear_14 : decode cX1_clear 14 = .ok (.iinc 1 1, 3) := by decide +kernel
theorem dX1_clear_17 : decode cX1_clear 17 = .ok (.goto (-15), 3) := by decide +kernel
theorem dX1_clear_20 : decode cX1_clear 20 = .ok (.return_, 1) := by decide +kernel
theorem dX1_put_0 : decode cX1_put 0 = .ok (.iload_n 1, 1) := by decide +kernel
theorem dX1_put_1 : decode cX1_put 1 = .ok (.ifCond .lt 17, 3) := by decide +kernel
theorem dX1_put_4 : decode cX1_put 4 = .ok (.iload_n 1, 1) := by decide +kernel
theorem dX1_put_5 : decode cX1_put 5 = .ok (.iconst 3, 1) := by decide +kernel
theorem dX1_put_6 : decode cX1_put 6 = .ok (.if_icmp .ge 12, 3) := by decide +kernel
theorem dX1_put_9 : decode cX1_put 9 = .ok (.aload_n 0, 1) := by decide +kernel
theorem dX1_put_10 : decode cX1_put 10 = .ok (.getfield 11, 3) := by decide +kernel
theorem dX1_put_13 : decode cX1_put 13 = .ok (.iload_n 1, 1) := by decide +kernel
theorem dX1_put_14 : decode cX1_put 14 = .ok (.aaload, 1) := by decide +kernel
theorem dX1_put_15 : decode cX1_put 15 = .ok (.goto 4, 3) := by decide +kernel
theorem dX1_put_18 : decode cX1_put 18 = .ok (.aconst_null, 1) := by decide +kernel
theorem dX1_put_19 : decode cX1_put 19 = .ok (.astore_n 3, 1) := by decide +kernel
theorem dX1_put_20 : decode cX1_put 20 = .ok (.aload_n 3, 1) := by decide +kernel
theorem dX1_put_21 : decode cX1_put 21 = .ok (.ifnonnull 5, 3) := by decide +kernel
theorem dX1_put_24 : decode cX1_put 24 = .ok (.iconst 0, 1) := by decide +kernel
theorem dX1_put_25 : decode cX1_put 25 = .ok (.ireturn, 1) := by decide +kernel
theorem dX1_put_26 : decode cX1_put 26 = .ok (.aload_n 3, 1) := by decide +kernel
theorem dX1_put_27 : decode cX1_put 27 = .ok (.aload_n 2, 1) := by decide +kernel
theorem dX1_put_28 : decode cX1_put 28 = .ok (.invokevirtual 24, 3) := by decide +kernel
theorem dX1_put_31 : decode cX1_put 31 = .ok (.aload_n 0, 1) := by decide +kernel
theorem dX1_put_32 : decode cX1_put 32 = .ok (.getfield 17, 3) := by decide +kernel
theorem dX1_put_35 : decode cX1_put 35 = .ok (.iload_n 1, 1) := by decide +kernel
theorem dX1_put_36 : decode cX1_put 36 = .ok (.iconst 1, 1) := by decide +kernel
theorem dX1_put_37 : decode cX1_put 37 = .ok (.bastore, 1) := by decide +kernel
theorem dX1_put_38 : decode cX1_put 38 = .ok (.iconst 1, 1) := by decide +kernel
theorem dX1_put_39 : decode cX1_put 39 = .ok (.ireturn, 1) := by decide +kernel
theorem dX1_take_0 : decode cX1_take 0 = .ok (.iload_n 1, 1) := by decide +kernel
theorem dX1_take_1 : decode cX1_take 1 = .ok (.ifCond .lt 26, 3) := by decide +kernel
theorem dX1_take_4 : decode cX1_take 4 = .ok (.iload_n 1, 1) := by decide +kernel
theorem dX1_take_5 : decode cX1_take 5 = .ok (.iconst 3, 1) := by decide +kernel
theorem dX1_take_6 : decode cX1_take 6 = .ok (.if_icmp .ge 21, 3) := by decide +kernel
theorem dX1_take_9 : decode cX1_take 9 = .ok (.aload_n 0, 1) := by decide +kernel
theorem dX1_take_10 : decode cX1_take 10 = .ok (.getfield 17, 3) := by decide +kernel
theorem dX1_take_13 : decode cX1_take 13 = .ok (.iload_n 1, 1) := by decide +kernel
theorem dX1_take_14 : decode cX1_take 14 = .ok (.baload, 1) := by decide +kernel
theorem dX1_take_15 : decode cX1_take 15 = .ok (.ifCond .eq 12, 3) := by decide +kernel
theorem dX1_take_18 : decode cX1_take 18 = .ok (.aload_n 0, 1) := by decide +kernel
theorem dX1_take_19 : decode cX1_take 19 = .ok (.getfield 11, 3) := by decide +kernel
theorem dX1_take_22 : decode cX1_take 22 = .ok (.iload_n 1, 1) := by decide +kernel
theorem dX1_take_23 : decode cX1_take 23 = .ok (.aaload, 1) := by decide +kernel
theorem dX1_take_24 : decode cX1_take 24 = .ok (.goto 4, 3) := by decide +kernel
theorem dX1_take_27 : decode cX1_take 27 = .ok (.aconst_null, 1) := by decide +kernel
theorem dX1_take_28 : decode cX1_take 28 = .ok (.astore_n 3, 1) := by decide +kernel
theorem dX1_take_29 : decode cX1_take 29 = .ok (.aload_n 3, 1) := by decide +kernel
theorem dX1_take_30 : decode cX1_take 30 = .ok (.ifnonnull 5, 3) := by decide +kernel
theorem dX1_take_33 : decode cX1_take 33 = .ok (.iconst 0, 1) := by decide +kernel
theorem dX1_take_34 : decode cX1_take 34 = .ok (.ireturn, 1) := by decide +kernel
theorem dX1_take_35 : decode cX1_take 35 = .ok (.aload_n 2, 1) := by decide +kernel
theorem dX1_take_36 : decode cX1_take 36 = .ok (.aload_n 3, 1) := by decide +kernel
theorem dX1_take_37 : decode cX1_take 37 = .ok (.invokevirtual 24, 3) := by decide +kernel
theorem dX1_take_40 : decode cX1_take 40 = .ok (.iconst 1, 1) := by decide +kernel
theorem dX1_take_41 : decode cX1_take 41 = .ok (.ireturn, 1) := by decide +kernel
theorem dX2_init_0 : decode cX2_init 0 = .ok (.aload_n 0, 1) := by decide +kernel
theorem dX2_init_1 : decode cX2_init 1 = .ok (.invokespecial 3, 3) := by decide +kernel
theorem dX2_init_4 : decode cX2_init 4 = .ok (.aload_n 0, 1) := by decide +kernel
theorem dX2_init_5 : decode cX2_init 5 = .ok (.sipush 300, 3) := by decide +kernel
theorem dX2_init_8 : decode cX2_init 8 = .ok (.newarray .int, 2) := by decide +kernel
theorem dX2_init_10 : decode cX2_init 10 = .ok (.putfield 9, 3) := by decide +kernel
theorem dX2_init_13 : decode cX2_init 13 = .ok (.aload_n 0, 1) := by decide +kernel
theorem dX2_init_14 : decode cX2_init 14 = .ok (.sipush 300, 3) := by decide +kernel
theorem dX2_init_17 : decode cX2_init 17 = .ok (.newarray .int, 2) := by decide +kernel
theorem dX2_init_19 : decode cX2_init 19 = .ok (.putfield 15, 3) := by decide +kernel
theorem dX2_init_22 : decode cX2_init 22 = .ok (.aload_n 0, 1) := by decide +kernel
theorem dX2_init_23 : decode cX2_init 23 = .ok (.sipush 300, 3) := by decide +kernel
theorem dX2_init_26 : decode cX2_init 26 = .ok (.newarray .int, 2) := by decide +kernel
theorem dX2_init_28 : decode cX2_init 28 = .ok (.putfield 18, 3) := by decide +kernel
theorem dX2_init_31 : decode cX2_init 31 = .ok (.aload_n 0, 1) := by decide +kernel
theorem dX2_init_32 : decode cX2_init 32 = .ok (.iconst 0, 1) := by decide +kernel
theorem dX2_init_33 : decode cX2_init 33 = .ok (.putfield 21, 3) := by decide +kernel
theorem dX2_init_36 : decode cX2_init 36 = .ok (.aload_n 0, 1) := by decide +kernel
theorem dX2_init_37 : decode cX2_init 37 = .ok (.iconst 0, 1) := by decide +kernel
theorem dX2_init_38 : decode cX2_init 38 = .ok (.putfield 25, 3) := by decide +kernel
theorem dX2_init_41 : decode cX2_init 41 = .ok (.return_, 1) := by decide +kernel
theorem dX2_clear_0 : decode cX2_clear 0 = .ok (.aload_n 0, 1) := by decide +kernel
theorem dX2_clear_1 : decode cX2_clear 1 = .ok (.iconst 0, 1) := by decide +kernel
theorem dX2_clear_2 : decode cX2_clear 2 = .ok (.putfield 21, 3) := by decide +kernel
theorem dX2_clear_5 : decode cX2_clear 5 = .ok (.aload_n 0, 1) := by decide +kernel
theorem dX2_clear_6 : decode cX2_clear 6 = .ok (.iconst 0, 1) := by decide +kernel
theorem dX2_clear_7 : decode cX2_clear 7 = .ok (.putfield 25, 3) := by decide +kernel
theorem dX2_clear_10 : decode cX2_clear 10 = .ok (.return_, 1) := by decide +kernel
theorem dX2_beAsUntold_0 : decode cX2_beAsUntold 0 = .ok (.aload_n 0, 1) := by decide +kernel
theorem dX2_beAsUntold_1 : decode cX2_beAsUntold 1 = .ok (.invokevirtual 28, 3) := by decide +kernel
theorem dX2_beAsUntold_4 : decode cX2_beAsUntold 4 = .ok (.aload_n 0, 1) := by decide +kernel
theorem dX2_beAsUntold_5 : decode cX2_beAsUntold 5 = .ok (.bipush 14, 2) := by decide +kernel
theorem dX2_beAsUntold_7 : decode cX2_beAsUntold 7 = .ok (.iconst 0, 1) := by decide +kernel
theorem dX2_beAsUntold_8 : decode cX2_beAsUntold 8 = .ok (.invokevirtual 31, 3) := by decide +kernel
theorem dX2_beAsUntold_11 : decode cX2_beAsUntold 11 = .ok (.aload_n 0, 1) := by decide +kernel
theorem dX2_beAsUntold_12 : decode cX2_beAsUntold 12 = .ok (.bipush 16, 2) := by decide +kernel
theorem dX2_beAsUntold_14 : decode cX2_beAsUntold 14 = .ok (.iconst 0, 1) := by decide +kernel
theorem dX2_beAsUntold_15 : decode cX2_beAsUntold 15 = .ok (.invokevirtual 31, 3) := by decide +kernel
theorem dX2_beAsUntold_18 : decode cX2_beAsUntold 18 = .ok (.aload_n 0, 1) := by decide +kernel
theorem dX2_beAsUntold_19 : decode cX2_beAsUntold 19 = .ok (.bipush 25, 2) := by decide +kernel
theorem dX2_beAsUntold_21 : decode cX2_beAsUntold 21 = .ok (.iconst 0, 1) := by decide +kernel
theorem dX2_beAsUntold_22 : decode cX2_beAsUntold 22 = .ok (.invokevirtual 31, 3) := by decide +kernel
theorem dX2_beAsUntold_25 : decode cX2_beAsUntold 25 = .ok (.return_, 1) := by decide +kernel
theorem dX2_addStep_0 : decode cX2_addStep 0 = .ok (.aload_n 0, 1) := by decide +kernel
theorem dX2_addStep_1 : decode cX2_addStep 1 = .ok (.getfield 21, 3) := by decide +kernel
theorem dX2_addStep_4 : decode cX2_addStep 4 = .ok (.ifCond .lt 43, 3) := by decide +kernel
theorem dX2_addStep_7 : decode cX2_addStep 7 = .ok (.aload_n 0, 1) := by decide +kernel
theorem dX2_addStep_8 : decode cX2_addStep 8 = .ok (.getfield 21, 3) := by decide +kernel
theorem dX2_addStep_11 : decode cX2_addStep 11 = .ok (.sipush 300, 3) := by decide +kernel
theorem dX2_addStep_14 : decode cX2_addStep 14 = .ok (.if_icmp .ge 33, 3) := by decide +kernel
theorem dX2_addStep_17 : decode cX2_addStep 17 = .ok (.aload_n 0, 1) := by decide +kernel
theorem dX2_addStep_18 : decode cX2_addStep 18 = .ok (.getfield 9, 3) := by decide +kernel
theorem dX2_addStep_21 : decode cX2_addStep 21 = .ok (.aload_n 0, 1) := by decide +kernel
theorem dX2_addStep_22 : decode cX2_addStep 22 = .ok (.getfield 21, 3) := by decide +kernel
theorem dX2_addStep_25 : decode cX2_addStep 25 = .ok (.iload_n 1, 1) := by decide +kernel
theorem dX2_addStep_26 : decode cX2_addStep 26 = .ok (.iastore, 1) := by decide +kernel
theorem dX2_addStep_27 : decode cX2_addStep 27 = .ok (.aload_n 0, 1) := by decide +kernel
theorem dX2_addStep_28 : decode cX2_addStep 28 = .ok (.getfield 15, 3) := by decide +kernel
theorem dX2_addStep_31 : decode cX2_addStep 31 = .ok (.aload_n 0, 1) := by decide +kernel
theorem dX2_addStep_32 : decode cX2_addStep 32 = .ok (.getfield 21, 3) := by decide +kernel
theorem dX2_addStep_35 : decode cX2_addStep 35 = .ok (.iload_n 2, 1) := by decide +kernel
theorem dX2_addStep_36 : decode cX2_addStep 36 = .ok (.iastore, 1) := by decide +kernel
theorem dX2_addStep_37 : decode cX2_addStep 37 = .ok (.aload_n 0, 1) := by decide +kernel
theorem dX2_addStep_38 : decode cX2_addStep 38 = .ok (.dup, 1) := by decide +kernel
theorem dX2_addStep_39 : decode cX2_addStep 39 = .ok (.getfield 21, 3) := by decide +kernel
theorem dX2_addStep_42 : decode cX2_addStep 42 = .ok (.iconst 1, 1) := by decide +kernel
theorem dX2_addStep_43 : decode cX2_addStep 43 = .ok (.iadd, 1) := by decide +kernel
theorem dX2_addStep_44 : decode cX2_addStep 44 = .ok (.putfield 21, 3) := by decide +kernel
theorem dX2_addStep_47 : decode cX2_addStep 47 = .ok (.return_, 1) := by decide +kernel
theorem dX2_copyFrom_0 : decode cX2_copyFrom 0 = .ok (.aload_n 0, 1) := by decide +kernel
theorem dX2_copyFrom_1 : decode cX2_copyFrom 1 = .ok (.invokevirtual 28, 3) := by decide +kernel
theorem dX2_copyFrom_4 : decode cX2_copyFrom 4 = .ok (.iconst 0, 1) := by decide +kernel
theorem dX2_copyFrom_5 : decode cX2_copyFrom 5 = .ok (.istore_n 2, 1) := by decide +kernel
theorem dX2_copyFrom_6 : decode cX2_copyFrom 6 = .ok (.iload_n 2, 1) := by decide +kernel
theorem dX2_copyFrom_7 : decode cX2_copyFrom 7 = .ok (.aload_n 1, 1) := by decide +kernel
theorem dX2_copyFrom_8 : decode cX2_copyFrom 8 = .ok (.getfield 21, 3) := by decide +kernel
theorem dX2_copyFrom_11 : decode cX2_copyFrom 11 = .ok (.if_icmp .ge 32, 3) := by decide +kernel
theorem dX2_copyFrom_14 : decode cX2_copyFrom 14 = .ok (.iload_n 2, 1) := by decide +kernel
theorem dX2_copyFrom_15 : decode cX2_copyFrom 15 = .ok (.sipush 300, 3) := by decide +kernel
theorem dX2_copyFrom_18 : decode cX2_copyFrom 18 = .ok (.if_icmp .ge 25, 3) := by decide +kernel
theorem dX2_copyFrom_21 : decode cX2_copyFrom 21 = .ok (.aload_n 0, 1) := by decide +kernel
theorem dX2_copyFrom_22 : decode cX2_copyFrom 22 = .ok (.aload_n 1, 1) := by decide +kernel
theorem dX2_copyFrom_23 : decode cX2_copyFrom 23 = .ok (.getfield 9, 3) := by decide +kernel
theorem dX2_copyFrom_26 : decode cX2_copyFrom 26 = .ok (.iload_n 2, 1) := by decide +kernel
theorem dX2_copyFrom_27 : decode cX2_copyFrom 27 = .ok (.iaload, 1) := by decide +kernel
theorem dX2_copyFrom_28 : decode cX2_copyFrom 28 = .ok (.aload_n 1, 1) := by decide +kernel
theorem dX2_copyFrom_29 : decode cX2_copyFrom 29 = .ok (.getfield 15, 3) := by decide +kernel
theorem dX2_copyFrom_32 : decode cX2_copyFrom 32 = .ok (.iload_n 2, 1) := by decide +kernel
theorem dX2_copyFrom_33 : decode cX2_copyFrom 33 = .ok (.iaload, 1) := by decide +kernel
theorem dX2_copyFrom_34 : decode cX2_copyFrom 34 = .ok (.invokevirtual 31, 3) := by decide +kernel
theorem dX2_copyFrom_37 : decode cX2_copyFrom 37 = .ok (.iinc 2 1, 3) := by decide +kernel
theorem dX2_copyFrom_40 : decode cX2_copyFrom 40 = .ok (.goto (-34), 3) := by decide +kernel
theorem dX2_copyFrom_43 : decode cX2_copyFrom 43 = .ok (.aload_n 0, 1) := by decide +kernel
theorem dX2_copyFrom_44 : decode cX2_copyFrom 44 = .ok (.aload_n 1, 1) := by decide +kernel
theorem dX2_copyFrom_45 : decode cX2_copyFrom 45 = .ok (.getfield 25, 3) := by decide +kernel
theorem dX2_copyFrom_48 : decode cX2_copyFrom 48 = .ok (.putfield 25, 3) := by decide +kernel
theorem dX2_copyFrom_51 : decode cX2_copyFrom 51 = .ok (.return_, 1) := by decide +kernel
theorem dX2_value_0 : decode cX2_value 0 = .ok (.iconst 0, 1) := by decide +kernel
theorem dX2_value_1 : decode cX2_value 1 = .ok (.istore 6, 2) := by decide +kernel
theorem dX2_value_3 : decode cX2_value 3 = .ok (.iconst 0, 1) := by decide +kernel
theorem dX2_value_4 : decode cX2_value 4 = .ok (.istore 7, 2) := by decide +kernel
theorem dX2_value_6 : decode cX2_value 6 = .ok (.iload 7, 2) := by decide +kernel
theorem dX2_value_8 : decode cX2_value 8 = .ok (.aload_n 0, 1) := by decide +kernel
theorem dX2_value_9 : decode cX2_value 9 = .ok (.getfield 21, 3) := by decide +kernel
theorem dX2_value_12 : decode cX2_value 12 = .ok (.if_icmp .ge 177, 3) := by decide +kernel
theorem dX2_value_15 : decode cX2_value 15 = .ok (.iload 7, 2) := by decide +kernel
theorem dX2_value_17 : decode cX2_value 17 = .ok (.sipush 300, 3) := by decide +kernel
theorem dX2_value_20 : decode cX2_value 20 = .ok (.if_icmp .ge 169, 3) := by decide +kernel
theorem dX2_value_23 : decode cX2_value 23 = .ok (.aload_n 0, 1) := by decide +kernel
theorem dX2_value_24 : decode cX2_value 24 = .ok (.getfield 9, 3) := by decide +kernel
theorem dX2_value_27 : decode cX2_value 27 = .ok (.iload 7, 2) := by decide +kernel
theorem dX2_value_29 : decode cX2_value 29 = .ok (.iaload, 1) := by decide +kernel
theorem dX2_value_30 : decode cX2_value 30 = .ok (.lookupswitch 138 #[(3, 76), (14, 88), (15, 100), (16, 112), (17, 125), (29, 58)], 58) := by decide +kernel
theorem dX2_value_88 : decode cX2_value 88 = .ok (.aload_n 0, 1) := by decide +kernel
theorem dX2_value_89 : decode cX2_value 89 = .ok (.iload 6, 2) := by decide +kernel
theorem dX2_value_91 : decode cX2_value 91 = .ok (.aload_n 0, 1) := by decide +kernel
theorem dX2_value_92 : decode cX2_value 92 = .ok (.getfield 15, 3) := by decide +kernel
theorem dX2_value_95 : decode cX2_value 95 = .ok (.iload 7, 2) := by decide +kernel
theorem dX2_value_97 : decode cX2_value 97 = .ok (.iaload, 1) := by decide +kernel
theorem dX2_value_98 : decode cX2_value 98 = .ok (.invokevirtual 35, 3) := by decide +kernel
theorem dX2_value_101 : decode cX2_value 101 = .ok (.istore 6, 2) := by decide +kernel
theorem dX2_value_103 : decode cX2_value 103 = .ok (.goto 80, 3) := by decide +kernel
theorem dX2_value_106 : decode cX2_value 106 = .ok (.aload_n 0, 1) := by decide +kernel
theorem dX2_value_107 : decode cX2_value 107 = .ok (.iload 6, 2) := by decide +kernel
theorem dX2_value_109 : decode cX2_value 109 = .ok (.iload_n 1, 1) := by decide +kernel
theorem dX2_value_110 : decode cX2_value 110 = .ok (.invokevirtual 35, 3) := by decide +kernel
theorem dX2_value_113 : decode cX2_value 113 = .ok (.istore 6, 2) := by decide +kernel
theorem dX2_value_115 : decode cX2_value 115 = .ok (.goto 68, 3) := by decide +kernel
theorem dX2_value_118 : decode cX2_value 118 = .ok (.aload_n 0, 1) := by decide +kernel
theorem dX2_value_119 : decode cX2_value 119 = .ok (.iload 6, 2) := by decide +kernel
theorem dX2_value_121 : decode cX2_value 121 = .ok (.iload_n 2, 1) := by decide +kernel
theorem dX2_value_122 : decode cX2_value 122 = .ok (.invokevirtual 35, 3) := by decide +kernel
theorem dX2_value_125 : decode cX2_value 125 = .ok (.istore 6, 2) := by decide +kernel
theorem dX2_value_127 : decode cX2_value 127 = .ok (.goto 56, 3) := by decide +kernel
theorem dX2_value_130 : decode cX2_value 130 = .ok (.aload_n 0, 1) := by decide +kernel
theorem dX2_value_131 : decode cX2_value 131 = .ok (.iload 6, 2) := by decide +kernel
theorem dX2_value_133 : decode cX2_value 133 = .ok (.iload_n 3, 1) := by decide +kernel
theorem dX2_value_134 : decode cX2_value 134 = .ok (.invokevirtual 35, 3) := by decide +kernel
theorem dX2_value_137 : decode cX2_value 137 = .ok (.istore 6, 2) := by decide +kernel
theorem dX2_value_139 : decode cX2_value 139 = .ok (.goto 44, 3) := by decide +kernel
theorem dX2_value_142 : decode cX2_value 142 = .ok (.aload_n 0, 1) := by decide +kernel
theorem dX2_value_143 : decode cX2_value 143 = .ok (.iload 6, 2) := by decide +kernel
theorem dX2_value_145 : decode cX2_value 145 = .ok (.iload 4, 2) := by decide +kernel
theorem dX2_value_147 : decode cX2_value 147 = .ok (.invokevirtual 35, 3) := by decide +kernel
theorem dX2_value_150 : decode cX2_value 150 = .ok (.istore 6, 2) := by decide +kernel
theorem dX2_value_152 : decode cX2_value 152 = .ok (.goto 31, 3) := by decide +kernel
theorem dX2_value_155 : decode cX2_value 155 = .ok (.aload_n 0, 1) := by decide +kernel
theorem dX2_value_156 : decode cX2_value 156 = .ok (.iload 6, 2) := by decide +kernel
theorem dX2_value_158 : decode cX2_value 158 = .ok (.iload 5, 2) := by decide +kernel
theorem dX2_value_160 : decode cX2_value 160 = .ok (.invokevirtual 35, 3) := by decide +kernel
theorem dX2_value_163 : decode cX2_value 163 = .ok (.istore 6, 2) := by decide +kernel
theorem dX2_value_165 : decode cX2_value 165 = .ok (.goto 18, 3) := by decide +kernel
theorem dX2_value_168 : decode cX2_value 168 = .ok (.aload_n 0, 1) := by decide +kernel
theorem dX2_value_169 : decode cX2_value 169 = .ok (.iload 6, 2) := by decide +kernel
theorem dX2_value_171 : decode cX2_value 171 = .ok (.aload_n 0, 1) := by decide +kernel
theorem dX2_value_172 : decode cX2_value 172 = .ok (.getfield 9, 3) := by decide +kernel
theorem dX2_value_175 : decode cX2_value 175 = .ok (.iload 7, 2) := by decide +kernel
theorem dX2_value_177 : decode cX2_value 177 = .ok (.iaload, 1) := by decide +kernel
theorem dX2_value_178 : decode cX2_value 178 = .ok (.invokevirtual 39, 3) := by decide +kernel
theorem dX2_value_181 : decode cX2_value 181 = .ok (.istore 6, 2) := by decide +kernel
theorem dX2_value_183 : decode cX2_value 183 = .ok (.iinc 7 1, 3) := by decide +kernel
theorem dX2_value_186 : decode cX2_value 186 = .ok (.goto (-180), 3) := by decide +kernel
theorem dX2_value_189 : decode cX2_value 189 = .ok (.iload 6, 2) := by decide +kernel
theorem dX2_value_191 : decode cX2_value 191 = .ok (.ifCond .le 12, 3) := by decide +kernel
theorem dX2_value_194 : decode cX2_value 194 = .ok (.aload_n 0, 1) := by decide +kernel
theorem dX2_value_195 : decode cX2_value 195 = .ok (.getfield 18, 3) := by decide +kernel
theorem dX2_value_198 : decode cX2_value 198 = .ok (.iconst 0, 1) := by decide +kernel
theorem dX2_value_199 : decode cX2_value 199 = .ok (.iaload, 1) := by decide +kernel
theorem dX2_value_200 : decode cX2_value 200 = .ok (.goto 4, 3) := by decide +kernel
theorem dX2_value_203 : decode cX2_value 203 = .ok (.iconst 0, 1) := by decide +kernel
theorem dX2_value_204 : decode cX2_value 204 = .ok (.ireturn, 1) := by decide +kernel
theorem dX2_push_0 : decode cX2_push 0 = .ok (.iload_n 1, 1) := by decide +kernel
theorem dX2_push_1 : decode cX2_push 1 = .ok (.ifCond .lt 10, 3) := by decide +kernel
theorem dX2_push_4 : decode cX2_push 4 = .ok (.iload_n 1, 1) := by decide +kernel
theorem dX2_push_5 : decode cX2_push 5 = .ok (.sipush 300, 3) := by decide +kernel
theorem dX2_push_8 : decode cX2_push 8 = .ok (.if_icmp .lt 5, 3) := by decide +kernel
theorem dX2_push_11 : decode cX2_push 11 = .ok (.iload_n 1, 1) := by decide +kernel
theorem dX2_push_12 : decode cX2_push 12 = .ok (.ireturn, 1) := by decide +kernel
theorem dX2_push_13 : decode cX2_push 13 = .ok (.aload_n 0, 1) := by decide +kernel
theorem dX2_push_14 : decode cX2_push 14 = .ok (.getfield 18, 3) := by decide +kernel
theorem dX2_push_17 : decode cX2_push 17 = .ok (.iload_n 1, 1) := by decide +kernel
theorem dX2_push_18 : decode cX2_push 18 = .ok (.iload_n 2, 1) := by decide +kernel
theorem dX2_push_19 : decode cX2_push 19 = .ok (.iastore, 1) := by decide +kernel
theorem dX2_push_20 : decode cX2_push 20 = .ok (.iload_n 1, 1) := by decide +kernel
theorem dX2_push_21 : decode cX2_push 21 = .ok (.iconst 1, 1) := by decide +kernel
theorem dX2_push_22 : decode cX2_push 22 = .ok (.iadd, 1) := by decide +kernel
theorem dX2_push_23 : decode cX2_push 23 = .ok (.ireturn, 1) := by decide +kernel
theorem dX2_work_0 : decode cX2_work 0 = .ok (.iload_n 1, 1) := by decide +kernel
theorem dX2_work_1 : decode cX2_work 1 = .ok (.iconst 1, 1) := by decide +kernel
theorem dX2_work_2 : decode cX2_work 2 = .ok (.if_icmp .lt 10, 3) := by decide +kernel
theorem dX2_work_5 : decode cX2_work 5 = .ok (.iload_n 1, 1) := by decide +kernel
theorem dX2_work_6 : decode cX2_work 6 = .ok (.sipush 300, 3) := by decide +kernel
theorem dX2_work_9 : decode cX2_work 9 = .ok (.if_icmp .le 5, 3) := by decide +kernel
theorem dX2_work_12 : decode cX2_work 12 = .ok (.iload_n 1, 1) := by decide +kernel
theorem dX2_work_13 : decode cX2_work 13 = .ok (.ireturn, 1) := by decide +kernel
theorem dX2_work_14 : decode cX2_work 14 = .ok (.iload_n 2, 1) := by decide +kernel
theorem dX2_work_15 : decode cX2_work 15 = .ok (.bipush 13, 2) := by decide +kernel
theorem dX2_work_17 : decode cX2_work 17 = .ok (.if_icmp .ne 29, 3) := by decide +kernel
theorem dX2_work_20 : decode cX2_work 20 = .ok (.aload_n 0, 1) := by decide +kernel
theorem dX2_work_21 : decode cX2_work 21 = .ok (.getfield 18, 3) := by decide +kernel
theorem dX2_work_24 : decode cX2_work 24 = .ok (.iload_n 1, 1) := by decide +kernel
theorem dX2_work_25 : decode cX2_work 25 = .ok (.iconst 1, 1) := by decide +kernel
theorem dX2_work_26 : decode cX2_work 26 = .ok (.isub, 1) := by decide +kernel
theorem dX2_work_27 : decode cX2_work 27 = .ok (.aload_n 0, 1) := by decide +kernel
theorem dX2_work_28 : decode cX2_work 28 = .ok (.getfield 18, 3) := by decide +kernel
theorem dX2_work_31 : decode cX2_work 31 = .ok (.iload_n 1, 1) := by decide +kernel
theorem dX2_work_32 : decode cX2_work 32 = .ok (.iconst 1, 1) := by decide +kernel
theorem dX2_work_33 : decode cX2_work 33 = .ok (.isub, 1) := by decide +kernel
theorem dX2_work_34 : decode cX2_work 34 = .ok (.iaload, 1) := by decide +kernel
theorem dX2_work_35 : decode cX2_work 35 = .ok (.ifCond .ne 7, 3) := by decide +kernel
theorem dX2_work_38 : decode cX2_work 38 = .ok (.iconst 1, 1) := by decide +kernel
theorem dX2_work_39 : decode cX2_work 39 = .ok (.goto 4, 3) := by decide +kernel
theorem dX2_work_42 : decode cX2_work 42 = .ok (.iconst 0, 1) := by decide +kernel
theorem dX2_work_43 : decode cX2_work 43 = .ok (.iastore, 1) := by decide +kernel
theorem dX2_work_44 : decode cX2_work 44 = .ok (.iload_n 1, 1) := by decide +kernel
theorem dX2_work_45 : decode cX2_work 45 = .ok (.ireturn, 1) := by decide +kernel
theorem dX2_work_46 : decode cX2_work 46 = .ok (.iload_n 1, 1) := by decide +kernel
theorem dX2_work_47 : decode cX2_work 47 = .ok (.iconst 2, 1) := by decide +kernel
theorem dX2_work_48 : decode cX2_work 48 = .ok (.if_icmp .ge 5, 3) := by decide +kernel
theorem dX2_work_51 : decode cX2_work 51 = .ok (.iload_n 1, 1) := by decide +kernel
theorem dX2_work_52 : decode cX2_work 52 = .ok (.ireturn, 1) := by decide +kernel
theorem dX2_work_53 : decode cX2_work 53 = .ok (.aload_n 0, 1) := by decide +kernel
theorem dX2_work_54 : decode cX2_work 54 = .ok (.getfield 18, 3) := by decide +kernel
theorem dX2_work_57 : decode cX2_work 57 = .ok (.iload_n 1, 1) := by decide +kernel
theorem dX2_work_58 : decode cX2_work 58 = .ok (.iconst 2, 1) := by decide +kernel
theorem dX2_work_59 : decode cX2_work 59 = .ok (.isub, 1) := by decide +kernel
theorem dX2_work_60 : decode cX2_work 60 = .ok (.iload_n 2, 1) := by decide +kernel
theorem dX2_work_61 : decode cX2_work 61 = .ok (.aload_n 0, 1) := by decide +kernel
theorem dX2_work_62 : decode cX2_work 62 = .ok (.getfield 18, 3) := by decide +kernel
theorem dX2_work_65 : decode cX2_work 65 = .ok (.iload_n 1, 1) := by decide +kernel
theorem dX2_work_66 : decode cX2_work 66 = .ok (.iconst 2, 1) := by decide +kernel
theorem dX2_work_67 : decode cX2_work 67 = .ok (.isub, 1) := by decide +kernel
theorem dX2_work_68 : decode cX2_work 68 = .ok (.iaload, 1) := by decide +kernel
theorem dX2_work_69 : decode cX2_work 69 = .ok (.aload_n 0, 1) := by decide +kernel
theorem dX2_work_70 : decode cX2_work 70 = .ok (.getfield 18, 3) := by decide +kernel
theorem dX2_work_73 : decode cX2_work 73 = .ok (.iload_n 1, 1) := by decide +kernel
theorem dX2_work_74 : decode cX2_work 74 = .ok (.iconst 1, 1) := by decide +kernel
theorem dX2_work_75 : decode cX2_work 75 = .ok (.isub, 1) := by decide +kernel
theorem dX2_work_76 : decode cX2_work 76 = .ok (.iaload, 1) := by decide +kernel
theorem dX2_work_77 : decode cX2_work 77 = .ok (.invokestatic 42, 3) := by decide +kernel
theorem dX2_work_80 : decode cX2_work 80 = .ok (.iastore, 1) := by decide +kernel
theorem dX2_work_81 : decode cX2_work 81 = .ok (.iload_n 1, 1) := by decide +kernel
theorem dX2_work_82 : decode cX2_work 82 = .ok (.iconst 1, 1) := by decide +kernel
theorem dX2_work_83 : decode cX2_work 83 = .ok (.isub, 1) := by decide +kernel
theorem dX2_work_84 : decode cX2_work 84 = .ok (.ireturn, 1) := by decide +kernel
theorem dX2_join_0 : decode cX2_join 0 = .ok (.iload_n 0, 1) := by decide +kernel
theorem dX2_join_1 : decode cX2_join 1 = .ok (.tableswitch 184 11 28 #[87, 101, 184, 184, 184, 184, 184, 184, 184, 184, 115, 126, 137, 148, 152, 156, 160, 172], 87) := by decide +kernel
theorem dX2_join_88 : decode cX2_join 88 = .ok (.iload_n 1, 1) := by decide +kernel
theorem dX2_join_89 : decode cX2_join 89 = .ok (.ifCond .ne 7, 3) := by decide +kernel
theorem dX2_join_92 : decode cX2_join 92 = .ok (.iload_n 2, 1) := by decide +kernel
theorem dX2_join_93 : decode cX2_join 93 = .ok (.ifCond .eq 7, 3) := by decide +kernel
theorem dX2_join_96 : decode cX2_join 96 = .ok (.iconst 1, 1) := by decide +kernel
theorem dX2_join_97 : decode cX2_join 97 = .ok (.goto 4, 3) := by decide +kernel
theorem dX2_join_100 : decode cX2_join 100 = .ok (.iconst 0, 1) := by decide +kernel
theorem dX2_join_101 : decode cX2_join 101 = .ok (.ireturn, 1) := by decide +kernel
theorem dX2_join_102 : decode cX2_join 102 = .ok (.iload_n 1, 1) := by decide +kernel
theorem dX2_join_103 : decode cX2_join 103 = .ok (.ifCond .eq 11, 3) := by decide +kernel
theorem dX2_join_106 : decode cX2_join 106 = .ok (.iload_n 2, 1) := by decide +kernel
theorem dX2_join_107 : decode cX2_join 107 = .ok (.ifCond .eq 7, 3) := by decide +kernel
theorem dX2_join_110 : decode cX2_join 110 = .ok (.iconst 1, 1) := by decide +kernel
theorem dX2_join_111 : decode cX2_join 111 = .ok (.goto 4, 3) := by decide +kernel
theorem dX2_join_114 : decode cX2_join 114 = .ok (.iconst 0, 1) := by decide +kernel
theorem dX2_join_115 : decode cX2_join 115 = .ok (.ireturn, 1) := by decide +kernel
theorem dX2_join_116 : decode cX2_join 116 = .ok (.iload_n 1, 1) := by decide +kernel
theorem dX2_join_117 : decode cX2_join 117 = .ok (.iload_n 2, 1) := by decide +kernel
theorem dX2_join_118 : decode cX2_join 118 = .ok (.if_icmp .ge 7, 3) := by decide +kernel
theorem dX2_join_121 : decode cX2_join 121 = .ok (.iconst 1, 1) := by decide +kernel
theorem dX2_join_122 : decode cX2_join 122 = .ok (.goto 4, 3) := by decide +kernel
theorem dX2_join_125 : decode cX2_join 125 = .ok (.iconst 0, 1) := by decide +kernel
theorem dX2_join_126 : decode cX2_join 126 = .ok (.ireturn, 1) := by decide +kernel
theorem dX2_join_127 : decode cX2_join 127 = .ok (.iload_n 1, 1) := by decide +kernel
theorem dX2_join_128 : decode cX2_join 128 = .ok (.iload_n 2, 1) := by decide +kernel
theorem dX2_join_129 : decode cX2_join 129 = .ok (.if_icmp .le 7, 3) := by decide +kernel
theorem dX2_join_132 : decode cX2_join 132 = .ok (.iconst 1, 1) := by decide +kernel
theorem dX2_join_133 : decode cX2_join 133 = .ok (.goto 4, 3) := by decide +kernel
theorem dX2_join_136 : decode cX2_join 136 = .ok (.iconst 0, 1) := by decide +kernel
theorem dX2_join_137 : decode cX2_join 137 = .ok (.ireturn, 1) := by decide +kernel
theorem dX2_join_138 : decode cX2_join 138 = .ok (.iload_n 1, 1) := by decide +kernel
theorem dX2_join_139 : decode cX2_join 139 = .ok (.iload_n 2, 1) := by decide +kernel
theorem dX2_join_140 : decode cX2_join 140 = .ok (.if_icmp .ne 7, 3) := by decide +kernel
theorem dX2_join_143 : decode cX2_join 143 = .ok (.iconst 1, 1) := by decide +kernel
theorem dX2_join_144 : decode cX2_join 144 = .ok (.goto 4, 3) := by decide +kernel
theorem dX2_join_147 : decode cX2_join 147 = .ok (.iconst 0, 1) := by decide +kernel
theorem dX2_join_148 : decode cX2_join 148 = .ok (.ireturn, 1) := by decide +kernel
theorem dX2_join_149 : decode cX2_join 149 = .ok (.iload_n 1, 1) := by decide +kernel
theorem dX2_join_150 : decode cX2_join 150 = .ok (.iload_n 2, 1) := by decide +kernel
theorem dX2_join_151 : decode cX2_join 151 = .ok (.iadd, 1) := by decide +kernel
theorem dX2_join_152 : decode cX2_join 152 = .ok (.ireturn, 1) := by decide +kernel
theorem dX2_join_153 : decode cX2_join 153 = .ok (.iload_n 1, 1) := by decide +kernel
theorem dX2_join_154 : decode cX2_join 154 = .ok (.iload_n 2, 1) := by decide +kernel
theorem dX2_join_155 : decode cX2_join 155 = .ok (.isub, 1) := by decide +kernel
theorem dX2_join_156 : decode cX2_join 156 = .ok (.ireturn, 1) := by decide +kernel
theorem dX2_join_157 : decode cX2_join 157 = .ok (.iload_n 1, 1) := by decide +kernel
theorem dX2_join_158 : decode cX2_join 158 = .ok (.iload_n 2, 1) := by decide +kernel
theorem dX2_join_159 : decode cX2_join 159 = .ok (.imul, 1) := by decide +kernel
theorem dX2_join_160 : decode cX2_join 160 = .ok (.ireturn, 1) := by decide +kernel
theorem dX2_join_161 : decode cX2_join 161 = .ok (.iload_n 2, 1) := by decide +kernel
theorem dX2_join_162 : decode cX2_join 162 = .ok (.ifCond .ne 7, 3) := by decide +kernel
theorem dX2_join_165 : decode cX2_join 165 = .ok (.iconst 0, 1) := by decide +kernel
theorem dX2_join_166 : decode cX2_join 166 = .ok (.goto 6, 3) := by decide +kernel
theorem dX2_join_169 : decode cX2_join 169 = .ok (.iload_n 1, 1) := by decide +kernel
theorem dX2_join_170 : decode cX2_join 170 = .ok (.iload_n 2, 1) := by decide +kernel
theorem dX2_join_171 : decode cX2_join 171 = .ok (.idiv, 1) := by decide +kernel
theorem dX2_join_172 : decode cX2_join 172 = .ok (.ireturn, 1) := by decide +kernel
theorem dX2_join_173 : decode cX2_join 173 = .ok (.iload_n 2, 1) := by decide +kernel
theorem dX2_join_174 : decode cX2_join 174 = .ok (.ifCond .ne 7, 3) := by decide +kernel
theorem dX2_join_177 : decode cX2_join 177 = .ok (.iconst 0, 1) := by decide +kernel
theorem dX2_join_178 : decode cX2_join 178 = .ok (.goto 6, 3) := by decide +kernel
theorem dX2_join_181 : decode cX2_join 181 = .ok (.iload_n 1, 1) := by decide +kernel
theorem dX2_join_182 : decode cX2_join 182 = .ok (.iload_n 2, 1) := by decide +kernel
theorem dX2_join_183 : decode cX2_join 183 = .ok (.irem, 1) := by decide +kernel
theorem dX2_join_184 : decode cX2_join 184 = .ok (.ireturn, 1) := by decide +kernel
theorem dX2_join_185 : decode cX2_join 185 = .ok (.iconst 0, 1) := by decide +kernel
theorem dX2_join_186 : decode cX2_join 186 = .ok (.ireturn, 1) := by decide +kernel
theorem dX3_init_0 : decode cX3_init 0 = .ok (.aload_n 0, 1) := by decide +kernel
theorem dX3_init_1 : decode cX3_init 1 = .ok (.invokespecial 3, 3) := by decide +kernel
theorem dX3_init_4 : decode cX3_init 4 = .ok (.aload_n 0, 1) := by decide +kernel
theorem dX3_init_5 : decode cX3_init 5 = .ok (.bipush 30, 2) := by decide +kernel
theorem dX3_init_7 : decode cX3_init 7 = .ok (.newarray .int, 2) := by decide +kernel
theorem dX3_init_9 : decode cX3_init 9 = .ok (.putfield 9, 3) := by decide +kernel
theorem dX3_init_12 : decode cX3_init 12 = .ok (.aload_n 0, 1) := by decide +kernel
theorem dX3_init_13 : decode cX3_init 13 = .ok (.bipush 30, 2) := by decide +kernel
theorem dX3_init_15 : decode cX3_init 15 = .ok (.newarray .int, 2) := by decide +kernel
theorem dX3_init_17 : decode cX3_init 17 = .ok (.putfield 15, 3) := by decide +kernel
theorem dX3_init_20 : decode cX3_init 20 = .ok (.aload_n 0, 1) := by decide +kernel
theorem dX3_init_21 : decode cX3_init 21 = .ok (.bipush 30, 2) := by decide +kernel
theorem dX3_init_23 : decode cX3_init 23 = .ok (.newarray .boolean, 2) := by decide +kernel
theorem dX3_init_25 : decode cX3_init 25 = .ok (.putfield 18, 3) := by decide +kernel
theorem dX3_init_28 : decode cX3_init 28 = .ok (.aload_n 0, 1) := by decide +kernel
theorem dX3_init_29 : decode cX3_init 29 = .ok (.bipush 30, 2) := by decide +kernel
theorem dX3_init_31 : decode cX3_init 31 = .ok (.newarray .int, 2) := by decide +kernel
theorem dX3_init_33 : decode cX3_init 33 = .ok (.putfield 22, 3) := by decide +kernel
theorem dX3_init_36 : decode cX3_init 36 = .ok (.aload_n 0, 1) := by decide +kernel
theorem dX3_init_37 : decode cX3_init 37 = .ok (.bipush 30, 2) := by decide +kernel
theorem dX3_init_39 : decode cX3_init 39 = .ok (.newarray .int, 2) := by decide +kernel
theorem dX3_init_41 : decode cX3_init 41 = .ok (.putfield 25, 3) := by decide +kernel
theorem dX3_init_44 : decode cX3_init 44 = .ok (.aload_n 0, 1) := by decide +kernel
theorem dX3_init_45 : decode cX3_init 45 = .ok (.bipush 30, 2) := by decide +kernel
theorem dX3_init_47 : decode cX3_init 47 = .ok (.newarray .boolean, 2) := by decide +kernel
theorem dX3_init_49 : decode cX3_init 49 = .ok (.putfield 28, 3) := by decide +kernel
theorem dX3_init_52 : decode cX3_init 52 = .ok (.aload_n 0, 1) := by decide +kernel
theorem dX3_init_53 : decode cX3_init 53 = .ok (.bipush 7, 2) := by decide +kernel
theorem dX3_init_55 : decode cX3_init 55 = .ok (.newarray .int, 2) := by decide +kernel
theorem dX3_init_57 : decode cX3_init 57 = .ok (.putfield 31, 3) := by decide +kernel
theorem dX3_init_60 : decode cX3_init 60 = .ok (.aload_n 0, 1) := by decide +kernel
theorem dX3_init_61 : decode cX3_init 61 = .ok (.iconst 0, 1) := by decide +kernel
theorem dX3_init_62 : decode cX3_init 62 = .ok (.putfield 34, 3) := by decide +kernel
theorem dX3_init_65 : decode cX3_init 65 = .ok (.aload_n 0, 1) := by decide +kernel
theorem dX3_init_66 : decode cX3_init 66 = .ok (.iconst 0, 1) := by decide +kernel
theorem dX3_init_67 : decode cX3_init 67 = .ok (.putfield 38, 3) := by decide +kernel
theorem dX3_init_70 : decode cX3_init 70 = .ok (.aload_n 0, 1) := by decide +kernel
theorem dX3_init_71 : decode cX3_init 71 = .ok (.aload_n 1, 1) := by decide +kernel
theorem dX3_init_72 : decode cX3_init 72 = .ok (.putfield 41, 3) := by decide +kernel
theorem dX3_init_75 : decode cX3_init 75 = .ok (.return_, 1) := by decide +kernel
theorem dX3_hold_0 : decode cX3_hold 0 = .ok (.aload_n 0, 1) := by decide +kernel
theorem dX3_hold_1 : decode cX3_hold 1 = .ok (.getfield 34, 3) := by decide +kernel
theorem dX3_hold_4 : decode cX3_hold 4 = .ok (.istore 4, 2) := by decide +kernel
theorem dX3_hold_6 : decode cX3_hold 6 = .ok (.iload 4, 2) := by decide +kernel
theorem dX3_hold_8 : decode cX3_hold 8 = .ok (.ifCond .lt 10, 3) := by decide +kernel
theorem dX3_hold_11 : decode cX3_hold 11 = .ok (.iload 4, 2) := by decide +kernel
theorem dX3_hold_13 : decode cX3_hold 13 = .ok (.bipush 30, 2) := by decide +kernel
theorem dX3_hold_15 : decode cX3_hold 15 = .ok (.if_icmp .lt 5, 3) := by decide +kernel
theorem dX3_hold_18 : decode cX3_hold 18 = .ok (.iconst (-1), 1) := by decide +kernel
theorem dX3_hold_19 : decode cX3_hold 19 = .ok (.ireturn, 1) := by decide +kernel
theorem dX3_hold_20 : decode cX3_hold 20 = .ok (.aload_n 0, 1) := by decide +kernel
theorem dX3_hold_21 : decode cX3_hold 21 = .ok (.getfield 9, 3) := by decide +kernel
theorem dX3_hold_24 : decode cX3_hold 24 = .ok (.iload 4, 2) := by decide +kernel
theorem dX3_hold_26 : decode cX3_hold 26 = .ok (.iload_n 1, 1) := by decide +kernel
theorem dX3_hold_27 : decode cX3_hold 27 = .ok (.iastore, 1) := by decide +kernel
theorem dX3_hold_28 : decode cX3_hold 28 = .ok (.aload_n 0, 1) := by decide +kernel
theorem dX3_hold_29 : decode cX3_hold 29 = .ok (.getfield 15, 3) := by decide +kernel
theorem dX3_hold_32 : decode cX3_hold 32 = .ok (.iload 4, 2) := by decide +kernel
theorem dX3_hold_34 : decode cX3_hold 34 = .ok (.iload_n 2, 1) := by decide +kernel
theorem dX3_hold_35 : decode cX3_hold 35 = .ok (.iastore, 1) := by decide +kernel
theorem dX3_hold_36 : decode cX3_hold 36 = .ok (.aload_n 0, 1) := by decide +kernel
theorem dX3_hold_37 : decode cX3_hold 37 = .ok (.getfield 18, 3) := by decide +kernel
theorem dX3_hold_40 : decode cX3_hold 40 = .ok (.iload 4, 2) := by decide +kernel
theorem dX3_hold_42 : decode cX3_hold 42 = .ok (.iload_n 3, 1) := by decide +kernel
theorem dX3_hold_43 : decode cX3_hold 43 = .ok (.bastore, 1) := by decide +kernel
theorem dX3_hold_44 : decode cX3_hold 44 = .ok (.aload_n 0, 1) := by decide +kernel
theorem dX3_hold_45 : decode cX3_hold 45 = .ok (.getfield 22, 3) := by decide +kernel
theorem dX3_hold_48 : decode cX3_hold 48 = .ok (.iload 4, 2) := by decide +kernel
theorem dX3_hold_50 : decode cX3_hold 50 = .ok (.aload_n 0, 1) := by decide +kernel
theorem dX3_hold_51 : decode cX3_hold 51 = .ok (.getfield 38, 3) := by decide +kernel
theorem dX3_hold_54 : decode cX3_hold 54 = .ok (.iastore, 1) := by decide +kernel
theorem dX3_hold_55 : decode cX3_hold 55 = .ok (.aload_n 0, 1) := by decide +kernel
theorem dX3_hold_56 : decode cX3_hold 56 = .ok (.getfield 28, 3) := by decide +kernel
theorem dX3_hold_59 : decode cX3_hold 59 = .ok (.iload 4, 2) := by decide +kernel
theorem dX3_hold_61 : decode cX3_hold 61 = .ok (.iconst 0, 1) := by decide +kernel
theorem dX3_hold_62 : decode cX3_hold 62 = .ok (.bastore, 1) := by decide +kernel
theorem dX3_hold_63 : decode cX3_hold 63 = .ok (.aload_n 0, 1) := by decide +kernel
theorem dX3_hold_64 : decode cX3_hold 64 = .ok (.dup, 1) := by decide +kernel
theorem dX3_hold_65 : decode cX3_hold 65 = .ok (.getfield 34, 3) := by decide +kernel
theorem dX3_hold_68 : decode cX3_hold 68 = .ok (.iconst 1, 1) := by decide +kernel
theorem dX3_hold_69 : decode cX3_hold 69 = .ok (.iadd, 1) := by decide +kernel
theorem dX3_hold_70 : decode cX3_hold 70 = .ok (.putfield 34, 3) := by decide +kernel
theorem dX3_hold_73 : decode cX3_hold 73 = .ok (.iload 4, 2) := by decide +kernel
theorem dX3_hold_75 : decode cX3_hold 75 = .ok (.ireturn, 1) := by decide +kernel
theorem dX3_takeBack_0 : decode cX3_takeBack 0 = .ok (.iload_n 1, 1) := by decide +kernel
theorem dX3_takeBack_1 : decode cX3_takeBack 1 = .ok (.ifCond .lt 26, 3) := by decide +kernel
theorem dX3_takeBack_4 : decode cX3_takeBack 4 = .ok (.iload_n 1, 1) := by decide +kernel
theorem dX3_takeBack_5 : decode cX3_takeBack 5 = .ok (.aload_n 0, 1) := by decide +kernel
theorem dX3_takeBack_6 : decode cX3_takeBack 6 = .ok (.getfield 34, 3) := by decide +kernel
theorem dX3_takeBack_9 : decode cX3_takeBack 9 = .ok (.if_icmp .ge 18, 3) := by decide +kernel
theorem dX3_takeBack_12 : decode cX3_takeBack 12 = .ok (.iload_n 1, 1) := by decide +kernel
theorem dX3_takeBack_13 : decode cX3_takeBack 13 = .ok (.bipush 30, 2) := by decide +kernel
theorem dX3_takeBack_15 : decode cX3_takeBack 15 = .ok (.if_icmp .ge 12, 3) := by decide +kernel
theorem dX3_takeBack_18 : decode cX3_takeBack 18 = .ok (.aload_n 0, 1) := by decide +kernel
theorem dX3_takeBack_19 : decode cX3_takeBack 19 = .ok (.getfield 28, 3) := by decide +kernel
theorem dX3_takeBack_22 : decode cX3_takeBack 22 = .ok (.iload_n 1, 1) := by decide +kernel
theorem dX3_takeBack_23 : decode cX3_takeBack 23 = .ok (.baload, 1) := by decide +kernel
theorem dX3_takeBack_24 : decode cX3_takeBack 24 = .ok (.ifCond .eq 5, 3) := by decide +kernel
theorem dX3_takeBack_27 : decode cX3_takeBack 27 = .ok (.iconst 0, 1) := by decide +kernel
theorem dX3_takeBack_28 : decode cX3_takeBack 28 = .ok (.ireturn, 1) := by decide +kernel
theorem dX3_takeBack_29 : decode cX3_takeBack 29 = .ok (.aload_n 0, 1) := by decide +kernel
theorem dX3_takeBack_30 : decode cX3_takeBack 30 = .ok (.getfield 28, 3) := by decide +kernel
theorem dX3_takeBack_33 : decode cX3_takeBack 33 = .ok (.iload_n 1, 1) := by decide +kernel
theorem dX3_takeBack_34 : decode cX3_takeBack 34 = .ok (.iconst 1, 1) := by decide +kernel
theorem dX3_takeBack_35 : decode cX3_takeBack 35 = .ok (.bastore, 1) := by decide +kernel
theorem dX3_takeBack_36 : decode cX3_takeBack 36 = .ok (.aload_n 0, 1) := by decide +kernel
theorem dX3_takeBack_37 : decode cX3_takeBack 37 = .ok (.getfield 25, 3) := by decide +kernel
theorem dX3_takeBack_40 : decode cX3_takeBack 40 = .ok (.iload_n 1, 1) := by decide +kernel
theorem dX3_takeBack_41 : decode cX3_takeBack 41 = .ok (.aload_n 0, 1) := by decide +kernel
theorem dX3_takeBack_42 : decode cX3_takeBack 42 = .ok (.getfield 38, 3) := by decide +kernel
theorem dX3_takeBack_45 : decode cX3_takeBack 45 = .ok (.iastore, 1) := by decide +kernel
theorem dX3_takeBack_46 : decode cX3_takeBack 46 = .ok (.iconst 1, 1) := by decide +kernel
theorem dX3_takeBack_47 : decode cX3_takeBack 47 = .ok (.ireturn, 1) := by decide +kernel
theorem dX3_countFitting_0 : decode cX3_countFitting 0 = .ok (.iconst 0, 1) := by decide +kernel
theorem dX3_countFitting_1 : decode cX3_countFitting 1 = .ok (.istore_n 2, 1) := by decide +kernel
theorem dX3_countFitting_2 : decode cX3_countFitting 2 = .ok (.iconst 0, 1) := by decide +kernel
theorem dX3_countFitting_3 : decode cX3_countFitting 3 = .ok (.istore_n 3, 1) := by decide +kernel
theorem dX3_countFitting_4 : decode cX3_countFitting 4 = .ok (.iload_n 3, 1) := by decide +kernel
theorem dX3_countFitting_5 : decode cX3_countFitting 5 = .ok (.bipush 64, 2) := by decide +kernel
theorem dX3_countFitting_7 : decode cX3_countFitting 7 = .ok (.if_icmp .ge 21, 3) := by decide +kernel
theorem dX3_countFitting_10 : decode cX3_countFitting 10 = .ok (.aload_n 0, 1) := by decide +kernel
theorem dX3_countFitting_11 : decode cX3_countFitting 11 = .ok (.iload_n 3, 1) := by decide +kernel
theorem dX3_countFitting_12 : decode cX3_countFitting 12 = .ok (.iload_n 1, 1) := by decide +kernel
theorem dX3_countFitting_13 : decode cX3_countFitting 13 = .ok (.invokevirtual 45, 3) := by decide +kernel
theorem dX3_countFitting_16 : decode cX3_countFitting 16 = .ok (.ifCond .eq 6, 3) := by decide +kernel
theorem dX3_countFitting_19 : decode cX3_countFitting 19 = .ok (.iinc 2 1, 3) := by decide +kernel
theorem dX3_countFitting_22 : decode cX3_countFitting 22 = .ok (.iinc 3 1, 3) := by decide +kernel
theorem dX3_countFitting_25 : decode cX3_countFitting 25 = .ok (.goto (-21), 3) := by decide +kernel
theorem dX3_countFitting_28 : decode cX3_countFitting 28 = .ok (.iload_n 2, 1) := by decide +kernel
theorem dX3_countFitting_29 : decode cX3_countFitting 29 = .ok (.ireturn, 1) := by decide +kernel
theorem dX3_knownOf_0 : decode cX3_knownOf 0 = .ok (.iconst 0, 1) := by decide +kernel
theorem dX3_knownOf_1 : decode cX3_knownOf 1 = .ok (.istore_n 3, 1) := by decide +kernel
theorem dX3_knownOf_2 : decode cX3_knownOf 2 = .ok (.iconst 0, 1) := by decide +kernel
theorem dX3_knownOf_3 : decode cX3_knownOf 3 = .ok (.istore 4, 2) := by decide +kernel
theorem dX3_knownOf_5 : decode cX3_knownOf 5 = .ok (.iconst 0, 1) := by decide +kernel
theorem dX3_knownOf_6 : decode cX3_knownOf 6 = .ok (.istore 5, 2) := by decide +kernel
theorem dX3_knownOf_8 : decode cX3_knownOf 8 = .ok (.iload 5, 2) := by decide +kernel
theorem dX3_knownOf_10 : decode cX3_knownOf 10 = .ok (.bipush 64, 2) := by decide +kernel
theorem dX3_knownOf_12 : decode cX3_knownOf 12 = .ok (.if_icmp .ge 41, 3) := by decide +kernel
theorem dX3_knownOf_15 : decode cX3_knownOf 15 = .ok (.aload_n 0, 1) := by decide +kernel
theorem dX3_knownOf_16 : decode cX3_knownOf 16 = .ok (.iload 5, 2) := by decide +kernel
theorem dX3_knownOf_18 : decode cX3_knownOf 18 = .ok (.iload_n 2, 1) := by decide +kernel
theorem dX3_knownOf_19 : decode cX3_knownOf 19 = .ok (.invokevirtual 45, 3) := by decide +kernel
theorem dX3_knownOf_22 : decode cX3_knownOf 22 = .ok (.ifCond .eq 25, 3) := by decide +kernel
theorem dX3_knownOf_25 : decode cX3_knownOf 25 = .ok (.iload_n 3, 1) := by decide +kernel
theorem dX3_knownOf_26 : decode cX3_knownOf 26 = .ok (.iload 5, 2) := by decide +kernel
theorem dX3_knownOf_28 : decode cX3_knownOf 28 = .ok (.iload_n 1, 1) := by decide +kernel
theorem dX3_knownOf_29 : decode cX3_knownOf 29 = .ok (.ishr, 1) := by decide +kernel
theorem dX3_knownOf_30 : decode cX3_knownOf 30 = .ok (.iconst 1, 1) := by decide +kernel
theorem dX3_knownOf_31 : decode cX3_knownOf 31 = .ok (.iand, 1) := by decide +kernel
theorem dX3_knownOf_32 : decode cX3_knownOf 32 = .ok (.iadd, 1) := by decide +kernel
theorem dX3_knownOf_33 : decode cX3_knownOf 33 = .ok (.istore_n 3, 1) := by decide +kernel
theorem dX3_knownOf_34 : decode cX3_knownOf 34 = .ok (.iload 4, 2) := by decide +kernel
theorem dX3_knownOf_36 : decode cX3_knownOf 36 = .ok (.iconst 1, 1) := by decide +kernel
theorem dX3_knownOf_37 : decode cX3_knownOf 37 = .ok (.iload 5, 2) := by decide +kernel
theorem dX3_knownOf_39 : decode cX3_knownOf 39 = .ok (.iload_n 1, 1) := by decide +kernel
theorem dX3_knownOf_40 : decode cX3_knownOf 40 = .ok (.ishr, 1) := by decide +kernel
theorem dX3_knownOf_41 : decode cX3_knownOf 41 = .ok (.iconst 1, 1) := by decide +kernel
theorem dX3_knownOf_42 : decode cX3_knownOf 42 = .ok (.iand, 1) := by decide +kernel
theorem dX3_knownOf_43 : decode cX3_knownOf 43 = .ok (.isub, 1) := by decide +kernel
theorem dX3_knownOf_44 : decode cX3_knownOf 44 = .ok (.iadd, 1) := by decide +kernel
theorem dX3_knownOf_45 : decode cX3_knownOf 45 = .ok (.istore 4, 2) := by decide +kernel
theorem dX3_knownOf_47 : decode cX3_knownOf 47 = .ok (.iinc 5 1, 3) := by decide +kernel
theorem dX3_knownOf_50 : decode cX3_knownOf 50 = .ok (.goto (-42), 3) := by decide +kernel
theorem dX3_knownOf_53 : decode cX3_knownOf 53 = .ok (.iload_n 3, 1) := by decide +kernel
theorem dX3_knownOf_54 : decode cX3_knownOf 54 = .ok (.ifCond .le 11, 3) := by decide +kernel
theorem dX3_knownOf_57 : decode cX3_knownOf 57 = .ok (.iload 4, 2) := by decide +kernel
theorem dX3_knownOf_59 : decode cX3_knownOf 59 = .ok (.ifCond .le 6, 3) := by decide +kernel
theorem dX3_knownOf_62 : decode cX3_knownOf 62 = .ok (.bipush (-2), 2) := by decide +kernel
theorem dX3_knownOf_64 : decode cX3_knownOf 64 = .ok (.ireturn, 1) := by decide +kernel
theorem dX3_knownOf_65 : decode cX3_knownOf 65 = .ok (.iload_n 3, 1) := by decide +kernel
theorem dX3_knownOf_66 : decode cX3_knownOf 66 = .ok (.ifCond .le 5, 3) := by decide +kernel
theorem dX3_knownOf_69 : decode cX3_knownOf 69 = .ok (.iconst 1, 1) := by decide +kernel
theorem dX3_knownOf_70 : decode cX3_knownOf 70 = .ok (.ireturn, 1) := by decide +kernel
theorem dX3_knownOf_71 : decode cX3_knownOf 71 = .ok (.iload 4, 2) := by decide +kernel
theorem dX3_knownOf_73 : decode cX3_knownOf 73 = .ok (.ifCond .le 7, 3) := by decide +kernel
theorem dX3_knownOf_76 : decode cX3_knownOf 76 = .ok (.iconst 0, 1) := by decide +kernel
theorem dX3_knownOf_77 : decode cX3_knownOf 77 = .ok (.goto 4, 3) := by decide +kernel
theorem dX3_knownOf_80 : decode cX3_knownOf 80 = .ok (.iconst (-1), 1) := by decide +kernel
theorem dX3_knownOf_81 : decode cX3_knownOf 81 = .ok (.ireturn, 1) := by decide +kernel
theorem dX3_bestToAsk_0 : decode cX3_bestToAsk 0 = .ok (.iconst (-1), 1) := by decide +kernel
theorem dX3_bestToAsk_1 : decode cX3_bestToAsk 1 = .ok (.istore_n 2, 1) := by decide +kernel
theorem dX3_bestToAsk_2 : decode cX3_bestToAsk 2 = .ok (.bipush 65, 2) := by decide +kernel
theorem dX3_bestToAsk_4 : decode cX3_bestToAsk 4 = .ok (.istore_n 3, 1) := by decide +kernel
theorem dX3_bestToAsk_5 : decode cX3_bestToAsk 5 = .ok (.iconst 0, 1) := by decide +kernel
theorem dX3_bestToAsk_6 : decode cX3_bestToAsk 6 = .ok (.istore 4, 2) := by decide +kernel
theorem dX3_bestToAsk_8 : decode cX3_bestToAsk 8 = .ok (.iload 4, 2) := by decide +kernel
theorem dX3_bestToAsk_10 : decode cX3_bestToAsk 10 = .ok (.aload_n 0, 1) := by decide +kernel
theorem dX3_bestToAsk_11 : decode cX3_bestToAsk 11 = .ok (.getfield 41, 3) := by decide +kernel
theorem dX3_bestToAsk_14 : decode cX3_bestToAsk 14 = .ok (.getfield 49, 3) := by decide +kernel
theorem dX3_bestToAsk_17 : decode cX3_bestToAsk 17 = .ok (.iconst 1, 1) := by decide +kernel
theorem dX3_bestToAsk_18 : decode cX3_bestToAsk 18 = .ok (.isub, 1) := by decide +kernel
theorem dX3_bestToAsk_19 : decode cX3_bestToAsk 19 = .ok (.if_icmp .ge 35, 3) := by decide +kernel
theorem dX3_bestToAsk_22 : decode cX3_bestToAsk 22 = .ok (.aload_n 0, 1) := by decide +kernel
theorem dX3_bestToAsk_23 : decode cX3_bestToAsk 23 = .ok (.iload 4, 2) := by decide +kernel
theorem dX3_bestToAsk_25 : decode cX3_bestToAsk 25 = .ok (.iload_n 1, 1) := by decide +kernel
theorem dX3_bestToAsk_26 : decode cX3_bestToAsk 26 = .ok (.invokevirtual 54, 3) := by decide +kernel
theorem dX3_bestToAsk_29 : decode cX3_bestToAsk 29 = .ok (.istore 5, 2) := by decide +kernel
theorem dX3_bestToAsk_31 : decode cX3_bestToAsk 31 = .ok (.iload 5, 2) := by decide +kernel
theorem dX3_bestToAsk_33 : decode cX3_bestToAsk 33 = .ok (.ifCond .le 15, 3) := by decide +kernel
theorem dX3_bestToAsk_36 : decode cX3_bestToAsk 36 = .ok (.iload 5, 2) := by decide +kernel
theorem dX3_bestToAsk_38 : decode cX3_bestToAsk 38 = .ok (.iload_n 3, 1) := by decide +kernel
theorem dX3_bestToAsk_39 : decode cX3_bestToAsk 39 = .ok (.if_icmp .ge 9, 3) := by decide +kernel
theorem dX3_bestToAsk_42 : decode cX3_bestToAsk 42 = .ok (.iload 4, 2) := by decide +kernel
theorem dX3_bestToAsk_44 : decode cX3_bestToAsk 44 = .ok (.istore_n 2, 1) := by decide +kernel
theorem dX3_bestToAsk_45 : decode cX3_bestToAsk 45 = .ok (.iload 5, 2) := by decide +kernel
theorem dX3_bestToAsk_47 : decode cX3_bestToAsk 47 = .ok (.istore_n 3, 1) := by decide +kernel
theorem dX3_bestToAsk_48 : decode cX3_bestToAsk 48 = .ok (.iinc 4 1, 3) := by decide +kernel
theorem dX3_bestToAsk_51 : decode cX3_bestToAsk 51 = .ok (.goto (-43), 3) := by decide +kernel
theorem dX3_bestToAsk_54 : decode cX3_bestToAsk 54 = .ok (.iload_n 2, 1) := by decide +kernel
theorem dX3_bestToAsk_55 : decode cX3_bestToAsk 55 = .ok (.ireturn, 1) := by decide +kernel
theorem dX3_mostLeftBy_0 : decode cX3_mostLeftBy 0 = .ok (.iconst 0, 1) := by decide +kernel
theorem dX3_mostLeftBy_1 : decode cX3_mostLeftBy 1 = .ok (.istore_n 3, 1) := by decide +kernel
theorem dX3_mostLeftBy_2 : decode cX3_mostLeftBy 2 = .ok (.iload_n 3, 1) := by decide +kernel
theorem dX3_mostLeftBy_3 : decode cX3_mostLeftBy 3 = .ok (.bipush 6, 2) := by decide +kernel
theorem dX3_mostLeftBy_5 : decode cX3_mostLeftBy 5 = .ok (.if_icmp .gt 16, 3) := by decide +kernel
theorem dX3_mostLeftBy_8 : decode cX3_mostLeftBy 8 = .ok (.aload_n 0, 1) := by decide +kernel
theorem dX3_mostLeftBy_9 : decode cX3_mostLeftBy 9 = .ok (.getfield 31, 3) := by decide +kernel
theorem dX3_mostLeftBy_12 : decode cX3_mostLeftBy 12 = .ok (.iload_n 3, 1) := by decide +kernel
theorem dX3_mostLeftBy_13 : decode cX3_mostLeftBy 13 = .ok (.iconst 0, 1) := by decide +kernel
theorem dX3_mostLeftBy_14 : decode cX3_mostLeftBy 14 = .ok (.iastore, 1) := by decide +kernel
theorem dX3_mostLeftBy_15 : decode cX3_mostLeftBy 15 = .ok (.iinc 3 1, 3) := by decide +kernel
theorem dX3_mostLeftBy_18 : decode cX3_mostLeftBy 18 = .ok (.goto (-16), 3) := by decide +kernel
theorem dX3_mostLeftBy_21 : decode cX3_mostLeftBy 21 = .ok (.iconst 0, 1) := by decide +kernel
theorem dX3_mostLeftBy_22 : decode cX3_mostLeftBy 22 = .ok (.istore_n 3, 1) := by decide +kernel
theorem dX3_mostLeftBy_23 : decode cX3_mostLeftBy 23 = .ok (.iconst 0, 1) := by decide +kernel
theorem dX3_mostLeftBy_24 : decode cX3_mostLeftBy 24 = .ok (.istore 4, 2) := by decide +kernel
theorem dX3_mostLeftBy_26 : decode cX3_mostLeftBy 26 = .ok (.iload 4, 2) := by decide +kernel
theorem dX3_mostLeftBy_28 : decode cX3_mostLeftBy 28 = .ok (.bipush 64, 2) := by decide +kernel
theorem dX3_mostLeftBy_30 : decode cX3_mostLeftBy 30 = .ok (.if_icmp .ge 63, 3) := by decide +kernel
theorem dX3_mostLeftBy_33 : decode cX3_mostLeftBy 33 = .ok (.aload_n 0, 1) := by decide +kernel
theorem dX3_mostLeftBy_34 : decode cX3_mostLeftBy 34 = .ok (.iload 4, 2) := by decide +kernel
theorem dX3_mostLeftBy_36 : decode cX3_mostLeftBy 36 = .ok (.iload_n 2, 1) := by decide +kernel
theorem dX3_mostLeftBy_37 : decode cX3_mostLeftBy 37 = .ok (.invokevirtual 45, 3) := by decide +kernel
theorem dX3_mostLeftBy_40 : decode cX3_mostLeftBy 40 = .ok (.ifCond .eq 47, 3) := by decide +kernel
theorem dX3_mostLeftBy_43 : decode cX3_mostLeftBy 43 = .ok (.aload_n 0, 1) := by decide +kernel
theorem dX3_mostLeftBy_44 : decode cX3_mostLeftBy 44 = .ok (.iload_n 1, 1) := by decide +kernel
theorem dX3_mostLeftBy_45 : decode cX3_mostLeftBy 45 = .ok (.iload 4, 2) := by decide +kernel
theorem dX3_mostLeftBy_47 : decode cX3_mostLeftBy 47 = .ok (.invokevirtual 58, 3) := by decide +kernel
theorem dX3_mostLeftBy_50 : decode cX3_mostLeftBy 50 = .ok (.istore 5, 2) := by decide +kernel
theorem dX3_mostLeftBy_52 : decode cX3_mostLeftBy 52 = .ok (.iload 5, 2) := by decide +kernel
theorem dX3_mostLeftBy_54 : decode cX3_mostLeftBy 54 = .ok (.ifCond .lt 33, 3) := by decide +kernel
theorem dX3_mostLeftBy_57 : decode cX3_mostLeftBy 57 = .ok (.iload 5, 2) := by decide +kernel
theorem dX3_mostLeftBy_59 : decode cX3_mostLeftBy 59 = .ok (.bipush 6, 2) := by decide +kernel
theorem dX3_mostLeftBy_61 : decode cX3_mostLeftBy 61 = .ok (.if_icmp .gt 26, 3) := by decide +kernel
theorem dX3_mostLeftBy_64 : decode cX3_mostLeftBy 64 = .ok (.aload_n 0, 1) := by decide +kernel
theorem dX3_mostLeftBy_65 : decode cX3_mostLeftBy 65 = .ok (.getfield 31, 3) := by decide +kernel
theorem dX3_mostLeftBy_68 : decode cX3_mostLeftBy 68 = .ok (.iload 5, 2) := by decide +kernel
theorem dX3_mostLeftBy_70 : decode cX3_mostLeftBy 70 = .ok (.dup2, 1) := by decide +kernel
theorem dX3_mostLeftBy_71 : decode cX3_mostLeftBy 71 = .ok (.iaload, 1) := by decide +kernel
theorem dX3_mostLeftBy_72 : decode cX3_mostLeftBy 72 = .ok (.iconst 1, 1) := by decide +kernel
theorem dX3_mostLeftBy_73 : decode cX3_mostLeftBy 73 = .ok (.iadd, 1) := by decide +kernel
theorem dX3_mostLeftBy_74 : decode cX3_mostLeftBy 74 = .ok (.iastore, 1) := by decide +kernel
theorem dX3_mostLeftBy_75 : decode cX3_mostLeftBy 75 = .ok (.iload_n 3, 1) := by decide +kernel
theorem dX3_mostLeftBy_76 : decode cX3_mostLeftBy 76 = .ok (.aload_n 0, 1) := by decide +kernel
theorem dX3_mostLeftBy_77 : decode cX3_mostLeftBy 77 = .ok (.getfield 31, 3) := by decide +kernel
theorem dX3_mostLeftBy_80 : decode cX3_mostLeftBy 80 = .ok (.iload 5, 2) := by decide +kernel
theorem dX3_mostLeftBy_82 : decode cX3_mostLeftBy 82 = .ok (.iaload, 1) := by decide +kernel
theorem dX3_mostLeftBy_83 : decode cX3_mostLeftBy 83 = .ok (.invokestatic 61, 3) := by decide +kernel
theorem dX3_mostLeftBy_86 : decode cX3_mostLeftBy 86 = .ok (.istore_n 3, 1) := by decide +kernel
theorem dX3_mostLeftBy_87 : decode cX3_mostLeftBy 87 = .ok (.iinc 4 1, 3) := by decide +kernel
theorem dX3_mostLeftBy_90 : decode cX3_mostLeftBy 90 = .ok (.goto (-64), 3) := by decide +kernel
theorem dX3_mostLeftBy_93 : decode cX3_mostLeftBy 93 = .ok (.iload_n 3, 1) := by decide +kernel
theorem dX3_mostLeftBy_94 : decode cX3_mostLeftBy 94 = .ok (.ireturn, 1) := by decide +kernel
theorem dX3_isFitting_0 : decode cX3_isFitting 0 = .ok (.aload_n 0, 1) := by decide +kernel
theorem dX3_isFitting_1 : decode cX3_isFitting 1 = .ok (.getfield 41, 3) := by decide +kernel
theorem dX3_isFitting_4 : decode cX3_isFitting 4 = .ok (.getfield 49, 3) := by decide +kernel
theorem dX3_isFitting_7 : decode cX3_isFitting 7 = .ok (.iconst 1, 1) := by decide +kernel
theorem dX3_isFitting_8 : decode cX3_isFitting 8 = .ok (.if_icmp .ge 5, 3) := by decide +kernel
theorem dX3_isFitting_11 : decode cX3_isFitting 11 = .ok (.iconst 0, 1) := by decide +kernel
theorem dX3_isFitting_12 : decode cX3_isFitting 12 = .ok (.ireturn, 1) := by decide +kernel
theorem dX3_isFitting_13 : decode cX3_isFitting 13 = .ok (.iconst 0, 1) := by decide +kernel
theorem dX3_isFitting_14 : decode cX3_isFitting 14 = .ok (.istore_n 3, 1) := by decide +kernel
theorem dX3_isFitting_15 : decode cX3_isFitting 15 = .ok (.iload_n 3, 1) := by decide +kernel
theorem dX3_isFitting_16 : decode cX3_isFitting 16 = .ok (.aload_n 0, 1) := by decide +kernel
theorem dX3_isFitting_17 : decode cX3_isFitting 17 = .ok (.getfield 34, 3) := by decide +kernel
theorem dX3_isFitting_20 : decode cX3_isFitting 20 = .ok (.if_icmp .ge 92, 3) := by decide +kernel
theorem dX3_isFitting_23 : decode cX3_isFitting 23 = .ok (.iload_n 3, 1) := by decide +kernel
theorem dX3_isFitting_24 : decode cX3_isFitting 24 = .ok (.bipush 30, 2) := by decide +kernel
theorem dX3_isFitting_26 : decode cX3_isFitting 26 = .ok (.if_icmp .ge 86, 3) := by decide +kernel
theorem dX3_isFitting_29 : decode cX3_isFitting 29 = .ok (.aload_n 0, 1) := by decide +kernel
theorem dX3_isFitting_30 : decode cX3_isFitting 30 = .ok (.getfield 22, 3) := by decide +kernel
theorem dX3_isFitting_33 : decode cX3_isFitting 33 = .ok (.iload_n 3, 1) := by decide +kernel
theorem dX3_isFitting_34 : decode cX3_isFitting 34 = .ok (.iaload, 1) := by decide +kernel
theorem dX3_isFitting_35 : decode cX3_isFitting 35 = .ok (.iload_n 2, 1) := by decide +kernel
theorem dX3_isFitting_36 : decode cX3_isFitting 36 = .ok (.if_icmp .gt 26, 3) := by decide +kernel
theorem dX3_isFitting_39 : decode cX3_isFitting 39 = .ok (.aload_n 0, 1) := by decide +kernel
theorem dX3_isFitting_40 : decode cX3_isFitting 40 = .ok (.getfield 28, 3) := by decide +kernel
theorem dX3_isFitting_43 : decode cX3_isFitting 43 = .ok (.iload_n 3, 1) := by decide +kernel
theorem dX3_isFitting_44 : decode cX3_isFitting 44 = .ok (.baload, 1) := by decide +kernel
theorem dX3_isFitting_45 : decode cX3_isFitting 45 = .ok (.ifCond .eq 13, 3) := by decide +kernel
theorem dX3_isFitting_48 : decode cX3_isFitting 48 = .ok (.aload_n 0, 1) := by decide +kernel
theorem dX3_isFitting_49 : decode cX3_isFitting 49 = .ok (.getfield 25, 3) := by decide +kernel
theorem dX3_isFitting_52 : decode cX3_isFitting 52 = .ok (.iload_n 3, 1) := by decide +kernel
theorem dX3_isFitting_53 : decode cX3_isFitting 53 = .ok (.iaload, 1) := by decide +kernel
theorem dX3_isFitting_54 : decode cX3_isFitting 54 = .ok (.iload_n 2, 1) := by decide +kernel
theorem dX3_isFitting_55 : decode cX3_isFitting 55 = .ok (.if_icmp .le 7, 3) := by decide +kernel
theorem dX3_isFitting_58 : decode cX3_isFitting 58 = .ok (.iconst 1, 1) := by decide +kernel
theorem dX3_isFitting_59 : decode cX3_isFitting 59 = .ok (.goto 4, 3) := by decide +kernel
theorem dX3_isFitting_62 : decode cX3_isFitting 62 = .ok (.iconst 0, 1) := by decide +kernel
theorem dX3_isFitting_63 : decode cX3_isFitting 63 = .ok (.istore 4, 2) := by decide +kernel
theorem dX3_isFitting_65 : decode cX3_isFitting 65 = .ok (.iload 4, 2) := by decide +kernel
theorem dX3_isFitting_67 : decode cX3_isFitting 67 = .ok (.ifCond .eq 39, 3) := by decide +kernel
theorem dX3_isFitting_70 : decode cX3_isFitting 70 = .ok (.aload_n 0, 1) := by decide +kernel
theorem dX3_isFitting_71 : decode cX3_isFitting 71 = .ok (.aload_n 0, 1) := by decide +kernel
theorem dX3_isFitting_72 : decode cX3_isFitting 72 = .ok (.getfield 9, 3) := by decide +kernel
theorem dX3_isFitting_75 : decode cX3_isFitting 75 = .ok (.iload_n 3, 1) := by decide +kernel
theorem dX3_isFitting_76 : decode cX3_isFitting 76 = .ok (.iaload, 1) := by decide +kernel
theorem dX3_isFitting_77 : decode cX3_isFitting 77 = .ok (.iload_n 1, 1) := by decide +kernel
theorem dX3_isFitting_78 : decode cX3_isFitting 78 = .ok (.invokevirtual 58, 3) := by decide +kernel
theorem dX3_isFitting_81 : decode cX3_isFitting 81 = .ok (.aload_n 0, 1) := by decide +kernel
theorem dX3_isFitting_82 : decode cX3_isFitting 82 = .ok (.getfield 15, 3) := by decide +kernel
theorem dX3_isFitting_85 : decode cX3_isFitting 85 = .ok (.iload_n 3, 1) := by decide +kernel
theorem dX3_isFitting_86 : decode cX3_isFitting 86 = .ok (.iaload, 1) := by decide +kernel
theorem dX3_isFitting_87 : decode cX3_isFitting 87 = .ok (.if_icmp .lt 7, 3) := by decide +kernel
theorem dX3_isFitting_90 : decode cX3_isFitting 90 = .ok (.iconst 1, 1) := by decide +kernel
theorem dX3_isFitting_91 : decode cX3_isFitting 91 = .ok (.goto 4, 3) := by decide +kernel
theorem dX3_isFitting_94 : decode cX3_isFitting 94 = .ok (.iconst 0, 1) := by decide +kernel
theorem dX3_isFitting_95 : decode cX3_isFitting 95 = .ok (.aload_n 0, 1) := by decide +kernel
theorem dX3_isFitting_96 : decode cX3_isFitting 96 = .ok (.getfield 18, 3) := by decide +kernel
theorem dX3_isFitting_99 : decode cX3_isFitting 99 = .ok (.iload_n 3, 1) := by decide +kernel
theorem dX3_isFitting_100 : decode cX3_isFitting 100 = .ok (.baload, 1) := by decide +kernel
theorem dX3_isFitting_101 : decode cX3_isFitting 101 = .ok (.if_icmp .eq 5, 3) := by decide +kernel
theorem dX3_isFitting_104 : decode cX3_isFitting 104 = .ok (.iconst 0, 1) := by decide +kernel
theorem dX3_isFitting_105 : decode cX3_isFitting 105 = .ok (.ireturn, 1) := by decide +kernel
theorem dX3_isFitting_106 : decode cX3_isFitting 106 = .ok (.iinc 3 1, 3) := by decide +kernel
theorem dX3_isFitting_109 : decode cX3_isFitting 109 = .ok (.goto (-94), 3) := by decide +kernel
theorem dX3_isFitting_112 : decode cX3_isFitting 112 = .ok (.iconst 1, 1) := by decide +kernel
theorem dX3_isFitting_113 : decode cX3_isFitting 113 = .ok (.ireturn, 1) := by decide +kernel
theorem dX3_sharedWith_0 : decode cX3_sharedWith 0 = .ok (.iload_n 1, 1) := by decide +kernel
theorem dX3_sharedWith_1 : decode cX3_sharedWith 1 = .ok (.ifCond .lt 29, 3) := by decide +kernel
theorem dX3_sharedWith_4 : decode cX3_sharedWith 4 = .ok (.iload_n 1, 1) := by decide +kernel
theorem dX3_sharedWith_5 : decode cX3_sharedWith 5 = .ok (.bipush 6, 2) := by decide +kernel
theorem dX3_sharedWith_7 : decode cX3_sharedWith 7 = .ok (.if_icmp .ge 23, 3) := by decide +kernel
theorem dX3_sharedWith_10 : decode cX3_sharedWith 10 = .ok (.bipush 6, 2) := by decide +kernel
theorem dX3_sharedWith_12 : decode cX3_sharedWith 12 = .ok (.aload_n 0, 1) := by decide +kernel
theorem dX3_sharedWith_13 : decode cX3_sharedWith 13 = .ok (.getfield 41, 3) := by decide +kernel
theorem dX3_sharedWith_16 : decode cX3_sharedWith 16 = .ok (.getfield 66, 3) := by decide +kernel
theorem dX3_sharedWith_19 : decode cX3_sharedWith 19 = .ok (.iload_n 1, 1) := by decide +kernel
theorem dX3_sharedWith_20 : decode cX3_sharedWith 20 = .ok (.iaload, 1) := by decide +kernel
theorem dX3_sharedWith_21 : decode cX3_sharedWith 21 = .ok (.iload_n 2, 1) := by decide +kernel
theorem dX3_sharedWith_22 : decode cX3_sharedWith 22 = .ok (.ixor, 1) := by decide +kernel
theorem dX3_sharedWith_23 : decode cX3_sharedWith 23 = .ok (.invokestatic 69, 3) := by decide +kernel
theorem dX3_sharedWith_26 : decode cX3_sharedWith 26 = .ok (.isub, 1) := by decide +kernel
theorem dX3_sharedWith_27 : decode cX3_sharedWith 27 = .ok (.goto 4, 3) := by decide +kernel
theorem dX3_sharedWith_30 : decode cX3_sharedWith 30 = .ok (.iconst (-1), 1) := by decide +kernel
theorem dX3_sharedWith_31 : decode cX3_sharedWith 31 = .ok (.ireturn, 1) := by decide +kernel
theorem dX4_init_0 : decode cX4_init 0 = .ok (.aload_n 0, 1) := by decide +kernel
theorem dX4_init_1 : decode cX4_init 1 = .ok (.invokespecial 3, 3) := by decide +kernel
theorem dX4_init_4 : decode cX4_init 4 = .ok (.aload_n 0, 1) := by decide +kernel
theorem dX4_init_5 : decode cX4_init 5 = .ok (.iconst 4, 1) := by decide +kernel
theorem dX4_init_6 : decode cX4_init 6 = .ok (.newarray .int, 2) := by decide +kernel
theorem dX4_init_8 : decode cX4_init 8 = .ok (.putfield 9, 3) := by decide +kernel
theorem dX4_init_11 : decode cX4_init 11 = .ok (.aload_n 0, 1) := by decide +kernel
theorem dX4_init_12 : decode cX4_init 12 = .ok (.bipush 6, 2) := by decide +kernel
theorem dX4_init_14 : decode cX4_init 14 = .ok (.newarray .int, 2) := by decide +kernel
theorem dX4_init_16 : decode cX4_init 16 = .ok (.putfield 15, 3) := by decide +kernel
theorem dX4_init_19 : decode cX4_init 19 = .ok (.aload_n 0, 1) := by decide +kernel
theorem dX4_init_20 : decode cX4_init 20 = .ok (.bipush 6, 2) := by decide +kernel
theorem dX4_init_22 : decode cX4_init 22 = .ok (.newarray .int, 2) := by decide +kernel
theorem dX4_init_24 : decode cX4_init 24 = .ok (.putfield 18, 3) := by decide +kernel
theorem dX4_init_27 : decode cX4_init 27 = .ok (.aload_n 0, 1) := by decide +kernel
theorem dX4_init_28 : decode cX4_init 28 = .ok (.bipush 6, 2) := by decide +kernel
theorem dX4_init_30 : decode cX4_init 30 = .ok (.newarray .int, 2) := by decide +kernel
theorem dX4_init_32 : decode cX4_init 32 = .ok (.putfield 21, 3) := by decide +kernel
theorem dX4_init_35 : decode cX4_init 35 = .ok (.aload_n 0, 1) := by decide +kernel
theorem dX4_init_36 : decode cX4_init 36 = .ok (.bipush 6, 2) := by decide +kernel
theorem dX4_init_38 : decode cX4_init 38 = .ok (.newarray .int, 2) := by decide +kernel
theorem dX4_init_40 : decode cX4_init 40 = .ok (.putfield 24, 3) := by decide +kernel
theorem dX4_init_43 : decode cX4_init 43 = .ok (.aload_n 0, 1) := by decide +kernel
theorem dX4_init_44 : decode cX4_init 44 = .ok (.new 27, 3) := by decide +kernel
theorem dX4_init_47 : decode cX4_init 47 = .ok (.dup, 1) := by decide +kernel
theorem dX4_init_48 : decode cX4_init 48 = .ok (.invokespecial 29, 3) := by decide +kernel
theorem dX4_init_51 : decode cX4_init 51 = .ok (.putfield 30, 3) := by decide +kernel
theorem dX4_init_54 : decode cX4_init 54 = .ok (.aload_n 0, 1) := by decide +kernel
theorem dX4_init_55 : decode cX4_init 55 = .ok (.iconst 0, 1) := by decide +kernel
theorem dX4_init_56 : decode cX4_init 56 = .ok (.putfield 34, 3) := by decide +kernel
theorem dX4_init_59 : decode cX4_init 59 = .ok (.aload_n 0, 1) := by decide +kernel
theorem dX4_init_60 : decode cX4_init 60 = .ok (.iconst 0, 1) := by decide +kernel
theorem dX4_init_61 : decode cX4_init 61 = .ok (.putfield 38, 3) := by decide +kernel
theorem dX4_init_64 : decode cX4_init 64 = .ok (.aload_n 0, 1) := by decide +kernel
theorem dX4_init_65 : decode cX4_init 65 = .ok (.iconst 3, 1) := by decide +kernel
theorem dX4_init_66 : decode cX4_init 66 = .ok (.putfield 41, 3) := by decide +kernel
theorem dX4_init_69 : decode cX4_init 69 = .ok (.aload_n 0, 1) := by decide +kernel
theorem dX4_init_70 : decode cX4_init 70 = .ok (.iconst 0, 1) := by decide +kernel
theorem dX4_init_71 : decode cX4_init 71 = .ok (.putfield 44, 3) := by decide +kernel
theorem dX4_init_74 : decode cX4_init 74 = .ok (.aload_n 0, 1) := by decide +kernel
theorem dX4_init_75 : decode cX4_init 75 = .ok (.iconst 0, 1) := by decide +kernel
theorem dX4_init_76 : decode cX4_init 76 = .ok (.putfield 47, 3) := by decide +kernel
theorem dX4_init_79 : decode cX4_init 79 = .ok (.aload_n 0, 1) := by decide +kernel
theorem dX4_init_80 : decode cX4_init 80 = .ok (.getfield 30, 3) := by decide +kernel
theorem dX4_init_83 : decode cX4_init 83 = .ok (.invokevirtual 50, 3) := by decide +kernel
theorem dX4_init_86 : decode cX4_init 86 = .ok (.return_, 1) := by decide +kernel
theorem dX4_clear_0 : decode cX4_clear 0 = .ok (.aload_n 0, 1) := by decide +kernel
theorem dX4_clear_1 : decode cX4_clear 1 = .ok (.iconst 0, 1) := by decide +kernel
theorem dX4_clear_2 : decode cX4_clear 2 = .ok (.putfield 34, 3) := by decide +kernel
theorem dX4_clear_5 : decode cX4_clear 5 = .ok (.aload_n 0, 1) := by decide +kernel
theorem dX4_clear_6 : decode cX4_clear 6 = .ok (.iconst 0, 1) := by decide +kernel
theorem dX4_clear_7 : decode cX4_clear 7 = .ok (.putfield 38, 3) := by decide +kernel
theorem dX4_clear_10 : decode cX4_clear 10 = .ok (.aload_n 0, 1) := by decide +kernel
theorem dX4_clear_11 : decode cX4_clear 11 = .ok (.iconst 3, 1) := by decide +kernel
theorem dX4_clear_12 : decode cX4_clear 12 = .ok (.putfield 41, 3) := by decide +kernel
theorem dX4_clear_15 : decode cX4_clear 15 = .ok (.aload_n 0, 1) := by decide +kernel
theorem dX4_clear_16 : decode cX4_clear 16 = .ok (.iconst 0, 1) := by decide +kernel
theorem dX4_clear_17 : decode cX4_clear 17 = .ok (.putfield 44, 3) := by decide +kernel
theorem dX4_clear_20 : decode cX4_clear 20 = .ok (.aload_n 0, 1) := by decide +kernel
theorem dX4_clear_21 : decode cX4_clear 21 = .ok (.iconst 0, 1) := by decide +kernel
theorem dX4_clear_22 : decode cX4_clear 22 = .ok (.putfield 47, 3) := by decide +kernel
theorem dX4_clear_25 : decode cX4_clear 25 = .ok (.aload_n 0, 1) := by decide +kernel
theorem dX4_clear_26 : decode cX4_clear 26 = .ok (.getfield 30, 3) := by decide +kernel
theorem dX4_clear_29 : decode cX4_clear 29 = .ok (.invokevirtual 50, 3) := by decide +kernel
theorem dX4_clear_32 : decode cX4_clear 32 = .ok (.return_, 1) := by decide +kernel
theorem dX4_copyFrom_0 : decode cX4_copyFrom 0 = .ok (.aload_n 1, 1) := by decide +kernel
theorem dX4_copyFrom_1 : decode cX4_copyFrom 1 = .ok (.getfield 9, 3) := by decide +kernel
theorem dX4_copyFrom_4 : decode cX4_copyFrom 4 = .ok (.iconst 0, 1) := by decide +kernel
theorem dX4_copyFrom_5 : decode cX4_copyFrom 5 = .ok (.aload_n 0, 1) := by decide +kernel
theorem dX4_copyFrom_6 : decode cX4_copyFrom 6 = .ok (.getfield 9, 3) := by decide +kernel
theorem dX4_copyFrom_9 : decode cX4_copyFrom 9 = .ok (.iconst 0, 1) := by decide +kernel
theorem dX4_copyFrom_10 : decode cX4_copyFrom 10 = .ok (.iconst 4, 1) := by decide +kernel
theorem dX4_copyFrom_11 : decode cX4_copyFrom 11 = .ok (.invokestatic 53, 3) := by decide +kernel
theorem dX4_copyFrom_14 : decode cX4_copyFrom 14 = .ok (.aload_n 1, 1) := by decide +kernel
theorem dX4_copyFrom_15 : decode cX4_copyFrom 15 = .ok (.getfield 15, 3) := by decide +kernel
theorem dX4_copyFrom_18 : decode cX4_copyFrom 18 = .ok (.iconst 0, 1) := by decide +kernel
theorem dX4_copyFrom_19 : decode cX4_copyFrom 19 = .ok (.aload_n 0, 1) := by decide +kernel
theorem dX4_copyFrom_20 : decode cX4_copyFrom 20 = .ok (.getfield 15, 3) := by decide +kernel
theorem dX4_copyFrom_23 : decode cX4_copyFrom 23 = .ok (.iconst 0, 1) := by decide +kernel
theorem dX4_copyFrom_24 : decode cX4_copyFrom 24 = .ok (.bipush 6, 2) := by decide +kernel
theorem dX4_copyFrom_26 : decode cX4_copyFrom 26 = .ok (.invokestatic 53, 3) := by decide +kernel
theorem dX4_copyFrom_29 : decode cX4_copyFrom 29 = .ok (.aload_n 1, 1) := by decide +kernel
theorem dX4_copyFrom_30 : decode cX4_copyFrom 30 = .ok (.getfield 18, 3) := by decide +kernel
theorem dX4_copyFrom_33 : decode cX4_copyFrom 33 = .ok (.iconst 0, 1) := by decide +kernel
theorem dX4_copyFrom_34 : decode cX4_copyFrom 34 = .ok (.aload_n 0, 1) := by decide +kernel
theorem dX4_copyFrom_35 : decode cX4_copyFrom 35 = .ok (.getfield 18, 3) := by decide +kernel
theorem dX4_copyFrom_38 : decode cX4_copyFrom 38 = .ok (.iconst 0, 1) := by decide +kernel
theorem dX4_copyFrom_39 : decode cX4_copyFrom 39 = .ok (.bipush 6, 2) := by decide +kernel
theorem dX4_copyFrom_41 : decode cX4_copyFrom 41 = .ok (.invokestatic 53, 3) := by decide +kernel
theorem dX4_copyFrom_44 : decode cX4_copyFrom 44 = .ok (.aload_n 1, 1) := by decide +kernel
theorem dX4_copyFrom_45 : decode cX4_copyFrom 45 = .ok (.getfield 21, 3) := by decide +kernel
theorem dX4_copyFrom_48 : decode cX4_copyFrom 48 = .ok (.iconst 0, 1) := by decide +kernel
theorem dX4_copyFrom_49 : decode cX4_copyFrom 49 = .ok (.aload_n 0, 1) := by decide +kernel
theorem dX4_copyFrom_50 : decode cX4_copyFrom 50 = .ok (.getfield 21, 3) := by decide +kernel
theorem dX4_copyFrom_53 : decode cX4_copyFrom 53 = .ok (.iconst 0, 1) := by decide +kernel
theorem dX4_copyFrom_54 : decode cX4_copyFrom 54 = .ok (.bipush 6, 2) := by decide +kernel
theorem dX4_copyFrom_56 : decode cX4_copyFrom 56 = .ok (.invokestatic 53, 3) := by decide +kernel
theorem dX4_copyFrom_59 : decode cX4_copyFrom 59 = .ok (.aload_n 1, 1) := by decide +kernel
theorem dX4_copyFrom_60 : decode cX4_copyFrom 60 = .ok (.getfield 24, 3) := by decide +kernel
theorem dX4_copyFrom_63 : decode cX4_copyFrom 63 = .ok (.iconst 0, 1) := by decide +kernel
theorem dX4_copyFrom_64 : decode cX4_copyFrom 64 = .ok (.aload_n 0, 1) := by decide +kernel
theorem dX4_copyFrom_65 : decode cX4_copyFrom 65 = .ok (.getfield 24, 3) := by decide +kernel
theorem dX4_copyFrom_68 : decode cX4_copyFrom 68 = .ok (.iconst 0, 1) := by decide +kernel
theorem dX4_copyFrom_69 : decode cX4_copyFrom 69 = .ok (.bipush 6, 2) := by decide +kernel
theorem dX4_copyFrom_71 : decode cX4_copyFrom 71 = .ok (.invokestatic 53, 3) := by decide +kernel
theorem dX4_copyFrom_74 : decode cX4_copyFrom 74 = .ok (.aload_n 0, 1) := by decide +kernel
theorem dX4_copyFrom_75 : decode cX4_copyFrom 75 = .ok (.getfield 30, 3) := by decide +kernel
theorem dX4_copyFrom_78 : decode cX4_copyFrom 78 = .ok (.aload_n 1, 1) := by decide +kernel
theorem dX4_copyFrom_79 : decode cX4_copyFrom 79 = .ok (.getfield 30, 3) := by decide +kernel
theorem dX4_copyFrom_82 : decode cX4_copyFrom 82 = .ok (.invokevirtual 59, 3) := by decide +kernel
theorem dX4_copyFrom_85 : decode cX4_copyFrom 85 = .ok (.aload_n 0, 1) := by decide +kernel
theorem dX4_copyFrom_86 : decode cX4_copyFrom 86 = .ok (.aload_n 1, 1) := by decide +kernel
theorem dX4_copyFrom_87 : decode cX4_copyFrom 87 = .ok (.getfield 34, 3) := by decide +kernel
theorem dX4_copyFrom_90 : decode cX4_copyFrom 90 = .ok (.putfield 34, 3) := by decide +kernel
theorem dX4_copyFrom_93 : decode cX4_copyFrom 93 = .ok (.aload_n 0, 1) := by decide +kernel
theorem dX4_copyFrom_94 : decode cX4_copyFrom 94 = .ok (.aload_n 1, 1) := by decide +kernel
theorem dX4_copyFrom_95 : decode cX4_copyFrom 95 = .ok (.getfield 38, 3) := by decide +kernel
theorem dX4_copyFrom_98 : decode cX4_copyFrom 98 = .ok (.putfield 38, 3) := by decide +kernel
theorem dX4_copyFrom_101 : decode cX4_copyFrom 101 = .ok (.aload_n 0, 1) := by decide +kernel
theorem dX4_copyFrom_102 : decode cX4_copyFrom 102 = .ok (.aload_n 1, 1) := by decide +kernel
theorem dX4_copyFrom_103 : decode cX4_copyFrom 103 = .ok (.getfield 41, 3) := by decide +kernel
theorem dX4_copyFrom_106 : decode cX4_copyFrom 106 = .ok (.putfield 41, 3) := by decide +kernel
theorem dX4_copyFrom_109 : decode cX4_copyFrom 109 = .ok (.aload_n 0, 1) := by decide +kernel
theorem dX4_copyFrom_110 : decode cX4_copyFrom 110 = .ok (.aload_n 1, 1) := by decide +kernel
theorem dX4_copyFrom_111 : decode cX4_copyFrom 111 = .ok (.getfield 44, 3) := by decide +kernel
theorem dX4_copyFrom_114 : decode cX4_copyFrom 114 = .ok (.putfield 44, 3) := by decide +kernel
theorem dX4_copyFrom_117 : decode cX4_copyFrom 117 = .ok (.aload_n 0, 1) := by decide +kernel
theorem dX4_copyFrom_118 : decode cX4_copyFrom 118 = .ok (.aload_n 1, 1) := by decide +kernel
theorem dX4_copyFrom_119 : decode cX4_copyFrom 119 = .ok (.getfield 47, 3) := by decide +kernel
theorem dX4_copyFrom_122 : decode cX4_copyFrom 122 = .ok (.putfield 47, 3) := by decide +kernel
theorem dX4_copyFrom_125 : decode cX4_copyFrom 125 = .ok (.return_, 1) := by decide +kernel
theorem dX4_hasRoom_0 : decode cX4_hasRoom 0 = .ok (.iload_n 1, 1) := by decide +kernel
theorem dX4_hasRoom_1 : decode cX4_hasRoom 1 = .ok (.ifCond .lt 20, 3) := by decide +kernel
theorem dX4_hasRoom_4 : decode cX4_hasRoom 4 = .ok (.iload_n 1, 1) := by decide +kernel
theorem dX4_hasRoom_5 : decode cX4_hasRoom 5 = .ok (.aload_n 0, 1) := by decide +kernel
theorem dX4_hasRoom_6 : decode cX4_hasRoom 6 = .ok (.getfield 34, 3) := by decide +kernel
theorem dX4_hasRoom_9 : decode cX4_hasRoom 9 = .ok (.if_icmp .ge 12, 3) := by decide +kernel
theorem dX4_hasRoom_12 : decode cX4_hasRoom 12 = .ok (.iload_n 1, 1) := by decide +kernel
theorem dX4_hasRoom_13 : decode cX4_hasRoom 13 = .ok (.iconst 4, 1) := by decide +kernel
theorem dX4_hasRoom_14 : decode cX4_hasRoom 14 = .ok (.if_icmp .ge 7, 3) := by decide +kernel
theorem dX4_hasRoom_17 : decode cX4_hasRoom 17 = .ok (.iconst 1, 1) := by decide +kernel
theorem dX4_hasRoom_18 : decode cX4_hasRoom 18 = .ok (.goto 4, 3) := by decide +kernel
theorem dX4_hasRoom_21 : decode cX4_hasRoom 21 = .ok (.iconst 0, 1) := by decide +kernel
theorem dX4_hasRoom_22 : decode cX4_hasRoom 22 = .ok (.ireturn, 1) := by decide +kernel
theorem dX4_leftIn_0 : decode cX4_leftIn 0 = .ok (.aload_n 0, 1) := by decide +kernel
theorem dX4_leftIn_1 : decode cX4_leftIn 1 = .ok (.iload_n 1, 1) := by decide +kernel
theorem dX4_leftIn_2 : decode cX4_leftIn 2 = .ok (.invokevirtual 63, 3) := by decide +kernel
theorem dX4_leftIn_5 : decode cX4_leftIn 5 = .ok (.ifCond .eq 12, 3) := by decide +kernel
theorem dX4_leftIn_8 : decode cX4_leftIn 8 = .ok (.aload_n 0, 1) := by decide +kernel
theorem dX4_leftIn_9 : decode cX4_leftIn 9 = .ok (.getfield 9, 3) := by decide +kernel
theorem dX4_leftIn_12 : decode cX4_leftIn 12 = .ok (.iload_n 1, 1) := by decide +kernel
theorem dX4_leftIn_13 : decode cX4_leftIn 13 = .ok (.iaload, 1) := by decide +kernel
theorem dX4_leftIn_14 : decode cX4_leftIn 14 = .ok (.goto 4, 3) := by decide +kernel
theorem dX4_leftIn_17 : decode cX4_leftIn 17 = .ok (.iconst 0, 1) := by decide +kernel
theorem dX4_leftIn_18 : decode cX4_leftIn 18 = .ok (.istore_n 2, 1) := by decide +kernel
theorem dX4_leftIn_19 : decode cX4_leftIn 19 = .ok (.iconst 0, 1) := by decide +kernel
theorem dX4_leftIn_20 : decode cX4_leftIn 20 = .ok (.istore_n 3, 1) := by decide +kernel
theorem dX4_leftIn_21 : decode cX4_leftIn 21 = .ok (.iload_n 3, 1) := by decide +kernel
theorem dX4_leftIn_22 : decode cX4_leftIn 22 = .ok (.aload_n 0, 1) := by decide +kernel
theorem dX4_leftIn_23 : decode cX4_leftIn 23 = .ok (.getfield 38, 3) := by decide +kernel
theorem dX4_leftIn_26 : decode cX4_leftIn 26 = .ok (.if_icmp .ge 34, 3) := by decide +kernel
theorem dX4_leftIn_29 : decode cX4_leftIn 29 = .ok (.iload_n 3, 1) := by decide +kernel
theorem dX4_leftIn_30 : decode cX4_leftIn 30 = .ok (.bipush 6, 2) := by decide +kernel
theorem dX4_leftIn_32 : decode cX4_leftIn 32 = .ok (.if_icmp .ge 28, 3) := by decide +kernel
theorem dX4_leftIn_35 : decode cX4_leftIn 35 = .ok (.aload_n 0, 1) := by decide +kernel
theorem dX4_leftIn_36 : decode cX4_leftIn 36 = .ok (.getfield 18, 3) := by decide +kernel
theorem dX4_leftIn_39 : decode cX4_leftIn 39 = .ok (.iload_n 3, 1) := by decide +kernel
theorem dX4_leftIn_40 : decode cX4_leftIn 40 = .ok (.iaload, 1) := by decide +kernel
theorem dX4_leftIn_41 : decode cX4_leftIn 41 = .ok (.iload_n 1, 1) := by decide +kernel
theorem dX4_leftIn_42 : decode cX4_leftIn 42 = .ok (.if_icmp .ne 12, 3) := by decide +kernel
theorem dX4_leftIn_45 : decode cX4_leftIn 45 = .ok (.iload_n 2, 1) := by decide +kernel
theorem dX4_leftIn_46 : decode cX4_leftIn 46 = .ok (.aload_n 0, 1) := by decide +kernel
theorem dX4_leftIn_47 : decode cX4_leftIn 47 = .ok (.getfield 15, 3) := by decide +kernel
theorem dX4_leftIn_50 : decode cX4_leftIn 50 = .ok (.iload_n 3, 1) := by decide +kernel
theorem dX4_leftIn_51 : decode cX4_leftIn 51 = .ok (.iaload, 1) := by decide +kernel
theorem dX4_leftIn_52 : decode cX4_leftIn 52 = .ok (.isub, 1) := by decide +kernel
theorem dX4_leftIn_53 : decode cX4_leftIn 53 = .ok (.istore_n 2, 1) := by decide +kernel
theorem dX4_leftIn_54 : decode cX4_leftIn 54 = .ok (.iinc 3 1, 3) := by decide +kernel
theorem dX4_leftIn_57 : decode cX4_leftIn 57 = .ok (.goto (-36), 3) := by decide +kernel
theorem dX4_leftIn_60 : decode cX4_leftIn 60 = .ok (.iload_n 2, 1) := by decide +kernel
theorem dX4_leftIn_61 : decode cX4_leftIn 61 = .ok (.ireturn, 1) := by decide +kernel
theorem dX5_init_0 : decode cX5_init 0 = .ok (.aload_n 0, 1) := by decide +kernel
theorem dX5_init_1 : decode cX5_init 1 = .ok (.invokespecial 3, 3) := by decide +kernel
theorem dX5_init_4 : decode cX5_init 4 = .ok (.aload_n 0, 1) := by decide +kernel
theorem dX5_init_5 : decode cX5_init 5 = .ok (.iconst 4, 1) := by decide +kernel
theorem dX5_init_6 : decode cX5_init 6 = .ok (.newarray .long, 2) := by decide +kernel
theorem dX5_init_8 : decode cX5_init 8 = .ok (.putfield 9, 3) := by decide +kernel
theorem dX5_init_11 : decode cX5_init 11 = .ok (.aload_n 0, 1) := by decide +kernel
theorem dX5_init_12 : decode cX5_init 12 = .ok (.bipush 6, 2) := by decide +kernel
theorem dX5_init_14 : decode cX5_init 14 = .ok (.newarray .long, 2) := by decide +kernel
theorem dX5_init_16 : decode cX5_init 16 = .ok (.putfield 15, 3) := by decide +kernel
theorem dX5_init_19 : decode cX5_init 19 = .ok (.aload_n 0, 1) := by decide +kernel
theorem dX5_init_20 : decode cX5_init 20 = .ok (.iconst 0, 1) := by decide +kernel
theorem dX5_init_21 : decode cX5_init 21 = .ok (.putfield 18, 3) := by decide +kernel
theorem dX5_init_24 : decode cX5_init 24 = .ok (.aload_n 0, 1) := by decide +kernel
theorem dX5_init_25 : decode cX5_init 25 = .ok (.iconst 0, 1) := by decide +kernel
theorem dX5_init_26 : decode cX5_init 26 = .ok (.putfield 22, 3) := by decide +kernel
theorem dX5_init_29 : decode cX5_init 29 = .ok (.aload_n 0, 1) := by decide +kernel
theorem dX5_init_30 : decode cX5_init 30 = .ok (.new 25, 3) := by decide +kernel
theorem dX5_init_33 : decode cX5_init 33 = .ok (.dup, 1) := by decide +kernel
theorem dX5_init_34 : decode cX5_init 34 = .ok (.invokespecial 27, 3) := by decide +kernel
theorem dX5_init_37 : decode cX5_init 37 = .ok (.putfield 28, 3) := by decide +kernel
theorem dX5_init_40 : decode cX5_init 40 = .ok (.aload_n 0, 1) := by decide +kernel
theorem dX5_init_41 : decode cX5_init 41 = .ok (.iconst 0, 1) := by decide +kernel
theorem dX5_init_42 : decode cX5_init 42 = .ok (.putfield 32, 3) := by decide +kernel
theorem dX5_init_45 : decode cX5_init 45 = .ok (.aload_n 0, 1) := by decide +kernel
theorem dX5_init_46 : decode cX5_init 46 = .ok (.iconst (-1), 1) := by decide +kernel
theorem dX5_init_47 : decode cX5_init 47 = .ok (.putfield 35, 3) := by decide +kernel
theorem dX5_init_50 : decode cX5_init 50 = .ok (.aload_n 0, 1) := by decide +kernel
theorem dX5_init_51 : decode cX5_init 51 = .ok (.aload_n 1, 1) := by decide +kernel
theorem dX5_init_52 : decode cX5_init 52 = .ok (.putfield 38, 3) := by decide +kernel
theorem dX5_init_55 : decode cX5_init 55 = .ok (.return_, 1) := by decide +kernel
theorem dX5_readAll_0 : decode cX5_readAll 0 = .ok (.aload_n 0, 1) := by decide +kernel
theorem dX5_readAll_1 : decode cX5_readAll 1 = .ok (.getfield 28, 3) := by decide +kernel
theorem dX5_readAll_4 : decode cX5_readAll 4 = .ok (.invokevirtual 42, 3) := by decide +kernel
theorem dX5_readAll_7 : decode cX5_readAll 7 = .ok (.aload_n 0, 1) := by decide +kernel
theorem dX5_readAll_8 : decode cX5_readAll 8 = .ok (.iconst 0, 1) := by decide +kernel
theorem dX5_readAll_9 : decode cX5_readAll 9 = .ok (.putfield 18, 3) := by decide +kernel
theorem dX5_readAll_12 : decode cX5_readAll 12 = .ok (.aload_n 0, 1) := by decide +kernel
theorem dX5_readAll_13 : decode cX5_readAll 13 = .ok (.iconst 0, 1) := by decide +kernel
theorem dX5_readAll_14 : decode cX5_readAll 14 = .ok (.putfield 32, 3) := by decide +kernel
theorem dX5_readAll_17 : decode cX5_readAll 17 = .ok (.aload_n 0, 1) := by decide +kernel
theorem dX5_readAll_18 : decode cX5_readAll 18 = .ok (.iconst (-1), 1) := by decide +kernel
theorem dX5_readAll_19 : decode cX5_readAll 19 = .ok (.putfield 35, 3) := by decide +kernel
theorem dX5_readAll_22 : decode cX5_readAll 22 = .ok (.aload_n 0, 1) := by decide +kernel
theorem dX5_readAll_23 : decode cX5_readAll 23 = .ok (.getfield 38, 3) := by decide +kernel
theorem dX5_readAll_26 : decode cX5_readAll 26 = .ok (.invokevirtual 45, 3) := by decide +kernel
theorem dX5_readAll_29 : decode cX5_readAll 29 = .ok (.iconst 0, 1) := by decide +kernel
theorem dX5_readAll_30 : decode cX5_readAll 30 = .ok (.istore_n 1, 1) := by decide +kernel
theorem dX5_readAll_31 : decode cX5_readAll 31 = .ok (.iload_n 1, 1) := by decide +kernel
theorem dX5_readAll_32 : decode cX5_readAll 32 = .ok (.sipush 1600, 3) := by decide +kernel
theorem dX5_readAll_35 : decode cX5_readAll 35 = .ok (.if_icmp .ge 30, 3) := by decide +kernel
theorem dX5_readAll_38 : decode cX5_readAll 38 = .ok (.aload_n 0, 1) := by decide +kernel
theorem dX5_readAll_39 : decode cX5_readAll 39 = .ok (.getfield 38, 3) := by decide +kernel
theorem dX5_readAll_42 : decode cX5_readAll 42 = .ok (.getfield 50, 3) := by decide +kernel
theorem dX5_readAll_45 : decode cX5_readAll 45 = .ok (.bipush 31, 2) := by decide +kernel
theorem dX5_readAll_47 : decode cX5_readAll 47 = .ok (.if_icmp .eq 18, 3) := by decide +kernel
theorem dX5_readAll_50 : decode cX5_readAll 50 = .ok (.aload_n 0, 1) := by decide +kernel
theorem dX5_readAll_51 : decode cX5_readAll 51 = .ok (.invokevirtual 53, 3) := by decide +kernel
theorem dX5_readAll_54 : decode cX5_readAll 54 = .ok (.ifCond .ne 5, 3) := by decide +kernel
theorem dX5_readAll_57 : decode cX5_readAll 57 = .ok (.iconst 0, 1) := by decide +kernel
theorem dX5_readAll_58 : decode cX5_readAll 58 = .ok (.ireturn, 1) := by decide +kernel
theorem dX5_readAll_59 : decode cX5_readAll 59 = .ok (.iinc 1 1, 3) := by decide +kernel
theorem dX5_readAll_62 : decode cX5_readAll 62 = .ok (.goto (-31), 3) := by decide +kernel
theorem dX5_readAll_65 : decode cX5_readAll 65 = .ok (.iconst 1, 1) := by decide +kernel
theorem dX5_readAll_66 : decode cX5_readAll 66 = .ok (.ireturn, 1) := by decide +kernel
theorem dX5_readLine_0 : decode cX5_readLine 0 = .ok (.aload_n 0, 1) := by decide +kernel
theorem dX5_readLine_1 : decode cX5_readLine 1 = .ok (.getfield 38, 3) := by decide +kernel
theorem dX5_readLine_4 : decode cX5_readLine 4 = .ok (.getfield 50, 3) := by decide +kernel
theorem dX5_readLine_7 : decode cX5_readLine 7 = .ok (.tableswitch 228 0 10 #[57, 228, 62, 228, 228, 228, 228, 67, 110, 149, 188], 57) := by decide +kernel
theorem dX5_readLine_64 : decode cX5_readLine 64 = .ok (.aload_n 0, 1) := by decide +kernel
theorem dX5_readLine_65 : decode cX5_readLine 65 = .ok (.invokevirtual 57, 3) := by decide +kernel
theorem dX5_readLine_68 : decode cX5_readLine 68 = .ok (.ireturn, 1) := by decide +kernel
theorem dX5_readLine_69 : decode cX5_readLine 69 = .ok (.aload_n 0, 1) := by decide +kernel
theorem dX5_readLine_70 : decode cX5_readLine 70 = .ok (.invokevirtual 60, 3) := by decide +kernel
theorem dX5_readLine_73 : decode cX5_readLine 73 = .ok (.ireturn, 1) := by decide +kernel
theorem dX5_readLine_74 : decode cX5_readLine 74 = .ok (.aload_n 0, 1) := by decide +kernel
theorem dX5_readLine_75 : decode cX5_readLine 75 = .ok (.getfield 28, 3) := by decide +kernel
theorem dX5_readLine_78 : decode cX5_readLine 78 = .ok (.getfield 63, 3) := by decide +kernel
theorem dX5_readLine_81 : decode cX5_readLine 81 = .ok (.invokevirtual 67, 3) := by decide +kernel
theorem dX5_readLine_84 : decode cX5_readLine 84 = .ok (.aload_n 0, 1) := by decide +kernel
theorem dX5_readLine_85 : decode cX5_readLine 85 = .ok (.bipush 7, 2) := by decide +kernel
theorem dX5_readLine_87 : decode cX5_readLine 87 = .ok (.invokevirtual 70, 3) := by decide +kernel
theorem dX5_readLine_90 : decode cX5_readLine 90 = .ok (.ifCond .eq 25, 3) := by decide +kernel
theorem dX5_readLine_93 : decode cX5_readLine 93 = .ok (.aload_n 0, 1) := by decide +kernel
theorem dX5_readLine_94 : decode cX5_readLine 94 = .ok (.iconst 1, 1) := by decide +kernel
theorem dX5_readLine_95 : decode cX5_readLine 95 = .ok (.iconst 0, 1) := by decide +kernel
theorem dX5_readLine_96 : decode cX5_readLine 96 = .ok (.invokevirtual 74, 3) := by decide +kernel
theorem dX5_readLine_99 : decode cX5_readLine 99 = .ok (.ifCond .eq 16, 3) := by decide +kernel
theorem dX5_readLine_102 : decode cX5_readLine 102 = .ok (.aload_n 0, 1) := by decide +kernel
theorem dX5_readLine_103 : decode cX5_readLine 103 = .ok (.bipush 18, 2) := by decide +kernel
theorem dX5_readLine_105 : decode cX5_readLine 105 = .ok (.invokevirtual 78, 3) := by decide +kernel
theorem dX5_readLine_108 : decode cX5_readLine 108 = .ok (.ifCond .eq 7, 3) := by decide +kernel
theorem dX5_readLine_111 : decode cX5_readLine 111 = .ok (.iconst 1, 1) := by decide +kernel
theorem dX5_readLine_112 : decode cX5_readLine 112 = .ok (.goto 4, 3) := by decide +kernel
theorem dX5_readLine_115 : decode cX5_readLine 115 = .ok (.iconst 0, 1) := by decide +kernel
theorem dX5_readLine_116 : decode cX5_readLine 116 = .ok (.ireturn, 1) := by decide +kernel
theorem dX5_readLine_117 : decode cX5_readLine 117 = .ok (.aload_n 0, 1) := by decide +kernel
theorem dX5_readLine_118 : decode cX5_readLine 118 = .ok (.bipush 8, 2) := by decide +kernel
theorem dX5_readLine_120 : decode cX5_readLine 120 = .ok (.invokevirtual 70, 3) := by decide +kernel
theorem dX5_readLine_123 : decode cX5_readLine 123 = .ok (.ifCond .eq 13, 3) := by decide +kernel
theorem dX5_readLine_126 : decode cX5_readLine 126 = .ok (.aload_n 0, 1) := by decide +kernel
theorem dX5_readLine_127 : decode cX5_readLine 127 = .ok (.iconst 1, 1) := by decide +kernel
theorem dX5_readLine_128 : decode cX5_readLine 128 = .ok (.bipush 9, 2) := by decide +kernel
theorem dX5_readLine_130 : decode cX5_readLine 130 = .ok (.invokevirtual 81, 3) := by decide +kernel
theorem dX5_readLine_133 : decode cX5_readLine 133 = .ok (.ifCond .ne 5, 3) := by decide +kernel
theorem dX5_readLine_136 : decode cX5_readLine 136 = .ok (.iconst 0, 1) := by decide +kernel
theorem dX5_readLine_137 : decode cX5_readLine 137 = .ok (.ireturn, 1) := by decide +kernel
theorem dX5_readLine_138 : decode cX5_readLine 138 = .ok (.aload_n 0, 1) := by decide +kernel
theorem dX5_readLine_139 : decode cX5_readLine 139 = .ok (.getfield 28, 3) := by decide +kernel
theorem dX5_readLine_142 : decode cX5_readLine 142 = .ok (.aload_n 0, 1) := by decide +kernel
theorem dX5_readLine_143 : decode cX5_readLine 143 = .ok (.getfield 22, 3) := by decide +kernel
theorem dX5_readLine_146 : decode cX5_readLine 146 = .ok (.putfield 84, 3) := by decide +kernel
theorem dX5_readLine_149 : decode cX5_readLine 149 = .ok (.aload_n 0, 1) := by decide +kernel
theorem dX5_readLine_150 : decode cX5_readLine 150 = .ok (.bipush 18, 2) := by decide +kernel
theorem dX5_readLine_152 : decode cX5_readLine 152 = .ok (.invokevirtual 78, 3) := by decide +kernel
theorem dX5_readLine_155 : decode cX5_readLine 155 = .ok (.ireturn, 1) := by decide +kernel
theorem dX5_readLine_156 : decode cX5_readLine 156 = .ok (.aload_n 0, 1) := by decide +kernel
theorem dX5_readLine_157 : decode cX5_readLine 157 = .ok (.bipush 9, 2) := by decide +kernel
theorem dX5_readLine_159 : decode cX5_readLine 159 = .ok (.invokevirtual 70, 3) := by decide +kernel
theorem dX5_readLine_162 : decode cX5_readLine 162 = .ok (.ifCond .eq 13, 3) := by decide +kernel
theorem dX5_readLine_165 : decode cX5_readLine 165 = .ok (.aload_n 0, 1) := by decide +kernel
theorem dX5_readLine_166 : decode cX5_readLine 166 = .ok (.iconst 0, 1) := by decide +kernel
theorem dX5_readLine_167 : decode cX5_readLine 167 = .ok (.bipush 99, 2) := by decide +kernel
theorem dX5_readLine_169 : decode cX5_readLine 169 = .ok (.invokevirtual 81, 3) := by decide +kernel
theorem dX5_readLine_172 : decode cX5_readLine 172 = .ok (.ifCond .ne 5, 3) := by decide +kernel
theorem dX5_readLine_175 : decode cX5_readLine 175 = .ok (.iconst 0, 1) := by decide +kernel
theorem dX5_readLine_176 : decode cX5_readLine 176 = .ok (.ireturn, 1) := by decide +kernel
theorem dX5_readLine_177 : decode cX5_readLine 177 = .ok (.aload_n 0, 1) := by decide +kernel
theorem dX5_readLine_178 : decode cX5_readLine 178 = .ok (.getfield 28, 3) := by decide +kernel
theorem dX5_readLine_181 : decode cX5_readLine 181 = .ok (.aload_n 0, 1) := by decide +kernel
theorem dX5_readLine_182 : decode cX5_readLine 182 = .ok (.getfield 22, 3) := by decide +kernel
theorem dX5_readLine_185 : decode cX5_readLine 185 = .ok (.putfield 87, 3) := by decide +kernel
theorem dX5_readLine_188 : decode cX5_readLine 188 = .ok (.aload_n 0, 1) := by decide +kernel
theorem dX5_readLine_189 : decode cX5_readLine 189 = .ok (.bipush 18, 2) := by decide +kernel
theorem dX5_readLine_191 : decode cX5_readLine 191 = .ok (.invokevirtual 78, 3) := by decide +kernel
theorem dX5_readLine_194 : decode cX5_readLine 194 = .ok (.ireturn, 1) := by decide +kernel
theorem dX5_readLine_195 : decode cX5_readLine 195 = .ok (.aload_n 0, 1) := by decide +kernel
theorem dX5_readLine_196 : decode cX5_readLine 196 = .ok (.bipush 10, 2) := by decide +kernel
theorem dX5_readLine_198 : decode cX5_readLine 198 = .ok (.invokevirtual 70, 3) := by decide +kernel
theorem dX5_readLine_201 : decode cX5_readLine 201 = .ok (.ifCond .eq 14, 3) := by decide +kernel
theorem dX5_readLine_204 : decode cX5_readLine 204 = .ok (.aload_n 0, 1) := by decide +kernel
theorem dX5_readLine_205 : decode cX5_readLine 205 = .ok (.iconst 0, 1) := by decide +kernel
theorem dX5_readLine_206 : decode cX5_readLine 206 = .ok (.sipush 999, 3) := by decide +kernel
theorem dX5_readLine_209 : decode cX5_readLine 209 = .ok (.invokevirtual 81, 3) := by decide +kernel
theorem dX5_readLine_212 : decode cX5_readLine 212 = .ok (.ifCond .ne 5, 3) := by decide +kernel
theorem dX5_readLine_215 : decode cX5_readLine 215 = .ok (.iconst 0, 1) := by decide +kernel
theorem dX5_readLine_216 : decode cX5_readLine 216 = .ok (.ireturn, 1) := by decide +kernel
theorem dX5_readLine_217 : decode cX5_readLine 217 = .ok (.aload_n 0, 1) := by decide +kernel
theorem dX5_readLine_218 : decode cX5_readLine 218 = .ok (.getfield 28, 3) := by decide +kernel
theorem dX5_readLine_221 : decode cX5_readLine 221 = .ok (.aload_n 0, 1) := by decide +kernel
theorem dX5_readLine_222 : decode cX5_readLine 222 = .ok (.getfield 22, 3) := by decide +kernel
theorem dX5_readLine_225 : decode cX5_readLine 225 = .ok (.putfield 90, 3) := by decide +kernel
theorem dX5_readLine_228 : decode cX5_readLine 228 = .ok (.aload_n 0, 1) := by decide +kernel
theorem dX5_readLine_229 : decode cX5_readLine 229 = .ok (.bipush 18, 2) := by decide +kernel
theorem dX5_readLine_231 : decode cX5_readLine 231 = .ok (.invokevirtual 78, 3) := by decide +kernel
theorem dX5_readLine_234 : decode cX5_readLine 234 = .ok (.ireturn, 1) := by decide +kernel
theorem dX5_readLine_235 : decode cX5_readLine 235 = .ok (.aload_n 0, 1) := by decide +kernel
theorem dX5_readLine_236 : decode cX5_readLine 236 = .ok (.invokevirtual 93, 3) := by decide +kernel
theorem dX5_readLine_239 : decode cX5_readLine 239 = .ok (.ireturn, 1) := by decide +kernel
theorem dX5_readRoom_0 : decode cX5_readRoom 0 = .ok (.aload_n 0, 1) := by decide +kernel
theorem dX5_readRoom_1 : decode cX5_readRoom 1 = .ok (.getfield 28, 3) := by decide +kernel
theorem dX5_readRoom_4 : decode cX5_readRoom 4 = .ok (.getfield 96, 3) := by decide +kernel
theorem dX5_readRoom_7 : decode cX5_readRoom 7 = .ok (.istore_n 1, 1) := by decide +kernel
theorem dX5_readRoom_8 : decode cX5_readRoom 8 = .ok (.iload_n 1, 1) := by decide +kernel
theorem dX5_readRoom_9 : decode cX5_readRoom 9 = .ok (.ifCond .lt 8, 3) := by decide +kernel
theorem dX5_readRoom_12 : decode cX5_readRoom 12 = .ok (.iload_n 1, 1) := by decide +kernel
theorem dX5_readRoom_13 : decode cX5_readRoom 13 = .ok (.iconst 4, 1) := by decide +kernel
theorem dX5_readRoom_14 : decode cX5_readRoom 14 = .ok (.if_icmp .lt 8, 3) := by decide +kernel
theorem dX5_readRoom_17 : decode cX5_readRoom 17 = .ok (.aload_n 0, 1) := by decide +kernel
theorem dX5_readRoom_18 : decode cX5_readRoom 18 = .ok (.invokevirtual 93, 3) := by decide +kernel
theorem dX5_readRoom_21 : decode cX5_readRoom 21 = .ok (.ireturn, 1) := by decide +kernel
theorem dX5_readRoom_22 : decode cX5_readRoom 22 = .ok (.aload_n 0, 1) := by decide +kernel
theorem dX5_readRoom_23 : decode cX5_readRoom 23 = .ok (.getfield 38, 3) := by decide +kernel
theorem dX5_readRoom_26 : decode cX5_readRoom 26 = .ok (.invokevirtual 99, 3) := by decide +kernel
theorem dX5_readRoom_29 : decode cX5_readRoom 29 = .ok (.aload_n 0, 1) := by decide +kernel
theorem dX5_readRoom_30 : decode cX5_readRoom 30 = .ok (.aload_n 0, 1) := by decide +kernel
theorem dX5_readRoom_31 : decode cX5_readRoom 31 = .ok (.getfield 9, 3) := by decide +kernel
theorem dX5_readRoom_34 : decode cX5_readRoom 34 = .ok (.iload_n 1, 1) := by decide +kernel
theorem dX5_readRoom_35 : decode cX5_readRoom 35 = .ok (.invokevirtual 102, 3) := by decide +kernel
theorem dX5_readRoom_38 : decode cX5_readRoom 38 = .ok (.ifCond .eq 21, 3) := by decide +kernel
theorem dX5_readRoom_41 : decode cX5_readRoom 41 = .ok (.aload_n 0, 1) := by decide +kernel
theorem dX5_readRoom_42 : decode cX5_readRoom 42 = .ok (.iconst 1, 1) := by decide +kernel
theorem dX5_readRoom_43 : decode cX5_readRoom 43 = .ok (.invokevirtual 78, 3) := by decide +kernel
theorem dX5_readRoom_46 : decode cX5_readRoom 46 = .ok (.ifCond .eq 13, 3) := by decide +kernel
theorem dX5_readRoom_49 : decode cX5_readRoom 49 = .ok (.aload_n 0, 1) := by decide +kernel
theorem dX5_readRoom_50 : decode cX5_readRoom 50 = .ok (.iconst 0, 1) := by decide +kernel
theorem dX5_readRoom_51 : decode cX5_readRoom 51 = .ok (.bipush 99, 2) := by decide +kernel
theorem dX5_readRoom_53 : decode cX5_readRoom 53 = .ok (.invokevirtual 81, 3) := by decide +kernel
theorem dX5_readRoom_56 : decode cX5_readRoom 56 = .ok (.ifCond .ne 5, 3) := by decide +kernel
theorem dX5_readRoom_59 : decode cX5_readRoom 59 = .ok (.iconst 0, 1) := by decide +kernel
theorem dX5_readRoom_60 : decode cX5_readRoom 60 = .ok (.ireturn, 1) := by decide +kernel
theorem dX5_readRoom_61 : decode cX5_readRoom 61 = .ok (.aload_n 0, 1) := by decide +kernel
theorem dX5_readRoom_62 : decode cX5_readRoom 62 = .ok (.getfield 28, 3) := by decide +kernel
theorem dX5_readRoom_65 : decode cX5_readRoom 65 = .ok (.getfield 106, 3) := by decide +kernel
theorem dX5_readRoom_68 : decode cX5_readRoom 68 = .ok (.iload_n 1, 1) := by decide +kernel
theorem dX5_readRoom_69 : decode cX5_readRoom 69 = .ok (.aload_n 0, 1) := by decide +kernel
theorem dX5_readRoom_70 : decode cX5_readRoom 70 = .ok (.getfield 22, 3) := by decide +kernel
theorem dX5_readRoom_73 : decode cX5_readRoom 73 = .ok (.iastore, 1) := by decide +kernel
theorem dX5_readRoom_74 : decode cX5_readRoom 74 = .ok (.aload_n 0, 1) := by decide +kernel
theorem dX5_readRoom_75 : decode cX5_readRoom 75 = .ok (.getfield 28, 3) := by decide +kernel
theorem dX5_readRoom_78 : decode cX5_readRoom 78 = .ok (.iload_n 1, 1) := by decide +kernel
theorem dX5_readRoom_79 : decode cX5_readRoom 79 = .ok (.iconst 1, 1) := by decide +kernel
theorem dX5_readRoom_80 : decode cX5_readRoom 80 = .ok (.iadd, 1) := by decide +kernel
theorem dX5_readRoom_81 : decode cX5_readRoom 81 = .ok (.putfield 96, 3) := by decide +kernel
theorem dX5_readRoom_84 : decode cX5_readRoom 84 = .ok (.aload_n 0, 1) := by decide +kernel
theorem dX5_readRoom_85 : decode cX5_readRoom 85 = .ok (.bipush 18, 2) := by decide +kernel
theorem dX5_readRoom_87 : decode cX5_readRoom 87 = .ok (.invokevirtual 78, 3) := by decide +kernel
theorem dX5_readRoom_90 : decode cX5_readRoom 90 = .ok (.ireturn, 1) := by decide +kernel
theorem dX5_readTrunk_0 : decode cX5_readTrunk 0 = .ok (.aload_n 0, 1) := by decide +kernel
theorem dX5_readTrunk_1 : decode cX5_readTrunk 1 = .ok (.getfield 28, 3) := by decide +kernel
theorem dX5_readTrunk_4 : decode cX5_readTrunk 4 = .ok (.getfield 110, 3) := by decide +kernel
theorem dX5_readTrunk_7 : decode cX5_readTrunk 7 = .ok (.istore_n 1, 1) := by decide +kernel
theorem dX5_readTrunk_8 : decode cX5_readTrunk 8 = .ok (.iload_n 1, 1) := by decide +kernel
theorem dX5_readTrunk_9 : decode cX5_readTrunk 9 = .ok (.ifCond .lt 9, 3) := by decide +kernel
theorem dX5_readTrunk_12 : decode cX5_readTrunk 12 = .ok (.iload_n 1, 1) := by decide +kernel
theorem dX5_readTrunk_13 : decode cX5_readTrunk 13 = .ok (.bipush 6, 2) := by decide +kernel
theorem dX5_readTrunk_15 : decode cX5_readTrunk 15 = .ok (.if_icmp .lt 8, 3) := by decide +kernel
theorem dX5_readTrunk_18 : decode cX5_readTrunk 18 = .ok (.aload_n 0, 1) := by decide +kernel
theorem dX5_readTrunk_19 : decode cX5_readTrunk 19 = .ok (.invokevirtual 93, 3) := by decide +kernel
theorem dX5_readTrunk_22 : decode cX5_readTrunk 22 = .ok (.ireturn, 1) := by decide +kernel
theorem dX5_readTrunk_23 : decode cX5_readTrunk 23 = .ok (.aload_n 0, 1) := by decide +kernel
theorem dX5_readTrunk_24 : decode cX5_readTrunk 24 = .ok (.getfield 38, 3) := by decide +kernel
theorem dX5_readTrunk_27 : decode cX5_readTrunk 27 = .ok (.invokevirtual 99, 3) := by decide +kernel
theorem dX5_readTrunk_30 : decode cX5_readTrunk 30 = .ok (.aload_n 0, 1) := by decide +kernel
theorem dX5_readTrunk_31 : decode cX5_readTrunk 31 = .ok (.aload_n 0, 1) := by decide +kernel
theorem dX5_readTrunk_32 : decode cX5_readTrunk 32 = .ok (.getfield 15, 3) := by decide +kernel
theorem dX5_readTrunk_35 : decode cX5_readTrunk 35 = .ok (.iload_n 1, 1) := by decide +kernel
theorem dX5_readTrunk_36 : decode cX5_readTrunk 36 = .ok (.invokevirtual 102, 3) := by decide +kernel
theorem dX5_readTrunk_39 : decode cX5_readTrunk 39 = .ok (.ifCond .eq 21, 3) := by decide +kernel
theorem dX5_readTrunk_42 : decode cX5_readTrunk 42 = .ok (.aload_n 0, 1) := by decide +kernel
theorem dX5_readTrunk_43 : decode cX5_readTrunk 43 = .ok (.iconst 3, 1) := by decide +kernel
theorem dX5_readTrunk_44 : decode cX5_readTrunk 44 = .ok (.invokevirtual 78, 3) := by decide +kernel
theorem dX5_readTrunk_47 : decode cX5_readTrunk 47 = .ok (.ifCond .eq 13, 3) := by decide +kernel
theorem dX5_readTrunk_50 : decode cX5_readTrunk 50 = .ok (.aload_n 0, 1) := by decide +kernel
theorem dX5_readTrunk_51 : decode cX5_readTrunk 51 = .ok (.iconst 1, 1) := by decide +kernel
theorem dX5_readTrunk_52 : decode cX5_readTrunk 52 = .ok (.bipush 20, 2) := by decide +kernel
theorem dX5_readTrunk_54 : decode cX5_readTrunk 54 = .ok (.invokevirtual 81, 3) := by decide +kernel
theorem dX5_readTrunk_57 : decode cX5_readTrunk 57 = .ok (.ifCond .ne 5, 3) := by decide +kernel
theorem dX5_readTrunk_60 : decode cX5_readTrunk 60 = .ok (.iconst 0, 1) := by decide +kernel
theorem dX5_readTrunk_61 : decode cX5_readTrunk 61 = .ok (.ireturn, 1) := by decide +kernel
theorem dX5_readTrunk_62 : decode cX5_readTrunk 62 = .ok (.aload_n 0, 1) := by decide +kernel
theorem dX5_readTrunk_63 : decode cX5_readTrunk 63 = .ok (.getfield 28, 3) := by decide +kernel
theorem dX5_readTrunk_66 : decode cX5_readTrunk 66 = .ok (.getfield 113, 3) := by decide +kernel
theorem dX5_readTrunk_69 : decode cX5_readTrunk 69 = .ok (.iload_n 1, 1) := by decide +kernel
theorem dX5_readTrunk_70 : decode cX5_readTrunk 70 = .ok (.aload_n 0, 1) := by decide +kernel
theorem dX5_readTrunk_71 : decode cX5_readTrunk 71 = .ok (.getfield 22, 3) := by decide +kernel
theorem dX5_readTrunk_74 : decode cX5_readTrunk 74 = .ok (.iastore, 1) := by decide +kernel
theorem dX5_readTrunk_75 : decode cX5_readTrunk 75 = .ok (.aload_n 0, 1) := by decide +kernel
theorem dX5_readTrunk_76 : decode cX5_readTrunk 76 = .ok (.iconst 4, 1) := by decide +kernel
theorem dX5_readTrunk_77 : decode cX5_readTrunk 77 = .ok (.invokevirtual 78, 3) := by decide +kernel
theorem dX5_readTrunk_80 : decode cX5_readTrunk 80 = .ok (.ifCond .eq 19, 3) := by decide +kernel
theorem dX5_readTrunk_83 : decode cX5_readTrunk 83 = .ok (.aload_n 0, 1) := by decide +kernel
theorem dX5_readTrunk_84 : decode cX5_readTrunk 84 = .ok (.aload_n 0, 1) := by decide +kernel
theorem dX5_readTrunk_85 : decode cX5_readTrunk 85 = .ok (.getfield 28, 3) := by decide +kernel
theorem dX5_readTrunk_88 : decode cX5_readTrunk 88 = .ok (.getfield 113, 3) := by decide +kernel
theorem dX5_readTrunk_91 : decode cX5_readTrunk 91 = .ok (.iload_n 1, 1) := by decide +kernel
theorem dX5_readTrunk_92 : decode cX5_readTrunk 92 = .ok (.iaload, 1) := by decide +kernel
theorem dX5_readTrunk_93 : decode cX5_readTrunk 93 = .ok (.invokevirtual 116, 3) := by decide +kernel
theorem dX5_readTrunk_96 : decode cX5_readTrunk 96 = .ok (.ifCond .ne 5, 3) := by decide +kernel
theorem dX5_readTrunk_99 : decode cX5_readTrunk 99 = .ok (.iconst 0, 1) := by decide +kernel
theorem dX5_readTrunk_100 : decode cX5_readTrunk 100 = .ok (.ireturn, 1) := by decide +kernel
theorem dX5_readTrunk_101 : decode cX5_readTrunk 101 = .ok (.aload_n 0, 1) := by decide +kernel
theorem dX5_readTrunk_102 : decode cX5_readTrunk 102 = .ok (.getfield 28, 3) := by decide +kernel
theorem dX5_readTrunk_105 : decode cX5_readTrunk 105 = .ok (.getfield 119, 3) := by decide +kernel
theorem dX5_readTrunk_108 : decode cX5_readTrunk 108 = .ok (.iload_n 1, 1) := by decide +kernel
theorem dX5_readTrunk_109 : decode cX5_readTrunk 109 = .ok (.aload_n 0, 1) := by decide +kernel
theorem dX5_readTrunk_110 : decode cX5_readTrunk 110 = .ok (.getfield 22, 3) := by decide +kernel
theorem dX5_readTrunk_113 : decode cX5_readTrunk 113 = .ok (.iastore, 1) := by decide +kernel
theorem dX5_readTrunk_114 : decode cX5_readTrunk 114 = .ok (.aload_n 0, 1) := by decide +kernel
theorem dX5_readTrunk_115 : decode cX5_readTrunk 115 = .ok (.iconst 5, 1) := by decide +kernel
theorem dX5_readTrunk_116 : decode cX5_readTrunk 116 = .ok (.invokevirtual 78, 3) := by decide +kernel
theorem dX5_readTrunk_119 : decode cX5_readTrunk 119 = .ok (.ifCond .eq 13, 3) := by decide +kernel
theorem dX5_readTrunk_122 : decode cX5_readTrunk 122 = .ok (.aload_n 0, 1) := by decide +kernel
theorem dX5_readTrunk_123 : decode cX5_readTrunk 123 = .ok (.iconst 0, 1) := by decide +kernel
theorem dX5_readTrunk_124 : decode cX5_readTrunk 124 = .ok (.bipush 63, 2) := by decide +kernel
theorem dX5_readTrunk_126 : decode cX5_readTrunk 126 = .ok (.invokevirtual 81, 3) := by decide +kernel
theorem dX5_readTrunk_129 : decode cX5_readTrunk 129 = .ok (.ifCond .ne 5, 3) := by decide +kernel
theorem dX5_readTrunk_132 : decode cX5_readTrunk 132 = .ok (.iconst 0, 1) := by decide +kernel
theorem dX5_readTrunk_133 : decode cX5_readTrunk 133 = .ok (.ireturn, 1) := by decide +kernel
theorem dX5_readTrunk_134 : decode cX5_readTrunk 134 = .ok (.aload_n 0, 1) := by decide +kernel
theorem dX5_readTrunk_135 : decode cX5_readTrunk 135 = .ok (.getfield 28, 3) := by decide +kernel
theorem dX5_readTrunk_138 : decode cX5_readTrunk 138 = .ok (.getfield 122, 3) := by decide +kernel
theorem dX5_readTrunk_141 : decode cX5_readTrunk 141 = .ok (.iload_n 1, 1) := by decide +kernel
theorem dX5_readTrunk_142 : decode cX5_readTrunk 142 = .ok (.aload_n 0, 1) := by decide +kernel
theorem dX5_readTrunk_143 : decode cX5_readTrunk 143 = .ok (.getfield 22, 3) := by decide +kernel
theorem dX5_readTrunk_146 : decode cX5_readTrunk 146 = .ok (.iastore, 1) := by decide +kernel
theorem dX5_readTrunk_147 : decode cX5_readTrunk 147 = .ok (.aload_n 0, 1) := by decide +kernel
theorem dX5_readTrunk_148 : decode cX5_readTrunk 148 = .ok (.getfield 28, 3) := by decide +kernel
theorem dX5_readTrunk_151 : decode cX5_readTrunk 151 = .ok (.getfield 125, 3) := by decide +kernel
theorem dX5_readTrunk_154 : decode cX5_readTrunk 154 = .ok (.iload_n 1, 1) := by decide +kernel
theorem dX5_readTrunk_155 : decode cX5_readTrunk 155 = .ok (.iconst 0, 1) := by decide +kernel
theorem dX5_readTrunk_156 : decode cX5_readTrunk 156 = .ok (.iastore, 1) := by decide +kernel
theorem dX5_readTrunk_157 : decode cX5_readTrunk 157 = .ok (.aload_n 0, 1) := by decide +kernel
theorem dX5_readTrunk_158 : decode cX5_readTrunk 158 = .ok (.getfield 38, 3) := by decide +kernel
theorem dX5_readTrunk_161 : decode cX5_readTrunk 161 = .ok (.getfield 50, 3) := by decide +kernel
theorem dX5_readTrunk_164 : decode cX5_readTrunk 164 = .ok (.bipush 6, 2) := by decide +kernel
theorem dX5_readTrunk_166 : decode cX5_readTrunk 166 = .ok (.if_icmp .ne 35, 3) := by decide +kernel
theorem dX5_readTrunk_169 : decode cX5_readTrunk 169 = .ok (.aload_n 0, 1) := by decide +kernel
theorem dX5_readTrunk_170 : decode cX5_readTrunk 170 = .ok (.getfield 38, 3) := by decide +kernel
theorem dX5_readTrunk_173 : decode cX5_readTrunk 173 = .ok (.invokevirtual 99, 3) := by decide +kernel
theorem dX5_readTrunk_176 : decode cX5_readTrunk 176 = .ok (.aload_n 0, 1) := by decide +kernel
theorem dX5_readTrunk_177 : decode cX5_readTrunk 177 = .ok (.iconst 0, 1) := by decide +kernel
theorem dX5_readTrunk_178 : decode cX5_readTrunk 178 = .ok (.bipush 9, 2) := by decide +kernel
theorem dX5_readTrunk_180 : decode cX5_readTrunk 180 = .ok (.invokevirtual 81, 3) := by decide +kernel
theorem dX5_readTrunk_183 : decode cX5_readTrunk 183 = .ok (.ifCond .ne 5, 3) := by decide +kernel
theorem dX5_readTrunk_186 : decode cX5_readTrunk 186 = .ok (.iconst 0, 1) := by decide +kernel
theorem dX5_readTrunk_187 : decode cX5_readTrunk 187 = .ok (.ireturn, 1) := by decide +kernel
theorem dX5_readTrunk_188 : decode cX5_readTrunk 188 = .ok (.aload_n 0, 1) := by decide +kernel
theorem dX5_readTrunk_189 : decode cX5_readTrunk 189 = .ok (.getfield 28, 3) := by decide +kernel
theorem dX5_readTrunk_192 : decode cX5_readTrunk 192 = .ok (.getfield 125, 3) := by decide +kernel
theorem dX5_readTrunk_195 : decode cX5_readTrunk 195 = .ok (.iload_n 1, 1) := by decide +kernel
theorem dX5_readTrunk_196 : decode cX5_readTrunk 196 = .ok (.aload_n 0, 1) := by decide +kernel
theorem dX5_readTrunk_197 : decode cX5_readTrunk 197 = .ok (.getfield 22, 3) := by decide +kernel
theorem dX5_readTrunk_200 : decode cX5_readTrunk 200 = .ok (.iastore, 1) := by decide +kernel
theorem dX5_readTrunk_201 : decode cX5_readTrunk 201 = .ok (.aload_n 0, 1) := by decide +kernel
theorem dX5_readTrunk_202 : decode cX5_readTrunk 202 = .ok (.getfield 28, 3) := by decide +kernel
theorem dX5_readTrunk_205 : decode cX5_readTrunk 205 = .ok (.iload_n 1, 1) := by decide +kernel
theorem dX5_readTrunk_206 : decode cX5_readTrunk 206 = .ok (.iconst 1, 1) := by decide +kernel
theorem dX5_readTrunk_207 : decode cX5_readTrunk 207 = .ok (.iadd, 1) := by decide +kernel
theorem dX5_readTrunk_208 : decode cX5_readTrunk 208 = .ok (.putfield 110, 3) := by decide +kernel
theorem dX5_readTrunk_211 : decode cX5_readTrunk 211 = .ok (.aload_n 0, 1) := by decide +kernel
theorem dX5_readTrunk_212 : decode cX5_readTrunk 212 = .ok (.bipush 18, 2) := by decide +kernel
theorem dX5_readTrunk_214 : decode cX5_readTrunk 214 = .ok (.invokevirtual 78, 3) := by decide +kernel
theorem dX5_readTrunk_217 : decode cX5_readTrunk 217 = .ok (.ireturn, 1) := by decide +kernel
theorem dX5_readNewName_0 : decode cX5_readNewName 0 = .ok (.aload_n 0, 1) := by decide +kernel
theorem dX5_readNewName_1 : decode cX5_readNewName 1 = .ok (.getfield 38, 3) := by decide +kernel
theorem dX5_readNewName_4 : decode cX5_readNewName 4 = .ok (.getfield 50, 3) := by decide +kernel
theorem dX5_readNewName_7 : decode cX5_readNewName 7 = .ok (.bipush 30, 2) := by decide +kernel
theorem dX5_readNewName_9 : decode cX5_readNewName 9 = .ok (.if_icmp .eq 8, 3) := by decide +kernel
theorem dX5_readNewName_12 : decode cX5_readNewName 12 = .ok (.aload_n 0, 1) := by decide +kernel
theorem dX5_readNewName_13 : decode cX5_readNewName 13 = .ok (.invokevirtual 93, 3) := by decide +kernel
theorem dX5_readNewName_16 : decode cX5_readNewName 16 = .ok (.ireturn, 1) := by decide +kernel
theorem dX5_readNewName_17 : decode cX5_readNewName 17 = .ok (.aload_n 1, 1) := by decide +kernel
theorem dX5_readNewName_18 : decode cX5_readNewName 18 = .ok (.iload_n 2, 1) := by decide +kernel
theorem dX5_readNewName_19 : decode cX5_readNewName 19 = .ok (.aload_n 0, 1) := by decide +kernel
theorem dX5_readNewName_20 : decode cX5_readNewName 20 = .ok (.getfield 38, 3) := by decide +kernel
theorem dX5_readNewName_23 : decode cX5_readNewName 23 = .ok (.getfield 128, 3) := by decide +kernel
theorem dX5_readNewName_26 : decode cX5_readNewName 26 = .ok (.invokestatic 132, 3) := by decide +kernel
theorem dX5_readNewName_29 : decode cX5_readNewName 29 = .ok (.iconst (-1), 1) := by decide +kernel
theorem dX5_readNewName_30 : decode cX5_readNewName 30 = .ok (.if_icmp .eq 9, 3) := by decide +kernel
theorem dX5_readNewName_33 : decode cX5_readNewName 33 = .ok (.aload_n 0, 1) := by decide +kernel
theorem dX5_readNewName_34 : decode cX5_readNewName 34 = .ok (.iconst 3, 1) := by decide +kernel
theorem dX5_readNewName_35 : decode cX5_readNewName 35 = .ok (.invokevirtual 136, 3) := by decide +kernel
theorem dX5_readNewName_38 : decode cX5_readNewName 38 = .ok (.ireturn, 1) := by decide +kernel
theorem dX5_readNewName_39 : decode cX5_readNewName 39 = .ok (.iload_n 2, 1) := by decide +kernel
theorem dX5_readNewName_40 : decode cX5_readNewName 40 = .ok (.ifCond .lt 19, 3) := by decide +kernel
theorem dX5_readNewName_43 : decode cX5_readNewName 43 = .ok (.iload_n 2, 1) := by decide +kernel
theorem dX5_readNewName_44 : decode cX5_readNewName 44 = .ok (.aload_n 1, 1) := by decide +kernel
theorem dX5_readNewName_45 : decode cX5_readNewName 45 = .ok (.arraylength, 1) := by decide +kernel
theorem dX5_readNewName_46 : decode cX5_readNewName 46 = .ok (.if_icmp .ge 13, 3) := by decide +kernel
theorem dX5_readNewName_49 : decode cX5_readNewName 49 = .ok (.aload_n 1, 1) := by decide +kernel
theorem dX5_readNewName_50 : decode cX5_readNewName 50 = .ok (.iload_n 2, 1) := by decide +kernel
theorem dX5_readNewName_51 : decode cX5_readNewName 51 = .ok (.aload_n 0, 1) := by decide +kernel
theorem dX5_readNewName_52 : decode cX5_readNewName 52 = .ok (.getfield 38, 3) := by decide +kernel
theorem dX5_readNewName_55 : decode cX5_readNewName 55 = .ok (.getfield 128, 3) := by decide +kernel
theorem dX5_readNewName_58 : decode cX5_readNewName 58 = .ok (.lastore, 1) := by decide +kernel
theorem dX5_readNewName_59 : decode cX5_readNewName 59 = .ok (.aload_n 0, 1) := by decide +kernel
theorem dX5_readNewName_60 : decode cX5_readNewName 60 = .ok (.getfield 38, 3) := by decide +kernel
theorem dX5_readNewName_63 : decode cX5_readNewName 63 = .ok (.invokevirtual 99, 3) := by decide +kernel
theorem dX5_readNewName_66 : decode cX5_readNewName 66 = .ok (.iconst 1, 1) := by decide +kernel
theorem dX5_readNewName_67 : decode cX5_readNewName 67 = .ok (.ireturn, 1) := by decide +kernel
theorem dX5_readRoomFor_0 : decode cX5_readRoomFor 0 = .ok (.aload_n 0, 1) := by decide +kernel
theorem dX5_readRoomFor_1 : decode cX5_readRoomFor 1 = .ok (.getfield 38, 3) := by decide +kernel
theorem dX5_readRoomFor_4 : decode cX5_readRoomFor 4 = .ok (.getfield 50, 3) := by decide +kernel
theorem dX5_readRoomFor_7 : decode cX5_readRoomFor 7 = .ok (.bipush 30, 2) := by decide +kernel
theorem dX5_readRoomFor_9 : decode cX5_readRoomFor 9 = .ok (.if_icmp .eq 8, 3) := by decide +kernel
theorem dX5_readRoomFor_12 : decode cX5_readRoomFor 12 = .ok (.aload_n 0, 1) := by decide +kernel
theorem dX5_readRoomFor_13 : decode cX5_readRoomFor 13 = .ok (.invokevirtual 93, 3) := by decide +kernel
theorem dX5_readRoomFor_16 : decode cX5_readRoomFor 16 = .ok (.ireturn, 1) := by decide +kernel
theorem dX5_readRoomFor_17 : decode cX5_readRoomFor 17 = .ok (.aload_n 0, 1) := by decide +kernel
theorem dX5_readRoomFor_18 : decode cX5_readRoomFor 18 = .ok (.getfield 9, 3) := by decide +kernel
theorem dX5_readRoomFor_21 : decode cX5_readRoomFor 21 = .ok (.aload_n 0, 1) := by decide +kernel
theorem dX5_readRoomFor_22 : decode cX5_readRoomFor 22 = .ok (.getfield 28, 3) := by decide +kernel
theorem dX5_readRoomFor_25 : decode cX5_readRoomFor 25 = .ok (.getfield 96, 3) := by decide +kernel
theorem dX5_readRoomFor_28 : decode cX5_readRoomFor 28 = .ok (.aload_n 0, 1) := by decide +kernel
theorem dX5_readRoomFor_29 : decode cX5_readRoomFor 29 = .ok (.getfield 38, 3) := by decide +kernel
theorem dX5_readRoomFor_32 : decode cX5_readRoomFor 32 = .ok (.getfield 128, 3) := by decide +kernel
theorem dX5_readRoomFor_35 : decode cX5_readRoomFor 35 = .ok (.invokestatic 132, 3) := by decide +kernel
theorem dX5_readRoomFor_38 : decode cX5_readRoomFor 38 = .ok (.istore_n 2, 1) := by decide +kernel
theorem dX5_readRoomFor_39 : decode cX5_readRoomFor 39 = .ok (.iload_n 2, 1) := by decide +kernel
theorem dX5_readRoomFor_40 : decode cX5_readRoomFor 40 = .ok (.iconst (-1), 1) := by decide +kernel
theorem dX5_readRoomFor_41 : decode cX5_readRoomFor 41 = .ok (.if_icmp .ne 9, 3) := by decide +kernel
theorem dX5_readRoomFor_44 : decode cX5_readRoomFor 44 = .ok (.aload_n 0, 1) := by decide +kernel
theorem dX5_readRoomFor_45 : decode cX5_readRoomFor 45 = .ok (.iconst 5, 1) := by decide +kernel
theorem dX5_readRoomFor_46 : decode cX5_readRoomFor 46 = .ok (.invokevirtual 136, 3) := by decide +kernel
theorem dX5_readRoomFor_49 : decode cX5_readRoomFor 49 = .ok (.ireturn, 1) := by decide +kernel
theorem dX5_readRoomFor_50 : decode cX5_readRoomFor 50 = .ok (.aload_n 0, 1) := by decide +kernel
theorem dX5_readRoomFor_51 : decode cX5_readRoomFor 51 = .ok (.getfield 28, 3) := by decide +kernel
theorem dX5_readRoomFor_54 : decode cX5_readRoomFor 54 = .ok (.iload_n 2, 1) := by decide +kernel
theorem dX5_readRoomFor_55 : decode cX5_readRoomFor 55 = .ok (.invokevirtual 139, 3) := by decide +kernel
theorem dX5_readRoomFor_58 : decode cX5_readRoomFor 58 = .ok (.iload_n 1, 1) := by decide +kernel
theorem dX5_readRoomFor_59 : decode cX5_readRoomFor 59 = .ok (.if_icmp .ge 9, 3) := by decide +kernel
theorem dX5_readRoomFor_62 : decode cX5_readRoomFor 62 = .ok (.aload_n 0, 1) := by decide +kernel
theorem dX5_readRoomFor_63 : decode cX5_readRoomFor 63 = .ok (.iconst 3, 1) := by decide +kernel
theorem dX5_readRoomFor_64 : decode cX5_readRoomFor 64 = .ok (.invokevirtual 136, 3) := by decide +kernel
theorem dX5_readRoomFor_67 : decode cX5_readRoomFor 67 = .ok (.ireturn, 1) := by decide +kernel
theorem dX5_readRoomFor_68 : decode cX5_readRoomFor 68 = .ok (.aload_n 0, 1) := by decide +kernel
theorem dX5_readRoomFor_69 : decode cX5_readRoomFor 69 = .ok (.iload_n 2, 1) := by decide +kernel
theorem dX5_readRoomFor_70 : decode cX5_readRoomFor 70 = .ok (.putfield 22, 3) := by decide +kernel
theorem dX5_readRoomFor_73 : decode cX5_readRoomFor 73 = .ok (.aload_n 0, 1) := by decide +kernel
theorem dX5_readRoomFor_74 : decode cX5_readRoomFor 74 = .ok (.getfield 38, 3) := by decide +kernel
theorem dX5_readRoomFor_77 : decode cX5_readRoomFor 77 = .ok (.invokevirtual 99, 3) := by decide +kernel
theorem dX5_readRoomFor_80 : decode cX5_readRoomFor 80 = .ok (.iconst 1, 1) := by decide +kernel
theorem dX5_readRoomFor_81 : decode cX5_readRoomFor 81 = .ok (.ireturn, 1) := by decide +kernel
theorem dX5_readNumber_0 : decode cX5_readNumber 0 = .ok (.aload_n 0, 1) := by decide +kernel
theorem dX5_readNumber_1 : decode cX5_readNumber 1 = .ok (.getfield 38, 3) := by decide +kernel
theorem dX5_readNumber_4 : decode cX5_readNumber 4 = .ok (.getfield 50, 3) := by decide +kernel
theorem dX5_readNumber_7 : decode cX5_readNumber 7 = .ok (.bipush 29, 2) := by decide +kernel
theorem dX5_readNumber_9 : decode cX5_readNumber 9 = .ok (.if_icmp .eq 8, 3) := by decide +kernel
theorem dX5_readNumber_12 : decode cX5_readNumber 12 = .ok (.aload_n 0, 1) := by decide +kernel
theorem dX5_readNumber_13 : decode cX5_readNumber 13 = .ok (.invokevirtual 93, 3) := by decide +kernel
theorem dX5_readNumber_16 : decode cX5_readNumber 16 = .ok (.ireturn, 1) := by decide +kernel
theorem dX5_readNumber_17 : decode cX5_readNumber 17 = .ok (.aload_n 0, 1) := by decide +kernel
theorem dX5_readNumber_18 : decode cX5_readNumber 18 = .ok (.getfield 38, 3) := by decide +kernel
theorem dX5_readNumber_21 : decode cX5_readNumber 21 = .ok (.getfield 143, 3) := by decide +kernel
theorem dX5_readNumber_24 : decode cX5_readNumber 24 = .ok (.iload_n 1, 1) := by decide +kernel
theorem dX5_readNumber_25 : decode cX5_readNumber 25 = .ok (.if_icmp .lt 14, 3) := by decide +kernel
theorem dX5_readNumber_28 : decode cX5_readNumber 28 = .ok (.aload_n 0, 1) := by decide +kernel
theorem dX5_readNumber_29 : decode cX5_readNumber 29 = .ok (.getfield 38, 3) := by decide +kernel
theorem dX5_readNumber_32 : decode cX5_readNumber 32 = .ok (.getfield 143, 3) := by decide +kernel
theorem dX5_readNumber_35 : decode cX5_readNumber 35 = .ok (.iload_n 2, 1) := by decide +kernel
theorem dX5_readNumber_36 : decode cX5_readNumber 36 = .ok (.if_icmp .le 9, 3) := by decide +kernel
theorem dX5_readNumber_39 : decode cX5_readNumber 39 = .ok (.aload_n 0, 1) := by decide +kernel
theorem dX5_readNumber_40 : decode cX5_readNumber 40 = .ok (.iconst 4, 1) := by decide +kernel
theorem dX5_readNumber_41 : decode cX5_readNumber 41 = .ok (.invokevirtual 136, 3) := by decide +kernel
theorem dX5_readNumber_44 : decode cX5_readNumber 44 = .ok (.ireturn, 1) := by decide +kernel
theorem dX5_readNumber_45 : decode cX5_readNumber 45 = .ok (.aload_n 0, 1) := by decide +kernel
theorem dX5_readNumber_46 : decode cX5_readNumber 46 = .ok (.aload_n 0, 1) := by decide +kernel
theorem dX5_readNumber_47 : decode cX5_readNumber 47 = .ok (.getfield 38, 3) := by decide +kernel
theorem dX5_readNumber_50 : decode cX5_readNumber 50 = .ok (.getfield 143, 3) := by decide +kernel
theorem dX5_readNumber_53 : decode cX5_readNumber 53 = .ok (.putfield 22, 3) := by decide +kernel
theorem dX5_readNumber_56 : decode cX5_readNumber 56 = .ok (.aload_n 0, 1) := by decide +kernel
theorem dX5_readNumber_57 : decode cX5_readNumber 57 = .ok (.getfield 38, 3) := by decide +kernel
theorem dX5_readNumber_60 : decode cX5_readNumber 60 = .ok (.invokevirtual 99, 3) := by decide +kernel
theorem dX5_readNumber_63 : decode cX5_readNumber 63 = .ok (.iconst 1, 1) := by decide +kernel
theorem dX5_readNumber_64 : decode cX5_readNumber 64 = .ok (.ireturn, 1) := by decide +kernel
theorem dX5_isFirst_0 : decode cX5_isFirst 0 = .ok (.iconst 1, 1) := by decide +kernel
theorem dX5_isFirst_1 : decode cX5_isFirst 1 = .ok (.iload_n 1, 1) := by decide +kernel
theorem dX5_isFirst_2 : decode cX5_isFirst 2 = .ok (.ishl, 1) := by decide +kernel
theorem dX5_isFirst_3 : decode cX5_isFirst 3 = .ok (.istore_n 2, 1) := by decide +kernel
theorem dX5_isFirst_4 : decode cX5_isFirst 4 = .ok (.aload_n 0, 1) := by decide +kernel
theorem dX5_isFirst_5 : decode cX5_isFirst 5 = .ok (.getfield 18, 3) := by decide +kernel
theorem dX5_isFirst_8 : decode cX5_isFirst 8 = .ok (.iload_n 2, 1) := by decide +kernel
theorem dX5_isFirst_9 : decode cX5_isFirst 9 = .ok (.iand, 1) := by decide +kernel
theorem dX5_isFirst_10 : decode cX5_isFirst 10 = .ok (.ifCond .eq 8, 3) := by decide +kernel
theorem dX5_isFirst_13 : decode cX5_isFirst 13 = .ok (.aload_n 0, 1) := by decide +kernel
theorem dX5_isFirst_14 : decode cX5_isFirst 14 = .ok (.invokevirtual 93, 3) := by decide +kernel
theorem dX5_isFirst_17 : decode cX5_isFirst 17 = .ok (.ireturn, 1) := by decide +kernel
theorem dX5_isFirst_18 : decode cX5_isFirst 18 = .ok (.aload_n 0, 1) := by decide +kernel
theorem dX5_isFirst_19 : decode cX5_isFirst 19 = .ok (.dup, 1) := by decide +kernel
theorem dX5_isFirst_20 : decode cX5_isFirst 20 = .ok (.getfield 18, 3) := by decide +kernel
theorem dX5_isFirst_23 : decode cX5_isFirst 23 = .ok (.iload_n 2, 1) := by decide +kernel
theorem dX5_isFirst_24 : decode cX5_isFirst 24 = .ok (.ior, 1) := by decide +kernel
theorem dX5_isFirst_25 : decode cX5_isFirst 25 = .ok (.putfield 18, 3) := by decide +kernel
theorem dX5_isFirst_28 : decode cX5_isFirst 28 = .ok (.aload_n 0, 1) := by decide +kernel
theorem dX5_isFirst_29 : decode cX5_isFirst 29 = .ok (.getfield 38, 3) := by decide +kernel
theorem dX5_isFirst_32 : decode cX5_isFirst 32 = .ok (.invokevirtual 99, 3) := by decide +kernel
theorem dX5_isFirst_35 : decode cX5_isFirst 35 = .ok (.iconst 1, 1) := by decide +kernel
theorem dX5_isFirst_36 : decode cX5_isFirst 36 = .ok (.ireturn, 1) := by decide +kernel
theorem dX5_readPart_0 : decode cX5_readPart 0 = .ok (.iload_n 1, 1) := by decide +kernel
theorem dX5_readPart_1 : decode cX5_readPart 1 = .ok (.bipush 6, 2) := by decide +kernel
theorem dX5_readPart_3 : decode cX5_readPart 3 = .ok (.if_icmp .lt 9, 3) := by decide +kernel
theorem dX5_readPart_6 : decode cX5_readPart 6 = .ok (.aload_n 0, 1) := by decide +kernel
theorem dX5_readPart_7 : decode cX5_readPart 7 = .ok (.iload_n 2, 1) := by decide +kernel
theorem dX5_readPart_8 : decode cX5_readPart 8 = .ok (.invokevirtual 146, 3) := by decide +kernel
theorem dX5_readPart_11 : decode cX5_readPart 11 = .ok (.ireturn, 1) := by decide +kernel
theorem dX5_readPart_12 : decode cX5_readPart 12 = .ok (.iload_n 1, 1) := by decide +kernel
theorem dX5_readPart_13 : decode cX5_readPart 13 = .ok (.iconst 3, 1) := by decide +kernel
theorem dX5_readPart_14 : decode cX5_readPart 14 = .ok (.if_icmp .ne 23, 3) := by decide +kernel
theorem dX5_readPart_17 : decode cX5_readPart 17 = .ok (.aload_n 0, 1) := by decide +kernel
theorem dX5_readPart_18 : decode cX5_readPart 18 = .ok (.getfield 38, 3) := by decide +kernel
theorem dX5_readPart_21 : decode cX5_readPart 21 = .ok (.getfield 50, 3) := by decide +kernel
theorem dX5_readPart_24 : decode cX5_readPart 24 = .ok (.bipush 13, 2) := by decide +kernel
theorem dX5_readPart_26 : decode cX5_readPart 26 = .ok (.if_icmp .ne 11, 3) := by decide +kernel
theorem dX5_readPart_29 : decode cX5_readPart 29 = .ok (.aload_n 0, 1) := by decide +kernel
theorem dX5_readPart_30 : decode cX5_readPart 30 = .ok (.iload_n 2, 1) := by decide +kernel
theorem dX5_readPart_31 : decode cX5_readPart 31 = .ok (.invokevirtual 149, 3) := by decide +kernel
theorem dX5_readPart_34 : decode cX5_readPart 34 = .ok (.goto 9, 3) := by decide +kernel
theorem dX5_readPart_37 : decode cX5_readPart 37 = .ok (.aload_n 0, 1) := by decide +kernel
theorem dX5_readPart_38 : decode cX5_readPart 38 = .ok (.iload_n 1, 1) := by decide +kernel
theorem dX5_readPart_39 : decode cX5_readPart 39 = .ok (.iload_n 2, 1) := by decide +kernel
theorem dX5_readPart_40 : decode cX5_readPart 40 = .ok (.invokevirtual 152, 3) := by decide +kernel
theorem dX5_readPart_43 : decode cX5_readPart 43 = .ok (.ireturn, 1) := by decide +kernel
theorem dX5_readJoined_0 : decode cX5_readJoined 0 = .ok (.aload_n 0, 1) := by decide +kernel
theorem dX5_readJoined_1 : decode cX5_readJoined 1 = .ok (.iload_n 1, 1) := by decide +kernel
theorem dX5_readJoined_2 : decode cX5_readJoined 2 = .ok (.iconst 1, 1) := by decide +kernel
theorem dX5_readJoined_3 : decode cX5_readJoined 3 = .ok (.iadd, 1) := by decide +kernel
theorem dX5_readJoined_4 : decode cX5_readJoined 4 = .ok (.iload_n 2, 1) := by decide +kernel
theorem dX5_readJoined_5 : decode cX5_readJoined 5 = .ok (.invokevirtual 74, 3) := by decide +kernel
theorem dX5_readJoined_8 : decode cX5_readJoined 8 = .ok (.ifCond .ne 5, 3) := by decide +kernel
theorem dX5_readJoined_11 : decode cX5_readJoined 11 = .ok (.iconst 0, 1) := by decide +kernel
theorem dX5_readJoined_12 : decode cX5_readJoined 12 = .ok (.ireturn, 1) := by decide +kernel
theorem dX5_readJoined_13 : decode cX5_readJoined 13 = .ok (.iload_n 1, 1) := by decide +kernel
theorem dX5_readJoined_14 : decode cX5_readJoined 14 = .ok (.iconst 3, 1) := by decide +kernel
theorem dX5_readJoined_15 : decode cX5_readJoined 15 = .ok (.if_icmp .ne 7, 3) := by decide +kernel
theorem dX5_readJoined_18 : decode cX5_readJoined 18 = .ok (.iconst 1, 1) := by decide +kernel
theorem dX5_readJoined_19 : decode cX5_readJoined 19 = .ok (.goto 5, 3) := by decide +kernel
theorem dX5_readJoined_22 : decode cX5_readJoined 22 = .ok (.bipush 30, 2) := by decide +kernel
theorem dX5_readJoined_24 : decode cX5_readJoined 24 = .ok (.istore_n 3, 1) := by decide +kernel
theorem dX5_readJoined_25 : decode cX5_readJoined 25 = .ok (.iconst 0, 1) := by decide +kernel
theorem dX5_readJoined_26 : decode cX5_readJoined 26 = .ok (.istore 4, 2) := by decide +kernel
theorem dX5_readJoined_28 : decode cX5_readJoined 28 = .ok (.iload 4, 2) := by decide +kernel
theorem dX5_readJoined_30 : decode cX5_readJoined 30 = .ok (.iload_n 3, 1) := by decide +kernel
theorem dX5_readJoined_31 : decode cX5_readJoined 31 = .ok (.if_icmp .ge 65, 3) := by decide +kernel
theorem dX5_readJoined_34 : decode cX5_readJoined 34 = .ok (.aload_n 0, 1) := by decide +kernel
theorem dX5_readJoined_35 : decode cX5_readJoined 35 = .ok (.getfield 38, 3) := by decide +kernel
theorem dX5_readJoined_38 : decode cX5_readJoined 38 = .ok (.getfield 50, 3) := by decide +kernel
theorem dX5_readJoined_41 : decode cX5_readJoined 41 = .ok (.invokestatic 155, 3) := by decide +kernel
theorem dX5_readJoined_44 : decode cX5_readJoined 44 = .ok (.iload_n 1, 1) := by decide +kernel
theorem dX5_readJoined_45 : decode cX5_readJoined 45 = .ok (.if_icmp .ne 51, 3) := by decide +kernel
theorem dX5_readJoined_48 : decode cX5_readJoined 48 = .ok (.aload_n 0, 1) := by decide +kernel
theorem dX5_readJoined_49 : decode cX5_readJoined 49 = .ok (.getfield 38, 3) := by decide +kernel
theorem dX5_readJoined_52 : decode cX5_readJoined 52 = .ok (.getfield 50, 3) := by decide +kernel
theorem dX5_readJoined_55 : decode cX5_readJoined 55 = .ok (.istore 5, 2) := by decide +kernel
theorem dX5_readJoined_57 : decode cX5_readJoined 57 = .ok (.aload_n 0, 1) := by decide +kernel
theorem dX5_readJoined_58 : decode cX5_readJoined 58 = .ok (.getfield 38, 3) := by decide +kernel
theorem dX5_readJoined_61 : decode cX5_readJoined 61 = .ok (.invokevirtual 99, 3) := by decide +kernel
theorem dX5_readJoined_64 : decode cX5_readJoined 64 = .ok (.aload_n 0, 1) := by decide +kernel
theorem dX5_readJoined_65 : decode cX5_readJoined 65 = .ok (.iload_n 1, 1) := by decide +kernel
theorem dX5_readJoined_66 : decode cX5_readJoined 66 = .ok (.iconst 1, 1) := by decide +kernel
theorem dX5_readJoined_67 : decode cX5_readJoined 67 = .ok (.iadd, 1) := by decide +kernel
theorem dX5_readJoined_68 : decode cX5_readJoined 68 = .ok (.iload_n 2, 1) := by decide +kernel
theorem dX5_readJoined_69 : decode cX5_readJoined 69 = .ok (.invokevirtual 74, 3) := by decide +kernel
theorem dX5_readJoined_72 : decode cX5_readJoined 72 = .ok (.ifCond .ne 5, 3) := by decide +kernel
theorem dX5_readJoined_75 : decode cX5_readJoined 75 = .ok (.iconst 0, 1) := by decide +kernel
theorem dX5_readJoined_76 : decode cX5_readJoined 76 = .ok (.ireturn, 1) := by decide +kernel
theorem dX5_readJoined_77 : decode cX5_readJoined 77 = .ok (.aload_n 0, 1) := by decide +kernel
theorem dX5_readJoined_78 : decode cX5_readJoined 78 = .ok (.getfield 28, 3) := by decide +kernel
theorem dX5_readJoined_81 : decode cX5_readJoined 81 = .ok (.getfield 63, 3) := by decide +kernel
theorem dX5_readJoined_84 : decode cX5_readJoined 84 = .ok (.iload 5, 2) := by decide +kernel
theorem dX5_readJoined_86 : decode cX5_readJoined 86 = .ok (.iconst 0, 1) := by decide +kernel
theorem dX5_readJoined_87 : decode cX5_readJoined 87 = .ok (.invokevirtual 158, 3) := by decide +kernel
theorem dX5_readJoined_90 : decode cX5_readJoined 90 = .ok (.iinc 4 1, 3) := by decide +kernel
theorem dX5_readJoined_93 : decode cX5_readJoined 93 = .ok (.goto (-65), 3) := by decide +kernel
theorem dX5_readJoined_96 : decode cX5_readJoined 96 = .ok (.iconst 1, 1) := by decide +kernel
theorem dX5_readJoined_97 : decode cX5_readJoined 97 = .ok (.ireturn, 1) := by decide +kernel
theorem dX5_readNot_0 : decode cX5_readNot 0 = .ok (.iload_n 1, 1) := by decide +kernel
theorem dX5_readNot_1 : decode cX5_readNot 1 = .ok (.bipush 6, 2) := by decide +kernel
theorem dX5_readNot_3 : decode cX5_readNot 3 = .ok (.if_icmp .le 8, 3) := by decide +kernel
theorem dX5_readNot_6 : decode cX5_readNot 6 = .ok (.aload_n 0, 1) := by decide +kernel
theorem dX5_readNot_7 : decode cX5_readNot 7 = .ok (.invokevirtual 93, 3) := by decide +kernel
theorem dX5_readNot_10 : decode cX5_readNot 10 = .ok (.ireturn, 1) := by decide +kernel
theorem dX5_readNot_11 : decode cX5_readNot 11 = .ok (.aload_n 0, 1) := by decide +kernel
theorem dX5_readNot_12 : decode cX5_readNot 12 = .ok (.getfield 38, 3) := by decide +kernel
theorem dX5_readNot_15 : decode cX5_readNot 15 = .ok (.invokevirtual 99, 3) := by decide +kernel
theorem dX5_readNot_18 : decode cX5_readNot 18 = .ok (.aload_n 0, 1) := by decide +kernel
theorem dX5_readNot_19 : decode cX5_readNot 19 = .ok (.iconst 3, 1) := by decide +kernel
theorem dX5_readNot_20 : decode cX5_readNot 20 = .ok (.iload_n 1, 1) := by decide +kernel
theorem dX5_readNot_21 : decode cX5_readNot 21 = .ok (.iconst 1, 1) := by decide +kernel
theorem dX5_readNot_22 : decode cX5_readNot 22 = .ok (.iadd, 1) := by decide +kernel
theorem dX5_readNot_23 : decode cX5_readNot 23 = .ok (.invokevirtual 74, 3) := by decide +kernel
theorem dX5_readNot_26 : decode cX5_readNot 26 = .ok (.ifCond .ne 5, 3) := by decide +kernel
theorem dX5_readNot_29 : decode cX5_readNot 29 = .ok (.iconst 0, 1) := by decide +kernel
theorem dX5_readNot_30 : decode cX5_readNot 30 = .ok (.ireturn, 1) := by decide +kernel
theorem dX5_readNot_31 : decode cX5_readNot 31 = .ok (.aload_n 0, 1) := by decide +kernel
theorem dX5_readNot_32 : decode cX5_readNot 32 = .ok (.getfield 28, 3) := by decide +kernel
theorem dX5_readNot_35 : decode cX5_readNot 35 = .ok (.getfield 63, 3) := by decide +kernel
theorem dX5_readNot_38 : decode cX5_readNot 38 = .ok (.bipush 13, 2) := by decide +kernel
theorem dX5_readNot_40 : decode cX5_readNot 40 = .ok (.iconst 0, 1) := by decide +kernel
theorem dX5_readNot_41 : decode cX5_readNot 41 = .ok (.invokevirtual 158, 3) := by decide +kernel
theorem dX5_readNot_44 : decode cX5_readNot 44 = .ok (.iconst 1, 1) := by decide +kernel
theorem dX5_readNot_45 : decode cX5_readNot 45 = .ok (.ireturn, 1) := by decide +kernel
theorem dX5_readUnit_0 : decode cX5_readUnit 0 = .ok (.aload_n 0, 1) := by decide +kernel
theorem dX5_readUnit_1 : decode cX5_readUnit 1 = .ok (.getfield 38, 3) := by decide +kernel
theorem dX5_readUnit_4 : decode cX5_readUnit 4 = .ok (.getfield 50, 3) := by decide +kernel
theorem dX5_readUnit_7 : decode cX5_readUnit 7 = .ok (.istore_n 2, 1) := by decide +kernel
theorem dX5_readUnit_8 : decode cX5_readUnit 8 = .ok (.iload_n 2, 1) := by decide +kernel
theorem dX5_readUnit_9 : decode cX5_readUnit 9 = .ok (.bipush 29, 2) := by decide +kernel
theorem dX5_readUnit_11 : decode cX5_readUnit 11 = .ok (.if_icmp .eq 32, 3) := by decide +kernel
theorem dX5_readUnit_14 : decode cX5_readUnit 14 = .ok (.iload_n 2, 1) := by decide +kernel
theorem dX5_readUnit_15 : decode cX5_readUnit 15 = .ok (.iconst 3, 1) := by decide +kernel
theorem dX5_readUnit_16 : decode cX5_readUnit 16 = .ok (.if_icmp .eq 27, 3) := by decide +kernel
theorem dX5_readUnit_19 : decode cX5_readUnit 19 = .ok (.iload_n 2, 1) := by decide +kernel
theorem dX5_readUnit_20 : decode cX5_readUnit 20 = .ok (.bipush 14, 2) := by decide +kernel
theorem dX5_readUnit_22 : decode cX5_readUnit 22 = .ok (.if_icmp .eq 21, 3) := by decide +kernel
theorem dX5_readUnit_25 : decode cX5_readUnit 25 = .ok (.iload_n 2, 1) := by decide +kernel
theorem dX5_readUnit_26 : decode cX5_readUnit 26 = .ok (.bipush 15, 2) := by decide +kernel
theorem dX5_readUnit_28 : decode cX5_readUnit 28 = .ok (.if_icmp .eq 15, 3) := by decide +kernel
theorem dX5_readUnit_31 : decode cX5_readUnit 31 = .ok (.iload_n 2, 1) := by decide +kernel
theorem dX5_readUnit_32 : decode cX5_readUnit 32 = .ok (.bipush 16, 2) := by decide +kernel
theorem dX5_readUnit_34 : decode cX5_readUnit 34 = .ok (.if_icmp .eq 9, 3) := by decide +kernel
theorem dX5_readUnit_37 : decode cX5_readUnit 37 = .ok (.iload_n 2, 1) := by decide +kernel
theorem dX5_readUnit_38 : decode cX5_readUnit 38 = .ok (.bipush 17, 2) := by decide +kernel
theorem dX5_readUnit_40 : decode cX5_readUnit 40 = .ok (.if_icmp .ne 7, 3) := by decide +kernel
theorem dX5_readUnit_43 : decode cX5_readUnit 43 = .ok (.iconst 1, 1) := by decide +kernel
theorem dX5_readUnit_44 : decode cX5_readUnit 44 = .ok (.goto 4, 3) := by decide +kernel
theorem dX5_readUnit_47 : decode cX5_readUnit 47 = .ok (.iconst 0, 1) := by decide +kernel
theorem dX5_readUnit_48 : decode cX5_readUnit 48 = .ok (.istore_n 3, 1) := by decide +kernel
theorem dX5_readUnit_49 : decode cX5_readUnit 49 = .ok (.iload_n 2, 1) := by decide +kernel
theorem dX5_readUnit_50 : decode cX5_readUnit 50 = .ok (.bipush 19, 2) := by decide +kernel
theorem dX5_readUnit_52 : decode cX5_readUnit 52 = .ok (.if_icmp .ne 13, 3) := by decide +kernel
theorem dX5_readUnit_55 : decode cX5_readUnit 55 = .ok (.iload_n 1, 1) := by decide +kernel
theorem dX5_readUnit_56 : decode cX5_readUnit 56 = .ok (.bipush 6, 2) := by decide +kernel
theorem dX5_readUnit_58 : decode cX5_readUnit 58 = .ok (.if_icmp .gt 7, 3) := by decide +kernel
theorem dX5_readUnit_61 : decode cX5_readUnit 61 = .ok (.iconst 1, 1) := by decide +kernel
theorem dX5_readUnit_62 : decode cX5_readUnit 62 = .ok (.goto 4, 3) := by decide +kernel
theorem dX5_readUnit_65 : decode cX5_readUnit 65 = .ok (.iconst 0, 1) := by decide +kernel
theorem dX5_readUnit_66 : decode cX5_readUnit 66 = .ok (.istore 4, 2) := by decide +kernel
theorem dX5_readUnit_68 : decode cX5_readUnit 68 = .ok (.iload_n 3, 1) := by decide +kernel
theorem dX5_readUnit_69 : decode cX5_readUnit 69 = .ok (.ifCond .ne 8, 3) := by decide +kernel
theorem dX5_readUnit_72 : decode cX5_readUnit 72 = .ok (.iload 4, 2) := by decide +kernel
theorem dX5_readUnit_74 : decode cX5_readUnit 74 = .ok (.ifCond .eq 18, 3) := by decide +kernel
theorem dX5_readUnit_77 : decode cX5_readUnit 77 = .ok (.aload_n 0, 1) := by decide +kernel
theorem dX5_readUnit_78 : decode cX5_readUnit 78 = .ok (.getfield 28, 3) := by decide +kernel
theorem dX5_readUnit_81 : decode cX5_readUnit 81 = .ok (.getfield 63, 3) := by decide +kernel
theorem dX5_readUnit_84 : decode cX5_readUnit 84 = .ok (.getfield 162, 3) := by decide +kernel
theorem dX5_readUnit_87 : decode cX5_readUnit 87 = .ok (.bipush 30, 2) := by decide +kernel
theorem dX5_readUnit_89 : decode cX5_readUnit 89 = .ok (.if_icmp .lt 8, 3) := by decide +kernel
theorem dX5_readUnit_92 : decode cX5_readUnit 92 = .ok (.aload_n 0, 1) := by decide +kernel
theorem dX5_readUnit_93 : decode cX5_readUnit 93 = .ok (.invokevirtual 93, 3) := by decide +kernel
theorem dX5_readUnit_96 : decode cX5_readUnit 96 = .ok (.ireturn, 1) := by decide +kernel
theorem dX5_readUnit_97 : decode cX5_readUnit 97 = .ok (.aload_n 0, 1) := by decide +kernel
theorem dX5_readUnit_98 : decode cX5_readUnit 98 = .ok (.getfield 28, 3) := by decide +kernel
theorem dX5_readUnit_101 : decode cX5_readUnit 101 = .ok (.getfield 63, 3) := by decide +kernel
theorem dX5_readUnit_104 : decode cX5_readUnit 104 = .ok (.dup, 1) := by decide +kernel
theorem dX5_readUnit_105 : decode cX5_readUnit 105 = .ok (.getfield 162, 3) := by decide +kernel
theorem dX5_readUnit_108 : decode cX5_readUnit 108 = .ok (.iconst 1, 1) := by decide +kernel
theorem dX5_readUnit_109 : decode cX5_readUnit 109 = .ok (.iadd, 1) := by decide +kernel
theorem dX5_readUnit_110 : decode cX5_readUnit 110 = .ok (.putfield 162, 3) := by decide +kernel
theorem dX5_readUnit_113 : decode cX5_readUnit 113 = .ok (.iload_n 3, 1) := by decide +kernel
theorem dX5_readUnit_114 : decode cX5_readUnit 114 = .ok (.ifCond .eq 30, 3) := by decide +kernel
theorem dX5_readUnit_117 : decode cX5_readUnit 117 = .ok (.aload_n 0, 1) := by decide +kernel
theorem dX5_readUnit_118 : decode cX5_readUnit 118 = .ok (.getfield 28, 3) := by decide +kernel
theorem dX5_readUnit_121 : decode cX5_readUnit 121 = .ok (.getfield 63, 3) := by decide +kernel
theorem dX5_readUnit_124 : decode cX5_readUnit 124 = .ok (.iload_n 2, 1) := by decide +kernel
theorem dX5_readUnit_125 : decode cX5_readUnit 125 = .ok (.aload_n 0, 1) := by decide +kernel
theorem dX5_readUnit_126 : decode cX5_readUnit 126 = .ok (.getfield 38, 3) := by decide +kernel
theorem dX5_readUnit_129 : decode cX5_readUnit 129 = .ok (.getfield 143, 3) := by decide +kernel
theorem dX5_readUnit_132 : decode cX5_readUnit 132 = .ok (.invokevirtual 158, 3) := by decide +kernel
theorem dX5_readUnit_135 : decode cX5_readUnit 135 = .ok (.aload_n 0, 1) := by decide +kernel
theorem dX5_readUnit_136 : decode cX5_readUnit 136 = .ok (.getfield 38, 3) := by decide +kernel
theorem dX5_readUnit_139 : decode cX5_readUnit 139 = .ok (.invokevirtual 99, 3) := by decide +kernel
theorem dX5_readUnit_142 : decode cX5_readUnit 142 = .ok (.iconst 1, 1) := by decide +kernel
theorem dX5_readUnit_143 : decode cX5_readUnit 143 = .ok (.ireturn, 1) := by decide +kernel
theorem dX5_readUnit_144 : decode cX5_readUnit 144 = .ok (.aload_n 0, 1) := by decide +kernel
theorem dX5_readUnit_145 : decode cX5_readUnit 145 = .ok (.getfield 38, 3) := by decide +kernel
theorem dX5_readUnit_148 : decode cX5_readUnit 148 = .ok (.invokevirtual 99, 3) := by decide +kernel
theorem dX5_readUnit_151 : decode cX5_readUnit 151 = .ok (.aload_n 0, 1) := by decide +kernel
theorem dX5_readUnit_152 : decode cX5_readUnit 152 = .ok (.iconst 1, 1) := by decide +kernel
theorem dX5_readUnit_153 : decode cX5_readUnit 153 = .ok (.iload_n 1, 1) := by decide +kernel
theorem dX5_readUnit_154 : decode cX5_readUnit 154 = .ok (.iconst 1, 1) := by decide +kernel
theorem dX5_readUnit_155 : decode cX5_readUnit 155 = .ok (.iadd, 1) := by decide +kernel
theorem dX5_readUnit_156 : decode cX5_readUnit 156 = .ok (.invokevirtual 74, 3) := by decide +kernel
theorem dX5_readUnit_159 : decode cX5_readUnit 159 = .ok (.ifCond .ne 5, 3) := by decide +kernel
theorem dX5_readUnit_162 : decode cX5_readUnit 162 = .ok (.iconst 0, 1) := by decide +kernel
theorem dX5_readUnit_163 : decode cX5_readUnit 163 = .ok (.ireturn, 1) := by decide +kernel
theorem dX5_readUnit_164 : decode cX5_readUnit 164 = .ok (.aload_n 0, 1) := by decide +kernel
theorem dX5_readUnit_165 : decode cX5_readUnit 165 = .ok (.getfield 38, 3) := by decide +kernel
theorem dX5_readUnit_168 : decode cX5_readUnit 168 = .ok (.getfield 50, 3) := by decide +kernel
theorem dX5_readUnit_171 : decode cX5_readUnit 171 = .ok (.bipush 20, 2) := by decide +kernel
theorem dX5_readUnit_173 : decode cX5_readUnit 173 = .ok (.if_icmp .eq 8, 3) := by decide +kernel
theorem dX5_readUnit_176 : decode cX5_readUnit 176 = .ok (.aload_n 0, 1) := by decide +kernel
theorem dX5_readUnit_177 : decode cX5_readUnit 177 = .ok (.invokevirtual 93, 3) := by decide +kernel
theorem dX5_readUnit_180 : decode cX5_readUnit 180 = .ok (.ireturn, 1) := by decide +kernel
theorem dX5_readUnit_181 : decode cX5_readUnit 181 = .ok (.aload_n 0, 1) := by decide +kernel
theorem dX5_readUnit_182 : decode cX5_readUnit 182 = .ok (.getfield 38, 3) := by decide +kernel
theorem dX5_readUnit_185 : decode cX5_readUnit 185 = .ok (.invokevirtual 99, 3) := by decide +kernel
theorem dX5_readUnit_188 : decode cX5_readUnit 188 = .ok (.iconst 1, 1) := by decide +kernel
theorem dX5_readUnit_189 : decode cX5_readUnit 189 = .ok (.ireturn, 1) := by decide +kernel
theorem dX5_levelOf_0 : decode cX5_levelOf 0 = .ok (.iload_n 0, 1) := by decide +kernel
theorem dX5_levelOf_1 : decode cX5_levelOf 1 = .ok (.tableswitch 97 11 28 #[87, 89, 97, 97, 97, 97, 97, 97, 97, 97, 91, 91, 91, 93, 93, 95, 95, 95], 87) := by decide +kernel
theorem dX5_levelOf_88 : decode cX5_levelOf 88 = .ok (.iconst 1, 1) := by decide +kernel
theorem dX5_levelOf_89 : decode cX5_levelOf 89 = .ok (.ireturn, 1) := by decide +kernel
theorem dX5_levelOf_90 : decode cX5_levelOf 90 = .ok (.iconst 2, 1) := by decide +kernel
theorem dX5_levelOf_91 : decode cX5_levelOf 91 = .ok (.ireturn, 1) := by decide +kernel
theorem dX5_levelOf_92 : decode cX5_levelOf 92 = .ok (.iconst 3, 1) := by decide +kernel
theorem dX5_levelOf_93 : decode cX5_levelOf 93 = .ok (.ireturn, 1) := by decide +kernel
theorem dX5_levelOf_94 : decode cX5_levelOf 94 = .ok (.iconst 4, 1) := by decide +kernel
theorem dX5_levelOf_95 : decode cX5_levelOf 95 = .ok (.ireturn, 1) := by decide +kernel
theorem dX5_levelOf_96 : decode cX5_levelOf 96 = .ok (.iconst 5, 1) := by decide +kernel
theorem dX5_levelOf_97 : decode cX5_levelOf 97 = .ok (.ireturn, 1) := by decide +kernel
theorem dX5_levelOf_98 : decode cX5_levelOf 98 = .ok (.bipush 6, 2) := by decide +kernel
theorem dX5_levelOf_100 : decode cX5_levelOf 100 = .ok (.ireturn, 1) := by decide +kernel
theorem dX5_take_0 : decode cX5_take 0 = .ok (.aload_n 0, 1) := by decide +kernel
theorem dX5_take_1 : decode cX5_take 1 = .ok (.getfield 38, 3) := by decide +kernel
theorem dX5_take_4 : decode cX5_take 4 = .ok (.getfield 50, 3) := by decide +kernel
theorem dX5_take_7 : decode cX5_take 7 = .ok (.iload_n 1, 1) := by decide +kernel
theorem dX5_take_8 : decode cX5_take 8 = .ok (.if_icmp .eq 8, 3) := by decide +kernel
theorem dX5_take_11 : decode cX5_take 11 = .ok (.aload_n 0, 1) := by decide +kernel
theorem dX5_take_12 : decode cX5_take 12 = .ok (.invokevirtual 93, 3) := by decide +kernel
theorem dX5_take_15 : decode cX5_take 15 = .ok (.ireturn, 1) := by decide +kernel
theorem dX5_take_16 : decode cX5_take 16 = .ok (.aload_n 0, 1) := by decide +kernel
theorem dX5_take_17 : decode cX5_take 17 = .ok (.getfield 38, 3) := by decide +kernel
theorem dX5_take_20 : decode cX5_take 20 = .ok (.invokevirtual 99, 3) := by decide +kernel
theorem dX5_take_23 : decode cX5_take 23 = .ok (.iconst 1, 1) := by decide +kernel
theorem dX5_take_24 : decode cX5_take 24 = .ok (.ireturn, 1) := by decide +kernel
theorem dX5_cannotStand_0 : decode cX5_cannotStand 0 = .ok (.aload_n 0, 1) := by decide +kernel
theorem dX5_cannotStand_1 : decode cX5_cannotStand 1 = .ok (.aload_n 0, 1) := by decide +kernel
theorem dX5_cannotStand_2 : decode cX5_cannotStand 2 = .ok (.getfield 38, 3) := by decide +kernel
theorem dX5_cannotStand_5 : decode cX5_cannotStand 5 = .ok (.getfield 50, 3) := by decide +kernel
theorem dX5_cannotStand_8 : decode cX5_cannotStand 8 = .ok (.bipush 32, 2) := by decide +kernel
theorem dX5_cannotStand_10 : decode cX5_cannotStand 10 = .ok (.if_icmp .ne 7, 3) := by decide +kernel
theorem dX5_cannotStand_13 : decode cX5_cannotStand 13 = .ok (.iconst 1, 1) := by decide +kernel
theorem dX5_cannotStand_14 : decode cX5_cannotStand 14 = .ok (.goto 4, 3) := by decide +kernel
theorem dX5_cannotStand_17 : decode cX5_cannotStand 17 = .ok (.iconst 2, 1) := by decide +kernel
theorem dX5_cannotStand_18 : decode cX5_cannotStand 18 = .ok (.invokevirtual 136, 3) := by decide +kernel
theorem dX5_cannotStand_21 : decode cX5_cannotStand 21 = .ok (.ireturn, 1) := by decide +kernel
theorem dX5_failAs_0 : decode cX5_failAs 0 = .ok (.aload_n 0, 1) := by decide +kernel
theorem dX5_failAs_1 : decode cX5_failAs 1 = .ok (.iload_n 1, 1) := by decide +kernel
theorem dX5_failAs_2 : decode cX5_failAs 2 = .ok (.putfield 32, 3) := by decide +kernel
theorem dX5_failAs_5 : decode cX5_failAs 5 = .ok (.aload_n 0, 1) := by decide +kernel
theorem dX5_failAs_6 : decode cX5_failAs 6 = .ok (.aload_n 0, 1) := by decide +kernel
theorem dX5_failAs_7 : decode cX5_failAs 7 = .ok (.getfield 38, 3) := by decide +kernel
theorem dX5_failAs_10 : decode cX5_failAs 10 = .ok (.getfield 165, 3) := by decide +kernel
theorem dX5_failAs_13 : decode cX5_failAs 13 = .ok (.putfield 35, 3) := by decide +kernel
theorem dX5_failAs_16 : decode cX5_failAs 16 = .ok (.iconst 0, 1) := by decide +kernel
theorem dX5_failAs_17 : decode cX5_failAs 17 = .ok (.ireturn, 1) := by decide +kernel
theorem dX5_find_0 : decode cX5_find 0 = .ok (.iconst 0, 1) := by decide +kernel
theorem dX5_find_1 : decode cX5_find 1 = .ok (.istore 4, 2) := by decide +kernel
theorem dX5_find_3 : decode cX5_find 3 = .ok (.iload 4, 2) := by decide +kernel
theorem dX5_find_5 : decode cX5_find 5 = .ok (.iload_n 1, 1) := by decide +kernel
theorem dX5_find_6 : decode cX5_find 6 = .ok (.if_icmp .ge 28, 3) := by decide +kernel
theorem dX5_find_9 : decode cX5_find 9 = .ok (.iload 4, 2) := by decide +kernel
theorem dX5_find_11 : decode cX5_find 11 = .ok (.aload_n 0, 1) := by decide +kernel
theorem dX5_find_12 : decode cX5_find 12 = .ok (.arraylength, 1) := by decide +kernel
theorem dX5_find_13 : decode cX5_find 13 = .ok (.if_icmp .ge 21, 3) := by decide +kernel
theorem dX5_find_16 : decode cX5_find 16 = .ok (.aload_n 0, 1) := by decide +kernel
theorem dX5_find_17 : decode cX5_find 17 = .ok (.iload 4, 2) := by decide +kernel
theorem dX5_find_19 : decode cX5_find 19 = .ok (.laload, 1) := by decide +kernel
theorem dX5_find_20 : decode cX5_find 20 = .ok (.lload_n 2, 1) := by decide +kernel
theorem dX5_find_21 : decode cX5_find 21 = .ok (.lcmp, 1) := by decide +kernel
theorem dX5_find_22 : decode cX5_find 22 = .ok (.ifCond .ne 6, 3) := by decide +kernel
theorem dX5_find_25 : decode cX5_find 25 = .ok (.iload 4, 2) := by decide +kernel
theorem dX5_find_27 : decode cX5_find 27 = .ok (.ireturn, 1) := by decide +kernel
theorem dX5_find_28 : decode cX5_find 28 = .ok (.iinc 4 1, 3) := by decide +kernel
theorem dX5_find_31 : decode cX5_find 31 = .ok (.goto (-28), 3) := by decide +kernel
theorem dX5_find_34 : decode cX5_find 34 = .ok (.iconst (-1), 1) := by decide +kernel
theorem dX5_find_35 : decode cX5_find 35 = .ok (.ireturn, 1) := by decide +kernel
theorem dX6_nearestPair_0 : decode cX6_nearestPair 0 = .ok (.iconst (-1), 1) := by decide +kernel
theorem dX6_nearestPair_1 : decode cX6_nearestPair 1 = .ok (.istore_n 2, 1) := by decide +kernel
theorem dX6_nearestPair_2 : decode cX6_nearestPair 2 = .ok (.bipush 7, 2) := by decide +kernel
theorem dX6_nearestPair_4 : decode cX6_nearestPair 4 = .ok (.istore_n 3, 1) := by decide +kernel
theorem dX6_nearestPair_5 : decode cX6_nearestPair 5 = .ok (.iconst 0, 1) := by decide +kernel
theorem dX6_nearestPair_6 : decode cX6_nearestPair 6 = .ok (.istore 4, 2) := by decide +kernel
theorem dX6_nearestPair_8 : decode cX6_nearestPair 8 = .ok (.iload 4, 2) := by decide +kernel
theorem dX6_nearestPair_10 : decode cX6_nearestPair 10 = .ok (.bipush 8, 2) := by decide +kernel
theorem dX6_nearestPair_12 : decode cX6_nearestPair 12 = .ok (.if_icmp .ge 80, 3) := by decide +kernel
theorem dX6_nearestPair_15 : decode cX6_nearestPair 15 = .ok (.iload 4, 2) := by decide +kernel
theorem dX6_nearestPair_17 : decode cX6_nearestPair 17 = .ok (.iconst 1, 1) := by decide +kernel
theorem dX6_nearestPair_18 : decode cX6_nearestPair 18 = .ok (.iadd, 1) := by decide +kernel
theorem dX6_nearestPair_19 : decode cX6_nearestPair 19 = .ok (.istore 5, 2) := by decide +kernel
theorem dX6_nearestPair_21 : decode cX6_nearestPair 21 = .ok (.iload 5, 2) := by decide +kernel
theorem dX6_nearestPair_23 : decode cX6_nearestPair 23 = .ok (.bipush 8, 2) := by decide +kernel
theorem dX6_nearestPair_25 : decode cX6_nearestPair 25 = .ok (.if_icmp .ge 61, 3) := by decide +kernel
theorem dX6_nearestPair_28 : decode cX6_nearestPair 28 = .ok (.iload 4, 2) := by decide +kernel
theorem dX6_nearestPair_30 : decode cX6_nearestPair 30 = .ok (.iload_n 1, 1) := by decide +kernel
theorem dX6_nearestPair_31 : decode cX6_nearestPair 31 = .ok (.if_icmp .eq 49, 3) := by decide +kernel
theorem dX6_nearestPair_34 : decode cX6_nearestPair 34 = .ok (.iload 5, 2) := by decide +kernel
theorem dX6_nearestPair_36 : decode cX6_nearestPair 36 = .ok (.iload_n 1, 1) := by decide +kernel
theorem dX6_nearestPair_37 : decode cX6_nearestPair 37 = .ok (.if_icmp .eq 43, 3) := by decide +kernel
theorem dX6_nearestPair_40 : decode cX6_nearestPair 40 = .ok (.aload_n 0, 1) := by decide +kernel
theorem dX6_nearestPair_41 : decode cX6_nearestPair 41 = .ok (.iload 4, 2) := by decide +kernel
theorem dX6_nearestPair_43 : decode cX6_nearestPair 43 = .ok (.iload 5, 2) := by decide +kernel
theorem dX6_nearestPair_45 : decode cX6_nearestPair 45 = .ok (.invokevirtual 9, 3) := by decide +kernel
theorem dX6_nearestPair_48 : decode cX6_nearestPair 48 = .ok (.ifCond .eq 32, 3) := by decide +kernel
theorem dX6_nearestPair_51 : decode cX6_nearestPair 51 = .ok (.aload_n 0, 1) := by decide +kernel
theorem dX6_nearestPair_52 : decode cX6_nearestPair 52 = .ok (.iload_n 1, 1) := by decide +kernel
theorem dX6_nearestPair_53 : decode cX6_nearestPair 53 = .ok (.iload 4, 2) := by decide +kernel
theorem dX6_nearestPair_55 : decode cX6_nearestPair 55 = .ok (.iload 5, 2) := by decide +kernel
theorem dX6_nearestPair_57 : decode cX6_nearestPair 57 = .ok (.invokestatic 15, 3) := by decide +kernel
theorem dX6_nearestPair_60 : decode cX6_nearestPair 60 = .ok (.istore 6, 2) := by decide +kernel
theorem dX6_nearestPair_62 : decode cX6_nearestPair 62 = .ok (.iload 6, 2) := by decide +kernel
theorem dX6_nearestPair_64 : decode cX6_nearestPair 64 = .ok (.iload_n 3, 1) := by decide +kernel
theorem dX6_nearestPair_65 : decode cX6_nearestPair 65 = .ok (.if_icmp .ge 15, 3) := by decide +kernel
theorem dX6_nearestPair_68 : decode cX6_nearestPair 68 = .ok (.iload 4, 2) := by decide +kernel
theorem dX6_nearestPair_70 : decode cX6_nearestPair 70 = .ok (.bipush 8, 2) := by decide +kernel
theorem dX6_nearestPair_72 : decode cX6_nearestPair 72 = .ok (.imul, 1) := by decide +kernel
theorem dX6_nearestPair_73 : decode cX6_nearestPair 73 = .ok (.iload 5, 2) := by decide +kernel
theorem dX6_nearestPair_75 : decode cX6_nearestPair 75 = .ok (.iadd, 1) := by decide +kernel
theorem dX6_nearestPair_76 : decode cX6_nearestPair 76 = .ok (.istore_n 2, 1) := by decide +kernel
theorem dX6_nearestPair_77 : decode cX6_nearestPair 77 = .ok (.iload 6, 2) := by decide +kernel
theorem dX6_nearestPair_79 : decode cX6_nearestPair 79 = .ok (.istore_n 3, 1) := by decide +kernel
theorem dX6_nearestPair_80 : decode cX6_nearestPair 80 = .ok (.iinc 5 1, 3) := by decide +kernel
theorem dX6_nearestPair_83 : decode cX6_nearestPair 83 = .ok (.goto (-62), 3) := by decide +kernel
theorem dX6_nearestPair_86 : decode cX6_nearestPair 86 = .ok (.iinc 4 1, 3) := by decide +kernel
theorem dX6_nearestPair_89 : decode cX6_nearestPair 89 = .ok (.goto (-81), 3) := by decide +kernel
theorem dX6_nearestPair_92 : decode cX6_nearestPair 92 = .ok (.iload_n 2, 1) := by decide +kernel
theorem dX6_nearestPair_93 : decode cX6_nearestPair 93 = .ok (.ireturn, 1) := by decide +kernel
theorem dX6_marksInNeither_0 : decode cX6_marksInNeither 0 = .ok (.aload_n 0, 1) := by decide +kernel
theorem dX6_marksInNeither_1 : decode cX6_marksInNeither 1 = .ok (.iload_n 1, 1) := by decide +kernel
theorem dX6_marksInNeither_2 : decode cX6_marksInNeither 2 = .ok (.invokevirtual 21, 3) := by decide +kernel
theorem dX6_marksInNeither_5 : decode cX6_marksInNeither 5 = .ok (.ifCond .eq 12, 3) := by decide +kernel
theorem dX6_marksInNeither_8 : decode cX6_marksInNeither 8 = .ok (.aload_n 0, 1) := by decide +kernel
theorem dX6_marksInNeither_9 : decode cX6_marksInNeither 9 = .ok (.iload_n 2, 1) := by decide +kernel
theorem dX6_marksInNeither_10 : decode cX6_marksInNeither 10 = .ok (.iload_n 3, 1) := by decide +kernel
theorem dX6_marksInNeither_11 : decode cX6_marksInNeither 11 = .ok (.invokevirtual 9, 3) := by decide +kernel
theorem dX6_marksInNeither_14 : decode cX6_marksInNeither 14 = .ok (.ifCond .ne 5, 3) := by decide +kernel
theorem dX6_marksInNeither_17 : decode cX6_marksInNeither 17 = .ok (.iconst 0, 1) := by decide +kernel
theorem dX6_marksInNeither_18 : decode cX6_marksInNeither 18 = .ok (.ireturn, 1) := by decide +kernel
theorem dX6_marksInNeither_19 : decode cX6_marksInNeither 19 = .ok (.aload_n 0, 1) := by decide +kernel
theorem dX6_marksInNeither_20 : decode cX6_marksInNeither 20 = .ok (.getfield 25, 3) := by decide +kernel
theorem dX6_marksInNeither_23 : decode cX6_marksInNeither 23 = .ok (.iload_n 1, 1) := by decide +kernel
theorem dX6_marksInNeither_24 : decode cX6_marksInNeither 24 = .ok (.iaload, 1) := by decide +kernel
theorem dX6_marksInNeither_25 : decode cX6_marksInNeither 25 = .ok (.aload_n 0, 1) := by decide +kernel
theorem dX6_marksInNeither_26 : decode cX6_marksInNeither 26 = .ok (.getfield 25, 3) := by decide +kernel
theorem dX6_marksInNeither_29 : decode cX6_marksInNeither 29 = .ok (.iload_n 2, 1) := by decide +kernel
theorem dX6_marksInNeither_30 : decode cX6_marksInNeither 30 = .ok (.iaload, 1) := by decide +kernel
theorem dX6_marksInNeither_31 : decode cX6_marksInNeither 31 = .ok (.ixor, 1) := by decide +kernel
theorem dX6_marksInNeither_32 : decode cX6_marksInNeither 32 = .ok (.aload_n 0, 1) := by decide +kernel
theorem dX6_marksInNeither_33 : decode cX6_marksInNeither 33 = .ok (.getfield 25, 3) := by decide +kernel
theorem dX6_marksInNeither_36 : decode cX6_marksInNeither 36 = .ok (.iload_n 1, 1) := by decide +kernel
theorem dX6_marksInNeither_37 : decode cX6_marksInNeither 37 = .ok (.iaload, 1) := by decide +kernel
theorem dX6_marksInNeither_38 : decode cX6_marksInNeither 38 = .ok (.aload_n 0, 1) := by decide +kernel
theorem dX6_marksInNeither_39 : decode cX6_marksInNeither 39 = .ok (.getfield 25, 3) := by decide +kernel
theorem dX6_marksInNeither_42 : decode cX6_marksInNeither 42 = .ok (.iload_n 3, 1) := by decide +kernel
theorem dX6_marksInNeither_43 : decode cX6_marksInNeither 43 = .ok (.iaload, 1) := by decide +kernel
theorem dX6_marksInNeither_44 : decode cX6_marksInNeither 44 = .ok (.ixor, 1) := by decide +kernel
theorem dX6_marksInNeither_45 : decode cX6_marksInNeither 45 = .ok (.iand, 1) := by decide +kernel
theorem dX6_marksInNeither_46 : decode cX6_marksInNeither 46 = .ok (.invokestatic 29, 3) := by decide +kernel
theorem dX6_marksInNeither_49 : decode cX6_marksInNeither 49 = .ok (.ireturn, 1) := by decide +kernel
theorem dX6_changes_0 : decode cX6_changes 0 = .ok (.aload_n 0, 1) := by decide +kernel
theorem dX6_changes_1 : decode cX6_changes 1 = .ok (.iload_n 1, 1) := by decide +kernel
theorem dX6_changes_2 : decode cX6_changes 2 = .ok (.iload_n 2, 1) := by decide +kernel
theorem dX6_changes_3 : decode cX6_changes 3 = .ok (.invokevirtual 9, 3) := by decide +kernel
theorem dX6_changes_6 : decode cX6_changes 6 = .ok (.ifCond .eq 13, 3) := by decide +kernel
theorem dX6_changes_9 : decode cX6_changes 9 = .ok (.aload_n 0, 1) := by decide +kernel
theorem dX6_changes_10 : decode cX6_changes 10 = .ok (.iload_n 3, 1) := by decide +kernel
theorem dX6_changes_11 : decode cX6_changes 11 = .ok (.iload 4, 2) := by decide +kernel
theorem dX6_changes_13 : decode cX6_changes 13 = .ok (.invokevirtual 9, 3) := by decide +kernel
theorem dX6_changes_16 : decode cX6_changes 16 = .ok (.ifCond .ne 5, 3) := by decide +kernel
theorem dX6_changes_19 : decode cX6_changes 19 = .ok (.iconst 0, 1) := by decide +kernel
theorem dX6_changes_20 : decode cX6_changes 20 = .ok (.ireturn, 1) := by decide +kernel
theorem dX6_changes_21 : decode cX6_changes 21 = .ok (.iconst 0, 1) := by decide +kernel
theorem dX6_changes_22 : decode cX6_changes 22 = .ok (.istore 5, 2) := by decide +kernel
theorem dX6_changes_24 : decode cX6_changes 24 = .ok (.iconst 0, 1) := by decide +kernel
theorem dX6_changes_25 : decode cX6_changes 25 = .ok (.istore 6, 2) := by decide +kernel
theorem dX6_changes_27 : decode cX6_changes 27 = .ok (.iload 6, 2) := by decide +kernel
theorem dX6_changes_29 : decode cX6_changes 29 = .ok (.bipush 6, 2) := by decide +kernel
theorem dX6_changes_31 : decode cX6_changes 31 = .ok (.if_icmp .ge 116, 3) := by decide +kernel
theorem dX6_changes_34 : decode cX6_changes 34 = .ok (.aload_n 0, 1) := by decide +kernel
theorem dX6_changes_35 : decode cX6_changes 35 = .ok (.getfield 25, 3) := by decide +kernel
theorem dX6_changes_38 : decode cX6_changes 38 = .ok (.iload_n 1, 1) := by decide +kernel
theorem dX6_changes_39 : decode cX6_changes 39 = .ok (.iaload, 1) := by decide +kernel
theorem dX6_changes_40 : decode cX6_changes 40 = .ok (.iload 6, 2) := by decide +kernel
theorem dX6_changes_42 : decode cX6_changes 42 = .ok (.ishr, 1) := by decide +kernel
theorem dX6_changes_43 : decode cX6_changes 43 = .ok (.iconst 1, 1) := by decide +kernel
theorem dX6_changes_44 : decode cX6_changes 44 = .ok (.iand, 1) := by decide +kernel
theorem dX6_changes_45 : decode cX6_changes 45 = .ok (.istore 7, 2) := by decide +kernel
theorem dX6_changes_47 : decode cX6_changes 47 = .ok (.aload_n 0, 1) := by decide +kernel
theorem dX6_changes_48 : decode cX6_changes 48 = .ok (.getfield 25, 3) := by decide +kernel
theorem dX6_changes_51 : decode cX6_changes 51 = .ok (.iload_n 2, 1) := by decide +kernel
theorem dX6_changes_52 : decode cX6_changes 52 = .ok (.iaload, 1) := by decide +kernel
theorem dX6_changes_53 : decode cX6_changes 53 = .ok (.iload 6, 2) := by decide +kernel
theorem dX6_changes_55 : decode cX6_changes 55 = .ok (.ishr, 1) := by decide +kernel
theorem dX6_changes_56 : decode cX6_changes 56 = .ok (.iconst 1, 1) := by decide +kernel
theorem dX6_changes_57 : decode cX6_changes 57 = .ok (.iand, 1) := by decide +kernel
theorem dX6_changes_58 : decode cX6_changes 58 = .ok (.istore 8, 2) := by decide +kernel
theorem dX6_changes_60 : decode cX6_changes 60 = .ok (.aload_n 0, 1) := by decide +kernel
theorem dX6_changes_61 : decode cX6_changes 61 = .ok (.getfield 25, 3) := by decide +kernel
theorem dX6_changes_64 : decode cX6_changes 64 = .ok (.iload_n 3, 1) := by decide +kernel
theorem dX6_changes_65 : decode cX6_changes 65 = .ok (.iaload, 1) := by decide +kernel
theorem dX6_changes_66 : decode cX6_changes 66 = .ok (.iload 6, 2) := by decide +kernel
theorem dX6_changes_68 : decode cX6_changes 68 = .ok (.ishr, 1) := by decide +kernel
theorem dX6_changes_69 : decode cX6_changes 69 = .ok (.iconst 1, 1) := by decide +kernel
theorem dX6_changes_70 : decode cX6_changes 70 = .ok (.iand, 1) := by decide +kernel
theorem dX6_changes_71 : decode cX6_changes 71 = .ok (.istore 9, 2) := by decide +kernel
theorem dX6_changes_73 : decode cX6_changes 73 = .ok (.aload_n 0, 1) := by decide +kernel
theorem dX6_changes_74 : decode cX6_changes 74 = .ok (.getfield 25, 3) := by decide +kernel
theorem dX6_changes_77 : decode cX6_changes 77 = .ok (.iload 4, 2) := by decide +kernel
theorem dX6_changes_79 : decode cX6_changes 79 = .ok (.iaload, 1) := by decide +kernel
theorem dX6_changes_80 : decode cX6_changes 80 = .ok (.iload 6, 2) := by decide +kernel
theorem dX6_changes_82 : decode cX6_changes 82 = .ok (.ishr, 1) := by decide +kernel
theorem dX6_changes_83 : decode cX6_changes 83 = .ok (.iconst 1, 1) := by decide +kernel
theorem dX6_changes_84 : decode cX6_changes 84 = .ok (.iand, 1) := by decide +kernel
theorem dX6_changes_85 : decode cX6_changes 85 = .ok (.istore 10, 2) := by decide +kernel
theorem dX6_changes_87 : decode cX6_changes 87 = .ok (.iload 7, 2) := by decide +kernel
theorem dX6_changes_89 : decode cX6_changes 89 = .ok (.iload 8, 2) := by decide +kernel
theorem dX6_changes_91 : decode cX6_changes 91 = .ok (.iadd, 1) := by decide +kernel
theorem dX6_changes_92 : decode cX6_changes 92 = .ok (.iload 9, 2) := by decide +kernel
theorem dX6_changes_94 : decode cX6_changes 94 = .ok (.iadd, 1) := by decide +kernel
theorem dX6_changes_95 : decode cX6_changes 95 = .ok (.iload 10, 2) := by decide +kernel
theorem dX6_changes_97 : decode cX6_changes 97 = .ok (.iadd, 1) := by decide +kernel
theorem dX6_changes_98 : decode cX6_changes 98 = .ok (.istore 11, 2) := by decide +kernel
theorem dX6_changes_100 : decode cX6_changes 100 = .ok (.iload 11, 2) := by decide +kernel
theorem dX6_changes_102 : decode cX6_changes 102 = .ok (.iconst 2, 1) := by decide +kernel
theorem dX6_changes_103 : decode cX6_changes 103 = .ok (.if_icmp .ne 23, 3) := by decide +kernel
theorem dX6_changes_106 : decode cX6_changes 106 = .ok (.iload 5, 2) := by decide +kernel
theorem dX6_changes_108 : decode cX6_changes 108 = .ok (.iload 7, 2) := by decide +kernel
theorem dX6_changes_110 : decode cX6_changes 110 = .ok (.iload 8, 2) := by decide +kernel
theorem dX6_changes_112 : decode cX6_changes 112 = .ok (.if_icmp .ne 7, 3) := by decide +kernel
theorem dX6_changes_115 : decode cX6_changes 115 = .ok (.iconst 1, 1) := by decide +kernel
theorem dX6_changes_116 : decode cX6_changes 116 = .ok (.goto 4, 3) := by decide +kernel
theorem dX6_changes_119 : decode cX6_changes 119 = .ok (.iconst 2, 1) := by decide +kernel
theorem dX6_changes_120 : decode cX6_changes 120 = .ok (.iadd, 1) := by decide +kernel
theorem dX6_changes_121 : decode cX6_changes 121 = .ok (.istore 5, 2) := by decide +kernel
theorem dX6_changes_123 : decode cX6_changes 123 = .ok (.goto 18, 3) := by decide +kernel
theorem dX6_changes_126 : decode cX6_changes 126 = .ok (.iload 11, 2) := by decide +kernel
theorem dX6_changes_128 : decode cX6_changes 128 = .ok (.iconst 1, 1) := by decide +kernel
theorem dX6_changes_129 : decode cX6_changes 129 = .ok (.if_icmp .eq 9, 3) := by decide +kernel
theorem dX6_changes_132 : decode cX6_changes 132 = .ok (.iload 11, 2) := by decide +kernel
theorem dX6_changes_134 : decode cX6_changes 134 = .ok (.iconst 3, 1) := by decide +kernel
theorem dX6_changes_135 : decode cX6_changes 135 = .ok (.if_icmp .ne 6, 3) := by decide +kernel
theorem dX6_changes_138 : decode cX6_changes 138 = .ok (.iinc 5 1, 3) := by decide +kernel
theorem dX6_changes_141 : decode cX6_changes 141 = .ok (.iinc 6 1, 3) := by decide +kernel
theorem dX6_changes_144 : decode cX6_changes 144 = .ok (.goto (-117), 3) := by decide +kernel
theorem dX6_changes_147 : decode cX6_changes 147 = .ok (.iload 5, 2) := by decide +kernel
theorem dX6_changes_149 : decode cX6_changes 149 = .ok (.ireturn, 1) := by decide +kernel
theorem dX6_leastTree_0 : decode cX6_leastTree 0 = .ok (.aload_n 0, 1) := by decide +kernel
theorem dX6_leastTree_1 : decode cX6_leastTree 1 = .ok (.invokevirtual 35, 3) := by decide +kernel
theorem dX6_leastTree_4 : decode cX6_leastTree 4 = .ok (.istore_n 1, 1) := by decide +kernel
theorem dX6_leastTree_5 : decode cX6_leastTree 5 = .ok (.iload_n 1, 1) := by decide +kernel
theorem dX6_leastTree_6 : decode cX6_leastTree 6 = .ok (.iload_n 1, 1) := by decide +kernel
theorem dX6_leastTree_7 : decode cX6_leastTree 7 = .ok (.ineg, 1) := by decide +kernel
theorem dX6_leastTree_8 : decode cX6_leastTree 8 = .ok (.iand, 1) := by decide +kernel
theorem dX6_leastTree_9 : decode cX6_leastTree 9 = .ok (.istore_n 2, 1) := by decide +kernel
theorem dX6_leastTree_10 : decode cX6_leastTree 10 = .ok (.iload_n 1, 1) := by decide +kernel
theorem dX6_leastTree_11 : decode cX6_leastTree 11 = .ok (.iload_n 2, 1) := by decide +kernel
theorem dX6_leastTree_12 : decode cX6_leastTree 12 = .ok (.iconst (-1), 1) := by decide +kernel
theorem dX6_leastTree_13 : decode cX6_leastTree 13 = .ok (.ixor, 1) := by decide +kernel
theorem dX6_leastTree_14 : decode cX6_leastTree 14 = .ok (.iand, 1) := by decide +kernel
theorem dX6_leastTree_15 : decode cX6_leastTree 15 = .ok (.istore_n 1, 1) := by decide +kernel
theorem dX6_leastTree_16 : decode cX6_leastTree 16 = .ok (.iconst 0, 1) := by decide +kernel
theorem dX6_leastTree_17 : decode cX6_leastTree 17 = .ok (.istore_n 3, 1) := by decide +kernel
theorem dX6_leastTree_18 : decode cX6_leastTree 18 = .ok (.iconst 0, 1) := by decide +kernel
theorem dX6_leastTree_19 : decode cX6_leastTree 19 = .ok (.istore 4, 2) := by decide +kernel
theorem dX6_leastTree_21 : decode cX6_leastTree 21 = .ok (.iload 4, 2) := by decide +kernel
theorem dX6_leastTree_23 : decode cX6_leastTree 23 = .ok (.bipush 8, 2) := by decide +kernel
theorem dX6_leastTree_25 : decode cX6_leastTree 25 = .ok (.if_icmp .ge 98, 3) := by decide +kernel
theorem dX6_leastTree_28 : decode cX6_leastTree 28 = .ok (.iload_n 1, 1) := by decide +kernel
theorem dX6_leastTree_29 : decode cX6_leastTree 29 = .ok (.ifCond .eq 94, 3) := by decide +kernel
theorem dX6_leastTree_32 : decode cX6_leastTree 32 = .ok (.iconst (-1), 1) := by decide +kernel
theorem dX6_leastTree_33 : decode cX6_leastTree 33 = .ok (.istore 5, 2) := by decide +kernel
theorem dX6_leastTree_35 : decode cX6_leastTree 35 = .ok (.bipush 7, 2) := by decide +kernel
theorem dX6_leastTree_37 : decode cX6_leastTree 37 = .ok (.istore 6, 2) := by decide +kernel
theorem dX6_leastTree_39 : decode cX6_leastTree 39 = .ok (.iconst 0, 1) := by decide +kernel
theorem dX6_leastTree_40 : decode cX6_leastTree 40 = .ok (.istore 7, 2) := by decide +kernel
theorem dX6_leastTree_42 : decode cX6_leastTree 42 = .ok (.iload 7, 2) := by decide +kernel
theorem dX6_leastTree_44 : decode cX6_leastTree 44 = .ok (.bipush 8, 2) := by decide +kernel
theorem dX6_leastTree_46 : decode cX6_leastTree 46 = .ok (.if_icmp .ge 47, 3) := by decide +kernel
theorem dX6_leastTree_49 : decode cX6_leastTree 49 = .ok (.iload_n 1, 1) := by decide +kernel
theorem dX6_leastTree_50 : decode cX6_leastTree 50 = .ok (.iload 7, 2) := by decide +kernel
theorem dX6_leastTree_52 : decode cX6_leastTree 52 = .ok (.ishr, 1) := by decide +kernel
theorem dX6_leastTree_53 : decode cX6_leastTree 53 = .ok (.iconst 1, 1) := by decide +kernel
theorem dX6_leastTree_54 : decode cX6_leastTree 54 = .ok (.iand, 1) := by decide +kernel
theorem dX6_leastTree_55 : decode cX6_leastTree 55 = .ok (.ifCond .eq 13, 3) := by decide +kernel
theorem dX6_leastTree_58 : decode cX6_leastTree 58 = .ok (.aload_n 0, 1) := by decide +kernel
theorem dX6_leastTree_59 : decode cX6_leastTree 59 = .ok (.iload 7, 2) := by decide +kernel
theorem dX6_leastTree_61 : decode cX6_leastTree 61 = .ok (.iload_n 2, 1) := by decide +kernel
theorem dX6_leastTree_62 : decode cX6_leastTree 62 = .ok (.invokestatic 39, 3) := by decide +kernel
theorem dX6_leastTree_65 : decode cX6_leastTree 65 = .ok (.goto 5, 3) := by decide +kernel
theorem dX6_leastTree_68 : decode cX6_leastTree 68 = .ok (.bipush 7, 2) := by decide +kernel
theorem dX6_leastTree_70 : decode cX6_leastTree 70 = .ok (.istore 8, 2) := by decide +kernel
theorem dX6_leastTree_72 : decode cX6_leastTree 72 = .ok (.iload 8, 2) := by decide +kernel
theorem dX6_leastTree_74 : decode cX6_leastTree 74 = .ok (.iload 6, 2) := by decide +kernel
theorem dX6_leastTree_76 : decode cX6_leastTree 76 = .ok (.if_icmp .ge 11, 3) := by decide +kernel
theorem dX6_leastTree_79 : decode cX6_leastTree 79 = .ok (.iload 7, 2) := by decide +kernel
theorem dX6_leastTree_81 : decode cX6_leastTree 81 = .ok (.istore 5, 2) := by decide +kernel
theorem dX6_leastTree_83 : decode cX6_leastTree 83 = .ok (.iload 8, 2) := by decide +kernel
theorem dX6_leastTree_85 : decode cX6_leastTree 85 = .ok (.istore 6, 2) := by decide +kernel
theorem dX6_leastTree_87 : decode cX6_leastTree 87 = .ok (.iinc 7 1, 3) := by decide +kernel
theorem dX6_leastTree_90 : decode cX6_leastTree 90 = .ok (.goto (-48), 3) := by decide +kernel
theorem dX6_leastTree_93 : decode cX6_leastTree 93 = .ok (.iload 5, 2) := by decide +kernel
theorem dX6_leastTree_95 : decode cX6_leastTree 95 = .ok (.iconst (-1), 1) := by decide +kernel
theorem dX6_leastTree_96 : decode cX6_leastTree 96 = .ok (.if_icmp .eq 21, 3) := by decide +kernel
theorem dX6_leastTree_99 : decode cX6_leastTree 99 = .ok (.iload_n 2, 1) := by decide +kernel
theorem dX6_leastTree_100 : decode cX6_leastTree 100 = .ok (.iconst 1, 1) := by decide +kernel
theorem dX6_leastTree_101 : decode cX6_leastTree 101 = .ok (.iload 5, 2) := by decide +kernel
theorem dX6_leastTree_103 : decode cX6_leastTree 103 = .ok (.ishl, 1) := by decide +kernel
theorem dX6_leastTree_104 : decode cX6_leastTree 104 = .ok (.ior, 1) := by decide +kernel
theorem dX6_leastTree_105 : decode cX6_leastTree 105 = .ok (.istore_n 2, 1) := by decide +kernel
theorem dX6_leastTree_106 : decode cX6_leastTree 106 = .ok (.iload_n 1, 1) := by decide +kernel
theorem dX6_leastTree_107 : decode cX6_leastTree 107 = .ok (.iload_n 2, 1) := by decide +kernel
theorem dX6_leastTree_108 : decode cX6_leastTree 108 = .ok (.iconst (-1), 1) := by decide +kernel
theorem dX6_leastTree_109 : decode cX6_leastTree 109 = .ok (.ixor, 1) := by decide +kernel
theorem dX6_leastTree_110 : decode cX6_leastTree 110 = .ok (.iand, 1) := by decide +kernel
theorem dX6_leastTree_111 : decode cX6_leastTree 111 = .ok (.istore_n 1, 1) := by decide +kernel
theorem dX6_leastTree_112 : decode cX6_leastTree 112 = .ok (.iload_n 3, 1) := by decide +kernel
theorem dX6_leastTree_113 : decode cX6_leastTree 113 = .ok (.iload 6, 2) := by decide +kernel
theorem dX6_leastTree_115 : decode cX6_leastTree 115 = .ok (.iadd, 1) := by decide +kernel
theorem dX6_leastTree_116 : decode cX6_leastTree 116 = .ok (.istore_n 3, 1) := by decide +kernel
theorem dX6_leastTree_117 : decode cX6_leastTree 117 = .ok (.iinc 4 1, 3) := by decide +kernel
theorem dX6_leastTree_120 : decode cX6_leastTree 120 = .ok (.goto (-99), 3) := by decide +kernel
theorem dX6_leastTree_123 : decode cX6_leastTree 123 = .ok (.iload_n 3, 1) := by decide +kernel
theorem dX6_leastTree_124 : decode cX6_leastTree 124 = .ok (.ireturn, 1) := by decide +kernel
theorem dX6_distanceTo_0 : decode cX6_distanceTo 0 = .ok (.bipush 6, 2) := by decide +kernel
theorem dX6_distanceTo_2 : decode cX6_distanceTo 2 = .ok (.istore_n 3, 1) := by decide +kernel
theorem dX6_distanceTo_3 : decode cX6_distanceTo 3 = .ok (.iconst 0, 1) := by decide +kernel
theorem dX6_distanceTo_4 : decode cX6_distanceTo 4 = .ok (.istore 4, 2) := by decide +kernel
theorem dX6_distanceTo_6 : decode cX6_distanceTo 6 = .ok (.iload 4, 2) := by decide +kernel
theorem dX6_distanceTo_8 : decode cX6_distanceTo 8 = .ok (.bipush 8, 2) := by decide +kernel
theorem dX6_distanceTo_10 : decode cX6_distanceTo 10 = .ok (.if_icmp .ge 33, 3) := by decide +kernel
theorem dX6_distanceTo_13 : decode cX6_distanceTo 13 = .ok (.iload_n 2, 1) := by decide +kernel
theorem dX6_distanceTo_14 : decode cX6_distanceTo 14 = .ok (.iload 4, 2) := by decide +kernel
theorem dX6_distanceTo_16 : decode cX6_distanceTo 16 = .ok (.ishr, 1) := by decide +kernel
theorem dX6_distanceTo_17 : decode cX6_distanceTo 17 = .ok (.iconst 1, 1) := by decide +kernel
theorem dX6_distanceTo_18 : decode cX6_distanceTo 18 = .ok (.iand, 1) := by decide +kernel
theorem dX6_distanceTo_19 : decode cX6_distanceTo 19 = .ok (.ifCond .eq 18, 3) := by decide +kernel
theorem dX6_distanceTo_22 : decode cX6_distanceTo 22 = .ok (.iload_n 3, 1) := by decide +kernel
theorem dX6_distanceTo_23 : decode cX6_distanceTo 23 = .ok (.bipush 6, 2) := by decide +kernel
theorem dX6_distanceTo_25 : decode cX6_distanceTo 25 = .ok (.aload_n 0, 1) := by decide +kernel
theorem dX6_distanceTo_26 : decode cX6_distanceTo 26 = .ok (.iload_n 1, 1) := by decide +kernel
theorem dX6_distanceTo_27 : decode cX6_distanceTo 27 = .ok (.iload 4, 2) := by decide +kernel
theorem dX6_distanceTo_29 : decode cX6_distanceTo 29 = .ok (.invokevirtual 43, 3) := by decide +kernel
theorem dX6_distanceTo_32 : decode cX6_distanceTo 32 = .ok (.isub, 1) := by decide +kernel
theorem dX6_distanceTo_33 : decode cX6_distanceTo 33 = .ok (.invokestatic 47, 3) := by decide +kernel
theorem dX6_distanceTo_36 : decode cX6_distanceTo 36 = .ok (.istore_n 3, 1) := by decide +kernel
theorem dX6_distanceTo_37 : decode cX6_distanceTo 37 = .ok (.iinc 4 1, 3) := by decide +kernel
theorem dX6_distanceTo_40 : decode cX6_distanceTo 40 = .ok (.goto (-34), 3) := by decide +kernel
theorem dX6_distanceTo_43 : decode cX6_distanceTo 43 = .ok (.iload_n 3, 1) := by decide +kernel
theorem dX6_distanceTo_44 : decode cX6_distanceTo 44 = .ok (.ireturn, 1) := by decide +kernel
theorem dX6_forebears_0 : decode cX6_forebears 0 = .ok (.iconst 1, 1) := by decide +kernel
theorem dX6_forebears_1 : decode cX6_forebears 1 = .ok (.iload_n 1, 1) := by decide +kernel
theorem dX6_forebears_2 : decode cX6_forebears 2 = .ok (.ishl, 1) := by decide +kernel
theorem dX6_forebears_3 : decode cX6_forebears 3 = .ok (.istore_n 2, 1) := by decide +kernel
theorem dX6_forebears_4 : decode cX6_forebears 4 = .ok (.iconst 0, 1) := by decide +kernel
theorem dX6_forebears_5 : decode cX6_forebears 5 = .ok (.istore_n 3, 1) := by decide +kernel
theorem dX6_forebears_6 : decode cX6_forebears 6 = .ok (.iconst 0, 1) := by decide +kernel
theorem dX6_forebears_7 : decode cX6_forebears 7 = .ok (.istore 4, 2) := by decide +kernel
theorem dX6_forebears_9 : decode cX6_forebears 9 = .ok (.iload 4, 2) := by decide +kernel
theorem dX6_forebears_11 : decode cX6_forebears 11 = .ok (.bipush 8, 2) := by decide +kernel
theorem dX6_forebears_13 : decode cX6_forebears 13 = .ok (.if_icmp .ge 19, 3) := by decide +kernel
theorem dX6_forebears_16 : decode cX6_forebears 16 = .ok (.aload_n 0, 1) := by decide +kernel
theorem dX6_forebears_17 : decode cX6_forebears 17 = .ok (.iload_n 2, 1) := by decide +kernel
theorem dX6_forebears_18 : decode cX6_forebears 18 = .ok (.invokevirtual 52, 3) := by decide +kernel
theorem dX6_forebears_21 : decode cX6_forebears 21 = .ok (.istore_n 2, 1) := by decide +kernel
theorem dX6_forebears_22 : decode cX6_forebears 22 = .ok (.iload_n 3, 1) := by decide +kernel
theorem dX6_forebears_23 : decode cX6_forebears 23 = .ok (.iload_n 2, 1) := by decide +kernel
theorem dX6_forebears_24 : decode cX6_forebears 24 = .ok (.ior, 1) := by decide +kernel
theorem dX6_forebears_25 : decode cX6_forebears 25 = .ok (.istore_n 3, 1) := by decide +kernel
theorem dX6_forebears_26 : decode cX6_forebears 26 = .ok (.iinc 4 1, 3) := by decide +kernel
theorem dX6_forebears_29 : decode cX6_forebears 29 = .ok (.goto (-20), 3) := by decide +kernel
theorem dX6_forebears_32 : decode cX6_forebears 32 = .ok (.iload_n 3, 1) := by decide +kernel
theorem dX6_forebears_33 : decode cX6_forebears 33 = .ok (.ireturn, 1) := by decide +kernel
theorem dX6_steps_0 : decode cX6_steps 0 = .ok (.iconst (-1), 1) := by decide +kernel
theorem dX6_steps_1 : decode cX6_steps 1 = .ok (.istore_n 3, 1) := by decide +kernel
theorem dX6_steps_2 : decode cX6_steps 2 = .ok (.iconst 1, 1) := by decide +kernel
theorem dX6_steps_3 : decode cX6_steps 3 = .ok (.iload_n 1, 1) := by decide +kernel
theorem dX6_steps_4 : decode cX6_steps 4 = .ok (.ishl, 1) := by decide +kernel
theorem dX6_steps_5 : decode cX6_steps 5 = .ok (.istore 4, 2) := by decide +kernel
theorem dX6_steps_7 : decode cX6_steps 7 = .ok (.iconst 0, 1) := by decide +kernel
theorem dX6_steps_8 : decode cX6_steps 8 = .ok (.istore 5, 2) := by decide +kernel
theorem dX6_steps_10 : decode cX6_steps 10 = .ok (.iload 5, 2) := by decide +kernel
theorem dX6_steps_12 : decode cX6_steps 12 = .ok (.bipush 8, 2) := by decide +kernel
theorem dX6_steps_14 : decode cX6_steps 14 = .ok (.if_icmp .ge 74, 3) := by decide +kernel
theorem dX6_steps_17 : decode cX6_steps 17 = .ok (.iconst 1, 1) := by decide +kernel
theorem dX6_steps_18 : decode cX6_steps 18 = .ok (.iload_n 2, 1) := by decide +kernel
theorem dX6_steps_19 : decode cX6_steps 19 = .ok (.ishl, 1) := by decide +kernel
theorem dX6_steps_20 : decode cX6_steps 20 = .ok (.istore 6, 2) := by decide +kernel
theorem dX6_steps_22 : decode cX6_steps 22 = .ok (.iconst 0, 1) := by decide +kernel
theorem dX6_steps_23 : decode cX6_steps 23 = .ok (.istore 7, 2) := by decide +kernel
theorem dX6_steps_25 : decode cX6_steps 25 = .ok (.iload 7, 2) := by decide +kernel
theorem dX6_steps_27 : decode cX6_steps 27 = .ok (.bipush 8, 2) := by decide +kernel
theorem dX6_steps_29 : decode cX6_steps 29 = .ok (.if_icmp .ge 45, 3) := by decide +kernel
theorem dX6_steps_32 : decode cX6_steps 32 = .ok (.iload 4, 2) := by decide +kernel
theorem dX6_steps_34 : decode cX6_steps 34 = .ok (.iload 6, 2) := by decide +kernel
theorem dX6_steps_36 : decode cX6_steps 36 = .ok (.iand, 1) := by decide +kernel
theorem dX6_steps_37 : decode cX6_steps 37 = .ok (.ifCond .eq 23, 3) := by decide +kernel
theorem dX6_steps_40 : decode cX6_steps 40 = .ok (.iload_n 3, 1) := by decide +kernel
theorem dX6_steps_41 : decode cX6_steps 41 = .ok (.iconst (-1), 1) := by decide +kernel
theorem dX6_steps_42 : decode cX6_steps 42 = .ok (.if_icmp .eq 12, 3) := by decide +kernel
theorem dX6_steps_45 : decode cX6_steps 45 = .ok (.iload 5, 2) := by decide +kernel
theorem dX6_steps_47 : decode cX6_steps 47 = .ok (.iload 7, 2) := by decide +kernel
theorem dX6_steps_49 : decode cX6_steps 49 = .ok (.iadd, 1) := by decide +kernel
theorem dX6_steps_50 : decode cX6_steps 50 = .ok (.iload_n 3, 1) := by decide +kernel
theorem dX6_steps_51 : decode cX6_steps 51 = .ok (.if_icmp .ge 9, 3) := by decide +kernel
theorem dX6_steps_54 : decode cX6_steps 54 = .ok (.iload 5, 2) := by decide +kernel
theorem dX6_steps_56 : decode cX6_steps 56 = .ok (.iload 7, 2) := by decide +kernel
theorem dX6_steps_58 : decode cX6_steps 58 = .ok (.iadd, 1) := by decide +kernel
theorem dX6_steps_59 : decode cX6_steps 59 = .ok (.istore_n 3, 1) := by decide +kernel
theorem dX6_steps_60 : decode cX6_steps 60 = .ok (.aload_n 0, 1) := by decide +kernel
theorem dX6_steps_61 : decode cX6_steps 61 = .ok (.iload 6, 2) := by decide +kernel
theorem dX6_steps_63 : decode cX6_steps 63 = .ok (.invokevirtual 52, 3) := by decide +kernel
theorem dX6_steps_66 : decode cX6_steps 66 = .ok (.istore 6, 2) := by decide +kernel
theorem dX6_steps_68 : decode cX6_steps 68 = .ok (.iinc 7 1, 3) := by decide +kernel
theorem dX6_steps_71 : decode cX6_steps 71 = .ok (.goto (-46), 3) := by decide +kernel
theorem dX6_steps_74 : decode cX6_steps 74 = .ok (.aload_n 0, 1) := by decide +kernel
theorem dX6_steps_75 : decode cX6_steps 75 = .ok (.iload 4, 2) := by decide +kernel
theorem dX6_steps_77 : decode cX6_steps 77 = .ok (.invokevirtual 52, 3) := by decide +kernel
theorem dX6_steps_80 : decode cX6_steps 80 = .ok (.istore 4, 2) := by decide +kernel
theorem dX6_steps_82 : decode cX6_steps 82 = .ok (.iinc 5 1, 3) := by decide +kernel
theorem dX6_steps_85 : decode cX6_steps 85 = .ok (.goto (-75), 3) := by decide +kernel
theorem dX6_steps_88 : decode cX6_steps 88 = .ok (.iload_n 3, 1) := by decide +kernel
theorem dX6_steps_89 : decode cX6_steps 89 = .ok (.ireturn, 1) := by decide +kernel
theorem dX6_mostLike_0 : decode cX6_mostLike 0 = .ok (.iconst (-1), 1) := by decide +kernel
theorem dX6_mostLike_1 : decode cX6_mostLike 1 = .ok (.istore_n 2, 1) := by decide +kernel
theorem dX6_mostLike_2 : decode cX6_mostLike 2 = .ok (.iconst (-1), 1) := by decide +kernel
theorem dX6_mostLike_3 : decode cX6_mostLike 3 = .ok (.istore_n 3, 1) := by decide +kernel
theorem dX6_mostLike_4 : decode cX6_mostLike 4 = .ok (.iconst 0, 1) := by decide +kernel
theorem dX6_mostLike_5 : decode cX6_mostLike 5 = .ok (.istore 4, 2) := by decide +kernel
theorem dX6_mostLike_7 : decode cX6_mostLike 7 = .ok (.iload 4, 2) := by decide +kernel
theorem dX6_mostLike_9 : decode cX6_mostLike 9 = .ok (.bipush 8, 2) := by decide +kernel
theorem dX6_mostLike_11 : decode cX6_mostLike 11 = .ok (.if_icmp .ge 46, 3) := by decide +kernel
theorem dX6_mostLike_14 : decode cX6_mostLike 14 = .ok (.iload 4, 2) := by decide +kernel
theorem dX6_mostLike_16 : decode cX6_mostLike 16 = .ok (.iload_n 1, 1) := by decide +kernel
theorem dX6_mostLike_17 : decode cX6_mostLike 17 = .ok (.if_icmp .eq 34, 3) := by decide +kernel
theorem dX6_mostLike_20 : decode cX6_mostLike 20 = .ok (.aload_n 0, 1) := by decide +kernel
theorem dX6_mostLike_21 : decode cX6_mostLike 21 = .ok (.iload 4, 2) := by decide +kernel
theorem dX6_mostLike_23 : decode cX6_mostLike 23 = .ok (.invokevirtual 21, 3) := by decide +kernel
theorem dX6_mostLike_26 : decode cX6_mostLike 26 = .ok (.ifCond .eq 25, 3) := by decide +kernel
theorem dX6_mostLike_29 : decode cX6_mostLike 29 = .ok (.aload_n 0, 1) := by decide +kernel
theorem dX6_mostLike_30 : decode cX6_mostLike 30 = .ok (.iload_n 1, 1) := by decide +kernel
theorem dX6_mostLike_31 : decode cX6_mostLike 31 = .ok (.iload 4, 2) := by decide +kernel
theorem dX6_mostLike_33 : decode cX6_mostLike 33 = .ok (.invokevirtual 43, 3) := by decide +kernel
theorem dX6_mostLike_36 : decode cX6_mostLike 36 = .ok (.iload_n 3, 1) := by decide +kernel
theorem dX6_mostLike_37 : decode cX6_mostLike 37 = .ok (.if_icmp .le 14, 3) := by decide +kernel
theorem dX6_mostLike_40 : decode cX6_mostLike 40 = .ok (.iload 4, 2) := by decide +kernel
theorem dX6_mostLike_42 : decode cX6_mostLike 42 = .ok (.istore_n 2, 1) := by decide +kernel
theorem dX6_mostLike_43 : decode cX6_mostLike 43 = .ok (.aload_n 0, 1) := by decide +kernel
theorem dX6_mostLike_44 : decode cX6_mostLike 44 = .ok (.iload_n 1, 1) := by decide +kernel
theorem dX6_mostLike_45 : decode cX6_mostLike 45 = .ok (.iload 4, 2) := by decide +kernel
theorem dX6_mostLike_47 : decode cX6_mostLike 47 = .ok (.invokevirtual 43, 3) := by decide +kernel
theorem dX6_mostLike_50 : decode cX6_mostLike 50 = .ok (.istore_n 3, 1) := by decide +kernel
theorem dX6_mostLike_51 : decode cX6_mostLike 51 = .ok (.iinc 4 1, 3) := by decide +kernel
theorem dX6_mostLike_54 : decode cX6_mostLike 54 = .ok (.goto (-47), 3) := by decide +kernel
theorem dX6_mostLike_57 : decode cX6_mostLike 57 = .ok (.iload_n 2, 1) := by decide +kernel
theorem dX6_mostLike_58 : decode cX6_mostLike 58 = .ok (.ireturn, 1) := by decide +kernel
theorem dX6_leastLikeAll_0 : decode cX6_leastLikeAll 0 = .ok (.iconst (-1), 1) := by decide +kernel
theorem dX6_leastLikeAll_1 : decode cX6_leastLikeAll 1 = .ok (.istore_n 1, 1) := by decide +kernel
theorem dX6_leastLikeAll_2 : decode cX6_leastLikeAll 2 = .ok (.bipush 49, 2) := by decide +kernel
theorem dX6_leastLikeAll_4 : decode cX6_leastLikeAll 4 = .ok (.istore_n 2, 1) := by decide +kernel
theorem dX6_leastLikeAll_5 : decode cX6_leastLikeAll 5 = .ok (.iconst 0, 1) := by decide +kernel
theorem dX6_leastLikeAll_6 : decode cX6_leastLikeAll 6 = .ok (.istore_n 3, 1) := by decide +kernel
theorem dX6_leastLikeAll_7 : decode cX6_leastLikeAll 7 = .ok (.iload_n 3, 1) := by decide +kernel
theorem dX6_leastLikeAll_8 : decode cX6_leastLikeAll 8 = .ok (.bipush 8, 2) := by decide +kernel
theorem dX6_leastLikeAll_10 : decode cX6_leastLikeAll 10 = .ok (.if_icmp .ge 69, 3) := by decide +kernel
theorem dX6_leastLikeAll_13 : decode cX6_leastLikeAll 13 = .ok (.aload_n 0, 1) := by decide +kernel
theorem dX6_leastLikeAll_14 : decode cX6_leastLikeAll 14 = .ok (.iload_n 3, 1) := by decide +kernel
theorem dX6_leastLikeAll_15 : decode cX6_leastLikeAll 15 = .ok (.invokevirtual 21, 3) := by decide +kernel
theorem dX6_leastLikeAll_18 : decode cX6_leastLikeAll 18 = .ok (.ifCond .eq 55, 3) := by decide +kernel
theorem dX6_leastLikeAll_21 : decode cX6_leastLikeAll 21 = .ok (.iconst 0, 1) := by decide +kernel
theorem dX6_leastLikeAll_22 : decode cX6_leastLikeAll 22 = .ok (.istore 4, 2) := by decide +kernel
theorem dX6_leastLikeAll_24 : decode cX6_leastLikeAll 24 = .ok (.iconst 0, 1) := by decide +kernel
theorem dX6_leastLikeAll_25 : decode cX6_leastLikeAll 25 = .ok (.istore 5, 2) := by decide +kernel
theorem dX6_leastLikeAll_27 : decode cX6_leastLikeAll 27 = .ok (.iload 5, 2) := by decide +kernel
theorem dX6_leastLikeAll_29 : decode cX6_leastLikeAll 29 = .ok (.bipush 8, 2) := by decide +kernel
theorem dX6_leastLikeAll_31 : decode cX6_leastLikeAll 31 = .ok (.if_icmp .ge 31, 3) := by decide +kernel
theorem dX6_leastLikeAll_34 : decode cX6_leastLikeAll 34 = .ok (.iload 4, 2) := by decide +kernel
theorem dX6_leastLikeAll_36 : decode cX6_leastLikeAll 36 = .ok (.iload 5, 2) := by decide +kernel
theorem dX6_leastLikeAll_38 : decode cX6_leastLikeAll 38 = .ok (.iload_n 3, 1) := by decide +kernel
theorem dX6_leastLikeAll_39 : decode cX6_leastLikeAll 39 = .ok (.if_icmp .ne 7, 3) := by decide +kernel
theorem dX6_leastLikeAll_42 : decode cX6_leastLikeAll 42 = .ok (.iconst 0, 1) := by decide +kernel
theorem dX6_leastLikeAll_43 : decode cX6_leastLikeAll 43 = .ok (.goto 10, 3) := by decide +kernel
theorem dX6_leastLikeAll_46 : decode cX6_leastLikeAll 46 = .ok (.aload_n 0, 1) := by decide +kernel
theorem dX6_leastLikeAll_47 : decode cX6_leastLikeAll 47 = .ok (.iload_n 3, 1) := by decide +kernel
theorem dX6_leastLikeAll_48 : decode cX6_leastLikeAll 48 = .ok (.iload 5, 2) := by decide +kernel
theorem dX6_leastLikeAll_50 : decode cX6_leastLikeAll 50 = .ok (.invokevirtual 43, 3) := by decide +kernel
theorem dX6_leastLikeAll_53 : decode cX6_leastLikeAll 53 = .ok (.iadd, 1) := by decide +kernel
theorem dX6_leastLikeAll_54 : decode cX6_leastLikeAll 54 = .ok (.istore 4, 2) := by decide +kernel
theorem dX6_leastLikeAll_56 : decode cX6_leastLikeAll 56 = .ok (.iinc 5 1, 3) := by decide +kernel
theorem dX6_leastLikeAll_59 : decode cX6_leastLikeAll 59 = .ok (.goto (-32), 3) := by decide +kernel
theorem dX6_leastLikeAll_62 : decode cX6_leastLikeAll 62 = .ok (.iload 4, 2) := by decide +kernel
theorem dX6_leastLikeAll_64 : decode cX6_leastLikeAll 64 = .ok (.iload_n 2, 1) := by decide +kernel
theorem dX6_leastLikeAll_65 : decode cX6_leastLikeAll 65 = .ok (.if_icmp .ge 8, 3) := by decide +kernel
theorem dX6_leastLikeAll_68 : decode cX6_leastLikeAll 68 = .ok (.iload_n 3, 1) := by decide +kernel
theorem dX6_leastLikeAll_69 : decode cX6_leastLikeAll 69 = .ok (.istore_n 1, 1) := by decide +kernel
theorem dX6_leastLikeAll_70 : decode cX6_leastLikeAll 70 = .ok (.iload 4, 2) := by decide +kernel
theorem dX6_leastLikeAll_72 : decode cX6_leastLikeAll 72 = .ok (.istore_n 2, 1) := by decide +kernel
theorem dX6_leastLikeAll_73 : decode cX6_leastLikeAll 73 = .ok (.iinc 3 1, 3) := by decide +kernel
theorem dX6_leastLikeAll_76 : decode cX6_leastLikeAll 76 = .ok (.goto (-69), 3) := by decide +kernel
theorem dX6_leastLikeAll_79 : decode cX6_leastLikeAll 79 = .ok (.iload_n 1, 1) := by decide +kernel
theorem dX6_leastLikeAll_80 : decode cX6_leastLikeAll 80 = .ok (.ireturn, 1) := by decide +kernel
theorem dX6_countWith_0 : decode cX6_countWith 0 = .ok (.iconst 0, 1) := by decide +kernel
theorem dX6_countWith_1 : decode cX6_countWith 1 = .ok (.istore_n 2, 1) := by decide +kernel
theorem dX6_countWith_2 : decode cX6_countWith 2 = .ok (.iconst 0, 1) := by decide +kernel
theorem dX6_countWith_3 : decode cX6_countWith 3 = .ok (.istore_n 3, 1) := by decide +kernel
theorem dX6_countWith_4 : decode cX6_countWith 4 = .ok (.iload_n 3, 1) := by decide +kernel
theorem dX6_countWith_5 : decode cX6_countWith 5 = .ok (.bipush 8, 2) := by decide +kernel
theorem dX6_countWith_7 : decode cX6_countWith 7 = .ok (.if_icmp .ge 22, 3) := by decide +kernel
theorem dX6_countWith_10 : decode cX6_countWith 10 = .ok (.iload_n 2, 1) := by decide +kernel
theorem dX6_countWith_11 : decode cX6_countWith 11 = .ok (.aload_n 0, 1) := by decide +kernel
theorem dX6_countWith_12 : decode cX6_countWith 12 = .ok (.getfield 25, 3) := by decide +kernel
theorem dX6_countWith_15 : decode cX6_countWith 15 = .ok (.iload_n 3, 1) := by decide +kernel
theorem dX6_countWith_16 : decode cX6_countWith 16 = .ok (.iaload, 1) := by decide +kernel
theorem dX6_countWith_17 : decode cX6_countWith 17 = .ok (.iload_n 1, 1) := by decide +kernel
theorem dX6_countWith_18 : decode cX6_countWith 18 = .ok (.ishr, 1) := by decide +kernel
theorem dX6_countWith_19 : decode cX6_countWith 19 = .ok (.iconst 1, 1) := by decide +kernel
theorem dX6_countWith_20 : decode cX6_countWith 20 = .ok (.iand, 1) := by decide +kernel
theorem dX6_countWith_21 : decode cX6_countWith 21 = .ok (.iadd, 1) := by decide +kernel
theorem dX6_countWith_22 : decode cX6_countWith 22 = .ok (.istore_n 2, 1) := by decide +kernel
theorem dX6_countWith_23 : decode cX6_countWith 23 = .ok (.iinc 3 1, 3) := by decide +kernel
theorem dX6_countWith_26 : decode cX6_countWith 26 = .ok (.goto (-22), 3) := by decide +kernel
theorem dX6_countWith_29 : decode cX6_countWith 29 = .ok (.iload_n 2, 1) := by decide +kernel
theorem dX6_countWith_30 : decode cX6_countWith 30 = .ok (.ireturn, 1) := by decide +kernel
theorem dX7_init_0 : decode cX7_init 0 = .ok (.aload_n 0, 1) := by decide +kernel
theorem dX7_init_1 : decode cX7_init 1 = .ok (.invokespecial 3, 3) := by decide +kernel
theorem dX7_init_4 : decode cX7_init 4 = .ok (.aload_n 0, 1) := by decide +kernel
theorem dX7_init_5 : decode cX7_init 5 = .ok (.bipush 8, 2) := by decide +kernel
theorem dX7_init_7 : decode cX7_init 7 = .ok (.newarray .int, 2) := by decide +kernel
theorem dX7_init_9 : decode cX7_init 9 = .ok (.putfield 9, 3) := by decide +kernel
theorem dX7_init_12 : decode cX7_init 12 = .ok (.aload_n 0, 1) := by decide +kernel
theorem dX7_init_13 : decode cX7_init 13 = .ok (.bipush 8, 2) := by decide +kernel
theorem dX7_init_15 : decode cX7_init 15 = .ok (.newarray .int, 2) := by decide +kernel
theorem dX7_init_17 : decode cX7_init 17 = .ok (.putfield 15, 3) := by decide +kernel
theorem dX7_init_20 : decode cX7_init 20 = .ok (.aload_n 0, 1) := by decide +kernel
theorem dX7_init_21 : decode cX7_init 21 = .ok (.bipush 8, 2) := by decide +kernel
theorem dX7_init_23 : decode cX7_init 23 = .ok (.newarray .int, 2) := by decide +kernel
theorem dX7_init_25 : decode cX7_init 25 = .ok (.putfield 18, 3) := by decide +kernel
theorem dX7_init_28 : decode cX7_init 28 = .ok (.aload_n 0, 1) := by decide +kernel
theorem dX7_init_29 : decode cX7_init 29 = .ok (.bipush 8, 2) := by decide +kernel
theorem dX7_init_31 : decode cX7_init 31 = .ok (.newarray .int, 2) := by decide +kernel
theorem dX7_init_33 : decode cX7_init 33 = .ok (.putfield 21, 3) := by decide +kernel
theorem dX7_init_36 : decode cX7_init 36 = .ok (.aload_n 0, 1) := by decide +kernel
theorem dX7_init_37 : decode cX7_init 37 = .ok (.bipush 8, 2) := by decide +kernel
theorem dX7_init_39 : decode cX7_init 39 = .ok (.newarray .int, 2) := by decide +kernel
theorem dX7_init_41 : decode cX7_init 41 = .ok (.putfield 24, 3) := by decide +kernel
theorem dX7_init_44 : decode cX7_init 44 = .ok (.aload_n 0, 1) := by decide +kernel
theorem dX7_init_45 : decode cX7_init 45 = .ok (.bipush 8, 2) := by decide +kernel
theorem dX7_init_47 : decode cX7_init 47 = .ok (.newarray .int, 2) := by decide +kernel
theorem dX7_init_49 : decode cX7_init 49 = .ok (.putfield 27, 3) := by decide +kernel
theorem dX7_init_52 : decode cX7_init 52 = .ok (.aload_n 0, 1) := by decide +kernel
theorem dX7_init_53 : decode cX7_init 53 = .ok (.bipush 8, 2) := by decide +kernel
theorem dX7_init_55 : decode cX7_init 55 = .ok (.newarray .int, 2) := by decide +kernel
theorem dX7_init_57 : decode cX7_init 57 = .ok (.putfield 30, 3) := by decide +kernel
theorem dX7_init_60 : decode cX7_init 60 = .ok (.aload_n 0, 1) := by decide +kernel
theorem dX7_init_61 : decode cX7_init 61 = .ok (.iconst 0, 1) := by decide +kernel
theorem dX7_init_62 : decode cX7_init 62 = .ok (.putfield 33, 3) := by decide +kernel
theorem dX7_init_65 : decode cX7_init 65 = .ok (.aload_n 0, 1) := by decide +kernel
theorem dX7_init_66 : decode cX7_init 66 = .ok (.iconst 0, 1) := by decide +kernel
theorem dX7_init_67 : decode cX7_init 67 = .ok (.putfield 37, 3) := by decide +kernel
theorem dX7_init_70 : decode cX7_init 70 = .ok (.aload_n 0, 1) := by decide +kernel
theorem dX7_init_71 : decode cX7_init 71 = .ok (.iconst 0, 1) := by decide +kernel
theorem dX7_init_72 : decode cX7_init 72 = .ok (.putfield 40, 3) := by decide +kernel
theorem dX7_init_75 : decode cX7_init 75 = .ok (.aload_n 0, 1) := by decide +kernel
theorem dX7_init_76 : decode cX7_init 76 = .ok (.aload_n 1, 1) := by decide +kernel
theorem dX7_init_77 : decode cX7_init 77 = .ok (.putfield 43, 3) := by decide +kernel
theorem dX7_init_80 : decode cX7_init 80 = .ok (.iconst 0, 1) := by decide +kernel
theorem dX7_init_81 : decode cX7_init 81 = .ok (.istore_n 2, 1) := by decide +kernel
theorem dX7_init_82 : decode cX7_init 82 = .ok (.iload_n 2, 1) := by decide +kernel
theorem dX7_init_83 : decode cX7_init 83 = .ok (.bipush 8, 2) := by decide +kernel
theorem dX7_init_85 : decode cX7_init 85 = .ok (.if_icmp .ge 14, 3) := by decide +kernel
theorem dX7_init_88 : decode cX7_init 88 = .ok (.aload_n 0, 1) := by decide +kernel
theorem dX7_init_89 : decode cX7_init 89 = .ok (.iload_n 2, 1) := by decide +kernel
theorem dX7_init_90 : decode cX7_init 90 = .ok (.invokevirtual 47, 3) := by decide +kernel
theorem dX7_init_93 : decode cX7_init 93 = .ok (.iinc 2 1, 3) := by decide +kernel
theorem dX7_init_96 : decode cX7_init 96 = .ok (.goto (-14), 3) := by decide +kernel
theorem dX7_init_99 : decode cX7_init 99 = .ok (.return_, 1) := by decide +kernel
theorem dX7_standAsTold_0 : decode cX7_standAsTold 0 = .ok (.iconst 0, 1) := by decide +kernel
theorem dX7_standAsTold_1 : decode cX7_standAsTold 1 = .ok (.istore_n 1, 1) := by decide +kernel
theorem dX7_standAsTold_2 : decode cX7_standAsTold 2 = .ok (.iload_n 1, 1) := by decide +kernel
theorem dX7_standAsTold_3 : decode cX7_standAsTold 3 = .ok (.bipush 8, 2) := by decide +kernel
theorem dX7_standAsTold_5 : decode cX7_standAsTold 5 = .ok (.if_icmp .ge 14, 3) := by decide +kernel
theorem dX7_standAsTold_8 : decode cX7_standAsTold 8 = .ok (.aload_n 0, 1) := by decide +kernel
theorem dX7_standAsTold_9 : decode cX7_standAsTold 9 = .ok (.iload_n 1, 1) := by decide +kernel
theorem dX7_standAsTold_10 : decode cX7_standAsTold 10 = .ok (.invokevirtual 47, 3) := by decide +kernel
theorem dX7_standAsTold_13 : decode cX7_standAsTold 13 = .ok (.iinc 1 1, 3) := by decide +kernel
theorem dX7_standAsTold_16 : decode cX7_standAsTold 16 = .ok (.goto (-14), 3) := by decide +kernel
theorem dX7_standAsTold_19 : decode cX7_standAsTold 19 = .ok (.iconst 0, 1) := by decide +kernel
theorem dX7_standAsTold_20 : decode cX7_standAsTold 20 = .ok (.istore_n 1, 1) := by decide +kernel
theorem dX7_standAsTold_21 : decode cX7_standAsTold 21 = .ok (.iload_n 1, 1) := by decide +kernel
theorem dX7_standAsTold_22 : decode cX7_standAsTold 22 = .ok (.aload_n 0, 1) := by decide +kernel
theorem dX7_standAsTold_23 : decode cX7_standAsTold 23 = .ok (.getfield 43, 3) := by decide +kernel
theorem dX7_standAsTold_26 : decode cX7_standAsTold 26 = .ok (.getfield 51, 3) := by decide +kernel
theorem dX7_standAsTold_29 : decode cX7_standAsTold 29 = .ok (.if_icmp .ge 62, 3) := by decide +kernel
theorem dX7_standAsTold_32 : decode cX7_standAsTold 32 = .ok (.iload_n 1, 1) := by decide +kernel
theorem dX7_standAsTold_33 : decode cX7_standAsTold 33 = .ok (.bipush 6, 2) := by decide +kernel
theorem dX7_standAsTold_35 : decode cX7_standAsTold 35 = .ok (.if_icmp .ge 56, 3) := by decide +kernel
theorem dX7_standAsTold_38 : decode cX7_standAsTold 38 = .ok (.aload_n 0, 1) := by decide +kernel
theorem dX7_standAsTold_39 : decode cX7_standAsTold 39 = .ok (.iload_n 1, 1) := by decide +kernel
theorem dX7_standAsTold_40 : decode cX7_standAsTold 40 = .ok (.aload_n 0, 1) := by decide +kernel
theorem dX7_standAsTold_41 : decode cX7_standAsTold 41 = .ok (.getfield 43, 3) := by decide +kernel
theorem dX7_standAsTold_44 : decode cX7_standAsTold 44 = .ok (.getfield 56, 3) := by decide +kernel
theorem dX7_standAsTold_47 : decode cX7_standAsTold 47 = .ok (.iload_n 1, 1) := by decide +kernel
theorem dX7_standAsTold_48 : decode cX7_standAsTold 48 = .ok (.iaload, 1) := by decide +kernel
theorem dX7_standAsTold_49 : decode cX7_standAsTold 49 = .ok (.aload_n 0, 1) := by decide +kernel
theorem dX7_standAsTold_50 : decode cX7_standAsTold 50 = .ok (.getfield 43, 3) := by decide +kernel
theorem dX7_standAsTold_53 : decode cX7_standAsTold 53 = .ok (.getfield 57, 3) := by decide +kernel
theorem dX7_standAsTold_56 : decode cX7_standAsTold 56 = .ok (.iload_n 1, 1) := by decide +kernel
theorem dX7_standAsTold_57 : decode cX7_standAsTold 57 = .ok (.iaload, 1) := by decide +kernel
theorem dX7_standAsTold_58 : decode cX7_standAsTold 58 = .ok (.aload_n 0, 1) := by decide +kernel
theorem dX7_standAsTold_59 : decode cX7_standAsTold 59 = .ok (.getfield 43, 3) := by decide +kernel
theorem dX7_standAsTold_62 : decode cX7_standAsTold 62 = .ok (.getfield 58, 3) := by decide +kernel
theorem dX7_standAsTold_65 : decode cX7_standAsTold 65 = .ok (.iload_n 1, 1) := by decide +kernel
theorem dX7_standAsTold_66 : decode cX7_standAsTold 66 = .ok (.iaload, 1) := by decide +kernel
theorem dX7_standAsTold_67 : decode cX7_standAsTold 67 = .ok (.invokevirtual 59, 3) := by decide +kernel
theorem dX7_standAsTold_70 : decode cX7_standAsTold 70 = .ok (.aload_n 0, 1) := by decide +kernel
theorem dX7_standAsTold_71 : decode cX7_standAsTold 71 = .ok (.getfield 21, 3) := by decide +kernel
theorem dX7_standAsTold_74 : decode cX7_standAsTold 74 = .ok (.iload_n 1, 1) := by decide +kernel
theorem dX7_standAsTold_75 : decode cX7_standAsTold 75 = .ok (.aload_n 0, 1) := by decide +kernel
theorem dX7_standAsTold_76 : decode cX7_standAsTold 76 = .ok (.getfield 43, 3) := by decide +kernel
theorem dX7_standAsTold_79 : decode cX7_standAsTold 79 = .ok (.getfield 63, 3) := by decide +kernel
theorem dX7_standAsTold_82 : decode cX7_standAsTold 82 = .ok (.iload_n 1, 1) := by decide +kernel
theorem dX7_standAsTold_83 : decode cX7_standAsTold 83 = .ok (.iaload, 1) := by decide +kernel
theorem dX7_standAsTold_84 : decode cX7_standAsTold 84 = .ok (.iastore, 1) := by decide +kernel
theorem dX7_standAsTold_85 : decode cX7_standAsTold 85 = .ok (.iinc 1 1, 3) := by decide +kernel
theorem dX7_standAsTold_88 : decode cX7_standAsTold 88 = .ok (.goto (-67), 3) := by decide +kernel
theorem dX7_standAsTold_91 : decode cX7_standAsTold 91 = .ok (.aload_n 0, 1) := by decide +kernel
theorem dX7_standAsTold_92 : decode cX7_standAsTold 92 = .ok (.aload_n 0, 1) := by decide +kernel
theorem dX7_standAsTold_93 : decode cX7_standAsTold 93 = .ok (.getfield 43, 3) := by decide +kernel
theorem dX7_standAsTold_96 : decode cX7_standAsTold 96 = .ok (.getfield 64, 3) := by decide +kernel
theorem dX7_standAsTold_99 : decode cX7_standAsTold 99 = .ok (.putfield 33, 3) := by decide +kernel
theorem dX7_standAsTold_102 : decode cX7_standAsTold 102 = .ok (.aload_n 0, 1) := by decide +kernel
theorem dX7_standAsTold_103 : decode cX7_standAsTold 103 = .ok (.iconst 0, 1) := by decide +kernel
theorem dX7_standAsTold_104 : decode cX7_standAsTold 104 = .ok (.putfield 37, 3) := by decide +kernel
theorem dX7_standAsTold_107 : decode cX7_standAsTold 107 = .ok (.aload_n 0, 1) := by decide +kernel
theorem dX7_standAsTold_108 : decode cX7_standAsTold 108 = .ok (.aload_n 0, 1) := by decide +kernel
theorem dX7_standAsTold_109 : decode cX7_standAsTold 109 = .ok (.getfield 43, 3) := by decide +kernel
theorem dX7_standAsTold_112 : decode cX7_standAsTold 112 = .ok (.getfield 65, 3) := by decide +kernel
theorem dX7_standAsTold_115 : decode cX7_standAsTold 115 = .ok (.putfield 40, 3) := by decide +kernel
theorem dX7_standAsTold_118 : decode cX7_standAsTold 118 = .ok (.return_, 1) := by decide +kernel
theorem dX7_copyFrom_0 : decode cX7_copyFrom 0 = .ok (.aload_n 1, 1) := by decide +kernel
theorem dX7_copyFrom_1 : decode cX7_copyFrom 1 = .ok (.getfield 9, 3) := by decide +kernel
theorem dX7_copyFrom_4 : decode cX7_copyFrom 4 = .ok (.iconst 0, 1) := by decide +kernel
theorem dX7_copyFrom_5 : decode cX7_copyFrom 5 = .ok (.aload_n 0, 1) := by decide +kernel
theorem dX7_copyFrom_6 : decode cX7_copyFrom 6 = .ok (.getfield 9, 3) := by decide +kernel
theorem dX7_copyFrom_9 : decode cX7_copyFrom 9 = .ok (.iconst 0, 1) := by decide +kernel
theorem dX7_copyFrom_10 : decode cX7_copyFrom 10 = .ok (.bipush 8, 2) := by decide +kernel
theorem dX7_copyFrom_12 : decode cX7_copyFrom 12 = .ok (.invokestatic 68, 3) := by decide +kernel
theorem dX7_copyFrom_15 : decode cX7_copyFrom 15 = .ok (.aload_n 1, 1) := by decide +kernel
theorem dX7_copyFrom_16 : decode cX7_copyFrom 16 = .ok (.getfield 15, 3) := by decide +kernel
theorem dX7_copyFrom_19 : decode cX7_copyFrom 19 = .ok (.iconst 0, 1) := by decide +kernel
theorem dX7_copyFrom_20 : decode cX7_copyFrom 20 = .ok (.aload_n 0, 1) := by decide +kernel
theorem dX7_copyFrom_21 : decode cX7_copyFrom 21 = .ok (.getfield 15, 3) := by decide +kernel
theorem dX7_copyFrom_24 : decode cX7_copyFrom 24 = .ok (.iconst 0, 1) := by decide +kernel
theorem dX7_copyFrom_25 : decode cX7_copyFrom 25 = .ok (.bipush 8, 2) := by decide +kernel
theorem dX7_copyFrom_27 : decode cX7_copyFrom 27 = .ok (.invokestatic 68, 3) := by decide +kernel
theorem dX7_copyFrom_30 : decode cX7_copyFrom 30 = .ok (.aload_n 1, 1) := by decide +kernel
theorem dX7_copyFrom_31 : decode cX7_copyFrom 31 = .ok (.getfield 18, 3) := by decide +kernel
theorem dX7_copyFrom_34 : decode cX7_copyFrom 34 = .ok (.iconst 0, 1) := by decide +kernel
theorem dX7_copyFrom_35 : decode cX7_copyFrom 35 = .ok (.aload_n 0, 1) := by decide +kernel
theorem dX7_copyFrom_36 : decode cX7_copyFrom 36 = .ok (.getfield 18, 3) := by decide +kernel
theorem dX7_copyFrom_39 : decode cX7_copyFrom 39 = .ok (.iconst 0, 1) := by decide +kernel
theorem dX7_copyFrom_40 : decode cX7_copyFrom 40 = .ok (.bipush 8, 2) := by decide +kernel
theorem dX7_copyFrom_42 : decode cX7_copyFrom 42 = .ok (.invokestatic 68, 3) := by decide +kernel
theorem dX7_copyFrom_45 : decode cX7_copyFrom 45 = .ok (.aload_n 1, 1) := by decide +kernel
theorem dX7_copyFrom_46 : decode cX7_copyFrom 46 = .ok (.getfield 21, 3) := by decide +kernel
theorem dX7_copyFrom_49 : decode cX7_copyFrom 49 = .ok (.iconst 0, 1) := by decide +kernel
theorem dX7_copyFrom_50 : decode cX7_copyFrom 50 = .ok (.aload_n 0, 1) := by decide +kernel
theorem dX7_copyFrom_51 : decode cX7_copyFrom 51 = .ok (.getfield 21, 3) := by decide +kernel
theorem dX7_copyFrom_54 : decode cX7_copyFrom 54 = .ok (.iconst 0, 1) := by decide +kernel
theorem dX7_copyFrom_55 : decode cX7_copyFrom 55 = .ok (.bipush 8, 2) := by decide +kernel
theorem dX7_copyFrom_57 : decode cX7_copyFrom 57 = .ok (.invokestatic 68, 3) := by decide +kernel
theorem dX7_copyFrom_60 : decode cX7_copyFrom 60 = .ok (.aload_n 1, 1) := by decide +kernel
theorem dX7_copyFrom_61 : decode cX7_copyFrom 61 = .ok (.getfield 24, 3) := by decide +kernel
theorem dX7_copyFrom_64 : decode cX7_copyFrom 64 = .ok (.iconst 0, 1) := by decide +kernel
theorem dX7_copyFrom_65 : decode cX7_copyFrom 65 = .ok (.aload_n 0, 1) := by decide +kernel
theorem dX7_copyFrom_66 : decode cX7_copyFrom 66 = .ok (.getfield 24, 3) := by decide +kernel
theorem dX7_copyFrom_69 : decode cX7_copyFrom 69 = .ok (.iconst 0, 1) := by decide +kernel
theorem dX7_copyFrom_70 : decode cX7_copyFrom 70 = .ok (.bipush 8, 2) := by decide +kernel
theorem dX7_copyFrom_72 : decode cX7_copyFrom 72 = .ok (.invokestatic 68, 3) := by decide +kernel
theorem dX7_copyFrom_75 : decode cX7_copyFrom 75 = .ok (.aload_n 1, 1) := by decide +kernel
theorem dX7_copyFrom_76 : decode cX7_copyFrom 76 = .ok (.getfield 27, 3) := by decide +kernel
theorem dX7_copyFrom_79 : decode cX7_copyFrom 79 = .ok (.iconst 0, 1) := by decide +kernel
theorem dX7_copyFrom_80 : decode cX7_copyFrom 80 = .ok (.aload_n 0, 1) := by decide +kernel
theorem dX7_copyFrom_81 : decode cX7_copyFrom 81 = .ok (.getfield 27, 3) := by decide +kernel
theorem dX7_copyFrom_84 : decode cX7_copyFrom 84 = .ok (.iconst 0, 1) := by decide +kernel
theorem dX7_copyFrom_85 : decode cX7_copyFrom 85 = .ok (.bipush 8, 2) := by decide +kernel
theorem dX7_copyFrom_87 : decode cX7_copyFrom 87 = .ok (.invokestatic 68, 3) := by decide +kernel
theorem dX7_copyFrom_90 : decode cX7_copyFrom 90 = .ok (.aload_n 1, 1) := by decide +kernel
theorem dX7_copyFrom_91 : decode cX7_copyFrom 91 = .ok (.getfield 30, 3) := by decide +kernel
theorem dX7_copyFrom_94 : decode cX7_copyFrom 94 = .ok (.iconst 0, 1) := by decide +kernel
theorem dX7_copyFrom_95 : decode cX7_copyFrom 95 = .ok (.aload_n 0, 1) := by decide +kernel
theorem dX7_copyFrom_96 : decode cX7_copyFrom 96 = .ok (.getfield 30, 3) := by decide +kernel
theorem dX7_copyFrom_99 : decode cX7_copyFrom 99 = .ok (.iconst 0, 1) := by decide +kernel
theorem dX7_copyFrom_100 : decode cX7_copyFrom 100 = .ok (.bipush 8, 2) := by decide +kernel
theorem dX7_copyFrom_102 : decode cX7_copyFrom 102 = .ok (.invokestatic 68, 3) := by decide +kernel
theorem dX7_copyFrom_105 : decode cX7_copyFrom 105 = .ok (.aload_n 0, 1) := by decide +kernel
theorem dX7_copyFrom_106 : decode cX7_copyFrom 106 = .ok (.aload_n 1, 1) := by decide +kernel
theorem dX7_copyFrom_107 : decode cX7_copyFrom 107 = .ok (.getfield 33, 3) := by decide +kernel
theorem dX7_copyFrom_110 : decode cX7_copyFrom 110 = .ok (.putfield 33, 3) := by decide +kernel
theorem dX7_copyFrom_113 : decode cX7_copyFrom 113 = .ok (.aload_n 0, 1) := by decide +kernel
theorem dX7_copyFrom_114 : decode cX7_copyFrom 114 = .ok (.aload_n 1, 1) := by decide +kernel
theorem dX7_copyFrom_115 : decode cX7_copyFrom 115 = .ok (.getfield 37, 3) := by decide +kernel
theorem dX7_copyFrom_118 : decode cX7_copyFrom 118 = .ok (.putfield 37, 3) := by decide +kernel
theorem dX7_copyFrom_121 : decode cX7_copyFrom 121 = .ok (.aload_n 0, 1) := by decide +kernel
theorem dX7_copyFrom_122 : decode cX7_copyFrom 122 = .ok (.aload_n 1, 1) := by decide +kernel
theorem dX7_copyFrom_123 : decode cX7_copyFrom 123 = .ok (.getfield 40, 3) := by decide +kernel
theorem dX7_copyFrom_126 : decode cX7_copyFrom 126 = .ok (.putfield 40, 3) := by decide +kernel
theorem dX7_copyFrom_129 : decode cX7_copyFrom 129 = .ok (.return_, 1) := by decide +kernel
theorem dX7_add_0 : decode cX7_add 0 = .ok (.iload_n 1, 1) := by decide +kernel
theorem dX7_add_1 : decode cX7_add 1 = .ok (.ifCond .lt 31, 3) := by decide +kernel
theorem dX7_add_4 : decode cX7_add 4 = .ok (.iload_n 1, 1) := by decide +kernel
theorem dX7_add_5 : decode cX7_add 5 = .ok (.bipush 8, 2) := by decide +kernel
theorem dX7_add_7 : decode cX7_add 7 = .ok (.if_icmp .ge 25, 3) := by decide +kernel
theorem dX7_add_10 : decode cX7_add 10 = .ok (.aload_n 0, 1) := by decide +kernel
theorem dX7_add_11 : decode cX7_add 11 = .ok (.getfield 9, 3) := by decide +kernel
theorem dX7_add_14 : decode cX7_add 14 = .ok (.iload_n 1, 1) := by decide +kernel
theorem dX7_add_15 : decode cX7_add 15 = .ok (.iload_n 2, 1) := by decide +kernel
theorem dX7_add_16 : decode cX7_add 16 = .ok (.iastore, 1) := by decide +kernel
theorem dX7_add_17 : decode cX7_add 17 = .ok (.aload_n 0, 1) := by decide +kernel
theorem dX7_add_18 : decode cX7_add 18 = .ok (.getfield 15, 3) := by decide +kernel
theorem dX7_add_21 : decode cX7_add 21 = .ok (.iload_n 1, 1) := by decide +kernel
theorem dX7_add_22 : decode cX7_add 22 = .ok (.iload_n 3, 1) := by decide +kernel
theorem dX7_add_23 : decode cX7_add 23 = .ok (.iastore, 1) := by decide +kernel
theorem dX7_add_24 : decode cX7_add 24 = .ok (.aload_n 0, 1) := by decide +kernel
theorem dX7_add_25 : decode cX7_add 25 = .ok (.getfield 18, 3) := by decide +kernel
theorem dX7_add_28 : decode cX7_add 28 = .ok (.iload_n 1, 1) := by decide +kernel
theorem dX7_add_29 : decode cX7_add 29 = .ok (.iload 4, 2) := by decide +kernel
theorem dX7_add_31 : decode cX7_add 31 = .ok (.iastore, 1) := by decide +kernel
theorem dX7_add_32 : decode cX7_add 32 = .ok (.return_, 1) := by decide +kernel
theorem dX7_remove_0 : decode cX7_remove 0 = .ok (.iload_n 1, 1) := by decide +kernel
theorem dX7_remove_1 : decode cX7_remove 1 = .ok (.ifCond .lt 9, 3) := by decide +kernel
theorem dX7_remove_4 : decode cX7_remove 4 = .ok (.iload_n 1, 1) := by decide +kernel
theorem dX7_remove_5 : decode cX7_remove 5 = .ok (.bipush 8, 2) := by decide +kernel
theorem dX7_remove_7 : decode cX7_remove 7 = .ok (.if_icmp .lt 4, 3) := by decide +kernel
theorem dX7_remove_10 : decode cX7_remove 10 = .ok (.return_, 1) := by decide +kernel
theorem dX7_remove_11 : decode cX7_remove 11 = .ok (.aload_n 0, 1) := by decide +kernel
theorem dX7_remove_12 : decode cX7_remove 12 = .ok (.getfield 9, 3) := by decide +kernel
theorem dX7_remove_15 : decode cX7_remove 15 = .ok (.iload_n 1, 1) := by decide +kernel
theorem dX7_remove_16 : decode cX7_remove 16 = .ok (.iconst 0, 1) := by decide +kernel
theorem dX7_remove_17 : decode cX7_remove 17 = .ok (.iastore, 1) := by decide +kernel
theorem dX7_remove_18 : decode cX7_remove 18 = .ok (.aload_n 0, 1) := by decide +kernel
theorem dX7_remove_19 : decode cX7_remove 19 = .ok (.getfield 15, 3) := by decide +kernel
theorem dX7_remove_22 : decode cX7_remove 22 = .ok (.iload_n 1, 1) := by decide +kernel
theorem dX7_remove_23 : decode cX7_remove 23 = .ok (.iconst (-1), 1) := by decide +kernel
theorem dX7_remove_24 : decode cX7_remove 24 = .ok (.iastore, 1) := by decide +kernel
theorem dX7_remove_25 : decode cX7_remove 25 = .ok (.aload_n 0, 1) := by decide +kernel
theorem dX7_remove_26 : decode cX7_remove 26 = .ok (.getfield 18, 3) := by decide +kernel
theorem dX7_remove_29 : decode cX7_remove 29 = .ok (.iload_n 1, 1) := by decide +kernel
theorem dX7_remove_30 : decode cX7_remove 30 = .ok (.iconst 0, 1) := by decide +kernel
theorem dX7_remove_31 : decode cX7_remove 31 = .ok (.iastore, 1) := by decide +kernel
theorem dX7_remove_32 : decode cX7_remove 32 = .ok (.aload_n 0, 1) := by decide +kernel
theorem dX7_remove_33 : decode cX7_remove 33 = .ok (.getfield 21, 3) := by decide +kernel
theorem dX7_remove_36 : decode cX7_remove 36 = .ok (.iload_n 1, 1) := by decide +kernel
theorem dX7_remove_37 : decode cX7_remove 37 = .ok (.iconst 0, 1) := by decide +kernel
theorem dX7_remove_38 : decode cX7_remove 38 = .ok (.iastore, 1) := by decide +kernel
theorem dX7_remove_39 : decode cX7_remove 39 = .ok (.aload_n 0, 1) := by decide +kernel
theorem dX7_remove_40 : decode cX7_remove 40 = .ok (.getfield 24, 3) := by decide +kernel
theorem dX7_remove_43 : decode cX7_remove 43 = .ok (.iload_n 1, 1) := by decide +kernel
theorem dX7_remove_44 : decode cX7_remove 44 = .ok (.iconst 0, 1) := by decide +kernel
theorem dX7_remove_45 : decode cX7_remove 45 = .ok (.iastore, 1) := by decide +kernel
theorem dX7_remove_46 : decode cX7_remove 46 = .ok (.aload_n 0, 1) := by decide +kernel
theorem dX7_remove_47 : decode cX7_remove 47 = .ok (.getfield 27, 3) := by decide +kernel
theorem dX7_remove_50 : decode cX7_remove 50 = .ok (.iload_n 1, 1) := by decide +kernel
theorem dX7_remove_51 : decode cX7_remove 51 = .ok (.iconst (-1), 1) := by decide +kernel
theorem dX7_remove_52 : decode cX7_remove 52 = .ok (.iastore, 1) := by decide +kernel
theorem dX7_remove_53 : decode cX7_remove 53 = .ok (.aload_n 0, 1) := by decide +kernel
theorem dX7_remove_54 : decode cX7_remove 54 = .ok (.getfield 30, 3) := by decide +kernel
theorem dX7_remove_57 : decode cX7_remove 57 = .ok (.iload_n 1, 1) := by decide +kernel
theorem dX7_remove_58 : decode cX7_remove 58 = .ok (.iconst (-1), 1) := by decide +kernel
theorem dX7_remove_59 : decode cX7_remove 59 = .ok (.iastore, 1) := by decide +kernel
theorem dX7_remove_60 : decode cX7_remove 60 = .ok (.iconst 0, 1) := by decide +kernel
theorem dX7_remove_61 : decode cX7_remove 61 = .ok (.istore_n 2, 1) := by decide +kernel
theorem dX7_remove_62 : decode cX7_remove 62 = .ok (.iload_n 2, 1) := by decide +kernel
theorem dX7_remove_63 : decode cX7_remove 63 = .ok (.bipush 8, 2) := by decide +kernel
theorem dX7_remove_65 : decode cX7_remove 65 = .ok (.if_icmp .ge 43, 3) := by decide +kernel
theorem dX7_remove_68 : decode cX7_remove 68 = .ok (.aload_n 0, 1) := by decide +kernel
theorem dX7_remove_69 : decode cX7_remove 69 = .ok (.getfield 27, 3) := by decide +kernel
theorem dX7_remove_72 : decode cX7_remove 72 = .ok (.iload_n 2, 1) := by decide +kernel
theorem dX7_remove_73 : decode cX7_remove 73 = .ok (.iaload, 1) := by decide +kernel
theorem dX7_remove_74 : decode cX7_remove 74 = .ok (.iload_n 1, 1) := by decide +kernel
theorem dX7_remove_75 : decode cX7_remove 75 = .ok (.if_icmp .ne 10, 3) := by decide +kernel
theorem dX7_remove_78 : decode cX7_remove 78 = .ok (.aload_n 0, 1) := by decide +kernel
theorem dX7_remove_79 : decode cX7_remove 79 = .ok (.getfield 27, 3) := by decide +kernel
theorem dX7_remove_82 : decode cX7_remove 82 = .ok (.iload_n 2, 1) := by decide +kernel
theorem dX7_remove_83 : decode cX7_remove 83 = .ok (.iconst (-1), 1) := by decide +kernel
theorem dX7_remove_84 : decode cX7_remove 84 = .ok (.iastore, 1) := by decide +kernel
theorem dX7_remove_85 : decode cX7_remove 85 = .ok (.aload_n 0, 1) := by decide +kernel
theorem dX7_remove_86 : decode cX7_remove 86 = .ok (.getfield 30, 3) := by decide +kernel
theorem dX7_remove_89 : decode cX7_remove 89 = .ok (.iload_n 2, 1) := by decide +kernel
theorem dX7_remove_90 : decode cX7_remove 90 = .ok (.iaload, 1) := by decide +kernel
theorem dX7_remove_91 : decode cX7_remove 91 = .ok (.iload_n 1, 1) := by decide +kernel
theorem dX7_remove_92 : decode cX7_remove 92 = .ok (.if_icmp .ne 10, 3) := by decide +kernel
theorem dX7_remove_95 : decode cX7_remove 95 = .ok (.aload_n 0, 1) := by decide +kernel
theorem dX7_remove_96 : decode cX7_remove 96 = .ok (.getfield 30, 3) := by decide +kernel
theorem dX7_remove_99 : decode cX7_remove 99 = .ok (.iload_n 2, 1) := by decide +kernel
theorem dX7_remove_100 : decode cX7_remove 100 = .ok (.iconst (-1), 1) := by decide +kernel
theorem dX7_remove_101 : decode cX7_remove 101 = .ok (.iastore, 1) := by decide +kernel
theorem dX7_remove_102 : decode cX7_remove 102 = .ok (.iinc 2 1, 3) := by decide +kernel
theorem dX7_remove_105 : decode cX7_remove 105 = .ok (.goto (-43), 3) := by decide +kernel
theorem dX7_remove_108 : decode cX7_remove 108 = .ok (.return_, 1) := by decide +kernel
theorem dX7_has_0 : decode cX7_has 0 = .ok (.iload_n 1, 1) := by decide +kernel
theorem dX7_has_1 : decode cX7_has 1 = .ok (.ifCond .lt 22, 3) := by decide +kernel
theorem dX7_has_4 : decode cX7_has 4 = .ok (.iload_n 1, 1) := by decide +kernel
theorem dX7_has_5 : decode cX7_has 5 = .ok (.bipush 8, 2) := by decide +kernel
theorem dX7_has_7 : decode cX7_has 7 = .ok (.if_icmp .ge 16, 3) := by decide +kernel
theorem dX7_has_10 : decode cX7_has 10 = .ok (.aload_n 0, 1) := by decide +kernel
theorem dX7_has_11 : decode cX7_has 11 = .ok (.getfield 9, 3) := by decide +kernel
theorem dX7_has_14 : decode cX7_has 14 = .ok (.iload_n 1, 1) := by decide +kernel
theorem dX7_has_15 : decode cX7_has 15 = .ok (.iaload, 1) := by decide +kernel
theorem dX7_has_16 : decode cX7_has 16 = .ok (.ifCond .le 7, 3) := by decide +kernel
theorem dX7_has_19 : decode cX7_has 19 = .ok (.iconst 1, 1) := by decide +kernel
theorem dX7_has_20 : decode cX7_has 20 = .ok (.goto 4, 3) := by decide +kernel
theorem dX7_has_23 : decode cX7_has 23 = .ok (.iconst 0, 1) := by decide +kernel
theorem dX7_has_24 : decode cX7_has 24 = .ok (.ireturn, 1) := by decide +kernel
theorem dX7_hasBoth_0 : decode cX7_hasBoth 0 = .ok (.aload_n 0, 1) := by decide +kernel
theorem dX7_hasBoth_1 : decode cX7_hasBoth 1 = .ok (.iload_n 1, 1) := by decide +kernel
theorem dX7_hasBoth_2 : decode cX7_hasBoth 2 = .ok (.invokevirtual 74, 3) := by decide +kernel
theorem dX7_hasBoth_5 : decode cX7_hasBoth 5 = .ok (.ifCond .eq 15, 3) := by decide +kernel
theorem dX7_hasBoth_8 : decode cX7_hasBoth 8 = .ok (.aload_n 0, 1) := by decide +kernel
theorem dX7_hasBoth_9 : decode cX7_hasBoth 9 = .ok (.iload_n 2, 1) := by decide +kernel
theorem dX7_hasBoth_10 : decode cX7_hasBoth 10 = .ok (.invokevirtual 74, 3) := by decide +kernel
theorem dX7_hasBoth_13 : decode cX7_hasBoth 13 = .ok (.ifCond .eq 7, 3) := by decide +kernel
theorem dX7_hasBoth_16 : decode cX7_hasBoth 16 = .ok (.iconst 1, 1) := by decide +kernel
theorem dX7_hasBoth_17 : decode cX7_hasBoth 17 = .ok (.goto 4, 3) := by decide +kernel
theorem dX7_hasBoth_20 : decode cX7_hasBoth 20 = .ok (.iconst 0, 1) := by decide +kernel
theorem dX7_hasBoth_21 : decode cX7_hasBoth 21 = .ok (.ireturn, 1) := by decide +kernel
theorem dX7_bits_0 : decode cX7_bits 0 = .ok (.iconst 0, 1) := by decide +kernel
theorem dX7_bits_1 : decode cX7_bits 1 = .ok (.istore_n 1, 1) := by decide +kernel
theorem dX7_bits_2 : decode cX7_bits 2 = .ok (.iconst 0, 1) := by decide +kernel
theorem dX7_bits_3 : decode cX7_bits 3 = .ok (.istore_n 2, 1) := by decide +kernel
theorem dX7_bits_4 : decode cX7_bits 4 = .ok (.iload_n 2, 1) := by decide +kernel
theorem dX7_bits_5 : decode cX7_bits 5 = .ok (.bipush 8, 2) := by decide +kernel
theorem dX7_bits_7 : decode cX7_bits 7 = .ok (.if_icmp .ge 24, 3) := by decide +kernel
theorem dX7_bits_10 : decode cX7_bits 10 = .ok (.aload_n 0, 1) := by decide +kernel
theorem dX7_bits_11 : decode cX7_bits 11 = .ok (.getfield 9, 3) := by decide +kernel
theorem dX7_bits_14 : decode cX7_bits 14 = .ok (.iload_n 2, 1) := by decide +kernel
theorem dX7_bits_15 : decode cX7_bits 15 = .ok (.iaload, 1) := by decide +kernel
theorem dX7_bits_16 : decode cX7_bits 16 = .ok (.ifCond .le 9, 3) := by decide +kernel
theorem dX7_bits_19 : decode cX7_bits 19 = .ok (.iload_n 1, 1) := by decide +kernel
theorem dX7_bits_20 : decode cX7_bits 20 = .ok (.iconst 1, 1) := by decide +kernel
theorem dX7_bits_21 : decode cX7_bits 21 = .ok (.iload_n 2, 1) := by decide +kernel
theorem dX7_bits_22 : decode cX7_bits 22 = .ok (.ishl, 1) := by decide +kernel
theorem dX7_bits_23 : decode cX7_bits 23 = .ok (.ior, 1) := by decide +kernel
theorem dX7_bits_24 : decode cX7_bits 24 = .ok (.istore_n 1, 1) := by decide +kernel
theorem dX7_bits_25 : decode cX7_bits 25 = .ok (.iinc 2 1, 3) := by decide +kernel
theorem dX7_bits_28 : decode cX7_bits 28 = .ok (.goto (-24), 3) := by decide +kernel
theorem dX7_bits_31 : decode cX7_bits 31 = .ok (.iload_n 1, 1) := by decide +kernel
theorem dX7_bits_32 : decode cX7_bits 32 = .ok (.ireturn, 1) := by decide +kernel
theorem dX7_bitsIn_0 : decode cX7_bitsIn 0 = .ok (.iconst 0, 1) := by decide +kernel
theorem dX7_bitsIn_1 : decode cX7_bitsIn 1 = .ok (.istore_n 2, 1) := by decide +kernel
theorem dX7_bitsIn_2 : decode cX7_bitsIn 2 = .ok (.iconst 0, 1) := by decide +kernel
theorem dX7_bitsIn_3 : decode cX7_bitsIn 3 = .ok (.istore_n 3, 1) := by decide +kernel
theorem dX7_bitsIn_4 : decode cX7_bitsIn 4 = .ok (.iload_n 3, 1) := by decide +kernel
theorem dX7_bitsIn_5 : decode cX7_bitsIn 5 = .ok (.bipush 8, 2) := by decide +kernel
theorem dX7_bitsIn_7 : decode cX7_bitsIn 7 = .ok (.if_icmp .ge 34, 3) := by decide +kernel
theorem dX7_bitsIn_10 : decode cX7_bitsIn 10 = .ok (.aload_n 0, 1) := by decide +kernel
theorem dX7_bitsIn_11 : decode cX7_bitsIn 11 = .ok (.getfield 9, 3) := by decide +kernel
theorem dX7_bitsIn_14 : decode cX7_bitsIn 14 = .ok (.iload_n 3, 1) := by decide +kernel
theorem dX7_bitsIn_15 : decode cX7_bitsIn 15 = .ok (.iaload, 1) := by decide +kernel
theorem dX7_bitsIn_16 : decode cX7_bitsIn 16 = .ok (.ifCond .le 19, 3) := by decide +kernel
theorem dX7_bitsIn_19 : decode cX7_bitsIn 19 = .ok (.aload_n 0, 1) := by decide +kernel
theorem dX7_bitsIn_20 : decode cX7_bitsIn 20 = .ok (.getfield 15, 3) := by decide +kernel
theorem dX7_bitsIn_23 : decode cX7_bitsIn 23 = .ok (.iload_n 3, 1) := by decide +kernel
theorem dX7_bitsIn_24 : decode cX7_bitsIn 24 = .ok (.iaload, 1) := by decide +kernel
theorem dX7_bitsIn_25 : decode cX7_bitsIn 25 = .ok (.iload_n 1, 1) := by decide +kernel
theorem dX7_bitsIn_26 : decode cX7_bitsIn 26 = .ok (.if_icmp .ne 9, 3) := by decide +kernel
theorem dX7_bitsIn_29 : decode cX7_bitsIn 29 = .ok (.iload_n 2, 1) := by decide +kernel
theorem dX7_bitsIn_30 : decode cX7_bitsIn 30 = .ok (.iconst 1, 1) := by decide +kernel
theorem dX7_bitsIn_31 : decode cX7_bitsIn 31 = .ok (.iload_n 3, 1) := by decide +kernel
theorem dX7_bitsIn_32 : decode cX7_bitsIn 32 = .ok (.ishl, 1) := by decide +kernel
theorem dX7_bitsIn_33 : decode cX7_bitsIn 33 = .ok (.ior, 1) := by decide +kernel
theorem dX7_bitsIn_34 : decode cX7_bitsIn 34 = .ok (.istore_n 2, 1) := by decide +kernel
theorem dX7_bitsIn_35 : decode cX7_bitsIn 35 = .ok (.iinc 3 1, 3) := by decide +kernel
theorem dX7_bitsIn_38 : decode cX7_bitsIn 38 = .ok (.goto (-34), 3) := by decide +kernel
theorem dX7_bitsIn_41 : decode cX7_bitsIn 41 = .ok (.iload_n 2, 1) := by decide +kernel
theorem dX7_bitsIn_42 : decode cX7_bitsIn 42 = .ok (.ireturn, 1) := by decide +kernel
theorem dX7_count_0 : decode cX7_count 0 = .ok (.aload_n 0, 1) := by decide +kernel
theorem dX7_count_1 : decode cX7_count 1 = .ok (.invokevirtual 78, 3) := by decide +kernel
theorem dX7_count_4 : decode cX7_count 4 = .ok (.invokestatic 82, 3) := by decide +kernel
theorem dX7_count_7 : decode cX7_count 7 = .ok (.ireturn, 1) := by decide +kernel
theorem dX7_bulkOf_0 : decode cX7_bulkOf 0 = .ok (.iconst 0, 1) := by decide +kernel
theorem dX7_bulkOf_1 : decode cX7_bulkOf 1 = .ok (.istore_n 2, 1) := by decide +kernel
theorem dX7_bulkOf_2 : decode cX7_bulkOf 2 = .ok (.iconst 0, 1) := by decide +kernel
theorem dX7_bulkOf_3 : decode cX7_bulkOf 3 = .ok (.istore_n 3, 1) := by decide +kernel
theorem dX7_bulkOf_4 : decode cX7_bulkOf 4 = .ok (.iload_n 3, 1) := by decide +kernel
theorem dX7_bulkOf_5 : decode cX7_bulkOf 5 = .ok (.bipush 8, 2) := by decide +kernel
theorem dX7_bulkOf_7 : decode cX7_bulkOf 7 = .ok (.if_icmp .ge 26, 3) := by decide +kernel
theorem dX7_bulkOf_10 : decode cX7_bulkOf 10 = .ok (.iload_n 1, 1) := by decide +kernel
theorem dX7_bulkOf_11 : decode cX7_bulkOf 11 = .ok (.iload_n 3, 1) := by decide +kernel
theorem dX7_bulkOf_12 : decode cX7_bulkOf 12 = .ok (.ishr, 1) := by decide +kernel
theorem dX7_bulkOf_13 : decode cX7_bulkOf 13 = .ok (.iconst 1, 1) := by decide +kernel
theorem dX7_bulkOf_14 : decode cX7_bulkOf 14 = .ok (.iand, 1) := by decide +kernel
theorem dX7_bulkOf_15 : decode cX7_bulkOf 15 = .ok (.ifCond .eq 12, 3) := by decide +kernel
theorem dX7_bulkOf_18 : decode cX7_bulkOf 18 = .ok (.iload_n 2, 1) := by decide +kernel
theorem dX7_bulkOf_19 : decode cX7_bulkOf 19 = .ok (.aload_n 0, 1) := by decide +kernel
theorem dX7_bulkOf_20 : decode cX7_bulkOf 20 = .ok (.getfield 9, 3) := by decide +kernel
theorem dX7_bulkOf_23 : decode cX7_bulkOf 23 = .ok (.iload_n 3, 1) := by decide +kernel
theorem dX7_bulkOf_24 : decode cX7_bulkOf 24 = .ok (.iaload, 1) := by decide +kernel
theorem dX7_bulkOf_25 : decode cX7_bulkOf 25 = .ok (.iadd, 1) := by decide +kernel
theorem dX7_bulkOf_26 : decode cX7_bulkOf 26 = .ok (.istore_n 2, 1) := by decide +kernel
theorem dX7_bulkOf_27 : decode cX7_bulkOf 27 = .ok (.iinc 3 1, 3) := by decide +kernel
theorem dX7_bulkOf_30 : decode cX7_bulkOf 30 = .ok (.goto (-26), 3) := by decide +kernel
theorem dX7_bulkOf_33 : decode cX7_bulkOf 33 = .ok (.iload_n 2, 1) := by decide +kernel
theorem dX7_bulkOf_34 : decode cX7_bulkOf 34 = .ok (.ireturn, 1) := by decide +kernel
theorem dX7_leftIn_0 : decode cX7_leftIn 0 = .ok (.aload_n 0, 1) := by decide +kernel
theorem dX7_leftIn_1 : decode cX7_leftIn 1 = .ok (.getfield 43, 3) := by decide +kernel
theorem dX7_leftIn_4 : decode cX7_leftIn 4 = .ok (.iload_n 1, 1) := by decide +kernel
theorem dX7_leftIn_5 : decode cX7_leftIn 5 = .ok (.invokevirtual 88, 3) := by decide +kernel
theorem dX7_leftIn_8 : decode cX7_leftIn 8 = .ok (.ifCond .eq 25, 3) := by decide +kernel
theorem dX7_leftIn_11 : decode cX7_leftIn 11 = .ok (.aload_n 0, 1) := by decide +kernel
theorem dX7_leftIn_12 : decode cX7_leftIn 12 = .ok (.getfield 43, 3) := by decide +kernel
theorem dX7_leftIn_15 : decode cX7_leftIn 15 = .ok (.getfield 91, 3) := by decide +kernel
theorem dX7_leftIn_18 : decode cX7_leftIn 18 = .ok (.iload_n 1, 1) := by decide +kernel
theorem dX7_leftIn_19 : decode cX7_leftIn 19 = .ok (.iaload, 1) := by decide +kernel
theorem dX7_leftIn_20 : decode cX7_leftIn 20 = .ok (.aload_n 0, 1) := by decide +kernel
theorem dX7_leftIn_21 : decode cX7_leftIn 21 = .ok (.aload_n 0, 1) := by decide +kernel
theorem dX7_leftIn_22 : decode cX7_leftIn 22 = .ok (.iload_n 1, 1) := by decide +kernel
theorem dX7_leftIn_23 : decode cX7_leftIn 23 = .ok (.invokevirtual 94, 3) := by decide +kernel
theorem dX7_leftIn_26 : decode cX7_leftIn 26 = .ok (.invokevirtual 97, 3) := by decide +kernel
theorem dX7_leftIn_29 : decode cX7_leftIn 29 = .ok (.isub, 1) := by decide +kernel
theorem dX7_leftIn_30 : decode cX7_leftIn 30 = .ok (.goto 4, 3) := by decide +kernel
theorem dX7_leftIn_33 : decode cX7_leftIn 33 = .ok (.iconst 0, 1) := by decide +kernel
theorem dX7_leftIn_34 : decode cX7_leftIn 34 = .ok (.ireturn, 1) := by decide +kernel
theorem dX7_firstFree_0 : decode cX7_firstFree 0 = .ok (.iconst 0, 1) := by decide +kernel
theorem dX7_firstFree_1 : decode cX7_firstFree 1 = .ok (.istore_n 1, 1) := by decide +kernel
theorem dX7_firstFree_2 : decode cX7_firstFree 2 = .ok (.iload_n 1, 1) := by decide +kernel
theorem dX7_firstFree_3 : decode cX7_firstFree 3 = .ok (.bipush 8, 2) := by decide +kernel
theorem dX7_firstFree_5 : decode cX7_firstFree 5 = .ok (.if_icmp .ge 20, 3) := by decide +kernel
theorem dX7_firstFree_8 : decode cX7_firstFree 8 = .ok (.aload_n 0, 1) := by decide +kernel
theorem dX7_firstFree_9 : decode cX7_firstFree 9 = .ok (.getfield 9, 3) := by decide +kernel
theorem dX7_firstFree_12 : decode cX7_firstFree 12 = .ok (.iload_n 1, 1) := by decide +kernel
theorem dX7_firstFree_13 : decode cX7_firstFree 13 = .ok (.iaload, 1) := by decide +kernel
theorem dX7_firstFree_14 : decode cX7_firstFree 14 = .ok (.ifCond .ne 5, 3) := by decide +kernel
theorem dX7_firstFree_17 : decode cX7_firstFree 17 = .ok (.iload_n 1, 1) := by decide +kernel
theorem dX7_firstFree_18 : decode cX7_firstFree 18 = .ok (.ireturn, 1) := by decide +kernel
theorem dX7_firstFree_19 : decode cX7_firstFree 19 = .ok (.iinc 1 1, 3) := by decide +kernel
theorem dX7_firstFree_22 : decode cX7_firstFree 22 = .ok (.goto (-20), 3) := by decide +kernel
theorem dX7_firstFree_25 : decode cX7_firstFree 25 = .ok (.iconst (-1), 1) := by decide +kernel
theorem dX7_firstFree_26 : decode cX7_firstFree 26 = .ok (.ireturn, 1) := by decide +kernel
theorem dX7_allMarks_0 : decode cX7_allMarks 0 = .ok (.iconst 0, 1) := by decide +kernel
theorem dX7_allMarks_1 : decode cX7_allMarks 1 = .ok (.istore_n 1, 1) := by decide +kernel
theorem dX7_allMarks_2 : decode cX7_allMarks 2 = .ok (.iconst 0, 1) := by decide +kernel
theorem dX7_allMarks_3 : decode cX7_allMarks 3 = .ok (.istore_n 2, 1) := by decide +kernel
theorem dX7_allMarks_4 : decode cX7_allMarks 4 = .ok (.iload_n 2, 1) := by decide +kernel
theorem dX7_allMarks_5 : decode cX7_allMarks 5 = .ok (.bipush 8, 2) := by decide +kernel
theorem dX7_allMarks_7 : decode cX7_allMarks 7 = .ok (.if_icmp .ge 18, 3) := by decide +kernel
theorem dX7_allMarks_10 : decode cX7_allMarks 10 = .ok (.iload_n 1, 1) := by decide +kernel
theorem dX7_allMarks_11 : decode cX7_allMarks 11 = .ok (.aload_n 0, 1) := by decide +kernel
theorem dX7_allMarks_12 : decode cX7_allMarks 12 = .ok (.getfield 18, 3) := by decide +kernel
theorem dX7_allMarks_15 : decode cX7_allMarks 15 = .ok (.iload_n 2, 1) := by decide +kernel
theorem dX7_allMarks_16 : decode cX7_allMarks 16 = .ok (.iaload, 1) := by decide +kernel
theorem dX7_allMarks_17 : decode cX7_allMarks 17 = .ok (.ior, 1) := by decide +kernel
theorem dX7_allMarks_18 : decode cX7_allMarks 18 = .ok (.istore_n 1, 1) := by decide +kernel
theorem dX7_allMarks_19 : decode cX7_allMarks 19 = .ok (.iinc 2 1, 3) := by decide +kernel
theorem dX7_allMarks_22 : decode cX7_allMarks 22 = .ok (.goto (-18), 3) := by decide +kernel
theorem dX7_allMarks_25 : decode cX7_allMarks 25 = .ok (.iload_n 1, 1) := by decide +kernel
theorem dX7_allMarks_26 : decode cX7_allMarks 26 = .ok (.ireturn, 1) := by decide +kernel
theorem dX7_shared_0 : decode cX7_shared 0 = .ok (.aload_n 0, 1) := by decide +kernel
theorem dX7_shared_1 : decode cX7_shared 1 = .ok (.iload_n 1, 1) := by decide +kernel
theorem dX7_shared_2 : decode cX7_shared 2 = .ok (.iload_n 2, 1) := by decide +kernel
theorem dX7_shared_3 : decode cX7_shared 3 = .ok (.invokevirtual 100, 3) := by decide +kernel
theorem dX7_shared_6 : decode cX7_shared 6 = .ok (.ifCond .eq 25, 3) := by decide +kernel
theorem dX7_shared_9 : decode cX7_shared 9 = .ok (.bipush 6, 2) := by decide +kernel
theorem dX7_shared_11 : decode cX7_shared 11 = .ok (.aload_n 0, 1) := by decide +kernel
theorem dX7_shared_12 : decode cX7_shared 12 = .ok (.getfield 18, 3) := by decide +kernel
theorem dX7_shared_15 : decode cX7_shared 15 = .ok (.iload_n 1, 1) := by decide +kernel
theorem dX7_shared_16 : decode cX7_shared 16 = .ok (.iaload, 1) := by decide +kernel
theorem dX7_shared_17 : decode cX7_shared 17 = .ok (.aload_n 0, 1) := by decide +kernel
theorem dX7_shared_18 : decode cX7_shared 18 = .ok (.getfield 18, 3) := by decide +kernel
theorem dX7_shared_21 : decode cX7_shared 21 = .ok (.iload_n 2, 1) := by decide +kernel
theorem dX7_shared_22 : decode cX7_shared 22 = .ok (.iaload, 1) := by decide +kernel
theorem dX7_shared_23 : decode cX7_shared 23 = .ok (.ixor, 1) := by decide +kernel
theorem dX7_shared_24 : decode cX7_shared 24 = .ok (.invokestatic 82, 3) := by decide +kernel
theorem dX7_shared_27 : decode cX7_shared 27 = .ok (.isub, 1) := by decide +kernel
theorem dX7_shared_28 : decode cX7_shared 28 = .ok (.goto 4, 3) := by decide +kernel
theorem dX7_shared_31 : decode cX7_shared 31 = .ok (.iconst 0, 1) := by decide +kernel
theorem dX7_shared_32 : decode cX7_shared 32 = .ok (.ireturn, 1) := by decide +kernel
theorem dX7_coupleIn_0 : decode cX7_coupleIn 0 = .ok (.aload_n 0, 1) := by decide +kernel
theorem dX7_coupleIn_1 : decode cX7_coupleIn 1 = .ok (.iload_n 1, 1) := by decide +kernel
theorem dX7_coupleIn_2 : decode cX7_coupleIn 2 = .ok (.iconst (-1), 1) := by decide +kernel
theorem dX7_coupleIn_3 : decode cX7_coupleIn 3 = .ok (.invokevirtual 104, 3) := by decide +kernel
theorem dX7_coupleIn_6 : decode cX7_coupleIn 6 = .ok (.istore_n 2, 1) := by decide +kernel
theorem dX7_coupleIn_7 : decode cX7_coupleIn 7 = .ok (.aload_n 0, 1) := by decide +kernel
theorem dX7_coupleIn_8 : decode cX7_coupleIn 8 = .ok (.iload_n 1, 1) := by decide +kernel
theorem dX7_coupleIn_9 : decode cX7_coupleIn 9 = .ok (.iload_n 2, 1) := by decide +kernel
theorem dX7_coupleIn_10 : decode cX7_coupleIn 10 = .ok (.invokevirtual 104, 3) := by decide +kernel
theorem dX7_coupleIn_13 : decode cX7_coupleIn 13 = .ok (.istore_n 3, 1) := by decide +kernel
theorem dX7_coupleIn_14 : decode cX7_coupleIn 14 = .ok (.iload_n 2, 1) := by decide +kernel
theorem dX7_coupleIn_15 : decode cX7_coupleIn 15 = .ok (.iconst (-1), 1) := by decide +kernel
theorem dX7_coupleIn_16 : decode cX7_coupleIn 16 = .ok (.if_icmp .eq 8, 3) := by decide +kernel
theorem dX7_coupleIn_19 : decode cX7_coupleIn 19 = .ok (.iload_n 3, 1) := by decide +kernel
theorem dX7_coupleIn_20 : decode cX7_coupleIn 20 = .ok (.iconst (-1), 1) := by decide +kernel
theorem dX7_coupleIn_21 : decode cX7_coupleIn 21 = .ok (.if_icmp .ne 7, 3) := by decide +kernel
theorem dX7_coupleIn_24 : decode cX7_coupleIn 24 = .ok (.iconst (-1), 1) := by decide +kernel
theorem dX7_coupleIn_25 : decode cX7_coupleIn 25 = .ok (.goto 9, 3) := by decide +kernel
theorem dX7_coupleIn_28 : decode cX7_coupleIn 28 = .ok (.iload_n 2, 1) := by decide +kernel
theorem dX7_coupleIn_29 : decode cX7_coupleIn 29 = .ok (.bipush 8, 2) := by decide +kernel
theorem dX7_coupleIn_31 : decode cX7_coupleIn 31 = .ok (.imul, 1) := by decide +kernel
theorem dX7_coupleIn_32 : decode cX7_coupleIn 32 = .ok (.iload_n 3, 1) := by decide +kernel
theorem dX7_coupleIn_33 : decode cX7_coupleIn 33 = .ok (.iadd, 1) := by decide +kernel
theorem dX7_coupleIn_34 : decode cX7_coupleIn 34 = .ok (.ireturn, 1) := by decide +kernel
theorem dX7_bulkiestIn_0 : decode cX7_bulkiestIn 0 = .ok (.iconst (-1), 1) := by decide +kernel
theorem dX7_bulkiestIn_1 : decode cX7_bulkiestIn 1 = .ok (.istore_n 3, 1) := by decide +kernel
theorem dX7_bulkiestIn_2 : decode cX7_bulkiestIn 2 = .ok (.iconst 0, 1) := by decide +kernel
theorem dX7_bulkiestIn_3 : decode cX7_bulkiestIn 3 = .ok (.istore 4, 2) := by decide +kernel
theorem dX7_bulkiestIn_5 : decode cX7_bulkiestIn 5 = .ok (.iconst 0, 1) := by decide +kernel
theorem dX7_bulkiestIn_6 : decode cX7_bulkiestIn 6 = .ok (.istore 5, 2) := by decide +kernel
theorem dX7_bulkiestIn_8 : decode cX7_bulkiestIn 8 = .ok (.iload 5, 2) := by decide +kernel
theorem dX7_bulkiestIn_10 : decode cX7_bulkiestIn 10 = .ok (.bipush 8, 2) := by decide +kernel
theorem dX7_bulkiestIn_12 : decode cX7_bulkiestIn 12 = .ok (.if_icmp .ge 60, 3) := by decide +kernel
theorem dX7_bulkiestIn_15 : decode cX7_bulkiestIn 15 = .ok (.iload 5, 2) := by decide +kernel
theorem dX7_bulkiestIn_17 : decode cX7_bulkiestIn 17 = .ok (.iload_n 2, 1) := by decide +kernel
theorem dX7_bulkiestIn_18 : decode cX7_bulkiestIn 18 = .ok (.if_icmp .eq 48, 3) := by decide +kernel
theorem dX7_bulkiestIn_21 : decode cX7_bulkiestIn 21 = .ok (.aload_n 0, 1) := by decide +kernel
theorem dX7_bulkiestIn_22 : decode cX7_bulkiestIn 22 = .ok (.getfield 15, 3) := by decide +kernel
theorem dX7_bulkiestIn_25 : decode cX7_bulkiestIn 25 = .ok (.iload 5, 2) := by decide +kernel
theorem dX7_bulkiestIn_27 : decode cX7_bulkiestIn 27 = .ok (.iaload, 1) := by decide +kernel
theorem dX7_bulkiestIn_28 : decode cX7_bulkiestIn 28 = .ok (.iload_n 1, 1) := by decide +kernel
theorem dX7_bulkiestIn_29 : decode cX7_bulkiestIn 29 = .ok (.if_icmp .ne 37, 3) := by decide +kernel
theorem dX7_bulkiestIn_32 : decode cX7_bulkiestIn 32 = .ok (.aload_n 0, 1) := by decide +kernel
theorem dX7_bulkiestIn_33 : decode cX7_bulkiestIn 33 = .ok (.getfield 24, 3) := by decide +kernel
theorem dX7_bulkiestIn_36 : decode cX7_bulkiestIn 36 = .ok (.iload 5, 2) := by decide +kernel
theorem dX7_bulkiestIn_38 : decode cX7_bulkiestIn 38 = .ok (.iaload, 1) := by decide +kernel
theorem dX7_bulkiestIn_39 : decode cX7_bulkiestIn 39 = .ok (.ifCond .ne 27, 3) := by decide +kernel
theorem dX7_bulkiestIn_42 : decode cX7_bulkiestIn 42 = .ok (.aload_n 0, 1) := by decide +kernel
theorem dX7_bulkiestIn_43 : decode cX7_bulkiestIn 43 = .ok (.getfield 9, 3) := by decide +kernel
theorem dX7_bulkiestIn_46 : decode cX7_bulkiestIn 46 = .ok (.iload 5, 2) := by decide +kernel
theorem dX7_bulkiestIn_48 : decode cX7_bulkiestIn 48 = .ok (.iaload, 1) := by decide +kernel
theorem dX7_bulkiestIn_49 : decode cX7_bulkiestIn 49 = .ok (.iload 4, 2) := by decide +kernel
theorem dX7_bulkiestIn_51 : decode cX7_bulkiestIn 51 = .ok (.if_icmp .le 15, 3) := by decide +kernel
theorem dX7_bulkiestIn_54 : decode cX7_bulkiestIn 54 = .ok (.iload 5, 2) := by decide +kernel
theorem dX7_bulkiestIn_56 : decode cX7_bulkiestIn 56 = .ok (.istore_n 3, 1) := by decide +kernel
theorem dX7_bulkiestIn_57 : decode cX7_bulkiestIn 57 = .ok (.aload_n 0, 1) := by decide +kernel
theorem dX7_bulkiestIn_58 : decode cX7_bulkiestIn 58 = .ok (.getfield 9, 3) := by decide +kernel
theorem dX7_bulkiestIn_61 : decode cX7_bulkiestIn 61 = .ok (.iload 5, 2) := by decide +kernel
theorem dX7_bulkiestIn_63 : decode cX7_bulkiestIn 63 = .ok (.iaload, 1) := by decide +kernel
theorem dX7_bulkiestIn_64 : decode cX7_bulkiestIn 64 = .ok (.istore 4, 2) := by decide +kernel
theorem dX7_bulkiestIn_66 : decode cX7_bulkiestIn 66 = .ok (.iinc 5 1, 3) := by decide +kernel
theorem dX7_bulkiestIn_69 : decode cX7_bulkiestIn 69 = .ok (.goto (-61), 3) := by decide +kernel
theorem dX7_bulkiestIn_72 : decode cX7_bulkiestIn 72 = .ok (.iload_n 3, 1) := by decide +kernel
theorem dX7_bulkiestIn_73 : decode cX7_bulkiestIn 73 = .ok (.ireturn, 1) := by decide +kernel
theorem dX7_parentsOf_0 : decode cX7_parentsOf 0 = .ok (.iconst 0, 1) := by decide +kernel
theorem dX7_parentsOf_1 : decode cX7_parentsOf 1 = .ok (.istore_n 2, 1) := by decide +kernel
theorem dX7_parentsOf_2 : decode cX7_parentsOf 2 = .ok (.iconst 0, 1) := by decide +kernel
theorem dX7_parentsOf_3 : decode cX7_parentsOf 3 = .ok (.istore_n 3, 1) := by decide +kernel
theorem dX7_parentsOf_4 : decode cX7_parentsOf 4 = .ok (.iload_n 3, 1) := by decide +kernel
theorem dX7_parentsOf_5 : decode cX7_parentsOf 5 = .ok (.bipush 8, 2) := by decide +kernel
theorem dX7_parentsOf_7 : decode cX7_parentsOf 7 = .ok (.if_icmp .ge 39, 3) := by decide +kernel
theorem dX7_parentsOf_10 : decode cX7_parentsOf 10 = .ok (.iload_n 1, 1) := by decide +kernel
theorem dX7_parentsOf_11 : decode cX7_parentsOf 11 = .ok (.iload_n 3, 1) := by decide +kernel
theorem dX7_parentsOf_12 : decode cX7_parentsOf 12 = .ok (.ishr, 1) := by decide +kernel
theorem dX7_parentsOf_13 : decode cX7_parentsOf 13 = .ok (.iconst 1, 1) := by decide +kernel
theorem dX7_parentsOf_14 : decode cX7_parentsOf 14 = .ok (.iand, 1) := by decide +kernel
theorem dX7_parentsOf_15 : decode cX7_parentsOf 15 = .ok (.ifCond .eq 25, 3) := by decide +kernel
theorem dX7_parentsOf_18 : decode cX7_parentsOf 18 = .ok (.iload_n 2, 1) := by decide +kernel
theorem dX7_parentsOf_19 : decode cX7_parentsOf 19 = .ok (.aload_n 0, 1) := by decide +kernel
theorem dX7_parentsOf_20 : decode cX7_parentsOf 20 = .ok (.getfield 27, 3) := by decide +kernel
theorem dX7_parentsOf_23 : decode cX7_parentsOf 23 = .ok (.iload_n 3, 1) := by decide +kernel
theorem dX7_parentsOf_24 : decode cX7_parentsOf 24 = .ok (.iaload, 1) := by decide +kernel
theorem dX7_parentsOf_25 : decode cX7_parentsOf 25 = .ok (.invokestatic 108, 3) := by decide +kernel
theorem dX7_parentsOf_28 : decode cX7_parentsOf 28 = .ok (.aload_n 0, 1) := by decide +kernel
theorem dX7_parentsOf_29 : decode cX7_parentsOf 29 = .ok (.getfield 30, 3) := by decide +kernel
theorem dX7_parentsOf_32 : decode cX7_parentsOf 32 = .ok (.iload_n 3, 1) := by decide +kernel
theorem dX7_parentsOf_33 : decode cX7_parentsOf 33 = .ok (.iaload, 1) := by decide +kernel
theorem dX7_parentsOf_34 : decode cX7_parentsOf 34 = .ok (.invokestatic 108, 3) := by decide +kernel
theorem dX7_parentsOf_37 : decode cX7_parentsOf 37 = .ok (.ior, 1) := by decide +kernel
theorem dX7_parentsOf_38 : decode cX7_parentsOf 38 = .ok (.ior, 1) := by decide +kernel
theorem dX7_parentsOf_39 : decode cX7_parentsOf 39 = .ok (.istore_n 2, 1) := by decide +kernel
theorem dX7_parentsOf_40 : decode cX7_parentsOf 40 = .ok (.iinc 3 1, 3) := by decide +kernel
theorem dX7_parentsOf_43 : decode cX7_parentsOf 43 = .ok (.goto (-39), 3) := by decide +kernel
theorem dX7_parentsOf_46 : decode cX7_parentsOf 46 = .ok (.iload_n 2, 1) := by decide +kernel
theorem dX7_parentsOf_47 : decode cX7_parentsOf 47 = .ok (.ireturn, 1) := by decide +kernel
theorem dX7_bitOf_0 : decode cX7_bitOf 0 = .ok (.iload_n 0, 1) := by decide +kernel
theorem dX7_bitOf_1 : decode cX7_bitOf 1 = .ok (.ifCond .lt 15, 3) := by decide +kernel
theorem dX7_bitOf_4 : decode cX7_bitOf 4 = .ok (.iload_n 0, 1) := by decide +kernel
theorem dX7_bitOf_5 : decode cX7_bitOf 5 = .ok (.bipush 8, 2) := by decide +kernel
theorem dX7_bitOf_7 : decode cX7_bitOf 7 = .ok (.if_icmp .ge 9, 3) := by decide +kernel
theorem dX7_bitOf_10 : decode cX7_bitOf 10 = .ok (.iconst 1, 1) := by decide +kernel
theorem dX7_bitOf_11 : decode cX7_bitOf 11 = .ok (.iload_n 0, 1) := by decide +kernel
theorem dX7_bitOf_12 : decode cX7_bitOf 12 = .ok (.ishl, 1) := by decide +kernel
theorem dX7_bitOf_13 : decode cX7_bitOf 13 = .ok (.goto 4, 3) := by decide +kernel
theorem dX7_bitOf_16 : decode cX7_bitOf 16 = .ok (.iconst 0, 1) := by decide +kernel
theorem dX7_bitOf_17 : decode cX7_bitOf 17 = .ok (.ireturn, 1) := by decide +kernel
theorem dX8_init_0 : decode cX8_init 0 = .ok (.aload_n 0, 1) := by decide +kernel
theorem dX8_init_1 : decode cX8_init 1 = .ok (.invokespecial 3, 3) := by decide +kernel
theorem dX8_init_4 : decode cX8_init 4 = .ok (.aload_n 0, 1) := by decide +kernel
theorem dX8_init_5 : decode cX8_init 5 = .ok (.iconst 4, 1) := by decide +kernel
theorem dX8_init_6 : decode cX8_init 6 = .ok (.newarray .int, 2) := by decide +kernel
theorem dX8_init_8 : decode cX8_init 8 = .ok (.putfield 9, 3) := by decide +kernel
theorem dX8_init_11 : decode cX8_init 11 = .ok (.aload_n 0, 1) := by decide +kernel
theorem dX8_init_12 : decode cX8_init 12 = .ok (.bipush 8, 2) := by decide +kernel
theorem dX8_init_14 : decode cX8_init 14 = .ok (.newarray .int, 2) := by decide +kernel
theorem dX8_init_16 : decode cX8_init 16 = .ok (.putfield 15, 3) := by decide +kernel
theorem dX8_init_19 : decode cX8_init 19 = .ok (.aload_n 0, 1) := by decide +kernel
theorem dX8_init_20 : decode cX8_init 20 = .ok (.iconst (-1), 1) := by decide +kernel
theorem dX8_init_21 : decode cX8_init 21 = .ok (.putfield 18, 3) := by decide +kernel
theorem dX8_init_24 : decode cX8_init 24 = .ok (.aload_n 0, 1) := by decide +kernel
theorem dX8_init_25 : decode cX8_init 25 = .ok (.iconst (-1), 1) := by decide +kernel
theorem dX8_init_26 : decode cX8_init 26 = .ok (.putfield 22, 3) := by decide +kernel
theorem dX8_init_29 : decode cX8_init 29 = .ok (.aload_n 0, 1) := by decide +kernel
theorem dX8_init_30 : decode cX8_init 30 = .ok (.aload_n 1, 1) := by decide +kernel
theorem dX8_init_31 : decode cX8_init 31 = .ok (.putfield 25, 3) := by decide +kernel
theorem dX8_init_34 : decode cX8_init 34 = .ok (.return_, 1) := by decide +kernel
theorem dX8_packAll_0 : decode cX8_packAll 0 = .ok (.iconst 0, 1) := by decide +kernel
theorem dX8_packAll_1 : decode cX8_packAll 1 = .ok (.istore_n 2, 1) := by decide +kernel
theorem dX8_packAll_2 : decode cX8_packAll 2 = .ok (.iload_n 2, 1) := by decide +kernel
theorem dX8_packAll_3 : decode cX8_packAll 3 = .ok (.aload_n 0, 1) := by decide +kernel
theorem dX8_packAll_4 : decode cX8_packAll 4 = .ok (.getfield 25, 3) := by decide +kernel
theorem dX8_packAll_7 : decode cX8_packAll 7 = .ok (.getfield 29, 3) := by decide +kernel
theorem dX8_packAll_10 : decode cX8_packAll 10 = .ok (.if_icmp .gt 44, 3) := by decide +kernel
theorem dX8_packAll_13 : decode cX8_packAll 13 = .ok (.iload_n 2, 1) := by decide +kernel
theorem dX8_packAll_14 : decode cX8_packAll 14 = .ok (.iconst 4, 1) := by decide +kernel
theorem dX8_packAll_15 : decode cX8_packAll 15 = .ok (.if_icmp .gt 39, 3) := by decide +kernel
theorem dX8_packAll_18 : decode cX8_packAll 18 = .ok (.aload_n 0, 1) := by decide +kernel
theorem dX8_packAll_19 : decode cX8_packAll 19 = .ok (.getfield 25, 3) := by decide +kernel
theorem dX8_packAll_22 : decode cX8_packAll 22 = .ok (.getfield 34, 3) := by decide +kernel
theorem dX8_packAll_25 : decode cX8_packAll 25 = .ok (.iconst 0, 1) := by decide +kernel
theorem dX8_packAll_26 : decode cX8_packAll 26 = .ok (.aload_n 0, 1) := by decide +kernel
theorem dX8_packAll_27 : decode cX8_packAll 27 = .ok (.getfield 9, 3) := by decide +kernel
theorem dX8_packAll_30 : decode cX8_packAll 30 = .ok (.iconst 0, 1) := by decide +kernel
theorem dX8_packAll_31 : decode cX8_packAll 31 = .ok (.iconst 4, 1) := by decide +kernel
theorem dX8_packAll_32 : decode cX8_packAll 32 = .ok (.invokestatic 37, 3) := by decide +kernel
theorem dX8_packAll_35 : decode cX8_packAll 35 = .ok (.aload_n 0, 1) := by decide +kernel
theorem dX8_packAll_36 : decode cX8_packAll 36 = .ok (.aload_n 1, 1) := by decide +kernel
theorem dX8_packAll_37 : decode cX8_packAll 37 = .ok (.iconst 0, 1) := by decide +kernel
theorem dX8_packAll_38 : decode cX8_packAll 38 = .ok (.iconst 0, 1) := by decide +kernel
theorem dX8_packAll_39 : decode cX8_packAll 39 = .ok (.iload_n 2, 1) := by decide +kernel
theorem dX8_packAll_40 : decode cX8_packAll 40 = .ok (.invokevirtual 43, 3) := by decide +kernel
theorem dX8_packAll_43 : decode cX8_packAll 43 = .ok (.ifCond .eq 5, 3) := by decide +kernel
theorem dX8_packAll_46 : decode cX8_packAll 46 = .ok (.iload_n 2, 1) := by decide +kernel
theorem dX8_packAll_47 : decode cX8_packAll 47 = .ok (.ireturn, 1) := by decide +kernel
theorem dX8_packAll_48 : decode cX8_packAll 48 = .ok (.iinc 2 1, 3) := by decide +kernel
theorem dX8_packAll_51 : decode cX8_packAll 51 = .ok (.goto (-49), 3) := by decide +kernel
theorem dX8_packAll_54 : decode cX8_packAll 54 = .ok (.iconst (-1), 1) := by decide +kernel
theorem dX8_packAll_55 : decode cX8_packAll 55 = .ok (.ireturn, 1) := by decide +kernel
theorem dX8_stowFrom_0 : decode cX8_stowFrom 0 = .ok (.iload_n 2, 1) := by decide +kernel
theorem dX8_stowFrom_1 : decode cX8_stowFrom 1 = .ok (.iconst 0, 1) := by decide +kernel
theorem dX8_stowFrom_2 : decode cX8_stowFrom 2 = .ok (.invokestatic 47, 3) := by decide +kernel
theorem dX8_stowFrom_5 : decode cX8_stowFrom 5 = .ok (.istore 5, 2) := by decide +kernel
theorem dX8_stowFrom_7 : decode cX8_stowFrom 7 = .ok (.iload 5, 2) := by decide +kernel
theorem dX8_stowFrom_9 : decode cX8_stowFrom 9 = .ok (.bipush 8, 2) := by decide +kernel
theorem dX8_stowFrom_11 : decode cX8_stowFrom 11 = .ok (.if_icmp .ge 27, 3) := by decide +kernel
theorem dX8_stowFrom_14 : decode cX8_stowFrom 14 = .ok (.aload_n 1, 1) := by decide +kernel
theorem dX8_stowFrom_15 : decode cX8_stowFrom 15 = .ok (.getfield 53, 3) := by decide +kernel
theorem dX8_stowFrom_18 : decode cX8_stowFrom 18 = .ok (.iload 5, 2) := by decide +kernel
theorem dX8_stowFrom_20 : decode cX8_stowFrom 20 = .ok (.iaload, 1) := by decide +kernel
theorem dX8_stowFrom_21 : decode cX8_stowFrom 21 = .ok (.ifCond .ne 17, 3) := by decide +kernel
theorem dX8_stowFrom_24 : decode cX8_stowFrom 24 = .ok (.aload_n 0, 1) := by decide +kernel
theorem dX8_stowFrom_25 : decode cX8_stowFrom 25 = .ok (.getfield 15, 3) := by decide +kernel
theorem dX8_stowFrom_28 : decode cX8_stowFrom 28 = .ok (.iload 5, 2) := by decide +kernel
theorem dX8_stowFrom_30 : decode cX8_stowFrom 30 = .ok (.iconst (-1), 1) := by decide +kernel
theorem dX8_stowFrom_31 : decode cX8_stowFrom 31 = .ok (.iastore, 1) := by decide +kernel
theorem dX8_stowFrom_32 : decode cX8_stowFrom 32 = .ok (.iinc 5 1, 3) := by decide +kernel
theorem dX8_stowFrom_35 : decode cX8_stowFrom 35 = .ok (.goto (-28), 3) := by decide +kernel
theorem dX8_stowFrom_38 : decode cX8_stowFrom 38 = .ok (.iload 5, 2) := by decide +kernel
theorem dX8_stowFrom_40 : decode cX8_stowFrom 40 = .ok (.bipush 8, 2) := by decide +kernel
theorem dX8_stowFrom_42 : decode cX8_stowFrom 42 = .ok (.if_icmp .lt 5, 3) := by decide +kernel
theorem dX8_stowFrom_45 : decode cX8_stowFrom 45 = .ok (.iconst 1, 1) := by decide +kernel
theorem dX8_stowFrom_46 : decode cX8_stowFrom 46 = .ok (.ireturn, 1) := by decide +kernel
theorem dX8_stowFrom_47 : decode cX8_stowFrom 47 = .ok (.iconst 0, 1) := by decide +kernel
theorem dX8_stowFrom_48 : decode cX8_stowFrom 48 = .ok (.istore 6, 2) := by decide +kernel
theorem dX8_stowFrom_50 : decode cX8_stowFrom 50 = .ok (.iload 6, 2) := by decide +kernel
theorem dX8_stowFrom_52 : decode cX8_stowFrom 52 = .ok (.aload_n 0, 1) := by decide +kernel
theorem dX8_stowFrom_53 : decode cX8_stowFrom 53 = .ok (.getfield 25, 3) := by decide +kernel
theorem dX8_stowFrom_56 : decode cX8_stowFrom 56 = .ok (.getfield 29, 3) := by decide +kernel
theorem dX8_stowFrom_59 : decode cX8_stowFrom 59 = .ok (.if_icmp .ge 75, 3) := by decide +kernel
theorem dX8_stowFrom_62 : decode cX8_stowFrom 62 = .ok (.iload 6, 2) := by decide +kernel
theorem dX8_stowFrom_64 : decode cX8_stowFrom 64 = .ok (.iconst 4, 1) := by decide +kernel
theorem dX8_stowFrom_65 : decode cX8_stowFrom 65 = .ok (.if_icmp .ge 69, 3) := by decide +kernel
theorem dX8_stowFrom_68 : decode cX8_stowFrom 68 = .ok (.iload_n 3, 1) := by decide +kernel
theorem dX8_stowFrom_69 : decode cX8_stowFrom 69 = .ok (.iconst 1, 1) := by decide +kernel
theorem dX8_stowFrom_70 : decode cX8_stowFrom 70 = .ok (.iload 6, 2) := by decide +kernel
theorem dX8_stowFrom_72 : decode cX8_stowFrom 72 = .ok (.ishl, 1) := by decide +kernel
theorem dX8_stowFrom_73 : decode cX8_stowFrom 73 = .ok (.ior, 1) := by decide +kernel
theorem dX8_stowFrom_74 : decode cX8_stowFrom 74 = .ok (.istore 7, 2) := by decide +kernel
theorem dX8_stowFrom_76 : decode cX8_stowFrom 76 = .ok (.iload 7, 2) := by decide +kernel
theorem dX8_stowFrom_78 : decode cX8_stowFrom 78 = .ok (.invokestatic 58, 3) := by decide +kernel
theorem dX8_stowFrom_81 : decode cX8_stowFrom 81 = .ok (.iload 4, 2) := by decide +kernel
theorem dX8_stowFrom_83 : decode cX8_stowFrom 83 = .ok (.if_icmp .gt 45, 3) := by decide +kernel
theorem dX8_stowFrom_86 : decode cX8_stowFrom 86 = .ok (.aload_n 0, 1) := by decide +kernel
theorem dX8_stowFrom_87 : decode cX8_stowFrom 87 = .ok (.getfield 9, 3) := by decide +kernel
theorem dX8_stowFrom_90 : decode cX8_stowFrom 90 = .ok (.iload 6, 2) := by decide +kernel
theorem dX8_stowFrom_92 : decode cX8_stowFrom 92 = .ok (.iaload, 1) := by decide +kernel
theorem dX8_stowFrom_93 : decode cX8_stowFrom 93 = .ok (.aload_n 1, 1) := by decide +kernel
theorem dX8_stowFrom_94 : decode cX8_stowFrom 94 = .ok (.getfield 53, 3) := by decide +kernel
theorem dX8_stowFrom_97 : decode cX8_stowFrom 97 = .ok (.iload 5, 2) := by decide +kernel
theorem dX8_stowFrom_99 : decode cX8_stowFrom 99 = .ok (.iaload, 1) := by decide +kernel
theorem dX8_stowFrom_100 : decode cX8_stowFrom 100 = .ok (.if_icmp .lt 28, 3) := by decide +kernel
theorem dX8_stowFrom_103 : decode cX8_stowFrom 103 = .ok (.aload_n 0, 1) := by decide +kernel
theorem dX8_stowFrom_104 : decode cX8_stowFrom 104 = .ok (.getfield 15, 3) := by decide +kernel
theorem dX8_stowFrom_107 : decode cX8_stowFrom 107 = .ok (.iload 5, 2) := by decide +kernel
theorem dX8_stowFrom_109 : decode cX8_stowFrom 109 = .ok (.iload 6, 2) := by decide +kernel
theorem dX8_stowFrom_111 : decode cX8_stowFrom 111 = .ok (.iastore, 1) := by decide +kernel
theorem dX8_stowFrom_112 : decode cX8_stowFrom 112 = .ok (.aload_n 0, 1) := by decide +kernel
theorem dX8_stowFrom_113 : decode cX8_stowFrom 113 = .ok (.aload_n 1, 1) := by decide +kernel
theorem dX8_stowFrom_114 : decode cX8_stowFrom 114 = .ok (.iload 5, 2) := by decide +kernel
theorem dX8_stowFrom_116 : decode cX8_stowFrom 116 = .ok (.iload 7, 2) := by decide +kernel
theorem dX8_stowFrom_118 : decode cX8_stowFrom 118 = .ok (.iload 4, 2) := by decide +kernel
theorem dX8_stowFrom_120 : decode cX8_stowFrom 120 = .ok (.invokevirtual 64, 3) := by decide +kernel
theorem dX8_stowFrom_123 : decode cX8_stowFrom 123 = .ok (.ifCond .eq 5, 3) := by decide +kernel
theorem dX8_stowFrom_126 : decode cX8_stowFrom 126 = .ok (.iconst 1, 1) := by decide +kernel
theorem dX8_stowFrom_127 : decode cX8_stowFrom 127 = .ok (.ireturn, 1) := by decide +kernel
theorem dX8_stowFrom_128 : decode cX8_stowFrom 128 = .ok (.iinc 6 1, 3) := by decide +kernel
theorem dX8_stowFrom_131 : decode cX8_stowFrom 131 = .ok (.goto (-81), 3) := by decide +kernel
theorem dX8_stowFrom_134 : decode cX8_stowFrom 134 = .ok (.iconst 0, 1) := by decide +kernel
theorem dX8_stowFrom_135 : decode cX8_stowFrom 135 = .ok (.ireturn, 1) := by decide +kernel
theorem dX8_stowBehind_0 : decode cX8_stowBehind 0 = .ok (.aload_n 0, 1) := by decide +kernel
theorem dX8_stowBehind_1 : decode cX8_stowBehind 1 = .ok (.getfield 15, 3) := by decide +kernel
theorem dX8_stowBehind_4 : decode cX8_stowBehind 4 = .ok (.iload_n 2, 1) := by decide +kernel
theorem dX8_stowBehind_5 : decode cX8_stowBehind 5 = .ok (.iaload, 1) := by decide +kernel
theorem dX8_stowBehind_6 : decode cX8_stowBehind 6 = .ok (.istore 5, 2) := by decide +kernel
theorem dX8_stowBehind_8 : decode cX8_stowBehind 8 = .ok (.iload 5, 2) := by decide +kernel
theorem dX8_stowBehind_10 : decode cX8_stowBehind 10 = .ok (.ifCond .lt 9, 3) := by decide +kernel
theorem dX8_stowBehind_13 : decode cX8_stowBehind 13 = .ok (.iload 5, 2) := by decide +kernel
theorem dX8_stowBehind_15 : decode cX8_stowBehind 15 = .ok (.iconst 4, 1) := by decide +kernel
theorem dX8_stowBehind_16 : decode cX8_stowBehind 16 = .ok (.if_icmp .lt 5, 3) := by decide +kernel
theorem dX8_stowBehind_19 : decode cX8_stowBehind 19 = .ok (.iconst 0, 1) := by decide +kernel
theorem dX8_stowBehind_20 : decode cX8_stowBehind 20 = .ok (.ireturn, 1) := by decide +kernel
theorem dX8_stowBehind_21 : decode cX8_stowBehind 21 = .ok (.aload_n 0, 1) := by decide +kernel
theorem dX8_stowBehind_22 : decode cX8_stowBehind 22 = .ok (.getfield 9, 3) := by decide +kernel
theorem dX8_stowBehind_25 : decode cX8_stowBehind 25 = .ok (.iload 5, 2) := by decide +kernel
theorem dX8_stowBehind_27 : decode cX8_stowBehind 27 = .ok (.dup2, 1) := by decide +kernel
theorem dX8_stowBehind_28 : decode cX8_stowBehind 28 = .ok (.iaload, 1) := by decide +kernel
theorem dX8_stowBehind_29 : decode cX8_stowBehind 29 = .ok (.aload_n 1, 1) := by decide +kernel
theorem dX8_stowBehind_30 : decode cX8_stowBehind 30 = .ok (.getfield 53, 3) := by decide +kernel
theorem dX8_stowBehind_33 : decode cX8_stowBehind 33 = .ok (.iload_n 2, 1) := by decide +kernel
theorem dX8_stowBehind_34 : decode cX8_stowBehind 34 = .ok (.iaload, 1) := by decide +kernel
theorem dX8_stowBehind_35 : decode cX8_stowBehind 35 = .ok (.isub, 1) := by decide +kernel
theorem dX8_stowBehind_36 : decode cX8_stowBehind 36 = .ok (.iastore, 1) := by decide +kernel
theorem dX8_stowBehind_37 : decode cX8_stowBehind 37 = .ok (.aload_n 0, 1) := by decide +kernel
theorem dX8_stowBehind_38 : decode cX8_stowBehind 38 = .ok (.aload_n 1, 1) := by decide +kernel
theorem dX8_stowBehind_39 : decode cX8_stowBehind 39 = .ok (.iload_n 2, 1) := by decide +kernel
theorem dX8_stowBehind_40 : decode cX8_stowBehind 40 = .ok (.iconst 1, 1) := by decide +kernel
theorem dX8_stowBehind_41 : decode cX8_stowBehind 41 = .ok (.iadd, 1) := by decide +kernel
theorem dX8_stowBehind_42 : decode cX8_stowBehind 42 = .ok (.iload_n 3, 1) := by decide +kernel
theorem dX8_stowBehind_43 : decode cX8_stowBehind 43 = .ok (.iload 4, 2) := by decide +kernel
theorem dX8_stowBehind_45 : decode cX8_stowBehind 45 = .ok (.invokevirtual 43, 3) := by decide +kernel
theorem dX8_stowBehind_48 : decode cX8_stowBehind 48 = .ok (.istore 6, 2) := by decide +kernel
theorem dX8_stowBehind_50 : decode cX8_stowBehind 50 = .ok (.iload 6, 2) := by decide +kernel
theorem dX8_stowBehind_52 : decode cX8_stowBehind 52 = .ok (.ifCond .ne 19, 3) := by decide +kernel
theorem dX8_stowBehind_55 : decode cX8_stowBehind 55 = .ok (.aload_n 0, 1) := by decide +kernel
theorem dX8_stowBehind_56 : decode cX8_stowBehind 56 = .ok (.getfield 9, 3) := by decide +kernel
theorem dX8_stowBehind_59 : decode cX8_stowBehind 59 = .ok (.iload 5, 2) := by decide +kernel
theorem dX8_stowBehind_61 : decode cX8_stowBehind 61 = .ok (.dup2, 1) := by decide +kernel
theorem dX8_stowBehind_62 : decode cX8_stowBehind 62 = .ok (.iaload, 1) := by decide +kernel
theorem dX8_stowBehind_63 : decode cX8_stowBehind 63 = .ok (.aload_n 1, 1) := by decide +kernel
theorem dX8_stowBehind_64 : decode cX8_stowBehind 64 = .ok (.getfield 53, 3) := by decide +kernel
theorem dX8_stowBehind_67 : decode cX8_stowBehind 67 = .ok (.iload_n 2, 1) := by decide +kernel
theorem dX8_stowBehind_68 : decode cX8_stowBehind 68 = .ok (.iaload, 1) := by decide +kernel
theorem dX8_stowBehind_69 : decode cX8_stowBehind 69 = .ok (.iadd, 1) := by decide +kernel
theorem dX8_stowBehind_70 : decode cX8_stowBehind 70 = .ok (.iastore, 1) := by decide +kernel
theorem dX8_stowBehind_71 : decode cX8_stowBehind 71 = .ok (.iload 6, 2) := by decide +kernel
theorem dX8_stowBehind_73 : decode cX8_stowBehind 73 = .ok (.ireturn, 1) := by decide +kernel
theorem dX8_fullest_0 : decode cX8_fullest 0 = .ok (.aload_n 0, 1) := by decide +kernel
theorem dX8_fullest_1 : decode cX8_fullest 1 = .ok (.getfield 25, 3) := by decide +kernel
theorem dX8_fullest_4 : decode cX8_fullest 4 = .ok (.iload_n 2, 1) := by decide +kernel
theorem dX8_fullest_5 : decode cX8_fullest 5 = .ok (.invokevirtual 67, 3) := by decide +kernel
theorem dX8_fullest_8 : decode cX8_fullest 8 = .ok (.ifCond .eq 15, 3) := by decide +kernel
theorem dX8_fullest_11 : decode cX8_fullest 11 = .ok (.aload_n 0, 1) := by decide +kernel
theorem dX8_fullest_12 : decode cX8_fullest 12 = .ok (.getfield 25, 3) := by decide +kernel
theorem dX8_fullest_15 : decode cX8_fullest 15 = .ok (.getfield 34, 3) := by decide +kernel
theorem dX8_fullest_18 : decode cX8_fullest 18 = .ok (.iload_n 2, 1) := by decide +kernel
theorem dX8_fullest_19 : decode cX8_fullest 19 = .ok (.iaload, 1) := by decide +kernel
theorem dX8_fullest_20 : decode cX8_fullest 20 = .ok (.goto 4, 3) := by decide +kernel
theorem dX8_fullest_23 : decode cX8_fullest 23 = .ok (.iconst 0, 1) := by decide +kernel
theorem dX8_fullest_24 : decode cX8_fullest 24 = .ok (.istore_n 3, 1) := by decide +kernel
theorem dX8_fullest_25 : decode cX8_fullest 25 = .ok (.aload_n 1, 1) := by decide +kernel
theorem dX8_fullest_26 : decode cX8_fullest 26 = .ok (.invokevirtual 71, 3) := by decide +kernel
theorem dX8_fullest_29 : decode cX8_fullest 29 = .ok (.istore 4, 2) := by decide +kernel
theorem dX8_fullest_31 : decode cX8_fullest 31 = .ok (.iconst 0, 1) := by decide +kernel
theorem dX8_fullest_32 : decode cX8_fullest 32 = .ok (.istore 5, 2) := by decide +kernel
theorem dX8_fullest_34 : decode cX8_fullest 34 = .ok (.iconst 0, 1) := by decide +kernel
theorem dX8_fullest_35 : decode cX8_fullest 35 = .ok (.istore 6, 2) := by decide +kernel
theorem dX8_fullest_37 : decode cX8_fullest 37 = .ok (.iconst 1, 1) := by decide +kernel
theorem dX8_fullest_38 : decode cX8_fullest 38 = .ok (.istore 7, 2) := by decide +kernel
theorem dX8_fullest_40 : decode cX8_fullest 40 = .ok (.iload 7, 2) := by decide +kernel
theorem dX8_fullest_42 : decode cX8_fullest 42 = .ok (.sipush 256, 3) := by decide +kernel
theorem dX8_fullest_45 : decode cX8_fullest 45 = .ok (.if_icmp .ge 84, 3) := by decide +kernel
theorem dX8_fullest_48 : decode cX8_fullest 48 = .ok (.iload 7, 2) := by decide +kernel
theorem dX8_fullest_50 : decode cX8_fullest 50 = .ok (.iload 4, 2) := by decide +kernel
theorem dX8_fullest_52 : decode cX8_fullest 52 = .ok (.iconst (-1), 1) := by decide +kernel
theorem dX8_fullest_53 : decode cX8_fullest 53 = .ok (.ixor, 1) := by decide +kernel
theorem dX8_fullest_54 : decode cX8_fullest 54 = .ok (.iand, 1) := by decide +kernel
theorem dX8_fullest_55 : decode cX8_fullest 55 = .ok (.ifCond .ne 12, 3) := by decide +kernel
theorem dX8_fullest_58 : decode cX8_fullest 58 = .ok (.aload_n 1, 1) := by decide +kernel
theorem dX8_fullest_59 : decode cX8_fullest 59 = .ok (.iload 7, 2) := by decide +kernel
theorem dX8_fullest_61 : decode cX8_fullest 61 = .ok (.invokevirtual 75, 3) := by decide +kernel
theorem dX8_fullest_64 : decode cX8_fullest 64 = .ok (.goto 4, 3) := by decide +kernel
theorem dX8_fullest_67 : decode cX8_fullest 67 = .ok (.iconst (-1), 1) := by decide +kernel
theorem dX8_fullest_68 : decode cX8_fullest 68 = .ok (.istore 8, 2) := by decide +kernel
theorem dX8_fullest_70 : decode cX8_fullest 70 = .ok (.iload 8, 2) := by decide +kernel
theorem dX8_fullest_72 : decode cX8_fullest 72 = .ok (.iload 6, 2) := by decide +kernel
theorem dX8_fullest_74 : decode cX8_fullest 74 = .ok (.if_icmp .ne 20, 3) := by decide +kernel
theorem dX8_fullest_77 : decode cX8_fullest 77 = .ok (.iload 7, 2) := by decide +kernel
theorem dX8_fullest_79 : decode cX8_fullest 79 = .ok (.invokestatic 58, 3) := by decide +kernel
theorem dX8_fullest_82 : decode cX8_fullest 82 = .ok (.iload 5, 2) := by decide +kernel
theorem dX8_fullest_84 : decode cX8_fullest 84 = .ok (.invokestatic 58, 3) := by decide +kernel
theorem dX8_fullest_87 : decode cX8_fullest 87 = .ok (.if_icmp .ge 7, 3) := by decide +kernel
theorem dX8_fullest_90 : decode cX8_fullest 90 = .ok (.iconst 1, 1) := by decide +kernel
theorem dX8_fullest_91 : decode cX8_fullest 91 = .ok (.goto 4, 3) := by decide +kernel
theorem dX8_fullest_94 : decode cX8_fullest 94 = .ok (.iconst 0, 1) := by decide +kernel
theorem dX8_fullest_95 : decode cX8_fullest 95 = .ok (.istore 9, 2) := by decide +kernel
theorem dX8_fullest_97 : decode cX8_fullest 97 = .ok (.iload 8, 2) := by decide +kernel
theorem dX8_fullest_99 : decode cX8_fullest 99 = .ok (.iload_n 3, 1) := by decide +kernel
theorem dX8_fullest_100 : decode cX8_fullest 100 = .ok (.if_icmp .gt 23, 3) := by decide +kernel
theorem dX8_fullest_103 : decode cX8_fullest 103 = .ok (.iload 8, 2) := by decide +kernel
theorem dX8_fullest_105 : decode cX8_fullest 105 = .ok (.iload 6, 2) := by decide +kernel
theorem dX8_fullest_107 : decode cX8_fullest 107 = .ok (.if_icmp .gt 8, 3) := by decide +kernel
theorem dX8_fullest_110 : decode cX8_fullest 110 = .ok (.iload 9, 2) := by decide +kernel
theorem dX8_fullest_112 : decode cX8_fullest 112 = .ok (.ifCond .eq 11, 3) := by decide +kernel
theorem dX8_fullest_115 : decode cX8_fullest 115 = .ok (.iload 7, 2) := by decide +kernel
theorem dX8_fullest_117 : decode cX8_fullest 117 = .ok (.istore 5, 2) := by decide +kernel
theorem dX8_fullest_119 : decode cX8_fullest 119 = .ok (.iload 8, 2) := by decide +kernel
theorem dX8_fullest_121 : decode cX8_fullest 121 = .ok (.istore 6, 2) := by decide +kernel
theorem dX8_fullest_123 : decode cX8_fullest 123 = .ok (.iinc 7 1, 3) := by decide +kernel
theorem dX8_fullest_126 : decode cX8_fullest 126 = .ok (.goto (-86), 3) := by decide +kernel
theorem dX8_fullest_129 : decode cX8_fullest 129 = .ok (.iload 5, 2) := by decide +kernel
theorem dX8_fullest_131 : decode cX8_fullest 131 = .ok (.ireturn, 1) := by decide +kernel
theorem dX8_countRests_0 : decode cX8_countRests 0 = .ok (.aload_n 1, 1) := by decide +kernel
theorem dX8_countRests_1 : decode cX8_countRests 1 = .ok (.iload_n 2, 1) := by decide +kernel
theorem dX8_countRests_2 : decode cX8_countRests 2 = .ok (.iload_n 3, 1) := by decide +kernel
theorem dX8_countRests_3 : decode cX8_countRests 3 = .ok (.invokevirtual 78, 3) := by decide +kernel
theorem dX8_countRests_6 : decode cX8_countRests 6 = .ok (.ifCond .ne 5, 3) := by decide +kernel
theorem dX8_countRests_9 : decode cX8_countRests 9 = .ok (.iconst (-1), 1) := by decide +kernel
theorem dX8_countRests_10 : decode cX8_countRests 10 = .ok (.ireturn, 1) := by decide +kernel
theorem dX8_countRests_11 : decode cX8_countRests 11 = .ok (.aload_n 1, 1) := by decide +kernel
theorem dX8_countRests_12 : decode cX8_countRests 12 = .ok (.getfield 53, 3) := by decide +kernel
theorem dX8_countRests_15 : decode cX8_countRests 15 = .ok (.iload_n 2, 1) := by decide +kernel
theorem dX8_countRests_16 : decode cX8_countRests 16 = .ok (.iaload, 1) := by decide +kernel
theorem dX8_countRests_17 : decode cX8_countRests 17 = .ok (.istore 4, 2) := by decide +kernel
theorem dX8_countRests_19 : decode cX8_countRests 19 = .ok (.aload_n 1, 1) := by decide +kernel
theorem dX8_countRests_20 : decode cX8_countRests 20 = .ok (.getfield 53, 3) := by decide +kernel
theorem dX8_countRests_23 : decode cX8_countRests 23 = .ok (.iload_n 3, 1) := by decide +kernel
theorem dX8_countRests_24 : decode cX8_countRests 24 = .ok (.iaload, 1) := by decide +kernel
theorem dX8_countRests_25 : decode cX8_countRests 25 = .ok (.istore 5, 2) := by decide +kernel
theorem dX8_countRests_27 : decode cX8_countRests 27 = .ok (.iconst 0, 1) := by decide +kernel
theorem dX8_countRests_28 : decode cX8_countRests 28 = .ok (.istore 6, 2) := by decide +kernel
theorem dX8_countRests_30 : decode cX8_countRests 30 = .ok (.iconst 0, 1) := by decide +kernel
theorem dX8_countRests_31 : decode cX8_countRests 31 = .ok (.istore 7, 2) := by decide +kernel
theorem dX8_countRests_33 : decode cX8_countRests 33 = .ok (.iconst 0, 1) := by decide +kernel
theorem dX8_countRests_34 : decode cX8_countRests 34 = .ok (.istore 8, 2) := by decide +kernel
theorem dX8_countRests_36 : decode cX8_countRests 36 = .ok (.iload 8, 2) := by decide +kernel
theorem dX8_countRests_38 : decode cX8_countRests 38 = .ok (.aload_n 0, 1) := by decide +kernel
theorem dX8_countRests_39 : decode cX8_countRests 39 = .ok (.getfield 25, 3) := by decide +kernel
theorem dX8_countRests_42 : decode cX8_countRests 42 = .ok (.getfield 29, 3) := by decide +kernel
theorem dX8_countRests_45 : decode cX8_countRests 45 = .ok (.if_icmp .ge 108, 3) := by decide +kernel
theorem dX8_countRests_48 : decode cX8_countRests 48 = .ok (.iload 8, 2) := by decide +kernel
theorem dX8_countRests_50 : decode cX8_countRests 50 = .ok (.iconst 4, 1) := by decide +kernel
theorem dX8_countRests_51 : decode cX8_countRests 51 = .ok (.if_icmp .ge 102, 3) := by decide +kernel
theorem dX8_countRests_54 : decode cX8_countRests 54 = .ok (.aload_n 0, 1) := by decide +kernel
theorem dX8_countRests_55 : decode cX8_countRests 55 = .ok (.getfield 9, 3) := by decide +kernel
theorem dX8_countRests_58 : decode cX8_countRests 58 = .ok (.iload 8, 2) := by decide +kernel
theorem dX8_countRests_60 : decode cX8_countRests 60 = .ok (.aload_n 1, 1) := by decide +kernel
theorem dX8_countRests_61 : decode cX8_countRests 61 = .ok (.iload 8, 2) := by decide +kernel
theorem dX8_countRests_63 : decode cX8_countRests 63 = .ok (.invokevirtual 82, 3) := by decide +kernel
theorem dX8_countRests_66 : decode cX8_countRests 66 = .ok (.aload_n 1, 1) := by decide +kernel
theorem dX8_countRests_67 : decode cX8_countRests 67 = .ok (.getfield 85, 3) := by decide +kernel
theorem dX8_countRests_70 : decode cX8_countRests 70 = .ok (.iload_n 2, 1) := by decide +kernel
theorem dX8_countRests_71 : decode cX8_countRests 71 = .ok (.iaload, 1) := by decide +kernel
theorem dX8_countRests_72 : decode cX8_countRests 72 = .ok (.iload 8, 2) := by decide +kernel
theorem dX8_countRests_74 : decode cX8_countRests 74 = .ok (.if_icmp .ne 8, 3) := by decide +kernel
theorem dX8_countRests_77 : decode cX8_countRests 77 = .ok (.iload 4, 2) := by decide +kernel
theorem dX8_countRests_79 : decode cX8_countRests 79 = .ok (.goto 4, 3) := by decide +kernel
theorem dX8_countRests_82 : decode cX8_countRests 82 = .ok (.iconst 0, 1) := by decide +kernel
theorem dX8_countRests_83 : decode cX8_countRests 83 = .ok (.iadd, 1) := by decide +kernel
theorem dX8_countRests_84 : decode cX8_countRests 84 = .ok (.aload_n 1, 1) := by decide +kernel
theorem dX8_countRests_85 : decode cX8_countRests 85 = .ok (.getfield 85, 3) := by decide +kernel
theorem dX8_countRests_88 : decode cX8_countRests 88 = .ok (.iload_n 3, 1) := by decide +kernel
theorem dX8_countRests_89 : decode cX8_countRests 89 = .ok (.iaload, 1) := by decide +kernel
theorem dX8_countRests_90 : decode cX8_countRests 90 = .ok (.iload 8, 2) := by decide +kernel
theorem dX8_countRests_92 : decode cX8_countRests 92 = .ok (.if_icmp .ne 8, 3) := by decide +kernel
theorem dX8_countRests_95 : decode cX8_countRests 95 = .ok (.iload 5, 2) := by decide +kernel
theorem dX8_countRests_97 : decode cX8_countRests 97 = .ok (.goto 4, 3) := by decide +kernel
theorem dX8_countRests_100 : decode cX8_countRests 100 = .ok (.iconst 0, 1) := by decide +kernel
theorem dX8_countRests_101 : decode cX8_countRests 101 = .ok (.iadd, 1) := by decide +kernel
theorem dX8_countRests_102 : decode cX8_countRests 102 = .ok (.iastore, 1) := by decide +kernel
theorem dX8_countRests_103 : decode cX8_countRests 103 = .ok (.iload 6, 2) := by decide +kernel
theorem dX8_countRests_105 : decode cX8_countRests 105 = .ok (.aload_n 0, 1) := by decide +kernel
theorem dX8_countRests_106 : decode cX8_countRests 106 = .ok (.getfield 9, 3) := by decide +kernel
theorem dX8_countRests_109 : decode cX8_countRests 109 = .ok (.iload 8, 2) := by decide +kernel
theorem dX8_countRests_111 : decode cX8_countRests 111 = .ok (.iaload, 1) := by decide +kernel
theorem dX8_countRests_112 : decode cX8_countRests 112 = .ok (.iload 4, 2) := by decide +kernel
theorem dX8_countRests_114 : decode cX8_countRests 114 = .ok (.if_icmp .lt 7, 3) := by decide +kernel
theorem dX8_countRests_117 : decode cX8_countRests 117 = .ok (.iconst 1, 1) := by decide +kernel
theorem dX8_countRests_118 : decode cX8_countRests 118 = .ok (.goto 4, 3) := by decide +kernel
theorem dX8_countRests_121 : decode cX8_countRests 121 = .ok (.iconst 0, 1) := by decide +kernel
theorem dX8_countRests_122 : decode cX8_countRests 122 = .ok (.ior, 1) := by decide +kernel
theorem dX8_countRests_123 : decode cX8_countRests 123 = .ok (.istore 6, 2) := by decide +kernel
theorem dX8_countRests_125 : decode cX8_countRests 125 = .ok (.iload 7, 2) := by decide +kernel
theorem dX8_countRests_127 : decode cX8_countRests 127 = .ok (.aload_n 0, 1) := by decide +kernel
theorem dX8_countRests_128 : decode cX8_countRests 128 = .ok (.getfield 9, 3) := by decide +kernel
theorem dX8_countRests_131 : decode cX8_countRests 131 = .ok (.iload 8, 2) := by decide +kernel
theorem dX8_countRests_133 : decode cX8_countRests 133 = .ok (.iaload, 1) := by decide +kernel
theorem dX8_countRests_134 : decode cX8_countRests 134 = .ok (.iload 5, 2) := by decide +kernel
theorem dX8_countRests_136 : decode cX8_countRests 136 = .ok (.if_icmp .lt 7, 3) := by decide +kernel
theorem dX8_countRests_139 : decode cX8_countRests 139 = .ok (.iconst 1, 1) := by decide +kernel
theorem dX8_countRests_140 : decode cX8_countRests 140 = .ok (.goto 4, 3) := by decide +kernel
theorem dX8_countRests_143 : decode cX8_countRests 143 = .ok (.iconst 0, 1) := by decide +kernel
theorem dX8_countRests_144 : decode cX8_countRests 144 = .ok (.ior, 1) := by decide +kernel
theorem dX8_countRests_145 : decode cX8_countRests 145 = .ok (.istore 7, 2) := by decide +kernel
theorem dX8_countRests_147 : decode cX8_countRests 147 = .ok (.iinc 8 1, 3) := by decide +kernel
theorem dX8_countRests_150 : decode cX8_countRests 150 = .ok (.goto (-114), 3) := by decide +kernel
theorem dX8_countRests_153 : decode cX8_countRests 153 = .ok (.iload 6, 2) := by decide +kernel
theorem dX8_countRests_155 : decode cX8_countRests 155 = .ok (.ifCond .eq 19, 3) := by decide +kernel
theorem dX8_countRests_158 : decode cX8_countRests 158 = .ok (.iload 7, 2) := by decide +kernel
theorem dX8_countRests_160 : decode cX8_countRests 160 = .ok (.ifCond .eq 14, 3) := by decide +kernel
theorem dX8_countRests_163 : decode cX8_countRests 163 = .ok (.aload_n 0, 1) := by decide +kernel
theorem dX8_countRests_164 : decode cX8_countRests 164 = .ok (.iload 4, 2) := by decide +kernel
theorem dX8_countRests_166 : decode cX8_countRests 166 = .ok (.iload 5, 2) := by decide +kernel
theorem dX8_countRests_168 : decode cX8_countRests 168 = .ok (.invokevirtual 88, 3) := by decide +kernel
theorem dX8_countRests_171 : decode cX8_countRests 171 = .ok (.goto 4, 3) := by decide +kernel
theorem dX8_countRests_174 : decode cX8_countRests 174 = .ok (.iconst (-1), 1) := by decide +kernel
theorem dX8_countRests_175 : decode cX8_countRests 175 = .ok (.ireturn, 1) := by decide +kernel
theorem dX8_countPairsAtRest_0 : decode cX8_countPairsAtRest 0 = .ok (.iconst 0, 1) := by decide +kernel
theorem dX8_countPairsAtRest_1 : decode cX8_countPairsAtRest 1 = .ok (.istore_n 3, 1) := by decide +kernel
theorem dX8_countPairsAtRest_2 : decode cX8_countPairsAtRest 2 = .ok (.iconst 0, 1) := by decide +kernel
theorem dX8_countPairsAtRest_3 : decode cX8_countPairsAtRest 3 = .ok (.istore 4, 2) := by decide +kernel
theorem dX8_countPairsAtRest_5 : decode cX8_countPairsAtRest 5 = .ok (.iload 4, 2) := by decide +kernel
theorem dX8_countPairsAtRest_7 : decode cX8_countPairsAtRest 7 = .ok (.aload_n 0, 1) := by decide +kernel
theorem dX8_countPairsAtRest_8 : decode cX8_countPairsAtRest 8 = .ok (.getfield 25, 3) := by decide +kernel
theorem dX8_countPairsAtRest_11 : decode cX8_countPairsAtRest 11 = .ok (.getfield 29, 3) := by decide +kernel
theorem dX8_countPairsAtRest_14 : decode cX8_countPairsAtRest 14 = .ok (.if_icmp .ge 87, 3) := by decide +kernel
theorem dX8_countPairsAtRest_17 : decode cX8_countPairsAtRest 17 = .ok (.iload 4, 2) := by decide +kernel
theorem dX8_countPairsAtRest_19 : decode cX8_countPairsAtRest 19 = .ok (.iconst 4, 1) := by decide +kernel
theorem dX8_countPairsAtRest_20 : decode cX8_countPairsAtRest 20 = .ok (.if_icmp .ge 81, 3) := by decide +kernel
theorem dX8_countPairsAtRest_23 : decode cX8_countPairsAtRest 23 = .ok (.iconst 0, 1) := by decide +kernel
theorem dX8_countPairsAtRest_24 : decode cX8_countPairsAtRest 24 = .ok (.istore 5, 2) := by decide +kernel
theorem dX8_countPairsAtRest_26 : decode cX8_countPairsAtRest 26 = .ok (.iload 5, 2) := by decide +kernel
theorem dX8_countPairsAtRest_28 : decode cX8_countPairsAtRest 28 = .ok (.aload_n 0, 1) := by decide +kernel
theorem dX8_countPairsAtRest_29 : decode cX8_countPairsAtRest 29 = .ok (.getfield 25, 3) := by decide +kernel
theorem dX8_countPairsAtRest_32 : decode cX8_countPairsAtRest 32 = .ok (.getfield 29, 3) := by decide +kernel
theorem dX8_countPairsAtRest_35 : decode cX8_countPairsAtRest 35 = .ok (.if_icmp .ge 60, 3) := by decide +kernel
theorem dX8_countPairsAtRest_38 : decode cX8_countPairsAtRest 38 = .ok (.iload 5, 2) := by decide +kernel
theorem dX8_countPairsAtRest_40 : decode cX8_countPairsAtRest 40 = .ok (.iconst 4, 1) := by decide +kernel
theorem dX8_countPairsAtRest_41 : decode cX8_countPairsAtRest 41 = .ok (.if_icmp .ge 54, 3) := by decide +kernel
theorem dX8_countPairsAtRest_44 : decode cX8_countPairsAtRest 44 = .ok (.aload_n 0, 1) := by decide +kernel
theorem dX8_countPairsAtRest_45 : decode cX8_countPairsAtRest 45 = .ok (.iload 4, 2) := by decide +kernel
theorem dX8_countPairsAtRest_47 : decode cX8_countPairsAtRest 47 = .ok (.iload 5, 2) := by decide +kernel
theorem dX8_countPairsAtRest_49 : decode cX8_countPairsAtRest 49 = .ok (.iload_n 1, 1) := by decide +kernel
theorem dX8_countPairsAtRest_50 : decode cX8_countPairsAtRest 50 = .ok (.iload_n 2, 1) := by decide +kernel
theorem dX8_countPairsAtRest_51 : decode cX8_countPairsAtRest 51 = .ok (.invokevirtual 91, 3) := by decide +kernel
theorem dX8_countPairsAtRest_54 : decode cX8_countPairsAtRest 54 = .ok (.ifCond .eq 35, 3) := by decide +kernel
theorem dX8_countPairsAtRest_57 : decode cX8_countPairsAtRest 57 = .ok (.aload_n 0, 1) := by decide +kernel
theorem dX8_countPairsAtRest_58 : decode cX8_countPairsAtRest 58 = .ok (.iload 5, 2) := by decide +kernel
theorem dX8_countPairsAtRest_60 : decode cX8_countPairsAtRest 60 = .ok (.iload 4, 2) := by decide +kernel
theorem dX8_countPairsAtRest_62 : decode cX8_countPairsAtRest 62 = .ok (.iload_n 2, 1) := by decide +kernel
theorem dX8_countPairsAtRest_63 : decode cX8_countPairsAtRest 63 = .ok (.iload_n 1, 1) := by decide +kernel
theorem dX8_countPairsAtRest_64 : decode cX8_countPairsAtRest 64 = .ok (.invokevirtual 91, 3) := by decide +kernel
theorem dX8_countPairsAtRest_67 : decode cX8_countPairsAtRest 67 = .ok (.ifCond .eq 22, 3) := by decide +kernel
theorem dX8_countPairsAtRest_70 : decode cX8_countPairsAtRest 70 = .ok (.iload_n 3, 1) := by decide +kernel
theorem dX8_countPairsAtRest_71 : decode cX8_countPairsAtRest 71 = .ok (.ifCond .ne 15, 3) := by decide +kernel
theorem dX8_countPairsAtRest_74 : decode cX8_countPairsAtRest 74 = .ok (.aload_n 0, 1) := by decide +kernel
theorem dX8_countPairsAtRest_75 : decode cX8_countPairsAtRest 75 = .ok (.iload 4, 2) := by decide +kernel
theorem dX8_countPairsAtRest_77 : decode cX8_countPairsAtRest 77 = .ok (.putfield 18, 3) := by decide +kernel
theorem dX8_countPairsAtRest_80 : decode cX8_countPairsAtRest 80 = .ok (.aload_n 0, 1) := by decide +kernel
theorem dX8_countPairsAtRest_81 : decode cX8_countPairsAtRest 81 = .ok (.iload 5, 2) := by decide +kernel
theorem dX8_countPairsAtRest_83 : decode cX8_countPairsAtRest 83 = .ok (.putfield 22, 3) := by decide +kernel
theorem dX8_countPairsAtRest_86 : decode cX8_countPairsAtRest 86 = .ok (.iinc 3 1, 3) := by decide +kernel
theorem dX8_countPairsAtRest_89 : decode cX8_countPairsAtRest 89 = .ok (.iinc 5 1, 3) := by decide +kernel
theorem dX8_countPairsAtRest_92 : decode cX8_countPairsAtRest 92 = .ok (.goto (-66), 3) := by decide +kernel
theorem dX8_countPairsAtRest_95 : decode cX8_countPairsAtRest 95 = .ok (.iinc 4 1, 3) := by decide +kernel
theorem dX8_countPairsAtRest_98 : decode cX8_countPairsAtRest 98 = .ok (.goto (-93), 3) := by decide +kernel
theorem dX8_countPairsAtRest_101 : decode cX8_countPairsAtRest 101 = .ok (.iload_n 3, 1) := by decide +kernel
theorem dX8_countPairsAtRest_102 : decode cX8_countPairsAtRest 102 = .ok (.ireturn, 1) := by decide +kernel
theorem dX8_isContent_0 : decode cX8_isContent 0 = .ok (.aload_n 0, 1) := by decide +kernel
theorem dX8_isContent_1 : decode cX8_isContent 1 = .ok (.iload_n 1, 1) := by decide +kernel
theorem dX8_isContent_2 : decode cX8_isContent 2 = .ok (.iload_n 2, 1) := by decide +kernel
theorem dX8_isContent_3 : decode cX8_isContent 3 = .ok (.iload_n 3, 1) := by decide +kernel
theorem dX8_isContent_4 : decode cX8_isContent 4 = .ok (.iload 4, 2) := by decide +kernel
theorem dX8_isContent_6 : decode cX8_isContent 6 = .ok (.invokevirtual 95, 3) := by decide +kernel
theorem dX8_isContent_9 : decode cX8_isContent 9 = .ok (.istore 5, 2) := by decide +kernel
theorem dX8_isContent_11 : decode cX8_isContent 11 = .ok (.iconst 0, 1) := by decide +kernel
theorem dX8_isContent_12 : decode cX8_isContent 12 = .ok (.istore 6, 2) := by decide +kernel
theorem dX8_isContent_14 : decode cX8_isContent 14 = .ok (.iload 6, 2) := by decide +kernel
theorem dX8_isContent_16 : decode cX8_isContent 16 = .ok (.aload_n 0, 1) := by decide +kernel
theorem dX8_isContent_17 : decode cX8_isContent 17 = .ok (.getfield 25, 3) := by decide +kernel
theorem dX8_isContent_20 : decode cX8_isContent 20 = .ok (.getfield 29, 3) := by decide +kernel
theorem dX8_isContent_23 : decode cX8_isContent 23 = .ok (.if_icmp .ge 32, 3) := by decide +kernel
theorem dX8_isContent_26 : decode cX8_isContent 26 = .ok (.iload 6, 2) := by decide +kernel
theorem dX8_isContent_28 : decode cX8_isContent 28 = .ok (.iconst 4, 1) := by decide +kernel
theorem dX8_isContent_29 : decode cX8_isContent 29 = .ok (.if_icmp .ge 26, 3) := by decide +kernel
theorem dX8_isContent_32 : decode cX8_isContent 32 = .ok (.aload_n 0, 1) := by decide +kernel
theorem dX8_isContent_33 : decode cX8_isContent 33 = .ok (.iload 6, 2) := by decide +kernel
theorem dX8_isContent_35 : decode cX8_isContent 35 = .ok (.iload_n 2, 1) := by decide +kernel
theorem dX8_isContent_36 : decode cX8_isContent 36 = .ok (.iload_n 3, 1) := by decide +kernel
theorem dX8_isContent_37 : decode cX8_isContent 37 = .ok (.iload 4, 2) := by decide +kernel
theorem dX8_isContent_39 : decode cX8_isContent 39 = .ok (.invokevirtual 95, 3) := by decide +kernel
theorem dX8_isContent_42 : decode cX8_isContent 42 = .ok (.iload 5, 2) := by decide +kernel
theorem dX8_isContent_44 : decode cX8_isContent 44 = .ok (.if_icmp .le 5, 3) := by decide +kernel
theorem dX8_isContent_47 : decode cX8_isContent 47 = .ok (.iconst 0, 1) := by decide +kernel
theorem dX8_isContent_48 : decode cX8_isContent 48 = .ok (.ireturn, 1) := by decide +kernel
theorem dX8_isContent_49 : decode cX8_isContent 49 = .ok (.iinc 6 1, 3) := by decide +kernel
theorem dX8_isContent_52 : decode cX8_isContent 52 = .ok (.goto (-38), 3) := by decide +kernel
theorem dX8_isContent_55 : decode cX8_isContent 55 = .ok (.iload 5, 2) := by decide +kernel
theorem dX8_isContent_57 : decode cX8_isContent 57 = .ok (.bipush (-2), 2) := by decide +kernel
theorem dX8_isContent_59 : decode cX8_isContent 59 = .ok (.if_icmp .eq 7, 3) := by decide +kernel
theorem dX8_isContent_62 : decode cX8_isContent 62 = .ok (.iconst 1, 1) := by decide +kernel
theorem dX8_isContent_63 : decode cX8_isContent 63 = .ok (.goto 4, 3) := by decide +kernel
theorem dX8_isContent_66 : decode cX8_isContent 66 = .ok (.iconst 0, 1) := by decide +kernel
theorem dX8_isContent_67 : decode cX8_isContent 67 = .ok (.ireturn, 1) := by decide +kernel
theorem dX8_gainOf_0 : decode cX8_gainOf 0 = .ok (.iload_n 1, 1) := by decide +kernel
theorem dX8_gainOf_1 : decode cX8_gainOf 1 = .ok (.ifCond .lt 18, 3) := by decide +kernel
theorem dX8_gainOf_4 : decode cX8_gainOf 4 = .ok (.iload_n 1, 1) := by decide +kernel
theorem dX8_gainOf_5 : decode cX8_gainOf 5 = .ok (.iconst 4, 1) := by decide +kernel
theorem dX8_gainOf_6 : decode cX8_gainOf 6 = .ok (.if_icmp .ge 13, 3) := by decide +kernel
theorem dX8_gainOf_9 : decode cX8_gainOf 9 = .ok (.aload_n 0, 1) := by decide +kernel
theorem dX8_gainOf_10 : decode cX8_gainOf 10 = .ok (.getfield 9, 3) := by decide +kernel
theorem dX8_gainOf_13 : decode cX8_gainOf 13 = .ok (.iload_n 1, 1) := by decide +kernel
theorem dX8_gainOf_14 : decode cX8_gainOf 14 = .ok (.iaload, 1) := by decide +kernel
theorem dX8_gainOf_15 : decode cX8_gainOf 15 = .ok (.iload_n 3, 1) := by decide +kernel
theorem dX8_gainOf_16 : decode cX8_gainOf 16 = .ok (.if_icmp .ge 6, 3) := by decide +kernel
theorem dX8_gainOf_19 : decode cX8_gainOf 19 = .ok (.bipush (-2), 2) := by decide +kernel
theorem dX8_gainOf_21 : decode cX8_gainOf 21 = .ok (.ireturn, 1) := by decide +kernel
theorem dX8_gainOf_22 : decode cX8_gainOf 22 = .ok (.aload_n 0, 1) := by decide +kernel
theorem dX8_gainOf_23 : decode cX8_gainOf 23 = .ok (.getfield 9, 3) := by decide +kernel
theorem dX8_gainOf_26 : decode cX8_gainOf 26 = .ok (.iload_n 1, 1) := by decide +kernel
theorem dX8_gainOf_27 : decode cX8_gainOf 27 = .ok (.iaload, 1) := by decide +kernel
theorem dX8_gainOf_28 : decode cX8_gainOf 28 = .ok (.iload_n 3, 1) := by decide +kernel
theorem dX8_gainOf_29 : decode cX8_gainOf 29 = .ok (.isub, 1) := by decide +kernel
theorem dX8_gainOf_30 : decode cX8_gainOf 30 = .ok (.istore 5, 2) := by decide +kernel
theorem dX8_gainOf_32 : decode cX8_gainOf 32 = .ok (.iload_n 1, 1) := by decide +kernel
theorem dX8_gainOf_33 : decode cX8_gainOf 33 = .ok (.iload_n 2, 1) := by decide +kernel
theorem dX8_gainOf_34 : decode cX8_gainOf 34 = .ok (.if_icmp .ne 15, 3) := by decide +kernel
theorem dX8_gainOf_37 : decode cX8_gainOf 37 = .ok (.iconst (-1), 1) := by decide +kernel
theorem dX8_gainOf_38 : decode cX8_gainOf 38 = .ok (.iload 5, 2) := by decide +kernel
theorem dX8_gainOf_40 : decode cX8_gainOf 40 = .ok (.iload 4, 2) := by decide +kernel
theorem dX8_gainOf_42 : decode cX8_gainOf 42 = .ok (.isub, 1) := by decide +kernel
theorem dX8_gainOf_43 : decode cX8_gainOf 43 = .ok (.invokestatic 47, 3) := by decide +kernel
theorem dX8_gainOf_46 : decode cX8_gainOf 46 = .ok (.goto 5, 3) := by decide +kernel
theorem dX8_gainOf_49 : decode cX8_gainOf 49 = .ok (.iload 5, 2) := by decide +kernel
theorem dX8_gainOf_51 : decode cX8_gainOf 51 = .ok (.ireturn, 1) := by decide +kernel
theorem dX9_init_0 : decode cX9_init 0 = .ok (.aload_n 0, 1) := by decide +kernel
theorem dX9_init_1 : decode cX9_init 1 = .ok (.invokespecial 3, 3) := by decide +kernel
theorem dX9_init_4 : decode cX9_init 4 = .ok (.aload_n 0, 1) := by decide +kernel
theorem dX9_init_5 : decode cX9_init 5 = .ok (.sipush 1600, 3) := by decide +kernel
theorem dX9_init_8 : decode cX9_init 8 = .ok (.newarray .int, 2) := by decide +kernel
theorem dX9_init_10 : decode cX9_init 10 = .ok (.putfield 9, 3) := by decide +kernel
theorem dX9_init_13 : decode cX9_init 13 = .ok (.aload_n 0, 1) := by decide +kernel
theorem dX9_init_14 : decode cX9_init 14 = .ok (.bipush 18, 2) := by decide +kernel
theorem dX9_init_16 : decode cX9_init 16 = .ok (.newarray .long, 2) := by decide +kernel
theorem dX9_init_18 : decode cX9_init 18 = .ok (.putfield 15, 3) := by decide +kernel
theorem dX9_init_21 : decode cX9_init 21 = .ok (.aload_n 0, 1) := by decide +kernel
theorem dX9_init_22 : decode cX9_init 22 = .ok (.iconst 0, 1) := by decide +kernel
theorem dX9_init_23 : decode cX9_init 23 = .ok (.putfield 19, 3) := by decide +kernel
theorem dX9_init_26 : decode cX9_init 26 = .ok (.aload_n 0, 1) := by decide +kernel
theorem dX9_init_27 : decode cX9_init 27 = .ok (.iconst 0, 1) := by decide +kernel
theorem dX9_init_28 : decode cX9_init 28 = .ok (.putfield 23, 3) := by decide +kernel
theorem dX9_init_31 : decode cX9_init 31 = .ok (.aload_n 0, 1) := by decide +kernel
theorem dX9_init_32 : decode cX9_init 32 = .ok (.bipush 31, 2) := by decide +kernel
theorem dX9_init_34 : decode cX9_init 34 = .ok (.putfield 26, 3) := by decide +kernel
theorem dX9_init_37 : decode cX9_init 37 = .ok (.aload_n 0, 1) := by decide +kernel
theorem dX9_init_38 : decode cX9_init 38 = .ok (.iconst 0, 1) := by decide +kernel
theorem dX9_init_39 : decode cX9_init 39 = .ok (.putfield 29, 3) := by decide +kernel
theorem dX9_init_42 : decode cX9_init 42 = .ok (.aload_n 0, 1) := by decide +kernel
theorem dX9_init_43 : decode cX9_init 43 = .ok (.iconst 0, 1) := by decide +kernel
theorem dX9_init_44 : decode cX9_init 44 = .ok (.putfield 32, 3) := by decide +kernel
theorem dX9_init_47 : decode cX9_init 47 = .ok (.aload_n 0, 1) := by decide +kernel
theorem dX9_init_48 : decode cX9_init 48 = .ok (.lconst 0, 1) := by decide +kernel
theorem dX9_init_49 : decode cX9_init 49 = .ok (.putfield 35, 3) := by decide +kernel
theorem dX9_init_52 : decode cX9_init 52 = .ok (.lconst 0, 1) := by decide +kernel
theorem dX9_init_53 : decode cX9_init 53 = .ok (.lstore_n 1, 1) := by decide +kernel
theorem dX9_init_54 : decode cX9_init 54 = .ok (.iconst 0, 1) := by decide +kernel
theorem dX9_init_55 : decode cX9_init 55 = .ok (.istore_n 3, 1) := by decide +kernel
theorem dX9_init_56 : decode cX9_init 56 = .ok (.iconst 0, 1) := by decide +kernel
theorem dX9_init_57 : decode cX9_init 57 = .ok (.istore 4, 2) := by decide +kernel
theorem dX9_init_59 : decode cX9_init 59 = .ok (.iload 4, 2) := by decide +kernel
theorem dX9_init_61 : decode cX9_init 61 = .ok (.ldc 39, 2) := by decide +kernel
theorem dX9_init_63 : decode cX9_init 63 = .ok (.invokevirtual 41, 3) := by decide +kernel
theorem dX9_init_66 : decode cX9_init 66 = .ok (.if_icmp .ge 53, 3) := by decide +kernel
theorem dX9_init_69 : decode cX9_init 69 = .ok (.ldc 39, 2) := by decide +kernel
theorem dX9_init_71 : decode cX9_init 71 = .ok (.iload 4, 2) := by decide +kernel
theorem dX9_init_73 : decode cX9_init 73 = .ok (.invokevirtual 46, 3) := by decide +kernel
theorem dX9_init_76 : decode cX9_init 76 = .ok (.istore 5, 2) := by decide +kernel
theorem dX9_init_78 : decode cX9_init 78 = .ok (.iload 5, 2) := by decide +kernel
theorem dX9_init_80 : decode cX9_init 80 = .ok (.bipush 32, 2) := by decide +kernel
theorem dX9_init_82 : decode cX9_init 82 = .ok (.if_icmp .eq 13, 3) := by decide +kernel
theorem dX9_init_85 : decode cX9_init 85 = .ok (.lload_n 1, 1) := by decide +kernel
theorem dX9_init_86 : decode cX9_init 86 = .ok (.iload 5, 2) := by decide +kernel
theorem dX9_init_88 : decode cX9_init 88 = .ok (.invokestatic 50, 3) := by decide +kernel
theorem dX9_init_91 : decode cX9_init 91 = .ok (.lstore_n 1, 1) := by decide +kernel
theorem dX9_init_92 : decode cX9_init 92 = .ok (.goto 21, 3) := by decide +kernel
theorem dX9_init_95 : decode cX9_init 95 = .ok (.iload_n 3, 1) := by decide +kernel
theorem dX9_init_96 : decode cX9_init 96 = .ok (.bipush 18, 2) := by decide +kernel
theorem dX9_init_98 : decode cX9_init 98 = .ok (.if_icmp .ge 15, 3) := by decide +kernel
theorem dX9_init_101 : decode cX9_init 101 = .ok (.aload_n 0, 1) := by decide +kernel
theorem dX9_init_102 : decode cX9_init 102 = .ok (.getfield 15, 3) := by decide +kernel
theorem dX9_init_105 : decode cX9_init 105 = .ok (.iload_n 3, 1) := by decide +kernel
theorem dX9_init_106 : decode cX9_init 106 = .ok (.lload_n 1, 1) := by decide +kernel
theorem dX9_init_107 : decode cX9_init 107 = .ok (.lastore, 1) := by decide +kernel
theorem dX9_init_108 : decode cX9_init 108 = .ok (.iinc 3 1, 3) := by decide +kernel
theorem dX9_init_111 : decode cX9_init 111 = .ok (.lconst 0, 1) := by decide +kernel
theorem dX9_init_112 : decode cX9_init 112 = .ok (.lstore_n 1, 1) := by decide +kernel
theorem dX9_init_113 : decode cX9_init 113 = .ok (.iinc 4 1, 3) := by decide +kernel
theorem dX9_init_116 : decode cX9_init 116 = .ok (.goto (-57), 3) := by decide +kernel
theorem dX9_init_119 : decode cX9_init 119 = .ok (.return_, 1) := by decide +kernel
theorem dX9_put_0 : decode cX9_put 0 = .ok (.bipush 24, 2) := by decide +kernel
theorem dX9_put_2 : decode cX9_put 2 = .ok (.istore_n 2, 1) := by decide +kernel
theorem dX9_put_3 : decode cX9_put 3 = .ok (.iload_n 2, 1) := by decide +kernel
theorem dX9_put_4 : decode cX9_put 4 = .ok (.ifCond .lt 52, 3) := by decide +kernel
theorem dX9_put_7 : decode cX9_put 7 = .ok (.aload_n 0, 1) := by decide +kernel
theorem dX9_put_8 : decode cX9_put 8 = .ok (.getfield 23, 3) := by decide +kernel
theorem dX9_put_11 : decode cX9_put 11 = .ok (.ifCond .lt 39, 3) := by decide +kernel
theorem dX9_put_14 : decode cX9_put 14 = .ok (.aload_n 0, 1) := by decide +kernel
theorem dX9_put_15 : decode cX9_put 15 = .ok (.getfield 23, 3) := by decide +kernel
theorem dX9_put_18 : decode cX9_put 18 = .ok (.sipush 1600, 3) := by decide +kernel
theorem dX9_put_21 : decode cX9_put 21 = .ok (.if_icmp .ge 29, 3) := by decide +kernel
theorem dX9_put_24 : decode cX9_put 24 = .ok (.aload_n 0, 1) := by decide +kernel
theorem dX9_put_25 : decode cX9_put 25 = .ok (.getfield 9, 3) := by decide +kernel
theorem dX9_put_28 : decode cX9_put 28 = .ok (.aload_n 0, 1) := by decide +kernel
theorem dX9_put_29 : decode cX9_put 29 = .ok (.getfield 23, 3) := by decide +kernel
theorem dX9_put_32 : decode cX9_put 32 = .ok (.iload_n 1, 1) := by decide +kernel
theorem dX9_put_33 : decode cX9_put 33 = .ok (.iload_n 2, 1) := by decide +kernel
theorem dX9_put_34 : decode cX9_put 34 = .ok (.ishr, 1) := by decide +kernel
theorem dX9_put_35 : decode cX9_put 35 = .ok (.sipush 255, 3) := by decide +kernel
theorem dX9_put_38 : decode cX9_put 38 = .ok (.iand, 1) := by decide +kernel
theorem dX9_put_39 : decode cX9_put 39 = .ok (.iastore, 1) := by decide +kernel
theorem dX9_put_40 : decode cX9_put 40 = .ok (.aload_n 0, 1) := by decide +kernel
theorem dX9_put_41 : decode cX9_put 41 = .ok (.dup, 1) := by decide +kernel
theorem dX9_put_42 : decode cX9_put 42 = .ok (.getfield 23, 3) := by decide +kernel
theorem dX9_put_45 : decode cX9_put 45 = .ok (.iconst 1, 1) := by decide +kernel
theorem dX9_put_46 : decode cX9_put 46 = .ok (.iadd, 1) := by decide +kernel
theorem dX9_put_47 : decode cX9_put 47 = .ok (.putfield 23, 3) := by decide +kernel
theorem dX9_put_50 : decode cX9_put 50 = .ok (.iinc 2 (-8), 3) := by decide +kernel
theorem dX9_put_53 : decode cX9_put 53 = .ok (.goto (-50), 3) := by decide +kernel
theorem dX9_put_56 : decode cX9_put 56 = .ok (.return_, 1) := by decide +kernel
theorem dX9_rewind_0 : decode cX9_rewind 0 = .ok (.aload_n 0, 1) := by decide +kernel
theorem dX9_rewind_1 : decode cX9_rewind 1 = .ok (.iconst 0, 1) := by decide +kernel
theorem dX9_rewind_2 : decode cX9_rewind 2 = .ok (.putfield 19, 3) := by decide +kernel
theorem dX9_rewind_5 : decode cX9_rewind 5 = .ok (.aload_n 0, 1) := by decide +kernel
theorem dX9_rewind_6 : decode cX9_rewind 6 = .ok (.invokevirtual 54, 3) := by decide +kernel
theorem dX9_rewind_9 : decode cX9_rewind 9 = .ok (.return_, 1) := by decide +kernel
theorem dX9_advance_0 : decode cX9_advance 0 = .ok (.iconst 0, 1) := by decide +kernel
theorem dX9_advance_1 : decode cX9_advance 1 = .ok (.istore_n 1, 1) := by decide +kernel
theorem dX9_advance_2 : decode cX9_advance 2 = .ok (.iload_n 1, 1) := by decide +kernel
theorem dX9_advance_3 : decode cX9_advance 3 = .ok (.sipush 1600, 3) := by decide +kernel
theorem dX9_advance_6 : decode cX9_advance 6 = .ok (.if_icmp .ge 29, 3) := by decide +kernel
theorem dX9_advance_9 : decode cX9_advance 9 = .ok (.aload_n 0, 1) := by decide +kernel
theorem dX9_advance_10 : decode cX9_advance 10 = .ok (.invokevirtual 57, 3) := by decide +kernel
theorem dX9_advance_13 : decode cX9_advance 13 = .ok (.invokestatic 60, 3) := by decide +kernel
theorem dX9_advance_16 : decode cX9_advance 16 = .ok (.ifCond .eq 19, 3) := by decide +kernel
theorem dX9_advance_19 : decode cX9_advance 19 = .ok (.aload_n 0, 1) := by decide +kernel
theorem dX9_advance_20 : decode cX9_advance 20 = .ok (.dup, 1) := by decide +kernel
theorem dX9_advance_21 : decode cX9_advance 21 = .ok (.getfield 19, 3) := by decide +kernel
theorem dX9_advance_24 : decode cX9_advance 24 = .ok (.iconst 1, 1) := by decide +kernel
theorem dX9_advance_25 : decode cX9_advance 25 = .ok (.iadd, 1) := by decide +kernel
theorem dX9_advance_26 : decode cX9_advance 26 = .ok (.putfield 19, 3) := by decide +kernel
theorem dX9_advance_29 : decode cX9_advance 29 = .ok (.iinc 1 1, 3) := by decide +kernel
theorem dX9_advance_32 : decode cX9_advance 32 = .ok (.goto (-30), 3) := by decide +kernel
theorem dX9_advance_35 : decode cX9_advance 35 = .ok (.aload_n 0, 1) := by decide +kernel
theorem dX9_advance_36 : decode cX9_advance 36 = .ok (.aload_n 0, 1) := by decide +kernel
theorem dX9_advance_37 : decode cX9_advance 37 = .ok (.getfield 19, 3) := by decide +kernel
theorem dX9_advance_40 : decode cX9_advance 40 = .ok (.putfield 29, 3) := by decide +kernel
theorem dX9_advance_43 : decode cX9_advance 43 = .ok (.aload_n 0, 1) := by decide +kernel
theorem dX9_advance_44 : decode cX9_advance 44 = .ok (.invokevirtual 57, 3) := by decide +kernel
theorem dX9_advance_47 : decode cX9_advance 47 = .ok (.istore_n 1, 1) := by decide +kernel
theorem dX9_advance_48 : decode cX9_advance 48 = .ok (.iload_n 1, 1) := by decide +kernel
theorem dX9_advance_49 : decode cX9_advance 49 = .ok (.iconst (-1), 1) := by decide +kernel
theorem dX9_advance_50 : decode cX9_advance 50 = .ok (.if_icmp .ne 12, 3) := by decide +kernel
theorem dX9_advance_53 : decode cX9_advance 53 = .ok (.aload_n 0, 1) := by decide +kernel
theorem dX9_advance_54 : decode cX9_advance 54 = .ok (.bipush 31, 2) := by decide +kernel
theorem dX9_advance_56 : decode cX9_advance 56 = .ok (.putfield 26, 3) := by decide +kernel
theorem dX9_advance_59 : decode cX9_advance 59 = .ok (.goto 49, 3) := by decide +kernel
theorem dX9_advance_62 : decode cX9_advance 62 = .ok (.iload_n 1, 1) := by decide +kernel
theorem dX9_advance_63 : decode cX9_advance 63 = .ok (.invokestatic 64, 3) := by decide +kernel
theorem dX9_advance_66 : decode cX9_advance 66 = .ok (.ifCond .eq 10, 3) := by decide +kernel
theorem dX9_advance_69 : decode cX9_advance 69 = .ok (.aload_n 0, 1) := by decide +kernel
theorem dX9_advance_70 : decode cX9_advance 70 = .ok (.invokevirtual 67, 3) := by decide +kernel
theorem dX9_advance_73 : decode cX9_advance 73 = .ok (.goto 35, 3) := by decide +kernel
theorem dX9_advance_76 : decode cX9_advance 76 = .ok (.iload_n 1, 1) := by decide +kernel
theorem dX9_advance_77 : decode cX9_advance 77 = .ok (.invokestatic 70, 3) := by decide +kernel
theorem dX9_advance_80 : decode cX9_advance 80 = .ok (.ifCond .eq 10, 3) := by decide +kernel
theorem dX9_advance_83 : decode cX9_advance 83 = .ok (.aload_n 0, 1) := by decide +kernel
theorem dX9_advance_84 : decode cX9_advance 84 = .ok (.invokevirtual 73, 3) := by decide +kernel
theorem dX9_advance_87 : decode cX9_advance 87 = .ok (.goto 21, 3) := by decide +kernel
theorem dX9_advance_90 : decode cX9_advance 90 = .ok (.aload_n 0, 1) := by decide +kernel
theorem dX9_advance_91 : decode cX9_advance 91 = .ok (.iload_n 1, 1) := by decide +kernel
theorem dX9_advance_92 : decode cX9_advance 92 = .ok (.invokestatic 76, 3) := by decide +kernel
theorem dX9_advance_95 : decode cX9_advance 95 = .ok (.putfield 26, 3) := by decide +kernel
theorem dX9_advance_98 : decode cX9_advance 98 = .ok (.aload_n 0, 1) := by decide +kernel
theorem dX9_advance_99 : decode cX9_advance 99 = .ok (.dup, 1) := by decide +kernel
theorem dX9_advance_100 : decode cX9_advance 100 = .ok (.getfield 19, 3) := by decide +kernel
theorem dX9_advance_103 : decode cX9_advance 103 = .ok (.iconst 1, 1) := by decide +kernel
theorem dX9_advance_104 : decode cX9_advance 104 = .ok (.iadd, 1) := by decide +kernel
theorem dX9_advance_105 : decode cX9_advance 105 = .ok (.putfield 19, 3) := by decide +kernel
theorem dX9_advance_108 : decode cX9_advance 108 = .ok (.return_, 1) := by decide +kernel
theorem dX9_takeWord_0 : decode cX9_takeWord 0 = .ok (.iconst 0, 1) := by decide +kernel
theorem dX9_takeWord_1 : decode cX9_takeWord 1 = .ok (.istore_n 1, 1) := by decide +kernel
theorem dX9_takeWord_2 : decode cX9_takeWord 2 = .ok (.aload_n 0, 1) := by decide +kernel
theorem dX9_takeWord_3 : decode cX9_takeWord 3 = .ok (.lconst 0, 1) := by decide +kernel
theorem dX9_takeWord_4 : decode cX9_takeWord 4 = .ok (.putfield 35, 3) := by decide +kernel
theorem dX9_takeWord_7 : decode cX9_takeWord 7 = .ok (.iconst 0, 1) := by decide +kernel
theorem dX9_takeWord_8 : decode cX9_takeWord 8 = .ok (.istore_n 2, 1) := by decide +kernel
theorem dX9_takeWord_9 : decode cX9_takeWord 9 = .ok (.iload_n 2, 1) := by decide +kernel
theorem dX9_takeWord_10 : decode cX9_takeWord 10 = .ok (.sipush 1600, 3) := by decide +kernel
theorem dX9_takeWord_13 : decode cX9_takeWord 13 = .ok (.if_icmp .ge 47, 3) := by decide +kernel
theorem dX9_takeWord_16 : decode cX9_takeWord 16 = .ok (.aload_n 0, 1) := by decide +kernel
theorem dX9_takeWord_17 : decode cX9_takeWord 17 = .ok (.invokevirtual 57, 3) := by decide +kernel
theorem dX9_takeWord_20 : decode cX9_takeWord 20 = .ok (.invokestatic 64, 3) := by decide +kernel
theorem dX9_takeWord_23 : decode cX9_takeWord 23 = .ok (.ifCond .eq 37, 3) := by decide +kernel
theorem dX9_takeWord_26 : decode cX9_takeWord 26 = .ok (.aload_n 0, 1) := by decide +kernel
theorem dX9_takeWord_27 : decode cX9_takeWord 27 = .ok (.aload_n 0, 1) := by decide +kernel
theorem dX9_takeWord_28 : decode cX9_takeWord 28 = .ok (.getfield 35, 3) := by decide +kernel
theorem dX9_takeWord_31 : decode cX9_takeWord 31 = .ok (.aload_n 0, 1) := by decide +kernel
theorem dX9_takeWord_32 : decode cX9_takeWord 32 = .ok (.invokevirtual 57, 3) := by decide +kernel
theorem dX9_takeWord_35 : decode cX9_takeWord 35 = .ok (.invokestatic 50, 3) := by decide +kernel
theorem dX9_takeWord_38 : decode cX9_takeWord 38 = .ok (.putfield 35, 3) := by decide +kernel
theorem dX9_takeWord_41 : decode cX9_takeWord 41 = .ok (.iinc 1 1, 3) := by decide +kernel
theorem dX9_takeWord_44 : decode cX9_takeWord 44 = .ok (.aload_n 0, 1) := by decide +kernel
theorem dX9_takeWord_45 : decode cX9_takeWord 45 = .ok (.dup, 1) := by decide +kernel
theorem dX9_takeWord_46 : decode cX9_takeWord 46 = .ok (.getfield 19, 3) := by decide +kernel
theorem dX9_takeWord_49 : decode cX9_takeWord 49 = .ok (.iconst 1, 1) := by decide +kernel
theorem dX9_takeWord_50 : decode cX9_takeWord 50 = .ok (.iadd, 1) := by decide +kernel
theorem dX9_takeWord_51 : decode cX9_takeWord 51 = .ok (.putfield 19, 3) := by decide +kernel
theorem dX9_takeWord_54 : decode cX9_takeWord 54 = .ok (.iinc 2 1, 3) := by decide +kernel
theorem dX9_takeWord_57 : decode cX9_takeWord 57 = .ok (.goto (-48), 3) := by decide +kernel
theorem dX9_takeWord_60 : decode cX9_takeWord 60 = .ok (.aload_n 0, 1) := by decide +kernel
theorem dX9_takeWord_61 : decode cX9_takeWord 61 = .ok (.iload_n 1, 1) := by decide +kernel
theorem dX9_takeWord_62 : decode cX9_takeWord 62 = .ok (.bipush 8, 2) := by decide +kernel
theorem dX9_takeWord_64 : decode cX9_takeWord 64 = .ok (.if_icmp .le 8, 3) := by decide +kernel
theorem dX9_takeWord_67 : decode cX9_takeWord 67 = .ok (.bipush 32, 2) := by decide +kernel
theorem dX9_takeWord_69 : decode cX9_takeWord 69 = .ok (.goto 11, 3) := by decide +kernel
theorem dX9_takeWord_72 : decode cX9_takeWord 72 = .ok (.aload_n 0, 1) := by decide +kernel
theorem dX9_takeWord_73 : decode cX9_takeWord 73 = .ok (.aload_n 0, 1) := by decide +kernel
theorem dX9_takeWord_74 : decode cX9_takeWord 74 = .ok (.getfield 35, 3) := by decide +kernel
theorem dX9_takeWord_77 : decode cX9_takeWord 77 = .ok (.invokevirtual 80, 3) := by decide +kernel
theorem dX9_takeWord_80 : decode cX9_takeWord 80 = .ok (.putfield 26, 3) := by decide +kernel
theorem dX9_takeWord_83 : decode cX9_takeWord 83 = .ok (.return_, 1) := by decide +kernel
theorem dX9_takeNumber_0 : decode cX9_takeNumber 0 = .ok (.iconst 0, 1) := by decide +kernel
theorem dX9_takeNumber_1 : decode cX9_takeNumber 1 = .ok (.istore_n 1, 1) := by decide +kernel
theorem dX9_takeNumber_2 : decode cX9_takeNumber 2 = .ok (.aload_n 0, 1) := by decide +kernel
theorem dX9_takeNumber_3 : decode cX9_takeNumber 3 = .ok (.iconst 0, 1) := by decide +kernel
theorem dX9_takeNumber_4 : decode cX9_takeNumber 4 = .ok (.putfield 32, 3) := by decide +kernel
theorem dX9_takeNumber_7 : decode cX9_takeNumber 7 = .ok (.iconst 0, 1) := by decide +kernel
theorem dX9_takeNumber_8 : decode cX9_takeNumber 8 = .ok (.istore_n 2, 1) := by decide +kernel
theorem dX9_takeNumber_9 : decode cX9_takeNumber 9 = .ok (.iload_n 2, 1) := by decide +kernel
theorem dX9_takeNumber_10 : decode cX9_takeNumber 10 = .ok (.sipush 1600, 3) := by decide +kernel
theorem dX9_takeNumber_13 : decode cX9_takeNumber 13 = .ok (.if_icmp .ge 51, 3) := by decide +kernel
theorem dX9_takeNumber_16 : decode cX9_takeNumber 16 = .ok (.aload_n 0, 1) := by decide +kernel
theorem dX9_takeNumber_17 : decode cX9_takeNumber 17 = .ok (.invokevirtual 57, 3) := by decide +kernel
theorem dX9_takeNumber_20 : decode cX9_takeNumber 20 = .ok (.invokestatic 70, 3) := by decide +kernel
theorem dX9_takeNumber_23 : decode cX9_takeNumber 23 = .ok (.ifCond .eq 41, 3) := by decide +kernel
theorem dX9_takeNumber_26 : decode cX9_takeNumber 26 = .ok (.aload_n 0, 1) := by decide +kernel
theorem dX9_takeNumber_27 : decode cX9_takeNumber 27 = .ok (.aload_n 0, 1) := by decide +kernel
theorem dX9_takeNumber_28 : decode cX9_takeNumber 28 = .ok (.getfield 32, 3) := by decide +kernel
theorem dX9_takeNumber_31 : decode cX9_takeNumber 31 = .ok (.bipush 10, 2) := by decide +kernel
theorem dX9_takeNumber_33 : decode cX9_takeNumber 33 = .ok (.imul, 1) := by decide +kernel
theorem dX9_takeNumber_34 : decode cX9_takeNumber 34 = .ok (.aload_n 0, 1) := by decide +kernel
theorem dX9_takeNumber_35 : decode cX9_takeNumber 35 = .ok (.invokevirtual 57, 3) := by decide +kernel
theorem dX9_takeNumber_38 : decode cX9_takeNumber 38 = .ok (.iadd, 1) := by decide +kernel
theorem dX9_takeNumber_39 : decode cX9_takeNumber 39 = .ok (.bipush 48, 2) := by decide +kernel
theorem dX9_takeNumber_41 : decode cX9_takeNumber 41 = .ok (.isub, 1) := by decide +kernel
theorem dX9_takeNumber_42 : decode cX9_takeNumber 42 = .ok (.putfield 32, 3) := by decide +kernel
theorem dX9_takeNumber_45 : decode cX9_takeNumber 45 = .ok (.iinc 1 1, 3) := by decide +kernel
theorem dX9_takeNumber_48 : decode cX9_takeNumber 48 = .ok (.aload_n 0, 1) := by decide +kernel
theorem dX9_takeNumber_49 : decode cX9_takeNumber 49 = .ok (.dup, 1) := by decide +kernel
theorem dX9_takeNumber_50 : decode cX9_takeNumber 50 = .ok (.getfield 19, 3) := by decide +kernel
theorem dX9_takeNumber_53 : decode cX9_takeNumber 53 = .ok (.iconst 1, 1) := by decide +kernel
theorem dX9_takeNumber_54 : decode cX9_takeNumber 54 = .ok (.iadd, 1) := by decide +kernel
theorem dX9_takeNumber_55 : decode cX9_takeNumber 55 = .ok (.putfield 19, 3) := by decide +kernel
theorem dX9_takeNumber_58 : decode cX9_takeNumber 58 = .ok (.iinc 2 1, 3) := by decide +kernel
theorem dX9_takeNumber_61 : decode cX9_takeNumber 61 = .ok (.goto (-52), 3) := by decide +kernel
theorem dX9_takeNumber_64 : decode cX9_takeNumber 64 = .ok (.aload_n 0, 1) := by decide +kernel
theorem dX9_takeNumber_65 : decode cX9_takeNumber 65 = .ok (.iload_n 1, 1) := by decide +kernel
theorem dX9_takeNumber_66 : decode cX9_takeNumber 66 = .ok (.iconst 4, 1) := by decide +kernel
theorem dX9_takeNumber_67 : decode cX9_takeNumber 67 = .ok (.if_icmp .gt 13, 3) := by decide +kernel
theorem dX9_takeNumber_70 : decode cX9_takeNumber 70 = .ok (.aload_n 0, 1) := by decide +kernel
theorem dX9_takeNumber_71 : decode cX9_takeNumber 71 = .ok (.invokevirtual 57, 3) := by decide +kernel
theorem dX9_takeNumber_74 : decode cX9_takeNumber 74 = .ok (.invokestatic 64, 3) := by decide +kernel
theorem dX9_takeNumber_77 : decode cX9_takeNumber 77 = .ok (.ifCond .eq 8, 3) := by decide +kernel
theorem dX9_takeNumber_80 : decode cX9_takeNumber 80 = .ok (.bipush 32, 2) := by decide +kernel
theorem dX9_takeNumber_82 : decode cX9_takeNumber 82 = .ok (.goto 5, 3) := by decide +kernel
theorem dX9_takeNumber_85 : decode cX9_takeNumber 85 = .ok (.bipush 29, 2) := by decide +kernel
theorem dX9_takeNumber_87 : decode cX9_takeNumber 87 = .ok (.putfield 26, 3) := by decide +kernel
theorem dX9_takeNumber_90 : decode cX9_takeNumber 90 = .ok (.return_, 1) := by decide +kernel
theorem dX9_look_0 : decode cX9_look 0 = .ok (.aload_n 0, 1) := by decide +kernel
theorem dX9_look_1 : decode cX9_look 1 = .ok (.getfield 19, 3) := by decide +kernel
theorem dX9_look_4 : decode cX9_look 4 = .ok (.ifCond .lt 36, 3) := by decide +kernel
theorem dX9_look_7 : decode cX9_look 7 = .ok (.aload_n 0, 1) := by decide +kernel
theorem dX9_look_8 : decode cX9_look 8 = .ok (.getfield 19, 3) := by decide +kernel
theorem dX9_look_11 : decode cX9_look 11 = .ok (.aload_n 0, 1) := by decide +kernel
theorem dX9_look_12 : decode cX9_look 12 = .ok (.getfield 23, 3) := by decide +kernel
theorem dX9_look_15 : decode cX9_look 15 = .ok (.if_icmp .ge 25, 3) := by decide +kernel
theorem dX9_look_18 : decode cX9_look 18 = .ok (.aload_n 0, 1) := by decide +kernel
theorem dX9_look_19 : decode cX9_look 19 = .ok (.getfield 19, 3) := by decide +kernel
theorem dX9_look_22 : decode cX9_look 22 = .ok (.sipush 1600, 3) := by decide +kernel
theorem dX9_look_25 : decode cX9_look 25 = .ok (.if_icmp .ge 15, 3) := by decide +kernel
theorem dX9_look_28 : decode cX9_look 28 = .ok (.aload_n 0, 1) := by decide +kernel
theorem dX9_look_29 : decode cX9_look 29 = .ok (.getfield 9, 3) := by decide +kernel
theorem dX9_look_32 : decode cX9_look 32 = .ok (.aload_n 0, 1) := by decide +kernel
theorem dX9_look_33 : decode cX9_look 33 = .ok (.getfield 19, 3) := by decide +kernel
theorem dX9_look_36 : decode cX9_look 36 = .ok (.iaload, 1) := by decide +kernel
theorem dX9_look_37 : decode cX9_look 37 = .ok (.goto 4, 3) := by decide +kernel
theorem dX9_look_40 : decode cX9_look 40 = .ok (.iconst (-1), 1) := by decide +kernel
theorem dX9_look_41 : decode cX9_look 41 = .ok (.ireturn, 1) := by decide +kernel
theorem dX9_wordKind_0 : decode cX9_wordKind 0 = .ok (.iconst 0, 1) := by decide +kernel
theorem dX9_wordKind_1 : decode cX9_wordKind 1 = .ok (.istore_n 3, 1) := by decide +kernel
theorem dX9_wordKind_2 : decode cX9_wordKind 2 = .ok (.iload_n 3, 1) := by decide +kernel
theorem dX9_wordKind_3 : decode cX9_wordKind 3 = .ok (.bipush 18, 2) := by decide +kernel
theorem dX9_wordKind_5 : decode cX9_wordKind 5 = .ok (.if_icmp .ge 22, 3) := by decide +kernel
theorem dX9_wordKind_8 : decode cX9_wordKind 8 = .ok (.aload_n 0, 1) := by decide +kernel
theorem dX9_wordKind_9 : decode cX9_wordKind 9 = .ok (.getfield 15, 3) := by decide +kernel
theorem dX9_wordKind_12 : decode cX9_wordKind 12 = .ok (.iload_n 3, 1) := by decide +kernel
theorem dX9_wordKind_13 : decode cX9_wordKind 13 = .ok (.laload, 1) := by decide +kernel
theorem dX9_wordKind_14 : decode cX9_wordKind 14 = .ok (.lload_n 1, 1) := by decide +kernel
theorem dX9_wordKind_15 : decode cX9_wordKind 15 = .ok (.lcmp, 1) := by decide +kernel
theorem dX9_wordKind_16 : decode cX9_wordKind 16 = .ok (.ifCond .ne 5, 3) := by decide +kernel
theorem dX9_wordKind_19 : decode cX9_wordKind 19 = .ok (.iload_n 3, 1) := by decide +kernel
theorem dX9_wordKind_20 : decode cX9_wordKind 20 = .ok (.ireturn, 1) := by decide +kernel
theorem dX9_wordKind_21 : decode cX9_wordKind 21 = .ok (.iinc 3 1, 3) := by decide +kernel
theorem dX9_wordKind_24 : decode cX9_wordKind 24 = .ok (.goto (-22), 3) := by decide +kernel
theorem dX9_wordKind_27 : decode cX9_wordKind 27 = .ok (.bipush 30, 2) := by decide +kernel
theorem dX9_wordKind_29 : decode cX9_wordKind 29 = .ok (.ireturn, 1) := by decide +kernel
theorem dX9_withLetter_0 : decode cX9_withLetter 0 = .ok (.lload_n 0, 1) := by decide +kernel
theorem dX9_withLetter_1 : decode cX9_withLetter 1 = .ok (.ldc2_w 84, 3) := by decide +kernel
theorem dX9_withLetter_4 : decode cX9_withLetter 4 = .ok (.lmul, 1) := by decide +kernel
theorem dX9_withLetter_5 : decode cX9_withLetter 5 = .ok (.iload_n 2, 1) := by decide +kernel
theorem dX9_withLetter_6 : decode cX9_withLetter 6 = .ok (.bipush 97, 2) := by decide +kernel
theorem dX9_withLetter_8 : decode cX9_withLetter 8 = .ok (.isub, 1) := by decide +kernel
theorem dX9_withLetter_9 : decode cX9_withLetter 9 = .ok (.iconst 1, 1) := by decide +kernel
theorem dX9_withLetter_10 : decode cX9_withLetter 10 = .ok (.iadd, 1) := by decide +kernel
theorem dX9_withLetter_11 : decode cX9_withLetter 11 = .ok (.i2l, 1) := by decide +kernel
theorem dX9_withLetter_12 : decode cX9_withLetter 12 = .ok (.ladd, 1) := by decide +kernel
theorem dX9_withLetter_13 : decode cX9_withLetter 13 = .ok (.lreturn, 1) := by decide +kernel
theorem dX9_isBlank_0 : decode cX9_isBlank 0 = .ok (.iload_n 0, 1) := by decide +kernel
theorem dX9_isBlank_1 : decode cX9_isBlank 1 = .ok (.bipush 32, 2) := by decide +kernel
theorem dX9_isBlank_3 : decode cX9_isBlank 3 = .ok (.if_icmp .eq 9, 3) := by decide +kernel
theorem dX9_isBlank_6 : decode cX9_isBlank 6 = .ok (.iload_n 0, 1) := by decide +kernel
theorem dX9_isBlank_7 : decode cX9_isBlank 7 = .ok (.bipush 10, 2) := by decide +kernel
theorem dX9_isBlank_9 : decode cX9_isBlank 9 = .ok (.if_icmp .ne 7, 3) := by decide +kernel
theorem dX9_isBlank_12 : decode cX9_isBlank 12 = .ok (.iconst 1, 1) := by decide +kernel
theorem dX9_isBlank_13 : decode cX9_isBlank 13 = .ok (.goto 4, 3) := by decide +kernel
theorem dX9_isBlank_16 : decode cX9_isBlank 16 = .ok (.iconst 0, 1) := by decide +kernel
theorem dX9_isBlank_17 : decode cX9_isBlank 17 = .ok (.ireturn, 1) := by decide +kernel
theorem dX9_isLetter_0 : decode cX9_isLetter 0 = .ok (.iload_n 0, 1) := by decide +kernel
theorem dX9_isLetter_1 : decode cX9_isLetter 1 = .ok (.bipush 97, 2) := by decide +kernel
theorem dX9_isLetter_3 : decode cX9_isLetter 3 = .ok (.if_icmp .lt 13, 3) := by decide +kernel
theorem dX9_isLetter_6 : decode cX9_isLetter 6 = .ok (.iload_n 0, 1) := by decide +kernel
theorem dX9_isLetter_7 : decode cX9_isLetter 7 = .ok (.bipush 122, 2) := by decide +kernel
theorem dX9_isLetter_9 : decode cX9_isLetter 9 = .ok (.if_icmp .gt 7, 3) := by decide +kernel
theorem dX9_isLetter_12 : decode cX9_isLetter 12 = .ok (.iconst 1, 1) := by decide +kernel
theorem dX9_isLetter_13 : decode cX9_isLetter 13 = .ok (.goto 4, 3) := by decide +kernel
theorem dX9_isLetter_16 : decode cX9_isLetter 16 = .ok (.iconst 0, 1) := by decide +kernel
theorem dX9_isLetter_17 : decode cX9_isLetter 17 = .ok (.ireturn, 1) := by decide +kernel
theorem dX9_isDigit_0 : decode cX9_isDigit 0 = .ok (.iload_n 0, 1) := by decide +kernel
theorem dX9_isDigit_1 : decode cX9_isDigit 1 = .ok (.bipush 48, 2) := by decide +kernel
theorem dX9_isDigit_3 : decode cX9_isDigit 3 = .ok (.if_icmp .lt 13, 3) := by decide +kernel
theorem dX9_isDigit_6 : decode cX9_isDigit 6 = .ok (.iload_n 0, 1) := by decide +kernel
theorem dX9_isDigit_7 : decode cX9_isDigit 7 = .ok (.bipush 57, 2) := by decide +kernel
theorem dX9_isDigit_9 : decode cX9_isDigit 9 = .ok (.if_icmp .gt 7, 3) := by decide +kernel
theorem dX9_isDigit_12 : decode cX9_isDigit 12 = .ok (.iconst 1, 1) := by decide +kernel
theorem dX9_isDigit_13 : decode cX9_isDigit 13 = .ok (.goto 4, 3) := by decide +kernel
theorem dX9_isDigit_16 : decode cX9_isDigit 16 = .ok (.iconst 0, 1) := by decide +kernel
theorem dX9_isDigit_17 : decode cX9_isDigit 17 = .ok (.ireturn, 1) := by decide +kernel
theorem dX9_signKind_0 : decode cX9_signKind 0 = .ok (.iload_n 0, 1) := by decide +kernel
theorem dX9_signKind_1 : decode cX9_signKind 1 = .ok (.tableswitch 152 37 62 #[149, 152, 152, 122, 125, 143, 137, 152, 140, 152, 146, 152, 152, 152, 152, 152, 152, 152, 152, 152, 152, 152, 119, 128, 134, 131], 119) := by decide +kernel
theorem dX9_signKind_120 : decode cX9_signKind 120 = .ok (.bipush 18, 2) := by decide +kernel
theorem dX9_signKind_122 : decode cX9_signKind 122 = .ok (.ireturn, 1) := by decide +kernel
theorem dX9_signKind_123 : decode cX9_signKind 123 = .ok (.bipush 19, 2) := by decide +kernel
theorem dX9_signKind_125 : decode cX9_signKind 125 = .ok (.ireturn, 1) := by decide +kernel
theorem dX9_signKind_126 : decode cX9_signKind 126 = .ok (.bipush 20, 2) := by decide +kernel
theorem dX9_signKind_128 : decode cX9_signKind 128 = .ok (.ireturn, 1) := by decide +kernel
theorem dX9_signKind_129 : decode cX9_signKind 129 = .ok (.bipush 21, 2) := by decide +kernel
theorem dX9_signKind_131 : decode cX9_signKind 131 = .ok (.ireturn, 1) := by decide +kernel
theorem dX9_signKind_132 : decode cX9_signKind 132 = .ok (.bipush 22, 2) := by decide +kernel
theorem dX9_signKind_134 : decode cX9_signKind 134 = .ok (.ireturn, 1) := by decide +kernel
theorem dX9_signKind_135 : decode cX9_signKind 135 = .ok (.bipush 23, 2) := by decide +kernel
theorem dX9_signKind_137 : decode cX9_signKind 137 = .ok (.ireturn, 1) := by decide +kernel
theorem dX9_signKind_138 : decode cX9_signKind 138 = .ok (.bipush 24, 2) := by decide +kernel
theorem dX9_signKind_140 : decode cX9_signKind 140 = .ok (.ireturn, 1) := by decide +kernel
theorem dX9_signKind_141 : decode cX9_signKind 141 = .ok (.bipush 25, 2) := by decide +kernel
theorem dX9_signKind_143 : decode cX9_signKind 143 = .ok (.ireturn, 1) := by decide +kernel
theorem dX9_signKind_144 : decode cX9_signKind 144 = .ok (.bipush 26, 2) := by decide +kernel
theorem dX9_signKind_146 : decode cX9_signKind 146 = .ok (.ireturn, 1) := by decide +kernel
theorem dX9_signKind_147 : decode cX9_signKind 147 = .ok (.bipush 27, 2) := by decide +kernel
theorem dX9_signKind_149 : decode cX9_signKind 149 = .ok (.ireturn, 1) := by decide +kernel
theorem dX9_signKind_150 : decode cX9_signKind 150 = .ok (.bipush 28, 2) := by decide +kernel
theorem dX9_signKind_152 : decode cX9_signKind 152 = .ok (.ireturn, 1) := by decide +kernel
theorem dX9_signKind_153 : decode cX9_signKind 153 = .ok (.bipush 32, 2) := by decide +kernel
theorem dX9_signKind_155 : decode cX9_signKind 155 = .ok (.ireturn, 1) := by decide +kernel
theorem dX10_init_0 : decode cX10_init 0 = .ok (.aload_n 0, 1) := by decide +kernel
theorem dX10_init_1 : decode cX10_init 1 = .ok (.invokespecial 3, 3) := by decide +kernel
theorem dX10_init_4 : decode cX10_init 4 = .ok (.aload_n 0, 1) := by decide +kernel
theorem dX10_init_5 : decode cX10_init 5 = .ok (.iconst 0, 1) := by decide +kernel
theorem dX10_init_6 : decode cX10_init 6 = .ok (.putfield 9, 3) := by decide +kernel
theorem dX10_init_9 : decode cX10_init 9 = .ok (.aload_n 0, 1) := by decide +kernel
theorem dX10_init_10 : decode cX10_init 10 = .ok (.iconst 0, 1) := by decide +kernel
theorem dX10_init_11 : decode cX10_init 11 = .ok (.putfield 15, 3) := by decide +kernel
theorem dX10_init_14 : decode cX10_init 14 = .ok (.aload_n 0, 1) := by decide +kernel
theorem dX10_init_15 : decode cX10_init 15 = .ok (.aload_n 1, 1) := by decide +kernel
theorem dX10_init_16 : decode cX10_init 16 = .ok (.putfield 18, 3) := by decide +kernel
theorem dX10_init_19 : decode cX10_init 19 = .ok (.aload_n 0, 1) := by decide +kernel
theorem dX10_init_20 : decode cX10_init 20 = .ok (.new 22, 3) := by decide +kernel
theorem dX10_init_23 : decode cX10_init 23 = .ok (.dup, 1) := by decide +kernel
theorem dX10_init_24 : decode cX10_init 24 = .ok (.aload_n 1, 1) := by decide +kernel
theorem dX10_init_25 : decode cX10_init 25 = .ok (.invokespecial 24, 3) := by decide +kernel
theorem dX10_init_28 : decode cX10_init 28 = .ok (.putfield 27, 3) := by decide +kernel
theorem dX10_init_31 : decode cX10_init 31 = .ok (.return_, 1) := by decide +kernel
theorem dX10_pass_0 : decode cX10_pass 0 = .ok (.aload_n 0, 1) := by decide +kernel
theorem dX10_pass_1 : decode cX10_pass 1 = .ok (.iconst 0, 1) := by decide +kernel
theorem dX10_pass_2 : decode cX10_pass 2 = .ok (.putfield 9, 3) := by decide +kernel
theorem dX10_pass_5 : decode cX10_pass 5 = .ok (.aload_n 0, 1) := by decide +kernel
theorem dX10_pass_6 : decode cX10_pass 6 = .ok (.iconst 0, 1) := by decide +kernel
theorem dX10_pass_7 : decode cX10_pass 7 = .ok (.putfield 15, 3) := by decide +kernel
theorem dX10_pass_10 : decode cX10_pass 10 = .ok (.aload_n 0, 1) := by decide +kernel
theorem dX10_pass_11 : decode cX10_pass 11 = .ok (.aload_n 1, 1) := by decide +kernel
theorem dX10_pass_12 : decode cX10_pass 12 = .ok (.iload_n 2, 1) := by decide +kernel
theorem dX10_pass_13 : decode cX10_pass 13 = .ok (.invokevirtual 31, 3) := by decide +kernel
theorem dX10_pass_16 : decode cX10_pass 16 = .ok (.aload_n 1, 1) := by decide +kernel
theorem dX10_pass_17 : decode cX10_pass 17 = .ok (.invokestatic 35, 3) := by decide +kernel
theorem dX10_pass_20 : decode cX10_pass 20 = .ok (.iconst 0, 1) := by decide +kernel
theorem dX10_pass_21 : decode cX10_pass 21 = .ok (.istore_n 3, 1) := by decide +kernel
theorem dX10_pass_22 : decode cX10_pass 22 = .ok (.iload_n 3, 1) := by decide +kernel
theorem dX10_pass_23 : decode cX10_pass 23 = .ok (.aload_n 0, 1) := by decide +kernel
theorem dX10_pass_24 : decode cX10_pass 24 = .ok (.getfield 18, 3) := by decide +kernel
theorem dX10_pass_27 : decode cX10_pass 27 = .ok (.getfield 39, 3) := by decide +kernel
theorem dX10_pass_30 : decode cX10_pass 30 = .ok (.if_icmp .ge 32, 3) := by decide +kernel
theorem dX10_pass_33 : decode cX10_pass 33 = .ok (.aload_n 0, 1) := by decide +kernel
theorem dX10_pass_34 : decode cX10_pass 34 = .ok (.aload_n 1, 1) := by decide +kernel
theorem dX10_pass_35 : decode cX10_pass 35 = .ok (.iload_n 3, 1) := by decide +kernel
theorem dX10_pass_36 : decode cX10_pass 36 = .ok (.invokevirtual 44, 3) := by decide +kernel
theorem dX10_pass_39 : decode cX10_pass 39 = .ok (.ifCond .eq 17, 3) := by decide +kernel
theorem dX10_pass_42 : decode cX10_pass 42 = .ok (.aload_n 0, 1) := by decide +kernel
theorem dX10_pass_43 : decode cX10_pass 43 = .ok (.aload_n 1, 1) := by decide +kernel
theorem dX10_pass_44 : decode cX10_pass 44 = .ok (.aload_n 1, 1) := by decide +kernel
theorem dX10_pass_45 : decode cX10_pass 45 = .ok (.iload_n 3, 1) := by decide +kernel
theorem dX10_pass_46 : decode cX10_pass 46 = .ok (.invokevirtual 48, 3) := by decide +kernel
theorem dX10_pass_49 : decode cX10_pass 49 = .ok (.aload_n 1, 1) := by decide +kernel
theorem dX10_pass_50 : decode cX10_pass 50 = .ok (.invokevirtual 52, 3) := by decide +kernel
theorem dX10_pass_53 : decode cX10_pass 53 = .ok (.invokevirtual 56, 3) := by decide +kernel
theorem dX10_pass_56 : decode cX10_pass 56 = .ok (.iinc 3 1, 3) := by decide +kernel
theorem dX10_pass_59 : decode cX10_pass 59 = .ok (.goto (-37), 3) := by decide +kernel
theorem dX10_pass_62 : decode cX10_pass 62 = .ok (.aload_n 1, 1) := by decide +kernel
theorem dX10_pass_63 : decode cX10_pass 63 = .ok (.dup, 1) := by decide +kernel
theorem dX10_pass_64 : decode cX10_pass 64 = .ok (.getfield 60, 3) := by decide +kernel
theorem dX10_pass_67 : decode cX10_pass 67 = .ok (.iconst 1, 1) := by decide +kernel
theorem dX10_pass_68 : decode cX10_pass 68 = .ok (.iadd, 1) := by decide +kernel
theorem dX10_pass_69 : decode cX10_pass 69 = .ok (.putfield 60, 3) := by decide +kernel
theorem dX10_pass_72 : decode cX10_pass 72 = .ok (.return_, 1) := by decide +kernel
theorem dX10_behind_0 : decode cX10_behind 0 = .ok (.aload_n 0, 1) := by decide +kernel
theorem dX10_behind_1 : decode cX10_behind 1 = .ok (.getfield 27, 3) := by decide +kernel
theorem dX10_behind_4 : decode cX10_behind 4 = .ok (.aload_n 1, 1) := by decide +kernel
theorem dX10_behind_5 : decode cX10_behind 5 = .ok (.invokevirtual 63, 3) := by decide +kernel
theorem dX10_behind_8 : decode cX10_behind 8 = .ok (.iconst 0, 1) := by decide +kernel
theorem dX10_behind_9 : decode cX10_behind 9 = .ok (.istore 4, 2) := by decide +kernel
theorem dX10_behind_11 : decode cX10_behind 11 = .ok (.iload 4, 2) := by decide +kernel
theorem dX10_behind_13 : decode cX10_behind 13 = .ok (.iload_n 2, 1) := by decide +kernel
theorem dX10_behind_14 : decode cX10_behind 14 = .ok (.if_icmp .ge 18, 3) := by decide +kernel
theorem dX10_behind_17 : decode cX10_behind 17 = .ok (.aload_n 0, 1) := by decide +kernel
theorem dX10_behind_18 : decode cX10_behind 18 = .ok (.aload_n 0, 1) := by decide +kernel
theorem dX10_behind_19 : decode cX10_behind 19 = .ok (.getfield 27, 3) := by decide +kernel
theorem dX10_behind_22 : decode cX10_behind 22 = .ok (.iload_n 3, 1) := by decide +kernel
theorem dX10_behind_23 : decode cX10_behind 23 = .ok (.invokevirtual 66, 3) := by decide +kernel
theorem dX10_behind_26 : decode cX10_behind 26 = .ok (.iinc 4 1, 3) := by decide +kernel
theorem dX10_behind_29 : decode cX10_behind 29 = .ok (.goto (-18), 3) := by decide +kernel
theorem dX10_behind_32 : decode cX10_behind 32 = .ok (.aload_n 0, 1) := by decide +kernel
theorem dX10_behind_33 : decode cX10_behind 33 = .ok (.getfield 27, 3) := by decide +kernel
theorem dX10_behind_36 : decode cX10_behind 36 = .ok (.areturn, 1) := by decide +kernel
theorem dX10_countIfCarried_0 : decode cX10_countIfCarried 0 = .ok (.aload_n 0, 1) := by decide +kernel
theorem dX10_countIfCarried_1 : decode cX10_countIfCarried 1 = .ok (.getfield 27, 3) := by decide +kernel
theorem dX10_countIfCarried_4 : decode cX10_countIfCarried 4 = .ok (.aload_n 1, 1) := by decide +kernel
theorem dX10_countIfCarried_5 : decode cX10_countIfCarried 5 = .ok (.invokevirtual 63, 3) := by decide +kernel
theorem dX10_countIfCarried_8 : decode cX10_countIfCarried 8 = .ok (.iload_n 2, 1) := by decide +kernel
theorem dX10_countIfCarried_9 : decode cX10_countIfCarried 9 = .ok (.ifCond .lt 19, 3) := by decide +kernel
theorem dX10_countIfCarried_12 : decode cX10_countIfCarried 12 = .ok (.iload_n 2, 1) := by decide +kernel
theorem dX10_countIfCarried_13 : decode cX10_countIfCarried 13 = .ok (.bipush 8, 2) := by decide +kernel
theorem dX10_countIfCarried_15 : decode cX10_countIfCarried 15 = .ok (.if_icmp .ge 13, 3) := by decide +kernel
theorem dX10_countIfCarried_18 : decode cX10_countIfCarried 18 = .ok (.aload_n 0, 1) := by decide +kernel
theorem dX10_countIfCarried_19 : decode cX10_countIfCarried 19 = .ok (.getfield 27, 3) := by decide +kernel
theorem dX10_countIfCarried_22 : decode cX10_countIfCarried 22 = .ok (.getfield 69, 3) := by decide +kernel
theorem dX10_countIfCarried_25 : decode cX10_countIfCarried 25 = .ok (.iload_n 2, 1) := by decide +kernel
theorem dX10_countIfCarried_26 : decode cX10_countIfCarried 26 = .ok (.iload_n 3, 1) := by decide +kernel
theorem dX10_countIfCarried_27 : decode cX10_countIfCarried 27 = .ok (.iastore, 1) := by decide +kernel
theorem dX10_countIfCarried_28 : decode cX10_countIfCarried 28 = .ok (.iconst 0, 1) := by decide +kernel
theorem dX10_countIfCarried_29 : decode cX10_countIfCarried 29 = .ok (.istore 4, 2) := by decide +kernel
theorem dX10_countIfCarried_31 : decode cX10_countIfCarried 31 = .ok (.iload 4, 2) := by decide +kernel
theorem dX10_countIfCarried_33 : decode cX10_countIfCarried 33 = .ok (.iconst 5, 1) := by decide +kernel
theorem dX10_countIfCarried_34 : decode cX10_countIfCarried 34 = .ok (.if_icmp .ge 24, 3) := by decide +kernel
theorem dX10_countIfCarried_37 : decode cX10_countIfCarried 37 = .ok (.aload_n 0, 1) := by decide +kernel
theorem dX10_countIfCarried_38 : decode cX10_countIfCarried 38 = .ok (.aload_n 0, 1) := by decide +kernel
theorem dX10_countIfCarried_39 : decode cX10_countIfCarried 39 = .ok (.getfield 27, 3) := by decide +kernel
theorem dX10_countIfCarried_42 : decode cX10_countIfCarried 42 = .ok (.aload_n 0, 1) := by decide +kernel
theorem dX10_countIfCarried_43 : decode cX10_countIfCarried 43 = .ok (.getfield 18, 3) := by decide +kernel
theorem dX10_countIfCarried_46 : decode cX10_countIfCarried 46 = .ok (.getfield 73, 3) := by decide +kernel
theorem dX10_countIfCarried_49 : decode cX10_countIfCarried 49 = .ok (.invokevirtual 66, 3) := by decide +kernel
theorem dX10_countIfCarried_52 : decode cX10_countIfCarried 52 = .ok (.iinc 4 1, 3) := by decide +kernel
theorem dX10_countIfCarried_55 : decode cX10_countIfCarried 55 = .ok (.goto (-24), 3) := by decide +kernel
theorem dX10_countIfCarried_58 : decode cX10_countIfCarried 58 = .ok (.aload_n 0, 1) := by decide +kernel
theorem dX10_countIfCarried_59 : decode cX10_countIfCarried 59 = .ok (.getfield 27, 3) := by decide +kernel
theorem dX10_countIfCarried_62 : decode cX10_countIfCarried 62 = .ok (.invokevirtual 76, 3) := by decide +kernel
theorem dX10_countIfCarried_65 : decode cX10_countIfCarried 65 = .ok (.ireturn, 1) := by decide +kernel
theorem dX10_untilGone_0 : decode cX10_untilGone 0 = .ok (.aload_n 0, 1) := by decide +kernel
theorem dX10_untilGone_1 : decode cX10_untilGone 1 = .ok (.getfield 27, 3) := by decide +kernel
theorem dX10_untilGone_4 : decode cX10_untilGone 4 = .ok (.aload_n 1, 1) := by decide +kernel
theorem dX10_untilGone_5 : decode cX10_untilGone 5 = .ok (.invokevirtual 63, 3) := by decide +kernel
theorem dX10_untilGone_8 : decode cX10_untilGone 8 = .ok (.iconst 1, 1) := by decide +kernel
theorem dX10_untilGone_9 : decode cX10_untilGone 9 = .ok (.istore_n 3, 1) := by decide +kernel
theorem dX10_untilGone_10 : decode cX10_untilGone 10 = .ok (.iload_n 3, 1) := by decide +kernel
theorem dX10_untilGone_11 : decode cX10_untilGone 11 = .ok (.bipush 30, 2) := by decide +kernel
theorem dX10_untilGone_13 : decode cX10_untilGone 13 = .ok (.if_icmp .gt 37, 3) := by decide +kernel
theorem dX10_untilGone_16 : decode cX10_untilGone 16 = .ok (.aload_n 0, 1) := by decide +kernel
theorem dX10_untilGone_17 : decode cX10_untilGone 17 = .ok (.aload_n 0, 1) := by decide +kernel
theorem dX10_untilGone_18 : decode cX10_untilGone 18 = .ok (.getfield 27, 3) := by decide +kernel
theorem dX10_untilGone_21 : decode cX10_untilGone 21 = .ok (.aload_n 0, 1) := by decide +kernel
theorem dX10_untilGone_22 : decode cX10_untilGone 22 = .ok (.getfield 18, 3) := by decide +kernel
theorem dX10_untilGone_25 : decode cX10_untilGone 25 = .ok (.getfield 73, 3) := by decide +kernel
theorem dX10_untilGone_28 : decode cX10_untilGone 28 = .ok (.invokevirtual 66, 3) := by decide +kernel
theorem dX10_untilGone_31 : decode cX10_untilGone 31 = .ok (.aload_n 0, 1) := by decide +kernel
theorem dX10_untilGone_32 : decode cX10_untilGone 32 = .ok (.getfield 15, 3) := by decide +kernel
theorem dX10_untilGone_35 : decode cX10_untilGone 35 = .ok (.iload_n 2, 1) := by decide +kernel
theorem dX10_untilGone_36 : decode cX10_untilGone 36 = .ok (.ishr, 1) := by decide +kernel
theorem dX10_untilGone_37 : decode cX10_untilGone 37 = .ok (.iconst 1, 1) := by decide +kernel
theorem dX10_untilGone_38 : decode cX10_untilGone 38 = .ok (.iand, 1) := by decide +kernel
theorem dX10_untilGone_39 : decode cX10_untilGone 39 = .ok (.ifCond .eq 5, 3) := by decide +kernel
theorem dX10_untilGone_42 : decode cX10_untilGone 42 = .ok (.iload_n 3, 1) := by decide +kernel
theorem dX10_untilGone_43 : decode cX10_untilGone 43 = .ok (.ireturn, 1) := by decide +kernel
theorem dX10_untilGone_44 : decode cX10_untilGone 44 = .ok (.iinc 3 1, 3) := by decide +kernel
theorem dX10_untilGone_47 : decode cX10_untilGone 47 = .ok (.goto (-37), 3) := by decide +kernel
theorem dX10_untilGone_50 : decode cX10_untilGone 50 = .ok (.iconst (-1), 1) := by decide +kernel
theorem dX10_untilGone_51 : decode cX10_untilGone 51 = .ok (.ireturn, 1) := by decide +kernel
theorem dX10_isRipe_0 : decode cX10_isRipe 0 = .ok (.aload_n 1, 1) := by decide +kernel
theorem dX10_isRipe_1 : decode cX10_isRipe 1 = .ok (.iload_n 2, 1) := by decide +kernel
theorem dX10_isRipe_2 : decode cX10_isRipe 2 = .ok (.invokevirtual 48, 3) := by decide +kernel
theorem dX10_isRipe_5 : decode cX10_isRipe 5 = .ok (.istore_n 3, 1) := by decide +kernel
theorem dX10_isRipe_6 : decode cX10_isRipe 6 = .ok (.iload_n 3, 1) := by decide +kernel
theorem dX10_isRipe_7 : decode cX10_isRipe 7 = .ok (.iconst (-1), 1) := by decide +kernel
theorem dX10_isRipe_8 : decode cX10_isRipe 8 = .ok (.if_icmp .eq 11, 3) := by decide +kernel
theorem dX10_isRipe_11 : decode cX10_isRipe 11 = .ok (.aload_n 1, 1) := by decide +kernel
theorem dX10_isRipe_12 : decode cX10_isRipe 12 = .ok (.invokevirtual 52, 3) := by decide +kernel
theorem dX10_isRipe_15 : decode cX10_isRipe 15 = .ok (.iconst (-1), 1) := by decide +kernel
theorem dX10_isRipe_16 : decode cX10_isRipe 16 = .ok (.if_icmp .ne 5, 3) := by decide +kernel
theorem dX10_isRipe_19 : decode cX10_isRipe 19 = .ok (.iconst 0, 1) := by decide +kernel
theorem dX10_isRipe_20 : decode cX10_isRipe 20 = .ok (.ireturn, 1) := by decide +kernel
theorem dX10_isRipe_21 : decode cX10_isRipe 21 = .ok (.iload_n 3, 1) := by decide +kernel
theorem dX10_isRipe_22 : decode cX10_isRipe 22 = .ok (.bipush 8, 2) := by decide +kernel
theorem dX10_isRipe_24 : decode cX10_isRipe 24 = .ok (.idiv, 1) := by decide +kernel
theorem dX10_isRipe_25 : decode cX10_isRipe 25 = .ok (.istore 4, 2) := by decide +kernel
theorem dX10_isRipe_27 : decode cX10_isRipe 27 = .ok (.iload_n 3, 1) := by decide +kernel
theorem dX10_isRipe_28 : decode cX10_isRipe 28 = .ok (.bipush 8, 2) := by decide +kernel
theorem dX10_isRipe_30 : decode cX10_isRipe 30 = .ok (.irem, 1) := by decide +kernel
theorem dX10_isRipe_31 : decode cX10_isRipe 31 = .ok (.istore 5, 2) := by decide +kernel
theorem dX10_isRipe_33 : decode cX10_isRipe 33 = .ok (.aload_n 1, 1) := by decide +kernel
theorem dX10_isRipe_34 : decode cX10_isRipe 34 = .ok (.iload 4, 2) := by decide +kernel
theorem dX10_isRipe_36 : decode cX10_isRipe 36 = .ok (.iload 5, 2) := by decide +kernel
theorem dX10_isRipe_38 : decode cX10_isRipe 38 = .ok (.invokestatic 79, 3) := by decide +kernel
theorem dX10_isRipe_41 : decode cX10_isRipe 41 = .ok (.aload_n 1, 1) := by decide +kernel
theorem dX10_isRipe_42 : decode cX10_isRipe 42 = .ok (.iload_n 2, 1) := by decide +kernel
theorem dX10_isRipe_43 : decode cX10_isRipe 43 = .ok (.invokevirtual 83, 3) := by decide +kernel
theorem dX10_isRipe_46 : decode cX10_isRipe 46 = .ok (.if_icmp .gt 19, 3) := by decide +kernel
theorem dX10_isRipe_49 : decode cX10_isRipe 49 = .ok (.aload_n 0, 1) := by decide +kernel
theorem dX10_isRipe_50 : decode cX10_isRipe 50 = .ok (.aload_n 1, 1) := by decide +kernel
theorem dX10_isRipe_51 : decode cX10_isRipe 51 = .ok (.iload 4, 2) := by decide +kernel
theorem dX10_isRipe_53 : decode cX10_isRipe 53 = .ok (.iload 5, 2) := by decide +kernel
theorem dX10_isRipe_55 : decode cX10_isRipe 55 = .ok (.invokevirtual 86, 3) := by decide +kernel
theorem dX10_isRipe_58 : decode cX10_isRipe 58 = .ok (.ifCond .le 7, 3) := by decide +kernel
theorem dX10_isRipe_61 : decode cX10_isRipe 61 = .ok (.iconst 1, 1) := by decide +kernel
theorem dX10_isRipe_62 : decode cX10_isRipe 62 = .ok (.goto 4, 3) := by decide +kernel
theorem dX10_isRipe_65 : decode cX10_isRipe 65 = .ok (.iconst 0, 1) := by decide +kernel
theorem dX10_isRipe_66 : decode cX10_isRipe 66 = .ok (.ireturn, 1) := by decide +kernel
theorem dX10_broodOf_0 : decode cX10_broodOf 0 = .ok (.aload_n 1, 1) := by decide +kernel
theorem dX10_broodOf_1 : decode cX10_broodOf 1 = .ok (.iload_n 2, 1) := by decide +kernel
theorem dX10_broodOf_2 : decode cX10_broodOf 2 = .ok (.iload_n 3, 1) := by decide +kernel
theorem dX10_broodOf_3 : decode cX10_broodOf 3 = .ok (.invokevirtual 89, 3) := by decide +kernel
theorem dX10_broodOf_6 : decode cX10_broodOf 6 = .ok (.ifCond .ne 6, 3) := by decide +kernel
theorem dX10_broodOf_9 : decode cX10_broodOf 9 = .ok (.ldc 93, 2) := by decide +kernel
theorem dX10_broodOf_11 : decode cX10_broodOf 11 = .ok (.ireturn, 1) := by decide +kernel
theorem dX10_broodOf_12 : decode cX10_broodOf 12 = .ok (.aload_n 1, 1) := by decide +kernel
theorem dX10_broodOf_13 : decode cX10_broodOf 13 = .ok (.aload_n 1, 1) := by decide +kernel
theorem dX10_broodOf_14 : decode cX10_broodOf 14 = .ok (.getfield 69, 3) := by decide +kernel
theorem dX10_broodOf_17 : decode cX10_broodOf 17 = .ok (.iload_n 2, 1) := by decide +kernel
theorem dX10_broodOf_18 : decode cX10_broodOf 18 = .ok (.iaload, 1) := by decide +kernel
theorem dX10_broodOf_19 : decode cX10_broodOf 19 = .ok (.invokevirtual 83, 3) := by decide +kernel
theorem dX10_broodOf_22 : decode cX10_broodOf 22 = .ok (.istore 4, 2) := by decide +kernel
theorem dX10_broodOf_24 : decode cX10_broodOf 24 = .ok (.aload_n 0, 1) := by decide +kernel
theorem dX10_broodOf_25 : decode cX10_broodOf 25 = .ok (.getfield 18, 3) := by decide +kernel
theorem dX10_broodOf_28 : decode cX10_broodOf 28 = .ok (.getfield 94, 3) := by decide +kernel
theorem dX10_broodOf_31 : decode cX10_broodOf 31 = .ok (.aload_n 1, 1) := by decide +kernel
theorem dX10_broodOf_32 : decode cX10_broodOf 32 = .ok (.getfield 98, 3) := by decide +kernel
theorem dX10_broodOf_35 : decode cX10_broodOf 35 = .ok (.iload_n 2, 1) := by decide +kernel
theorem dX10_broodOf_36 : decode cX10_broodOf 36 = .ok (.iaload, 1) := by decide +kernel
theorem dX10_broodOf_37 : decode cX10_broodOf 37 = .ok (.aload_n 1, 1) := by decide +kernel
theorem dX10_broodOf_38 : decode cX10_broodOf 38 = .ok (.getfield 98, 3) := by decide +kernel
theorem dX10_broodOf_41 : decode cX10_broodOf 41 = .ok (.iload_n 3, 1) := by decide +kernel
theorem dX10_broodOf_42 : decode cX10_broodOf 42 = .ok (.iaload, 1) := by decide +kernel
theorem dX10_broodOf_43 : decode cX10_broodOf 43 = .ok (.iadd, 1) := by decide +kernel
theorem dX10_broodOf_44 : decode cX10_broodOf 44 = .ok (.aload_n 1, 1) := by decide +kernel
theorem dX10_broodOf_45 : decode cX10_broodOf 45 = .ok (.iload_n 2, 1) := by decide +kernel
theorem dX10_broodOf_46 : decode cX10_broodOf 46 = .ok (.iload_n 3, 1) := by decide +kernel
theorem dX10_broodOf_47 : decode cX10_broodOf 47 = .ok (.invokevirtual 101, 3) := by decide +kernel
theorem dX10_broodOf_50 : decode cX10_broodOf 50 = .ok (.iload 4, 2) := by decide +kernel
theorem dX10_broodOf_52 : decode cX10_broodOf 52 = .ok (.aload_n 1, 1) := by decide +kernel
theorem dX10_broodOf_53 : decode cX10_broodOf 53 = .ok (.invokevirtual 76, 3) := by decide +kernel
theorem dX10_broodOf_56 : decode cX10_broodOf 56 = .ok (.aload_n 1, 1) := by decide +kernel
theorem dX10_broodOf_57 : decode cX10_broodOf 57 = .ok (.getfield 60, 3) := by decide +kernel
theorem dX10_broodOf_60 : decode cX10_broodOf 60 = .ok (.invokevirtual 105, 3) := by decide +kernel
theorem dX10_broodOf_63 : decode cX10_broodOf 63 = .ok (.ireturn, 1) := by decide +kernel
theorem dX10_youngBulk_0 : decode cX10_youngBulk 0 = .ok (.aload_n 0, 1) := by decide +kernel
theorem dX10_youngBulk_1 : decode cX10_youngBulk 1 = .ok (.iload_n 1, 1) := by decide +kernel
theorem dX10_youngBulk_2 : decode cX10_youngBulk 2 = .ok (.iload_n 2, 1) := by decide +kernel
theorem dX10_youngBulk_3 : decode cX10_youngBulk 3 = .ok (.invokevirtual 89, 3) := by decide +kernel
theorem dX10_youngBulk_6 : decode cX10_youngBulk 6 = .ok (.ifCond .eq 25, 3) := by decide +kernel
theorem dX10_youngBulk_9 : decode cX10_youngBulk 9 = .ok (.iconst 1, 1) := by decide +kernel
theorem dX10_youngBulk_10 : decode cX10_youngBulk 10 = .ok (.aload_n 0, 1) := by decide +kernel
theorem dX10_youngBulk_11 : decode cX10_youngBulk 11 = .ok (.getfield 98, 3) := by decide +kernel
theorem dX10_youngBulk_14 : decode cX10_youngBulk 14 = .ok (.iload_n 1, 1) := by decide +kernel
theorem dX10_youngBulk_15 : decode cX10_youngBulk 15 = .ok (.iaload, 1) := by decide +kernel
theorem dX10_youngBulk_16 : decode cX10_youngBulk 16 = .ok (.aload_n 0, 1) := by decide +kernel
theorem dX10_youngBulk_17 : decode cX10_youngBulk 17 = .ok (.getfield 98, 3) := by decide +kernel
theorem dX10_youngBulk_20 : decode cX10_youngBulk 20 = .ok (.iload_n 2, 1) := by decide +kernel
theorem dX10_youngBulk_21 : decode cX10_youngBulk 21 = .ok (.iaload, 1) := by decide +kernel
theorem dX10_youngBulk_22 : decode cX10_youngBulk 22 = .ok (.iadd, 1) := by decide +kernel
theorem dX10_youngBulk_23 : decode cX10_youngBulk 23 = .ok (.iconst 4, 1) := by decide +kernel
theorem dX10_youngBulk_24 : decode cX10_youngBulk 24 = .ok (.idiv, 1) := by decide +kernel
theorem dX10_youngBulk_25 : decode cX10_youngBulk 25 = .ok (.invokestatic 111, 3) := by decide +kernel
theorem dX10_youngBulk_28 : decode cX10_youngBulk 28 = .ok (.goto 4, 3) := by decide +kernel
theorem dX10_youngBulk_31 : decode cX10_youngBulk 31 = .ok (.iconst 1, 1) := by decide +kernel
theorem dX10_youngBulk_32 : decode cX10_youngBulk 32 = .ok (.ireturn, 1) := by decide +kernel
theorem dX10_listen_0 : decode cX10_listen 0 = .ok (.iconst 0, 1) := by decide +kernel
theorem dX10_listen_1 : decode cX10_listen 1 = .ok (.istore_n 3, 1) := by decide +kernel
theorem dX10_listen_2 : decode cX10_listen 2 = .ok (.iload_n 3, 1) := by decide +kernel
theorem dX10_listen_3 : decode cX10_listen 3 = .ok (.bipush 8, 2) := by decide +kernel
theorem dX10_listen_5 : decode cX10_listen 5 = .ok (.if_icmp .ge 87, 3) := by decide +kernel
theorem dX10_listen_8 : decode cX10_listen 8 = .ok (.aload_n 1, 1) := by decide +kernel
theorem dX10_listen_9 : decode cX10_listen 9 = .ok (.getfield 98, 3) := by decide +kernel
theorem dX10_listen_12 : decode cX10_listen 12 = .ok (.iload_n 3, 1) := by decide +kernel
theorem dX10_listen_13 : decode cX10_listen 13 = .ok (.iaload, 1) := by decide +kernel
theorem dX10_listen_14 : decode cX10_listen 14 = .ok (.ifCond .ne 6, 3) := by decide +kernel
theorem dX10_listen_17 : decode cX10_listen 17 = .ok (.goto 69, 3) := by decide +kernel
theorem dX10_listen_20 : decode cX10_listen 20 = .ok (.aload_n 1, 1) := by decide +kernel
theorem dX10_listen_21 : decode cX10_listen 21 = .ok (.getfield 116, 3) := by decide +kernel
theorem dX10_listen_24 : decode cX10_listen 24 = .ok (.iload_n 3, 1) := by decide +kernel
theorem dX10_listen_25 : decode cX10_listen 25 = .ok (.iaload, 1) := by decide +kernel
theorem dX10_listen_26 : decode cX10_listen 26 = .ok (.ifCond .le 23, 3) := by decide +kernel
theorem dX10_listen_29 : decode cX10_listen 29 = .ok (.aload_n 1, 1) := by decide +kernel
theorem dX10_listen_30 : decode cX10_listen 30 = .ok (.getfield 116, 3) := by decide +kernel
theorem dX10_listen_33 : decode cX10_listen 33 = .ok (.iload_n 3, 1) := by decide +kernel
theorem dX10_listen_34 : decode cX10_listen 34 = .ok (.dup2, 1) := by decide +kernel
theorem dX10_listen_35 : decode cX10_listen 35 = .ok (.iaload, 1) := by decide +kernel
theorem dX10_listen_36 : decode cX10_listen 36 = .ok (.iconst 1, 1) := by decide +kernel
theorem dX10_listen_37 : decode cX10_listen 37 = .ok (.isub, 1) := by decide +kernel
theorem dX10_listen_38 : decode cX10_listen 38 = .ok (.iastore, 1) := by decide +kernel
theorem dX10_listen_39 : decode cX10_listen 39 = .ok (.aload_n 1, 1) := by decide +kernel
theorem dX10_listen_40 : decode cX10_listen 40 = .ok (.getfield 119, 3) := by decide +kernel
theorem dX10_listen_43 : decode cX10_listen 43 = .ok (.iload_n 3, 1) := by decide +kernel
theorem dX10_listen_44 : decode cX10_listen 44 = .ok (.iconst 0, 1) := by decide +kernel
theorem dX10_listen_45 : decode cX10_listen 45 = .ok (.iastore, 1) := by decide +kernel
theorem dX10_listen_46 : decode cX10_listen 46 = .ok (.goto 40, 3) := by decide +kernel
theorem dX10_listen_49 : decode cX10_listen 49 = .ok (.aload_n 1, 1) := by decide +kernel
theorem dX10_listen_50 : decode cX10_listen 50 = .ok (.getfield 119, 3) := by decide +kernel
theorem dX10_listen_53 : decode cX10_listen 53 = .ok (.iload_n 3, 1) := by decide +kernel
theorem dX10_listen_54 : decode cX10_listen 54 = .ok (.dup2, 1) := by decide +kernel
theorem dX10_listen_55 : decode cX10_listen 55 = .ok (.iaload, 1) := by decide +kernel
theorem dX10_listen_56 : decode cX10_listen 56 = .ok (.iconst 1, 1) := by decide +kernel
theorem dX10_listen_57 : decode cX10_listen 57 = .ok (.iadd, 1) := by decide +kernel
theorem dX10_listen_58 : decode cX10_listen 58 = .ok (.iastore, 1) := by decide +kernel
theorem dX10_listen_59 : decode cX10_listen 59 = .ok (.aload_n 1, 1) := by decide +kernel
theorem dX10_listen_60 : decode cX10_listen 60 = .ok (.getfield 119, 3) := by decide +kernel
theorem dX10_listen_63 : decode cX10_listen 63 = .ok (.iload_n 3, 1) := by decide +kernel
theorem dX10_listen_64 : decode cX10_listen 64 = .ok (.iaload, 1) := by decide +kernel
theorem dX10_listen_65 : decode cX10_listen 65 = .ok (.iload_n 2, 1) := by decide +kernel
theorem dX10_listen_66 : decode cX10_listen 66 = .ok (.if_icmp .lt 20, 3) := by decide +kernel
theorem dX10_listen_69 : decode cX10_listen 69 = .ok (.aload_n 1, 1) := by decide +kernel
theorem dX10_listen_70 : decode cX10_listen 70 = .ok (.iload_n 3, 1) := by decide +kernel
theorem dX10_listen_71 : decode cX10_listen 71 = .ok (.invokevirtual 121, 3) := by decide +kernel
theorem dX10_listen_74 : decode cX10_listen 74 = .ok (.aload_n 0, 1) := by decide +kernel
theorem dX10_listen_75 : decode cX10_listen 75 = .ok (.dup, 1) := by decide +kernel
theorem dX10_listen_76 : decode cX10_listen 76 = .ok (.getfield 15, 3) := by decide +kernel
theorem dX10_listen_79 : decode cX10_listen 79 = .ok (.iconst 1, 1) := by decide +kernel
theorem dX10_listen_80 : decode cX10_listen 80 = .ok (.iload_n 3, 1) := by decide +kernel
theorem dX10_listen_81 : decode cX10_listen 81 = .ok (.ishl, 1) := by decide +kernel
theorem dX10_listen_82 : decode cX10_listen 82 = .ok (.ior, 1) := by decide +kernel
theorem dX10_listen_83 : decode cX10_listen 83 = .ok (.putfield 15, 3) := by decide +kernel
theorem dX10_listen_86 : decode cX10_listen 86 = .ok (.iinc 3 1, 3) := by decide +kernel
theorem dX10_listen_89 : decode cX10_listen 89 = .ok (.goto (-87), 3) := by decide +kernel
theorem dX10_listen_92 : decode cX10_listen 92 = .ok (.return_, 1) := by decide +kernel
theorem dX10_grow_0 : decode cX10_grow 0 = .ok (.iconst 0, 1) := by decide +kernel
theorem dX10_grow_1 : decode cX10_grow 1 = .ok (.istore_n 1, 1) := by decide +kernel
theorem dX10_grow_2 : decode cX10_grow 2 = .ok (.iload_n 1, 1) := by decide +kernel
theorem dX10_grow_3 : decode cX10_grow 3 = .ok (.bipush 8, 2) := by decide +kernel
theorem dX10_grow_5 : decode cX10_grow 5 = .ok (.if_icmp .ge 72, 3) := by decide +kernel
theorem dX10_grow_8 : decode cX10_grow 8 = .ok (.aload_n 0, 1) := by decide +kernel
theorem dX10_grow_9 : decode cX10_grow 9 = .ok (.getfield 98, 3) := by decide +kernel
theorem dX10_grow_12 : decode cX10_grow 12 = .ok (.iload_n 1, 1) := by decide +kernel
theorem dX10_grow_13 : decode cX10_grow 13 = .ok (.iaload, 1) := by decide +kernel
theorem dX10_grow_14 : decode cX10_grow 14 = .ok (.ifCond .le 27, 3) := by decide +kernel
theorem dX10_grow_17 : decode cX10_grow 17 = .ok (.aload_n 0, 1) := by decide +kernel
theorem dX10_grow_18 : decode cX10_grow 18 = .ok (.getfield 98, 3) := by decide +kernel
theorem dX10_grow_21 : decode cX10_grow 21 = .ok (.iload_n 1, 1) := by decide +kernel
theorem dX10_grow_22 : decode cX10_grow 22 = .ok (.iaload, 1) := by decide +kernel
theorem dX10_grow_23 : decode cX10_grow 23 = .ok (.bipush 20, 2) := by decide +kernel
theorem dX10_grow_25 : decode cX10_grow 25 = .ok (.if_icmp .ge 16, 3) := by decide +kernel
theorem dX10_grow_28 : decode cX10_grow 28 = .ok (.aload_n 0, 1) := by decide +kernel
theorem dX10_grow_29 : decode cX10_grow 29 = .ok (.getfield 119, 3) := by decide +kernel
theorem dX10_grow_32 : decode cX10_grow 32 = .ok (.iload_n 1, 1) := by decide +kernel
theorem dX10_grow_33 : decode cX10_grow 33 = .ok (.iaload, 1) := by decide +kernel
theorem dX10_grow_34 : decode cX10_grow 34 = .ok (.ifCond .ne 7, 3) := by decide +kernel
theorem dX10_grow_37 : decode cX10_grow 37 = .ok (.iconst 1, 1) := by decide +kernel
theorem dX10_grow_38 : decode cX10_grow 38 = .ok (.goto 4, 3) := by decide +kernel
theorem dX10_grow_41 : decode cX10_grow 41 = .ok (.iconst 0, 1) := by decide +kernel
theorem dX10_grow_42 : decode cX10_grow 42 = .ok (.istore_n 2, 1) := by decide +kernel
theorem dX10_grow_43 : decode cX10_grow 43 = .ok (.iload_n 2, 1) := by decide +kernel
theorem dX10_grow_44 : decode cX10_grow 44 = .ok (.ifCond .eq 27, 3) := by decide +kernel
theorem dX10_grow_47 : decode cX10_grow 47 = .ok (.aload_n 0, 1) := by decide +kernel
theorem dX10_grow_48 : decode cX10_grow 48 = .ok (.aload_n 0, 1) := by decide +kernel
theorem dX10_grow_49 : decode cX10_grow 49 = .ok (.getfield 69, 3) := by decide +kernel
theorem dX10_grow_52 : decode cX10_grow 52 = .ok (.iload_n 1, 1) := by decide +kernel
theorem dX10_grow_53 : decode cX10_grow 53 = .ok (.iaload, 1) := by decide +kernel
theorem dX10_grow_54 : decode cX10_grow 54 = .ok (.invokevirtual 83, 3) := by decide +kernel
theorem dX10_grow_57 : decode cX10_grow 57 = .ok (.iconst 1, 1) := by decide +kernel
theorem dX10_grow_58 : decode cX10_grow 58 = .ok (.if_icmp .lt 13, 3) := by decide +kernel
theorem dX10_grow_61 : decode cX10_grow 61 = .ok (.aload_n 0, 1) := by decide +kernel
theorem dX10_grow_62 : decode cX10_grow 62 = .ok (.getfield 98, 3) := by decide +kernel
theorem dX10_grow_65 : decode cX10_grow 65 = .ok (.iload_n 1, 1) := by decide +kernel
theorem dX10_grow_66 : decode cX10_grow 66 = .ok (.dup2, 1) := by decide +kernel
theorem dX10_grow_67 : decode cX10_grow 67 = .ok (.iaload, 1) := by decide +kernel
theorem dX10_grow_68 : decode cX10_grow 68 = .ok (.iconst 1, 1) := by decide +kernel
theorem dX10_grow_69 : decode cX10_grow 69 = .ok (.iadd, 1) := by decide +kernel
theorem dX10_grow_70 : decode cX10_grow 70 = .ok (.iastore, 1) := by decide +kernel
theorem dX10_grow_71 : decode cX10_grow 71 = .ok (.iinc 1 1, 3) := by decide +kernel
theorem dX10_grow_74 : decode cX10_grow 74 = .ok (.goto (-72), 3) := by decide +kernel
theorem dX10_grow_77 : decode cX10_grow 77 = .ok (.return_, 1) := by decide +kernel
theorem dX10_bringForth_0 : decode cX10_bringForth 0 = .ok (.iload_n 2, 1) := by decide +kernel
theorem dX10_bringForth_1 : decode cX10_bringForth 1 = .ok (.bipush 8, 2) := by decide +kernel
theorem dX10_bringForth_3 : decode cX10_bringForth 3 = .ok (.idiv, 1) := by decide +kernel
theorem dX10_bringForth_4 : decode cX10_bringForth 4 = .ok (.istore 4, 2) := by decide +kernel
theorem dX10_bringForth_6 : decode cX10_bringForth 6 = .ok (.iload_n 2, 1) := by decide +kernel
theorem dX10_bringForth_7 : decode cX10_bringForth 7 = .ok (.bipush 8, 2) := by decide +kernel
theorem dX10_bringForth_9 : decode cX10_bringForth 9 = .ok (.irem, 1) := by decide +kernel
theorem dX10_bringForth_10 : decode cX10_bringForth 10 = .ok (.istore 5, 2) := by decide +kernel
theorem dX10_bringForth_12 : decode cX10_bringForth 12 = .ok (.aload_n 1, 1) := by decide +kernel
theorem dX10_bringForth_13 : decode cX10_bringForth 13 = .ok (.iload 4, 2) := by decide +kernel
theorem dX10_bringForth_15 : decode cX10_bringForth 15 = .ok (.iload 5, 2) := by decide +kernel
theorem dX10_bringForth_17 : decode cX10_bringForth 17 = .ok (.invokevirtual 89, 3) := by decide +kernel
theorem dX10_bringForth_20 : decode cX10_bringForth 20 = .ok (.ifCond .eq 13, 3) := by decide +kernel
theorem dX10_bringForth_23 : decode cX10_bringForth 23 = .ok (.iload_n 3, 1) := by decide +kernel
theorem dX10_bringForth_24 : decode cX10_bringForth 24 = .ok (.ifCond .lt 9, 3) := by decide +kernel
theorem dX10_bringForth_27 : decode cX10_bringForth 27 = .ok (.iload_n 3, 1) := by decide +kernel
theorem dX10_bringForth_28 : decode cX10_bringForth 28 = .ok (.bipush 8, 2) := by decide +kernel
theorem dX10_bringForth_30 : decode cX10_bringForth 30 = .ok (.if_icmp .lt 4, 3) := by decide +kernel
theorem dX10_bringForth_33 : decode cX10_bringForth 33 = .ok (.return_, 1) := by decide +kernel
theorem dX10_bringForth_34 : decode cX10_bringForth 34 = .ok (.aload_n 1, 1) := by decide +kernel
theorem dX10_bringForth_35 : decode cX10_bringForth 35 = .ok (.aload_n 1, 1) := by decide +kernel
theorem dX10_bringForth_36 : decode cX10_bringForth 36 = .ok (.getfield 125, 3) := by decide +kernel
theorem dX10_bringForth_39 : decode cX10_bringForth 39 = .ok (.sipush 137, 3) := by decide +kernel
theorem dX10_bringForth_42 : decode cX10_bringForth 42 = .ok (.imul, 1) := by decide +kernel
theorem dX10_bringForth_43 : decode cX10_bringForth 43 = .ok (.bipush 71, 2) := by decide +kernel
theorem dX10_bringForth_45 : decode cX10_bringForth 45 = .ok (.iadd, 1) := by decide +kernel
theorem dX10_bringForth_46 : decode cX10_bringForth 46 = .ok (.sipush 1000, 3) := by decide +kernel
theorem dX10_bringForth_49 : decode cX10_bringForth 49 = .ok (.irem, 1) := by decide +kernel
theorem dX10_bringForth_50 : decode cX10_bringForth 50 = .ok (.putfield 125, 3) := by decide +kernel
theorem dX10_bringForth_53 : decode cX10_bringForth 53 = .ok (.aload_n 1, 1) := by decide +kernel
theorem dX10_bringForth_54 : decode cX10_bringForth 54 = .ok (.getfield 125, 3) := by decide +kernel
theorem dX10_bringForth_57 : decode cX10_bringForth 57 = .ok (.aload_n 1, 1) := by decide +kernel
theorem dX10_bringForth_58 : decode cX10_bringForth 58 = .ok (.getfield 128, 3) := by decide +kernel
theorem dX10_bringForth_61 : decode cX10_bringForth 61 = .ok (.iload 4, 2) := by decide +kernel
theorem dX10_bringForth_63 : decode cX10_bringForth 63 = .ok (.iaload, 1) := by decide +kernel
theorem dX10_bringForth_64 : decode cX10_bringForth 64 = .ok (.iand, 1) := by decide +kernel
theorem dX10_bringForth_65 : decode cX10_bringForth 65 = .ok (.aload_n 1, 1) := by decide +kernel
theorem dX10_bringForth_66 : decode cX10_bringForth 66 = .ok (.getfield 125, 3) := by decide +kernel
theorem dX10_bringForth_69 : decode cX10_bringForth 69 = .ok (.iconst (-1), 1) := by decide +kernel
theorem dX10_bringForth_70 : decode cX10_bringForth 70 = .ok (.ixor, 1) := by decide +kernel
theorem dX10_bringForth_71 : decode cX10_bringForth 71 = .ok (.aload_n 1, 1) := by decide +kernel
theorem dX10_bringForth_72 : decode cX10_bringForth 72 = .ok (.getfield 128, 3) := by decide +kernel
theorem dX10_bringForth_75 : decode cX10_bringForth 75 = .ok (.iload 5, 2) := by decide +kernel
theorem dX10_bringForth_77 : decode cX10_bringForth 77 = .ok (.iaload, 1) := by decide +kernel
theorem dX10_bringForth_78 : decode cX10_bringForth 78 = .ok (.iand, 1) := by decide +kernel
theorem dX10_bringForth_79 : decode cX10_bringForth 79 = .ok (.ior, 1) := by decide +kernel
theorem dX10_bringForth_80 : decode cX10_bringForth 80 = .ok (.istore 6, 2) := by decide +kernel
theorem dX10_bringForth_82 : decode cX10_bringForth 82 = .ok (.aload_n 1, 1) := by decide +kernel
theorem dX10_bringForth_83 : decode cX10_bringForth 83 = .ok (.iload_n 3, 1) := by decide +kernel
theorem dX10_bringForth_84 : decode cX10_bringForth 84 = .ok (.aload_n 1, 1) := by decide +kernel
theorem dX10_bringForth_85 : decode cX10_bringForth 85 = .ok (.iload 4, 2) := by decide +kernel
theorem dX10_bringForth_87 : decode cX10_bringForth 87 = .ok (.iload 5, 2) := by decide +kernel
theorem dX10_bringForth_89 : decode cX10_bringForth 89 = .ok (.invokestatic 79, 3) := by decide +kernel
theorem dX10_bringForth_92 : decode cX10_bringForth 92 = .ok (.aload_n 1, 1) := by decide +kernel
theorem dX10_bringForth_93 : decode cX10_bringForth 93 = .ok (.getfield 69, 3) := by decide +kernel
theorem dX10_bringForth_96 : decode cX10_bringForth 96 = .ok (.iload 4, 2) := by decide +kernel
theorem dX10_bringForth_98 : decode cX10_bringForth 98 = .ok (.iaload, 1) := by decide +kernel
theorem dX10_bringForth_99 : decode cX10_bringForth 99 = .ok (.iload 6, 2) := by decide +kernel
theorem dX10_bringForth_101 : decode cX10_bringForth 101 = .ok (.invokevirtual 131, 3) := by decide +kernel
theorem dX10_bringForth_104 : decode cX10_bringForth 104 = .ok (.aload_n 1, 1) := by decide +kernel
theorem dX10_bringForth_105 : decode cX10_bringForth 105 = .ok (.getfield 135, 3) := by decide +kernel
theorem dX10_bringForth_108 : decode cX10_bringForth 108 = .ok (.iload_n 3, 1) := by decide +kernel
theorem dX10_bringForth_109 : decode cX10_bringForth 109 = .ok (.iload 4, 2) := by decide +kernel
theorem dX10_bringForth_111 : decode cX10_bringForth 111 = .ok (.iastore, 1) := by decide +kernel
theorem dX10_bringForth_112 : decode cX10_bringForth 112 = .ok (.aload_n 1, 1) := by decide +kernel
theorem dX10_bringForth_113 : decode cX10_bringForth 113 = .ok (.getfield 138, 3) := by decide +kernel
theorem dX10_bringForth_116 : decode cX10_bringForth 116 = .ok (.iload_n 3, 1) := by decide +kernel
theorem dX10_bringForth_117 : decode cX10_bringForth 117 = .ok (.iload 5, 2) := by decide +kernel
theorem dX10_bringForth_119 : decode cX10_bringForth 119 = .ok (.iastore, 1) := by decide +kernel
theorem dX10_bringForth_120 : decode cX10_bringForth 120 = .ok (.aload_n 0, 1) := by decide +kernel
theorem dX10_bringForth_121 : decode cX10_bringForth 121 = .ok (.dup, 1) := by decide +kernel
theorem dX10_bringForth_122 : decode cX10_bringForth 122 = .ok (.getfield 9, 3) := by decide +kernel
theorem dX10_bringForth_125 : decode cX10_bringForth 125 = .ok (.iconst 1, 1) := by decide +kernel
theorem dX10_bringForth_126 : decode cX10_bringForth 126 = .ok (.iload_n 3, 1) := by decide +kernel
theorem dX10_bringForth_127 : decode cX10_bringForth 127 = .ok (.ishl, 1) := by decide +kernel
theorem dX10_bringForth_128 : decode cX10_bringForth 128 = .ok (.ior, 1) := by decide +kernel
theorem dX10_bringForth_129 : decode cX10_bringForth 129 = .ok (.putfield 9, 3) := by decide +kernel
theorem dX10_bringForth_132 : decode cX10_bringForth 132 = .ok (.return_, 1) := by decide +kernel
theorem dX11_init_0 : decode cX11_init 0 = .ok (.aload_n 0, 1) := by decide +kernel
theorem dX11_init_1 : decode cX11_init 1 = .ok (.invokespecial 3, 3) := by decide +kernel
theorem dX11_init_4 : decode cX11_init 4 = .ok (.aload_n 0, 1) := by decide +kernel
theorem dX11_init_5 : decode cX11_init 5 = .ok (.new 9, 3) := by decide +kernel
theorem dX11_init_8 : decode cX11_init 8 = .ok (.dup, 1) := by decide +kernel
theorem dX11_init_9 : decode cX11_init 9 = .ok (.invokespecial 11, 3) := by decide +kernel
theorem dX11_init_12 : decode cX11_init 12 = .ok (.putfield 12, 3) := by decide +kernel
theorem dX11_init_15 : decode cX11_init 15 = .ok (.aload_n 0, 1) := by decide +kernel
theorem dX11_init_16 : decode cX11_init 16 = .ok (.new 16, 3) := by decide +kernel
theorem dX11_init_19 : decode cX11_init 19 = .ok (.dup, 1) := by decide +kernel
theorem dX11_init_20 : decode cX11_init 20 = .ok (.invokespecial 18, 3) := by decide +kernel
theorem dX11_init_23 : decode cX11_init 23 = .ok (.putfield 19, 3) := by decide +kernel
theorem dX11_init_26 : decode cX11_init 26 = .ok (.aload_n 0, 1) := by decide +kernel
theorem dX11_init_27 : decode cX11_init 27 = .ok (.new 23, 3) := by decide +kernel
theorem dX11_init_30 : decode cX11_init 30 = .ok (.dup, 1) := by decide +kernel
theorem dX11_init_31 : decode cX11_init 31 = .ok (.aload_n 0, 1) := by decide +kernel
theorem dX11_init_32 : decode cX11_init 32 = .ok (.getfield 12, 3) := by decide +kernel
theorem dX11_init_35 : decode cX11_init 35 = .ok (.invokespecial 25, 3) := by decide +kernel
theorem dX11_init_38 : decode cX11_init 38 = .ok (.putfield 28, 3) := by decide +kernel
theorem dX11_init_41 : decode cX11_init 41 = .ok (.aload_n 0, 1) := by decide +kernel
theorem dX11_init_42 : decode cX11_init 42 = .ok (.new 32, 3) := by decide +kernel
theorem dX11_init_45 : decode cX11_init 45 = .ok (.dup, 1) := by decide +kernel
theorem dX11_init_46 : decode cX11_init 46 = .ok (.aload_n 0, 1) := by decide +kernel
theorem dX11_init_47 : decode cX11_init 47 = .ok (.getfield 19, 3) := by decide +kernel
theorem dX11_init_50 : decode cX11_init 50 = .ok (.invokespecial 34, 3) := by decide +kernel
theorem dX11_init_53 : decode cX11_init 53 = .ok (.putfield 37, 3) := by decide +kernel
theorem dX11_init_56 : decode cX11_init 56 = .ok (.aload_n 0, 1) := by decide +kernel
theorem dX11_init_57 : decode cX11_init 57 = .ok (.new 41, 3) := by decide +kernel
theorem dX11_init_60 : decode cX11_init 60 = .ok (.dup, 1) := by decide +kernel
theorem dX11_init_61 : decode cX11_init 61 = .ok (.aload_n 0, 1) := by decide +kernel
theorem dX11_init_62 : decode cX11_init 62 = .ok (.getfield 19, 3) := by decide +kernel
theorem dX11_init_65 : decode cX11_init 65 = .ok (.invokespecial 43, 3) := by decide +kernel
theorem dX11_init_68 : decode cX11_init 68 = .ok (.putfield 44, 3) := by decide +kernel
theorem dX11_init_71 : decode cX11_init 71 = .ok (.aload_n 0, 1) := by decide +kernel
theorem dX11_init_72 : decode cX11_init 72 = .ok (.new 48, 3) := by decide +kernel
theorem dX11_init_75 : decode cX11_init 75 = .ok (.dup, 1) := by decide +kernel
theorem dX11_init_76 : decode cX11_init 76 = .ok (.aload_n 0, 1) := by decide +kernel
theorem dX11_init_77 : decode cX11_init 77 = .ok (.getfield 19, 3) := by decide +kernel
theorem dX11_init_80 : decode cX11_init 80 = .ok (.invokespecial 50, 3) := by decide +kernel
theorem dX11_init_83 : decode cX11_init 83 = .ok (.putfield 51, 3) := by decide +kernel
theorem dX11_init_86 : decode cX11_init 86 = .ok (.aload_n 0, 1) := by decide +kernel
theorem dX11_init_87 : decode cX11_init 87 = .ok (.new 55, 3) := by decide +kernel
theorem dX11_init_90 : decode cX11_init 90 = .ok (.dup, 1) := by decide +kernel
theorem dX11_init_91 : decode cX11_init 91 = .ok (.aload_n 0, 1) := by decide +kernel
theorem dX11_init_92 : decode cX11_init 92 = .ok (.getfield 19, 3) := by decide +kernel
theorem dX11_init_95 : decode cX11_init 95 = .ok (.invokespecial 57, 3) := by decide +kernel
theorem dX11_init_98 : decode cX11_init 98 = .ok (.putfield 58, 3) := by decide +kernel
theorem dX11_init_101 : decode cX11_init 101 = .ok (.aload_n 0, 1) := by decide +kernel
theorem dX11_init_102 : decode cX11_init 102 = .ok (.new 62, 3) := by decide +kernel
theorem dX11_init_105 : decode cX11_init 105 = .ok (.dup, 1) := by decide +kernel
theorem dX11_init_106 : decode cX11_init 106 = .ok (.aload_n 0, 1) := by decide +kernel
theorem dX11_init_107 : decode cX11_init 107 = .ok (.getfield 19, 3) := by decide +kernel
theorem dX11_init_110 : decode cX11_init 110 = .ok (.invokespecial 64, 3) := by decide +kernel
theorem dX11_init_113 : decode cX11_init 113 = .ok (.putfield 65, 3) := by decide +kernel
theorem dX11_init_116 : decode cX11_init 116 = .ok (.aload_n 0, 1) := by decide +kernel
theorem dX11_init_117 : decode cX11_init 117 = .ok (.new 69, 3) := by decide +kernel
theorem dX11_init_120 : decode cX11_init 120 = .ok (.dup, 1) := by decide +kernel
theorem dX11_init_121 : decode cX11_init 121 = .ok (.aload_n 0, 1) := by decide +kernel
theorem dX11_init_122 : decode cX11_init 122 = .ok (.getfield 19, 3) := by decide +kernel
theorem dX11_init_125 : decode cX11_init 125 = .ok (.invokespecial 71, 3) := by decide +kernel
theorem dX11_init_128 : decode cX11_init 128 = .ok (.putfield 72, 3) := by decide +kernel
theorem dX11_init_131 : decode cX11_init 131 = .ok (.aload_n 0, 1) := by decide +kernel
theorem dX11_init_132 : decode cX11_init 132 = .ok (.bipush 8, 2) := by decide +kernel
theorem dX11_init_134 : decode cX11_init 134 = .ok (.newarray .int, 2) := by decide +kernel
theorem dX11_init_136 : decode cX11_init 136 = .ok (.putfield 76, 3) := by decide +kernel
theorem dX11_init_139 : decode cX11_init 139 = .ok (.aload_n 0, 1) := by decide +kernel
theorem dX11_init_140 : decode cX11_init 140 = .ok (.iconst 0, 1) := by decide +kernel
theorem dX11_init_141 : decode cX11_init 141 = .ok (.putfield 80, 3) := by decide +kernel
theorem dX11_init_144 : decode cX11_init 144 = .ok (.return_, 1) := by decide +kernel
theorem dX11_feed_0 : decode cX11_feed 0 = .ok (.aload_n 0, 1) := by decide +kernel
theorem dX11_feed_1 : decode cX11_feed 1 = .ok (.getfield 12, 3) := by decide +kernel
theorem dX11_feed_4 : decode cX11_feed 4 = .ok (.getfield 84, 3) := by decide +kernel
theorem dX11_feed_7 : decode cX11_feed 7 = .ok (.sipush 1580, 3) := by decide +kernel
theorem dX11_feed_10 : decode cX11_feed 10 = .ok (.if_icmp .le 5, 3) := by decide +kernel
theorem dX11_feed_13 : decode cX11_feed 13 = .ok (.iconst (-1), 1) := by decide +kernel
theorem dX11_feed_14 : decode cX11_feed 14 = .ok (.ireturn, 1) := by decide +kernel
theorem dX11_feed_15 : decode cX11_feed 15 = .ok (.aload_n 0, 1) := by decide +kernel
theorem dX11_feed_16 : decode cX11_feed 16 = .ok (.getfield 12, 3) := by decide +kernel
theorem dX11_feed_19 : decode cX11_feed 19 = .ok (.iload_n 1, 1) := by decide +kernel
theorem dX11_feed_20 : decode cX11_feed 20 = .ok (.invokevirtual 87, 3) := by decide +kernel
theorem dX11_feed_23 : decode cX11_feed 23 = .ok (.aload_n 0, 1) := by decide +kernel
theorem dX11_feed_24 : decode cX11_feed 24 = .ok (.getfield 12, 3) := by decide +kernel
theorem dX11_feed_27 : decode cX11_feed 27 = .ok (.iload_n 2, 1) := by decide +kernel
theorem dX11_feed_28 : decode cX11_feed 28 = .ok (.invokevirtual 87, 3) := by decide +kernel
theorem dX11_feed_31 : decode cX11_feed 31 = .ok (.aload_n 0, 1) := by decide +kernel
theorem dX11_feed_32 : decode cX11_feed 32 = .ok (.getfield 12, 3) := by decide +kernel
theorem dX11_feed_35 : decode cX11_feed 35 = .ok (.iload_n 3, 1) := by decide +kernel
theorem dX11_feed_36 : decode cX11_feed 36 = .ok (.invokevirtual 87, 3) := by decide +kernel
theorem dX11_feed_39 : decode cX11_feed 39 = .ok (.aload_n 0, 1) := by decide +kernel
theorem dX11_feed_40 : decode cX11_feed 40 = .ok (.getfield 12, 3) := by decide +kernel
theorem dX11_feed_43 : decode cX11_feed 43 = .ok (.iload 4, 2) := by decide +kernel
theorem dX11_feed_45 : decode cX11_feed 45 = .ok (.invokevirtual 87, 3) := by decide +kernel
theorem dX11_feed_48 : decode cX11_feed 48 = .ok (.aload_n 0, 1) := by decide +kernel
theorem dX11_feed_49 : decode cX11_feed 49 = .ok (.getfield 12, 3) := by decide +kernel
theorem dX11_feed_52 : decode cX11_feed 52 = .ok (.iload 5, 2) := by decide +kernel
theorem dX11_feed_54 : decode cX11_feed 54 = .ok (.invokevirtual 87, 3) := by decide +kernel
theorem dX11_feed_57 : decode cX11_feed 57 = .ok (.aload_n 0, 1) := by decide +kernel
theorem dX11_feed_58 : decode cX11_feed 58 = .ok (.getfield 12, 3) := by decide +kernel
theorem dX11_feed_61 : decode cX11_feed 61 = .ok (.getfield 84, 3) := by decide +kernel
theorem dX11_feed_64 : decode cX11_feed 64 = .ok (.ireturn, 1) := by decide +kernel
theorem dX11_end_0 : decode cX11_end 0 = .ok (.iload_n 1, 1) := by decide +kernel
theorem dX11_end_1 : decode cX11_end 1 = .ok (.ifCond .lt 14, 3) := by decide +kernel
theorem dX11_end_4 : decode cX11_end 4 = .ok (.iload_n 1, 1) := by decide +kernel
theorem dX11_end_5 : decode cX11_end 5 = .ok (.aload_n 0, 1) := by decide +kernel
theorem dX11_end_6 : decode cX11_end 6 = .ok (.getfield 12, 3) := by decide +kernel
theorem dX11_end_9 : decode cX11_end 9 = .ok (.getfield 84, 3) := by decide +kernel
theorem dX11_end_12 : decode cX11_end 12 = .ok (.if_icmp .le 5, 3) := by decide +kernel
theorem dX11_end_15 : decode cX11_end 15 = .ok (.iconst (-1), 1) := by decide +kernel
theorem dX11_end_16 : decode cX11_end 16 = .ok (.ireturn, 1) := by decide +kernel
theorem dX11_end_17 : decode cX11_end 17 = .ok (.aload_n 0, 1) := by decide +kernel
theorem dX11_end_18 : decode cX11_end 18 = .ok (.getfield 12, 3) := by decide +kernel
theorem dX11_end_21 : decode cX11_end 21 = .ok (.iload_n 1, 1) := by decide +kernel
theorem dX11_end_22 : decode cX11_end 22 = .ok (.putfield 84, 3) := by decide +kernel
theorem dX11_end_25 : decode cX11_end 25 = .ok (.iload_n 1, 1) := by decide +kernel
theorem dX11_end_26 : decode cX11_end 26 = .ok (.ireturn, 1) := by decide +kernel
theorem dX11_house_0 : decode cX11_house 0 = .ok (.aload_n 0, 1) := by decide +kernel
theorem dX11_house_1 : decode cX11_house 1 = .ok (.getfield 28, 3) := by decide +kernel
theorem dX11_house_4 : decode cX11_house 4 = .ok (.invokevirtual 91, 3) := by decide +kernel
theorem dX11_house_7 : decode cX11_house 7 = .ok (.istore_n 1, 1) := by decide +kernel
theorem dX11_house_8 : decode cX11_house 8 = .ok (.aload_n 0, 1) := by decide +kernel
theorem dX11_house_9 : decode cX11_house 9 = .ok (.getfield 12, 3) := by decide +kernel
theorem dX11_house_12 : decode cX11_house 12 = .ok (.iconst 0, 1) := by decide +kernel
theorem dX11_house_13 : decode cX11_house 13 = .ok (.putfield 84, 3) := by decide +kernel
theorem dX11_house_16 : decode cX11_house 16 = .ok (.iload_n 1, 1) := by decide +kernel
theorem dX11_house_17 : decode cX11_house 17 = .ok (.ifCond .ne 5, 3) := by decide +kernel
theorem dX11_house_20 : decode cX11_house 20 = .ok (.iconst (-1), 1) := by decide +kernel
theorem dX11_house_21 : decode cX11_house 21 = .ok (.ireturn, 1) := by decide +kernel
theorem dX11_house_22 : decode cX11_house 22 = .ok (.aload_n 0, 1) := by decide +kernel
theorem dX11_house_23 : decode cX11_house 23 = .ok (.getfield 19, 3) := by decide +kernel
theorem dX11_house_26 : decode cX11_house 26 = .ok (.aload_n 0, 1) := by decide +kernel
theorem dX11_house_27 : decode cX11_house 27 = .ok (.getfield 28, 3) := by decide +kernel
theorem dX11_house_30 : decode cX11_house 30 = .ok (.getfield 95, 3) := by decide +kernel
theorem dX11_house_33 : decode cX11_house 33 = .ok (.invokevirtual 98, 3) := by decide +kernel
theorem dX11_house_36 : decode cX11_house 36 = .ok (.aload_n 0, 1) := by decide +kernel
theorem dX11_house_37 : decode cX11_house 37 = .ok (.getfield 37, 3) := by decide +kernel
theorem dX11_house_40 : decode cX11_house 40 = .ok (.invokevirtual 101, 3) := by decide +kernel
theorem dX11_house_43 : decode cX11_house 43 = .ok (.aload_n 0, 1) := by decide +kernel
theorem dX11_house_44 : decode cX11_house 44 = .ok (.getfield 51, 3) := by decide +kernel
theorem dX11_house_47 : decode cX11_house 47 = .ok (.aload_n 0, 1) := by decide +kernel
theorem dX11_house_48 : decode cX11_house 48 = .ok (.getfield 37, 3) := by decide +kernel
theorem dX11_house_51 : decode cX11_house 51 = .ok (.invokevirtual 104, 3) := by decide +kernel
theorem dX11_house_54 : decode cX11_house 54 = .ok (.aload_n 0, 1) := by decide +kernel
theorem dX11_house_55 : decode cX11_house 55 = .ok (.getfield 58, 3) := by decide +kernel
theorem dX11_house_58 : decode cX11_house 58 = .ok (.invokevirtual 108, 3) := by decide +kernel
theorem dX11_house_61 : decode cX11_house 61 = .ok (.aload_n 0, 1) := by decide +kernel
theorem dX11_house_62 : decode cX11_house 62 = .ok (.getfield 72, 3) := by decide +kernel
theorem dX11_house_65 : decode cX11_house 65 = .ok (.iconst 0, 1) := by decide +kernel
theorem dX11_house_66 : decode cX11_house 66 = .ok (.putfield 111, 3) := by decide +kernel
theorem dX11_house_69 : decode cX11_house 69 = .ok (.aload_n 0, 1) := by decide +kernel
theorem dX11_house_70 : decode cX11_house 70 = .ok (.iconst 0, 1) := by decide +kernel
theorem dX11_house_71 : decode cX11_house 71 = .ok (.putfield 80, 3) := by decide +kernel
theorem dX11_house_74 : decode cX11_house 74 = .ok (.aload_n 0, 1) := by decide +kernel
theorem dX11_house_75 : decode cX11_house 75 = .ok (.getfield 19, 3) := by decide +kernel
theorem dX11_house_78 : decode cX11_house 78 = .ok (.getfield 114, 3) := by decide +kernel
theorem dX11_house_81 : decode cX11_house 81 = .ok (.ireturn, 1) := by decide +kernel
theorem dX11_fault_0 : decode cX11_fault 0 = .ok (.iload_n 1, 1) := by decide +kernel
theorem dX11_fault_1 : decode cX11_fault 1 = .ok (.ifCond .ne 11, 3) := by decide +kernel
theorem dX11_fault_4 : decode cX11_fault 4 = .ok (.aload_n 0, 1) := by decide +kernel
theorem dX11_fault_5 : decode cX11_fault 5 = .ok (.getfield 28, 3) := by decide +kernel
theorem dX11_fault_8 : decode cX11_fault 8 = .ok (.getfield 117, 3) := by decide +kernel
theorem dX11_fault_11 : decode cX11_fault 11 = .ok (.ireturn, 1) := by decide +kernel
theorem dX11_fault_12 : decode cX11_fault 12 = .ok (.iload_n 1, 1) := by decide +kernel
theorem dX11_fault_13 : decode cX11_fault 13 = .ok (.iconst 1, 1) := by decide +kernel
theorem dX11_fault_14 : decode cX11_fault 14 = .ok (.if_icmp .ne 13, 3) := by decide +kernel
theorem dX11_fault_17 : decode cX11_fault 17 = .ok (.aload_n 0, 1) := by decide +kernel
theorem dX11_fault_18 : decode cX11_fault 18 = .ok (.getfield 28, 3) := by decide +kernel
theorem dX11_fault_21 : decode cX11_fault 21 = .ok (.getfield 120, 3) := by decide +kernel
theorem dX11_fault_24 : decode cX11_fault 24 = .ok (.goto 4, 3) := by decide +kernel
theorem dX11_fault_27 : decode cX11_fault 27 = .ok (.iconst (-1), 1) := by decide +kernel
theorem dX11_fault_28 : decode cX11_fault 28 = .ok (.ireturn, 1) := by decide +kernel
theorem dX11_room_0 : decode cX11_room 0 = .ok (.aload_n 0, 1) := by decide +kernel
theorem dX11_room_1 : decode cX11_room 1 = .ok (.getfield 19, 3) := by decide +kernel
theorem dX11_room_4 : decode cX11_room 4 = .ok (.iload_n 1, 1) := by decide +kernel
theorem dX11_room_5 : decode cX11_room 5 = .ok (.invokevirtual 123, 3) := by decide +kernel
theorem dX11_room_8 : decode cX11_room 8 = .ok (.ifCond .ne 5, 3) := by decide +kernel
theorem dX11_room_11 : decode cX11_room 11 = .ok (.iconst (-1), 1) := by decide +kernel
theorem dX11_room_12 : decode cX11_room 12 = .ok (.ireturn, 1) := by decide +kernel
theorem dX11_room_13 : decode cX11_room 13 = .ok (.iload_n 2, 1) := by decide +kernel
theorem dX11_room_14 : decode cX11_room 14 = .ok (.tableswitch 54 0 2 #[26, 36, 45], 26) := by decide +kernel
theorem dX11_room_40 : decode cX11_room 40 = .ok (.aload_n 0, 1) := by decide +kernel
theorem dX11_room_41 : decode cX11_room 41 = .ok (.getfield 19, 3) := by decide +kernel
theorem dX11_room_44 : decode cX11_room 44 = .ok (.getfield 127, 3) := by decide +kernel
theorem dX11_room_47 : decode cX11_room 47 = .ok (.iload_n 1, 1) := by decide +kernel
theorem dX11_room_48 : decode cX11_room 48 = .ok (.iaload, 1) := by decide +kernel
theorem dX11_room_49 : decode cX11_room 49 = .ok (.ireturn, 1) := by decide +kernel
theorem dX11_room_50 : decode cX11_room 50 = .ok (.aload_n 0, 1) := by decide +kernel
theorem dX11_room_51 : decode cX11_room 51 = .ok (.getfield 37, 3) := by decide +kernel
theorem dX11_room_54 : decode cX11_room 54 = .ok (.iload_n 1, 1) := by decide +kernel
theorem dX11_room_55 : decode cX11_room 55 = .ok (.invokevirtual 130, 3) := by decide +kernel
theorem dX11_room_58 : decode cX11_room 58 = .ok (.ireturn, 1) := by decide +kernel
theorem dX11_room_59 : decode cX11_room 59 = .ok (.aload_n 0, 1) := by decide +kernel
theorem dX11_room_60 : decode cX11_room 60 = .ok (.getfield 37, 3) := by decide +kernel
theorem dX11_room_63 : decode cX11_room 63 = .ok (.iload_n 1, 1) := by decide +kernel
theorem dX11_room_64 : decode cX11_room 64 = .ok (.invokevirtual 134, 3) := by decide +kernel
theorem dX11_room_67 : decode cX11_room 67 = .ok (.ireturn, 1) := by decide +kernel
theorem dX11_room_68 : decode cX11_room 68 = .ok (.iconst (-1), 1) := by decide +kernel
theorem dX11_room_69 : decode cX11_room 69 = .ok (.ireturn, 1) := by decide +kernel
theorem dX11_trunk_0 : decode cX11_trunk 0 = .ok (.aload_n 0, 1) := by decide +kernel
theorem dX11_trunk_1 : decode cX11_trunk 1 = .ok (.getfield 37, 3) := by decide +kernel
theorem dX11_trunk_4 : decode cX11_trunk 4 = .ok (.iload_n 1, 1) := by decide +kernel
theorem dX11_trunk_5 : decode cX11_trunk 5 = .ok (.invokevirtual 137, 3) := by decide +kernel
theorem dX11_trunk_8 : decode cX11_trunk 8 = .ok (.ifCond .ne 6, 3) := by decide +kernel
theorem dX11_trunk_11 : decode cX11_trunk 11 = .ok (.bipush (-2), 2) := by decide +kernel
theorem dX11_trunk_13 : decode cX11_trunk 13 = .ok (.ireturn, 1) := by decide +kernel
theorem dX11_trunk_14 : decode cX11_trunk 14 = .ok (.iload_n 2, 1) := by decide +kernel
theorem dX11_trunk_15 : decode cX11_trunk 15 = .ok (.tableswitch 111 0 6 #[41, 51, 61, 71, 81, 91, 101], 41) := by decide +kernel
theorem dX11_trunk_56 : decode cX11_trunk 56 = .ok (.aload_n 0, 1) := by decide +kernel
theorem dX11_trunk_57 : decode cX11_trunk 57 = .ok (.getfield 37, 3) := by decide +kernel
theorem dX11_trunk_60 : decode cX11_trunk 60 = .ok (.getfield 140, 3) := by decide +kernel
theorem dX11_trunk_63 : decode cX11_trunk 63 = .ok (.iload_n 1, 1) := by decide +kernel
theorem dX11_trunk_64 : decode cX11_trunk 64 = .ok (.iaload, 1) := by decide +kernel
theorem dX11_trunk_65 : decode cX11_trunk 65 = .ok (.ireturn, 1) := by decide +kernel
theorem dX11_trunk_66 : decode cX11_trunk 66 = .ok (.aload_n 0, 1) := by decide +kernel
theorem dX11_trunk_67 : decode cX11_trunk 67 = .ok (.getfield 37, 3) := by decide +kernel
theorem dX11_trunk_70 : decode cX11_trunk 70 = .ok (.getfield 143, 3) := by decide +kernel
theorem dX11_trunk_73 : decode cX11_trunk 73 = .ok (.iload_n 1, 1) := by decide +kernel
theorem dX11_trunk_74 : decode cX11_trunk 74 = .ok (.iaload, 1) := by decide +kernel
theorem dX11_trunk_75 : decode cX11_trunk 75 = .ok (.ireturn, 1) := by decide +kernel
theorem dX11_trunk_76 : decode cX11_trunk 76 = .ok (.aload_n 0, 1) := by decide +kernel
theorem dX11_trunk_77 : decode cX11_trunk 77 = .ok (.getfield 37, 3) := by decide +kernel
theorem dX11_trunk_80 : decode cX11_trunk 80 = .ok (.getfield 146, 3) := by decide +kernel
theorem dX11_trunk_83 : decode cX11_trunk 83 = .ok (.iload_n 1, 1) := by decide +kernel
theorem dX11_trunk_84 : decode cX11_trunk 84 = .ok (.iaload, 1) := by decide +kernel
theorem dX11_trunk_85 : decode cX11_trunk 85 = .ok (.ireturn, 1) := by decide +kernel
theorem dX11_trunk_86 : decode cX11_trunk 86 = .ok (.aload_n 0, 1) := by decide +kernel
theorem dX11_trunk_87 : decode cX11_trunk 87 = .ok (.getfield 37, 3) := by decide +kernel
theorem dX11_trunk_90 : decode cX11_trunk 90 = .ok (.getfield 149, 3) := by decide +kernel
theorem dX11_trunk_93 : decode cX11_trunk 93 = .ok (.iload_n 1, 1) := by decide +kernel
theorem dX11_trunk_94 : decode cX11_trunk 94 = .ok (.iaload, 1) := by decide +kernel
theorem dX11_trunk_95 : decode cX11_trunk 95 = .ok (.ireturn, 1) := by decide +kernel
theorem dX11_trunk_96 : decode cX11_trunk 96 = .ok (.aload_n 0, 1) := by decide +kernel
theorem dX11_trunk_97 : decode cX11_trunk 97 = .ok (.getfield 37, 3) := by decide +kernel
theorem dX11_trunk_100 : decode cX11_trunk 100 = .ok (.getfield 152, 3) := by decide +kernel
theorem dX11_trunk_103 : decode cX11_trunk 103 = .ok (.iload_n 1, 1) := by decide +kernel
theorem dX11_trunk_104 : decode cX11_trunk 104 = .ok (.iaload, 1) := by decide +kernel
theorem dX11_trunk_105 : decode cX11_trunk 105 = .ok (.ireturn, 1) := by decide +kernel
theorem dX11_trunk_106 : decode cX11_trunk 106 = .ok (.aload_n 0, 1) := by decide +kernel
theorem dX11_trunk_107 : decode cX11_trunk 107 = .ok (.getfield 37, 3) := by decide +kernel
theorem dX11_trunk_110 : decode cX11_trunk 110 = .ok (.getfield 155, 3) := by decide +kernel
theorem dX11_trunk_113 : decode cX11_trunk 113 = .ok (.iload_n 1, 1) := by decide +kernel
theorem dX11_trunk_114 : decode cX11_trunk 114 = .ok (.iaload, 1) := by decide +kernel
theorem dX11_trunk_115 : decode cX11_trunk 115 = .ok (.ireturn, 1) := by decide +kernel
theorem dX11_trunk_116 : decode cX11_trunk 116 = .ok (.aload_n 0, 1) := by decide +kernel
theorem dX11_trunk_117 : decode cX11_trunk 117 = .ok (.getfield 37, 3) := by decide +kernel
theorem dX11_trunk_120 : decode cX11_trunk 120 = .ok (.getfield 158, 3) := by decide +kernel
theorem dX11_trunk_123 : decode cX11_trunk 123 = .ok (.iload_n 1, 1) := by decide +kernel
theorem dX11_trunk_124 : decode cX11_trunk 124 = .ok (.iaload, 1) := by decide +kernel
theorem dX11_trunk_125 : decode cX11_trunk 125 = .ok (.ireturn, 1) := by decide +kernel
theorem dX11_trunk_126 : decode cX11_trunk 126 = .ok (.bipush (-2), 2) := by decide +kernel
theorem dX11_trunk_128 : decode cX11_trunk 128 = .ok (.ireturn, 1) := by decide +kernel
theorem dX11_brood_0 : decode cX11_brood 0 = .ok (.iload_n 1, 1) := by decide +kernel
theorem dX11_brood_1 : decode cX11_brood 1 = .ok (.iload_n 2, 1) := by decide +kernel
theorem dX11_brood_2 : decode cX11_brood 2 = .ok (.if_icmp .eq 36, 3) := by decide +kernel
theorem dX11_brood_5 : decode cX11_brood 5 = .ok (.aload_n 0, 1) := by decide +kernel
theorem dX11_brood_6 : decode cX11_brood 6 = .ok (.getfield 37, 3) := by decide +kernel
theorem dX11_brood_9 : decode cX11_brood 9 = .ok (.iload_n 1, 1) := by decide +kernel
theorem dX11_brood_10 : decode cX11_brood 10 = .ok (.iload_n 2, 1) := by decide +kernel
theorem dX11_brood_11 : decode cX11_brood 11 = .ok (.invokevirtual 161, 3) := by decide +kernel
theorem dX11_brood_14 : decode cX11_brood 14 = .ok (.ifCond .eq 24, 3) := by decide +kernel
theorem dX11_brood_17 : decode cX11_brood 17 = .ok (.aload_n 0, 1) := by decide +kernel
theorem dX11_brood_18 : decode cX11_brood 18 = .ok (.getfield 37, 3) := by decide +kernel
theorem dX11_brood_21 : decode cX11_brood 21 = .ok (.getfield 143, 3) := by decide +kernel
theorem dX11_brood_24 : decode cX11_brood 24 = .ok (.iload_n 1, 1) := by decide +kernel
theorem dX11_brood_25 : decode cX11_brood 25 = .ok (.iaload, 1) := by decide +kernel
theorem dX11_brood_26 : decode cX11_brood 26 = .ok (.aload_n 0, 1) := by decide +kernel
theorem dX11_brood_27 : decode cX11_brood 27 = .ok (.getfield 37, 3) := by decide +kernel
theorem dX11_brood_30 : decode cX11_brood 30 = .ok (.getfield 143, 3) := by decide +kernel
theorem dX11_brood_33 : decode cX11_brood 33 = .ok (.iload_n 2, 1) := by decide +kernel
theorem dX11_brood_34 : decode cX11_brood 34 = .ok (.iaload, 1) := by decide +kernel
theorem dX11_brood_35 : decode cX11_brood 35 = .ok (.if_icmp .eq 6, 3) := by decide +kernel
theorem dX11_brood_38 : decode cX11_brood 38 = .ok (.ldc 165, 2) := by decide +kernel
theorem dX11_brood_40 : decode cX11_brood 40 = .ok (.ireturn, 1) := by decide +kernel
theorem dX11_brood_41 : decode cX11_brood 41 = .ok (.aload_n 0, 1) := by decide +kernel
theorem dX11_brood_42 : decode cX11_brood 42 = .ok (.getfield 44, 3) := by decide +kernel
theorem dX11_brood_45 : decode cX11_brood 45 = .ok (.aload_n 0, 1) := by decide +kernel
theorem dX11_brood_46 : decode cX11_brood 46 = .ok (.getfield 37, 3) := by decide +kernel
theorem dX11_brood_49 : decode cX11_brood 49 = .ok (.iload_n 1, 1) := by decide +kernel
theorem dX11_brood_50 : decode cX11_brood 50 = .ok (.iload_n 2, 1) := by decide +kernel
theorem dX11_brood_51 : decode cX11_brood 51 = .ok (.invokevirtual 166, 3) := by decide +kernel
theorem dX11_brood_54 : decode cX11_brood 54 = .ok (.ireturn, 1) := by decide +kernel
theorem dX11_couple_0 : decode cX11_couple 0 = .ok (.aload_n 0, 1) := by decide +kernel
theorem dX11_couple_1 : decode cX11_couple 1 = .ok (.getfield 19, 3) := by decide +kernel
theorem dX11_couple_4 : decode cX11_couple 4 = .ok (.iload_n 1, 1) := by decide +kernel
theorem dX11_couple_5 : decode cX11_couple 5 = .ok (.invokevirtual 123, 3) := by decide +kernel
theorem dX11_couple_8 : decode cX11_couple 8 = .ok (.ifCond .eq 14, 3) := by decide +kernel
theorem dX11_couple_11 : decode cX11_couple 11 = .ok (.aload_n 0, 1) := by decide +kernel
theorem dX11_couple_12 : decode cX11_couple 12 = .ok (.getfield 37, 3) := by decide +kernel
theorem dX11_couple_15 : decode cX11_couple 15 = .ok (.iload_n 1, 1) := by decide +kernel
theorem dX11_couple_16 : decode cX11_couple 16 = .ok (.invokevirtual 170, 3) := by decide +kernel
theorem dX11_couple_19 : decode cX11_couple 19 = .ok (.goto 4, 3) := by decide +kernel
theorem dX11_couple_22 : decode cX11_couple 22 = .ok (.iconst (-1), 1) := by decide +kernel
theorem dX11_couple_23 : decode cX11_couple 23 = .ok (.ireturn, 1) := by decide +kernel
theorem dX11_year_0 : decode cX11_year 0 = .ok (.aload_n 0, 1) := by decide +kernel
theorem dX11_year_1 : decode cX11_year 1 = .ok (.getfield 37, 3) := by decide +kernel
theorem dX11_year_4 : decode cX11_year 4 = .ok (.getfield 173, 3) := by decide +kernel
theorem dX11_year_7 : decode cX11_year 7 = .ok (.sipush 999, 3) := by decide +kernel
theorem dX11_year_10 : decode cX11_year 10 = .ok (.if_icmp .lt 5, 3) := by decide +kernel
theorem dX11_year_13 : decode cX11_year 13 = .ok (.iconst (-1), 1) := by decide +kernel
theorem dX11_year_14 : decode cX11_year 14 = .ok (.ireturn, 1) := by decide +kernel
theorem dX11_year_15 : decode cX11_year 15 = .ok (.aload_n 0, 1) := by decide +kernel
theorem dX11_year_16 : decode cX11_year 16 = .ok (.getfield 44, 3) := by decide +kernel
theorem dX11_year_19 : decode cX11_year 19 = .ok (.aload_n 0, 1) := by decide +kernel
theorem dX11_year_20 : decode cX11_year 20 = .ok (.getfield 37, 3) := by decide +kernel
theorem dX11_year_23 : decode cX11_year 23 = .ok (.aload_n 0, 1) := by decide +kernel
theorem dX11_year_24 : decode cX11_year 24 = .ok (.getfield 19, 3) := by decide +kernel
theorem dX11_year_27 : decode cX11_year 27 = .ok (.getfield 176, 3) := by decide +kernel
theorem dX11_year_30 : decode cX11_year 30 = .ok (.invokevirtual 178, 3) := by decide +kernel
theorem dX11_year_33 : decode cX11_year 33 = .ok (.aload_n 0, 1) := by decide +kernel
theorem dX11_year_34 : decode cX11_year 34 = .ok (.getfield 51, 3) := by decide +kernel
theorem dX11_year_37 : decode cX11_year 37 = .ok (.aload_n 0, 1) := by decide +kernel
theorem dX11_year_38 : decode cX11_year 38 = .ok (.getfield 37, 3) := by decide +kernel
theorem dX11_year_41 : decode cX11_year 41 = .ok (.invokevirtual 182, 3) := by decide +kernel
theorem dX11_year_44 : decode cX11_year 44 = .ok (.aload_n 0, 1) := by decide +kernel
theorem dX11_year_45 : decode cX11_year 45 = .ok (.getfield 44, 3) := by decide +kernel
theorem dX11_year_48 : decode cX11_year 48 = .ok (.getfield 185, 3) := by decide +kernel
theorem dX11_year_51 : decode cX11_year 51 = .ok (.ireturn, 1) := by decide +kernel
theorem dX11_carry_0 : decode cX11_carry 0 = .ok (.aload_n 0, 1) := by decide +kernel
theorem dX11_carry_1 : decode cX11_carry 1 = .ok (.getfield 37, 3) := by decide +kernel
theorem dX11_carry_4 : decode cX11_carry 4 = .ok (.iload_n 1, 1) := by decide +kernel
theorem dX11_carry_5 : decode cX11_carry 5 = .ok (.invokevirtual 137, 3) := by decide +kernel
theorem dX11_carry_8 : decode cX11_carry 8 = .ok (.ifCond .eq 14, 3) := by decide +kernel
theorem dX11_carry_11 : decode cX11_carry 11 = .ok (.aload_n 0, 1) := by decide +kernel
theorem dX11_carry_12 : decode cX11_carry 12 = .ok (.getfield 19, 3) := by decide +kernel
theorem dX11_carry_15 : decode cX11_carry 15 = .ok (.iload_n 2, 1) := by decide +kernel
theorem dX11_carry_16 : decode cX11_carry 16 = .ok (.invokevirtual 123, 3) := by decide +kernel
theorem dX11_carry_19 : decode cX11_carry 19 = .ok (.ifCond .ne 5, 3) := by decide +kernel
theorem dX11_carry_22 : decode cX11_carry 22 = .ok (.iconst (-1), 1) := by decide +kernel
theorem dX11_carry_23 : decode cX11_carry 23 = .ok (.ireturn, 1) := by decide +kernel
theorem dX11_carry_24 : decode cX11_carry 24 = .ok (.aload_n 0, 1) := by decide +kernel
theorem dX11_carry_25 : decode cX11_carry 25 = .ok (.getfield 37, 3) := by decide +kernel
theorem dX11_carry_28 : decode cX11_carry 28 = .ok (.getfield 143, 3) := by decide +kernel
theorem dX11_carry_31 : decode cX11_carry 31 = .ok (.iload_n 1, 1) := by decide +kernel
theorem dX11_carry_32 : decode cX11_carry 32 = .ok (.iaload, 1) := by decide +kernel
theorem dX11_carry_33 : decode cX11_carry 33 = .ok (.istore_n 3, 1) := by decide +kernel
theorem dX11_carry_34 : decode cX11_carry 34 = .ok (.iload_n 3, 1) := by decide +kernel
theorem dX11_carry_35 : decode cX11_carry 35 = .ok (.iload_n 2, 1) := by decide +kernel
theorem dX11_carry_36 : decode cX11_carry 36 = .ok (.if_icmp .eq 23, 3) := by decide +kernel
theorem dX11_carry_39 : decode cX11_carry 39 = .ok (.aload_n 0, 1) := by decide +kernel
theorem dX11_carry_40 : decode cX11_carry 40 = .ok (.getfield 37, 3) := by decide +kernel
theorem dX11_carry_43 : decode cX11_carry 43 = .ok (.iload_n 2, 1) := by decide +kernel
theorem dX11_carry_44 : decode cX11_carry 44 = .ok (.invokevirtual 130, 3) := by decide +kernel
theorem dX11_carry_47 : decode cX11_carry 47 = .ok (.aload_n 0, 1) := by decide +kernel
theorem dX11_carry_48 : decode cX11_carry 48 = .ok (.getfield 37, 3) := by decide +kernel
theorem dX11_carry_51 : decode cX11_carry 51 = .ok (.getfield 140, 3) := by decide +kernel
theorem dX11_carry_54 : decode cX11_carry 54 = .ok (.iload_n 1, 1) := by decide +kernel
theorem dX11_carry_55 : decode cX11_carry 55 = .ok (.iaload, 1) := by decide +kernel
theorem dX11_carry_56 : decode cX11_carry 56 = .ok (.if_icmp .ge 5, 3) := by decide +kernel
theorem dX11_carry_59 : decode cX11_carry 59 = .ok (.iconst (-1), 1) := by decide +kernel
theorem dX11_carry_60 : decode cX11_carry 60 = .ok (.ireturn, 1) := by decide +kernel
theorem dX11_carry_61 : decode cX11_carry 61 = .ok (.aload_n 0, 1) := by decide +kernel
theorem dX11_carry_62 : decode cX11_carry 62 = .ok (.getfield 37, 3) := by decide +kernel
theorem dX11_carry_65 : decode cX11_carry 65 = .ok (.getfield 143, 3) := by decide +kernel
theorem dX11_carry_68 : decode cX11_carry 68 = .ok (.iload_n 1, 1) := by decide +kernel
theorem dX11_carry_69 : decode cX11_carry 69 = .ok (.iload_n 2, 1) := by decide +kernel
theorem dX11_carry_70 : decode cX11_carry 70 = .ok (.iastore, 1) := by decide +kernel
theorem dX11_carry_71 : decode cX11_carry 71 = .ok (.aload_n 0, 1) := by decide +kernel
theorem dX11_carry_72 : decode cX11_carry 72 = .ok (.getfield 51, 3) := by decide +kernel
theorem dX11_carry_75 : decode cX11_carry 75 = .ok (.aload_n 0, 1) := by decide +kernel
theorem dX11_carry_76 : decode cX11_carry 76 = .ok (.getfield 37, 3) := by decide +kernel
theorem dX11_carry_79 : decode cX11_carry 79 = .ok (.invokevirtual 182, 3) := by decide +kernel
theorem dX11_carry_82 : decode cX11_carry 82 = .ok (.iload_n 3, 1) := by decide +kernel
theorem dX11_carry_83 : decode cX11_carry 83 = .ok (.ireturn, 1) := by decide +kernel
theorem dX11_tell_0 : decode cX11_tell 0 = .ok (.aload_n 0, 1) := by decide +kernel
theorem dX11_tell_1 : decode cX11_tell 1 = .ok (.getfield 37, 3) := by decide +kernel
theorem dX11_tell_4 : decode cX11_tell 4 = .ok (.iload_n 1, 1) := by decide +kernel
theorem dX11_tell_5 : decode cX11_tell 5 = .ok (.invokevirtual 137, 3) := by decide +kernel
theorem dX11_tell_8 : decode cX11_tell 8 = .ok (.ifCond .eq 28, 3) := by decide +kernel
theorem dX11_tell_11 : decode cX11_tell 11 = .ok (.aload_n 0, 1) := by decide +kernel
theorem dX11_tell_12 : decode cX11_tell 12 = .ok (.getfield 37, 3) := by decide +kernel
theorem dX11_tell_15 : decode cX11_tell 15 = .ok (.getfield 188, 3) := by decide +kernel
theorem dX11_tell_18 : decode cX11_tell 18 = .ok (.iconst 1, 1) := by decide +kernel
theorem dX11_tell_19 : decode cX11_tell 19 = .ok (.if_icmp .lt 17, 3) := by decide +kernel
theorem dX11_tell_22 : decode cX11_tell 22 = .ok (.aload_n 0, 1) := by decide +kernel
theorem dX11_tell_23 : decode cX11_tell 23 = .ok (.getfield 37, 3) := by decide +kernel
theorem dX11_tell_26 : decode cX11_tell 26 = .ok (.getfield 149, 3) := by decide +kernel
theorem dX11_tell_29 : decode cX11_tell 29 = .ok (.iload_n 1, 1) := by decide +kernel
theorem dX11_tell_30 : decode cX11_tell 30 = .ok (.iaload, 1) := by decide +kernel
theorem dX11_tell_31 : decode cX11_tell 31 = .ok (.bipush 9, 2) := by decide +kernel
theorem dX11_tell_33 : decode cX11_tell 33 = .ok (.if_icmp .lt 5, 3) := by decide +kernel
theorem dX11_tell_36 : decode cX11_tell 36 = .ok (.iconst (-1), 1) := by decide +kernel
theorem dX11_tell_37 : decode cX11_tell 37 = .ok (.ireturn, 1) := by decide +kernel
theorem dX11_tell_38 : decode cX11_tell 38 = .ok (.aload_n 0, 1) := by decide +kernel
theorem dX11_tell_39 : decode cX11_tell 39 = .ok (.getfield 37, 3) := by decide +kernel
theorem dX11_tell_42 : decode cX11_tell 42 = .ok (.dup, 1) := by decide +kernel
theorem dX11_tell_43 : decode cX11_tell 43 = .ok (.getfield 188, 3) := by decide +kernel
theorem dX11_tell_46 : decode cX11_tell 46 = .ok (.iconst 1, 1) := by decide +kernel
theorem dX11_tell_47 : decode cX11_tell 47 = .ok (.isub, 1) := by decide +kernel
theorem dX11_tell_48 : decode cX11_tell 48 = .ok (.putfield 188, 3) := by decide +kernel
theorem dX11_tell_51 : decode cX11_tell 51 = .ok (.aload_n 0, 1) := by decide +kernel
theorem dX11_tell_52 : decode cX11_tell 52 = .ok (.getfield 37, 3) := by decide +kernel
theorem dX11_tell_55 : decode cX11_tell 55 = .ok (.getfield 149, 3) := by decide +kernel
theorem dX11_tell_58 : decode cX11_tell 58 = .ok (.iload_n 1, 1) := by decide +kernel
theorem dX11_tell_59 : decode cX11_tell 59 = .ok (.dup2, 1) := by decide +kernel
theorem dX11_tell_60 : decode cX11_tell 60 = .ok (.iaload, 1) := by decide +kernel
theorem dX11_tell_61 : decode cX11_tell 61 = .ok (.iconst 1, 1) := by decide +kernel
theorem dX11_tell_62 : decode cX11_tell 62 = .ok (.iadd, 1) := by decide +kernel
theorem dX11_tell_63 : decode cX11_tell 63 = .ok (.iastore, 1) := by decide +kernel
theorem dX11_tell_64 : decode cX11_tell 64 = .ok (.aload_n 0, 1) := by decide +kernel
theorem dX11_tell_65 : decode cX11_tell 65 = .ok (.getfield 51, 3) := by decide +kernel
theorem dX11_tell_68 : decode cX11_tell 68 = .ok (.aload_n 0, 1) := by decide +kernel
theorem dX11_tell_69 : decode cX11_tell 69 = .ok (.getfield 37, 3) := by decide +kernel
theorem dX11_tell_72 : decode cX11_tell 72 = .ok (.invokevirtual 182, 3) := by decide +kernel
theorem dX11_tell_75 : decode cX11_tell 75 = .ok (.aload_n 0, 1) := by decide +kernel
theorem dX11_tell_76 : decode cX11_tell 76 = .ok (.getfield 37, 3) := by decide +kernel
theorem dX11_tell_79 : decode cX11_tell 79 = .ok (.getfield 149, 3) := by decide +kernel
theorem dX11_tell_82 : decode cX11_tell 82 = .ok (.iload_n 1, 1) := by decide +kernel
theorem dX11_tell_83 : decode cX11_tell 83 = .ok (.iaload, 1) := by decide +kernel
theorem dX11_tell_84 : decode cX11_tell 84 = .ok (.ireturn, 1) := by decide +kernel
theorem dX11_lose_0 : decode cX11_lose 0 = .ok (.aload_n 0, 1) := by decide +kernel
theorem dX11_lose_1 : decode cX11_lose 1 = .ok (.getfield 37, 3) := by decide +kernel
theorem dX11_lose_4 : decode cX11_lose 4 = .ok (.iload_n 1, 1) := by decide +kernel
theorem dX11_lose_5 : decode cX11_lose 5 = .ok (.invokevirtual 137, 3) := by decide +kernel
theorem dX11_lose_8 : decode cX11_lose 8 = .ok (.ifCond .ne 5, 3) := by decide +kernel
theorem dX11_lose_11 : decode cX11_lose 11 = .ok (.iconst (-1), 1) := by decide +kernel
theorem dX11_lose_12 : decode cX11_lose 12 = .ok (.ireturn, 1) := by decide +kernel
theorem dX11_lose_13 : decode cX11_lose 13 = .ok (.aload_n 0, 1) := by decide +kernel
theorem dX11_lose_14 : decode cX11_lose 14 = .ok (.getfield 37, 3) := by decide +kernel
theorem dX11_lose_17 : decode cX11_lose 17 = .ok (.getfield 140, 3) := by decide +kernel
theorem dX11_lose_20 : decode cX11_lose 20 = .ok (.iload_n 1, 1) := by decide +kernel
theorem dX11_lose_21 : decode cX11_lose 21 = .ok (.iaload, 1) := by decide +kernel
theorem dX11_lose_22 : decode cX11_lose 22 = .ok (.istore_n 2, 1) := by decide +kernel
theorem dX11_lose_23 : decode cX11_lose 23 = .ok (.aload_n 0, 1) := by decide +kernel
theorem dX11_lose_24 : decode cX11_lose 24 = .ok (.getfield 37, 3) := by decide +kernel
theorem dX11_lose_27 : decode cX11_lose 27 = .ok (.iload_n 1, 1) := by decide +kernel
theorem dX11_lose_28 : decode cX11_lose 28 = .ok (.invokevirtual 191, 3) := by decide +kernel
theorem dX11_lose_31 : decode cX11_lose 31 = .ok (.aload_n 0, 1) := by decide +kernel
theorem dX11_lose_32 : decode cX11_lose 32 = .ok (.getfield 51, 3) := by decide +kernel
theorem dX11_lose_35 : decode cX11_lose 35 = .ok (.aload_n 0, 1) := by decide +kernel
theorem dX11_lose_36 : decode cX11_lose 36 = .ok (.getfield 37, 3) := by decide +kernel
theorem dX11_lose_39 : decode cX11_lose 39 = .ok (.invokevirtual 182, 3) := by decide +kernel
theorem dX11_lose_42 : decode cX11_lose 42 = .ok (.iload_n 2, 1) := by decide +kernel
theorem dX11_lose_43 : decode cX11_lose 43 = .ok (.ireturn, 1) := by decide +kernel
theorem dX11_undo_0 : decode cX11_undo 0 = .ok (.aload_n 0, 1) := by decide +kernel
theorem dX11_undo_1 : decode cX11_undo 1 = .ok (.getfield 51, 3) := by decide +kernel
theorem dX11_undo_4 : decode cX11_undo 4 = .ok (.aload_n 0, 1) := by decide +kernel
theorem dX11_undo_5 : decode cX11_undo 5 = .ok (.getfield 37, 3) := by decide +kernel
theorem dX11_undo_8 : decode cX11_undo 8 = .ok (.invokevirtual 194, 3) := by decide +kernel
theorem dX11_undo_11 : decode cX11_undo 11 = .ok (.ireturn, 1) := by decide +kernel
theorem dX11_redo_0 : decode cX11_redo 0 = .ok (.aload_n 0, 1) := by decide +kernel
theorem dX11_redo_1 : decode cX11_redo 1 = .ok (.getfield 51, 3) := by decide +kernel
theorem dX11_redo_4 : decode cX11_redo 4 = .ok (.aload_n 0, 1) := by decide +kernel
theorem dX11_redo_5 : decode cX11_redo 5 = .ok (.getfield 37, 3) := by decide +kernel
theorem dX11_redo_8 : decode cX11_redo 8 = .ok (.invokevirtual 198, 3) := by decide +kernel
theorem dX11_redo_11 : decode cX11_redo 11 = .ok (.ireturn, 1) := by decide +kernel
theorem dX11_will_0 : decode cX11_will 0 = .ok (.iload_n 2, 1) := by decide +kernel
theorem dX11_will_1 : decode cX11_will 1 = .ok (.invokestatic 201, 3) := by decide +kernel
theorem dX11_will_4 : decode cX11_will 4 = .ok (.ifCond .eq 12, 3) := by decide +kernel
theorem dX11_will_7 : decode cX11_will 7 = .ok (.iload_n 3, 1) := by decide +kernel
theorem dX11_will_8 : decode cX11_will 8 = .ok (.ifCond .lt 8, 3) := by decide +kernel
theorem dX11_will_11 : decode cX11_will 11 = .ok (.iload_n 3, 1) := by decide +kernel
theorem dX11_will_12 : decode cX11_will 12 = .ok (.iconst 1, 1) := by decide +kernel
theorem dX11_will_13 : decode cX11_will 13 = .ok (.if_icmp .le 5, 3) := by decide +kernel
theorem dX11_will_16 : decode cX11_will 16 = .ok (.iconst (-1), 1) := by decide +kernel
theorem dX11_will_17 : decode cX11_will 17 = .ok (.ireturn, 1) := by decide +kernel
theorem dX11_will_18 : decode cX11_will 18 = .ok (.aload_n 0, 1) := by decide +kernel
theorem dX11_will_19 : decode cX11_will 19 = .ok (.getfield 44, 3) := by decide +kernel
theorem dX11_will_22 : decode cX11_will 22 = .ok (.aload_n 0, 1) := by decide +kernel
theorem dX11_will_23 : decode cX11_will 23 = .ok (.getfield 37, 3) := by decide +kernel
theorem dX11_will_26 : decode cX11_will 26 = .ok (.iload_n 2, 1) := by decide +kernel
theorem dX11_will_27 : decode cX11_will 27 = .ok (.aload_n 0, 1) := by decide +kernel
theorem dX11_will_28 : decode cX11_will 28 = .ok (.getfield 19, 3) := by decide +kernel
theorem dX11_will_31 : decode cX11_will 31 = .ok (.getfield 176, 3) := by decide +kernel
theorem dX11_will_34 : decode cX11_will 34 = .ok (.invokevirtual 204, 3) := by decide +kernel
theorem dX11_will_37 : decode cX11_will 37 = .ok (.astore 4, 2) := by decide +kernel
theorem dX11_will_39 : decode cX11_will 39 = .ok (.aload 4, 2) := by decide +kernel
theorem dX11_will_41 : decode cX11_will 41 = .ok (.iload_n 1, 1) := by decide +kernel
theorem dX11_will_42 : decode cX11_will 42 = .ok (.invokevirtual 137, 3) := by decide +kernel
theorem dX11_will_45 : decode cX11_will 45 = .ok (.ifCond .ne 5, 3) := by decide +kernel
theorem dX11_will_48 : decode cX11_will 48 = .ok (.iconst (-1), 1) := by decide +kernel
theorem dX11_will_49 : decode cX11_will 49 = .ok (.ireturn, 1) := by decide +kernel
theorem dX11_will_50 : decode cX11_will 50 = .ok (.iload_n 3, 1) := by decide +kernel
theorem dX11_will_51 : decode cX11_will 51 = .ok (.ifCond .ne 13, 3) := by decide +kernel
theorem dX11_will_54 : decode cX11_will 54 = .ok (.aload 4, 2) := by decide +kernel
theorem dX11_will_56 : decode cX11_will 56 = .ok (.getfield 140, 3) := by decide +kernel
theorem dX11_will_59 : decode cX11_will 59 = .ok (.iload_n 1, 1) := by decide +kernel
theorem dX11_will_60 : decode cX11_will 60 = .ok (.iaload, 1) := by decide +kernel
theorem dX11_will_61 : decode cX11_will 61 = .ok (.goto 10, 3) := by decide +kernel
theorem dX11_will_64 : decode cX11_will 64 = .ok (.aload 4, 2) := by decide +kernel
theorem dX11_will_66 : decode cX11_will 66 = .ok (.getfield 146, 3) := by decide +kernel
theorem dX11_will_69 : decode cX11_will 69 = .ok (.iload_n 1, 1) := by decide +kernel
theorem dX11_will_70 : decode cX11_will 70 = .ok (.iaload, 1) := by decide +kernel
theorem dX11_will_71 : decode cX11_will 71 = .ok (.ireturn, 1) := by decide +kernel
theorem dX11_alive_0 : decode cX11_alive 0 = .ok (.iload_n 1, 1) := by decide +kernel
theorem dX11_alive_1 : decode cX11_alive 1 = .ok (.invokestatic 201, 3) := by decide +kernel
theorem dX11_alive_4 : decode cX11_alive 4 = .ok (.ifCond .eq 28, 3) := by decide +kernel
theorem dX11_alive_7 : decode cX11_alive 7 = .ok (.aload_n 0, 1) := by decide +kernel
theorem dX11_alive_8 : decode cX11_alive 8 = .ok (.getfield 44, 3) := by decide +kernel
theorem dX11_alive_11 : decode cX11_alive 11 = .ok (.aload_n 0, 1) := by decide +kernel
theorem dX11_alive_12 : decode cX11_alive 12 = .ok (.getfield 37, 3) := by decide +kernel
theorem dX11_alive_15 : decode cX11_alive 15 = .ok (.iload_n 1, 1) := by decide +kernel
theorem dX11_alive_16 : decode cX11_alive 16 = .ok (.aload_n 0, 1) := by decide +kernel
theorem dX11_alive_17 : decode cX11_alive 17 = .ok (.getfield 19, 3) := by decide +kernel
theorem dX11_alive_20 : decode cX11_alive 20 = .ok (.getfield 176, 3) := by decide +kernel
theorem dX11_alive_23 : decode cX11_alive 23 = .ok (.invokevirtual 204, 3) := by decide +kernel
theorem dX11_alive_26 : decode cX11_alive 26 = .ok (.invokevirtual 208, 3) := by decide +kernel
theorem dX11_alive_29 : decode cX11_alive 29 = .ok (.goto 4, 3) := by decide +kernel
theorem dX11_alive_32 : decode cX11_alive 32 = .ok (.iconst (-1), 1) := by decide +kernel
theorem dX11_alive_33 : decode cX11_alive 33 = .ok (.ireturn, 1) := by decide +kernel
theorem dX11_need_0 : decode cX11_need 0 = .ok (.iload_n 1, 1) := by decide +kernel
theorem dX11_need_1 : decode cX11_need 1 = .ok (.invokestatic 201, 3) := by decide +kernel
theorem dX11_need_4 : decode cX11_need 4 = .ok (.ifCond .ne 5, 3) := by decide +kernel
theorem dX11_need_7 : decode cX11_need 7 = .ok (.iconst (-1), 1) := by decide +kernel
theorem dX11_need_8 : decode cX11_need 8 = .ok (.ireturn, 1) := by decide +kernel
theorem dX11_need_9 : decode cX11_need 9 = .ok (.iconst 0, 1) := by decide +kernel
theorem dX11_need_10 : decode cX11_need 10 = .ok (.istore_n 2, 1) := by decide +kernel
theorem dX11_need_11 : decode cX11_need 11 = .ok (.iconst 0, 1) := by decide +kernel
theorem dX11_need_12 : decode cX11_need 12 = .ok (.istore_n 3, 1) := by decide +kernel
theorem dX11_need_13 : decode cX11_need 13 = .ok (.iload_n 3, 1) := by decide +kernel
theorem dX11_need_14 : decode cX11_need 14 = .ok (.bipush 8, 2) := by decide +kernel
theorem dX11_need_16 : decode cX11_need 16 = .ok (.if_icmp .ge 39, 3) := by decide +kernel
theorem dX11_need_19 : decode cX11_need 19 = .ok (.aload_n 0, 1) := by decide +kernel
theorem dX11_need_20 : decode cX11_need 20 = .ok (.getfield 37, 3) := by decide +kernel
theorem dX11_need_23 : decode cX11_need 23 = .ok (.getfield 140, 3) := by decide +kernel
theorem dX11_need_26 : decode cX11_need 26 = .ok (.iload_n 3, 1) := by decide +kernel
theorem dX11_need_27 : decode cX11_need 27 = .ok (.iaload, 1) := by decide +kernel
theorem dX11_need_28 : decode cX11_need 28 = .ok (.ifCond .le 21, 3) := by decide +kernel
theorem dX11_need_31 : decode cX11_need 31 = .ok (.iload_n 2, 1) := by decide +kernel
theorem dX11_need_32 : decode cX11_need 32 = .ok (.iconst 0, 1) := by decide +kernel
theorem dX11_need_33 : decode cX11_need 33 = .ok (.iload_n 1, 1) := by decide +kernel
theorem dX11_need_34 : decode cX11_need 34 = .ok (.aload_n 0, 1) := by decide +kernel
theorem dX11_need_35 : decode cX11_need 35 = .ok (.getfield 37, 3) := by decide +kernel
theorem dX11_need_38 : decode cX11_need 38 = .ok (.getfield 149, 3) := by decide +kernel
theorem dX11_need_41 : decode cX11_need 41 = .ok (.iload_n 3, 1) := by decide +kernel
theorem dX11_need_42 : decode cX11_need 42 = .ok (.iaload, 1) := by decide +kernel
theorem dX11_need_43 : decode cX11_need 43 = .ok (.isub, 1) := by decide +kernel
theorem dX11_need_44 : decode cX11_need 44 = .ok (.invokestatic 212, 3) := by decide +kernel
theorem dX11_need_47 : decode cX11_need 47 = .ok (.iadd, 1) := by decide +kernel
theorem dX11_need_48 : decode cX11_need 48 = .ok (.istore_n 2, 1) := by decide +kernel
theorem dX11_need_49 : decode cX11_need 49 = .ok (.iinc 3 1, 3) := by decide +kernel
theorem dX11_need_52 : decode cX11_need 52 = .ok (.goto (-39), 3) := by decide +kernel
theorem dX11_need_55 : decode cX11_need 55 = .ok (.iload_n 2, 1) := by decide +kernel
theorem dX11_need_56 : decode cX11_need 56 = .ok (.ireturn, 1) := by decide +kernel
theorem dX11_best_0 : decode cX11_best 0 = .ok (.aload_n 0, 1) := by decide +kernel
theorem dX11_best_1 : decode cX11_best 1 = .ok (.getfield 37, 3) := by decide +kernel
theorem dX11_best_4 : decode cX11_best 4 = .ok (.iload_n 1, 1) := by decide +kernel
theorem dX11_best_5 : decode cX11_best 5 = .ok (.invokevirtual 137, 3) := by decide +kernel
theorem dX11_best_8 : decode cX11_best 8 = .ok (.ifCond .eq 12, 3) := by decide +kernel
theorem dX11_best_11 : decode cX11_best 11 = .ok (.iload_n 2, 1) := by decide +kernel
theorem dX11_best_12 : decode cX11_best 12 = .ok (.ifCond .lt 8, 3) := by decide +kernel
theorem dX11_best_15 : decode cX11_best 15 = .ok (.iload_n 2, 1) := by decide +kernel
theorem dX11_best_16 : decode cX11_best 16 = .ok (.iconst 1, 1) := by decide +kernel
theorem dX11_best_17 : decode cX11_best 17 = .ok (.if_icmp .le 5, 3) := by decide +kernel
theorem dX11_best_20 : decode cX11_best 20 = .ok (.iconst (-1), 1) := by decide +kernel
theorem dX11_best_21 : decode cX11_best 21 = .ok (.ireturn, 1) := by decide +kernel
theorem dX11_best_22 : decode cX11_best 22 = .ok (.iconst (-1), 1) := by decide +kernel
theorem dX11_best_23 : decode cX11_best 23 = .ok (.istore_n 3, 1) := by decide +kernel
theorem dX11_best_24 : decode cX11_best 24 = .ok (.iconst (-1), 1) := by decide +kernel
theorem dX11_best_25 : decode cX11_best 25 = .ok (.istore 4, 2) := by decide +kernel
theorem dX11_best_27 : decode cX11_best 27 = .ok (.iconst 0, 1) := by decide +kernel
theorem dX11_best_28 : decode cX11_best 28 = .ok (.istore 5, 2) := by decide +kernel
theorem dX11_best_30 : decode cX11_best 30 = .ok (.iload 5, 2) := by decide +kernel
theorem dX11_best_32 : decode cX11_best 32 = .ok (.aload_n 0, 1) := by decide +kernel
theorem dX11_best_33 : decode cX11_best 33 = .ok (.getfield 19, 3) := by decide +kernel
theorem dX11_best_36 : decode cX11_best 36 = .ok (.getfield 218, 3) := by decide +kernel
theorem dX11_best_39 : decode cX11_best 39 = .ok (.if_icmp .ge 74, 3) := by decide +kernel
theorem dX11_best_42 : decode cX11_best 42 = .ok (.iload 5, 2) := by decide +kernel
theorem dX11_best_44 : decode cX11_best 44 = .ok (.aload_n 0, 1) := by decide +kernel
theorem dX11_best_45 : decode cX11_best 45 = .ok (.getfield 37, 3) := by decide +kernel
theorem dX11_best_48 : decode cX11_best 48 = .ok (.getfield 143, 3) := by decide +kernel
theorem dX11_best_51 : decode cX11_best 51 = .ok (.iload_n 1, 1) := by decide +kernel
theorem dX11_best_52 : decode cX11_best 52 = .ok (.iaload, 1) := by decide +kernel
theorem dX11_best_53 : decode cX11_best 53 = .ok (.if_icmp .eq 24, 3) := by decide +kernel
theorem dX11_best_56 : decode cX11_best 56 = .ok (.aload_n 0, 1) := by decide +kernel
theorem dX11_best_57 : decode cX11_best 57 = .ok (.getfield 37, 3) := by decide +kernel
theorem dX11_best_60 : decode cX11_best 60 = .ok (.iload 5, 2) := by decide +kernel
theorem dX11_best_62 : decode cX11_best 62 = .ok (.invokevirtual 130, 3) := by decide +kernel
theorem dX11_best_65 : decode cX11_best 65 = .ok (.aload_n 0, 1) := by decide +kernel
theorem dX11_best_66 : decode cX11_best 66 = .ok (.getfield 37, 3) := by decide +kernel
theorem dX11_best_69 : decode cX11_best 69 = .ok (.getfield 140, 3) := by decide +kernel
theorem dX11_best_72 : decode cX11_best 72 = .ok (.iload_n 1, 1) := by decide +kernel
theorem dX11_best_73 : decode cX11_best 73 = .ok (.iaload, 1) := by decide +kernel
theorem dX11_best_74 : decode cX11_best 74 = .ok (.if_icmp .lt 33, 3) := by decide +kernel
theorem dX11_best_77 : decode cX11_best 77 = .ok (.aload_n 0, 1) := by decide +kernel
theorem dX11_best_78 : decode cX11_best 78 = .ok (.getfield 44, 3) := by decide +kernel
theorem dX11_best_81 : decode cX11_best 81 = .ok (.aload_n 0, 1) := by decide +kernel
theorem dX11_best_82 : decode cX11_best 82 = .ok (.getfield 37, 3) := by decide +kernel
theorem dX11_best_85 : decode cX11_best 85 = .ok (.iload_n 1, 1) := by decide +kernel
theorem dX11_best_86 : decode cX11_best 86 = .ok (.iload 5, 2) := by decide +kernel
theorem dX11_best_88 : decode cX11_best 88 = .ok (.invokevirtual 221, 3) := by decide +kernel
theorem dX11_best_91 : decode cX11_best 91 = .ok (.istore 6, 2) := by decide +kernel
theorem dX11_best_93 : decode cX11_best 93 = .ok (.iload 6, 2) := by decide +kernel
theorem dX11_best_95 : decode cX11_best 95 = .ok (.iload 4, 2) := by decide +kernel
theorem dX11_best_97 : decode cX11_best 97 = .ok (.if_icmp .le 10, 3) := by decide +kernel
theorem dX11_best_100 : decode cX11_best 100 = .ok (.iload 5, 2) := by decide +kernel
theorem dX11_best_102 : decode cX11_best 102 = .ok (.istore_n 3, 1) := by decide +kernel
theorem dX11_best_103 : decode cX11_best 103 = .ok (.iload 6, 2) := by decide +kernel
theorem dX11_best_105 : decode cX11_best 105 = .ok (.istore 4, 2) := by decide +kernel
theorem dX11_best_107 : decode cX11_best 107 = .ok (.iinc 5 1, 3) := by decide +kernel
theorem dX11_best_110 : decode cX11_best 110 = .ok (.goto (-80), 3) := by decide +kernel
theorem dX11_best_113 : decode cX11_best 113 = .ok (.iload_n 2, 1) := by decide +kernel
theorem dX11_best_114 : decode cX11_best 114 = .ok (.ifCond .ne 7, 3) := by decide +kernel
theorem dX11_best_117 : decode cX11_best 117 = .ok (.iload_n 3, 1) := by decide +kernel
theorem dX11_best_118 : decode cX11_best 118 = .ok (.goto 5, 3) := by decide +kernel
theorem dX11_best_121 : decode cX11_best 121 = .ok (.iload 4, 2) := by decide +kernel
theorem dX11_best_123 : decode cX11_best 123 = .ok (.ireturn, 1) := by decide +kernel
theorem dX11_fading_0 : decode cX11_fading 0 = .ok (.iload_n 1, 1) := by decide +kernel
theorem dX11_fading_1 : decode cX11_fading 1 = .ok (.invokestatic 201, 3) := by decide +kernel
theorem dX11_fading_4 : decode cX11_fading 4 = .ok (.ifCond .eq 38, 3) := by decide +kernel
theorem dX11_fading_7 : decode cX11_fading 7 = .ok (.aload_n 0, 1) := by decide +kernel
theorem dX11_fading_8 : decode cX11_fading 8 = .ok (.getfield 37, 3) := by decide +kernel
theorem dX11_fading_11 : decode cX11_fading 11 = .ok (.invokevirtual 224, 3) := by decide +kernel
theorem dX11_fading_14 : decode cX11_fading 14 = .ok (.aload_n 0, 1) := by decide +kernel
theorem dX11_fading_15 : decode cX11_fading 15 = .ok (.getfield 44, 3) := by decide +kernel
theorem dX11_fading_18 : decode cX11_fading 18 = .ok (.aload_n 0, 1) := by decide +kernel
theorem dX11_fading_19 : decode cX11_fading 19 = .ok (.getfield 37, 3) := by decide +kernel
theorem dX11_fading_22 : decode cX11_fading 22 = .ok (.iload_n 1, 1) := by decide +kernel
theorem dX11_fading_23 : decode cX11_fading 23 = .ok (.aload_n 0, 1) := by decide +kernel
theorem dX11_fading_24 : decode cX11_fading 24 = .ok (.getfield 19, 3) := by decide +kernel
theorem dX11_fading_27 : decode cX11_fading 27 = .ok (.getfield 176, 3) := by decide +kernel
theorem dX11_fading_30 : decode cX11_fading 30 = .ok (.invokevirtual 204, 3) := by decide +kernel
theorem dX11_fading_33 : decode cX11_fading 33 = .ok (.invokevirtual 224, 3) := by decide +kernel
theorem dX11_fading_36 : decode cX11_fading 36 = .ok (.iconst (-1), 1) := by decide +kernel
theorem dX11_fading_37 : decode cX11_fading 37 = .ok (.ixor, 1) := by decide +kernel
theorem dX11_fading_38 : decode cX11_fading 38 = .ok (.iand, 1) := by decide +kernel
theorem dX11_fading_39 : decode cX11_fading 39 = .ok (.goto 4, 3) := by decide +kernel
theorem dX11_fading_42 : decode cX11_fading 42 = .ok (.iconst (-1), 1) := by decide +kernel
theorem dX11_fading_43 : decode cX11_fading 43 = .ok (.ireturn, 1) := by decide +kernel
theorem dX11_ripe_0 : decode cX11_ripe 0 = .ok (.iconst 0, 1) := by decide +kernel
theorem dX11_ripe_1 : decode cX11_ripe 1 = .ok (.istore_n 1, 1) := by decide +kernel
theorem dX11_ripe_2 : decode cX11_ripe 2 = .ok (.iconst 0, 1) := by decide +kernel
theorem dX11_ripe_3 : decode cX11_ripe 3 = .ok (.istore_n 2, 1) := by decide +kernel
theorem dX11_ripe_4 : decode cX11_ripe 4 = .ok (.iload_n 2, 1) := by decide +kernel
theorem dX11_ripe_5 : decode cX11_ripe 5 = .ok (.aload_n 0, 1) := by decide +kernel
theorem dX11_ripe_6 : decode cX11_ripe 6 = .ok (.getfield 19, 3) := by decide +kernel
theorem dX11_ripe_9 : decode cX11_ripe 9 = .ok (.getfield 218, 3) := by decide +kernel
theorem dX11_ripe_12 : decode cX11_ripe 12 = .ok (.if_icmp .ge 30, 3) := by decide +kernel
theorem dX11_ripe_15 : decode cX11_ripe 15 = .ok (.aload_n 0, 1) := by decide +kernel
theorem dX11_ripe_16 : decode cX11_ripe 16 = .ok (.getfield 44, 3) := by decide +kernel
theorem dX11_ripe_19 : decode cX11_ripe 19 = .ok (.aload_n 0, 1) := by decide +kernel
theorem dX11_ripe_20 : decode cX11_ripe 20 = .ok (.getfield 37, 3) := by decide +kernel
theorem dX11_ripe_23 : decode cX11_ripe 23 = .ok (.iload_n 2, 1) := by decide +kernel
theorem dX11_ripe_24 : decode cX11_ripe 24 = .ok (.invokevirtual 227, 3) := by decide +kernel
theorem dX11_ripe_27 : decode cX11_ripe 27 = .ok (.ifCond .eq 9, 3) := by decide +kernel
theorem dX11_ripe_30 : decode cX11_ripe 30 = .ok (.iload_n 1, 1) := by decide +kernel
theorem dX11_ripe_31 : decode cX11_ripe 31 = .ok (.iconst 1, 1) := by decide +kernel
theorem dX11_ripe_32 : decode cX11_ripe 32 = .ok (.iload_n 2, 1) := by decide +kernel
theorem dX11_ripe_33 : decode cX11_ripe 33 = .ok (.ishl, 1) := by decide +kernel
theorem dX11_ripe_34 : decode cX11_ripe 34 = .ok (.ior, 1) := by decide +kernel
theorem dX11_ripe_35 : decode cX11_ripe 35 = .ok (.istore_n 1, 1) := by decide +kernel
theorem dX11_ripe_36 : decode cX11_ripe 36 = .ok (.iinc 2 1, 3) := by decide +kernel
theorem dX11_ripe_39 : decode cX11_ripe 39 = .ok (.goto (-35), 3) := by decide +kernel
theorem dX11_ripe_42 : decode cX11_ripe 42 = .ok (.iload_n 1, 1) := by decide +kernel
theorem dX11_ripe_43 : decode cX11_ripe 43 = .ok (.ireturn, 1) := by decide +kernel
theorem dX11_law_0 : decode cX11_law 0 = .ok (.iload_n 1, 1) := by decide +kernel
theorem dX11_law_1 : decode cX11_law 1 = .ok (.iconst 1, 1) := by decide +kernel
theorem dX11_law_2 : decode cX11_law 2 = .ok (.if_icmp .lt 16, 3) := by decide +kernel
theorem dX11_law_5 : decode cX11_law 5 = .ok (.iload_n 1, 1) := by decide +kernel
theorem dX11_law_6 : decode cX11_law 6 = .ok (.bipush 9, 2) := by decide +kernel
theorem dX11_law_8 : decode cX11_law 8 = .ok (.if_icmp .gt 10, 3) := by decide +kernel
theorem dX11_law_11 : decode cX11_law 11 = .ok (.iload_n 2, 1) := by decide +kernel
theorem dX11_law_12 : decode cX11_law 12 = .ok (.invokestatic 201, 3) := by decide +kernel
theorem dX11_law_15 : decode cX11_law 15 = .ok (.ifCond .ne 5, 3) := by decide +kernel
theorem dX11_law_18 : decode cX11_law 18 = .ok (.iconst (-1), 1) := by decide +kernel
theorem dX11_law_19 : decode cX11_law 19 = .ok (.ireturn, 1) := by decide +kernel
theorem dX11_law_20 : decode cX11_law 20 = .ok (.aload_n 0, 1) := by decide +kernel
theorem dX11_law_21 : decode cX11_law 21 = .ok (.getfield 44, 3) := by decide +kernel
theorem dX11_law_24 : decode cX11_law 24 = .ok (.aload_n 0, 1) := by decide +kernel
theorem dX11_law_25 : decode cX11_law 25 = .ok (.getfield 37, 3) := by decide +kernel
theorem dX11_law_28 : decode cX11_law 28 = .ok (.iload_n 2, 1) := by decide +kernel
theorem dX11_law_29 : decode cX11_law 29 = .ok (.iload_n 1, 1) := by decide +kernel
theorem dX11_law_30 : decode cX11_law 30 = .ok (.invokevirtual 204, 3) := by decide +kernel
theorem dX11_law_33 : decode cX11_law 33 = .ok (.invokevirtual 231, 3) := by decide +kernel
theorem dX11_law_36 : decode cX11_law 36 = .ok (.ireturn, 1) := by decide +kernel
theorem dX11_gone_0 : decode cX11_gone 0 = .ok (.aload_n 0, 1) := by decide +kernel
theorem dX11_gone_1 : decode cX11_gone 1 = .ok (.getfield 37, 3) := by decide +kernel
theorem dX11_gone_4 : decode cX11_gone 4 = .ok (.iload_n 1, 1) := by decide +kernel
theorem dX11_gone_5 : decode cX11_gone 5 = .ok (.invokevirtual 137, 3) := by decide +kernel
theorem dX11_gone_8 : decode cX11_gone 8 = .ok (.ifCond .eq 18, 3) := by decide +kernel
theorem dX11_gone_11 : decode cX11_gone 11 = .ok (.aload_n 0, 1) := by decide +kernel
theorem dX11_gone_12 : decode cX11_gone 12 = .ok (.getfield 44, 3) := by decide +kernel
theorem dX11_gone_15 : decode cX11_gone 15 = .ok (.aload_n 0, 1) := by decide +kernel
theorem dX11_gone_16 : decode cX11_gone 16 = .ok (.getfield 37, 3) := by decide +kernel
theorem dX11_gone_19 : decode cX11_gone 19 = .ok (.iload_n 1, 1) := by decide +kernel
theorem dX11_gone_20 : decode cX11_gone 20 = .ok (.invokevirtual 233, 3) := by decide +kernel
theorem dX11_gone_23 : decode cX11_gone 23 = .ok (.goto 4, 3) := by decide +kernel
theorem dX11_gone_26 : decode cX11_gone 26 = .ok (.iconst (-1), 1) := by decide +kernel
theorem dX11_gone_27 : decode cX11_gone 27 = .ok (.ireturn, 1) := by decide +kernel
theorem dX11_canLieAhead_0 : decode cX11_canLieAhead 0 = .ok (.iload_n 0, 1) := by decide +kernel
theorem dX11_canLieAhead_1 : decode cX11_canLieAhead 1 = .ok (.ifCond .lt 13, 3) := by decide +kernel
theorem dX11_canLieAhead_4 : decode cX11_canLieAhead 4 = .ok (.iload_n 0, 1) := by decide +kernel
theorem dX11_canLieAhead_5 : decode cX11_canLieAhead 5 = .ok (.bipush 30, 2) := by decide +kernel
theorem dX11_canLieAhead_7 : decode cX11_canLieAhead 7 = .ok (.if_icmp .gt 7, 3) := by decide +kernel
theorem dX11_canLieAhead_10 : decode cX11_canLieAhead 10 = .ok (.iconst 1, 1) := by decide +kernel
theorem dX11_canLieAhead_11 : decode cX11_canLieAhead 11 = .ok (.goto 4, 3) := by decide +kernel
theorem dX11_canLieAhead_14 : decode cX11_canLieAhead 14 = .ok (.iconst 0, 1) := by decide +kernel
theorem dX11_canLieAhead_15 : decode cX11_canLieAhead 15 = .ok (.ireturn, 1) := by decide +kernel
theorem dX11_pack_0 : decode cX11_pack 0 = .ok (.aload_n 0, 1) := by decide +kernel
theorem dX11_pack_1 : decode cX11_pack 1 = .ok (.getfield 65, 3) := by decide +kernel
theorem dX11_pack_4 : decode cX11_pack 4 = .ok (.aload_n 0, 1) := by decide +kernel
theorem dX11_pack_5 : decode cX11_pack 5 = .ok (.getfield 37, 3) := by decide +kernel
theorem dX11_pack_8 : decode cX11_pack 8 = .ok (.invokevirtual 237, 3) := by decide +kernel
theorem dX11_pack_11 : decode cX11_pack 11 = .ok (.istore_n 1, 1) := by decide +kernel
theorem dX11_pack_12 : decode cX11_pack 12 = .ok (.aload_n 0, 1) := by decide +kernel
theorem dX11_pack_13 : decode cX11_pack 13 = .ok (.iconst 0, 1) := by decide +kernel
theorem dX11_pack_14 : decode cX11_pack 14 = .ok (.putfield 80, 3) := by decide +kernel
theorem dX11_pack_17 : decode cX11_pack 17 = .ok (.iload_n 1, 1) := by decide +kernel
theorem dX11_pack_18 : decode cX11_pack 18 = .ok (.iconst (-1), 1) := by decide +kernel
theorem dX11_pack_19 : decode cX11_pack 19 = .ok (.if_icmp .eq 30, 3) := by decide +kernel
theorem dX11_pack_22 : decode cX11_pack 22 = .ok (.iconst 0, 1) := by decide +kernel
theorem dX11_pack_23 : decode cX11_pack 23 = .ok (.istore_n 2, 1) := by decide +kernel
theorem dX11_pack_24 : decode cX11_pack 24 = .ok (.iload_n 2, 1) := by decide +kernel
theorem dX11_pack_25 : decode cX11_pack 25 = .ok (.bipush 8, 2) := by decide +kernel
theorem dX11_pack_27 : decode cX11_pack 27 = .ok (.if_icmp .ge 22, 3) := by decide +kernel
theorem dX11_pack_30 : decode cX11_pack 30 = .ok (.aload_n 0, 1) := by decide +kernel
theorem dX11_pack_31 : decode cX11_pack 31 = .ok (.aload_n 0, 1) := by decide +kernel
theorem dX11_pack_32 : decode cX11_pack 32 = .ok (.getfield 65, 3) := by decide +kernel
theorem dX11_pack_35 : decode cX11_pack 35 = .ok (.getfield 241, 3) := by decide +kernel
theorem dX11_pack_38 : decode cX11_pack 38 = .ok (.iload_n 2, 1) := by decide +kernel
theorem dX11_pack_39 : decode cX11_pack 39 = .ok (.iaload, 1) := by decide +kernel
theorem dX11_pack_40 : decode cX11_pack 40 = .ok (.invokevirtual 244, 3) := by decide +kernel
theorem dX11_pack_43 : decode cX11_pack 43 = .ok (.iinc 2 1, 3) := by decide +kernel
theorem dX11_pack_46 : decode cX11_pack 46 = .ok (.goto (-22), 3) := by decide +kernel
theorem dX11_pack_49 : decode cX11_pack 49 = .ok (.iload_n 1, 1) := by decide +kernel
theorem dX11_pack_50 : decode cX11_pack 50 = .ok (.ireturn, 1) := by decide +kernel
theorem dX11_fill_0 : decode cX11_fill 0 = .ok (.aload_n 0, 1) := by decide +kernel
theorem dX11_fill_1 : decode cX11_fill 1 = .ok (.getfield 19, 3) := by decide +kernel
theorem dX11_fill_4 : decode cX11_fill 4 = .ok (.iload_n 1, 1) := by decide +kernel
theorem dX11_fill_5 : decode cX11_fill 5 = .ok (.invokevirtual 123, 3) := by decide +kernel
theorem dX11_fill_8 : decode cX11_fill 8 = .ok (.ifCond .eq 12, 3) := by decide +kernel
theorem dX11_fill_11 : decode cX11_fill 11 = .ok (.iload_n 2, 1) := by decide +kernel
theorem dX11_fill_12 : decode cX11_fill 12 = .ok (.ifCond .lt 8, 3) := by decide +kernel
theorem dX11_fill_15 : decode cX11_fill 15 = .ok (.iload_n 2, 1) := by decide +kernel
theorem dX11_fill_16 : decode cX11_fill 16 = .ok (.iconst 1, 1) := by decide +kernel
theorem dX11_fill_17 : decode cX11_fill 17 = .ok (.if_icmp .le 5, 3) := by decide +kernel
theorem dX11_fill_20 : decode cX11_fill 20 = .ok (.iconst (-1), 1) := by decide +kernel
theorem dX11_fill_21 : decode cX11_fill 21 = .ok (.ireturn, 1) := by decide +kernel
theorem dX11_fill_22 : decode cX11_fill 22 = .ok (.aload_n 0, 1) := by decide +kernel
theorem dX11_fill_23 : decode cX11_fill 23 = .ok (.getfield 65, 3) := by decide +kernel
theorem dX11_fill_26 : decode cX11_fill 26 = .ok (.aload_n 0, 1) := by decide +kernel
theorem dX11_fill_27 : decode cX11_fill 27 = .ok (.getfield 37, 3) := by decide +kernel
theorem dX11_fill_30 : decode cX11_fill 30 = .ok (.iload_n 1, 1) := by decide +kernel
theorem dX11_fill_31 : decode cX11_fill 31 = .ok (.invokevirtual 247, 3) := by decide +kernel
theorem dX11_fill_34 : decode cX11_fill 34 = .ok (.istore_n 3, 1) := by decide +kernel
theorem dX11_fill_35 : decode cX11_fill 35 = .ok (.iload_n 2, 1) := by decide +kernel
theorem dX11_fill_36 : decode cX11_fill 36 = .ok (.ifCond .ne 14, 3) := by decide +kernel
theorem dX11_fill_39 : decode cX11_fill 39 = .ok (.aload_n 0, 1) := by decide +kernel
theorem dX11_fill_40 : decode cX11_fill 40 = .ok (.getfield 37, 3) := by decide +kernel
theorem dX11_fill_43 : decode cX11_fill 43 = .ok (.iload_n 3, 1) := by decide +kernel
theorem dX11_fill_44 : decode cX11_fill 44 = .ok (.invokevirtual 250, 3) := by decide +kernel
theorem dX11_fill_47 : decode cX11_fill 47 = .ok (.goto 4, 3) := by decide +kernel
theorem dX11_fill_50 : decode cX11_fill 50 = .ok (.iload_n 3, 1) := by decide +kernel
theorem dX11_fill_51 : decode cX11_fill 51 = .ok (.ireturn, 1) := by decide +kernel
theorem dX11_rivals_0 : decode cX11_rivals 0 = .ok (.aload_n 0, 1) := by decide +kernel
theorem dX11_rivals_1 : decode cX11_rivals 1 = .ok (.iconst 0, 1) := by decide +kernel
theorem dX11_rivals_2 : decode cX11_rivals 2 = .ok (.putfield 80, 3) := by decide +kernel
theorem dX11_rivals_5 : decode cX11_rivals 5 = .ok (.iload_n 1, 1) := by decide +kernel
theorem dX11_rivals_6 : decode cX11_rivals 6 = .ok (.iload_n 2, 1) := by decide +kernel
theorem dX11_rivals_7 : decode cX11_rivals 7 = .ok (.if_icmp .eq 15, 3) := by decide +kernel
theorem dX11_rivals_10 : decode cX11_rivals 10 = .ok (.aload_n 0, 1) := by decide +kernel
theorem dX11_rivals_11 : decode cX11_rivals 11 = .ok (.getfield 37, 3) := by decide +kernel
theorem dX11_rivals_14 : decode cX11_rivals 14 = .ok (.iload_n 1, 1) := by decide +kernel
theorem dX11_rivals_15 : decode cX11_rivals 15 = .ok (.iload_n 2, 1) := by decide +kernel
theorem dX11_rivals_16 : decode cX11_rivals 16 = .ok (.invokevirtual 161, 3) := by decide +kernel
theorem dX11_rivals_19 : decode cX11_rivals 19 = .ok (.ifCond .ne 5, 3) := by decide +kernel
theorem dX11_rivals_22 : decode cX11_rivals 22 = .ok (.iconst (-1), 1) := by decide +kernel
theorem dX11_rivals_23 : decode cX11_rivals 23 = .ok (.ireturn, 1) := by decide +kernel
theorem dX11_rivals_24 : decode cX11_rivals 24 = .ok (.aload_n 0, 1) := by decide +kernel
theorem dX11_rivals_25 : decode cX11_rivals 25 = .ok (.getfield 65, 3) := by decide +kernel
theorem dX11_rivals_28 : decode cX11_rivals 28 = .ok (.aload_n 0, 1) := by decide +kernel
theorem dX11_rivals_29 : decode cX11_rivals 29 = .ok (.getfield 37, 3) := by decide +kernel
theorem dX11_rivals_32 : decode cX11_rivals 32 = .ok (.iload_n 1, 1) := by decide +kernel
theorem dX11_rivals_33 : decode cX11_rivals 33 = .ok (.iload_n 2, 1) := by decide +kernel
theorem dX11_rivals_34 : decode cX11_rivals 34 = .ok (.invokevirtual 253, 3) := by decide +kernel
theorem dX11_rivals_37 : decode cX11_rivals 37 = .ok (.istore_n 3, 1) := by decide +kernel
theorem dX11_rivals_38 : decode cX11_rivals 38 = .ok (.iload_n 3, 1) := by decide +kernel
theorem dX11_rivals_39 : decode cX11_rivals 39 = .ok (.ifCond .le 25, 3) := by decide +kernel
theorem dX11_rivals_42 : decode cX11_rivals 42 = .ok (.aload_n 0, 1) := by decide +kernel
theorem dX11_rivals_43 : decode cX11_rivals 43 = .ok (.aload_n 0, 1) := by decide +kernel
theorem dX11_rivals_44 : decode cX11_rivals 44 = .ok (.getfield 65, 3) := by decide +kernel
theorem dX11_rivals_47 : decode cX11_rivals 47 = .ok (.getfield 256, 3) := by decide +kernel
theorem dX11_rivals_50 : decode cX11_rivals 50 = .ok (.invokevirtual 244, 3) := by decide +kernel
theorem dX11_rivals_53 : decode cX11_rivals 53 = .ok (.aload_n 0, 1) := by decide +kernel
theorem dX11_rivals_54 : decode cX11_rivals 54 = .ok (.aload_n 0, 1) := by decide +kernel
theorem dX11_rivals_55 : decode cX11_rivals 55 = .ok (.getfield 65, 3) := by decide +kernel
theorem dX11_rivals_58 : decode cX11_rivals 58 = .ok (.getfield 259, 3) := by decide +kernel
theorem dX11_rivals_61 : decode cX11_rivals 61 = .ok (.invokevirtual 244, 3) := by decide +kernel
theorem dX11_rivals_64 : decode cX11_rivals 64 = .ok (.iload_n 3, 1) := by decide +kernel
theorem dX11_rivals_65 : decode cX11_rivals 65 = .ok (.ireturn, 1) := by decide +kernel
theorem dX11_roomiest_0 : decode cX11_roomiest 0 = .ok (.iconst (-1), 1) := by decide +kernel
theorem dX11_roomiest_1 : decode cX11_roomiest 1 = .ok (.istore_n 1, 1) := by decide +kernel
theorem dX11_roomiest_2 : decode cX11_roomiest 2 = .ok (.iconst (-1), 1) := by decide +kernel
theorem dX11_roomiest_3 : decode cX11_roomiest 3 = .ok (.istore_n 2, 1) := by decide +kernel
theorem dX11_roomiest_4 : decode cX11_roomiest 4 = .ok (.iconst 0, 1) := by decide +kernel
theorem dX11_roomiest_5 : decode cX11_roomiest 5 = .ok (.istore_n 3, 1) := by decide +kernel
theorem dX11_roomiest_6 : decode cX11_roomiest 6 = .ok (.iload_n 3, 1) := by decide +kernel
theorem dX11_roomiest_7 : decode cX11_roomiest 7 = .ok (.aload_n 0, 1) := by decide +kernel
theorem dX11_roomiest_8 : decode cX11_roomiest 8 = .ok (.getfield 19, 3) := by decide +kernel
theorem dX11_roomiest_11 : decode cX11_roomiest 11 = .ok (.getfield 218, 3) := by decide +kernel
theorem dX11_roomiest_14 : decode cX11_roomiest 14 = .ok (.if_icmp .ge 30, 3) := by decide +kernel
theorem dX11_roomiest_17 : decode cX11_roomiest 17 = .ok (.aload_n 0, 1) := by decide +kernel
theorem dX11_roomiest_18 : decode cX11_roomiest 18 = .ok (.getfield 37, 3) := by decide +kernel
theorem dX11_roomiest_21 : decode cX11_roomiest 21 = .ok (.iload_n 3, 1) := by decide +kernel
theorem dX11_roomiest_22 : decode cX11_roomiest 22 = .ok (.invokevirtual 130, 3) := by decide +kernel
theorem dX11_roomiest_25 : decode cX11_roomiest 25 = .ok (.istore 4, 2) := by decide +kernel
theorem dX11_roomiest_27 : decode cX11_roomiest 27 = .ok (.iload 4, 2) := by decide +kernel
theorem dX11_roomiest_29 : decode cX11_roomiest 29 = .ok (.iload_n 2, 1) := by decide +kernel
theorem dX11_roomiest_30 : decode cX11_roomiest 30 = .ok (.if_icmp .le 8, 3) := by decide +kernel
theorem dX11_roomiest_33 : decode cX11_roomiest 33 = .ok (.iload_n 3, 1) := by decide +kernel
theorem dX11_roomiest_34 : decode cX11_roomiest 34 = .ok (.istore_n 1, 1) := by decide +kernel
theorem dX11_roomiest_35 : decode cX11_roomiest 35 = .ok (.iload 4, 2) := by decide +kernel
theorem dX11_roomiest_37 : decode cX11_roomiest 37 = .ok (.istore_n 2, 1) := by decide +kernel
theorem dX11_roomiest_38 : decode cX11_roomiest 38 = .ok (.iinc 3 1, 3) := by decide +kernel
theorem dX11_roomiest_41 : decode cX11_roomiest 41 = .ok (.goto (-35), 3) := by decide +kernel
theorem dX11_roomiest_44 : decode cX11_roomiest 44 = .ok (.iload_n 1, 1) := by decide +kernel
theorem dX11_roomiest_45 : decode cX11_roomiest 45 = .ok (.ireturn, 1) := by decide +kernel
theorem dX11_lies_0 : decode cX11_lies 0 = .ok (.iload_n 1, 1) := by decide +kernel
theorem dX11_lies_1 : decode cX11_lies 1 = .ok (.ifCond .lt 26, 3) := by decide +kernel
theorem dX11_lies_4 : decode cX11_lies 4 = .ok (.iload_n 1, 1) := by decide +kernel
theorem dX11_lies_5 : decode cX11_lies 5 = .ok (.aload_n 0, 1) := by decide +kernel
theorem dX11_lies_6 : decode cX11_lies 6 = .ok (.getfield 80, 3) := by decide +kernel
theorem dX11_lies_9 : decode cX11_lies 9 = .ok (.if_icmp .ge 18, 3) := by decide +kernel
theorem dX11_lies_12 : decode cX11_lies 12 = .ok (.iload_n 1, 1) := by decide +kernel
theorem dX11_lies_13 : decode cX11_lies 13 = .ok (.bipush 8, 2) := by decide +kernel
theorem dX11_lies_15 : decode cX11_lies 15 = .ok (.if_icmp .ge 12, 3) := by decide +kernel
theorem dX11_lies_18 : decode cX11_lies 18 = .ok (.aload_n 0, 1) := by decide +kernel
theorem dX11_lies_19 : decode cX11_lies 19 = .ok (.getfield 76, 3) := by decide +kernel
theorem dX11_lies_22 : decode cX11_lies 22 = .ok (.iload_n 1, 1) := by decide +kernel
theorem dX11_lies_23 : decode cX11_lies 23 = .ok (.iaload, 1) := by decide +kernel
theorem dX11_lies_24 : decode cX11_lies 24 = .ok (.goto 5, 3) := by decide +kernel
theorem dX11_lies_27 : decode cX11_lies 27 = .ok (.bipush (-2), 2) := by decide +kernel
theorem dX11_lies_29 : decode cX11_lies 29 = .ok (.ireturn, 1) := by decide +kernel
theorem dX11_layDown_0 : decode cX11_layDown 0 = .ok (.aload_n 0, 1) := by decide +kernel
theorem dX11_layDown_1 : decode cX11_layDown 1 = .ok (.getfield 80, 3) := by decide +kernel
theorem dX11_layDown_4 : decode cX11_layDown 4 = .ok (.ifCond .lt 32, 3) := by decide +kernel
theorem dX11_layDown_7 : decode cX11_layDown 7 = .ok (.aload_n 0, 1) := by decide +kernel
theorem dX11_layDown_8 : decode cX11_layDown 8 = .ok (.getfield 80, 3) := by decide +kernel
theorem dX11_layDown_11 : decode cX11_layDown 11 = .ok (.bipush 8, 2) := by decide +kernel
theorem dX11_layDown_13 : decode cX11_layDown 13 = .ok (.if_icmp .ge 23, 3) := by decide +kernel
theorem dX11_layDown_16 : decode cX11_layDown 16 = .ok (.aload_n 0, 1) := by decide +kernel
theorem dX11_layDown_17 : decode cX11_layDown 17 = .ok (.getfield 76, 3) := by decide +kernel
theorem dX11_layDown_20 : decode cX11_layDown 20 = .ok (.aload_n 0, 1) := by decide +kernel
theorem dX11_layDown_21 : decode cX11_layDown 21 = .ok (.getfield 80, 3) := by decide +kernel
theorem dX11_layDown_24 : decode cX11_layDown 24 = .ok (.iload_n 1, 1) := by decide +kernel
theorem dX11_layDown_25 : decode cX11_layDown 25 = .ok (.iastore, 1) := by decide +kernel
theorem dX11_layDown_26 : decode cX11_layDown 26 = .ok (.aload_n 0, 1) := by decide +kernel
theorem dX11_layDown_27 : decode cX11_layDown 27 = .ok (.dup, 1) := by decide +kernel
theorem dX11_layDown_28 : decode cX11_layDown 28 = .ok (.getfield 80, 3) := by decide +kernel
theorem dX11_layDown_31 : decode cX11_layDown 31 = .ok (.iconst 1, 1) := by decide +kernel
theorem dX11_layDown_32 : decode cX11_layDown 32 = .ok (.iadd, 1) := by decide +kernel
theorem dX11_layDown_33 : decode cX11_layDown 33 = .ok (.putfield 80, 3) := by decide +kernel
theorem dX11_layDown_36 : decode cX11_layDown 36 = .ok (.return_, 1) := by decide +kernel
theorem dX11_sires_0 : decode cX11_sires 0 = .ok (.aload_n 0, 1) := by decide +kernel
theorem dX11_sires_1 : decode cX11_sires 1 = .ok (.getfield 37, 3) := by decide +kernel
theorem dX11_sires_4 : decode cX11_sires 4 = .ok (.iload_n 1, 1) := by decide +kernel
theorem dX11_sires_5 : decode cX11_sires 5 = .ok (.invokevirtual 137, 3) := by decide +kernel
theorem dX11_sires_8 : decode cX11_sires 8 = .ok (.ifCond .eq 12, 3) := by decide +kernel
theorem dX11_sires_11 : decode cX11_sires 11 = .ok (.iload_n 2, 1) := by decide +kernel
theorem dX11_sires_12 : decode cX11_sires 12 = .ok (.ifCond .lt 8, 3) := by decide +kernel
theorem dX11_sires_15 : decode cX11_sires 15 = .ok (.iload_n 2, 1) := by decide +kernel
theorem dX11_sires_16 : decode cX11_sires 16 = .ok (.iconst 2, 1) := by decide +kernel
theorem dX11_sires_17 : decode cX11_sires 17 = .ok (.if_icmp .le 5, 3) := by decide +kernel
theorem dX11_sires_20 : decode cX11_sires 20 = .ok (.iconst (-1), 1) := by decide +kernel
theorem dX11_sires_21 : decode cX11_sires 21 = .ok (.ireturn, 1) := by decide +kernel
theorem dX11_sires_22 : decode cX11_sires 22 = .ok (.aload_n 0, 1) := by decide +kernel
theorem dX11_sires_23 : decode cX11_sires 23 = .ok (.getfield 37, 3) := by decide +kernel
theorem dX11_sires_26 : decode cX11_sires 26 = .ok (.iload_n 1, 1) := by decide +kernel
theorem dX11_sires_27 : decode cX11_sires 27 = .ok (.invokestatic 262, 3) := by decide +kernel
theorem dX11_sires_30 : decode cX11_sires 30 = .ok (.istore_n 3, 1) := by decide +kernel
theorem dX11_sires_31 : decode cX11_sires 31 = .ok (.iload_n 3, 1) := by decide +kernel
theorem dX11_sires_32 : decode cX11_sires 32 = .ok (.iconst (-1), 1) := by decide +kernel
theorem dX11_sires_33 : decode cX11_sires 33 = .ok (.if_icmp .ne 5, 3) := by decide +kernel
theorem dX11_sires_36 : decode cX11_sires 36 = .ok (.iconst (-1), 1) := by decide +kernel
theorem dX11_sires_37 : decode cX11_sires 37 = .ok (.ireturn, 1) := by decide +kernel
theorem dX11_sires_38 : decode cX11_sires 38 = .ok (.iload_n 3, 1) := by decide +kernel
theorem dX11_sires_39 : decode cX11_sires 39 = .ok (.bipush 8, 2) := by decide +kernel
theorem dX11_sires_41 : decode cX11_sires 41 = .ok (.idiv, 1) := by decide +kernel
theorem dX11_sires_42 : decode cX11_sires 42 = .ok (.istore 4, 2) := by decide +kernel
theorem dX11_sires_44 : decode cX11_sires 44 = .ok (.iload_n 3, 1) := by decide +kernel
theorem dX11_sires_45 : decode cX11_sires 45 = .ok (.bipush 8, 2) := by decide +kernel
theorem dX11_sires_47 : decode cX11_sires 47 = .ok (.irem, 1) := by decide +kernel
theorem dX11_sires_48 : decode cX11_sires 48 = .ok (.istore 5, 2) := by decide +kernel
theorem dX11_sires_50 : decode cX11_sires 50 = .ok (.iload_n 2, 1) := by decide +kernel
theorem dX11_sires_51 : decode cX11_sires 51 = .ok (.iconst 2, 1) := by decide +kernel
theorem dX11_sires_52 : decode cX11_sires 52 = .ok (.if_icmp .ne 16, 3) := by decide +kernel
theorem dX11_sires_55 : decode cX11_sires 55 = .ok (.aload_n 0, 1) := by decide +kernel
theorem dX11_sires_56 : decode cX11_sires 56 = .ok (.getfield 37, 3) := by decide +kernel
theorem dX11_sires_59 : decode cX11_sires 59 = .ok (.iload_n 1, 1) := by decide +kernel
theorem dX11_sires_60 : decode cX11_sires 60 = .ok (.iload 4, 2) := by decide +kernel
theorem dX11_sires_62 : decode cX11_sires 62 = .ok (.iload 5, 2) := by decide +kernel
theorem dX11_sires_64 : decode cX11_sires 64 = .ok (.invokestatic 267, 3) := by decide +kernel
theorem dX11_sires_67 : decode cX11_sires 67 = .ok (.ireturn, 1) := by decide +kernel
theorem dX11_sires_68 : decode cX11_sires 68 = .ok (.iload_n 2, 1) := by decide +kernel
theorem dX11_sires_69 : decode cX11_sires 69 = .ok (.ifCond .ne 8, 3) := by decide +kernel
theorem dX11_sires_72 : decode cX11_sires 72 = .ok (.iload 4, 2) := by decide +kernel
theorem dX11_sires_74 : decode cX11_sires 74 = .ok (.goto 5, 3) := by decide +kernel
theorem dX11_sires_77 : decode cX11_sires 77 = .ok (.iload 5, 2) := by decide +kernel
theorem dX11_sires_79 : decode cX11_sires 79 = .ok (.ireturn, 1) := by decide +kernel
theorem dX11_quartet_0 : decode cX11_quartet 0 = .ok (.iload_n 1, 1) := by decide +kernel
theorem dX11_quartet_1 : decode cX11_quartet 1 = .ok (.iload_n 2, 1) := by decide +kernel
theorem dX11_quartet_2 : decode cX11_quartet 2 = .ok (.if_icmp .eq 35, 3) := by decide +kernel
theorem dX11_quartet_5 : decode cX11_quartet 5 = .ok (.iload_n 1, 1) := by decide +kernel
theorem dX11_quartet_6 : decode cX11_quartet 6 = .ok (.iload_n 3, 1) := by decide +kernel
theorem dX11_quartet_7 : decode cX11_quartet 7 = .ok (.if_icmp .eq 30, 3) := by decide +kernel
theorem dX11_quartet_10 : decode cX11_quartet 10 = .ok (.iload_n 1, 1) := by decide +kernel
theorem dX11_quartet_11 : decode cX11_quartet 11 = .ok (.iload 4, 2) := by decide +kernel
theorem dX11_quartet_13 : decode cX11_quartet 13 = .ok (.if_icmp .eq 24, 3) := by decide +kernel
theorem dX11_quartet_16 : decode cX11_quartet 16 = .ok (.iload_n 2, 1) := by decide +kernel
theorem dX11_quartet_17 : decode cX11_quartet 17 = .ok (.iload_n 3, 1) := by decide +kernel
theorem dX11_quartet_18 : decode cX11_quartet 18 = .ok (.if_icmp .eq 19, 3) := by decide +kernel
theorem dX11_quartet_21 : decode cX11_quartet 21 = .ok (.iload_n 2, 1) := by decide +kernel
theorem dX11_quartet_22 : decode cX11_quartet 22 = .ok (.iload 4, 2) := by decide +kernel
theorem dX11_quartet_24 : decode cX11_quartet 24 = .ok (.if_icmp .eq 13, 3) := by decide +kernel
theorem dX11_quartet_27 : decode cX11_quartet 27 = .ok (.iload_n 3, 1) := by decide +kernel
theorem dX11_quartet_28 : decode cX11_quartet 28 = .ok (.iload 4, 2) := by decide +kernel
theorem dX11_quartet_30 : decode cX11_quartet 30 = .ok (.if_icmp .eq 7, 3) := by decide +kernel
theorem dX11_quartet_33 : decode cX11_quartet 33 = .ok (.iconst 1, 1) := by decide +kernel
theorem dX11_quartet_34 : decode cX11_quartet 34 = .ok (.goto 4, 3) := by decide +kernel
theorem dX11_quartet_37 : decode cX11_quartet 37 = .ok (.iconst 0, 1) := by decide +kernel
theorem dX11_quartet_38 : decode cX11_quartet 38 = .ok (.istore 6, 2) := by decide +kernel
theorem dX11_quartet_40 : decode cX11_quartet 40 = .ok (.iload 6, 2) := by decide +kernel
theorem dX11_quartet_42 : decode cX11_quartet 42 = .ok (.ifCond .eq 39, 3) := by decide +kernel
theorem dX11_quartet_45 : decode cX11_quartet 45 = .ok (.aload_n 0, 1) := by decide +kernel
theorem dX11_quartet_46 : decode cX11_quartet 46 = .ok (.getfield 37, 3) := by decide +kernel
theorem dX11_quartet_49 : decode cX11_quartet 49 = .ok (.iload_n 1, 1) := by decide +kernel
theorem dX11_quartet_50 : decode cX11_quartet 50 = .ok (.iload_n 2, 1) := by decide +kernel
theorem dX11_quartet_51 : decode cX11_quartet 51 = .ok (.invokevirtual 161, 3) := by decide +kernel
theorem dX11_quartet_54 : decode cX11_quartet 54 = .ok (.ifCond .eq 27, 3) := by decide +kernel
theorem dX11_quartet_57 : decode cX11_quartet 57 = .ok (.aload_n 0, 1) := by decide +kernel
theorem dX11_quartet_58 : decode cX11_quartet 58 = .ok (.getfield 37, 3) := by decide +kernel
theorem dX11_quartet_61 : decode cX11_quartet 61 = .ok (.iload_n 3, 1) := by decide +kernel
theorem dX11_quartet_62 : decode cX11_quartet 62 = .ok (.iload 4, 2) := by decide +kernel
theorem dX11_quartet_64 : decode cX11_quartet 64 = .ok (.invokevirtual 161, 3) := by decide +kernel
theorem dX11_quartet_67 : decode cX11_quartet 67 = .ok (.ifCond .eq 14, 3) := by decide +kernel
theorem dX11_quartet_70 : decode cX11_quartet 70 = .ok (.iload 5, 2) := by decide +kernel
theorem dX11_quartet_72 : decode cX11_quartet 72 = .ok (.ifCond .lt 9, 3) := by decide +kernel
theorem dX11_quartet_75 : decode cX11_quartet 75 = .ok (.iload 5, 2) := by decide +kernel
theorem dX11_quartet_77 : decode cX11_quartet 77 = .ok (.iconst 1, 1) := by decide +kernel
theorem dX11_quartet_78 : decode cX11_quartet 78 = .ok (.if_icmp .le 5, 3) := by decide +kernel
theorem dX11_quartet_81 : decode cX11_quartet 81 = .ok (.iconst (-1), 1) := by decide +kernel
theorem dX11_quartet_82 : decode cX11_quartet 82 = .ok (.ireturn, 1) := by decide +kernel
theorem dX11_quartet_83 : decode cX11_quartet 83 = .ok (.iconst 0, 1) := by decide +kernel
theorem dX11_quartet_84 : decode cX11_quartet 84 = .ok (.istore 7, 2) := by decide +kernel
theorem dX11_quartet_86 : decode cX11_quartet 86 = .ok (.aload_n 0, 1) := by decide +kernel
theorem dX11_quartet_87 : decode cX11_quartet 87 = .ok (.getfield 37, 3) := by decide +kernel
theorem dX11_quartet_90 : decode cX11_quartet 90 = .ok (.iload_n 1, 1) := by decide +kernel
theorem dX11_quartet_91 : decode cX11_quartet 91 = .ok (.iload_n 2, 1) := by decide +kernel
theorem dX11_quartet_92 : decode cX11_quartet 92 = .ok (.iload_n 3, 1) := by decide +kernel
theorem dX11_quartet_93 : decode cX11_quartet 93 = .ok (.iload 4, 2) := by decide +kernel
theorem dX11_quartet_95 : decode cX11_quartet 95 = .ok (.invokestatic 271, 3) := by decide +kernel
theorem dX11_quartet_98 : decode cX11_quartet 98 = .ok (.istore 8, 2) := by decide +kernel
theorem dX11_quartet_100 : decode cX11_quartet 100 = .ok (.aload_n 0, 1) := by decide +kernel
theorem dX11_quartet_101 : decode cX11_quartet 101 = .ok (.getfield 37, 3) := by decide +kernel
theorem dX11_quartet_104 : decode cX11_quartet 104 = .ok (.iload_n 1, 1) := by decide +kernel
theorem dX11_quartet_105 : decode cX11_quartet 105 = .ok (.iload_n 3, 1) := by decide +kernel
theorem dX11_quartet_106 : decode cX11_quartet 106 = .ok (.iload_n 2, 1) := by decide +kernel
theorem dX11_quartet_107 : decode cX11_quartet 107 = .ok (.iload 4, 2) := by decide +kernel
theorem dX11_quartet_109 : decode cX11_quartet 109 = .ok (.invokestatic 271, 3) := by decide +kernel
theorem dX11_quartet_112 : decode cX11_quartet 112 = .ok (.istore 9, 2) := by decide +kernel
theorem dX11_quartet_114 : decode cX11_quartet 114 = .ok (.iload 9, 2) := by decide +kernel
theorem dX11_quartet_116 : decode cX11_quartet 116 = .ok (.iload 8, 2) := by decide +kernel
theorem dX11_quartet_118 : decode cX11_quartet 118 = .ok (.if_icmp .ge 10, 3) := by decide +kernel
theorem dX11_quartet_121 : decode cX11_quartet 121 = .ok (.iconst 1, 1) := by decide +kernel
theorem dX11_quartet_122 : decode cX11_quartet 122 = .ok (.istore 7, 2) := by decide +kernel
theorem dX11_quartet_124 : decode cX11_quartet 124 = .ok (.iload 9, 2) := by decide +kernel
theorem dX11_quartet_126 : decode cX11_quartet 126 = .ok (.istore 8, 2) := by decide +kernel
theorem dX11_quartet_128 : decode cX11_quartet 128 = .ok (.aload_n 0, 1) := by decide +kernel
theorem dX11_quartet_129 : decode cX11_quartet 129 = .ok (.getfield 37, 3) := by decide +kernel
theorem dX11_quartet_132 : decode cX11_quartet 132 = .ok (.iload_n 1, 1) := by decide +kernel
theorem dX11_quartet_133 : decode cX11_quartet 133 = .ok (.iload 4, 2) := by decide +kernel
theorem dX11_quartet_135 : decode cX11_quartet 135 = .ok (.iload_n 2, 1) := by decide +kernel
theorem dX11_quartet_136 : decode cX11_quartet 136 = .ok (.iload_n 3, 1) := by decide +kernel
theorem dX11_quartet_137 : decode cX11_quartet 137 = .ok (.invokestatic 271, 3) := by decide +kernel
theorem dX11_quartet_140 : decode cX11_quartet 140 = .ok (.istore 10, 2) := by decide +kernel
theorem dX11_quartet_142 : decode cX11_quartet 142 = .ok (.iload 10, 2) := by decide +kernel
theorem dX11_quartet_144 : decode cX11_quartet 144 = .ok (.iload 8, 2) := by decide +kernel
theorem dX11_quartet_146 : decode cX11_quartet 146 = .ok (.if_icmp .ge 10, 3) := by decide +kernel
theorem dX11_quartet_149 : decode cX11_quartet 149 = .ok (.iconst 2, 1) := by decide +kernel
theorem dX11_quartet_150 : decode cX11_quartet 150 = .ok (.istore 7, 2) := by decide +kernel
theorem dX11_quartet_152 : decode cX11_quartet 152 = .ok (.iload 10, 2) := by decide +kernel
theorem dX11_quartet_154 : decode cX11_quartet 154 = .ok (.istore 8, 2) := by decide +kernel
theorem dX11_quartet_156 : decode cX11_quartet 156 = .ok (.iload 5, 2) := by decide +kernel
theorem dX11_quartet_158 : decode cX11_quartet 158 = .ok (.ifCond .ne 8, 3) := by decide +kernel
theorem dX11_quartet_161 : decode cX11_quartet 161 = .ok (.iload 7, 2) := by decide +kernel
theorem dX11_quartet_163 : decode cX11_quartet 163 = .ok (.goto 5, 3) := by decide +kernel
theorem dX11_quartet_166 : decode cX11_quartet 166 = .ok (.iload 8, 2) := by decide +kernel
theorem dX11_quartet_168 : decode cX11_quartet 168 = .ok (.ireturn, 1) := by decide +kernel
theorem dX11_span_0 : decode cX11_span 0 = .ok (.aload_n 0, 1) := by decide +kernel
theorem dX11_span_1 : decode cX11_span 1 = .ok (.getfield 37, 3) := by decide +kernel
theorem dX11_span_4 : decode cX11_span 4 = .ok (.invokestatic 275, 3) := by decide +kernel
theorem dX11_span_7 : decode cX11_span 7 = .ok (.ireturn, 1) := by decide +kernel
theorem dX11_line_0 : decode cX11_line 0 = .ok (.aload_n 0, 1) := by decide +kernel
theorem dX11_line_1 : decode cX11_line 1 = .ok (.getfield 37, 3) := by decide +kernel
theorem dX11_line_4 : decode cX11_line 4 = .ok (.iload_n 1, 1) := by decide +kernel
theorem dX11_line_5 : decode cX11_line 5 = .ok (.invokevirtual 137, 3) := by decide +kernel
theorem dX11_line_8 : decode cX11_line 8 = .ok (.ifCond .eq 14, 3) := by decide +kernel
theorem dX11_line_11 : decode cX11_line 11 = .ok (.aload_n 0, 1) := by decide +kernel
theorem dX11_line_12 : decode cX11_line 12 = .ok (.getfield 37, 3) := by decide +kernel
theorem dX11_line_15 : decode cX11_line 15 = .ok (.iload_n 1, 1) := by decide +kernel
theorem dX11_line_16 : decode cX11_line 16 = .ok (.invokestatic 278, 3) := by decide +kernel
theorem dX11_line_19 : decode cX11_line 19 = .ok (.goto 4, 3) := by decide +kernel
theorem dX11_line_22 : decode cX11_line 22 = .ok (.iconst (-1), 1) := by decide +kernel
theorem dX11_line_23 : decode cX11_line 23 = .ok (.ireturn, 1) := by decide +kernel
theorem dX11_litter_0 : decode cX11_litter 0 = .ok (.aload_n 0, 1) := by decide +kernel
theorem dX11_litter_1 : decode cX11_litter 1 = .ok (.getfield 37, 3) := by decide +kernel
theorem dX11_litter_4 : decode cX11_litter 4 = .ok (.iload_n 1, 1) := by decide +kernel
theorem dX11_litter_5 : decode cX11_litter 5 = .ok (.invokevirtual 137, 3) := by decide +kernel
theorem dX11_litter_8 : decode cX11_litter 8 = .ok (.ifCond .ne 5, 3) := by decide +kernel
theorem dX11_litter_11 : decode cX11_litter 11 = .ok (.iconst (-1), 1) := by decide +kernel
theorem dX11_litter_12 : decode cX11_litter 12 = .ok (.ireturn, 1) := by decide +kernel
theorem dX11_litter_13 : decode cX11_litter 13 = .ok (.iconst 0, 1) := by decide +kernel
theorem dX11_litter_14 : decode cX11_litter 14 = .ok (.istore_n 2, 1) := by decide +kernel
theorem dX11_litter_15 : decode cX11_litter 15 = .ok (.iconst 0, 1) := by decide +kernel
theorem dX11_litter_16 : decode cX11_litter 16 = .ok (.istore_n 3, 1) := by decide +kernel
theorem dX11_litter_17 : decode cX11_litter 17 = .ok (.iload_n 3, 1) := by decide +kernel
theorem dX11_litter_18 : decode cX11_litter 18 = .ok (.bipush 8, 2) := by decide +kernel
theorem dX11_litter_20 : decode cX11_litter 20 = .ok (.if_icmp .ge 41, 3) := by decide +kernel
theorem dX11_litter_23 : decode cX11_litter 23 = .ok (.aload_n 0, 1) := by decide +kernel
theorem dX11_litter_24 : decode cX11_litter 24 = .ok (.getfield 37, 3) := by decide +kernel
theorem dX11_litter_27 : decode cX11_litter 27 = .ok (.getfield 155, 3) := by decide +kernel
theorem dX11_litter_30 : decode cX11_litter 30 = .ok (.iload_n 3, 1) := by decide +kernel
theorem dX11_litter_31 : decode cX11_litter 31 = .ok (.iaload, 1) := by decide +kernel
theorem dX11_litter_32 : decode cX11_litter 32 = .ok (.iload_n 1, 1) := by decide +kernel
theorem dX11_litter_33 : decode cX11_litter 33 = .ok (.if_icmp .eq 16, 3) := by decide +kernel
theorem dX11_litter_36 : decode cX11_litter 36 = .ok (.aload_n 0, 1) := by decide +kernel
theorem dX11_litter_37 : decode cX11_litter 37 = .ok (.getfield 37, 3) := by decide +kernel
theorem dX11_litter_40 : decode cX11_litter 40 = .ok (.getfield 158, 3) := by decide +kernel
theorem dX11_litter_43 : decode cX11_litter 43 = .ok (.iload_n 3, 1) := by decide +kernel
theorem dX11_litter_44 : decode cX11_litter 44 = .ok (.iaload, 1) := by decide +kernel
theorem dX11_litter_45 : decode cX11_litter 45 = .ok (.iload_n 1, 1) := by decide +kernel
theorem dX11_litter_46 : decode cX11_litter 46 = .ok (.if_icmp .ne 9, 3) := by decide +kernel
theorem dX11_litter_49 : decode cX11_litter 49 = .ok (.iload_n 2, 1) := by decide +kernel
theorem dX11_litter_50 : decode cX11_litter 50 = .ok (.iconst 1, 1) := by decide +kernel
theorem dX11_litter_51 : decode cX11_litter 51 = .ok (.iload_n 3, 1) := by decide +kernel
theorem dX11_litter_52 : decode cX11_litter 52 = .ok (.ishl, 1) := by decide +kernel
theorem dX11_litter_53 : decode cX11_litter 53 = .ok (.ior, 1) := by decide +kernel
theorem dX11_litter_54 : decode cX11_litter 54 = .ok (.istore_n 2, 1) := by decide +kernel
theorem dX11_litter_55 : decode cX11_litter 55 = .ok (.iinc 3 1, 3) := by decide +kernel
theorem dX11_litter_58 : decode cX11_litter 58 = .ok (.goto (-41), 3) := by decide +kernel
theorem dX11_litter_61 : decode cX11_litter 61 = .ok (.iload_n 2, 1) := by decide +kernel
theorem dX11_litter_62 : decode cX11_litter 62 = .ok (.ireturn, 1) := by decide +kernel
theorem dX11_kin_0 : decode cX11_kin 0 = .ok (.aload_n 0, 1) := by decide +kernel
theorem dX11_kin_1 : decode cX11_kin 1 = .ok (.getfield 37, 3) := by decide +kernel
theorem dX11_kin_4 : decode cX11_kin 4 = .ok (.iload_n 1, 1) := by decide +kernel
theorem dX11_kin_5 : decode cX11_kin 5 = .ok (.iload_n 2, 1) := by decide +kernel
theorem dX11_kin_6 : decode cX11_kin 6 = .ok (.invokevirtual 161, 3) := by decide +kernel
theorem dX11_kin_9 : decode cX11_kin 9 = .ok (.ifCond .eq 15, 3) := by decide +kernel
theorem dX11_kin_12 : decode cX11_kin 12 = .ok (.aload_n 0, 1) := by decide +kernel
theorem dX11_kin_13 : decode cX11_kin 13 = .ok (.getfield 37, 3) := by decide +kernel
theorem dX11_kin_16 : decode cX11_kin 16 = .ok (.iload_n 1, 1) := by decide +kernel
theorem dX11_kin_17 : decode cX11_kin 17 = .ok (.iload_n 2, 1) := by decide +kernel
theorem dX11_kin_18 : decode cX11_kin 18 = .ok (.invokestatic 281, 3) := by decide +kernel
theorem dX11_kin_21 : decode cX11_kin 21 = .ok (.goto 4, 3) := by decide +kernel
theorem dX11_kin_24 : decode cX11_kin 24 = .ok (.iconst (-1), 1) := by decide +kernel
theorem dX11_kin_25 : decode cX11_kin 25 = .ok (.ireturn, 1) := by decide +kernel
theorem dX11_alike_0 : decode cX11_alike 0 = .ok (.aload_n 0, 1) := by decide +kernel
theorem dX11_alike_1 : decode cX11_alike 1 = .ok (.getfield 37, 3) := by decide +kernel
theorem dX11_alike_4 : decode cX11_alike 4 = .ok (.iload_n 1, 1) := by decide +kernel
theorem dX11_alike_5 : decode cX11_alike 5 = .ok (.iload_n 2, 1) := by decide +kernel
theorem dX11_alike_6 : decode cX11_alike 6 = .ok (.invokevirtual 161, 3) := by decide +kernel
theorem dX11_alike_9 : decode cX11_alike 9 = .ok (.ifCond .eq 15, 3) := by decide +kernel
theorem dX11_alike_12 : decode cX11_alike 12 = .ok (.aload_n 0, 1) := by decide +kernel
theorem dX11_alike_13 : decode cX11_alike 13 = .ok (.getfield 37, 3) := by decide +kernel
theorem dX11_alike_16 : decode cX11_alike 16 = .ok (.iload_n 1, 1) := by decide +kernel
theorem dX11_alike_17 : decode cX11_alike 17 = .ok (.iload_n 2, 1) := by decide +kernel
theorem dX11_alike_18 : decode cX11_alike 18 = .ok (.invokevirtual 284, 3) := by decide +kernel
theorem dX11_alike_21 : decode cX11_alike 21 = .ok (.goto 4, 3) := by decide +kernel
theorem dX11_alike_24 : decode cX11_alike 24 = .ok (.iconst (-1), 1) := by decide +kernel
theorem dX11_alike_25 : decode cX11_alike 25 = .ok (.ireturn, 1) := by decide +kernel
theorem dX11_like_0 : decode cX11_like 0 = .ok (.aload_n 0, 1) := by decide +kernel
theorem dX11_like_1 : decode cX11_like 1 = .ok (.getfield 37, 3) := by decide +kernel
theorem dX11_like_4 : decode cX11_like 4 = .ok (.iload_n 1, 1) := by decide +kernel
theorem dX11_like_5 : decode cX11_like 5 = .ok (.invokevirtual 137, 3) := by decide +kernel
theorem dX11_like_8 : decode cX11_like 8 = .ok (.ifCond .eq 14, 3) := by decide +kernel
theorem dX11_like_11 : decode cX11_like 11 = .ok (.aload_n 0, 1) := by decide +kernel
theorem dX11_like_12 : decode cX11_like 12 = .ok (.getfield 37, 3) := by decide +kernel
theorem dX11_like_15 : decode cX11_like 15 = .ok (.iload_n 1, 1) := by decide +kernel
theorem dX11_like_16 : decode cX11_like 16 = .ok (.invokestatic 287, 3) := by decide +kernel
theorem dX11_like_19 : decode cX11_like 19 = .ok (.goto 4, 3) := by decide +kernel
theorem dX11_like_22 : decode cX11_like 22 = .ok (.iconst (-1), 1) := by decide +kernel
theorem dX11_like_23 : decode cX11_like 23 = .ok (.ireturn, 1) := by decide +kernel
theorem dX11_odd_0 : decode cX11_odd 0 = .ok (.aload_n 0, 1) := by decide +kernel
theorem dX11_odd_1 : decode cX11_odd 1 = .ok (.getfield 37, 3) := by decide +kernel
theorem dX11_odd_4 : decode cX11_odd 4 = .ok (.invokestatic 290, 3) := by decide +kernel
theorem dX11_odd_7 : decode cX11_odd 7 = .ok (.ireturn, 1) := by decide +kernel
theorem dX11_bearers_0 : decode cX11_bearers 0 = .ok (.iload_n 1, 1) := by decide +kernel
theorem dX11_bearers_1 : decode cX11_bearers 1 = .ok (.ifCond .lt 20, 3) := by decide +kernel
theorem dX11_bearers_4 : decode cX11_bearers 4 = .ok (.iload_n 1, 1) := by decide +kernel
theorem dX11_bearers_5 : decode cX11_bearers 5 = .ok (.bipush 6, 2) := by decide +kernel
theorem dX11_bearers_7 : decode cX11_bearers 7 = .ok (.if_icmp .ge 14, 3) := by decide +kernel
theorem dX11_bearers_10 : decode cX11_bearers 10 = .ok (.aload_n 0, 1) := by decide +kernel
theorem dX11_bearers_11 : decode cX11_bearers 11 = .ok (.getfield 37, 3) := by decide +kernel
theorem dX11_bearers_14 : decode cX11_bearers 14 = .ok (.iload_n 1, 1) := by decide +kernel
theorem dX11_bearers_15 : decode cX11_bearers 15 = .ok (.invokestatic 293, 3) := by decide +kernel
theorem dX11_bearers_18 : decode cX11_bearers 18 = .ok (.goto 4, 3) := by decide +kernel
theorem dX11_bearers_21 : decode cX11_bearers 21 = .ok (.iconst (-1), 1) := by decide +kernel
theorem dX11_bearers_22 : decode cX11_bearers 22 = .ok (.ireturn, 1) := by decide +kernel
theorem dX11_pining_0 : decode cX11_pining 0 = .ok (.iconst 0, 1) := by decide +kernel
theorem dX11_pining_1 : decode cX11_pining 1 = .ok (.istore_n 1, 1) := by decide +kernel
theorem dX11_pining_2 : decode cX11_pining 2 = .ok (.iconst 0, 1) := by decide +kernel
theorem dX11_pining_3 : decode cX11_pining 3 = .ok (.istore_n 2, 1) := by decide +kernel
theorem dX11_pining_4 : decode cX11_pining 4 = .ok (.iload_n 2, 1) := by decide +kernel
theorem dX11_pining_5 : decode cX11_pining 5 = .ok (.bipush 8, 2) := by decide +kernel
theorem dX11_pining_7 : decode cX11_pining 7 = .ok (.if_icmp .ge 27, 3) := by decide +kernel
theorem dX11_pining_10 : decode cX11_pining 10 = .ok (.aload_n 0, 1) := by decide +kernel
theorem dX11_pining_11 : decode cX11_pining 11 = .ok (.getfield 37, 3) := by decide +kernel
theorem dX11_pining_14 : decode cX11_pining 14 = .ok (.getfield 152, 3) := by decide +kernel
theorem dX11_pining_17 : decode cX11_pining 17 = .ok (.iload_n 2, 1) := by decide +kernel
theorem dX11_pining_18 : decode cX11_pining 18 = .ok (.iaload, 1) := by decide +kernel
theorem dX11_pining_19 : decode cX11_pining 19 = .ok (.ifCond .le 9, 3) := by decide +kernel
theorem dX11_pining_22 : decode cX11_pining 22 = .ok (.iload_n 1, 1) := by decide +kernel
theorem dX11_pining_23 : decode cX11_pining 23 = .ok (.iconst 1, 1) := by decide +kernel
theorem dX11_pining_24 : decode cX11_pining 24 = .ok (.iload_n 2, 1) := by decide +kernel
theorem dX11_pining_25 : decode cX11_pining 25 = .ok (.ishl, 1) := by decide +kernel
theorem dX11_pining_26 : decode cX11_pining 26 = .ok (.ior, 1) := by decide +kernel
theorem dX11_pining_27 : decode cX11_pining 27 = .ok (.istore_n 1, 1) := by decide +kernel
theorem dX11_pining_28 : decode cX11_pining 28 = .ok (.iinc 2 1, 3) := by decide +kernel
theorem dX11_pining_31 : decode cX11_pining 31 = .ok (.goto (-27), 3) := by decide +kernel
theorem dX11_pining_34 : decode cX11_pining 34 = .ok (.iload_n 1, 1) := by decide +kernel
theorem dX11_pining_35 : decode cX11_pining 35 = .ok (.ireturn, 1) := by decide +kernel
theorem dX11_held_0 : decode cX11_held 0 = .ok (.iload_n 1, 1) := by decide +kernel
theorem dX11_held_1 : decode cX11_held 1 = .ok (.ifCond .lt 26, 3) := by decide +kernel
theorem dX11_held_4 : decode cX11_held 4 = .ok (.iload_n 1, 1) := by decide +kernel
theorem dX11_held_5 : decode cX11_held 5 = .ok (.aload_n 0, 1) := by decide +kernel
theorem dX11_held_6 : decode cX11_held 6 = .ok (.getfield 19, 3) := by decide +kernel
theorem dX11_held_9 : decode cX11_held 9 = .ok (.getfield 114, 3) := by decide +kernel
theorem dX11_held_12 : decode cX11_held 12 = .ok (.iconst 1, 1) := by decide +kernel
theorem dX11_held_13 : decode cX11_held 13 = .ok (.isub, 1) := by decide +kernel
theorem dX11_held_14 : decode cX11_held 14 = .ok (.if_icmp .ge 13, 3) := by decide +kernel
theorem dX11_held_17 : decode cX11_held 17 = .ok (.iload_n 2, 1) := by decide +kernel
theorem dX11_held_18 : decode cX11_held 18 = .ok (.ifCond .lt 9, 3) := by decide +kernel
theorem dX11_held_21 : decode cX11_held 21 = .ok (.iload_n 2, 1) := by decide +kernel
theorem dX11_held_22 : decode cX11_held 22 = .ok (.bipush 6, 2) := by decide +kernel
theorem dX11_held_24 : decode cX11_held 24 = .ok (.if_icmp .le 5, 3) := by decide +kernel
theorem dX11_held_27 : decode cX11_held 27 = .ok (.iconst (-1), 1) := by decide +kernel
theorem dX11_held_28 : decode cX11_held 28 = .ok (.ireturn, 1) := by decide +kernel
theorem dX11_held_29 : decode cX11_held 29 = .ok (.aload_n 0, 1) := by decide +kernel
theorem dX11_held_30 : decode cX11_held 30 = .ok (.getfield 72, 3) := by decide +kernel
theorem dX11_held_33 : decode cX11_held 33 = .ok (.iload_n 1, 1) := by decide +kernel
theorem dX11_held_34 : decode cX11_held 34 = .ok (.iload_n 2, 1) := by decide +kernel
theorem dX11_held_35 : decode cX11_held 35 = .ok (.iload_n 3, 1) := by decide +kernel
theorem dX11_held_36 : decode cX11_held 36 = .ok (.invokevirtual 296, 3) := by decide +kernel
theorem dX11_held_39 : decode cX11_held 39 = .ok (.ireturn, 1) := by decide +kernel
theorem dX11_untell_0 : decode cX11_untell 0 = .ok (.aload_n 0, 1) := by decide +kernel
theorem dX11_untell_1 : decode cX11_untell 1 = .ok (.getfield 72, 3) := by decide +kernel
theorem dX11_untell_4 : decode cX11_untell 4 = .ok (.iload_n 1, 1) := by decide +kernel
theorem dX11_untell_5 : decode cX11_untell 5 = .ok (.invokevirtual 300, 3) := by decide +kernel
theorem dX11_untell_8 : decode cX11_untell 8 = .ok (.ireturn, 1) := by decide +kernel
theorem dX11_later_0 : decode cX11_later 0 = .ok (.iload_n 1, 1) := by decide +kernel
theorem dX11_later_1 : decode cX11_later 1 = .ok (.ifCond .lt 25, 3) := by decide +kernel
theorem dX11_later_4 : decode cX11_later 4 = .ok (.iload_n 1, 1) := by decide +kernel
theorem dX11_later_5 : decode cX11_later 5 = .ok (.sipush 1000, 3) := by decide +kernel
theorem dX11_later_8 : decode cX11_later 8 = .ok (.if_icmp .gt 18, 3) := by decide +kernel
theorem dX11_later_11 : decode cX11_later 11 = .ok (.aload_n 0, 1) := by decide +kernel
theorem dX11_later_12 : decode cX11_later 12 = .ok (.getfield 72, 3) := by decide +kernel
theorem dX11_later_15 : decode cX11_later 15 = .ok (.getfield 303, 3) := by decide +kernel
theorem dX11_later_18 : decode cX11_later 18 = .ok (.ldc_w 306, 3) := by decide +kernel
theorem dX11_later_21 : decode cX11_later 21 = .ok (.iload_n 1, 1) := by decide +kernel
theorem dX11_later_22 : decode cX11_later 22 = .ok (.isub, 1) := by decide +kernel
theorem dX11_later_23 : decode cX11_later 23 = .ok (.if_icmp .le 5, 3) := by decide +kernel
theorem dX11_later_26 : decode cX11_later 26 = .ok (.iconst (-1), 1) := by decide +kernel
theorem dX11_later_27 : decode cX11_later 27 = .ok (.ireturn, 1) := by decide +kernel
theorem dX11_later_28 : decode cX11_later 28 = .ok (.aload_n 0, 1) := by decide +kernel
theorem dX11_later_29 : decode cX11_later 29 = .ok (.getfield 72, 3) := by decide +kernel
theorem dX11_later_32 : decode cX11_later 32 = .ok (.dup, 1) := by decide +kernel
theorem dX11_later_33 : decode cX11_later 33 = .ok (.getfield 303, 3) := by decide +kernel
theorem dX11_later_36 : decode cX11_later 36 = .ok (.iload_n 1, 1) := by decide +kernel
theorem dX11_later_37 : decode cX11_later 37 = .ok (.iadd, 1) := by decide +kernel
theorem dX11_later_38 : decode cX11_later 38 = .ok (.putfield 303, 3) := by decide +kernel
theorem dX11_later_41 : decode cX11_later 41 = .ok (.aload_n 0, 1) := by decide +kernel
theorem dX11_later_42 : decode cX11_later 42 = .ok (.getfield 72, 3) := by decide +kernel
theorem dX11_later_45 : decode cX11_later 45 = .ok (.getfield 303, 3) := by decide +kernel
theorem dX11_later_48 : decode cX11_later 48 = .ok (.ireturn, 1) := by decide +kernel
theorem dX11_fits_0 : decode cX11_fits 0 = .ok (.aload_n 0, 1) := by decide +kernel
theorem dX11_fits_1 : decode cX11_fits 1 = .ok (.getfield 72, 3) := by decide +kernel
theorem dX11_fits_4 : decode cX11_fits 4 = .ok (.iload_n 1, 1) := by decide +kernel
theorem dX11_fits_5 : decode cX11_fits 5 = .ok (.invokevirtual 307, 3) := by decide +kernel
theorem dX11_fits_8 : decode cX11_fits 8 = .ok (.ireturn, 1) := by decide +kernel
theorem dX11_sure_0 : decode cX11_sure 0 = .ok (.iload_n 1, 1) := by decide +kernel
theorem dX11_sure_1 : decode cX11_sure 1 = .ok (.ifCond .lt 21, 3) := by decide +kernel
theorem dX11_sure_4 : decode cX11_sure 4 = .ok (.iload_n 1, 1) := by decide +kernel
theorem dX11_sure_5 : decode cX11_sure 5 = .ok (.bipush 6, 2) := by decide +kernel
theorem dX11_sure_7 : decode cX11_sure 7 = .ok (.if_icmp .ge 15, 3) := by decide +kernel
theorem dX11_sure_10 : decode cX11_sure 10 = .ok (.aload_n 0, 1) := by decide +kernel
theorem dX11_sure_11 : decode cX11_sure 11 = .ok (.getfield 72, 3) := by decide +kernel
theorem dX11_sure_14 : decode cX11_sure 14 = .ok (.iload_n 1, 1) := by decide +kernel
theorem dX11_sure_15 : decode cX11_sure 15 = .ok (.iload_n 2, 1) := by decide +kernel
theorem dX11_sure_16 : decode cX11_sure 16 = .ok (.invokevirtual 310, 3) := by decide +kernel
theorem dX11_sure_19 : decode cX11_sure 19 = .ok (.goto 4, 3) := by decide +kernel
theorem dX11_sure_22 : decode cX11_sure 22 = .ok (.iconst (-1), 1) := by decide +kernel
theorem dX11_sure_23 : decode cX11_sure 23 = .ok (.ireturn, 1) := by decide +kernel
theorem dX11_ask_0 : decode cX11_ask 0 = .ok (.iload_n 1, 1) := by decide +kernel
theorem dX11_ask_1 : decode cX11_ask 1 = .ok (.ifCond .lt 8, 3) := by decide +kernel
theorem dX11_ask_4 : decode cX11_ask 4 = .ok (.iload_n 1, 1) := by decide +kernel
theorem dX11_ask_5 : decode cX11_ask 5 = .ok (.iconst 1, 1) := by decide +kernel
theorem dX11_ask_6 : decode cX11_ask 6 = .ok (.if_icmp .le 5, 3) := by decide +kernel
theorem dX11_ask_9 : decode cX11_ask 9 = .ok (.iconst (-1), 1) := by decide +kernel
theorem dX11_ask_10 : decode cX11_ask 10 = .ok (.ireturn, 1) := by decide +kernel
theorem dX11_ask_11 : decode cX11_ask 11 = .ok (.aload_n 0, 1) := by decide +kernel
theorem dX11_ask_12 : decode cX11_ask 12 = .ok (.getfield 72, 3) := by decide +kernel
theorem dX11_ask_15 : decode cX11_ask 15 = .ok (.iload_n 2, 1) := by decide +kernel
theorem dX11_ask_16 : decode cX11_ask 16 = .ok (.invokevirtual 313, 3) := by decide +kernel
theorem dX11_ask_19 : decode cX11_ask 19 = .ok (.istore_n 3, 1) := by decide +kernel
theorem dX11_ask_20 : decode cX11_ask 20 = .ok (.iload_n 1, 1) := by decide +kernel
theorem dX11_ask_21 : decode cX11_ask 21 = .ok (.ifCond .eq 8, 3) := by decide +kernel
theorem dX11_ask_24 : decode cX11_ask 24 = .ok (.iload_n 3, 1) := by decide +kernel
theorem dX11_ask_25 : decode cX11_ask 25 = .ok (.iconst (-1), 1) := by decide +kernel
theorem dX11_ask_26 : decode cX11_ask 26 = .ok (.if_icmp .ne 7, 3) := by decide +kernel
theorem dX11_ask_29 : decode cX11_ask 29 = .ok (.iload_n 3, 1) := by decide +kernel
theorem dX11_ask_30 : decode cX11_ask 30 = .ok (.goto 12, 3) := by decide +kernel
theorem dX11_ask_33 : decode cX11_ask 33 = .ok (.aload_n 0, 1) := by decide +kernel
theorem dX11_ask_34 : decode cX11_ask 34 = .ok (.getfield 72, 3) := by decide +kernel
theorem dX11_ask_37 : decode cX11_ask 37 = .ok (.iload_n 3, 1) := by decide +kernel
theorem dX11_ask_38 : decode cX11_ask 38 = .ok (.iload_n 2, 1) := by decide +kernel
theorem dX11_ask_39 : decode cX11_ask 39 = .ok (.invokevirtual 316, 3) := by decide +kernel
theorem dX11_ask_42 : decode cX11_ask 42 = .ok (.ireturn, 1) := by decide +kernel
theorem dX11_image_0 : decode cX11_image 0 = .ok (.aload_n 0, 1) := by decide +kernel
theorem dX11_image_1 : decode cX11_image 1 = .ok (.getfield 58, 3) := by decide +kernel
theorem dX11_image_4 : decode cX11_image 4 = .ok (.iload_n 1, 1) := by decide +kernel
theorem dX11_image_5 : decode cX11_image 5 = .ok (.aload_n 0, 1) := by decide +kernel
theorem dX11_image_6 : decode cX11_image 6 = .ok (.getfield 37, 3) := by decide +kernel
theorem dX11_image_9 : decode cX11_image 9 = .ok (.invokevirtual 319, 3) := by decide +kernel
theorem dX11_image_12 : decode cX11_image 12 = .ok (.ifCond .eq 13, 3) := by decide +kernel
theorem dX11_image_15 : decode cX11_image 15 = .ok (.aload_n 0, 1) := by decide +kernel
theorem dX11_image_16 : decode cX11_image 16 = .ok (.getfield 37, 3) := by decide +kernel
theorem dX11_image_19 : decode cX11_image 19 = .ok (.getfield 173, 3) := by decide +kernel
theorem dX11_image_22 : decode cX11_image 22 = .ok (.goto 4, 3) := by decide +kernel
theorem dX11_image_25 : decode cX11_image 25 = .ok (.iconst (-1), 1) := by decide +kernel
theorem dX11_image_26 : decode cX11_image 26 = .ok (.ireturn, 1) := by decide +kernel
theorem dX11_back_0 : decode cX11_back 0 = .ok (.aload_n 0, 1) := by decide +kernel
theorem dX11_back_1 : decode cX11_back 1 = .ok (.getfield 58, 3) := by decide +kernel
theorem dX11_back_4 : decode cX11_back 4 = .ok (.iload_n 1, 1) := by decide +kernel
theorem dX11_back_5 : decode cX11_back 5 = .ok (.aload_n 0, 1) := by decide +kernel
theorem dX11_back_6 : decode cX11_back 6 = .ok (.getfield 37, 3) := by decide +kernel
theorem dX11_back_9 : decode cX11_back 9 = .ok (.invokevirtual 322, 3) := by decide +kernel
theorem dX11_back_12 : decode cX11_back 12 = .ok (.ifCond .ne 5, 3) := by decide +kernel
theorem dX11_back_15 : decode cX11_back 15 = .ok (.iconst (-1), 1) := by decide +kernel
theorem dX11_back_16 : decode cX11_back 16 = .ok (.ireturn, 1) := by decide +kernel
theorem dX11_back_17 : decode cX11_back 17 = .ok (.aload_n 0, 1) := by decide +kernel
theorem dX11_back_18 : decode cX11_back 18 = .ok (.getfield 51, 3) := by decide +kernel
theorem dX11_back_21 : decode cX11_back 21 = .ok (.aload_n 0, 1) := by decide +kernel
theorem dX11_back_22 : decode cX11_back 22 = .ok (.getfield 37, 3) := by decide +kernel
theorem dX11_back_25 : decode cX11_back 25 = .ok (.invokevirtual 104, 3) := by decide +kernel
theorem dX11_back_28 : decode cX11_back 28 = .ok (.aload_n 0, 1) := by decide +kernel
theorem dX11_back_29 : decode cX11_back 29 = .ok (.getfield 37, 3) := by decide +kernel
theorem dX11_back_32 : decode cX11_back 32 = .ok (.getfield 173, 3) := by decide +kernel
theorem dX11_back_35 : decode cX11_back 35 = .ok (.ireturn, 1) := by decide +kernel
theorem dX11_about_0 : decode cX11_about 0 = .ok (.iload_n 1, 1) := by decide +kernel
theorem dX11_about_1 : decode cX11_about 1 = .ok (.tableswitch 203 0 14 #[75, 83, 91, 99, 107, 115, 123, 131, 147, 155, 163, 171, 182, 187, 195], 75) := by decide +kernel
theorem dX11_about_76 : decode cX11_about 76 = .ok (.aload_n 0, 1) := by decide +kernel
theorem dX11_about_77 : decode cX11_about 77 = .ok (.getfield 37, 3) := by decide +kernel
theorem dX11_about_80 : decode cX11_about 80 = .ok (.invokevirtual 231, 3) := by decide +kernel
theorem dX11_about_83 : decode cX11_about 83 = .ok (.ireturn, 1) := by decide +kernel
theorem dX11_about_84 : decode cX11_about 84 = .ok (.aload_n 0, 1) := by decide +kernel
theorem dX11_about_85 : decode cX11_about 85 = .ok (.getfield 19, 3) := by decide +kernel
theorem dX11_about_88 : decode cX11_about 88 = .ok (.getfield 218, 3) := by decide +kernel
theorem dX11_about_91 : decode cX11_about 91 = .ok (.ireturn, 1) := by decide +kernel
theorem dX11_about_92 : decode cX11_about 92 = .ok (.aload_n 0, 1) := by decide +kernel
theorem dX11_about_93 : decode cX11_about 93 = .ok (.getfield 37, 3) := by decide +kernel
theorem dX11_about_96 : decode cX11_about 96 = .ok (.invokevirtual 208, 3) := by decide +kernel
theorem dX11_about_99 : decode cX11_about 99 = .ok (.ireturn, 1) := by decide +kernel
theorem dX11_about_100 : decode cX11_about 100 = .ok (.aload_n 0, 1) := by decide +kernel
theorem dX11_about_101 : decode cX11_about 101 = .ok (.getfield 37, 3) := by decide +kernel
theorem dX11_about_104 : decode cX11_about 104 = .ok (.getfield 188, 3) := by decide +kernel
theorem dX11_about_107 : decode cX11_about 107 = .ok (.ireturn, 1) := by decide +kernel
theorem dX11_about_108 : decode cX11_about 108 = .ok (.aload_n 0, 1) := by decide +kernel
theorem dX11_about_109 : decode cX11_about 109 = .ok (.getfield 37, 3) := by decide +kernel
theorem dX11_about_112 : decode cX11_about 112 = .ok (.getfield 173, 3) := by decide +kernel
theorem dX11_about_115 : decode cX11_about 115 = .ok (.ireturn, 1) := by decide +kernel
theorem dX11_about_116 : decode cX11_about 116 = .ok (.aload_n 0, 1) := by decide +kernel
theorem dX11_about_117 : decode cX11_about 117 = .ok (.getfield 37, 3) := by decide +kernel
theorem dX11_about_120 : decode cX11_about 120 = .ok (.getfield 325, 3) := by decide +kernel
theorem dX11_about_123 : decode cX11_about 123 = .ok (.ireturn, 1) := by decide +kernel
theorem dX11_about_124 : decode cX11_about 124 = .ok (.aload_n 0, 1) := by decide +kernel
theorem dX11_about_125 : decode cX11_about 125 = .ok (.getfield 51, 3) := by decide +kernel
theorem dX11_about_128 : decode cX11_about 128 = .ok (.getfield 328, 3) := by decide +kernel
theorem dX11_about_131 : decode cX11_about 131 = .ok (.ireturn, 1) := by decide +kernel
theorem dX11_about_132 : decode cX11_about 132 = .ok (.aload_n 0, 1) := by decide +kernel
theorem dX11_about_133 : decode cX11_about 133 = .ok (.getfield 51, 3) := by decide +kernel
theorem dX11_about_136 : decode cX11_about 136 = .ok (.getfield 331, 3) := by decide +kernel
theorem dX11_about_139 : decode cX11_about 139 = .ok (.aload_n 0, 1) := by decide +kernel
theorem dX11_about_140 : decode cX11_about 140 = .ok (.getfield 51, 3) := by decide +kernel
theorem dX11_about_143 : decode cX11_about 143 = .ok (.getfield 328, 3) := by decide +kernel
theorem dX11_about_146 : decode cX11_about 146 = .ok (.isub, 1) := by decide +kernel
theorem dX11_about_147 : decode cX11_about 147 = .ok (.ireturn, 1) := by decide +kernel
theorem dX11_about_148 : decode cX11_about 148 = .ok (.aload_n 0, 1) := by decide +kernel
theorem dX11_about_149 : decode cX11_about 149 = .ok (.getfield 72, 3) := by decide +kernel
theorem dX11_about_152 : decode cX11_about 152 = .ok (.getfield 111, 3) := by decide +kernel
theorem dX11_about_155 : decode cX11_about 155 = .ok (.ireturn, 1) := by decide +kernel
theorem dX11_about_156 : decode cX11_about 156 = .ok (.aload_n 0, 1) := by decide +kernel
theorem dX11_about_157 : decode cX11_about 157 = .ok (.getfield 72, 3) := by decide +kernel
theorem dX11_about_160 : decode cX11_about 160 = .ok (.getfield 303, 3) := by decide +kernel
theorem dX11_about_163 : decode cX11_about 163 = .ok (.ireturn, 1) := by decide +kernel
theorem dX11_about_164 : decode cX11_about 164 = .ok (.aload_n 0, 1) := by decide +kernel
theorem dX11_about_165 : decode cX11_about 165 = .ok (.getfield 12, 3) := by decide +kernel
theorem dX11_about_168 : decode cX11_about 168 = .ok (.getfield 84, 3) := by decide +kernel
theorem dX11_about_171 : decode cX11_about 171 = .ok (.ireturn, 1) := by decide +kernel
theorem dX11_about_172 : decode cX11_about 172 = .ok (.aload_n 0, 1) := by decide +kernel
theorem dX11_about_173 : decode cX11_about 173 = .ok (.getfield 19, 3) := by decide +kernel
theorem dX11_about_176 : decode cX11_about 176 = .ok (.getfield 334, 3) := by decide +kernel
theorem dX11_about_179 : decode cX11_about 179 = .ok (.getfield 338, 3) := by decide +kernel
theorem dX11_about_182 : decode cX11_about 182 = .ok (.ireturn, 1) := by decide +kernel
theorem dX11_about_183 : decode cX11_about 183 = .ok (.aload_n 0, 1) := by decide +kernel
theorem dX11_about_184 : decode cX11_about 184 = .ok (.getfield 80, 3) := by decide +kernel
theorem dX11_about_187 : decode cX11_about 187 = .ok (.ireturn, 1) := by decide +kernel
theorem dX11_about_188 : decode cX11_about 188 = .ok (.aload_n 0, 1) := by decide +kernel
theorem dX11_about_189 : decode cX11_about 189 = .ok (.getfield 19, 3) := by decide +kernel
theorem dX11_about_192 : decode cX11_about 192 = .ok (.getfield 176, 3) := by decide +kernel
theorem dX11_about_195 : decode cX11_about 195 = .ok (.ireturn, 1) := by decide +kernel
theorem dX11_about_196 : decode cX11_about 196 = .ok (.aload_n 0, 1) := by decide +kernel
theorem dX11_about_197 : decode cX11_about 197 = .ok (.getfield 19, 3) := by decide +kernel
theorem dX11_about_200 : decode cX11_about 200 = .ok (.getfield 114, 3) := by decide +kernel
theorem dX11_about_203 : decode cX11_about 203 = .ok (.ireturn, 1) := by decide +kernel
theorem dX11_about_204 : decode cX11_about 204 = .ok (.iconst (-1), 1) := by decide +kernel
theorem dX11_about_205 : decode cX11_about 205 = .ok (.ireturn, 1) := by decide +kernel
theorem dJ6_bitCount_0f7a4_0 : decode cJ6_bitCount_0f7a4 0 = .ok (.iload_n 0, 1) := by decide +kernel
theorem dJ6_bitCount_0f7a4_1 : decode cJ6_bitCount_0f7a4 1 = .ok (.iload_n 0, 1) := by decide +kernel
theorem dJ6_bitCount_0f7a4_2 : decode cJ6_bitCount_0f7a4 2 = .ok (.iconst 1, 1) := by decide +kernel
theorem dJ6_bitCount_0f7a4_3 : decode cJ6_bitCount_0f7a4 3 = .ok (.iushr, 1) := by decide +kernel
theorem dJ6_bitCount_0f7a4_4 : decode cJ6_bitCount_0f7a4 4 = .ok (.ldc_w 265, 3) := by decide +kernel
theorem dJ6_bitCount_0f7a4_7 : decode cJ6_bitCount_0f7a4 7 = .ok (.iand, 1) := by decide +kernel
theorem dJ6_bitCount_0f7a4_8 : decode cJ6_bitCount_0f7a4 8 = .ok (.isub, 1) := by decide +kernel
theorem dJ6_bitCount_0f7a4_9 : decode cJ6_bitCount_0f7a4 9 = .ok (.istore_n 0, 1) := by decide +kernel
theorem dJ6_bitCount_0f7a4_10 : decode cJ6_bitCount_0f7a4 10 = .ok (.iload_n 0, 1) := by decide +kernel
theorem dJ6_bitCount_0f7a4_11 : decode cJ6_bitCount_0f7a4 11 = .ok (.ldc_w 266, 3) := by decide +kernel
theorem dJ6_bitCount_0f7a4_14 : decode cJ6_bitCount_0f7a4 14 = .ok (.iand, 1) := by decide +kernel
theorem dJ6_bitCount_0f7a4_15 : decode cJ6_bitCount_0f7a4 15 = .ok (.iload_n 0, 1) := by decide +kernel
theorem dJ6_bitCount_0f7a4_16 : decode cJ6_bitCount_0f7a4 16 = .ok (.iconst 2, 1) := by decide +kernel
theorem dJ6_bitCount_0f7a4_17 : decode cJ6_bitCount_0f7a4 17 = .ok (.iushr, 1) := by decide +kernel
theorem dJ6_bitCount_0f7a4_18 : decode cJ6_bitCount_0f7a4 18 = .ok (.ldc_w 266, 3) := by decide +kernel
theorem dJ6_bitCount_0f7a4_21 : decode cJ6_bitCount_0f7a4 21 = .ok (.iand, 1) := by decide +kernel
theorem dJ6_bitCount_0f7a4_22 : decode cJ6_bitCount_0f7a4 22 = .ok (.iadd, 1) := by decide +kernel
theorem dJ6_bitCount_0f7a4_23 : decode cJ6_bitCount_0f7a4 23 = .ok (.istore_n 0, 1) := by decide +kernel
theorem dJ6_bitCount_0f7a4_24 : decode cJ6_bitCount_0f7a4 24 = .ok (.iload_n 0, 1) := by decide +kernel
theorem dJ6_bitCount_0f7a4_25 : decode cJ6_bitCount_0f7a4 25 = .ok (.iload_n 0, 1) := by decide +kernel
theorem dJ6_bitCount_0f7a4_26 : decode cJ6_bitCount_0f7a4 26 = .ok (.iconst 4, 1) := by decide +kernel
theorem dJ6_bitCount_0f7a4_27 : decode cJ6_bitCount_0f7a4 27 = .ok (.iushr, 1) := by decide +kernel
theorem dJ6_bitCount_0f7a4_28 : decode cJ6_bitCount_0f7a4 28 = .ok (.iadd, 1) := by decide +kernel
theorem dJ6_bitCount_0f7a4_29 : decode cJ6_bitCount_0f7a4 29 = .ok (.ldc_w 267, 3) := by decide +kernel
theorem dJ6_bitCount_0f7a4_32 : decode cJ6_bitCount_0f7a4 32 = .ok (.iand, 1) := by decide +kernel
theorem dJ6_bitCount_0f7a4_33 : decode cJ6_bitCount_0f7a4 33 = .ok (.istore_n 0, 1) := by decide +kernel
theorem dJ6_bitCount_0f7a4_34 : decode cJ6_bitCount_0f7a4 34 = .ok (.iload_n 0, 1) := by decide +kernel
theorem dJ6_bitCount_0f7a4_35 : decode cJ6_bitCount_0f7a4 35 = .ok (.iload_n 0, 1) := by decide +kernel
theorem dJ6_bitCount_0f7a4_36 : decode cJ6_bitCount_0f7a4 36 = .ok (.bipush 8, 2) := by decide +kernel
theorem dJ6_bitCount_0f7a4_38 : decode cJ6_bitCount_0f7a4 38 = .ok (.iushr, 1) := by decide +kernel
theorem dJ6_bitCount_0f7a4_39 : decode cJ6_bitCount_0f7a4 39 = .ok (.iadd, 1) := by decide +kernel
theorem dJ6_bitCount_0f7a4_40 : decode cJ6_bitCount_0f7a4 40 = .ok (.istore_n 0, 1) := by decide +kernel
theorem dJ6_bitCount_0f7a4_41 : decode cJ6_bitCount_0f7a4 41 = .ok (.iload_n 0, 1) := by decide +kernel
theorem dJ6_bitCount_0f7a4_42 : decode cJ6_bitCount_0f7a4 42 = .ok (.iload_n 0, 1) := by decide +kernel
theorem dJ6_bitCount_0f7a4_43 : decode cJ6_bitCount_0f7a4 43 = .ok (.bipush 16, 2) := by decide +kernel
theorem dJ6_bitCount_0f7a4_45 : decode cJ6_bitCount_0f7a4 45 = .ok (.iushr, 1) := by decide +kernel
theorem dJ6_bitCount_0f7a4_46 : decode cJ6_bitCount_0f7a4 46 = .ok (.iadd, 1) := by decide +kernel
theorem dJ6_bitCount_0f7a4_47 : decode cJ6_bitCount_0f7a4 47 = .ok (.istore_n 0, 1) := by decide +kernel
theorem dJ6_bitCount_0f7a4_48 : decode cJ6_bitCount_0f7a4 48 = .ok (.iload_n 0, 1) := by decide +kernel
theorem dJ6_bitCount_0f7a4_49 : decode cJ6_bitCount_0f7a4 49 = .ok (.bipush 63, 2) := by decide +kernel
theorem dJ6_bitCount_0f7a4_51 : decode cJ6_bitCount_0f7a4 51 = .ok (.iand, 1) := by decide +kernel
theorem dJ6_bitCount_0f7a4_52 : decode cJ6_bitCount_0f7a4 52 = .ok (.ireturn, 1) := by decide +kernel
