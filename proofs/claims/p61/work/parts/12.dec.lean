theorem dX0_init_0 : decode cX0_init 0 = .ok (.aload_n 0, 1) := by decide +kernel
theorem dX0_init_1 : decode cX0_init 1 = .ok (.invokespecial 3, 3) := by decide +kernel
theorem dX0_init_4 : decode cX0_init 4 = .ok (.return_, 1) := by decide +kernel
theorem dX0_open_0 : decode cX0_open 0 = .ok (.aload_n 0, 1) := by decide +kernel
theorem dX0_open_1 : decode cX0_open 1 = .ok (.iload_n 1, 1) := by decide +kernel
theorem dX0_open_2 : decode cX0_open 2 = .ok (.putfield 9, 3) := by decide +kernel
theorem dX0_open_5 : decode cX0_open 5 = .ok (.aload_n 0, 1) := by decide +kernel
theorem dX0_open_6 : decode cX0_open 6 = .ok (.iload_n 2, 1) := by decide +kernel
theorem dX0_open_7 : decode cX0_open 7 = .ok (.putfield 15, 3) := by decide +kernel
theorem dX0_open_10 : decode cX0_open 10 = .ok (.aload_n 0, 1) := by decide +kernel
theorem dX0_open_11 : decode cX0_open 11 = .ok (.iload_n 3, 1) := by decide +kernel
theorem dX0_open_12 : decode cX0_open 12 = .ok (.putfield 18, 3) := by decide +kernel
theorem dX0_open_15 : decode cX0_open 15 = .ok (.aload_n 0, 1) := by decide +kernel
theorem dX0_open_16 : decode cX0_open 16 = .ok (.iload 4, 2) := by decide +kernel
theorem dX0_open_18 : decode cX0_open 18 = .ok (.putfield 21, 3) := by decide +kernel
theorem dX0_open_21 : decode cX0_open 21 = .ok (.aload_n 0, 1) := by decide +kernel
theorem dX0_open_22 : decode cX0_open 22 = .ok (.iconst 0, 1) := by decide +kernel
theorem dX0_open_23 : decode cX0_open 23 = .ok (.putfield 24, 3) := by decide +kernel
theorem dX0_open_26 : decode cX0_open 26 = .ok (.aload_n 0, 1) := by decide +kernel
theorem dX0_open_27 : decode cX0_open 27 = .ok (.sipush 6000, 3) := by decide +kernel
theorem dX0_open_30 : decode cX0_open 30 = .ok (.putfield 27, 3) := by decide +kernel
theorem dX0_open_33 : decode cX0_open 33 = .ok (.aload_n 0, 1) := by decide +kernel
theorem dX0_open_34 : decode cX0_open 34 = .ok (.iconst (-1), 1) := by decide +kernel
theorem dX0_open_35 : decode cX0_open 35 = .ok (.putfield 30, 3) := by decide +kernel
theorem dX0_open_38 : decode cX0_open 38 = .ok (.return_, 1) := by decide +kernel
theorem dX0_overdueAt_0 : decode cX0_overdueAt 0 = .ok (.aload_n 0, 1) := by decide +kernel
theorem dX0_overdueAt_1 : decode cX0_overdueAt 1 = .ok (.getfield 24, 3) := by decide +kernel
theorem dX0_overdueAt_4 : decode cX0_overdueAt 4 = .ok (.iconst 4, 1) := by decide +kernel
theorem dX0_overdueAt_5 : decode cX0_overdueAt 5 = .ok (.if_icmp .eq 19, 3) := by decide +kernel
theorem dX0_overdueAt_8 : decode cX0_overdueAt 8 = .ok (.iload_n 1, 1) := by decide +kernel
theorem dX0_overdueAt_9 : decode cX0_overdueAt 9 = .ok (.aload_n 0, 1) := by decide +kernel
theorem dX0_overdueAt_10 : decode cX0_overdueAt 10 = .ok (.getfield 18, 3) := by decide +kernel
theorem dX0_overdueAt_13 : decode cX0_overdueAt 13 = .ok (.sipush 20160, 3) := by decide +kernel
theorem dX0_overdueAt_16 : decode cX0_overdueAt 16 = .ok (.iadd, 1) := by decide +kernel
theorem dX0_overdueAt_17 : decode cX0_overdueAt 17 = .ok (.if_icmp .le 7, 3) := by decide +kernel
theorem dX0_overdueAt_20 : decode cX0_overdueAt 20 = .ok (.iconst 1, 1) := by decide +kernel
theorem dX0_overdueAt_21 : decode cX0_overdueAt 21 = .ok (.goto 4, 3) := by decide +kernel
theorem dX0_overdueAt_24 : decode cX0_overdueAt 24 = .ok (.iconst 0, 1) := by decide +kernel
theorem dX0_overdueAt_25 : decode cX0_overdueAt 25 = .ok (.ireturn, 1) := by decide +kernel
theorem dX0_costAt_0 : decode cX0_costAt 0 = .ok (.aload_n 0, 1) := by decide +kernel
theorem dX0_costAt_1 : decode cX0_costAt 1 = .ok (.getfield 24, 3) := by decide +kernel
theorem dX0_costAt_4 : decode cX0_costAt 4 = .ok (.iconst 4, 1) := by decide +kernel
theorem dX0_costAt_5 : decode cX0_costAt 5 = .ok (.if_icmp .ne 5, 3) := by decide +kernel
theorem dX0_costAt_8 : decode cX0_costAt 8 = .ok (.iconst 0, 1) := by decide +kernel
theorem dX0_costAt_9 : decode cX0_costAt 9 = .ok (.ireturn, 1) := by decide +kernel
theorem dX0_costAt_10 : decode cX0_costAt 10 = .ok (.aload_n 0, 1) := by decide +kernel
theorem dX0_costAt_11 : decode cX0_costAt 11 = .ok (.iload_n 1, 1) := by decide +kernel
theorem dX0_costAt_12 : decode cX0_costAt 12 = .ok (.invokevirtual 33, 3) := by decide +kernel
theorem dX0_costAt_15 : decode cX0_costAt 15 = .ok (.ifCond .eq 14, 3) := by decide +kernel
theorem dX0_costAt_18 : decode cX0_costAt 18 = .ok (.aload_n 0, 1) := by decide +kernel
theorem dX0_costAt_19 : decode cX0_costAt 19 = .ok (.getfield 27, 3) := by decide +kernel
theorem dX0_costAt_22 : decode cX0_costAt 22 = .ok (.sipush 1500, 3) := by decide +kernel
theorem dX0_costAt_25 : decode cX0_costAt 25 = .ok (.iadd, 1) := by decide +kernel
theorem dX0_costAt_26 : decode cX0_costAt 26 = .ok (.goto 7, 3) := by decide +kernel
theorem dX0_costAt_29 : decode cX0_costAt 29 = .ok (.aload_n 0, 1) := by decide +kernel
theorem dX0_costAt_30 : decode cX0_costAt 30 = .ok (.getfield 27, 3) := by decide +kernel
theorem dX0_costAt_33 : decode cX0_costAt 33 = .ok (.ireturn, 1) := by decide +kernel
theorem dX4_isStamped_0 : decode cX4_isStamped 0 = .ok (.aload_n 0, 1) := by decide +kernel
theorem dX4_isStamped_1 : decode cX4_isStamped 1 = .ok (.getfield 21, 3) := by decide +kernel
theorem dX4_isStamped_4 : decode cX4_isStamped 4 = .ok (.iconst (-1), 1) := by decide +kernel
theorem dX4_isStamped_5 : decode cX4_isStamped 5 = .ok (.if_icmp .eq 7, 3) := by decide +kernel
theorem dX4_isStamped_8 : decode cX4_isStamped 8 = .ok (.iconst 1, 1) := by decide +kernel
theorem dX4_isStamped_9 : decode cX4_isStamped 9 = .ok (.goto 4, 3) := by decide +kernel
theorem dX4_isStamped_12 : decode cX4_isStamped 12 = .ok (.iconst 0, 1) := by decide +kernel
theorem dX4_isStamped_13 : decode cX4_isStamped 13 = .ok (.ireturn, 1) := by decide +kernel
theorem dX5_dayOf_0 : decode cX5_dayOf 0 = .ok (.iload_n 0, 1) := by decide +kernel
theorem dX5_dayOf_1 : decode cX5_dayOf 1 = .ok (.sipush 1440, 3) := by decide +kernel
theorem dX5_dayOf_4 : decode cX5_dayOf 4 = .ok (.idiv, 1) := by decide +kernel
theorem dX5_dayOf_5 : decode cX5_dayOf 5 = .ok (.ireturn, 1) := by decide +kernel
theorem dX4_hasZones_0 : decode cX4_hasZones 0 = .ok (.iload_n 1, 1) := by decide +kernel
theorem dX4_hasZones_1 : decode cX4_hasZones 1 = .ok (.aload_n 0, 1) := by decide +kernel
theorem dX4_hasZones_2 : decode cX4_hasZones 2 = .ok (.getfield 18, 3) := by decide +kernel
theorem dX4_hasZones_5 : decode cX4_hasZones 5 = .ok (.iconst (-1), 1) := by decide +kernel
theorem dX4_hasZones_6 : decode cX4_hasZones 6 = .ok (.ixor, 1) := by decide +kernel
theorem dX4_hasZones_7 : decode cX4_hasZones 7 = .ok (.iand, 1) := by decide +kernel
theorem dX4_hasZones_8 : decode cX4_hasZones 8 = .ok (.ifCond .ne 7, 3) := by decide +kernel
theorem dX4_hasZones_11 : decode cX4_hasZones 11 = .ok (.iconst 1, 1) := by decide +kernel
theorem dX4_hasZones_12 : decode cX4_hasZones 12 = .ok (.goto 4, 3) := by decide +kernel
theorem dX4_hasZones_15 : decode cX4_hasZones 15 = .ok (.iconst 0, 1) := by decide +kernel
theorem dX4_hasZones_16 : decode cX4_hasZones 16 = .ok (.ireturn, 1) := by decide +kernel
theorem dX0_isExcusedBy_0 : decode cX0_isExcusedBy 0 = .ok (.aload_n 1, 1) := by decide +kernel
theorem dX0_isExcusedBy_1 : decode cX0_isExcusedBy 1 = .ok (.getfield 37, 3) := by decide +kernel
theorem dX0_isExcusedBy_4 : decode cX0_isExcusedBy 4 = .ok (.aload_n 0, 1) := by decide +kernel
theorem dX0_isExcusedBy_5 : decode cX0_isExcusedBy 5 = .ok (.getfield 9, 3) := by decide +kernel
theorem dX0_isExcusedBy_8 : decode cX0_isExcusedBy 8 = .ok (.if_icmp .ne 61, 3) := by decide +kernel
theorem dX0_isExcusedBy_11 : decode cX0_isExcusedBy 11 = .ok (.aload_n 1, 1) := by decide +kernel
theorem dX0_isExcusedBy_12 : decode cX0_isExcusedBy 12 = .ok (.getfield 42, 3) := by decide +kernel
theorem dX0_isExcusedBy_15 : decode cX0_isExcusedBy 15 = .ok (.iconst 1, 1) := by decide +kernel
theorem dX0_isExcusedBy_16 : decode cX0_isExcusedBy 16 = .ok (.if_icmp .ne 53, 3) := by decide +kernel
theorem dX0_isExcusedBy_19 : decode cX0_isExcusedBy 19 = .ok (.aload_n 1, 1) := by decide +kernel
theorem dX0_isExcusedBy_20 : decode cX0_isExcusedBy 20 = .ok (.invokevirtual 45, 3) := by decide +kernel
theorem dX0_isExcusedBy_23 : decode cX0_isExcusedBy 23 = .ok (.ifCond .eq 46, 3) := by decide +kernel
theorem dX0_isExcusedBy_26 : decode cX0_isExcusedBy 26 = .ok (.aload_n 1, 1) := by decide +kernel
theorem dX0_isExcusedBy_27 : decode cX0_isExcusedBy 27 = .ok (.getfield 49, 3) := by decide +kernel
theorem dX0_isExcusedBy_30 : decode cX0_isExcusedBy 30 = .ok (.aload_n 0, 1) := by decide +kernel
theorem dX0_isExcusedBy_31 : decode cX0_isExcusedBy 31 = .ok (.getfield 18, 3) := by decide +kernel
theorem dX0_isExcusedBy_34 : decode cX0_isExcusedBy 34 = .ok (.if_icmp .gt 35, 3) := by decide +kernel
theorem dX0_isExcusedBy_37 : decode cX0_isExcusedBy 37 = .ok (.aload_n 1, 1) := by decide +kernel
theorem dX0_isExcusedBy_38 : decode cX0_isExcusedBy 38 = .ok (.getfield 49, 3) := by decide +kernel
theorem dX0_isExcusedBy_41 : decode cX0_isExcusedBy 41 = .ok (.invokestatic 52, 3) := by decide +kernel
theorem dX0_isExcusedBy_44 : decode cX0_isExcusedBy 44 = .ok (.aload_n 0, 1) := by decide +kernel
theorem dX0_isExcusedBy_45 : decode cX0_isExcusedBy 45 = .ok (.getfield 18, 3) := by decide +kernel
theorem dX0_isExcusedBy_48 : decode cX0_isExcusedBy 48 = .ok (.invokestatic 52, 3) := by decide +kernel
theorem dX0_isExcusedBy_51 : decode cX0_isExcusedBy 51 = .ok (.if_icmp .ne 18, 3) := by decide +kernel
theorem dX0_isExcusedBy_54 : decode cX0_isExcusedBy 54 = .ok (.aload_n 1, 1) := by decide +kernel
theorem dX0_isExcusedBy_55 : decode cX0_isExcusedBy 55 = .ok (.aload_n 0, 1) := by decide +kernel
theorem dX0_isExcusedBy_56 : decode cX0_isExcusedBy 56 = .ok (.getfield 21, 3) := by decide +kernel
theorem dX0_isExcusedBy_59 : decode cX0_isExcusedBy 59 = .ok (.invokevirtual 56, 3) := by decide +kernel
theorem dX0_isExcusedBy_62 : decode cX0_isExcusedBy 62 = .ok (.ifCond .eq 7, 3) := by decide +kernel
theorem dX0_isExcusedBy_65 : decode cX0_isExcusedBy 65 = .ok (.iconst 1, 1) := by decide +kernel
theorem dX0_isExcusedBy_66 : decode cX0_isExcusedBy 66 = .ok (.goto 4, 3) := by decide +kernel
theorem dX0_isExcusedBy_69 : decode cX0_isExcusedBy 69 = .ok (.iconst 0, 1) := by decide +kernel
theorem dX0_isExcusedBy_70 : decode cX0_isExcusedBy 70 = .ok (.ireturn, 1) := by decide +kernel
theorem dX0_copyFrom_0 : decode cX0_copyFrom 0 = .ok (.aload_n 0, 1) := by decide +kernel
theorem dX0_copyFrom_1 : decode cX0_copyFrom 1 = .ok (.aload_n 1, 1) := by decide +kernel
theorem dX0_copyFrom_2 : decode cX0_copyFrom 2 = .ok (.getfield 9, 3) := by decide +kernel
theorem dX0_copyFrom_5 : decode cX0_copyFrom 5 = .ok (.putfield 9, 3) := by decide +kernel
theorem dX0_copyFrom_8 : decode cX0_copyFrom 8 = .ok (.aload_n 0, 1) := by decide +kernel
theorem dX0_copyFrom_9 : decode cX0_copyFrom 9 = .ok (.aload_n 1, 1) := by decide +kernel
theorem dX0_copyFrom_10 : decode cX0_copyFrom 10 = .ok (.getfield 15, 3) := by decide +kernel
theorem dX0_copyFrom_13 : decode cX0_copyFrom 13 = .ok (.putfield 15, 3) := by decide +kernel
theorem dX0_copyFrom_16 : decode cX0_copyFrom 16 = .ok (.aload_n 0, 1) := by decide +kernel
theorem dX0_copyFrom_17 : decode cX0_copyFrom 17 = .ok (.aload_n 1, 1) := by decide +kernel
theorem dX0_copyFrom_18 : decode cX0_copyFrom 18 = .ok (.getfield 18, 3) := by decide +kernel
theorem dX0_copyFrom_21 : decode cX0_copyFrom 21 = .ok (.putfield 18, 3) := by decide +kernel
theorem dX0_copyFrom_24 : decode cX0_copyFrom 24 = .ok (.aload_n 0, 1) := by decide +kernel
theorem dX0_copyFrom_25 : decode cX0_copyFrom 25 = .ok (.aload_n 1, 1) := by decide +kernel
theorem dX0_copyFrom_26 : decode cX0_copyFrom 26 = .ok (.getfield 21, 3) := by decide +kernel
theorem dX0_copyFrom_29 : decode cX0_copyFrom 29 = .ok (.putfield 21, 3) := by decide +kernel
theorem dX0_copyFrom_32 : decode cX0_copyFrom 32 = .ok (.aload_n 0, 1) := by decide +kernel
theorem dX0_copyFrom_33 : decode cX0_copyFrom 33 = .ok (.aload_n 1, 1) := by decide +kernel
theorem dX0_copyFrom_34 : decode cX0_copyFrom 34 = .ok (.getfield 24, 3) := by decide +kernel
theorem dX0_copyFrom_37 : decode cX0_copyFrom 37 = .ok (.putfield 24, 3) := by decide +kernel
theorem dX0_copyFrom_40 : decode cX0_copyFrom 40 = .ok (.aload_n 0, 1) := by decide +kernel
theorem dX0_copyFrom_41 : decode cX0_copyFrom 41 = .ok (.aload_n 1, 1) := by decide +kernel
theorem dX0_copyFrom_42 : decode cX0_copyFrom 42 = .ok (.getfield 27, 3) := by decide +kernel
theorem dX0_copyFrom_45 : decode cX0_copyFrom 45 = .ok (.putfield 27, 3) := by decide +kernel
theorem dX0_copyFrom_48 : decode cX0_copyFrom 48 = .ok (.aload_n 0, 1) := by decide +kernel
theorem dX0_copyFrom_49 : decode cX0_copyFrom 49 = .ok (.aload_n 1, 1) := by decide +kernel
theorem dX0_copyFrom_50 : decode cX0_copyFrom 50 = .ok (.getfield 30, 3) := by decide +kernel
theorem dX0_copyFrom_53 : decode cX0_copyFrom 53 = .ok (.putfield 30, 3) := by decide +kernel
theorem dX0_copyFrom_56 : decode cX0_copyFrom 56 = .ok (.return_, 1) := by decide +kernel
theorem dX1_init_0 : decode cX1_init 0 = .ok (.aload_n 0, 1) := by decide +kernel
theorem dX1_init_1 : decode cX1_init 1 = .ok (.invokespecial 3, 3) := by decide +kernel
theorem dX1_init_4 : decode cX1_init 4 = .ok (.aload_n 0, 1) := by decide +kernel
theorem dX1_init_5 : decode cX1_init 5 = .ok (.sipush 700, 3) := by decide +kernel
theorem dX1_init_8 : decode cX1_init 8 = .ok (.newarray .byte, 2) := by decide +kernel
theorem dX1_init_10 : decode cX1_init 10 = .ok (.putfield 9, 3) := by decide +kernel
theorem dX1_init_13 : decode cX1_init 13 = .ok (.aload_n 0, 1) := by decide +kernel
theorem dX1_init_14 : decode cX1_init 14 = .ok (.iconst (-1), 1) := by decide +kernel
theorem dX1_init_15 : decode cX1_init 15 = .ok (.putfield 15, 3) := by decide +kernel
theorem dX1_init_18 : decode cX1_init 18 = .ok (.aload_n 0, 1) := by decide +kernel
theorem dX1_init_19 : decode cX1_init 19 = .ok (.aload_n 1, 1) := by decide +kernel
theorem dX1_init_20 : decode cX1_init 20 = .ok (.putfield 19, 3) := by decide +kernel
theorem dX1_init_23 : decode cX1_init 23 = .ok (.return_, 1) := by decide +kernel
theorem dX1_addBytes_0 : decode cX1_addBytes 0 = .ok (.bipush 24, 2) := by decide +kernel
theorem dX1_addBytes_2 : decode cX1_addBytes 2 = .ok (.istore_n 2, 1) := by decide +kernel
theorem dX1_addBytes_3 : decode cX1_addBytes 3 = .ok (.iload_n 2, 1) := by decide +kernel
theorem dX1_addBytes_4 : decode cX1_addBytes 4 = .ok (.ifCond .lt 42, 3) := by decide +kernel
theorem dX1_addBytes_7 : decode cX1_addBytes 7 = .ok (.aload_n 0, 1) := by decide +kernel
theorem dX1_addBytes_8 : decode cX1_addBytes 8 = .ok (.getfield 23, 3) := by decide +kernel
theorem dX1_addBytes_11 : decode cX1_addBytes 11 = .ok (.sipush 700, 3) := by decide +kernel
theorem dX1_addBytes_14 : decode cX1_addBytes 14 = .ok (.if_icmp .ge 32, 3) := by decide +kernel
theorem dX1_addBytes_17 : decode cX1_addBytes 17 = .ok (.aload_n 0, 1) := by decide +kernel
theorem dX1_addBytes_18 : decode cX1_addBytes 18 = .ok (.getfield 9, 3) := by decide +kernel
theorem dX1_addBytes_21 : decode cX1_addBytes 21 = .ok (.aload_n 0, 1) := by decide +kernel
theorem dX1_addBytes_22 : decode cX1_addBytes 22 = .ok (.getfield 23, 3) := by decide +kernel
theorem dX1_addBytes_25 : decode cX1_addBytes 25 = .ok (.iload_n 1, 1) := by decide +kernel
theorem dX1_addBytes_26 : decode cX1_addBytes 26 = .ok (.iload_n 2, 1) := by decide +kernel
theorem dX1_addBytes_27 : decode cX1_addBytes 27 = .ok (.ishr, 1) := by decide +kernel
theorem dX1_addBytes_28 : decode cX1_addBytes 28 = .ok (.i2b, 1) := by decide +kernel
theorem dX1_addBytes_29 : decode cX1_addBytes 29 = .ok (.bastore, 1) := by decide +kernel
theorem dX1_addBytes_30 : decode cX1_addBytes 30 = .ok (.aload_n 0, 1) := by decide +kernel
theorem dX1_addBytes_31 : decode cX1_addBytes 31 = .ok (.dup, 1) := by decide +kernel
theorem dX1_addBytes_32 : decode cX1_addBytes 32 = .ok (.getfield 23, 3) := by decide +kernel
theorem dX1_addBytes_35 : decode cX1_addBytes 35 = .ok (.iconst 1, 1) := by decide +kernel
theorem dX1_addBytes_36 : decode cX1_addBytes 36 = .ok (.iadd, 1) := by decide +kernel
theorem dX1_addBytes_37 : decode cX1_addBytes 37 = .ok (.putfield 23, 3) := by decide +kernel
theorem dX1_addBytes_40 : decode cX1_addBytes 40 = .ok (.iinc 2 (-8), 3) := by decide +kernel
theorem dX1_addBytes_43 : decode cX1_addBytes 43 = .ok (.goto (-40), 3) := by decide +kernel
theorem dX1_addBytes_46 : decode cX1_addBytes 46 = .ok (.return_, 1) := by decide +kernel
theorem dX1_failed_0 : decode cX1_failed 0 = .ok (.aload_n 0, 1) := by decide +kernel
theorem dX1_failed_1 : decode cX1_failed 1 = .ok (.getfield 26, 3) := by decide +kernel
theorem dX1_failed_4 : decode cX1_failed 4 = .ok (.ifCond .eq 7, 3) := by decide +kernel
theorem dX1_failed_7 : decode cX1_failed 7 = .ok (.iconst 1, 1) := by decide +kernel
theorem dX1_failed_8 : decode cX1_failed 8 = .ok (.goto 4, 3) := by decide +kernel
theorem dX1_failed_11 : decode cX1_failed 11 = .ok (.iconst 0, 1) := by decide +kernel
theorem dX1_failed_12 : decode cX1_failed 12 = .ok (.ireturn, 1) := by decide +kernel
theorem dX1_isLetter_0 : decode cX1_isLetter 0 = .ok (.iload_n 0, 1) := by decide +kernel
theorem dX1_isLetter_1 : decode cX1_isLetter 1 = .ok (.bipush 97, 2) := by decide +kernel
theorem dX1_isLetter_3 : decode cX1_isLetter 3 = .ok (.if_icmp .lt 13, 3) := by decide +kernel
theorem dX1_isLetter_6 : decode cX1_isLetter 6 = .ok (.iload_n 0, 1) := by decide +kernel
theorem dX1_isLetter_7 : decode cX1_isLetter 7 = .ok (.bipush 122, 2) := by decide +kernel
theorem dX1_isLetter_9 : decode cX1_isLetter 9 = .ok (.if_icmp .gt 7, 3) := by decide +kernel
theorem dX1_isLetter_12 : decode cX1_isLetter 12 = .ok (.iconst 1, 1) := by decide +kernel
theorem dX1_isLetter_13 : decode cX1_isLetter 13 = .ok (.goto 4, 3) := by decide +kernel
theorem dX1_isLetter_16 : decode cX1_isLetter 16 = .ok (.iconst 0, 1) := by decide +kernel
theorem dX1_isLetter_17 : decode cX1_isLetter 17 = .ok (.ireturn, 1) := by decide +kernel
theorem dX1_isDigit_0 : decode cX1_isDigit 0 = .ok (.iload_n 0, 1) := by decide +kernel
theorem dX1_isDigit_1 : decode cX1_isDigit 1 = .ok (.bipush 48, 2) := by decide +kernel
theorem dX1_isDigit_3 : decode cX1_isDigit 3 = .ok (.if_icmp .lt 13, 3) := by decide +kernel
theorem dX1_isDigit_6 : decode cX1_isDigit 6 = .ok (.iload_n 0, 1) := by decide +kernel
theorem dX1_isDigit_7 : decode cX1_isDigit 7 = .ok (.bipush 57, 2) := by decide +kernel
theorem dX1_isDigit_9 : decode cX1_isDigit 9 = .ok (.if_icmp .gt 7, 3) := by decide +kernel
theorem dX1_isDigit_12 : decode cX1_isDigit 12 = .ok (.iconst 1, 1) := by decide +kernel
theorem dX1_isDigit_13 : decode cX1_isDigit 13 = .ok (.goto 4, 3) := by decide +kernel
theorem dX1_isDigit_16 : decode cX1_isDigit 16 = .ok (.iconst 0, 1) := by decide +kernel
theorem dX1_isDigit_17 : decode cX1_isDigit 17 = .ok (.ireturn, 1) := by decide +kernel
theorem dX1_advance_0 : decode cX1_advance 0 = .ok (.aload_n 0, 1) := by decide +kernel
theorem dX1_advance_1 : decode cX1_advance 1 = .ok (.invokevirtual 35, 3) := by decide +kernel
theorem dX1_advance_4 : decode cX1_advance 4 = .ok (.ifCond .eq 4, 3) := by decide +kernel
theorem dX1_advance_7 : decode cX1_advance 7 = .ok (.return_, 1) := by decide +kernel
theorem dX1_advance_8 : decode cX1_advance 8 = .ok (.aload_n 0, 1) := by decide +kernel
theorem dX1_advance_9 : decode cX1_advance 9 = .ok (.aload_n 0, 1) := by decide +kernel
theorem dX1_advance_10 : decode cX1_advance 10 = .ok (.getfield 29, 3) := by decide +kernel
theorem dX1_advance_13 : decode cX1_advance 13 = .ok (.putfield 39, 3) := by decide +kernel
theorem dX1_advance_16 : decode cX1_advance 16 = .ok (.aload_n 0, 1) := by decide +kernel
theorem dX1_advance_17 : decode cX1_advance 17 = .ok (.getfield 39, 3) := by decide +kernel
theorem dX1_advance_20 : decode cX1_advance 20 = .ok (.aload_n 0, 1) := by decide +kernel
theorem dX1_advance_21 : decode cX1_advance 21 = .ok (.getfield 23, 3) := by decide +kernel
theorem dX1_advance_24 : decode cX1_advance 24 = .ok (.if_icmp .ge 30, 3) := by decide +kernel
theorem dX1_advance_27 : decode cX1_advance 27 = .ok (.aload_n 0, 1) := by decide +kernel
theorem dX1_advance_28 : decode cX1_advance 28 = .ok (.getfield 9, 3) := by decide +kernel
theorem dX1_advance_31 : decode cX1_advance 31 = .ok (.aload_n 0, 1) := by decide +kernel
theorem dX1_advance_32 : decode cX1_advance 32 = .ok (.getfield 39, 3) := by decide +kernel
theorem dX1_advance_35 : decode cX1_advance 35 = .ok (.baload, 1) := by decide +kernel
theorem dX1_advance_36 : decode cX1_advance 36 = .ok (.bipush 32, 2) := by decide +kernel
theorem dX1_advance_38 : decode cX1_advance 38 = .ok (.if_icmp .ne 16, 3) := by decide +kernel
theorem dX1_advance_41 : decode cX1_advance 41 = .ok (.aload_n 0, 1) := by decide +kernel
theorem dX1_advance_42 : decode cX1_advance 42 = .ok (.dup, 1) := by decide +kernel
theorem dX1_advance_43 : decode cX1_advance 43 = .ok (.getfield 39, 3) := by decide +kernel
theorem dX1_advance_46 : decode cX1_advance 46 = .ok (.iconst 1, 1) := by decide +kernel
theorem dX1_advance_47 : decode cX1_advance 47 = .ok (.iadd, 1) := by decide +kernel
theorem dX1_advance_48 : decode cX1_advance 48 = .ok (.putfield 39, 3) := by decide +kernel
theorem dX1_advance_51 : decode cX1_advance 51 = .ok (.goto (-35), 3) := by decide +kernel
theorem dX1_advance_54 : decode cX1_advance 54 = .ok (.aload_n 0, 1) := by decide +kernel
theorem dX1_advance_55 : decode cX1_advance 55 = .ok (.aload_n 0, 1) := by decide +kernel
theorem dX1_advance_56 : decode cX1_advance 56 = .ok (.getfield 39, 3) := by decide +kernel
theorem dX1_advance_59 : decode cX1_advance 59 = .ok (.putfield 29, 3) := by decide +kernel
theorem dX1_advance_62 : decode cX1_advance 62 = .ok (.aload_n 0, 1) := by decide +kernel
theorem dX1_advance_63 : decode cX1_advance 63 = .ok (.getfield 39, 3) := by decide +kernel
theorem dX1_advance_66 : decode cX1_advance 66 = .ok (.aload_n 0, 1) := by decide +kernel
theorem dX1_advance_67 : decode cX1_advance 67 = .ok (.getfield 23, 3) := by decide +kernel
theorem dX1_advance_70 : decode cX1_advance 70 = .ok (.if_icmp .lt 11, 3) := by decide +kernel
theorem dX1_advance_73 : decode cX1_advance 73 = .ok (.aload_n 0, 1) := by decide +kernel
theorem dX1_advance_74 : decode cX1_advance 74 = .ok (.iconst 0, 1) := by decide +kernel
theorem dX1_advance_75 : decode cX1_advance 75 = .ok (.putfield 42, 3) := by decide +kernel
theorem dX1_advance_78 : decode cX1_advance 78 = .ok (.goto 188, 3) := by decide +kernel
theorem dX1_advance_81 : decode cX1_advance 81 = .ok (.aload_n 0, 1) := by decide +kernel
theorem dX1_advance_82 : decode cX1_advance 82 = .ok (.getfield 9, 3) := by decide +kernel
theorem dX1_advance_85 : decode cX1_advance 85 = .ok (.aload_n 0, 1) := by decide +kernel
theorem dX1_advance_86 : decode cX1_advance 86 = .ok (.getfield 39, 3) := by decide +kernel
theorem dX1_advance_89 : decode cX1_advance 89 = .ok (.baload, 1) := by decide +kernel
theorem dX1_advance_90 : decode cX1_advance 90 = .ok (.invokestatic 45, 3) := by decide +kernel
theorem dX1_advance_93 : decode cX1_advance 93 = .ok (.ifCond .eq 47, 3) := by decide +kernel
theorem dX1_advance_96 : decode cX1_advance 96 = .ok (.aload_n 0, 1) := by decide +kernel
theorem dX1_advance_97 : decode cX1_advance 97 = .ok (.iconst 1, 1) := by decide +kernel
theorem dX1_advance_98 : decode cX1_advance 98 = .ok (.putfield 42, 3) := by decide +kernel
theorem dX1_advance_101 : decode cX1_advance 101 = .ok (.aload_n 0, 1) := by decide +kernel
theorem dX1_advance_102 : decode cX1_advance 102 = .ok (.getfield 29, 3) := by decide +kernel
theorem dX1_advance_105 : decode cX1_advance 105 = .ok (.aload_n 0, 1) := by decide +kernel
theorem dX1_advance_106 : decode cX1_advance 106 = .ok (.getfield 23, 3) := by decide +kernel
theorem dX1_advance_109 : decode cX1_advance 109 = .ok (.if_icmp .ge 157, 3) := by decide +kernel
theorem dX1_advance_112 : decode cX1_advance 112 = .ok (.aload_n 0, 1) := by decide +kernel
theorem dX1_advance_113 : decode cX1_advance 113 = .ok (.getfield 9, 3) := by decide +kernel
theorem dX1_advance_116 : decode cX1_advance 116 = .ok (.aload_n 0, 1) := by decide +kernel
theorem dX1_advance_117 : decode cX1_advance 117 = .ok (.getfield 29, 3) := by decide +kernel
theorem dX1_advance_120 : decode cX1_advance 120 = .ok (.baload, 1) := by decide +kernel
theorem dX1_advance_121 : decode cX1_advance 121 = .ok (.invokestatic 45, 3) := by decide +kernel
theorem dX1_advance_124 : decode cX1_advance 124 = .ok (.ifCond .eq 142, 3) := by decide +kernel
theorem dX1_advance_127 : decode cX1_advance 127 = .ok (.aload_n 0, 1) := by decide +kernel
theorem dX1_advance_128 : decode cX1_advance 128 = .ok (.dup, 1) := by decide +kernel
theorem dX1_advance_129 : decode cX1_advance 129 = .ok (.getfield 29, 3) := by decide +kernel
theorem dX1_advance_132 : decode cX1_advance 132 = .ok (.iconst 1, 1) := by decide +kernel
theorem dX1_advance_133 : decode cX1_advance 133 = .ok (.iadd, 1) := by decide +kernel
theorem dX1_advance_134 : decode cX1_advance 134 = .ok (.putfield 29, 3) := by decide +kernel
theorem dX1_advance_137 : decode cX1_advance 137 = .ok (.goto (-36), 3) := by decide +kernel
theorem dX1_advance_140 : decode cX1_advance 140 = .ok (.aload_n 0, 1) := by decide +kernel
theorem dX1_advance_141 : decode cX1_advance 141 = .ok (.getfield 9, 3) := by decide +kernel
theorem dX1_advance_144 : decode cX1_advance 144 = .ok (.aload_n 0, 1) := by decide +kernel
theorem dX1_advance_145 : decode cX1_advance 145 = .ok (.getfield 39, 3) := by decide +kernel
theorem dX1_advance_148 : decode cX1_advance 148 = .ok (.baload, 1) := by decide +kernel
theorem dX1_advance_149 : decode cX1_advance 149 = .ok (.invokestatic 49, 3) := by decide +kernel
theorem dX1_advance_152 : decode cX1_advance 152 = .ok (.ifCond .eq 81, 3) := by decide +kernel
theorem dX1_advance_155 : decode cX1_advance 155 = .ok (.aload_n 0, 1) := by decide +kernel
theorem dX1_advance_156 : decode cX1_advance 156 = .ok (.iconst 2, 1) := by decide +kernel
theorem dX1_advance_157 : decode cX1_advance 157 = .ok (.putfield 42, 3) := by decide +kernel
theorem dX1_advance_160 : decode cX1_advance 160 = .ok (.aload_n 0, 1) := by decide +kernel
theorem dX1_advance_161 : decode cX1_advance 161 = .ok (.iconst 0, 1) := by decide +kernel
theorem dX1_advance_162 : decode cX1_advance 162 = .ok (.putfield 52, 3) := by decide +kernel
theorem dX1_advance_165 : decode cX1_advance 165 = .ok (.aload_n 0, 1) := by decide +kernel
theorem dX1_advance_166 : decode cX1_advance 166 = .ok (.getfield 29, 3) := by decide +kernel
theorem dX1_advance_169 : decode cX1_advance 169 = .ok (.aload_n 0, 1) := by decide +kernel
theorem dX1_advance_170 : decode cX1_advance 170 = .ok (.getfield 23, 3) := by decide +kernel
theorem dX1_advance_173 : decode cX1_advance 173 = .ok (.if_icmp .ge 93, 3) := by decide +kernel
theorem dX1_advance_176 : decode cX1_advance 176 = .ok (.aload_n 0, 1) := by decide +kernel
theorem dX1_advance_177 : decode cX1_advance 177 = .ok (.getfield 9, 3) := by decide +kernel
theorem dX1_advance_180 : decode cX1_advance 180 = .ok (.aload_n 0, 1) := by decide +kernel
theorem dX1_advance_181 : decode cX1_advance 181 = .ok (.getfield 29, 3) := by decide +kernel
theorem dX1_advance_184 : decode cX1_advance 184 = .ok (.baload, 1) := by decide +kernel
theorem dX1_advance_185 : decode cX1_advance 185 = .ok (.invokestatic 49, 3) := by decide +kernel
theorem dX1_advance_188 : decode cX1_advance 188 = .ok (.ifCond .eq 78, 3) := by decide +kernel
theorem dX1_advance_191 : decode cX1_advance 191 = .ok (.aload_n 0, 1) := by decide +kernel
theorem dX1_advance_192 : decode cX1_advance 192 = .ok (.ldc 55, 2) := by decide +kernel
theorem dX1_advance_194 : decode cX1_advance 194 = .ok (.aload_n 0, 1) := by decide +kernel
theorem dX1_advance_195 : decode cX1_advance 195 = .ok (.getfield 52, 3) := by decide +kernel
theorem dX1_advance_198 : decode cX1_advance 198 = .ok (.bipush 10, 2) := by decide +kernel
theorem dX1_advance_200 : decode cX1_advance 200 = .ok (.imul, 1) := by decide +kernel
theorem dX1_advance_201 : decode cX1_advance 201 = .ok (.aload_n 0, 1) := by decide +kernel
theorem dX1_advance_202 : decode cX1_advance 202 = .ok (.getfield 9, 3) := by decide +kernel
theorem dX1_advance_205 : decode cX1_advance 205 = .ok (.aload_n 0, 1) := by decide +kernel
theorem dX1_advance_206 : decode cX1_advance 206 = .ok (.getfield 29, 3) := by decide +kernel
theorem dX1_advance_209 : decode cX1_advance 209 = .ok (.baload, 1) := by decide +kernel
theorem dX1_advance_210 : decode cX1_advance 210 = .ok (.iadd, 1) := by decide +kernel
theorem dX1_advance_211 : decode cX1_advance 211 = .ok (.bipush 48, 2) := by decide +kernel
theorem dX1_advance_213 : decode cX1_advance 213 = .ok (.isub, 1) := by decide +kernel
theorem dX1_advance_214 : decode cX1_advance 214 = .ok (.invokestatic 56, 3) := by decide +kernel
theorem dX1_advance_217 : decode cX1_advance 217 = .ok (.putfield 52, 3) := by decide +kernel
theorem dX1_advance_220 : decode cX1_advance 220 = .ok (.aload_n 0, 1) := by decide +kernel
theorem dX1_advance_221 : decode cX1_advance 221 = .ok (.dup, 1) := by decide +kernel
theorem dX1_advance_222 : decode cX1_advance 222 = .ok (.getfield 29, 3) := by decide +kernel
theorem dX1_advance_225 : decode cX1_advance 225 = .ok (.iconst 1, 1) := by decide +kernel
theorem dX1_advance_226 : decode cX1_advance 226 = .ok (.iadd, 1) := by decide +kernel
theorem dX1_advance_227 : decode cX1_advance 227 = .ok (.putfield 29, 3) := by decide +kernel
theorem dX1_advance_230 : decode cX1_advance 230 = .ok (.goto (-65), 3) := by decide +kernel
theorem dX1_advance_233 : decode cX1_advance 233 = .ok (.aload_n 0, 1) := by decide +kernel
theorem dX1_advance_234 : decode cX1_advance 234 = .ok (.aload_n 0, 1) := by decide +kernel
theorem dX1_advance_235 : decode cX1_advance 235 = .ok (.getfield 9, 3) := by decide +kernel
theorem dX1_advance_238 : decode cX1_advance 238 = .ok (.aload_n 0, 1) := by decide +kernel
theorem dX1_advance_239 : decode cX1_advance 239 = .ok (.getfield 39, 3) := by decide +kernel
theorem dX1_advance_242 : decode cX1_advance 242 = .ok (.baload, 1) := by decide +kernel
theorem dX1_advance_243 : decode cX1_advance 243 = .ok (.bipush 59, 2) := by decide +kernel
theorem dX1_advance_245 : decode cX1_advance 245 = .ok (.if_icmp .ne 7, 3) := by decide +kernel
theorem dX1_advance_248 : decode cX1_advance 248 = .ok (.iconst 3, 1) := by decide +kernel
theorem dX1_advance_249 : decode cX1_advance 249 = .ok (.goto 4, 3) := by decide +kernel
theorem dX1_advance_252 : decode cX1_advance 252 = .ok (.iconst 4, 1) := by decide +kernel
theorem dX1_advance_253 : decode cX1_advance 253 = .ok (.putfield 42, 3) := by decide +kernel
theorem dX1_advance_256 : decode cX1_advance 256 = .ok (.aload_n 0, 1) := by decide +kernel
theorem dX1_advance_257 : decode cX1_advance 257 = .ok (.aload_n 0, 1) := by decide +kernel
theorem dX1_advance_258 : decode cX1_advance 258 = .ok (.getfield 39, 3) := by decide +kernel
theorem dX1_advance_261 : decode cX1_advance 261 = .ok (.iconst 1, 1) := by decide +kernel
theorem dX1_advance_262 : decode cX1_advance 262 = .ok (.iadd, 1) := by decide +kernel
theorem dX1_advance_263 : decode cX1_advance 263 = .ok (.putfield 29, 3) := by decide +kernel
theorem dX1_advance_266 : decode cX1_advance 266 = .ok (.return_, 1) := by decide +kernel
theorem dX1_begin_0 : decode cX1_begin 0 = .ok (.aload_n 0, 1) := by decide +kernel
theorem dX1_begin_1 : decode cX1_begin 1 = .ok (.iconst 0, 1) := by decide +kernel
theorem dX1_begin_2 : decode cX1_begin 2 = .ok (.putfield 26, 3) := by decide +kernel
theorem dX1_begin_5 : decode cX1_begin 5 = .ok (.aload_n 0, 1) := by decide +kernel
theorem dX1_begin_6 : decode cX1_begin 6 = .ok (.iconst (-1), 1) := by decide +kernel
theorem dX1_begin_7 : decode cX1_begin 7 = .ok (.putfield 15, 3) := by decide +kernel
theorem dX1_begin_10 : decode cX1_begin 10 = .ok (.aload_n 0, 1) := by decide +kernel
theorem dX1_begin_11 : decode cX1_begin 11 = .ok (.iconst 0, 1) := by decide +kernel
theorem dX1_begin_12 : decode cX1_begin 12 = .ok (.putfield 29, 3) := by decide +kernel
theorem dX1_begin_15 : decode cX1_begin 15 = .ok (.aload_n 0, 1) := by decide +kernel
theorem dX1_begin_16 : decode cX1_begin 16 = .ok (.invokevirtual 32, 3) := by decide +kernel
theorem dX1_begin_19 : decode cX1_begin 19 = .ok (.return_, 1) := by decide +kernel
theorem dJ0_coder_7d493_0 : decode cJ0_coder_7d493 0 = .ok (.getstatic 38, 3) := by decide +kernel
theorem dJ0_coder_7d493_3 : decode cJ0_coder_7d493 3 = .ok (.ifCond .eq 10, 3) := by decide +kernel
theorem dJ0_coder_7d493_6 : decode cJ0_coder_7d493 6 = .ok (.aload_n 0, 1) := by decide +kernel
theorem dJ0_coder_7d493_7 : decode cJ0_coder_7d493 7 = .ok (.getfield 15, 3) := by decide +kernel
theorem dJ0_coder_7d493_10 : decode cJ0_coder_7d493 10 = .ok (.goto 4, 3) := by decide +kernel
theorem dJ0_coder_7d493_14 : decode cJ0_coder_7d493 14 = .ok (.ireturn, 1) := by decide +kernel
theorem dJ0_length_8abf5_0 : decode cJ0_length_8abf5 0 = .ok (.aload_n 0, 1) := by decide +kernel
theorem dJ0_length_8abf5_1 : decode cJ0_length_8abf5 1 = .ok (.getfield 9, 3) := by decide +kernel
theorem dJ0_length_8abf5_4 : decode cJ0_length_8abf5 4 = .ok (.arraylength, 1) := by decide +kernel
theorem dJ0_length_8abf5_5 : decode cJ0_length_8abf5 5 = .ok (.aload_n 0, 1) := by decide +kernel
theorem dJ0_length_8abf5_6 : decode cJ0_length_8abf5 6 = .ok (.invokevirtual 335, 3) := by decide +kernel
theorem dJ0_length_8abf5_9 : decode cJ0_length_8abf5 9 = .ok (.ishr, 1) := by decide +kernel
theorem dJ0_length_8abf5_10 : decode cJ0_length_8abf5 10 = .ok (.ireturn, 1) := by decide +kernel
theorem dJ0_isLatin1_aae02_0 : decode cJ0_isLatin1_aae02 0 = .ok (.getstatic 38, 3) := by decide +kernel
theorem dJ0_isLatin1_aae02_3 : decode cJ0_isLatin1_aae02 3 = .ok (.ifCond .eq 14, 3) := by decide +kernel
theorem dJ0_isLatin1_aae02_6 : decode cJ0_isLatin1_aae02 6 = .ok (.aload_n 0, 1) := by decide +kernel
theorem dJ0_isLatin1_aae02_7 : decode cJ0_isLatin1_aae02 7 = .ok (.getfield 15, 3) := by decide +kernel
theorem dJ0_isLatin1_aae02_10 : decode cJ0_isLatin1_aae02 10 = .ok (.ifCond .ne 7, 3) := by decide +kernel
theorem dJ0_isLatin1_aae02_13 : decode cJ0_isLatin1_aae02 13 = .ok (.iconst 1, 1) := by decide +kernel
theorem dJ0_isLatin1_aae02_14 : decode cJ0_isLatin1_aae02 14 = .ok (.goto 4, 3) := by decide +kernel
theorem dJ0_isLatin1_aae02_17 : decode cJ0_isLatin1_aae02 17 = .ok (.iconst 0, 1) := by decide +kernel
theorem dJ0_isLatin1_aae02_18 : decode cJ0_isLatin1_aae02 18 = .ok (.ireturn, 1) := by decide +kernel
theorem dJ3_checkIndex_8e157_0 : decode cJ3_checkIndex_8e157 0 = .ok (.iload_n 0, 1) := by decide +kernel
theorem dJ3_checkIndex_8e157_1 : decode cJ3_checkIndex_8e157 1 = .ok (.ifCond .lt 8, 3) := by decide +kernel
theorem dJ3_checkIndex_8e157_4 : decode cJ3_checkIndex_8e157 4 = .ok (.iload_n 0, 1) := by decide +kernel
theorem dJ3_checkIndex_8e157_5 : decode cJ3_checkIndex_8e157 5 = .ok (.iload_n 1, 1) := by decide +kernel
theorem dJ3_checkIndex_8e157_6 : decode cJ3_checkIndex_8e157 6 = .ok (.if_icmp .lt 10, 3) := by decide +kernel
theorem dJ3_checkIndex_8e157_16 : decode cJ3_checkIndex_8e157 16 = .ok (.iload_n 0, 1) := by decide +kernel
theorem dJ3_checkIndex_8e157_17 : decode cJ3_checkIndex_8e157 17 = .ok (.ireturn, 1) := by decide +kernel
theorem dJ0_checkIndex_df160_0 : decode cJ0_checkIndex_df160 0 = .ok (.iload_n 0, 1) := by decide +kernel
theorem dJ0_checkIndex_df160_1 : decode cJ0_checkIndex_df160 1 = .ok (.iload_n 1, 1) := by decide +kernel
theorem dJ0_checkIndex_df160_2 : decode cJ0_checkIndex_df160 2 = .ok (.getstatic 1053, 3) := by decide +kernel
theorem dJ0_checkIndex_df160_5 : decode cJ0_checkIndex_df160 5 = .ok (.invokestatic 1059, 3) := by decide +kernel
theorem dJ0_checkIndex_df160_8 : decode cJ0_checkIndex_df160 8 = .ok (.pop, 1) := by decide +kernel
theorem dJ0_checkIndex_df160_9 : decode cJ0_checkIndex_df160 9 = .ok (.return_, 1) := by decide +kernel
theorem dJ1_charAt_3b067_0 : decode cJ1_charAt_3b067 0 = .ok (.iload_n 1, 1) := by decide +kernel
theorem dJ1_charAt_3b067_1 : decode cJ1_charAt_3b067 1 = .ok (.aload_n 0, 1) := by decide +kernel
theorem dJ1_charAt_3b067_2 : decode cJ1_charAt_3b067 2 = .ok (.arraylength, 1) := by decide +kernel
theorem dJ1_charAt_3b067_3 : decode cJ1_charAt_3b067 3 = .ok (.invokestatic 9, 3) := by decide +kernel
theorem dJ1_charAt_3b067_6 : decode cJ1_charAt_3b067 6 = .ok (.aload_n 0, 1) := by decide +kernel
theorem dJ1_charAt_3b067_7 : decode cJ1_charAt_3b067 7 = .ok (.iload_n 1, 1) := by decide +kernel
theorem dJ1_charAt_3b067_8 : decode cJ1_charAt_3b067 8 = .ok (.baload, 1) := by decide +kernel
theorem dJ1_charAt_3b067_9 : decode cJ1_charAt_3b067 9 = .ok (.sipush 255, 3) := by decide +kernel
theorem dJ1_charAt_3b067_12 : decode cJ1_charAt_3b067 12 = .ok (.iand, 1) := by decide +kernel
theorem dJ1_charAt_3b067_13 : decode cJ1_charAt_3b067 13 = .ok (.i2c, 1) := by decide +kernel
theorem dJ1_charAt_3b067_14 : decode cJ1_charAt_3b067 14 = .ok (.ireturn, 1) := by decide +kernel
theorem dJ0_charAt_5068e_0 : decode cJ0_charAt_5068e 0 = .ok (.aload_n 0, 1) := by decide +kernel
theorem dJ0_charAt_5068e_1 : decode cJ0_charAt_5068e 1 = .ok (.invokevirtual 492, 3) := by decide +kernel
theorem dJ0_charAt_5068e_4 : decode cJ0_charAt_5068e 4 = .ok (.ifCond .eq 12, 3) := by decide +kernel
theorem dJ0_charAt_5068e_7 : decode cJ0_charAt_5068e 7 = .ok (.aload_n 0, 1) := by decide +kernel
theorem dJ0_charAt_5068e_8 : decode cJ0_charAt_5068e 8 = .ok (.getfield 9, 3) := by decide +kernel
theorem dJ0_charAt_5068e_11 : decode cJ0_charAt_5068e 11 = .ok (.iload_n 1, 1) := by decide +kernel
theorem dJ0_charAt_5068e_12 : decode cJ0_charAt_5068e 12 = .ok (.invokestatic 495, 3) := by decide +kernel
theorem dJ0_charAt_5068e_15 : decode cJ0_charAt_5068e 15 = .ok (.ireturn, 1) := by decide +kernel
theorem dX1_tokenIs_0 : decode cX1_tokenIs 0 = .ok (.aload_n 0, 1) := by decide +kernel
theorem dX1_tokenIs_1 : decode cX1_tokenIs 1 = .ok (.getfield 42, 3) := by decide +kernel
theorem dX1_tokenIs_4 : decode cX1_tokenIs 4 = .ok (.iconst 1, 1) := by decide +kernel
theorem dX1_tokenIs_5 : decode cX1_tokenIs 5 = .ok (.if_icmp .ne 19, 3) := by decide +kernel
theorem dX1_tokenIs_8 : decode cX1_tokenIs 8 = .ok (.aload_n 0, 1) := by decide +kernel
theorem dX1_tokenIs_9 : decode cX1_tokenIs 9 = .ok (.getfield 29, 3) := by decide +kernel
theorem dX1_tokenIs_12 : decode cX1_tokenIs 12 = .ok (.aload_n 0, 1) := by decide +kernel
theorem dX1_tokenIs_13 : decode cX1_tokenIs 13 = .ok (.getfield 39, 3) := by decide +kernel
theorem dX1_tokenIs_16 : decode cX1_tokenIs 16 = .ok (.isub, 1) := by decide +kernel
theorem dX1_tokenIs_17 : decode cX1_tokenIs 17 = .ok (.aload_n 1, 1) := by decide +kernel
theorem dX1_tokenIs_18 : decode cX1_tokenIs 18 = .ok (.invokevirtual 62, 3) := by decide +kernel
theorem dX1_tokenIs_21 : decode cX1_tokenIs 21 = .ok (.if_icmp .eq 5, 3) := by decide +kernel
theorem dX1_tokenIs_24 : decode cX1_tokenIs 24 = .ok (.iconst 0, 1) := by decide +kernel
theorem dX1_tokenIs_25 : decode cX1_tokenIs 25 = .ok (.ireturn, 1) := by decide +kernel
theorem dX1_tokenIs_26 : decode cX1_tokenIs 26 = .ok (.iconst 0, 1) := by decide +kernel
theorem dX1_tokenIs_27 : decode cX1_tokenIs 27 = .ok (.istore_n 2, 1) := by decide +kernel
theorem dX1_tokenIs_28 : decode cX1_tokenIs 28 = .ok (.iload_n 2, 1) := by decide +kernel
theorem dX1_tokenIs_29 : decode cX1_tokenIs 29 = .ok (.aload_n 1, 1) := by decide +kernel
theorem dX1_tokenIs_30 : decode cX1_tokenIs 30 = .ok (.invokevirtual 62, 3) := by decide +kernel
theorem dX1_tokenIs_33 : decode cX1_tokenIs 33 = .ok (.if_icmp .ge 30, 3) := by decide +kernel
theorem dX1_tokenIs_36 : decode cX1_tokenIs 36 = .ok (.aload_n 0, 1) := by decide +kernel
theorem dX1_tokenIs_37 : decode cX1_tokenIs 37 = .ok (.getfield 9, 3) := by decide +kernel
theorem dX1_tokenIs_40 : decode cX1_tokenIs 40 = .ok (.aload_n 0, 1) := by decide +kernel
theorem dX1_tokenIs_41 : decode cX1_tokenIs 41 = .ok (.getfield 39, 3) := by decide +kernel
theorem dX1_tokenIs_44 : decode cX1_tokenIs 44 = .ok (.iload_n 2, 1) := by decide +kernel
theorem dX1_tokenIs_45 : decode cX1_tokenIs 45 = .ok (.iadd, 1) := by decide +kernel
theorem dX1_tokenIs_46 : decode cX1_tokenIs 46 = .ok (.baload, 1) := by decide +kernel
theorem dX1_tokenIs_47 : decode cX1_tokenIs 47 = .ok (.aload_n 1, 1) := by decide +kernel
theorem dX1_tokenIs_48 : decode cX1_tokenIs 48 = .ok (.iload_n 2, 1) := by decide +kernel
theorem dX1_tokenIs_49 : decode cX1_tokenIs 49 = .ok (.invokevirtual 67, 3) := by decide +kernel
theorem dX1_tokenIs_52 : decode cX1_tokenIs 52 = .ok (.if_icmp .eq 5, 3) := by decide +kernel
theorem dX1_tokenIs_55 : decode cX1_tokenIs 55 = .ok (.iconst 0, 1) := by decide +kernel
theorem dX1_tokenIs_56 : decode cX1_tokenIs 56 = .ok (.ireturn, 1) := by decide +kernel
theorem dX1_tokenIs_57 : decode cX1_tokenIs 57 = .ok (.iinc 2 1, 3) := by decide +kernel
theorem dX1_tokenIs_60 : decode cX1_tokenIs 60 = .ok (.goto (-32), 3) := by decide +kernel
theorem dX1_tokenIs_63 : decode cX1_tokenIs 63 = .ok (.iconst 1, 1) := by decide +kernel
theorem dX1_tokenIs_64 : decode cX1_tokenIs 64 = .ok (.ireturn, 1) := by decide +kernel
theorem dX1_fail_0 : decode cX1_fail 0 = .ok (.aload_n 0, 1) := by decide +kernel
theorem dX1_fail_1 : decode cX1_fail 1 = .ok (.invokevirtual 35, 3) := by decide +kernel
theorem dX1_fail_4 : decode cX1_fail 4 = .ok (.ifCond .ne 16, 3) := by decide +kernel
theorem dX1_fail_7 : decode cX1_fail 7 = .ok (.aload_n 0, 1) := by decide +kernel
theorem dX1_fail_8 : decode cX1_fail 8 = .ok (.iload_n 1, 1) := by decide +kernel
theorem dX1_fail_9 : decode cX1_fail 9 = .ok (.putfield 26, 3) := by decide +kernel
theorem dX1_fail_12 : decode cX1_fail 12 = .ok (.aload_n 0, 1) := by decide +kernel
theorem dX1_fail_13 : decode cX1_fail 13 = .ok (.aload_n 0, 1) := by decide +kernel
theorem dX1_fail_14 : decode cX1_fail 14 = .ok (.getfield 39, 3) := by decide +kernel
theorem dX1_fail_17 : decode cX1_fail 17 = .ok (.putfield 15, 3) := by decide +kernel
theorem dX1_fail_20 : decode cX1_fail 20 = .ok (.iconst (-1), 1) := by decide +kernel
theorem dX1_fail_21 : decode cX1_fail 21 = .ok (.ireturn, 1) := by decide +kernel
theorem dX1_readKeyword_0 : decode cX1_readKeyword 0 = .ok (.aload_n 0, 1) := by decide +kernel
theorem dX1_readKeyword_1 : decode cX1_readKeyword 1 = .ok (.aload_n 1, 1) := by decide +kernel
theorem dX1_readKeyword_2 : decode cX1_readKeyword 2 = .ok (.invokevirtual 71, 3) := by decide +kernel
theorem dX1_readKeyword_5 : decode cX1_readKeyword 5 = .ok (.ifCond .ne 12, 3) := by decide +kernel
theorem dX1_readKeyword_8 : decode cX1_readKeyword 8 = .ok (.aload_n 0, 1) := by decide +kernel
theorem dX1_readKeyword_9 : decode cX1_readKeyword 9 = .ok (.iconst 1, 1) := by decide +kernel
theorem dX1_readKeyword_10 : decode cX1_readKeyword 10 = .ok (.invokevirtual 75, 3) := by decide +kernel
theorem dX1_readKeyword_13 : decode cX1_readKeyword 13 = .ok (.pop, 1) := by decide +kernel
theorem dX1_readKeyword_14 : decode cX1_readKeyword 14 = .ok (.goto 7, 3) := by decide +kernel
theorem dX1_readKeyword_17 : decode cX1_readKeyword 17 = .ok (.aload_n 0, 1) := by decide +kernel
theorem dX1_readKeyword_18 : decode cX1_readKeyword 18 = .ok (.invokevirtual 32, 3) := by decide +kernel
theorem dX1_readKeyword_21 : decode cX1_readKeyword 21 = .ok (.return_, 1) := by decide +kernel
theorem dX1_readNumber_0 : decode cX1_readNumber 0 = .ok (.aload_n 0, 1) := by decide +kernel
theorem dX1_readNumber_1 : decode cX1_readNumber 1 = .ok (.getfield 42, 3) := by decide +kernel
theorem dX1_readNumber_4 : decode cX1_readNumber 4 = .ok (.iconst 2, 1) := by decide +kernel
theorem dX1_readNumber_5 : decode cX1_readNumber 5 = .ok (.if_icmp .eq 9, 3) := by decide +kernel
theorem dX1_readNumber_8 : decode cX1_readNumber 8 = .ok (.aload_n 0, 1) := by decide +kernel
theorem dX1_readNumber_9 : decode cX1_readNumber 9 = .ok (.iconst 1, 1) := by decide +kernel
theorem dX1_readNumber_10 : decode cX1_readNumber 10 = .ok (.invokevirtual 75, 3) := by decide +kernel
theorem dX1_readNumber_13 : decode cX1_readNumber 13 = .ok (.ireturn, 1) := by decide +kernel
theorem dX1_readNumber_14 : decode cX1_readNumber 14 = .ok (.aload_n 0, 1) := by decide +kernel
theorem dX1_readNumber_15 : decode cX1_readNumber 15 = .ok (.getfield 52, 3) := by decide +kernel
theorem dX1_readNumber_18 : decode cX1_readNumber 18 = .ok (.iload_n 1, 1) := by decide +kernel
theorem dX1_readNumber_19 : decode cX1_readNumber 19 = .ok (.if_icmp .lt 11, 3) := by decide +kernel
theorem dX1_readNumber_22 : decode cX1_readNumber 22 = .ok (.aload_n 0, 1) := by decide +kernel
theorem dX1_readNumber_23 : decode cX1_readNumber 23 = .ok (.getfield 52, 3) := by decide +kernel
theorem dX1_readNumber_26 : decode cX1_readNumber 26 = .ok (.iload_n 2, 1) := by decide +kernel
theorem dX1_readNumber_27 : decode cX1_readNumber 27 = .ok (.if_icmp .le 9, 3) := by decide +kernel
theorem dX1_readNumber_30 : decode cX1_readNumber 30 = .ok (.aload_n 0, 1) := by decide +kernel
theorem dX1_readNumber_31 : decode cX1_readNumber 31 = .ok (.iconst 2, 1) := by decide +kernel
theorem dX1_readNumber_32 : decode cX1_readNumber 32 = .ok (.invokevirtual 75, 3) := by decide +kernel
theorem dX1_readNumber_35 : decode cX1_readNumber 35 = .ok (.ireturn, 1) := by decide +kernel
theorem dX1_readNumber_36 : decode cX1_readNumber 36 = .ok (.aload_n 0, 1) := by decide +kernel
theorem dX1_readNumber_37 : decode cX1_readNumber 37 = .ok (.getfield 52, 3) := by decide +kernel
theorem dX1_readNumber_40 : decode cX1_readNumber 40 = .ok (.istore_n 3, 1) := by decide +kernel
theorem dX1_readNumber_41 : decode cX1_readNumber 41 = .ok (.aload_n 0, 1) := by decide +kernel
theorem dX1_readNumber_42 : decode cX1_readNumber 42 = .ok (.invokevirtual 32, 3) := by decide +kernel
theorem dX1_readNumber_45 : decode cX1_readNumber 45 = .ok (.iload_n 3, 1) := by decide +kernel
theorem dX1_readNumber_46 : decode cX1_readNumber 46 = .ok (.ireturn, 1) := by decide +kernel
theorem dX3_addStop_0 : decode cX3_addStop 0 = .ok (.aload_n 0, 1) := by decide +kernel
theorem dX3_addStop_1 : decode cX3_addStop 1 = .ok (.getfield 49, 3) := by decide +kernel
theorem dX3_addStop_4 : decode cX3_addStop 4 = .ok (.bipush 12, 2) := by decide +kernel
theorem dX3_addStop_6 : decode cX3_addStop 6 = .ok (.if_icmp .ge 23, 3) := by decide +kernel
theorem dX3_addStop_9 : decode cX3_addStop 9 = .ok (.aload_n 0, 1) := by decide +kernel
theorem dX3_addStop_10 : decode cX3_addStop 10 = .ok (.getfield 9, 3) := by decide +kernel
theorem dX3_addStop_13 : decode cX3_addStop 13 = .ok (.aload_n 0, 1) := by decide +kernel
theorem dX3_addStop_14 : decode cX3_addStop 14 = .ok (.getfield 49, 3) := by decide +kernel
theorem dX3_addStop_17 : decode cX3_addStop 17 = .ok (.iload_n 1, 1) := by decide +kernel
theorem dX3_addStop_18 : decode cX3_addStop 18 = .ok (.iastore, 1) := by decide +kernel
theorem dX3_addStop_19 : decode cX3_addStop 19 = .ok (.aload_n 0, 1) := by decide +kernel
theorem dX3_addStop_20 : decode cX3_addStop 20 = .ok (.dup, 1) := by decide +kernel
theorem dX3_addStop_21 : decode cX3_addStop 21 = .ok (.getfield 49, 3) := by decide +kernel
theorem dX3_addStop_24 : decode cX3_addStop 24 = .ok (.iconst 1, 1) := by decide +kernel
theorem dX3_addStop_25 : decode cX3_addStop 25 = .ok (.iadd, 1) := by decide +kernel
theorem dX3_addStop_26 : decode cX3_addStop 26 = .ok (.putfield 49, 3) := by decide +kernel
theorem dX3_addStop_29 : decode cX3_addStop 29 = .ok (.return_, 1) := by decide +kernel
theorem dX1_readZone_0 : decode cX1_readZone 0 = .ok (.aload_n 0, 1) := by decide +kernel
theorem dX1_readZone_1 : decode cX1_readZone 1 = .ok (.getfield 19, 3) := by decide +kernel
theorem dX1_readZone_4 : decode cX1_readZone 4 = .ok (.getfield 79, 3) := by decide +kernel
theorem dX1_readZone_7 : decode cX1_readZone 7 = .ok (.bipush 12, 2) := by decide +kernel
theorem dX1_readZone_9 : decode cX1_readZone 9 = .ok (.if_icmp .ne 25, 3) := by decide +kernel
theorem dX1_readZone_12 : decode cX1_readZone 12 = .ok (.aload_n 0, 1) := by decide +kernel
theorem dX1_readZone_13 : decode cX1_readZone 13 = .ok (.getfield 42, 3) := by decide +kernel
theorem dX1_readZone_16 : decode cX1_readZone 16 = .ok (.iconst 2, 1) := by decide +kernel
theorem dX1_readZone_17 : decode cX1_readZone 17 = .ok (.if_icmp .ne 17, 3) := by decide +kernel
theorem dX1_readZone_20 : decode cX1_readZone 20 = .ok (.aload_n 0, 1) := by decide +kernel
theorem dX1_readZone_21 : decode cX1_readZone 21 = .ok (.getfield 52, 3) := by decide +kernel
theorem dX1_readZone_24 : decode cX1_readZone 24 = .ok (.iconst 3, 1) := by decide +kernel
theorem dX1_readZone_25 : decode cX1_readZone 25 = .ok (.if_icmp .gt 9, 3) := by decide +kernel
theorem dX1_readZone_28 : decode cX1_readZone 28 = .ok (.aload_n 0, 1) := by decide +kernel
theorem dX1_readZone_29 : decode cX1_readZone 29 = .ok (.iconst 5, 1) := by decide +kernel
theorem dX1_readZone_30 : decode cX1_readZone 30 = .ok (.invokevirtual 75, 3) := by decide +kernel
theorem dX1_readZone_33 : decode cX1_readZone 33 = .ok (.pop, 1) := by decide +kernel
theorem dX1_readZone_34 : decode cX1_readZone 34 = .ok (.aload_n 0, 1) := by decide +kernel
theorem dX1_readZone_35 : decode cX1_readZone 35 = .ok (.iconst 0, 1) := by decide +kernel
theorem dX1_readZone_36 : decode cX1_readZone 36 = .ok (.iconst 3, 1) := by decide +kernel
theorem dX1_readZone_37 : decode cX1_readZone 37 = .ok (.invokevirtual 84, 3) := by decide +kernel
theorem dX1_readZone_40 : decode cX1_readZone 40 = .ok (.istore_n 1, 1) := by decide +kernel
theorem dX1_readZone_41 : decode cX1_readZone 41 = .ok (.aload_n 0, 1) := by decide +kernel
theorem dX1_readZone_42 : decode cX1_readZone 42 = .ok (.invokevirtual 35, 3) := by decide +kernel
theorem dX1_readZone_45 : decode cX1_readZone 45 = .ok (.ifCond .ne 11, 3) := by decide +kernel
theorem dX1_readZone_48 : decode cX1_readZone 48 = .ok (.aload_n 0, 1) := by decide +kernel
theorem dX1_readZone_49 : decode cX1_readZone 49 = .ok (.getfield 19, 3) := by decide +kernel
theorem dX1_readZone_52 : decode cX1_readZone 52 = .ok (.iload_n 1, 1) := by decide +kernel
theorem dX1_readZone_53 : decode cX1_readZone 53 = .ok (.invokevirtual 87, 3) := by decide +kernel
theorem dX1_readZone_56 : decode cX1_readZone 56 = .ok (.return_, 1) := by decide +kernel
theorem dX1_readSemicolon_0 : decode cX1_readSemicolon 0 = .ok (.aload_n 0, 1) := by decide +kernel
theorem dX1_readSemicolon_1 : decode cX1_readSemicolon 1 = .ok (.getfield 42, 3) := by decide +kernel
theorem dX1_readSemicolon_4 : decode cX1_readSemicolon 4 = .ok (.iconst 3, 1) := by decide +kernel
theorem dX1_readSemicolon_5 : decode cX1_readSemicolon 5 = .ok (.if_icmp .eq 12, 3) := by decide +kernel
theorem dX1_readSemicolon_8 : decode cX1_readSemicolon 8 = .ok (.aload_n 0, 1) := by decide +kernel
theorem dX1_readSemicolon_9 : decode cX1_readSemicolon 9 = .ok (.iconst 1, 1) := by decide +kernel
theorem dX1_readSemicolon_10 : decode cX1_readSemicolon 10 = .ok (.invokevirtual 75, 3) := by decide +kernel
theorem dX1_readSemicolon_13 : decode cX1_readSemicolon 13 = .ok (.pop, 1) := by decide +kernel
theorem dX1_readSemicolon_14 : decode cX1_readSemicolon 14 = .ok (.goto 21, 3) := by decide +kernel
theorem dX1_readSemicolon_17 : decode cX1_readSemicolon 17 = .ok (.iload_n 1, 1) := by decide +kernel
theorem dX1_readSemicolon_18 : decode cX1_readSemicolon 18 = .ok (.ifCond .ne 13, 3) := by decide +kernel
theorem dX1_readSemicolon_21 : decode cX1_readSemicolon 21 = .ok (.aload_n 0, 1) := by decide +kernel
theorem dX1_readSemicolon_22 : decode cX1_readSemicolon 22 = .ok (.bipush 6, 2) := by decide +kernel
theorem dX1_readSemicolon_24 : decode cX1_readSemicolon 24 = .ok (.invokevirtual 75, 3) := by decide +kernel
theorem dX1_readSemicolon_27 : decode cX1_readSemicolon 27 = .ok (.pop, 1) := by decide +kernel
theorem dX1_readSemicolon_28 : decode cX1_readSemicolon 28 = .ok (.goto 7, 3) := by decide +kernel
theorem dX1_readSemicolon_31 : decode cX1_readSemicolon 31 = .ok (.aload_n 0, 1) := by decide +kernel
theorem dX1_readSemicolon_32 : decode cX1_readSemicolon 32 = .ok (.invokevirtual 32, 3) := by decide +kernel
theorem dX1_readSemicolon_35 : decode cX1_readSemicolon 35 = .ok (.aload_n 0, 1) := by decide +kernel
theorem dX1_readSemicolon_36 : decode cX1_readSemicolon 36 = .ok (.invokevirtual 35, 3) := by decide +kernel
theorem dX1_readSemicolon_39 : decode cX1_readSemicolon 39 = .ok (.ifCond .ne 7, 3) := by decide +kernel
theorem dX1_readSemicolon_42 : decode cX1_readSemicolon 42 = .ok (.iconst 1, 1) := by decide +kernel
theorem dX1_readSemicolon_43 : decode cX1_readSemicolon 43 = .ok (.goto 4, 3) := by decide +kernel
theorem dX1_readSemicolon_46 : decode cX1_readSemicolon 46 = .ok (.iconst 0, 1) := by decide +kernel
theorem dX1_readSemicolon_47 : decode cX1_readSemicolon 47 = .ok (.ireturn, 1) := by decide +kernel
theorem dX1_readLine_0 : decode cX1_readLine 0 = .ok (.aload_n 0, 1) := by decide +kernel
theorem dX1_readLine_1 : decode cX1_readLine 1 = .ok (.ldc 91, 2) := by decide +kernel
theorem dX1_readLine_3 : decode cX1_readLine 3 = .ok (.invokevirtual 93, 3) := by decide +kernel
theorem dX1_readLine_6 : decode cX1_readLine 6 = .ok (.iconst 0, 1) := by decide +kernel
theorem dX1_readLine_7 : decode cX1_readLine 7 = .ok (.istore_n 1, 1) := by decide +kernel
theorem dX1_readLine_8 : decode cX1_readLine 8 = .ok (.iload_n 1, 1) := by decide +kernel
theorem dX1_readLine_9 : decode cX1_readLine 9 = .ok (.iconst 2, 1) := by decide +kernel
theorem dX1_readLine_10 : decode cX1_readLine 10 = .ok (.if_icmp .ge 13, 3) := by decide +kernel
theorem dX1_readLine_13 : decode cX1_readLine 13 = .ok (.aload_n 0, 1) := by decide +kernel
theorem dX1_readLine_14 : decode cX1_readLine 14 = .ok (.invokevirtual 97, 3) := by decide +kernel
theorem dX1_readLine_17 : decode cX1_readLine 17 = .ok (.iinc 1 1, 3) := by decide +kernel
theorem dX1_readLine_20 : decode cX1_readLine 20 = .ok (.goto (-12), 3) := by decide +kernel
theorem dX1_readLine_23 : decode cX1_readLine 23 = .ok (.iconst 2, 1) := by decide +kernel
theorem dX1_readLine_24 : decode cX1_readLine 24 = .ok (.istore_n 1, 1) := by decide +kernel
theorem dX1_readLine_25 : decode cX1_readLine 25 = .ok (.iload_n 1, 1) := by decide +kernel
theorem dX1_readLine_26 : decode cX1_readLine 26 = .ok (.bipush 12, 2) := by decide +kernel
theorem dX1_readLine_28 : decode cX1_readLine 28 = .ok (.if_icmp .gt 21, 3) := by decide +kernel
theorem dX1_readLine_31 : decode cX1_readLine 31 = .ok (.aload_n 0, 1) := by decide +kernel
theorem dX1_readLine_32 : decode cX1_readLine 32 = .ok (.getfield 42, 3) := by decide +kernel
theorem dX1_readLine_35 : decode cX1_readLine 35 = .ok (.iconst 2, 1) := by decide +kernel
theorem dX1_readLine_36 : decode cX1_readLine 36 = .ok (.if_icmp .ne 13, 3) := by decide +kernel
theorem dX1_readLine_39 : decode cX1_readLine 39 = .ok (.aload_n 0, 1) := by decide +kernel
theorem dX1_readLine_40 : decode cX1_readLine 40 = .ok (.invokevirtual 97, 3) := by decide +kernel
theorem dX1_readLine_43 : decode cX1_readLine 43 = .ok (.iinc 1 1, 3) := by decide +kernel
theorem dX1_readLine_46 : decode cX1_readLine 46 = .ok (.goto (-21), 3) := by decide +kernel
theorem dX1_readLine_49 : decode cX1_readLine 49 = .ok (.aload_n 0, 1) := by decide +kernel
theorem dX1_readLine_50 : decode cX1_readLine 50 = .ok (.iconst 1, 1) := by decide +kernel
theorem dX1_readLine_51 : decode cX1_readLine 51 = .ok (.invokevirtual 100, 3) := by decide +kernel
theorem dX1_readLine_54 : decode cX1_readLine 54 = .ok (.pop, 1) := by decide +kernel
theorem dX1_readLine_55 : decode cX1_readLine 55 = .ok (.return_, 1) := by decide +kernel
theorem dX1_isName_0 : decode cX1_isName 0 = .ok (.aload_n 0, 1) := by decide +kernel
theorem dX1_isName_1 : decode cX1_isName 1 = .ok (.getfield 42, 3) := by decide +kernel
theorem dX1_isName_4 : decode cX1_isName 4 = .ok (.iconst 1, 1) := by decide +kernel
theorem dX1_isName_5 : decode cX1_isName 5 = .ok (.if_icmp .ne 21, 3) := by decide +kernel
theorem dX1_isName_8 : decode cX1_isName 8 = .ok (.aload_n 0, 1) := by decide +kernel
theorem dX1_isName_9 : decode cX1_isName 9 = .ok (.getfield 29, 3) := by decide +kernel
theorem dX1_isName_12 : decode cX1_isName 12 = .ok (.aload_n 0, 1) := by decide +kernel
theorem dX1_isName_13 : decode cX1_isName 13 = .ok (.getfield 39, 3) := by decide +kernel
theorem dX1_isName_16 : decode cX1_isName 16 = .ok (.isub, 1) := by decide +kernel
theorem dX1_isName_17 : decode cX1_isName 17 = .ok (.bipush 6, 2) := by decide +kernel
theorem dX1_isName_19 : decode cX1_isName 19 = .ok (.if_icmp .gt 7, 3) := by decide +kernel
theorem dX1_isName_22 : decode cX1_isName 22 = .ok (.iconst 1, 1) := by decide +kernel
theorem dX1_isName_23 : decode cX1_isName 23 = .ok (.goto 4, 3) := by decide +kernel
theorem dX1_isName_26 : decode cX1_isName 26 = .ok (.iconst 0, 1) := by decide +kernel
theorem dX1_isName_27 : decode cX1_isName 27 = .ok (.ireturn, 1) := by decide +kernel
theorem dX1_findPassenger_0 : decode cX1_findPassenger 0 = .ok (.iconst 0, 1) := by decide +kernel
theorem dX1_findPassenger_1 : decode cX1_findPassenger 1 = .ok (.istore_n 1, 1) := by decide +kernel
theorem dX1_findPassenger_2 : decode cX1_findPassenger 2 = .ok (.iload_n 1, 1) := by decide +kernel
theorem dX1_findPassenger_3 : decode cX1_findPassenger 3 = .ok (.aload_n 0, 1) := by decide +kernel
theorem dX1_findPassenger_4 : decode cX1_findPassenger 4 = .ok (.getfield 19, 3) := by decide +kernel
theorem dX1_findPassenger_7 : decode cX1_findPassenger 7 = .ok (.getfield 109, 3) := by decide +kernel
theorem dX1_findPassenger_10 : decode cX1_findPassenger 10 = .ok (.if_icmp .ge 30, 3) := by decide +kernel
theorem dX1_findPassenger_13 : decode cX1_findPassenger 13 = .ok (.aload_n 0, 1) := by decide +kernel
theorem dX1_findPassenger_14 : decode cX1_findPassenger 14 = .ok (.aload_n 0, 1) := by decide +kernel
theorem dX1_findPassenger_15 : decode cX1_findPassenger 15 = .ok (.getfield 19, 3) := by decide +kernel
theorem dX1_findPassenger_18 : decode cX1_findPassenger 18 = .ok (.getfield 139, 3) := by decide +kernel
theorem dX1_findPassenger_21 : decode cX1_findPassenger 21 = .ok (.iload_n 1, 1) := by decide +kernel
theorem dX1_findPassenger_22 : decode cX1_findPassenger 22 = .ok (.aaload, 1) := by decide +kernel
theorem dX1_findPassenger_23 : decode cX1_findPassenger 23 = .ok (.getfield 143, 3) := by decide +kernel
theorem dX1_findPassenger_26 : decode cX1_findPassenger 26 = .ok (.invokevirtual 71, 3) := by decide +kernel
theorem dX1_findPassenger_29 : decode cX1_findPassenger 29 = .ok (.ifCond .eq 5, 3) := by decide +kernel
theorem dX1_findPassenger_32 : decode cX1_findPassenger 32 = .ok (.iload_n 1, 1) := by decide +kernel
theorem dX1_findPassenger_33 : decode cX1_findPassenger 33 = .ok (.ireturn, 1) := by decide +kernel
theorem dX1_findPassenger_34 : decode cX1_findPassenger 34 = .ok (.iinc 1 1, 3) := by decide +kernel
theorem dX1_findPassenger_37 : decode cX1_findPassenger 37 = .ok (.goto (-35), 3) := by decide +kernel
theorem dX1_findPassenger_40 : decode cX1_findPassenger 40 = .ok (.iconst (-1), 1) := by decide +kernel
theorem dX1_findPassenger_41 : decode cX1_findPassenger 41 = .ok (.ireturn, 1) := by decide +kernel
theorem dJ5_init_d00df_0 : decode cJ5_init_d00df 0 = .ok (.aload_n 0, 1) := by decide +kernel
theorem dJ5_init_d00df_1 : decode cJ5_init_d00df 1 = .ok (.invokespecial 3, 3) := by decide +kernel
theorem dJ5_init_d00df_4 : decode cJ5_init_d00df 4 = .ok (.getstatic 18, 3) := by decide +kernel
theorem dJ5_init_d00df_7 : decode cJ5_init_d00df 7 = .ok (.ifCond .eq 18, 3) := by decide +kernel
theorem dJ5_init_d00df_10 : decode cJ5_init_d00df 10 = .ok (.aload_n 0, 1) := by decide +kernel
theorem dJ5_init_d00df_11 : decode cJ5_init_d00df 11 = .ok (.iload_n 1, 1) := by decide +kernel
theorem dJ5_init_d00df_12 : decode cJ5_init_d00df 12 = .ok (.newarray .byte, 2) := by decide +kernel
theorem dJ5_init_d00df_14 : decode cJ5_init_d00df 14 = .ok (.putfield 15, 3) := by decide +kernel
theorem dJ5_init_d00df_17 : decode cJ5_init_d00df 17 = .ok (.aload_n 0, 1) := by decide +kernel
theorem dJ5_init_d00df_18 : decode cJ5_init_d00df 18 = .ok (.iconst 0, 1) := by decide +kernel
theorem dJ5_init_d00df_19 : decode cJ5_init_d00df 19 = .ok (.putfield 22, 3) := by decide +kernel
theorem dJ5_init_d00df_22 : decode cJ5_init_d00df 22 = .ok (.goto 16, 3) := by decide +kernel
theorem dJ5_init_d00df_38 : decode cJ5_init_d00df 38 = .ok (.return_, 1) := by decide +kernel
theorem dJ4_init_da8c8_0 : decode cJ4_init_da8c8 0 = .ok (.aload_n 0, 1) := by decide +kernel
theorem dJ4_init_da8c8_1 : decode cJ4_init_da8c8 1 = .ok (.bipush 16, 2) := by decide +kernel
theorem dJ4_init_da8c8_3 : decode cJ4_init_da8c8 3 = .ok (.invokespecial 1, 3) := by decide +kernel
theorem dJ4_init_da8c8_6 : decode cJ4_init_da8c8 6 = .ok (.return_, 1) := by decide +kernel
theorem dJ8_newLength_cabcc_0 : decode cJ8_newLength_cabcc 0 = .ok (.iload_n 0, 1) := by decide +kernel
theorem dJ8_newLength_cabcc_1 : decode cJ8_newLength_cabcc 1 = .ok (.iload_n 1, 1) := by decide +kernel
theorem dJ8_newLength_cabcc_2 : decode cJ8_newLength_cabcc 2 = .ok (.iload_n 2, 1) := by decide +kernel
theorem dJ8_newLength_cabcc_3 : decode cJ8_newLength_cabcc 3 = .ok (.invokestatic 194, 3) := by decide +kernel
theorem dJ8_newLength_cabcc_6 : decode cJ8_newLength_cabcc 6 = .ok (.iadd, 1) := by decide +kernel
theorem dJ8_newLength_cabcc_7 : decode cJ8_newLength_cabcc 7 = .ok (.istore_n 3, 1) := by decide +kernel
theorem dJ8_newLength_cabcc_8 : decode cJ8_newLength_cabcc 8 = .ok (.iconst 0, 1) := by decide +kernel
theorem dJ8_newLength_cabcc_9 : decode cJ8_newLength_cabcc 9 = .ok (.iload_n 3, 1) := by decide +kernel
theorem dJ8_newLength_cabcc_10 : decode cJ8_newLength_cabcc 10 = .ok (.if_icmp .ge 11, 3) := by decide +kernel
theorem dJ8_newLength_cabcc_13 : decode cJ8_newLength_cabcc 13 = .ok (.iload_n 3, 1) := by decide +kernel
theorem dJ8_newLength_cabcc_14 : decode cJ8_newLength_cabcc 14 = .ok (.ldc 200, 2) := by decide +kernel
theorem dJ8_newLength_cabcc_16 : decode cJ8_newLength_cabcc 16 = .ok (.if_icmp .gt 5, 3) := by decide +kernel
theorem dJ8_newLength_cabcc_19 : decode cJ8_newLength_cabcc 19 = .ok (.iload_n 3, 1) := by decide +kernel
theorem dJ8_newLength_cabcc_20 : decode cJ8_newLength_cabcc 20 = .ok (.ireturn, 1) := by decide +kernel
theorem dJ5_newCapacity_0f7a4_0 : decode cJ5_newCapacity_0f7a4 0 = .ok (.aload_n 0, 1) := by decide +kernel
theorem dJ5_newCapacity_0f7a4_1 : decode cJ5_newCapacity_0f7a4 1 = .ok (.getfield 15, 3) := by decide +kernel
theorem dJ5_newCapacity_0f7a4_4 : decode cJ5_newCapacity_0f7a4 4 = .ok (.arraylength, 1) := by decide +kernel
theorem dJ5_newCapacity_0f7a4_5 : decode cJ5_newCapacity_0f7a4 5 = .ok (.istore_n 2, 1) := by decide +kernel
theorem dJ5_newCapacity_0f7a4_6 : decode cJ5_newCapacity_0f7a4 6 = .ok (.iload_n 1, 1) := by decide +kernel
theorem dJ5_newCapacity_0f7a4_7 : decode cJ5_newCapacity_0f7a4 7 = .ok (.aload_n 0, 1) := by decide +kernel
theorem dJ5_newCapacity_0f7a4_8 : decode cJ5_newCapacity_0f7a4 8 = .ok (.getfield 22, 3) := by decide +kernel
theorem dJ5_newCapacity_0f7a4_11 : decode cJ5_newCapacity_0f7a4 11 = .ok (.ishl, 1) := by decide +kernel
theorem dJ5_newCapacity_0f7a4_12 : decode cJ5_newCapacity_0f7a4 12 = .ok (.istore_n 3, 1) := by decide +kernel
theorem dJ5_newCapacity_0f7a4_13 : decode cJ5_newCapacity_0f7a4 13 = .ok (.iload_n 3, 1) := by decide +kernel
theorem dJ5_newCapacity_0f7a4_14 : decode cJ5_newCapacity_0f7a4 14 = .ok (.iload_n 2, 1) := by decide +kernel
theorem dJ5_newCapacity_0f7a4_15 : decode cJ5_newCapacity_0f7a4 15 = .ok (.isub, 1) := by decide +kernel
theorem dJ5_newCapacity_0f7a4_16 : decode cJ5_newCapacity_0f7a4 16 = .ok (.istore 4, 2) := by decide +kernel
theorem dJ5_newCapacity_0f7a4_18 : decode cJ5_newCapacity_0f7a4 18 = .ok (.iload_n 2, 1) := by decide +kernel
theorem dJ5_newCapacity_0f7a4_19 : decode cJ5_newCapacity_0f7a4 19 = .ok (.iload 4, 2) := by decide +kernel
theorem dJ5_newCapacity_0f7a4_21 : decode cJ5_newCapacity_0f7a4 21 = .ok (.iload_n 2, 1) := by decide +kernel
theorem dJ5_newCapacity_0f7a4_22 : decode cJ5_newCapacity_0f7a4 22 = .ok (.iconst 2, 1) := by decide +kernel
theorem dJ5_newCapacity_0f7a4_23 : decode cJ5_newCapacity_0f7a4 23 = .ok (.aload_n 0, 1) := by decide +kernel
theorem dJ5_newCapacity_0f7a4_24 : decode cJ5_newCapacity_0f7a4 24 = .ok (.getfield 22, 3) := by decide +kernel
theorem dJ5_newCapacity_0f7a4_27 : decode cJ5_newCapacity_0f7a4 27 = .ok (.ishl, 1) := by decide +kernel
theorem dJ5_newCapacity_0f7a4_28 : decode cJ5_newCapacity_0f7a4 28 = .ok (.iadd, 1) := by decide +kernel
theorem dJ5_newCapacity_0f7a4_29 : decode cJ5_newCapacity_0f7a4 29 = .ok (.invokestatic 114, 3) := by decide +kernel
theorem dJ5_newCapacity_0f7a4_32 : decode cJ5_newCapacity_0f7a4 32 = .ok (.istore 5, 2) := by decide +kernel
theorem dJ5_newCapacity_0f7a4_34 : decode cJ5_newCapacity_0f7a4 34 = .ok (.iload 5, 2) := by decide +kernel
theorem dJ5_newCapacity_0f7a4_36 : decode cJ5_newCapacity_0f7a4 36 = .ok (.ldc 39, 2) := by decide +kernel
theorem dJ5_newCapacity_0f7a4_38 : decode cJ5_newCapacity_0f7a4 38 = .ok (.if_icmp .ne 13, 3) := by decide +kernel
theorem dJ5_newCapacity_0f7a4_51 : decode cJ5_newCapacity_0f7a4 51 = .ok (.iload 5, 2) := by decide +kernel
theorem dJ5_newCapacity_0f7a4_53 : decode cJ5_newCapacity_0f7a4 53 = .ok (.aload_n 0, 1) := by decide +kernel
theorem dJ5_newCapacity_0f7a4_54 : decode cJ5_newCapacity_0f7a4 54 = .ok (.getfield 22, 3) := by decide +kernel
theorem dJ5_newCapacity_0f7a4_57 : decode cJ5_newCapacity_0f7a4 57 = .ok (.ishr, 1) := by decide +kernel
theorem dJ5_newCapacity_0f7a4_58 : decode cJ5_newCapacity_0f7a4 58 = .ok (.ireturn, 1) := by decide +kernel
theorem dJ7_copyOf_9075b_0 : decode cJ7_copyOf_9075b 0 = .ok (.iload_n 1, 1) := by decide +kernel
theorem dJ7_copyOf_9075b_1 : decode cJ7_copyOf_9075b 1 = .ok (.aload_n 0, 1) := by decide +kernel
theorem dJ7_copyOf_9075b_2 : decode cJ7_copyOf_9075b 2 = .ok (.arraylength, 1) := by decide +kernel
theorem dJ7_copyOf_9075b_3 : decode cJ7_copyOf_9075b 3 = .ok (.if_icmp .ne 11, 3) := by decide +kernel
theorem dJ7_copyOf_9075b_14 : decode cJ7_copyOf_9075b 14 = .ok (.iload_n 1, 1) := by decide +kernel
theorem dJ7_copyOf_9075b_15 : decode cJ7_copyOf_9075b 15 = .ok (.newarray .byte, 2) := by decide +kernel
theorem dJ7_copyOf_9075b_17 : decode cJ7_copyOf_9075b 17 = .ok (.astore_n 2, 1) := by decide +kernel
theorem dJ7_copyOf_9075b_18 : decode cJ7_copyOf_9075b 18 = .ok (.aload_n 0, 1) := by decide +kernel
theorem dJ7_copyOf_9075b_19 : decode cJ7_copyOf_9075b 19 = .ok (.iconst 0, 1) := by decide +kernel
theorem dJ7_copyOf_9075b_20 : decode cJ7_copyOf_9075b 20 = .ok (.aload_n 2, 1) := by decide +kernel
theorem dJ7_copyOf_9075b_21 : decode cJ7_copyOf_9075b 21 = .ok (.iconst 0, 1) := by decide +kernel
theorem dJ7_copyOf_9075b_22 : decode cJ7_copyOf_9075b 22 = .ok (.aload_n 0, 1) := by decide +kernel
theorem dJ7_copyOf_9075b_23 : decode cJ7_copyOf_9075b 23 = .ok (.arraylength, 1) := by decide +kernel
theorem dJ7_copyOf_9075b_24 : decode cJ7_copyOf_9075b 24 = .ok (.iload_n 1, 1) := by decide +kernel
theorem dJ7_copyOf_9075b_25 : decode cJ7_copyOf_9075b 25 = .ok (.invokestatic 304, 3) := by decide +kernel
theorem dJ7_copyOf_9075b_28 : decode cJ7_copyOf_9075b 28 = .ok (.invokestatic 150, 3) := by decide +kernel
theorem dJ7_copyOf_9075b_31 : decode cJ7_copyOf_9075b 31 = .ok (.aload_n 2, 1) := by decide +kernel
theorem dJ7_copyOf_9075b_32 : decode cJ7_copyOf_9075b 32 = .ok (.areturn, 1) := by decide +kernel
theorem dJ5_ensureCapacityInternal_d00df_0 : decode cJ5_ensureCapacityInternal_d00df 0 = .ok (.aload_n 0, 1) := by decide +kernel
theorem dJ5_ensureCapacityInternal_d00df_1 : decode cJ5_ensureCapacityInternal_d00df 1 = .ok (.getfield 15, 3) := by decide +kernel
theorem dJ5_ensureCapacityInternal_d00df_4 : decode cJ5_ensureCapacityInternal_d00df 4 = .ok (.arraylength, 1) := by decide +kernel
theorem dJ5_ensureCapacityInternal_d00df_5 : decode cJ5_ensureCapacityInternal_d00df 5 = .ok (.aload_n 0, 1) := by decide +kernel
theorem dJ5_ensureCapacityInternal_d00df_6 : decode cJ5_ensureCapacityInternal_d00df 6 = .ok (.getfield 22, 3) := by decide +kernel
theorem dJ5_ensureCapacityInternal_d00df_9 : decode cJ5_ensureCapacityInternal_d00df 9 = .ok (.ishr, 1) := by decide +kernel
theorem dJ5_ensureCapacityInternal_d00df_10 : decode cJ5_ensureCapacityInternal_d00df 10 = .ok (.istore_n 2, 1) := by decide +kernel
theorem dJ5_ensureCapacityInternal_d00df_11 : decode cJ5_ensureCapacityInternal_d00df 11 = .ok (.iload_n 1, 1) := by decide +kernel
theorem dJ5_ensureCapacityInternal_d00df_12 : decode cJ5_ensureCapacityInternal_d00df 12 = .ok (.iload_n 2, 1) := by decide +kernel
theorem dJ5_ensureCapacityInternal_d00df_13 : decode cJ5_ensureCapacityInternal_d00df 13 = .ok (.isub, 1) := by decide +kernel
theorem dJ5_ensureCapacityInternal_d00df_14 : decode cJ5_ensureCapacityInternal_d00df 14 = .ok (.ifCond .le 24, 3) := by decide +kernel
theorem dJ5_ensureCapacityInternal_d00df_17 : decode cJ5_ensureCapacityInternal_d00df 17 = .ok (.aload_n 0, 1) := by decide +kernel
theorem dJ5_ensureCapacityInternal_d00df_18 : decode cJ5_ensureCapacityInternal_d00df 18 = .ok (.aload_n 0, 1) := by decide +kernel
theorem dJ5_ensureCapacityInternal_d00df_19 : decode cJ5_ensureCapacityInternal_d00df 19 = .ok (.getfield 15, 3) := by decide +kernel
theorem dJ5_ensureCapacityInternal_d00df_22 : decode cJ5_ensureCapacityInternal_d00df 22 = .ok (.aload_n 0, 1) := by decide +kernel
theorem dJ5_ensureCapacityInternal_d00df_23 : decode cJ5_ensureCapacityInternal_d00df 23 = .ok (.iload_n 1, 1) := by decide +kernel
theorem dJ5_ensureCapacityInternal_d00df_24 : decode cJ5_ensureCapacityInternal_d00df 24 = .ok (.invokevirtual 104, 3) := by decide +kernel
theorem dJ5_ensureCapacityInternal_d00df_27 : decode cJ5_ensureCapacityInternal_d00df 27 = .ok (.aload_n 0, 1) := by decide +kernel
theorem dJ5_ensureCapacityInternal_d00df_28 : decode cJ5_ensureCapacityInternal_d00df 28 = .ok (.getfield 22, 3) := by decide +kernel
theorem dJ5_ensureCapacityInternal_d00df_31 : decode cJ5_ensureCapacityInternal_d00df 31 = .ok (.ishl, 1) := by decide +kernel
theorem dJ5_ensureCapacityInternal_d00df_32 : decode cJ5_ensureCapacityInternal_d00df 32 = .ok (.invokestatic 108, 3) := by decide +kernel
theorem dJ5_ensureCapacityInternal_d00df_35 : decode cJ5_ensureCapacityInternal_d00df 35 = .ok (.putfield 15, 3) := by decide +kernel
theorem dJ5_ensureCapacityInternal_d00df_38 : decode cJ5_ensureCapacityInternal_d00df 38 = .ok (.return_, 1) := by decide +kernel
theorem dJ5_isLatin1_aae02_0 : decode cJ5_isLatin1_aae02 0 = .ok (.getstatic 18, 3) := by decide +kernel
theorem dJ5_isLatin1_aae02_3 : decode cJ5_isLatin1_aae02 3 = .ok (.ifCond .eq 14, 3) := by decide +kernel
theorem dJ5_isLatin1_aae02_6 : decode cJ5_isLatin1_aae02 6 = .ok (.aload_n 0, 1) := by decide +kernel
theorem dJ5_isLatin1_aae02_7 : decode cJ5_isLatin1_aae02 7 = .ok (.getfield 22, 3) := by decide +kernel
theorem dJ5_isLatin1_aae02_10 : decode cJ5_isLatin1_aae02 10 = .ok (.ifCond .ne 7, 3) := by decide +kernel
theorem dJ5_isLatin1_aae02_13 : decode cJ5_isLatin1_aae02 13 = .ok (.iconst 1, 1) := by decide +kernel
theorem dJ5_isLatin1_aae02_14 : decode cJ5_isLatin1_aae02 14 = .ok (.goto 4, 3) := by decide +kernel
theorem dJ5_isLatin1_aae02_17 : decode cJ5_isLatin1_aae02 17 = .ok (.iconst 0, 1) := by decide +kernel
theorem dJ5_isLatin1_aae02_18 : decode cJ5_isLatin1_aae02 18 = .ok (.ireturn, 1) := by decide +kernel
theorem dJ1_canEncode_fc78d_0 : decode cJ1_canEncode_fc78d 0 = .ok (.iload_n 0, 1) := by decide +kernel
theorem dJ1_canEncode_fc78d_1 : decode cJ1_canEncode_fc78d 1 = .ok (.sipush 255, 3) := by decide +kernel
theorem dJ1_canEncode_fc78d_4 : decode cJ1_canEncode_fc78d 4 = .ok (.if_icmp .gt 7, 3) := by decide +kernel
theorem dJ1_canEncode_fc78d_7 : decode cJ1_canEncode_fc78d 7 = .ok (.iconst 1, 1) := by decide +kernel
theorem dJ1_canEncode_fc78d_8 : decode cJ1_canEncode_fc78d 8 = .ok (.goto 4, 3) := by decide +kernel
theorem dJ1_canEncode_fc78d_11 : decode cJ1_canEncode_fc78d 11 = .ok (.iconst 0, 1) := by decide +kernel
theorem dJ1_canEncode_fc78d_12 : decode cJ1_canEncode_fc78d 12 = .ok (.ireturn, 1) := by decide +kernel
theorem dJ5_append_3fe6f_0 : decode cJ5_append_3fe6f 0 = .ok (.aload_n 0, 1) := by decide +kernel
theorem dJ5_append_3fe6f_1 : decode cJ5_append_3fe6f 1 = .ok (.aload_n 0, 1) := by decide +kernel
theorem dJ5_append_3fe6f_2 : decode cJ5_append_3fe6f 2 = .ok (.getfield 79, 3) := by decide +kernel
theorem dJ5_append_3fe6f_5 : decode cJ5_append_3fe6f 5 = .ok (.iconst 1, 1) := by decide +kernel
theorem dJ5_append_3fe6f_6 : decode cJ5_append_3fe6f 6 = .ok (.iadd, 1) := by decide +kernel
theorem dJ5_append_3fe6f_7 : decode cJ5_append_3fe6f 7 = .ok (.invokevirtual 100, 3) := by decide +kernel
theorem dJ5_append_3fe6f_10 : decode cJ5_append_3fe6f 10 = .ok (.aload_n 0, 1) := by decide +kernel
theorem dJ5_append_3fe6f_11 : decode cJ5_append_3fe6f 11 = .ok (.invokevirtual 83, 3) := by decide +kernel
theorem dJ5_append_3fe6f_14 : decode cJ5_append_3fe6f 14 = .ok (.ifCond .eq 31, 3) := by decide +kernel
theorem dJ5_append_3fe6f_17 : decode cJ5_append_3fe6f 17 = .ok (.iload_n 1, 1) := by decide +kernel
theorem dJ5_append_3fe6f_18 : decode cJ5_append_3fe6f 18 = .ok (.invokestatic 191, 3) := by decide +kernel
theorem dJ5_append_3fe6f_21 : decode cJ5_append_3fe6f 21 = .ok (.ifCond .eq 24, 3) := by decide +kernel
theorem dJ5_append_3fe6f_24 : decode cJ5_append_3fe6f 24 = .ok (.aload_n 0, 1) := by decide +kernel
theorem dJ5_append_3fe6f_25 : decode cJ5_append_3fe6f 25 = .ok (.getfield 15, 3) := by decide +kernel
theorem dJ5_append_3fe6f_28 : decode cJ5_append_3fe6f 28 = .ok (.aload_n 0, 1) := by decide +kernel
theorem dJ5_append_3fe6f_29 : decode cJ5_append_3fe6f 29 = .ok (.dup, 1) := by decide +kernel
theorem dJ5_append_3fe6f_30 : decode cJ5_append_3fe6f 30 = .ok (.getfield 79, 3) := by decide +kernel
theorem dJ5_append_3fe6f_33 : decode cJ5_append_3fe6f 33 = .ok (.dup_x1, 1) := by decide +kernel
theorem dJ5_append_3fe6f_34 : decode cJ5_append_3fe6f 34 = .ok (.iconst 1, 1) := by decide +kernel
theorem dJ5_append_3fe6f_35 : decode cJ5_append_3fe6f 35 = .ok (.iadd, 1) := by decide +kernel
theorem dJ5_append_3fe6f_36 : decode cJ5_append_3fe6f 36 = .ok (.putfield 79, 3) := by decide +kernel
theorem dJ5_append_3fe6f_39 : decode cJ5_append_3fe6f 39 = .ok (.iload_n 1, 1) := by decide +kernel
theorem dJ5_append_3fe6f_40 : decode cJ5_append_3fe6f 40 = .ok (.i2b, 1) := by decide +kernel
theorem dJ5_append_3fe6f_41 : decode cJ5_append_3fe6f 41 = .ok (.bastore, 1) := by decide +kernel
theorem dJ5_append_3fe6f_42 : decode cJ5_append_3fe6f 42 = .ok (.goto 33, 3) := by decide +kernel
theorem dJ5_append_3fe6f_75 : decode cJ5_append_3fe6f 75 = .ok (.aload_n 0, 1) := by decide +kernel
theorem dJ5_append_3fe6f_76 : decode cJ5_append_3fe6f 76 = .ok (.areturn, 1) := by decide +kernel
theorem dJ4_append_cf468_0 : decode cJ4_append_cf468 0 = .ok (.aload_n 0, 1) := by decide +kernel
theorem dJ4_append_cf468_1 : decode cJ4_append_cf468 1 = .ok (.iload_n 1, 1) := by decide +kernel
theorem dJ4_append_cf468_2 : decode cJ4_append_cf468 2 = .ok (.invokespecial 50, 3) := by decide +kernel
theorem dJ4_append_cf468_5 : decode cJ4_append_cf468 5 = .ok (.pop, 1) := by decide +kernel
theorem dJ4_append_cf468_6 : decode cJ4_append_cf468 6 = .ok (.aload_n 0, 1) := by decide +kernel
theorem dJ4_append_cf468_7 : decode cJ4_append_cf468 7 = .ok (.areturn, 1) := by decide +kernel
theorem dJ5_getValue_6d5f1_0 : decode cJ5_getValue_6d5f1 0 = .ok (.aload_n 0, 1) := by decide +kernel
theorem dJ5_getValue_6d5f1_1 : decode cJ5_getValue_6d5f1 1 = .ok (.getfield 15, 3) := by decide +kernel
theorem dJ5_getValue_6d5f1_4 : decode cJ5_getValue_6d5f1 4 = .ok (.areturn, 1) := by decide +kernel
theorem dJ5_length_8abf5_0 : decode cJ5_length_8abf5 0 = .ok (.aload_n 0, 1) := by decide +kernel
theorem dJ5_length_8abf5_1 : decode cJ5_length_8abf5 1 = .ok (.getfield 79, 3) := by decide +kernel
theorem dJ5_length_8abf5_4 : decode cJ5_length_8abf5 4 = .ok (.ireturn, 1) := by decide +kernel
theorem dJ4_length_8abf5_0 : decode cJ4_length_8abf5 0 = .ok (.aload_n 0, 1) := by decide +kernel
theorem dJ4_length_8abf5_1 : decode cJ4_length_8abf5 1 = .ok (.invokespecial 343, 3) := by decide +kernel
theorem dJ4_length_8abf5_4 : decode cJ4_length_8abf5 4 = .ok (.ireturn, 1) := by decide +kernel
theorem dJ7_checkLength_df160_0 : decode cJ7_checkLength_df160 0 = .ok (.iload_n 1, 1) := by decide +kernel
theorem dJ7_checkLength_df160_1 : decode cJ7_checkLength_df160 1 = .ok (.iload_n 0, 1) := by decide +kernel
theorem dJ7_checkLength_df160_2 : decode cJ7_checkLength_df160 2 = .ok (.if_icmp .ge 35, 3) := by decide +kernel
theorem dJ7_checkLength_df160_37 : decode cJ7_checkLength_df160 37 = .ok (.return_, 1) := by decide +kernel
theorem dJ7_copyOfRangeByte_39247_0 : decode cJ7_copyOfRangeByte_39247 0 = .ok (.iload_n 1, 1) := by decide +kernel
theorem dJ7_copyOfRangeByte_39247_1 : decode cJ7_copyOfRangeByte_39247 1 = .ok (.iload_n 2, 1) := by decide +kernel
theorem dJ7_copyOfRangeByte_39247_2 : decode cJ7_copyOfRangeByte_39247 2 = .ok (.invokestatic 343, 3) := by decide +kernel
theorem dJ7_copyOfRangeByte_39247_5 : decode cJ7_copyOfRangeByte_39247 5 = .ok (.iload_n 2, 1) := by decide +kernel
theorem dJ7_copyOfRangeByte_39247_6 : decode cJ7_copyOfRangeByte_39247 6 = .ok (.iload_n 1, 1) := by decide +kernel
theorem dJ7_copyOfRangeByte_39247_7 : decode cJ7_copyOfRangeByte_39247 7 = .ok (.isub, 1) := by decide +kernel
theorem dJ7_copyOfRangeByte_39247_8 : decode cJ7_copyOfRangeByte_39247 8 = .ok (.istore_n 3, 1) := by decide +kernel
theorem dJ7_copyOfRangeByte_39247_9 : decode cJ7_copyOfRangeByte_39247 9 = .ok (.iload_n 3, 1) := by decide +kernel
theorem dJ7_copyOfRangeByte_39247_10 : decode cJ7_copyOfRangeByte_39247 10 = .ok (.newarray .byte, 2) := by decide +kernel
theorem dJ7_copyOfRangeByte_39247_12 : decode cJ7_copyOfRangeByte_39247 12 = .ok (.astore 4, 2) := by decide +kernel
theorem dJ7_copyOfRangeByte_39247_14 : decode cJ7_copyOfRangeByte_39247 14 = .ok (.aload_n 0, 1) := by decide +kernel
theorem dJ7_copyOfRangeByte_39247_15 : decode cJ7_copyOfRangeByte_39247 15 = .ok (.iload_n 1, 1) := by decide +kernel
theorem dJ7_copyOfRangeByte_39247_16 : decode cJ7_copyOfRangeByte_39247 16 = .ok (.aload 4, 2) := by decide +kernel
theorem dJ7_copyOfRangeByte_39247_18 : decode cJ7_copyOfRangeByte_39247 18 = .ok (.iconst 0, 1) := by decide +kernel
theorem dJ7_copyOfRangeByte_39247_19 : decode cJ7_copyOfRangeByte_39247 19 = .ok (.aload_n 0, 1) := by decide +kernel
theorem dJ7_copyOfRangeByte_39247_20 : decode cJ7_copyOfRangeByte_39247 20 = .ok (.arraylength, 1) := by decide +kernel
theorem dJ7_copyOfRangeByte_39247_21 : decode cJ7_copyOfRangeByte_39247 21 = .ok (.iload_n 1, 1) := by decide +kernel
theorem dJ7_copyOfRangeByte_39247_22 : decode cJ7_copyOfRangeByte_39247 22 = .ok (.isub, 1) := by decide +kernel
theorem dJ7_copyOfRangeByte_39247_23 : decode cJ7_copyOfRangeByte_39247 23 = .ok (.iload_n 3, 1) := by decide +kernel
theorem dJ7_copyOfRangeByte_39247_24 : decode cJ7_copyOfRangeByte_39247 24 = .ok (.invokestatic 304, 3) := by decide +kernel
theorem dJ7_copyOfRangeByte_39247_27 : decode cJ7_copyOfRangeByte_39247 27 = .ok (.invokestatic 150, 3) := by decide +kernel
theorem dJ7_copyOfRangeByte_39247_30 : decode cJ7_copyOfRangeByte_39247 30 = .ok (.aload 4, 2) := by decide +kernel
theorem dJ7_copyOfRangeByte_39247_32 : decode cJ7_copyOfRangeByte_39247 32 = .ok (.areturn, 1) := by decide +kernel
theorem dJ7_copyOfRange_39247_0 : decode cJ7_copyOfRange_39247 0 = .ok (.iload_n 1, 1) := by decide +kernel
theorem dJ7_copyOfRange_39247_1 : decode cJ7_copyOfRange_39247 1 = .ok (.ifCond .ne 9, 3) := by decide +kernel
theorem dJ7_copyOfRange_39247_4 : decode cJ7_copyOfRange_39247 4 = .ok (.iload_n 2, 1) := by decide +kernel
theorem dJ7_copyOfRange_39247_5 : decode cJ7_copyOfRange_39247 5 = .ok (.aload_n 0, 1) := by decide +kernel
theorem dJ7_copyOfRange_39247_6 : decode cJ7_copyOfRange_39247 6 = .ok (.arraylength, 1) := by decide +kernel
theorem dJ7_copyOfRange_39247_7 : decode cJ7_copyOfRange_39247 7 = .ok (.if_icmp .eq 10, 3) := by decide +kernel
theorem dJ7_copyOfRange_39247_10 : decode cJ7_copyOfRange_39247 10 = .ok (.aload_n 0, 1) := by decide +kernel
theorem dJ7_copyOfRange_39247_11 : decode cJ7_copyOfRange_39247 11 = .ok (.iload_n 1, 1) := by decide +kernel
theorem dJ7_copyOfRange_39247_12 : decode cJ7_copyOfRange_39247 12 = .ok (.iload_n 2, 1) := by decide +kernel
theorem dJ7_copyOfRange_39247_13 : decode cJ7_copyOfRange_39247 13 = .ok (.invokestatic 339, 3) := by decide +kernel
theorem dJ7_copyOfRange_39247_16 : decode cJ7_copyOfRange_39247 16 = .ok (.areturn, 1) := by decide +kernel
theorem dJ7_copyOfRange_39247_17 : decode cJ7_copyOfRange_39247 17 = .ok (.aload_n 0, 1) := by decide +kernel
theorem dJ7_copyOfRange_39247_18 : decode cJ7_copyOfRange_39247 18 = .ok (.invokevirtual 310, 3) := by decide +kernel
theorem dJ7_copyOfRange_39247_21 : decode cJ7_copyOfRange_39247 21 = .ok (.checkcast 311, 3) := by decide +kernel
theorem dJ7_copyOfRange_39247_24 : decode cJ7_copyOfRange_39247 24 = .ok (.areturn, 1) := by decide +kernel
theorem dJ0_init_db425_0 : decode cJ0_init_db425 0 = .ok (.aload_n 0, 1) := by decide +kernel
theorem dJ0_init_db425_1 : decode cJ0_init_db425 1 = .ok (.invokespecial 1, 3) := by decide +kernel
theorem dJ0_init_db425_4 : decode cJ0_init_db425 4 = .ok (.aload_n 1, 1) := by decide +kernel
theorem dJ0_init_db425_5 : decode cJ0_init_db425 5 = .ok (.invokevirtual 552, 3) := by decide +kernel
theorem dJ0_init_db425_8 : decode cJ0_init_db425 8 = .ok (.astore_n 3, 1) := by decide +kernel
theorem dJ0_init_db425_9 : decode cJ0_init_db425 9 = .ok (.aload_n 1, 1) := by decide +kernel
theorem dJ0_init_db425_10 : decode cJ0_init_db425 10 = .ok (.invokevirtual 549, 3) := by decide +kernel
theorem dJ0_init_db425_13 : decode cJ0_init_db425 13 = .ok (.istore 4, 2) := by decide +kernel
theorem dJ0_init_db425_15 : decode cJ0_init_db425 15 = .ok (.aload_n 1, 1) := by decide +kernel
theorem dJ0_init_db425_16 : decode cJ0_init_db425 16 = .ok (.invokevirtual 1047, 3) := by decide +kernel
theorem dJ0_init_db425_19 : decode cJ0_init_db425 19 = .ok (.ifCond .eq 22, 3) := by decide +kernel
theorem dJ0_init_db425_22 : decode cJ0_init_db425 22 = .ok (.aload_n 0, 1) := by decide +kernel
theorem dJ0_init_db425_23 : decode cJ0_init_db425 23 = .ok (.iconst 0, 1) := by decide +kernel
theorem dJ0_init_db425_24 : decode cJ0_init_db425 24 = .ok (.putfield 15, 3) := by decide +kernel
theorem dJ0_init_db425_27 : decode cJ0_init_db425 27 = .ok (.aload_n 0, 1) := by decide +kernel
theorem dJ0_init_db425_28 : decode cJ0_init_db425 28 = .ok (.aload_n 3, 1) := by decide +kernel
theorem dJ0_init_db425_29 : decode cJ0_init_db425 29 = .ok (.iconst 0, 1) := by decide +kernel
theorem dJ0_init_db425_30 : decode cJ0_init_db425 30 = .ok (.iload 4, 2) := by decide +kernel
theorem dJ0_init_db425_32 : decode cJ0_init_db425 32 = .ok (.invokestatic 54, 3) := by decide +kernel
theorem dJ0_init_db425_35 : decode cJ0_init_db425 35 = .ok (.putfield 9, 3) := by decide +kernel
theorem dJ0_init_db425_38 : decode cJ0_init_db425 38 = .ok (.goto 59, 3) := by decide +kernel
theorem dJ0_init_db425_97 : decode cJ0_init_db425 97 = .ok (.return_, 1) := by decide +kernel
theorem dJ0_init_81219_0 : decode cJ0_init_81219 0 = .ok (.aload_n 0, 1) := by decide +kernel
theorem dJ0_init_81219_1 : decode cJ0_init_81219 1 = .ok (.aload_n 1, 1) := by decide +kernel
theorem dJ0_init_81219_2 : decode cJ0_init_81219 2 = .ok (.aconst_null, 1) := by decide +kernel
theorem dJ0_init_81219_3 : decode cJ0_init_81219 3 = .ok (.invokespecial 489, 3) := by decide +kernel
theorem dJ0_init_81219_6 : decode cJ0_init_81219 6 = .ok (.return_, 1) := by decide +kernel
theorem dJ4_toString_0e30d_0 : decode cJ4_toString_0e30d 0 = .ok (.new 18, 3) := by decide +kernel
theorem dJ4_toString_0e30d_3 : decode cJ4_toString_0e30d 3 = .ok (.dup, 1) := by decide +kernel
theorem dJ4_toString_0e30d_4 : decode cJ4_toString_0e30d 4 = .ok (.aload_n 0, 1) := by decide +kernel
theorem dJ4_toString_0e30d_5 : decode cJ4_toString_0e30d 5 = .ok (.invokespecial 137, 3) := by decide +kernel
theorem dJ4_toString_0e30d_8 : decode cJ4_toString_0e30d 8 = .ok (.areturn, 1) := by decide +kernel
theorem dX1_readNewName_0 : decode cX1_readNewName 0 = .ok (.aload_n 0, 1) := by decide +kernel
theorem dX1_readNewName_1 : decode cX1_readNewName 1 = .ok (.invokevirtual 121, 3) := by decide +kernel
theorem dX1_readNewName_4 : decode cX1_readNewName 4 = .ok (.ifCond .ne 12, 3) := by decide +kernel
theorem dX1_readNewName_7 : decode cX1_readNewName 7 = .ok (.aload_n 0, 1) := by decide +kernel
theorem dX1_readNewName_8 : decode cX1_readNewName 8 = .ok (.iconst 1, 1) := by decide +kernel
theorem dX1_readNewName_9 : decode cX1_readNewName 9 = .ok (.invokevirtual 75, 3) := by decide +kernel
theorem dX1_readNewName_12 : decode cX1_readNewName 12 = .ok (.pop, 1) := by decide +kernel
theorem dX1_readNewName_13 : decode cX1_readNewName 13 = .ok (.goto 17, 3) := by decide +kernel
theorem dX1_readNewName_16 : decode cX1_readNewName 16 = .ok (.aload_n 0, 1) := by decide +kernel
theorem dX1_readNewName_17 : decode cX1_readNewName 17 = .ok (.invokevirtual 124, 3) := by decide +kernel
theorem dX1_readNewName_20 : decode cX1_readNewName 20 = .ok (.iconst (-1), 1) := by decide +kernel
theorem dX1_readNewName_21 : decode cX1_readNewName 21 = .ok (.if_icmp .eq 9, 3) := by decide +kernel
theorem dX1_readNewName_24 : decode cX1_readNewName 24 = .ok (.aload_n 0, 1) := by decide +kernel
theorem dX1_readNewName_25 : decode cX1_readNewName 25 = .ok (.iconst 4, 1) := by decide +kernel
theorem dX1_readNewName_26 : decode cX1_readNewName 26 = .ok (.invokevirtual 75, 3) := by decide +kernel
theorem dX1_readNewName_29 : decode cX1_readNewName 29 = .ok (.pop, 1) := by decide +kernel
theorem dX1_readNewName_30 : decode cX1_readNewName 30 = .ok (.aload_n 0, 1) := by decide +kernel
theorem dX1_readNewName_31 : decode cX1_readNewName 31 = .ok (.invokevirtual 35, 3) := by decide +kernel
theorem dX1_readNewName_34 : decode cX1_readNewName 34 = .ok (.ifCond .eq 6, 3) := by decide +kernel
theorem dX1_readNewName_37 : decode cX1_readNewName 37 = .ok (.ldc 127, 2) := by decide +kernel
theorem dX1_readNewName_39 : decode cX1_readNewName 39 = .ok (.areturn, 1) := by decide +kernel
theorem dX1_readNewName_40 : decode cX1_readNewName 40 = .ok (.new 129, 3) := by decide +kernel
theorem dX1_readNewName_43 : decode cX1_readNewName 43 = .ok (.dup, 1) := by decide +kernel
theorem dX1_readNewName_44 : decode cX1_readNewName 44 = .ok (.invokespecial 131, 3) := by decide +kernel
theorem dX1_readNewName_47 : decode cX1_readNewName 47 = .ok (.astore_n 1, 1) := by decide +kernel
theorem dX1_readNewName_48 : decode cX1_readNewName 48 = .ok (.aload_n 0, 1) := by decide +kernel
theorem dX1_readNewName_49 : decode cX1_readNewName 49 = .ok (.getfield 39, 3) := by decide +kernel
theorem dX1_readNewName_52 : decode cX1_readNewName 52 = .ok (.istore_n 2, 1) := by decide +kernel
theorem dX1_readNewName_53 : decode cX1_readNewName 53 = .ok (.iload_n 2, 1) := by decide +kernel
theorem dX1_readNewName_54 : decode cX1_readNewName 54 = .ok (.aload_n 0, 1) := by decide +kernel
theorem dX1_readNewName_55 : decode cX1_readNewName 55 = .ok (.getfield 29, 3) := by decide +kernel
theorem dX1_readNewName_58 : decode cX1_readNewName 58 = .ok (.if_icmp .ge 21, 3) := by decide +kernel
theorem dX1_readNewName_61 : decode cX1_readNewName 61 = .ok (.aload_n 1, 1) := by decide +kernel
theorem dX1_readNewName_62 : decode cX1_readNewName 62 = .ok (.aload_n 0, 1) := by decide +kernel
theorem dX1_readNewName_63 : decode cX1_readNewName 63 = .ok (.getfield 9, 3) := by decide +kernel
theorem dX1_readNewName_66 : decode cX1_readNewName 66 = .ok (.iload_n 2, 1) := by decide +kernel
theorem dX1_readNewName_67 : decode cX1_readNewName 67 = .ok (.baload, 1) := by decide +kernel
theorem dX1_readNewName_68 : decode cX1_readNewName 68 = .ok (.i2c, 1) := by decide +kernel
theorem dX1_readNewName_69 : decode cX1_readNewName 69 = .ok (.invokevirtual 132, 3) := by decide +kernel
theorem dX1_readNewName_72 : decode cX1_readNewName 72 = .ok (.pop, 1) := by decide +kernel
theorem dX1_readNewName_73 : decode cX1_readNewName 73 = .ok (.iinc 2 1, 3) := by decide +kernel
theorem dX1_readNewName_76 : decode cX1_readNewName 76 = .ok (.goto (-23), 3) := by decide +kernel
theorem dX1_readNewName_79 : decode cX1_readNewName 79 = .ok (.aload_n 0, 1) := by decide +kernel
theorem dX1_readNewName_80 : decode cX1_readNewName 80 = .ok (.invokevirtual 32, 3) := by decide +kernel
theorem dX1_readNewName_83 : decode cX1_readNewName 83 = .ok (.aload_n 1, 1) := by decide +kernel
theorem dX1_readNewName_84 : decode cX1_readNewName 84 = .ok (.invokevirtual 136, 3) := by decide +kernel
theorem dX1_readNewName_87 : decode cX1_readNewName 87 = .ok (.areturn, 1) := by decide +kernel
theorem dX2_takeRide_0 : decode cX2_takeRide 0 = .ok (.aload_n 0, 1) := by decide +kernel
theorem dX2_takeRide_1 : decode cX2_takeRide 1 = .ok (.iload_n 1, 1) := by decide +kernel
theorem dX2_takeRide_2 : decode cX2_takeRide 2 = .ok (.putfield 17, 3) := by decide +kernel
theorem dX2_takeRide_5 : decode cX2_takeRide 5 = .ok (.aload_n 0, 1) := by decide +kernel
theorem dX2_takeRide_6 : decode cX2_takeRide 6 = .ok (.iload_n 2, 1) := by decide +kernel
theorem dX2_takeRide_7 : decode cX2_takeRide 7 = .ok (.putfield 21, 3) := by decide +kernel
theorem dX2_takeRide_10 : decode cX2_takeRide 10 = .ok (.aload_n 0, 1) := by decide +kernel
theorem dX2_takeRide_11 : decode cX2_takeRide 11 = .ok (.iload_n 3, 1) := by decide +kernel
theorem dX2_takeRide_12 : decode cX2_takeRide 12 = .ok (.putfield 24, 3) := by decide +kernel
theorem dX2_takeRide_15 : decode cX2_takeRide 15 = .ok (.aload_n 0, 1) := by decide +kernel
theorem dX2_takeRide_16 : decode cX2_takeRide 16 = .ok (.iload 4, 2) := by decide +kernel
theorem dX2_takeRide_18 : decode cX2_takeRide 18 = .ok (.putfield 27, 3) := by decide +kernel
theorem dX2_takeRide_21 : decode cX2_takeRide 21 = .ok (.aload_n 0, 1) := by decide +kernel
theorem dX2_takeRide_22 : decode cX2_takeRide 22 = .ok (.iconst 0, 1) := by decide +kernel
theorem dX2_takeRide_23 : decode cX2_takeRide 23 = .ok (.putfield 37, 3) := by decide +kernel
theorem dX2_takeRide_26 : decode cX2_takeRide 26 = .ok (.return_, 1) := by decide +kernel
theorem dX2_enter_0 : decode cX2_enter 0 = .ok (.aload_n 0, 1) := by decide +kernel
theorem dX2_enter_1 : decode cX2_enter 1 = .ok (.aload_n 1, 1) := by decide +kernel
theorem dX2_enter_2 : decode cX2_enter 2 = .ok (.putfield 11, 3) := by decide +kernel
theorem dX2_enter_5 : decode cX2_enter 5 = .ok (.aload_n 0, 1) := by decide +kernel
theorem dX2_enter_6 : decode cX2_enter 6 = .ok (.iload_n 2, 1) := by decide +kernel
theorem dX2_enter_7 : decode cX2_enter 7 = .ok (.putfield 30, 3) := by decide +kernel
theorem dX2_enter_10 : decode cX2_enter 10 = .ok (.aload_n 0, 1) := by decide +kernel
theorem dX2_enter_11 : decode cX2_enter 11 = .ok (.iconst (-1), 1) := by decide +kernel
theorem dX2_enter_12 : decode cX2_enter 12 = .ok (.iconst (-1), 1) := by decide +kernel
theorem dX2_enter_13 : decode cX2_enter 13 = .ok (.iconst (-1), 1) := by decide +kernel
theorem dX2_enter_14 : decode cX2_enter 14 = .ok (.iconst (-1), 1) := by decide +kernel
theorem dX2_enter_15 : decode cX2_enter 15 = .ok (.invokevirtual 33, 3) := by decide +kernel
theorem dX2_enter_18 : decode cX2_enter 18 = .ok (.return_, 1) := by decide +kernel
theorem dX3_addPassenger_0 : decode cX3_addPassenger 0 = .ok (.aload_n 0, 1) := by decide +kernel
theorem dX3_addPassenger_1 : decode cX3_addPassenger 1 = .ok (.getfield 52, 3) := by decide +kernel
theorem dX3_addPassenger_4 : decode cX3_addPassenger 4 = .ok (.bipush 8, 2) := by decide +kernel
theorem dX3_addPassenger_6 : decode cX3_addPassenger 6 = .ok (.if_icmp .ge 37, 3) := by decide +kernel
theorem dX3_addPassenger_9 : decode cX3_addPassenger 9 = .ok (.aload_n 0, 1) := by decide +kernel
theorem dX3_addPassenger_10 : decode cX3_addPassenger 10 = .ok (.getfield 17, 3) := by decide +kernel
theorem dX3_addPassenger_13 : decode cX3_addPassenger 13 = .ok (.aload_n 0, 1) := by decide +kernel
theorem dX3_addPassenger_14 : decode cX3_addPassenger 14 = .ok (.getfield 52, 3) := by decide +kernel
theorem dX3_addPassenger_17 : decode cX3_addPassenger 17 = .ok (.aaload, 1) := by decide +kernel
theorem dX3_addPassenger_18 : decode cX3_addPassenger 18 = .ok (.aload_n 1, 1) := by decide +kernel
theorem dX3_addPassenger_19 : decode cX3_addPassenger 19 = .ok (.iload_n 2, 1) := by decide +kernel
theorem dX3_addPassenger_20 : decode cX3_addPassenger 20 = .ok (.invokevirtual 77, 3) := by decide +kernel
theorem dX3_addPassenger_23 : decode cX3_addPassenger 23 = .ok (.aload_n 0, 1) := by decide +kernel
theorem dX3_addPassenger_24 : decode cX3_addPassenger 24 = .ok (.dup, 1) := by decide +kernel
theorem dX3_addPassenger_25 : decode cX3_addPassenger 25 = .ok (.getfield 52, 3) := by decide +kernel
theorem dX3_addPassenger_28 : decode cX3_addPassenger 28 = .ok (.iconst 1, 1) := by decide +kernel
theorem dX3_addPassenger_29 : decode cX3_addPassenger 29 = .ok (.iadd, 1) := by decide +kernel
theorem dX3_addPassenger_30 : decode cX3_addPassenger 30 = .ok (.putfield 52, 3) := by decide +kernel
theorem dX3_addPassenger_33 : decode cX3_addPassenger 33 = .ok (.aload_n 0, 1) := by decide +kernel
theorem dX3_addPassenger_34 : decode cX3_addPassenger 34 = .ok (.dup, 1) := by decide +kernel
theorem dX3_addPassenger_35 : decode cX3_addPassenger 35 = .ok (.getfield 46, 3) := by decide +kernel
theorem dX3_addPassenger_38 : decode cX3_addPassenger 38 = .ok (.iload_n 2, 1) := by decide +kernel
theorem dX3_addPassenger_39 : decode cX3_addPassenger 39 = .ok (.iadd, 1) := by decide +kernel
theorem dX3_addPassenger_40 : decode cX3_addPassenger 40 = .ok (.putfield 46, 3) := by decide +kernel
theorem dX3_addPassenger_43 : decode cX3_addPassenger 43 = .ok (.return_, 1) := by decide +kernel
theorem dX1_readPassenger_0 : decode cX1_readPassenger 0 = .ok (.aload_n 0, 1) := by decide +kernel
theorem dX1_readPassenger_1 : decode cX1_readPassenger 1 = .ok (.getfield 19, 3) := by decide +kernel
theorem dX1_readPassenger_4 : decode cX1_readPassenger 4 = .ok (.getfield 109, 3) := by decide +kernel
theorem dX1_readPassenger_7 : decode cX1_readPassenger 7 = .ok (.bipush 8, 2) := by decide +kernel
theorem dX1_readPassenger_9 : decode cX1_readPassenger 9 = .ok (.if_icmp .ne 18, 3) := by decide +kernel
theorem dX1_readPassenger_12 : decode cX1_readPassenger 12 = .ok (.aload_n 0, 1) := by decide +kernel
theorem dX1_readPassenger_13 : decode cX1_readPassenger 13 = .ok (.ldc 107, 2) := by decide +kernel
theorem dX1_readPassenger_15 : decode cX1_readPassenger 15 = .ok (.invokevirtual 71, 3) := by decide +kernel
theorem dX1_readPassenger_18 : decode cX1_readPassenger 18 = .ok (.ifCond .eq 9, 3) := by decide +kernel
theorem dX1_readPassenger_21 : decode cX1_readPassenger 21 = .ok (.aload_n 0, 1) := by decide +kernel
theorem dX1_readPassenger_22 : decode cX1_readPassenger 22 = .ok (.iconst 5, 1) := by decide +kernel
theorem dX1_readPassenger_23 : decode cX1_readPassenger 23 = .ok (.invokevirtual 75, 3) := by decide +kernel
theorem dX1_readPassenger_26 : decode cX1_readPassenger 26 = .ok (.pop, 1) := by decide +kernel
theorem dX1_readPassenger_27 : decode cX1_readPassenger 27 = .ok (.aload_n 0, 1) := by decide +kernel
theorem dX1_readPassenger_28 : decode cX1_readPassenger 28 = .ok (.ldc 107, 2) := by decide +kernel
theorem dX1_readPassenger_30 : decode cX1_readPassenger 30 = .ok (.invokevirtual 93, 3) := by decide +kernel
theorem dX1_readPassenger_33 : decode cX1_readPassenger 33 = .ok (.aload_n 0, 1) := by decide +kernel
theorem dX1_readPassenger_34 : decode cX1_readPassenger 34 = .ok (.invokevirtual 112, 3) := by decide +kernel
theorem dX1_readPassenger_37 : decode cX1_readPassenger 37 = .ok (.astore_n 1, 1) := by decide +kernel
theorem dX1_readPassenger_38 : decode cX1_readPassenger 38 = .ok (.aload_n 0, 1) := by decide +kernel
theorem dX1_readPassenger_39 : decode cX1_readPassenger 39 = .ok (.iconst 0, 1) := by decide +kernel
theorem dX1_readPassenger_40 : decode cX1_readPassenger 40 = .ok (.ldc 116, 2) := by decide +kernel
theorem dX1_readPassenger_42 : decode cX1_readPassenger 42 = .ok (.invokevirtual 84, 3) := by decide +kernel
theorem dX1_readPassenger_45 : decode cX1_readPassenger 45 = .ok (.istore_n 2, 1) := by decide +kernel
theorem dX1_readPassenger_46 : decode cX1_readPassenger 46 = .ok (.aload_n 0, 1) := by decide +kernel
theorem dX1_readPassenger_47 : decode cX1_readPassenger 47 = .ok (.iconst 1, 1) := by decide +kernel
theorem dX1_readPassenger_48 : decode cX1_readPassenger 48 = .ok (.invokevirtual 100, 3) := by decide +kernel
theorem dX1_readPassenger_51 : decode cX1_readPassenger 51 = .ok (.ifCond .eq 12, 3) := by decide +kernel
theorem dX1_readPassenger_54 : decode cX1_readPassenger 54 = .ok (.aload_n 0, 1) := by decide +kernel
theorem dX1_readPassenger_55 : decode cX1_readPassenger 55 = .ok (.getfield 19, 3) := by decide +kernel
theorem dX1_readPassenger_58 : decode cX1_readPassenger 58 = .ok (.aload_n 1, 1) := by decide +kernel
theorem dX1_readPassenger_59 : decode cX1_readPassenger 59 = .ok (.iload_n 2, 1) := by decide +kernel
theorem dX1_readPassenger_60 : decode cX1_readPassenger 60 = .ok (.invokevirtual 117, 3) := by decide +kernel
theorem dX1_readPassenger_63 : decode cX1_readPassenger 63 = .ok (.return_, 1) := by decide +kernel
theorem dX1_readPassengers_0 : decode cX1_readPassengers 0 = .ok (.aload_n 0, 1) := by decide +kernel
theorem dX1_readPassengers_1 : decode cX1_readPassengers 1 = .ok (.invokevirtual 104, 3) := by decide +kernel
theorem dX1_readPassengers_4 : decode cX1_readPassengers 4 = .ok (.iconst 1, 1) := by decide +kernel
theorem dX1_readPassengers_5 : decode cX1_readPassengers 5 = .ok (.istore_n 1, 1) := by decide +kernel
theorem dX1_readPassengers_6 : decode cX1_readPassengers 6 = .ok (.iload_n 1, 1) := by decide +kernel
theorem dX1_readPassengers_7 : decode cX1_readPassengers 7 = .ok (.bipush 8, 2) := by decide +kernel
theorem dX1_readPassengers_9 : decode cX1_readPassengers 9 = .ok (.if_icmp .gt 22, 3) := by decide +kernel
theorem dX1_readPassengers_12 : decode cX1_readPassengers 12 = .ok (.aload_n 0, 1) := by decide +kernel
theorem dX1_readPassengers_13 : decode cX1_readPassengers 13 = .ok (.ldc 107, 2) := by decide +kernel
theorem dX1_readPassengers_15 : decode cX1_readPassengers 15 = .ok (.invokevirtual 71, 3) := by decide +kernel
theorem dX1_readPassengers_18 : decode cX1_readPassengers 18 = .ok (.ifCond .eq 13, 3) := by decide +kernel
theorem dX1_readPassengers_21 : decode cX1_readPassengers 21 = .ok (.aload_n 0, 1) := by decide +kernel
theorem dX1_readPassengers_22 : decode cX1_readPassengers 22 = .ok (.invokevirtual 104, 3) := by decide +kernel
theorem dX1_readPassengers_25 : decode cX1_readPassengers 25 = .ok (.iinc 1 1, 3) := by decide +kernel
theorem dX1_readPassengers_28 : decode cX1_readPassengers 28 = .ok (.goto (-22), 3) := by decide +kernel
theorem dX1_readPassengers_31 : decode cX1_readPassengers 31 = .ok (.return_, 1) := by decide +kernel
theorem dX1_readKnownName_0 : decode cX1_readKnownName 0 = .ok (.aload_n 0, 1) := by decide +kernel
theorem dX1_readKnownName_1 : decode cX1_readKnownName 1 = .ok (.invokevirtual 121, 3) := by decide +kernel
theorem dX1_readKnownName_4 : decode cX1_readKnownName 4 = .ok (.ifCond .ne 9, 3) := by decide +kernel
theorem dX1_readKnownName_7 : decode cX1_readKnownName 7 = .ok (.aload_n 0, 1) := by decide +kernel
theorem dX1_readKnownName_8 : decode cX1_readKnownName 8 = .ok (.iconst 1, 1) := by decide +kernel
theorem dX1_readKnownName_9 : decode cX1_readKnownName 9 = .ok (.invokevirtual 75, 3) := by decide +kernel
theorem dX1_readKnownName_12 : decode cX1_readKnownName 12 = .ok (.ireturn, 1) := by decide +kernel
theorem dX1_readKnownName_13 : decode cX1_readKnownName 13 = .ok (.aload_n 0, 1) := by decide +kernel
theorem dX1_readKnownName_14 : decode cX1_readKnownName 14 = .ok (.invokevirtual 124, 3) := by decide +kernel
theorem dX1_readKnownName_17 : decode cX1_readKnownName 17 = .ok (.istore_n 1, 1) := by decide +kernel
theorem dX1_readKnownName_18 : decode cX1_readKnownName 18 = .ok (.iload_n 1, 1) := by decide +kernel
theorem dX1_readKnownName_19 : decode cX1_readKnownName 19 = .ok (.iconst (-1), 1) := by decide +kernel
theorem dX1_readKnownName_20 : decode cX1_readKnownName 20 = .ok (.if_icmp .ne 9, 3) := by decide +kernel
theorem dX1_readKnownName_23 : decode cX1_readKnownName 23 = .ok (.aload_n 0, 1) := by decide +kernel
theorem dX1_readKnownName_24 : decode cX1_readKnownName 24 = .ok (.iconst 3, 1) := by decide +kernel
theorem dX1_readKnownName_25 : decode cX1_readKnownName 25 = .ok (.invokevirtual 75, 3) := by decide +kernel
theorem dX1_readKnownName_28 : decode cX1_readKnownName 28 = .ok (.ireturn, 1) := by decide +kernel
theorem dX1_readKnownName_29 : decode cX1_readKnownName 29 = .ok (.aload_n 0, 1) := by decide +kernel
theorem dX1_readKnownName_30 : decode cX1_readKnownName 30 = .ok (.invokevirtual 32, 3) := by decide +kernel
theorem dX1_readKnownName_33 : decode cX1_readKnownName 33 = .ok (.iload_n 1, 1) := by decide +kernel
theorem dX1_readKnownName_34 : decode cX1_readKnownName 34 = .ok (.ireturn, 1) := by decide +kernel
theorem dX1_readKind_0 : decode cX1_readKind 0 = .ok (.iconst 0, 1) := by decide +kernel
theorem dX1_readKind_1 : decode cX1_readKind 1 = .ok (.istore_n 1, 1) := by decide +kernel
theorem dX1_readKind_2 : decode cX1_readKind 2 = .ok (.aload_n 0, 1) := by decide +kernel
theorem dX1_readKind_3 : decode cX1_readKind 3 = .ok (.ldc 149, 2) := by decide +kernel
theorem dX1_readKind_5 : decode cX1_readKind 5 = .ok (.invokevirtual 71, 3) := by decide +kernel
theorem dX1_readKind_8 : decode cX1_readKind 8 = .ok (.ifCond .eq 8, 3) := by decide +kernel
theorem dX1_readKind_11 : decode cX1_readKind 11 = .ok (.iconst 1, 1) := by decide +kernel
theorem dX1_readKind_12 : decode cX1_readKind 12 = .ok (.istore_n 1, 1) := by decide +kernel
theorem dX1_readKind_13 : decode cX1_readKind 13 = .ok (.goto 32, 3) := by decide +kernel
theorem dX1_readKind_16 : decode cX1_readKind 16 = .ok (.aload_n 0, 1) := by decide +kernel
theorem dX1_readKind_17 : decode cX1_readKind 17 = .ok (.ldc 151, 2) := by decide +kernel
theorem dX1_readKind_19 : decode cX1_readKind 19 = .ok (.invokevirtual 71, 3) := by decide +kernel
theorem dX1_readKind_22 : decode cX1_readKind 22 = .ok (.ifCond .eq 8, 3) := by decide +kernel
theorem dX1_readKind_25 : decode cX1_readKind 25 = .ok (.iconst 2, 1) := by decide +kernel
theorem dX1_readKind_26 : decode cX1_readKind 26 = .ok (.istore_n 1, 1) := by decide +kernel
theorem dX1_readKind_27 : decode cX1_readKind 27 = .ok (.goto 18, 3) := by decide +kernel
theorem dX1_readKind_30 : decode cX1_readKind 30 = .ok (.aload_n 0, 1) := by decide +kernel
theorem dX1_readKind_31 : decode cX1_readKind 31 = .ok (.ldc 153, 2) := by decide +kernel
theorem dX1_readKind_33 : decode cX1_readKind 33 = .ok (.invokevirtual 71, 3) := by decide +kernel
theorem dX1_readKind_36 : decode cX1_readKind 36 = .ok (.ifCond .ne 9, 3) := by decide +kernel
theorem dX1_readKind_39 : decode cX1_readKind 39 = .ok (.aload_n 0, 1) := by decide +kernel
theorem dX1_readKind_40 : decode cX1_readKind 40 = .ok (.iconst 1, 1) := by decide +kernel
theorem dX1_readKind_41 : decode cX1_readKind 41 = .ok (.invokevirtual 75, 3) := by decide +kernel
theorem dX1_readKind_44 : decode cX1_readKind 44 = .ok (.ireturn, 1) := by decide +kernel
theorem dX1_readKind_45 : decode cX1_readKind 45 = .ok (.aload_n 0, 1) := by decide +kernel
theorem dX1_readKind_46 : decode cX1_readKind 46 = .ok (.invokevirtual 32, 3) := by decide +kernel
theorem dX1_readKind_49 : decode cX1_readKind 49 = .ok (.iload_n 1, 1) := by decide +kernel
theorem dX1_readKind_50 : decode cX1_readKind 50 = .ok (.ireturn, 1) := by decide +kernel
theorem dX1_readStop_0 : decode cX1_readStop 0 = .ok (.aload_n 0, 1) := by decide +kernel
theorem dX1_readStop_1 : decode cX1_readStop 1 = .ok (.getfield 42, 3) := by decide +kernel
theorem dX1_readStop_4 : decode cX1_readStop 4 = .ok (.iconst 2, 1) := by decide +kernel
theorem dX1_readStop_5 : decode cX1_readStop 5 = .ok (.if_icmp .ne 17, 3) := by decide +kernel
theorem dX1_readStop_8 : decode cX1_readStop 8 = .ok (.aload_n 0, 1) := by decide +kernel
theorem dX1_readStop_9 : decode cX1_readStop 9 = .ok (.getfield 52, 3) := by decide +kernel
theorem dX1_readStop_12 : decode cX1_readStop 12 = .ok (.iload_n 1, 1) := by decide +kernel
theorem dX1_readStop_13 : decode cX1_readStop 13 = .ok (.if_icmp .ne 9, 3) := by decide +kernel
theorem dX1_readStop_16 : decode cX1_readStop 16 = .ok (.aload_n 0, 1) := by decide +kernel
theorem dX1_readStop_17 : decode cX1_readStop 17 = .ok (.iconst 2, 1) := by decide +kernel
theorem dX1_readStop_18 : decode cX1_readStop 18 = .ok (.invokevirtual 75, 3) := by decide +kernel
theorem dX1_readStop_21 : decode cX1_readStop 21 = .ok (.pop, 1) := by decide +kernel
theorem dX1_readStop_22 : decode cX1_readStop 22 = .ok (.aload_n 0, 1) := by decide +kernel
theorem dX1_readStop_23 : decode cX1_readStop 23 = .ok (.iconst 0, 1) := by decide +kernel
theorem dX1_readStop_24 : decode cX1_readStop 24 = .ok (.aload_n 0, 1) := by decide +kernel
theorem dX1_readStop_25 : decode cX1_readStop 25 = .ok (.getfield 19, 3) := by decide +kernel
theorem dX1_readStop_28 : decode cX1_readStop 28 = .ok (.getfield 79, 3) := by decide +kernel
theorem dX1_readStop_31 : decode cX1_readStop 31 = .ok (.iconst 1, 1) := by decide +kernel
theorem dX1_readStop_32 : decode cX1_readStop 32 = .ok (.isub, 1) := by decide +kernel
theorem dX1_readStop_33 : decode cX1_readStop 33 = .ok (.invokevirtual 84, 3) := by decide +kernel
theorem dX1_readStop_36 : decode cX1_readStop 36 = .ok (.ireturn, 1) := by decide +kernel
theorem dX1_readTicket_0 : decode cX1_readTicket 0 = .ok (.aload_n 0, 1) := by decide +kernel
theorem dX1_readTicket_1 : decode cX1_readTicket 1 = .ok (.iconst 0, 1) := by decide +kernel
theorem dX1_readTicket_2 : decode cX1_readTicket 2 = .ok (.aload_n 0, 1) := by decide +kernel
theorem dX1_readTicket_3 : decode cX1_readTicket 3 = .ok (.getfield 19, 3) := by decide +kernel
theorem dX1_readTicket_6 : decode cX1_readTicket 6 = .ok (.getfield 155, 3) := by decide +kernel
theorem dX1_readTicket_9 : decode cX1_readTicket 9 = .ok (.iconst 1, 1) := by decide +kernel
theorem dX1_readTicket_10 : decode cX1_readTicket 10 = .ok (.isub, 1) := by decide +kernel
theorem dX1_readTicket_11 : decode cX1_readTicket 11 = .ok (.invokevirtual 84, 3) := by decide +kernel
theorem dX1_readTicket_14 : decode cX1_readTicket 14 = .ok (.ireturn, 1) := by decide +kernel
theorem dX1_readCase_0 : decode cX1_readCase 0 = .ok (.aload_n 0, 1) := by decide +kernel
theorem dX1_readCase_1 : decode cX1_readCase 1 = .ok (.iconst 0, 1) := by decide +kernel
theorem dX1_readCase_2 : decode cX1_readCase 2 = .ok (.aload_n 0, 1) := by decide +kernel
theorem dX1_readCase_3 : decode cX1_readCase 3 = .ok (.getfield 19, 3) := by decide +kernel
theorem dX1_readCase_6 : decode cX1_readCase 6 = .ok (.getfield 158, 3) := by decide +kernel
theorem dX1_readCase_9 : decode cX1_readCase 9 = .ok (.iconst 1, 1) := by decide +kernel
theorem dX1_readCase_10 : decode cX1_readCase 10 = .ok (.isub, 1) := by decide +kernel
theorem dX1_readCase_11 : decode cX1_readCase 11 = .ok (.invokevirtual 84, 3) := by decide +kernel
theorem dX1_readCase_14 : decode cX1_readCase 14 = .ok (.ireturn, 1) := by decide +kernel
theorem dJ6_bitCount_0f7a4_0 : decode cJ6_bitCount_0f7a4 0 = .ok (.iload_n 0, 1) := by decide +kernel
theorem dJ6_bitCount_0f7a4_1 : decode cJ6_bitCount_0f7a4 1 = .ok (.iload_n 0, 1) := by decide +kernel
theorem dJ6_bitCount_0f7a4_2 : decode cJ6_bitCount_0f7a4 2 = .ok (.iconst 1, 1) := by decide +kernel
theorem dJ6_bitCount_0f7a4_3 : decode cJ6_bitCount_0f7a4 3 = .ok (.iushr, 1) := by decide +kernel
theorem dJ6_bitCount_0f7a4_4 : decode cJ6_bitCount_0f7a4 4 = .ok (.ldc_w 265, 3) := by decide +kernel
theorem dJ6_bitCount_0f7a4_7 : decode cJ6_bitCount_0f7a4 7 = .ok (.iand, 1) := by decide +kernel
theorem dJ6_bitCount_0f7a4_8 : decode cJ6_bitCount_0f7a4 8 = .ok (.isub, 1) := by decide +kernel
theorem dJ6_bitCount_0f7a4_9 : decode cJ6_bitCount_0f7a4 9 = .ok (.istore_n 0, 1) := by decide +kernel
theorem dJ6_bitCount_0f7a4_10 : decode cJ6_bitCount_0f7a4 10 = .ok (.iload_n 0, 1) := by decide +kernel
theorem dJ6_bitCount_0f7a4_11 : decode cJ6_bitCount_0f7a4 11 = .ok (.ldc_w 266, 3) := by decide +kernel
theorem dJ6_bitCount_0f7a4_14 : decode cJ6_bitCount_0f7a4 14 = .ok (.iand, 1) := by decide +kernel
theorem dJ6_bitCount_0f7a4_15 : decode cJ6_bitCount_0f7a4 15 = .ok (.iload_n 0, 1) := by decide +kernel
theorem dJ6_bitCount_0f7a4_16 : decode cJ6_bitCount_0f7a4 16 = .ok (.iconst 2, 1) := by decide +kernel
theorem dJ6_bitCount_0f7a4_17 : decode cJ6_bitCount_0f7a4 17 = .ok (.iushr, 1) := by decide +kernel
theorem dJ6_bitCount_0f7a4_18 : decode cJ6_bitCount_0f7a4 18 = .ok (.ldc_w 266, 3) := by decide +kernel
theorem dJ6_bitCount_0f7a4_21 : decode cJ6_bitCount_0f7a4 21 = .ok (.iand, 1) := by decide +kernel
theorem dJ6_bitCount_0f7a4_22 : decode cJ6_bitCount_0f7a4 22 = .ok (.iadd, 1) := by decide +kernel
theorem dJ6_bitCount_0f7a4_23 : decode cJ6_bitCount_0f7a4 23 = .ok (.istore_n 0, 1) := by decide +kernel
theorem dJ6_bitCount_0f7a4_24 : decode cJ6_bitCount_0f7a4 24 = .ok (.iload_n 0, 1) := by decide +kernel
theorem dJ6_bitCount_0f7a4_25 : decode cJ6_bitCount_0f7a4 25 = .ok (.iload_n 0, 1) := by decide +kernel
theorem dJ6_bitCount_0f7a4_26 : decode cJ6_bitCount_0f7a4 26 = .ok (.iconst 4, 1) := by decide +kernel
theorem dJ6_bitCount_0f7a4_27 : decode cJ6_bitCount_0f7a4 27 = .ok (.iushr, 1) := by decide +kernel
theorem dJ6_bitCount_0f7a4_28 : decode cJ6_bitCount_0f7a4 28 = .ok (.iadd, 1) := by decide +kernel
theorem dJ6_bitCount_0f7a4_29 : decode cJ6_bitCount_0f7a4 29 = .ok (.ldc_w 267, 3) := by decide +kernel
theorem dJ6_bitCount_0f7a4_32 : decode cJ6_bitCount_0f7a4 32 = .ok (.iand, 1) := by decide +kernel
theorem dJ6_bitCount_0f7a4_33 : decode cJ6_bitCount_0f7a4 33 = .ok (.istore_n 0, 1) := by decide +kernel
theorem dJ6_bitCount_0f7a4_34 : decode cJ6_bitCount_0f7a4 34 = .ok (.iload_n 0, 1) := by decide +kernel
theorem dJ6_bitCount_0f7a4_35 : decode cJ6_bitCount_0f7a4 35 = .ok (.iload_n 0, 1) := by decide +kernel
theorem dJ6_bitCount_0f7a4_36 : decode cJ6_bitCount_0f7a4 36 = .ok (.bipush 8, 2) := by decide +kernel
theorem dJ6_bitCount_0f7a4_38 : decode cJ6_bitCount_0f7a4 38 = .ok (.iushr, 1) := by decide +kernel
theorem dJ6_bitCount_0f7a4_39 : decode cJ6_bitCount_0f7a4 39 = .ok (.iadd, 1) := by decide +kernel
theorem dJ6_bitCount_0f7a4_40 : decode cJ6_bitCount_0f7a4 40 = .ok (.istore_n 0, 1) := by decide +kernel
theorem dJ6_bitCount_0f7a4_41 : decode cJ6_bitCount_0f7a4 41 = .ok (.iload_n 0, 1) := by decide +kernel
theorem dJ6_bitCount_0f7a4_42 : decode cJ6_bitCount_0f7a4 42 = .ok (.iload_n 0, 1) := by decide +kernel
theorem dJ6_bitCount_0f7a4_43 : decode cJ6_bitCount_0f7a4 43 = .ok (.bipush 16, 2) := by decide +kernel
theorem dJ6_bitCount_0f7a4_45 : decode cJ6_bitCount_0f7a4 45 = .ok (.iushr, 1) := by decide +kernel
theorem dJ6_bitCount_0f7a4_46 : decode cJ6_bitCount_0f7a4 46 = .ok (.iadd, 1) := by decide +kernel
theorem dJ6_bitCount_0f7a4_47 : decode cJ6_bitCount_0f7a4 47 = .ok (.istore_n 0, 1) := by decide +kernel
theorem dJ6_bitCount_0f7a4_48 : decode cJ6_bitCount_0f7a4 48 = .ok (.iload_n 0, 1) := by decide +kernel
theorem dJ6_bitCount_0f7a4_49 : decode cJ6_bitCount_0f7a4 49 = .ok (.bipush 63, 2) := by decide +kernel
theorem dJ6_bitCount_0f7a4_51 : decode cJ6_bitCount_0f7a4 51 = .ok (.iand, 1) := by decide +kernel
theorem dJ6_bitCount_0f7a4_52 : decode cJ6_bitCount_0f7a4 52 = .ok (.ireturn, 1) := by decide +kernel
theorem dX5_priceOf_0 : decode cX5_priceOf 0 = .ok (.iload_n 0, 1) := by decide +kernel
theorem dX5_priceOf_1 : decode cX5_priceOf 1 = .ok (.iconst 2, 1) := by decide +kernel
theorem dX5_priceOf_2 : decode cX5_priceOf 2 = .ok (.if_icmp .ne 7, 3) := by decide +kernel
theorem dX5_priceOf_5 : decode cX5_priceOf 5 = .ok (.sipush 150, 3) := by decide +kernel
theorem dX5_priceOf_8 : decode cX5_priceOf 8 = .ok (.ireturn, 1) := by decide +kernel
theorem dX5_priceOf_9 : decode cX5_priceOf 9 = .ok (.iload_n 1, 1) := by decide +kernel
theorem dX5_priceOf_10 : decode cX5_priceOf 10 = .ok (.invokestatic 380, 3) := by decide +kernel
theorem dX5_priceOf_13 : decode cX5_priceOf 13 = .ok (.iload_n 0, 1) := by decide +kernel
theorem dX5_priceOf_14 : decode cX5_priceOf 14 = .ok (.iconst 1, 1) := by decide +kernel
theorem dX5_priceOf_15 : decode cX5_priceOf 15 = .ok (.if_icmp .ne 9, 3) := by decide +kernel
theorem dX5_priceOf_18 : decode cX5_priceOf 18 = .ok (.sipush 500, 3) := by decide +kernel
theorem dX5_priceOf_21 : decode cX5_priceOf 21 = .ok (.goto 6, 3) := by decide +kernel
theorem dX5_priceOf_24 : decode cX5_priceOf 24 = .ok (.sipush 200, 3) := by decide +kernel
theorem dX5_priceOf_27 : decode cX5_priceOf 27 = .ok (.imul, 1) := by decide +kernel
theorem dX5_priceOf_28 : decode cX5_priceOf 28 = .ok (.ireturn, 1) := by decide +kernel
theorem dX3_canSell_0 : decode cX3_canSell 0 = .ok (.aload_n 0, 1) := by decide +kernel
theorem dX3_canSell_1 : decode cX3_canSell 1 = .ok (.getfield 55, 3) := by decide +kernel
theorem dX3_canSell_4 : decode cX3_canSell 4 = .ok (.bipush 30, 2) := by decide +kernel
theorem dX3_canSell_6 : decode cX3_canSell 6 = .ok (.if_icmp .ge 24, 3) := by decide +kernel
theorem dX3_canSell_9 : decode cX3_canSell 9 = .ok (.aload_n 0, 1) := by decide +kernel
theorem dX3_canSell_10 : decode cX3_canSell 10 = .ok (.getfield 17, 3) := by decide +kernel
theorem dX3_canSell_13 : decode cX3_canSell 13 = .ok (.iload_n 1, 1) := by decide +kernel
theorem dX3_canSell_14 : decode cX3_canSell 14 = .ok (.aaload, 1) := by decide +kernel
theorem dX3_canSell_15 : decode cX3_canSell 15 = .ok (.getfield 90, 3) := by decide +kernel
theorem dX3_canSell_18 : decode cX3_canSell 18 = .ok (.iload_n 2, 1) := by decide +kernel
theorem dX3_canSell_19 : decode cX3_canSell 19 = .ok (.iload_n 3, 1) := by decide +kernel
theorem dX3_canSell_20 : decode cX3_canSell 20 = .ok (.invokestatic 93, 3) := by decide +kernel
theorem dX3_canSell_23 : decode cX3_canSell 23 = .ok (.if_icmp .lt 7, 3) := by decide +kernel
theorem dX3_canSell_26 : decode cX3_canSell 26 = .ok (.iconst 1, 1) := by decide +kernel
theorem dX3_canSell_27 : decode cX3_canSell 27 = .ok (.goto 4, 3) := by decide +kernel
theorem dX3_canSell_30 : decode cX3_canSell 30 = .ok (.iconst 0, 1) := by decide +kernel
theorem dX3_canSell_31 : decode cX3_canSell 31 = .ok (.ireturn, 1) := by decide +kernel
theorem dX4_issue_0 : decode cX4_issue 0 = .ok (.aload_n 0, 1) := by decide +kernel
theorem dX4_issue_1 : decode cX4_issue 1 = .ok (.iload_n 1, 1) := by decide +kernel
theorem dX4_issue_2 : decode cX4_issue 2 = .ok (.putfield 9, 3) := by decide +kernel
theorem dX4_issue_5 : decode cX4_issue 5 = .ok (.aload_n 0, 1) := by decide +kernel
theorem dX4_issue_6 : decode cX4_issue 6 = .ok (.iload_n 2, 1) := by decide +kernel
theorem dX4_issue_7 : decode cX4_issue 7 = .ok (.putfield 15, 3) := by decide +kernel
theorem dX4_issue_10 : decode cX4_issue 10 = .ok (.aload_n 0, 1) := by decide +kernel
theorem dX4_issue_11 : decode cX4_issue 11 = .ok (.iload_n 3, 1) := by decide +kernel
theorem dX4_issue_12 : decode cX4_issue 12 = .ok (.putfield 18, 3) := by decide +kernel
theorem dX4_issue_15 : decode cX4_issue 15 = .ok (.aload_n 0, 1) := by decide +kernel
theorem dX4_issue_16 : decode cX4_issue 16 = .ok (.iconst (-1), 1) := by decide +kernel
theorem dX4_issue_17 : decode cX4_issue 17 = .ok (.putfield 21, 3) := by decide +kernel
theorem dX4_issue_20 : decode cX4_issue 20 = .ok (.aload_n 0, 1) := by decide +kernel
theorem dX4_issue_21 : decode cX4_issue 21 = .ok (.iconst (-1), 1) := by decide +kernel
theorem dX4_issue_22 : decode cX4_issue 22 = .ok (.putfield 24, 3) := by decide +kernel
theorem dX4_issue_25 : decode cX4_issue 25 = .ok (.aload_n 0, 1) := by decide +kernel
theorem dX4_issue_26 : decode cX4_issue 26 = .ok (.iconst 0, 1) := by decide +kernel
theorem dX4_issue_27 : decode cX4_issue 27 = .ok (.putfield 27, 3) := by decide +kernel
theorem dX4_issue_30 : decode cX4_issue 30 = .ok (.return_, 1) := by decide +kernel
theorem dX3_sell_0 : decode cX3_sell 0 = .ok (.aload_n 0, 1) := by decide +kernel
theorem dX3_sell_1 : decode cX3_sell 1 = .ok (.getfield 55, 3) := by decide +kernel
theorem dX3_sell_4 : decode cX3_sell 4 = .ok (.istore 4, 2) := by decide +kernel
theorem dX3_sell_6 : decode cX3_sell 6 = .ok (.aload_n 0, 1) := by decide +kernel
theorem dX3_sell_7 : decode cX3_sell 7 = .ok (.getfield 23, 3) := by decide +kernel
theorem dX3_sell_10 : decode cX3_sell 10 = .ok (.iload 4, 2) := by decide +kernel
theorem dX3_sell_12 : decode cX3_sell 12 = .ok (.aaload, 1) := by decide +kernel
theorem dX3_sell_13 : decode cX3_sell 13 = .ok (.iload_n 1, 1) := by decide +kernel
theorem dX3_sell_14 : decode cX3_sell 14 = .ok (.iload_n 2, 1) := by decide +kernel
theorem dX3_sell_15 : decode cX3_sell 15 = .ok (.iload_n 3, 1) := by decide +kernel
theorem dX3_sell_16 : decode cX3_sell 16 = .ok (.invokevirtual 96, 3) := by decide +kernel
theorem dX3_sell_19 : decode cX3_sell 19 = .ok (.aload_n 0, 1) := by decide +kernel
theorem dX3_sell_20 : decode cX3_sell 20 = .ok (.getfield 17, 3) := by decide +kernel
theorem dX3_sell_23 : decode cX3_sell 23 = .ok (.iload_n 1, 1) := by decide +kernel
theorem dX3_sell_24 : decode cX3_sell 24 = .ok (.aaload, 1) := by decide +kernel
theorem dX3_sell_25 : decode cX3_sell 25 = .ok (.dup, 1) := by decide +kernel
theorem dX3_sell_26 : decode cX3_sell 26 = .ok (.getfield 90, 3) := by decide +kernel
theorem dX3_sell_29 : decode cX3_sell 29 = .ok (.iload_n 2, 1) := by decide +kernel
theorem dX3_sell_30 : decode cX3_sell 30 = .ok (.iload_n 3, 1) := by decide +kernel
theorem dX3_sell_31 : decode cX3_sell 31 = .ok (.invokestatic 93, 3) := by decide +kernel
theorem dX3_sell_34 : decode cX3_sell 34 = .ok (.isub, 1) := by decide +kernel
theorem dX3_sell_35 : decode cX3_sell 35 = .ok (.putfield 90, 3) := by decide +kernel
theorem dX3_sell_38 : decode cX3_sell 38 = .ok (.aload_n 0, 1) := by decide +kernel
theorem dX3_sell_39 : decode cX3_sell 39 = .ok (.dup, 1) := by decide +kernel
theorem dX3_sell_40 : decode cX3_sell 40 = .ok (.getfield 55, 3) := by decide +kernel
theorem dX3_sell_43 : decode cX3_sell 43 = .ok (.iconst 1, 1) := by decide +kernel
theorem dX3_sell_44 : decode cX3_sell 44 = .ok (.iadd, 1) := by decide +kernel
theorem dX3_sell_45 : decode cX3_sell 45 = .ok (.putfield 55, 3) := by decide +kernel
theorem dX3_sell_48 : decode cX3_sell 48 = .ok (.iload 4, 2) := by decide +kernel
theorem dX3_sell_50 : decode cX3_sell 50 = .ok (.ireturn, 1) := by decide +kernel
theorem dX1_readBuy_0 : decode cX1_readBuy 0 = .ok (.aload_n 0, 1) := by decide +kernel
theorem dX1_readBuy_1 : decode cX1_readBuy 1 = .ok (.invokevirtual 32, 3) := by decide +kernel
theorem dX1_readBuy_4 : decode cX1_readBuy 4 = .ok (.aload_n 0, 1) := by decide +kernel
theorem dX1_readBuy_5 : decode cX1_readBuy 5 = .ok (.invokevirtual 196, 3) := by decide +kernel
theorem dX1_readBuy_8 : decode cX1_readBuy 8 = .ok (.istore_n 1, 1) := by decide +kernel
theorem dX1_readBuy_9 : decode cX1_readBuy 9 = .ok (.aload_n 0, 1) := by decide +kernel
theorem dX1_readBuy_10 : decode cX1_readBuy 10 = .ok (.invokevirtual 199, 3) := by decide +kernel
theorem dX1_readBuy_13 : decode cX1_readBuy 13 = .ok (.istore_n 2, 1) := by decide +kernel
theorem dX1_readBuy_14 : decode cX1_readBuy 14 = .ok (.aload_n 0, 1) := by decide +kernel
theorem dX1_readBuy_15 : decode cX1_readBuy 15 = .ok (.iconst 1, 1) := by decide +kernel
theorem dX1_readBuy_16 : decode cX1_readBuy 16 = .ok (.bipush 15, 2) := by decide +kernel
theorem dX1_readBuy_18 : decode cX1_readBuy 18 = .ok (.invokevirtual 84, 3) := by decide +kernel
theorem dX1_readBuy_21 : decode cX1_readBuy 21 = .ok (.istore_n 3, 1) := by decide +kernel
theorem dX1_readBuy_22 : decode cX1_readBuy 22 = .ok (.aload_n 0, 1) := by decide +kernel
theorem dX1_readBuy_23 : decode cX1_readBuy 23 = .ok (.aload_n 0, 1) := by decide +kernel
theorem dX1_readBuy_24 : decode cX1_readBuy 24 = .ok (.invokevirtual 35, 3) := by decide +kernel
theorem dX1_readBuy_27 : decode cX1_readBuy 27 = .ok (.ifCond .ne 20, 3) := by decide +kernel
theorem dX1_readBuy_30 : decode cX1_readBuy 30 = .ok (.aload_n 0, 1) := by decide +kernel
theorem dX1_readBuy_31 : decode cX1_readBuy 31 = .ok (.getfield 19, 3) := by decide +kernel
theorem dX1_readBuy_34 : decode cX1_readBuy 34 = .ok (.iload_n 1, 1) := by decide +kernel
theorem dX1_readBuy_35 : decode cX1_readBuy 35 = .ok (.iload_n 2, 1) := by decide +kernel
theorem dX1_readBuy_36 : decode cX1_readBuy 36 = .ok (.iload_n 3, 1) := by decide +kernel
theorem dX1_readBuy_37 : decode cX1_readBuy 37 = .ok (.invokevirtual 202, 3) := by decide +kernel
theorem dX1_readBuy_40 : decode cX1_readBuy 40 = .ok (.ifCond .eq 7, 3) := by decide +kernel
theorem dX1_readBuy_43 : decode cX1_readBuy 43 = .ok (.iconst 1, 1) := by decide +kernel
theorem dX1_readBuy_44 : decode cX1_readBuy 44 = .ok (.goto 4, 3) := by decide +kernel
theorem dX1_readBuy_47 : decode cX1_readBuy 47 = .ok (.iconst 0, 1) := by decide +kernel
theorem dX1_readBuy_48 : decode cX1_readBuy 48 = .ok (.invokevirtual 100, 3) := by decide +kernel
theorem dX1_readBuy_51 : decode cX1_readBuy 51 = .ok (.ifCond .eq 14, 3) := by decide +kernel
theorem dX1_readBuy_54 : decode cX1_readBuy 54 = .ok (.aload_n 0, 1) := by decide +kernel
theorem dX1_readBuy_55 : decode cX1_readBuy 55 = .ok (.getfield 19, 3) := by decide +kernel
theorem dX1_readBuy_58 : decode cX1_readBuy 58 = .ok (.iload_n 1, 1) := by decide +kernel
theorem dX1_readBuy_59 : decode cX1_readBuy 59 = .ok (.iload_n 2, 1) := by decide +kernel
theorem dX1_readBuy_60 : decode cX1_readBuy 60 = .ok (.iload_n 3, 1) := by decide +kernel
theorem dX1_readBuy_61 : decode cX1_readBuy 61 = .ok (.invokevirtual 206, 3) := by decide +kernel
theorem dX1_readBuy_64 : decode cX1_readBuy 64 = .ok (.pop, 1) := by decide +kernel
theorem dX1_readBuy_65 : decode cX1_readBuy 65 = .ok (.return_, 1) := by decide +kernel
theorem dX2_isOnTram_0 : decode cX2_isOnTram 0 = .ok (.iload_n 1, 1) := by decide +kernel
theorem dX2_isOnTram_1 : decode cX2_isOnTram 1 = .ok (.aload_n 0, 1) := by decide +kernel
theorem dX2_isOnTram_2 : decode cX2_isOnTram 2 = .ok (.getfield 24, 3) := by decide +kernel
theorem dX2_isOnTram_5 : decode cX2_isOnTram 5 = .ok (.if_icmp .ge 7, 3) := by decide +kernel
theorem dX2_isOnTram_8 : decode cX2_isOnTram 8 = .ok (.iconst 1, 1) := by decide +kernel
theorem dX2_isOnTram_9 : decode cX2_isOnTram 9 = .ok (.goto 4, 3) := by decide +kernel
theorem dX2_isOnTram_12 : decode cX2_isOnTram 12 = .ok (.iconst 0, 1) := by decide +kernel
theorem dX2_isOnTram_13 : decode cX2_isOnTram 13 = .ok (.ireturn, 1) := by decide +kernel
theorem dX3_canBeginRide_0 : decode cX3_canBeginRide 0 = .ok (.aload_n 0, 1) := by decide +kernel
theorem dX3_canBeginRide_1 : decode cX3_canBeginRide 1 = .ok (.getfield 17, 3) := by decide +kernel
theorem dX3_canBeginRide_4 : decode cX3_canBeginRide 4 = .ok (.iload_n 1, 1) := by decide +kernel
theorem dX3_canBeginRide_5 : decode cX3_canBeginRide 5 = .ok (.aaload, 1) := by decide +kernel
theorem dX3_canBeginRide_6 : decode cX3_canBeginRide 6 = .ok (.aload_n 0, 1) := by decide +kernel
theorem dX3_canBeginRide_7 : decode cX3_canBeginRide 7 = .ok (.getfield 36, 3) := by decide +kernel
theorem dX3_canBeginRide_10 : decode cX3_canBeginRide 10 = .ok (.invokevirtual 100, 3) := by decide +kernel
theorem dX3_canBeginRide_13 : decode cX3_canBeginRide 13 = .ok (.ifCond .ne 25, 3) := by decide +kernel
theorem dX3_canBeginRide_16 : decode cX3_canBeginRide 16 = .ok (.iload_n 2, 1) := by decide +kernel
theorem dX3_canBeginRide_17 : decode cX3_canBeginRide 17 = .ok (.iconst (-1), 1) := by decide +kernel
theorem dX3_canBeginRide_18 : decode cX3_canBeginRide 18 = .ok (.if_icmp .eq 16, 3) := by decide +kernel
theorem dX3_canBeginRide_21 : decode cX3_canBeginRide 21 = .ok (.aload_n 0, 1) := by decide +kernel
theorem dX3_canBeginRide_22 : decode cX3_canBeginRide 22 = .ok (.getfield 23, 3) := by decide +kernel
theorem dX3_canBeginRide_25 : decode cX3_canBeginRide 25 = .ok (.iload_n 2, 1) := by decide +kernel
theorem dX3_canBeginRide_26 : decode cX3_canBeginRide 26 = .ok (.aaload, 1) := by decide +kernel
theorem dX3_canBeginRide_27 : decode cX3_canBeginRide 27 = .ok (.getfield 104, 3) := by decide +kernel
theorem dX3_canBeginRide_30 : decode cX3_canBeginRide 30 = .ok (.iload_n 1, 1) := by decide +kernel
theorem dX3_canBeginRide_31 : decode cX3_canBeginRide 31 = .ok (.if_icmp .ne 7, 3) := by decide +kernel
theorem dX3_canBeginRide_34 : decode cX3_canBeginRide 34 = .ok (.iconst 1, 1) := by decide +kernel
theorem dX3_canBeginRide_35 : decode cX3_canBeginRide 35 = .ok (.goto 4, 3) := by decide +kernel
theorem dX3_canBeginRide_38 : decode cX3_canBeginRide 38 = .ok (.iconst 0, 1) := by decide +kernel
theorem dX3_canBeginRide_39 : decode cX3_canBeginRide 39 = .ok (.ireturn, 1) := by decide +kernel
theorem dX4_useForRide_0 : decode cX4_useForRide 0 = .ok (.aload_n 0, 1) := by decide +kernel
theorem dX4_useForRide_1 : decode cX4_useForRide 1 = .ok (.invokevirtual 30, 3) := by decide +kernel
theorem dX4_useForRide_4 : decode cX4_useForRide 4 = .ok (.ifCond .ne 13, 3) := by decide +kernel
theorem dX4_useForRide_7 : decode cX4_useForRide 7 = .ok (.aload_n 0, 1) := by decide +kernel
theorem dX4_useForRide_8 : decode cX4_useForRide 8 = .ok (.iload_n 1, 1) := by decide +kernel
theorem dX4_useForRide_9 : decode cX4_useForRide 9 = .ok (.putfield 21, 3) := by decide +kernel
theorem dX4_useForRide_12 : decode cX4_useForRide 12 = .ok (.aload_n 0, 1) := by decide +kernel
theorem dX4_useForRide_13 : decode cX4_useForRide 13 = .ok (.iload_n 2, 1) := by decide +kernel
theorem dX4_useForRide_14 : decode cX4_useForRide 14 = .ok (.putfield 24, 3) := by decide +kernel
theorem dX4_useForRide_17 : decode cX4_useForRide 17 = .ok (.aload_n 0, 1) := by decide +kernel
theorem dX4_useForRide_18 : decode cX4_useForRide 18 = .ok (.dup, 1) := by decide +kernel
theorem dX4_useForRide_19 : decode cX4_useForRide 19 = .ok (.getfield 27, 3) := by decide +kernel
theorem dX4_useForRide_22 : decode cX4_useForRide 22 = .ok (.iconst 1, 1) := by decide +kernel
theorem dX4_useForRide_23 : decode cX4_useForRide 23 = .ok (.iadd, 1) := by decide +kernel
theorem dX4_useForRide_24 : decode cX4_useForRide 24 = .ok (.putfield 27, 3) := by decide +kernel
theorem dX4_useForRide_27 : decode cX4_useForRide 27 = .ok (.return_, 1) := by decide +kernel
theorem dX3_beginRide_0 : decode cX3_beginRide 0 = .ok (.aload_n 0, 1) := by decide +kernel
theorem dX3_beginRide_1 : decode cX3_beginRide 1 = .ok (.getfield 36, 3) := by decide +kernel
theorem dX3_beginRide_4 : decode cX3_beginRide 4 = .ok (.iconst 2, 1) := by decide +kernel
theorem dX3_beginRide_5 : decode cX3_beginRide 5 = .ok (.iload_n 3, 1) := by decide +kernel
theorem dX3_beginRide_6 : decode cX3_beginRide 6 = .ok (.iload_n 2, 1) := by decide +kernel
theorem dX3_beginRide_7 : decode cX3_beginRide 7 = .ok (.isub, 1) := by decide +kernel
theorem dX3_beginRide_8 : decode cX3_beginRide 8 = .ok (.invokestatic 107, 3) := by decide +kernel
theorem dX3_beginRide_11 : decode cX3_beginRide 11 = .ok (.imul, 1) := by decide +kernel
theorem dX3_beginRide_12 : decode cX3_beginRide 12 = .ok (.iadd, 1) := by decide +kernel
theorem dX3_beginRide_13 : decode cX3_beginRide 13 = .ok (.istore 5, 2) := by decide +kernel
theorem dX3_beginRide_15 : decode cX3_beginRide 15 = .ok (.aload_n 0, 1) := by decide +kernel
theorem dX3_beginRide_16 : decode cX3_beginRide 16 = .ok (.getfield 17, 3) := by decide +kernel
theorem dX3_beginRide_19 : decode cX3_beginRide 19 = .ok (.iload_n 1, 1) := by decide +kernel
theorem dX3_beginRide_20 : decode cX3_beginRide 20 = .ok (.aaload, 1) := by decide +kernel
theorem dX3_beginRide_21 : decode cX3_beginRide 21 = .ok (.iload_n 2, 1) := by decide +kernel
theorem dX3_beginRide_22 : decode cX3_beginRide 22 = .ok (.iload_n 3, 1) := by decide +kernel
theorem dX3_beginRide_23 : decode cX3_beginRide 23 = .ok (.iload 5, 2) := by decide +kernel
theorem dX3_beginRide_25 : decode cX3_beginRide 25 = .ok (.iload 4, 2) := by decide +kernel
theorem dX3_beginRide_27 : decode cX3_beginRide 27 = .ok (.invokevirtual 111, 3) := by decide +kernel
theorem dX3_beginRide_30 : decode cX3_beginRide 30 = .ok (.iload 4, 2) := by decide +kernel
theorem dX3_beginRide_32 : decode cX3_beginRide 32 = .ok (.iconst (-1), 1) := by decide +kernel
theorem dX3_beginRide_33 : decode cX3_beginRide 33 = .ok (.if_icmp .eq 18, 3) := by decide +kernel
theorem dX3_beginRide_36 : decode cX3_beginRide 36 = .ok (.aload_n 0, 1) := by decide +kernel
theorem dX3_beginRide_37 : decode cX3_beginRide 37 = .ok (.getfield 23, 3) := by decide +kernel
theorem dX3_beginRide_40 : decode cX3_beginRide 40 = .ok (.iload 4, 2) := by decide +kernel
theorem dX3_beginRide_42 : decode cX3_beginRide 42 = .ok (.aaload, 1) := by decide +kernel
theorem dX3_beginRide_43 : decode cX3_beginRide 43 = .ok (.aload_n 0, 1) := by decide +kernel
theorem dX3_beginRide_44 : decode cX3_beginRide 44 = .ok (.getfield 36, 3) := by decide +kernel
theorem dX3_beginRide_47 : decode cX3_beginRide 47 = .ok (.iload_n 2, 1) := by decide +kernel
theorem dX3_beginRide_48 : decode cX3_beginRide 48 = .ok (.invokevirtual 115, 3) := by decide +kernel
theorem dX3_beginRide_51 : decode cX3_beginRide 51 = .ok (.iload 5, 2) := by decide +kernel
theorem dX3_beginRide_53 : decode cX3_beginRide 53 = .ok (.ireturn, 1) := by decide +kernel
theorem dX1_readRide_0 : decode cX1_readRide 0 = .ok (.aload_n 0, 1) := by decide +kernel
theorem dX1_readRide_1 : decode cX1_readRide 1 = .ok (.invokevirtual 32, 3) := by decide +kernel
theorem dX1_readRide_4 : decode cX1_readRide 4 = .ok (.aload_n 0, 1) := by decide +kernel
theorem dX1_readRide_5 : decode cX1_readRide 5 = .ok (.invokevirtual 196, 3) := by decide +kernel
theorem dX1_readRide_8 : decode cX1_readRide 8 = .ok (.istore_n 1, 1) := by decide +kernel
theorem dX1_readRide_9 : decode cX1_readRide 9 = .ok (.aload_n 0, 1) := by decide +kernel
theorem dX1_readRide_10 : decode cX1_readRide 10 = .ok (.iconst (-1), 1) := by decide +kernel
theorem dX1_readRide_11 : decode cX1_readRide 11 = .ok (.invokevirtual 210, 3) := by decide +kernel
theorem dX1_readRide_14 : decode cX1_readRide 14 = .ok (.istore_n 2, 1) := by decide +kernel
theorem dX1_readRide_15 : decode cX1_readRide 15 = .ok (.aload_n 0, 1) := by decide +kernel
theorem dX1_readRide_16 : decode cX1_readRide 16 = .ok (.iload_n 2, 1) := by decide +kernel
theorem dX1_readRide_17 : decode cX1_readRide 17 = .ok (.invokevirtual 210, 3) := by decide +kernel
theorem dX1_readRide_20 : decode cX1_readRide 20 = .ok (.istore_n 3, 1) := by decide +kernel
theorem dX1_readRide_21 : decode cX1_readRide 21 = .ok (.iconst (-1), 1) := by decide +kernel
theorem dX1_readRide_22 : decode cX1_readRide 22 = .ok (.istore 4, 2) := by decide +kernel
theorem dX1_readRide_24 : decode cX1_readRide 24 = .ok (.aload_n 0, 1) := by decide +kernel
theorem dX1_readRide_25 : decode cX1_readRide 25 = .ok (.ldc 213, 2) := by decide +kernel
theorem dX1_readRide_27 : decode cX1_readRide 27 = .ok (.invokevirtual 71, 3) := by decide +kernel
theorem dX1_readRide_30 : decode cX1_readRide 30 = .ok (.ifCond .eq 13, 3) := by decide +kernel
theorem dX1_readRide_33 : decode cX1_readRide 33 = .ok (.aload_n 0, 1) := by decide +kernel
theorem dX1_readRide_34 : decode cX1_readRide 34 = .ok (.invokevirtual 32, 3) := by decide +kernel
theorem dX1_readRide_37 : decode cX1_readRide 37 = .ok (.aload_n 0, 1) := by decide +kernel
theorem dX1_readRide_38 : decode cX1_readRide 38 = .ok (.invokevirtual 215, 3) := by decide +kernel
theorem dX1_readRide_41 : decode cX1_readRide 41 = .ok (.istore 4, 2) := by decide +kernel
theorem dX1_readRide_43 : decode cX1_readRide 43 = .ok (.aload_n 0, 1) := by decide +kernel
theorem dX1_readRide_44 : decode cX1_readRide 44 = .ok (.aload_n 0, 1) := by decide +kernel
theorem dX1_readRide_45 : decode cX1_readRide 45 = .ok (.invokevirtual 35, 3) := by decide +kernel
theorem dX1_readRide_48 : decode cX1_readRide 48 = .ok (.ifCond .ne 20, 3) := by decide +kernel
theorem dX1_readRide_51 : decode cX1_readRide 51 = .ok (.aload_n 0, 1) := by decide +kernel
theorem dX1_readRide_52 : decode cX1_readRide 52 = .ok (.getfield 19, 3) := by decide +kernel
theorem dX1_readRide_55 : decode cX1_readRide 55 = .ok (.iload_n 1, 1) := by decide +kernel
theorem dX1_readRide_56 : decode cX1_readRide 56 = .ok (.iload 4, 2) := by decide +kernel
theorem dX1_readRide_58 : decode cX1_readRide 58 = .ok (.invokevirtual 218, 3) := by decide +kernel
theorem dX1_readRide_61 : decode cX1_readRide 61 = .ok (.ifCond .eq 7, 3) := by decide +kernel
theorem dX1_readRide_64 : decode cX1_readRide 64 = .ok (.iconst 1, 1) := by decide +kernel
theorem dX1_readRide_65 : decode cX1_readRide 65 = .ok (.goto 4, 3) := by decide +kernel
theorem dX1_readRide_68 : decode cX1_readRide 68 = .ok (.iconst 0, 1) := by decide +kernel
theorem dX1_readRide_69 : decode cX1_readRide 69 = .ok (.invokevirtual 100, 3) := by decide +kernel
theorem dX1_readRide_72 : decode cX1_readRide 72 = .ok (.ifCond .eq 16, 3) := by decide +kernel
theorem dX1_readRide_75 : decode cX1_readRide 75 = .ok (.aload_n 0, 1) := by decide +kernel
theorem dX1_readRide_76 : decode cX1_readRide 76 = .ok (.getfield 19, 3) := by decide +kernel
theorem dX1_readRide_79 : decode cX1_readRide 79 = .ok (.iload_n 1, 1) := by decide +kernel
theorem dX1_readRide_80 : decode cX1_readRide 80 = .ok (.iload_n 2, 1) := by decide +kernel
theorem dX1_readRide_81 : decode cX1_readRide 81 = .ok (.iload_n 3, 1) := by decide +kernel
theorem dX1_readRide_82 : decode cX1_readRide 82 = .ok (.iload 4, 2) := by decide +kernel
theorem dX1_readRide_84 : decode cX1_readRide 84 = .ok (.invokevirtual 222, 3) := by decide +kernel
theorem dX1_readRide_87 : decode cX1_readRide 87 = .ok (.pop, 1) := by decide +kernel
theorem dX1_readRide_88 : decode cX1_readRide 88 = .ok (.return_, 1) := by decide +kernel
theorem dX3_canInspect_0 : decode cX3_canInspect 0 = .ok (.aload_n 0, 1) := by decide +kernel
theorem dX3_canInspect_1 : decode cX3_canInspect 1 = .ok (.getfield 17, 3) := by decide +kernel
theorem dX3_canInspect_4 : decode cX3_canInspect 4 = .ok (.iload_n 1, 1) := by decide +kernel
theorem dX3_canInspect_5 : decode cX3_canInspect 5 = .ok (.aaload, 1) := by decide +kernel
theorem dX3_canInspect_6 : decode cX3_canInspect 6 = .ok (.astore_n 2, 1) := by decide +kernel
theorem dX3_canInspect_7 : decode cX3_canInspect 7 = .ok (.aload_n 2, 1) := by decide +kernel
theorem dX3_canInspect_8 : decode cX3_canInspect 8 = .ok (.aload_n 0, 1) := by decide +kernel
theorem dX3_canInspect_9 : decode cX3_canInspect 9 = .ok (.getfield 36, 3) := by decide +kernel
theorem dX3_canInspect_12 : decode cX3_canInspect 12 = .ok (.invokevirtual 100, 3) := by decide +kernel
theorem dX3_canInspect_15 : decode cX3_canInspect 15 = .ok (.ifCond .eq 23, 3) := by decide +kernel
theorem dX3_canInspect_18 : decode cX3_canInspect 18 = .ok (.aload_n 2, 1) := by decide +kernel
theorem dX3_canInspect_19 : decode cX3_canInspect 19 = .ok (.getfield 146, 3) := by decide +kernel
theorem dX3_canInspect_22 : decode cX3_canInspect 22 = .ok (.ifCond .ne 16, 3) := by decide +kernel
theorem dX3_canInspect_25 : decode cX3_canInspect 25 = .ok (.aload_n 0, 1) := by decide +kernel
theorem dX3_canInspect_26 : decode cX3_canInspect 26 = .ok (.getfield 58, 3) := by decide +kernel
theorem dX3_canInspect_29 : decode cX3_canInspect 29 = .ok (.bipush 20, 2) := by decide +kernel
theorem dX3_canInspect_31 : decode cX3_canInspect 31 = .ok (.if_icmp .ge 7, 3) := by decide +kernel
theorem dX3_canInspect_34 : decode cX3_canInspect 34 = .ok (.iconst 1, 1) := by decide +kernel
theorem dX3_canInspect_35 : decode cX3_canInspect 35 = .ok (.goto 4, 3) := by decide +kernel
theorem dX3_canInspect_38 : decode cX3_canInspect 38 = .ok (.iconst 0, 1) := by decide +kernel
theorem dX3_canInspect_39 : decode cX3_canInspect 39 = .ok (.ireturn, 1) := by decide +kernel
theorem dX4_inTimeAt_0 : decode cX4_inTimeAt 0 = .ok (.aload_n 0, 1) := by decide +kernel
theorem dX4_inTimeAt_1 : decode cX4_inTimeAt 1 = .ok (.invokevirtual 30, 3) := by decide +kernel
theorem dX4_inTimeAt_4 : decode cX4_inTimeAt 4 = .ok (.ifCond .ne 5, 3) := by decide +kernel
theorem dX4_inTimeAt_7 : decode cX4_inTimeAt 7 = .ok (.iconst 1, 1) := by decide +kernel
theorem dX4_inTimeAt_8 : decode cX4_inTimeAt 8 = .ok (.ireturn, 1) := by decide +kernel
theorem dX4_inTimeAt_9 : decode cX4_inTimeAt 9 = .ok (.aload_n 0, 1) := by decide +kernel
theorem dX4_inTimeAt_10 : decode cX4_inTimeAt 10 = .ok (.getfield 15, 3) := by decide +kernel
theorem dX4_inTimeAt_13 : decode cX4_inTimeAt 13 = .ok (.iconst 1, 1) := by decide +kernel
theorem dX4_inTimeAt_14 : decode cX4_inTimeAt 14 = .ok (.if_icmp .ne 23, 3) := by decide +kernel
theorem dX4_inTimeAt_17 : decode cX4_inTimeAt 17 = .ok (.iload_n 1, 1) := by decide +kernel
theorem dX4_inTimeAt_18 : decode cX4_inTimeAt 18 = .ok (.invokestatic 38, 3) := by decide +kernel
theorem dX4_inTimeAt_21 : decode cX4_inTimeAt 21 = .ok (.aload_n 0, 1) := by decide +kernel
theorem dX4_inTimeAt_22 : decode cX4_inTimeAt 22 = .ok (.getfield 21, 3) := by decide +kernel
theorem dX4_inTimeAt_25 : decode cX4_inTimeAt 25 = .ok (.invokestatic 38, 3) := by decide +kernel
theorem dX4_inTimeAt_28 : decode cX4_inTimeAt 28 = .ok (.if_icmp .ne 7, 3) := by decide +kernel
theorem dX4_inTimeAt_31 : decode cX4_inTimeAt 31 = .ok (.iconst 1, 1) := by decide +kernel
theorem dX4_inTimeAt_32 : decode cX4_inTimeAt 32 = .ok (.goto 4, 3) := by decide +kernel
theorem dX4_inTimeAt_35 : decode cX4_inTimeAt 35 = .ok (.iconst 0, 1) := by decide +kernel
theorem dX4_inTimeAt_36 : decode cX4_inTimeAt 36 = .ok (.ireturn, 1) := by decide +kernel
theorem dX4_inTimeAt_37 : decode cX4_inTimeAt 37 = .ok (.iload_n 1, 1) := by decide +kernel
theorem dX4_inTimeAt_38 : decode cX4_inTimeAt 38 = .ok (.aload_n 0, 1) := by decide +kernel
theorem dX4_inTimeAt_39 : decode cX4_inTimeAt 39 = .ok (.getfield 21, 3) := by decide +kernel
theorem dX4_inTimeAt_42 : decode cX4_inTimeAt 42 = .ok (.isub, 1) := by decide +kernel
theorem dX4_inTimeAt_43 : decode cX4_inTimeAt 43 = .ok (.aload_n 0, 1) := by decide +kernel
theorem dX4_inTimeAt_44 : decode cX4_inTimeAt 44 = .ok (.getfield 15, 3) := by decide +kernel
theorem dX4_inTimeAt_47 : decode cX4_inTimeAt 47 = .ok (.iconst 2, 1) := by decide +kernel
theorem dX4_inTimeAt_48 : decode cX4_inTimeAt 48 = .ok (.if_icmp .ne 8, 3) := by decide +kernel
theorem dX4_inTimeAt_51 : decode cX4_inTimeAt 51 = .ok (.bipush 30, 2) := by decide +kernel
theorem dX4_inTimeAt_53 : decode cX4_inTimeAt 53 = .ok (.goto 5, 3) := by decide +kernel
theorem dX4_inTimeAt_56 : decode cX4_inTimeAt 56 = .ok (.bipush 60, 2) := by decide +kernel
theorem dX4_inTimeAt_58 : decode cX4_inTimeAt 58 = .ok (.if_icmp .ge 7, 3) := by decide +kernel
theorem dX4_inTimeAt_61 : decode cX4_inTimeAt 61 = .ok (.iconst 1, 1) := by decide +kernel
theorem dX4_inTimeAt_62 : decode cX4_inTimeAt 62 = .ok (.goto 4, 3) := by decide +kernel
theorem dX4_inTimeAt_65 : decode cX4_inTimeAt 65 = .ok (.iconst 0, 1) := by decide +kernel
theorem dX4_inTimeAt_66 : decode cX4_inTimeAt 66 = .ok (.ireturn, 1) := by decide +kernel
theorem dX3_rideZones_0 : decode cX3_rideZones 0 = .ok (.iconst 0, 1) := by decide +kernel
theorem dX3_rideZones_1 : decode cX3_rideZones 1 = .ok (.istore_n 3, 1) := by decide +kernel
theorem dX3_rideZones_2 : decode cX3_rideZones 2 = .ok (.iload_n 1, 1) := by decide +kernel
theorem dX3_rideZones_3 : decode cX3_rideZones 3 = .ok (.iload_n 2, 1) := by decide +kernel
theorem dX3_rideZones_4 : decode cX3_rideZones 4 = .ok (.invokestatic 81, 3) := by decide +kernel
theorem dX3_rideZones_7 : decode cX3_rideZones 7 = .ok (.istore 4, 2) := by decide +kernel
theorem dX3_rideZones_9 : decode cX3_rideZones 9 = .ok (.iload_n 1, 1) := by decide +kernel
theorem dX3_rideZones_10 : decode cX3_rideZones 10 = .ok (.iload_n 2, 1) := by decide +kernel
theorem dX3_rideZones_11 : decode cX3_rideZones 11 = .ok (.invokestatic 87, 3) := by decide +kernel
theorem dX3_rideZones_14 : decode cX3_rideZones 14 = .ok (.istore 5, 2) := by decide +kernel
theorem dX3_rideZones_16 : decode cX3_rideZones 16 = .ok (.iload 5, 2) := by decide +kernel
theorem dX3_rideZones_18 : decode cX3_rideZones 18 = .ok (.iload 4, 2) := by decide +kernel
theorem dX3_rideZones_20 : decode cX3_rideZones 20 = .ok (.if_icmp .gt 21, 3) := by decide +kernel
theorem dX3_rideZones_23 : decode cX3_rideZones 23 = .ok (.iload_n 3, 1) := by decide +kernel
theorem dX3_rideZones_24 : decode cX3_rideZones 24 = .ok (.iconst 1, 1) := by decide +kernel
theorem dX3_rideZones_25 : decode cX3_rideZones 25 = .ok (.aload_n 0, 1) := by decide +kernel
theorem dX3_rideZones_26 : decode cX3_rideZones 26 = .ok (.getfield 9, 3) := by decide +kernel
theorem dX3_rideZones_29 : decode cX3_rideZones 29 = .ok (.iload 5, 2) := by decide +kernel
theorem dX3_rideZones_31 : decode cX3_rideZones 31 = .ok (.iaload, 1) := by decide +kernel
theorem dX3_rideZones_32 : decode cX3_rideZones 32 = .ok (.ishl, 1) := by decide +kernel
theorem dX3_rideZones_33 : decode cX3_rideZones 33 = .ok (.ior, 1) := by decide +kernel
theorem dX3_rideZones_34 : decode cX3_rideZones 34 = .ok (.istore_n 3, 1) := by decide +kernel
theorem dX3_rideZones_35 : decode cX3_rideZones 35 = .ok (.iinc 5 1, 3) := by decide +kernel
theorem dX3_rideZones_38 : decode cX3_rideZones 38 = .ok (.goto (-22), 3) := by decide +kernel
theorem dX3_rideZones_41 : decode cX3_rideZones 41 = .ok (.iload_n 3, 1) := by decide +kernel
theorem dX3_rideZones_42 : decode cX3_rideZones 42 = .ok (.ireturn, 1) := by decide +kernel
theorem dX3_findFault_0 : decode cX3_findFault 0 = .ok (.aload_n 0, 1) := by decide +kernel
theorem dX3_findFault_1 : decode cX3_findFault 1 = .ok (.getfield 17, 3) := by decide +kernel
theorem dX3_findFault_4 : decode cX3_findFault 4 = .ok (.iload_n 1, 1) := by decide +kernel
theorem dX3_findFault_5 : decode cX3_findFault 5 = .ok (.aaload, 1) := by decide +kernel
theorem dX3_findFault_6 : decode cX3_findFault 6 = .ok (.astore_n 2, 1) := by decide +kernel
theorem dX3_findFault_7 : decode cX3_findFault 7 = .ok (.aload_n 2, 1) := by decide +kernel
theorem dX3_findFault_8 : decode cX3_findFault 8 = .ok (.getfield 119, 3) := by decide +kernel
theorem dX3_findFault_11 : decode cX3_findFault 11 = .ok (.iconst (-1), 1) := by decide +kernel
theorem dX3_findFault_12 : decode cX3_findFault 12 = .ok (.if_icmp .ne 5, 3) := by decide +kernel
theorem dX3_findFault_15 : decode cX3_findFault 15 = .ok (.iconst 0, 1) := by decide +kernel
theorem dX3_findFault_16 : decode cX3_findFault 16 = .ok (.ireturn, 1) := by decide +kernel
theorem dX3_findFault_17 : decode cX3_findFault 17 = .ok (.aload_n 2, 1) := by decide +kernel
theorem dX3_findFault_18 : decode cX3_findFault 18 = .ok (.getfield 122, 3) := by decide +kernel
theorem dX3_findFault_21 : decode cX3_findFault 21 = .ok (.iconst (-1), 1) := by decide +kernel
theorem dX3_findFault_22 : decode cX3_findFault 22 = .ok (.if_icmp .ne 5, 3) := by decide +kernel
theorem dX3_findFault_25 : decode cX3_findFault 25 = .ok (.iconst 1, 1) := by decide +kernel
theorem dX3_findFault_26 : decode cX3_findFault 26 = .ok (.ireturn, 1) := by decide +kernel
theorem dX3_findFault_27 : decode cX3_findFault 27 = .ok (.aload_n 0, 1) := by decide +kernel
theorem dX3_findFault_28 : decode cX3_findFault 28 = .ok (.getfield 23, 3) := by decide +kernel
theorem dX3_findFault_31 : decode cX3_findFault 31 = .ok (.aload_n 2, 1) := by decide +kernel
theorem dX3_findFault_32 : decode cX3_findFault 32 = .ok (.getfield 122, 3) := by decide +kernel
theorem dX3_findFault_35 : decode cX3_findFault 35 = .ok (.aaload, 1) := by decide +kernel
theorem dX3_findFault_36 : decode cX3_findFault 36 = .ok (.astore_n 3, 1) := by decide +kernel
theorem dX3_findFault_37 : decode cX3_findFault 37 = .ok (.aload_n 3, 1) := by decide +kernel
theorem dX3_findFault_38 : decode cX3_findFault 38 = .ok (.aload_n 0, 1) := by decide +kernel
theorem dX3_findFault_39 : decode cX3_findFault 39 = .ok (.getfield 36, 3) := by decide +kernel
theorem dX3_findFault_42 : decode cX3_findFault 42 = .ok (.invokevirtual 125, 3) := by decide +kernel
theorem dX3_findFault_45 : decode cX3_findFault 45 = .ok (.ifCond .ne 5, 3) := by decide +kernel
theorem dX3_findFault_48 : decode cX3_findFault 48 = .ok (.iconst 2, 1) := by decide +kernel
theorem dX3_findFault_49 : decode cX3_findFault 49 = .ok (.ireturn, 1) := by decide +kernel
theorem dX3_findFault_50 : decode cX3_findFault 50 = .ok (.aload_n 3, 1) := by decide +kernel
theorem dX3_findFault_51 : decode cX3_findFault 51 = .ok (.aload_n 0, 1) := by decide +kernel
theorem dX3_findFault_52 : decode cX3_findFault 52 = .ok (.aload_n 2, 1) := by decide +kernel
theorem dX3_findFault_53 : decode cX3_findFault 53 = .ok (.getfield 119, 3) := by decide +kernel
theorem dX3_findFault_56 : decode cX3_findFault 56 = .ok (.aload_n 2, 1) := by decide +kernel
theorem dX3_findFault_57 : decode cX3_findFault 57 = .ok (.getfield 128, 3) := by decide +kernel
theorem dX3_findFault_60 : decode cX3_findFault 60 = .ok (.invokevirtual 131, 3) := by decide +kernel
theorem dX3_findFault_63 : decode cX3_findFault 63 = .ok (.invokevirtual 134, 3) := by decide +kernel
theorem dX3_findFault_66 : decode cX3_findFault 66 = .ok (.ifCond .ne 5, 3) := by decide +kernel
theorem dX3_findFault_69 : decode cX3_findFault 69 = .ok (.iconst 3, 1) := by decide +kernel
theorem dX3_findFault_70 : decode cX3_findFault 70 = .ok (.ireturn, 1) := by decide +kernel
theorem dX3_findFault_71 : decode cX3_findFault 71 = .ok (.aload_n 3, 1) := by decide +kernel
theorem dX3_findFault_72 : decode cX3_findFault 72 = .ok (.getfield 137, 3) := by decide +kernel
theorem dX3_findFault_75 : decode cX3_findFault 75 = .ok (.ifCond .ne 13, 3) := by decide +kernel
theorem dX3_findFault_78 : decode cX3_findFault 78 = .ok (.aload_n 3, 1) := by decide +kernel
theorem dX3_findFault_79 : decode cX3_findFault 79 = .ok (.getfield 140, 3) := by decide +kernel
theorem dX3_findFault_82 : decode cX3_findFault 82 = .ok (.iconst 3, 1) := by decide +kernel
theorem dX3_findFault_83 : decode cX3_findFault 83 = .ok (.if_icmp .le 5, 3) := by decide +kernel
theorem dX3_findFault_86 : decode cX3_findFault 86 = .ok (.iconst 4, 1) := by decide +kernel
theorem dX3_findFault_87 : decode cX3_findFault 87 = .ok (.ireturn, 1) := by decide +kernel
theorem dX3_findFault_88 : decode cX3_findFault 88 = .ok (.aload_n 3, 1) := by decide +kernel
theorem dX3_findFault_89 : decode cX3_findFault 89 = .ok (.getfield 137, 3) := by decide +kernel
theorem dX3_findFault_92 : decode cX3_findFault 92 = .ok (.iconst 2, 1) := by decide +kernel
theorem dX3_findFault_93 : decode cX3_findFault 93 = .ok (.if_icmp .ne 21, 3) := by decide +kernel
theorem dX3_findFault_96 : decode cX3_findFault 96 = .ok (.aload_n 2, 1) := by decide +kernel
theorem dX3_findFault_97 : decode cX3_findFault 97 = .ok (.getfield 128, 3) := by decide +kernel
theorem dX3_findFault_100 : decode cX3_findFault 100 = .ok (.aload_n 3, 1) := by decide +kernel
theorem dX3_findFault_101 : decode cX3_findFault 101 = .ok (.getfield 143, 3) := by decide +kernel
theorem dX3_findFault_104 : decode cX3_findFault 104 = .ok (.isub, 1) := by decide +kernel
theorem dX3_findFault_105 : decode cX3_findFault 105 = .ok (.invokestatic 107, 3) := by decide +kernel
theorem dX3_findFault_108 : decode cX3_findFault 108 = .ok (.iconst 4, 1) := by decide +kernel
theorem dX3_findFault_109 : decode cX3_findFault 109 = .ok (.if_icmp .le 5, 3) := by decide +kernel
theorem dX3_findFault_112 : decode cX3_findFault 112 = .ok (.iconst 5, 1) := by decide +kernel
theorem dX3_findFault_113 : decode cX3_findFault 113 = .ok (.ireturn, 1) := by decide +kernel
theorem dX3_findFault_114 : decode cX3_findFault 114 = .ok (.iconst 0, 1) := by decide +kernel
theorem dX3_findFault_115 : decode cX3_findFault 115 = .ok (.ireturn, 1) := by decide +kernel
theorem dX3_inspectRide_0 : decode cX3_inspectRide 0 = .ok (.aload_n 0, 1) := by decide +kernel
theorem dX3_inspectRide_1 : decode cX3_inspectRide 1 = .ok (.getfield 17, 3) := by decide +kernel
theorem dX3_inspectRide_4 : decode cX3_inspectRide 4 = .ok (.iload_n 1, 1) := by decide +kernel
theorem dX3_inspectRide_5 : decode cX3_inspectRide 5 = .ok (.aaload, 1) := by decide +kernel
theorem dX3_inspectRide_6 : decode cX3_inspectRide 6 = .ok (.astore_n 2, 1) := by decide +kernel
theorem dX3_inspectRide_7 : decode cX3_inspectRide 7 = .ok (.aload_n 0, 1) := by decide +kernel
theorem dX3_inspectRide_8 : decode cX3_inspectRide 8 = .ok (.iload_n 1, 1) := by decide +kernel
theorem dX3_inspectRide_9 : decode cX3_inspectRide 9 = .ok (.invokevirtual 150, 3) := by decide +kernel
theorem dX3_inspectRide_12 : decode cX3_inspectRide 12 = .ok (.istore_n 3, 1) := by decide +kernel
theorem dX3_inspectRide_13 : decode cX3_inspectRide 13 = .ok (.aload_n 2, 1) := by decide +kernel
theorem dX3_inspectRide_14 : decode cX3_inspectRide 14 = .ok (.iconst 1, 1) := by decide +kernel
theorem dX3_inspectRide_15 : decode cX3_inspectRide 15 = .ok (.putfield 146, 3) := by decide +kernel
theorem dX3_inspectRide_18 : decode cX3_inspectRide 18 = .ok (.aload_n 0, 1) := by decide +kernel
theorem dX3_inspectRide_19 : decode cX3_inspectRide 19 = .ok (.dup, 1) := by decide +kernel
theorem dX3_inspectRide_20 : decode cX3_inspectRide 20 = .ok (.getfield 43, 3) := by decide +kernel
theorem dX3_inspectRide_23 : decode cX3_inspectRide 23 = .ok (.iconst 1, 1) := by decide +kernel
theorem dX3_inspectRide_24 : decode cX3_inspectRide 24 = .ok (.iadd, 1) := by decide +kernel
theorem dX3_inspectRide_25 : decode cX3_inspectRide 25 = .ok (.putfield 43, 3) := by decide +kernel
theorem dX3_inspectRide_28 : decode cX3_inspectRide 28 = .ok (.iload_n 3, 1) := by decide +kernel
theorem dX3_inspectRide_29 : decode cX3_inspectRide 29 = .ok (.ifCond .eq 43, 3) := by decide +kernel
theorem dX3_inspectRide_32 : decode cX3_inspectRide 32 = .ok (.aload_n 0, 1) := by decide +kernel
theorem dX3_inspectRide_33 : decode cX3_inspectRide 33 = .ok (.getfield 29, 3) := by decide +kernel
theorem dX3_inspectRide_36 : decode cX3_inspectRide 36 = .ok (.aload_n 0, 1) := by decide +kernel
theorem dX3_inspectRide_37 : decode cX3_inspectRide 37 = .ok (.getfield 58, 3) := by decide +kernel
theorem dX3_inspectRide_40 : decode cX3_inspectRide 40 = .ok (.aaload, 1) := by decide +kernel
theorem dX3_inspectRide_41 : decode cX3_inspectRide 41 = .ok (.iload_n 1, 1) := by decide +kernel
theorem dX3_inspectRide_42 : decode cX3_inspectRide 42 = .ok (.iload_n 3, 1) := by decide +kernel
theorem dX3_inspectRide_43 : decode cX3_inspectRide 43 = .ok (.aload_n 0, 1) := by decide +kernel
theorem dX3_inspectRide_44 : decode cX3_inspectRide 44 = .ok (.getfield 36, 3) := by decide +kernel
theorem dX3_inspectRide_47 : decode cX3_inspectRide 47 = .ok (.aload_n 0, 1) := by decide +kernel
theorem dX3_inspectRide_48 : decode cX3_inspectRide 48 = .ok (.aload_n 2, 1) := by decide +kernel
theorem dX3_inspectRide_49 : decode cX3_inspectRide 49 = .ok (.getfield 119, 3) := by decide +kernel
theorem dX3_inspectRide_52 : decode cX3_inspectRide 52 = .ok (.aload_n 2, 1) := by decide +kernel
theorem dX3_inspectRide_53 : decode cX3_inspectRide 53 = .ok (.getfield 128, 3) := by decide +kernel
theorem dX3_inspectRide_56 : decode cX3_inspectRide 56 = .ok (.invokevirtual 131, 3) := by decide +kernel
theorem dX3_inspectRide_59 : decode cX3_inspectRide 59 = .ok (.invokevirtual 153, 3) := by decide +kernel
theorem dX3_inspectRide_62 : decode cX3_inspectRide 62 = .ok (.aload_n 0, 1) := by decide +kernel
theorem dX3_inspectRide_63 : decode cX3_inspectRide 63 = .ok (.dup, 1) := by decide +kernel
theorem dX3_inspectRide_64 : decode cX3_inspectRide 64 = .ok (.getfield 58, 3) := by decide +kernel
theorem dX3_inspectRide_67 : decode cX3_inspectRide 67 = .ok (.iconst 1, 1) := by decide +kernel
theorem dX3_inspectRide_68 : decode cX3_inspectRide 68 = .ok (.iadd, 1) := by decide +kernel
theorem dX3_inspectRide_69 : decode cX3_inspectRide 69 = .ok (.putfield 58, 3) := by decide +kernel
theorem dX3_inspectRide_72 : decode cX3_inspectRide 72 = .ok (.iload_n 3, 1) := by decide +kernel
theorem dX3_inspectRide_73 : decode cX3_inspectRide 73 = .ok (.ireturn, 1) := by decide +kernel
theorem dX1_readInspect_0 : decode cX1_readInspect 0 = .ok (.aload_n 0, 1) := by decide +kernel
theorem dX1_readInspect_1 : decode cX1_readInspect 1 = .ok (.invokevirtual 32, 3) := by decide +kernel
theorem dX1_readInspect_4 : decode cX1_readInspect 4 = .ok (.aload_n 0, 1) := by decide +kernel
theorem dX1_readInspect_5 : decode cX1_readInspect 5 = .ok (.invokevirtual 196, 3) := by decide +kernel
theorem dX1_readInspect_8 : decode cX1_readInspect 8 = .ok (.istore_n 1, 1) := by decide +kernel
theorem dX1_readInspect_9 : decode cX1_readInspect 9 = .ok (.aload_n 0, 1) := by decide +kernel
theorem dX1_readInspect_10 : decode cX1_readInspect 10 = .ok (.aload_n 0, 1) := by decide +kernel
theorem dX1_readInspect_11 : decode cX1_readInspect 11 = .ok (.invokevirtual 35, 3) := by decide +kernel
theorem dX1_readInspect_14 : decode cX1_readInspect 14 = .ok (.ifCond .ne 18, 3) := by decide +kernel
theorem dX1_readInspect_17 : decode cX1_readInspect 17 = .ok (.aload_n 0, 1) := by decide +kernel
theorem dX1_readInspect_18 : decode cX1_readInspect 18 = .ok (.getfield 19, 3) := by decide +kernel
theorem dX1_readInspect_21 : decode cX1_readInspect 21 = .ok (.iload_n 1, 1) := by decide +kernel
theorem dX1_readInspect_22 : decode cX1_readInspect 22 = .ok (.invokevirtual 226, 3) := by decide +kernel
theorem dX1_readInspect_25 : decode cX1_readInspect 25 = .ok (.ifCond .eq 7, 3) := by decide +kernel
theorem dX1_readInspect_28 : decode cX1_readInspect 28 = .ok (.iconst 1, 1) := by decide +kernel
theorem dX1_readInspect_29 : decode cX1_readInspect 29 = .ok (.goto 4, 3) := by decide +kernel
theorem dX1_readInspect_32 : decode cX1_readInspect 32 = .ok (.iconst 0, 1) := by decide +kernel
theorem dX1_readInspect_33 : decode cX1_readInspect 33 = .ok (.invokevirtual 100, 3) := by decide +kernel
theorem dX1_readInspect_36 : decode cX1_readInspect 36 = .ok (.ifCond .eq 12, 3) := by decide +kernel
theorem dX1_readInspect_39 : decode cX1_readInspect 39 = .ok (.aload_n 0, 1) := by decide +kernel
theorem dX1_readInspect_40 : decode cX1_readInspect 40 = .ok (.getfield 19, 3) := by decide +kernel
theorem dX1_readInspect_43 : decode cX1_readInspect 43 = .ok (.iload_n 1, 1) := by decide +kernel
theorem dX1_readInspect_44 : decode cX1_readInspect 44 = .ok (.invokevirtual 229, 3) := by decide +kernel
theorem dX1_readInspect_47 : decode cX1_readInspect 47 = .ok (.pop, 1) := by decide +kernel
theorem dX1_readInspect_48 : decode cX1_readInspect 48 = .ok (.return_, 1) := by decide +kernel
theorem dX1_readWait_0 : decode cX1_readWait 0 = .ok (.aload_n 0, 1) := by decide +kernel
theorem dX1_readWait_1 : decode cX1_readWait 1 = .ok (.invokevirtual 32, 3) := by decide +kernel
theorem dX1_readWait_4 : decode cX1_readWait 4 = .ok (.aload_n 0, 1) := by decide +kernel
theorem dX1_readWait_5 : decode cX1_readWait 5 = .ok (.iconst 1, 1) := by decide +kernel
theorem dX1_readWait_6 : decode cX1_readWait 6 = .ok (.sipush 9999, 3) := by decide +kernel
theorem dX1_readWait_9 : decode cX1_readWait 9 = .ok (.ldc 116, 2) := by decide +kernel
theorem dX1_readWait_11 : decode cX1_readWait 11 = .ok (.aload_n 0, 1) := by decide +kernel
theorem dX1_readWait_12 : decode cX1_readWait 12 = .ok (.getfield 19, 3) := by decide +kernel
theorem dX1_readWait_15 : decode cX1_readWait 15 = .ok (.getfield 232, 3) := by decide +kernel
theorem dX1_readWait_18 : decode cX1_readWait 18 = .ok (.isub, 1) := by decide +kernel
theorem dX1_readWait_19 : decode cX1_readWait 19 = .ok (.invokestatic 56, 3) := by decide +kernel
theorem dX1_readWait_22 : decode cX1_readWait 22 = .ok (.invokevirtual 84, 3) := by decide +kernel
theorem dX1_readWait_25 : decode cX1_readWait 25 = .ok (.istore_n 1, 1) := by decide +kernel
theorem dX1_readWait_26 : decode cX1_readWait 26 = .ok (.aload_n 0, 1) := by decide +kernel
theorem dX1_readWait_27 : decode cX1_readWait 27 = .ok (.iconst 1, 1) := by decide +kernel
theorem dX1_readWait_28 : decode cX1_readWait 28 = .ok (.invokevirtual 100, 3) := by decide +kernel
theorem dX1_readWait_31 : decode cX1_readWait 31 = .ok (.ifCond .eq 16, 3) := by decide +kernel
theorem dX1_readWait_34 : decode cX1_readWait 34 = .ok (.aload_n 0, 1) := by decide +kernel
theorem dX1_readWait_35 : decode cX1_readWait 35 = .ok (.getfield 19, 3) := by decide +kernel
theorem dX1_readWait_38 : decode cX1_readWait 38 = .ok (.dup, 1) := by decide +kernel
theorem dX1_readWait_39 : decode cX1_readWait 39 = .ok (.getfield 232, 3) := by decide +kernel
theorem dX1_readWait_42 : decode cX1_readWait 42 = .ok (.iload_n 1, 1) := by decide +kernel
theorem dX1_readWait_43 : decode cX1_readWait 43 = .ok (.iadd, 1) := by decide +kernel
theorem dX1_readWait_44 : decode cX1_readWait 44 = .ok (.putfield 232, 3) := by decide +kernel
theorem dX1_readWait_47 : decode cX1_readWait 47 = .ok (.return_, 1) := by decide +kernel
theorem dX3_canAppeal_0 : decode cX3_canAppeal 0 = .ok (.aload_n 0, 1) := by decide +kernel
theorem dX3_canAppeal_1 : decode cX3_canAppeal 1 = .ok (.getfield 29, 3) := by decide +kernel
theorem dX3_canAppeal_4 : decode cX3_canAppeal 4 = .ok (.iload_n 1, 1) := by decide +kernel
theorem dX3_canAppeal_5 : decode cX3_canAppeal 5 = .ok (.aaload, 1) := by decide +kernel
theorem dX3_canAppeal_6 : decode cX3_canAppeal 6 = .ok (.getfield 156, 3) := by decide +kernel
theorem dX3_canAppeal_9 : decode cX3_canAppeal 9 = .ok (.ifCond .ne 23, 3) := by decide +kernel
theorem dX3_canAppeal_12 : decode cX3_canAppeal 12 = .ok (.aload_n 0, 1) := by decide +kernel
theorem dX3_canAppeal_13 : decode cX3_canAppeal 13 = .ok (.getfield 29, 3) := by decide +kernel
theorem dX3_canAppeal_16 : decode cX3_canAppeal 16 = .ok (.iload_n 1, 1) := by decide +kernel
theorem dX3_canAppeal_17 : decode cX3_canAppeal 17 = .ok (.aaload, 1) := by decide +kernel
theorem dX3_canAppeal_18 : decode cX3_canAppeal 18 = .ok (.aload_n 0, 1) := by decide +kernel
theorem dX3_canAppeal_19 : decode cX3_canAppeal 19 = .ok (.getfield 36, 3) := by decide +kernel
theorem dX3_canAppeal_22 : decode cX3_canAppeal 22 = .ok (.invokevirtual 159, 3) := by decide +kernel
theorem dX3_canAppeal_25 : decode cX3_canAppeal 25 = .ok (.ifCond .ne 7, 3) := by decide +kernel
theorem dX3_canAppeal_28 : decode cX3_canAppeal 28 = .ok (.iconst 1, 1) := by decide +kernel
theorem dX3_canAppeal_29 : decode cX3_canAppeal 29 = .ok (.goto 4, 3) := by decide +kernel
theorem dX3_canAppeal_32 : decode cX3_canAppeal 32 = .ok (.iconst 0, 1) := by decide +kernel
theorem dX3_canAppeal_33 : decode cX3_canAppeal 33 = .ok (.ireturn, 1) := by decide +kernel
theorem dX3_beginAppeal_0 : decode cX3_beginAppeal 0 = .ok (.aload_n 0, 1) := by decide +kernel
theorem dX3_beginAppeal_1 : decode cX3_beginAppeal 1 = .ok (.getfield 29, 3) := by decide +kernel
theorem dX3_beginAppeal_4 : decode cX3_beginAppeal 4 = .ok (.iload_n 1, 1) := by decide +kernel
theorem dX3_beginAppeal_5 : decode cX3_beginAppeal 5 = .ok (.aaload, 1) := by decide +kernel
theorem dX3_beginAppeal_6 : decode cX3_beginAppeal 6 = .ok (.iconst 1, 1) := by decide +kernel
theorem dX3_beginAppeal_7 : decode cX3_beginAppeal 7 = .ok (.putfield 156, 3) := by decide +kernel
theorem dX3_beginAppeal_10 : decode cX3_beginAppeal 10 = .ok (.aload_n 0, 1) := by decide +kernel
theorem dX3_beginAppeal_11 : decode cX3_beginAppeal 11 = .ok (.getfield 29, 3) := by decide +kernel
theorem dX3_beginAppeal_14 : decode cX3_beginAppeal 14 = .ok (.iload_n 1, 1) := by decide +kernel
theorem dX3_beginAppeal_15 : decode cX3_beginAppeal 15 = .ok (.aaload, 1) := by decide +kernel
theorem dX3_beginAppeal_16 : decode cX3_beginAppeal 16 = .ok (.iload_n 2, 1) := by decide +kernel
theorem dX3_beginAppeal_17 : decode cX3_beginAppeal 17 = .ok (.putfield 162, 3) := by decide +kernel
theorem dX3_beginAppeal_20 : decode cX3_beginAppeal 20 = .ok (.iconst 0, 1) := by decide +kernel
theorem dX3_beginAppeal_21 : decode cX3_beginAppeal 21 = .ok (.istore_n 3, 1) := by decide +kernel
theorem dX3_beginAppeal_22 : decode cX3_beginAppeal 22 = .ok (.iconst 0, 1) := by decide +kernel
theorem dX3_beginAppeal_23 : decode cX3_beginAppeal 23 = .ok (.istore 4, 2) := by decide +kernel
theorem dX3_beginAppeal_25 : decode cX3_beginAppeal 25 = .ok (.iload 4, 2) := by decide +kernel
theorem dX3_beginAppeal_27 : decode cX3_beginAppeal 27 = .ok (.aload_n 0, 1) := by decide +kernel
theorem dX3_beginAppeal_28 : decode cX3_beginAppeal 28 = .ok (.getfield 58, 3) := by decide +kernel
theorem dX3_beginAppeal_31 : decode cX3_beginAppeal 31 = .ok (.if_icmp .ge 31, 3) := by decide +kernel
theorem dX3_beginAppeal_34 : decode cX3_beginAppeal 34 = .ok (.iload_n 3, 1) := by decide +kernel
theorem dX3_beginAppeal_35 : decode cX3_beginAppeal 35 = .ok (.aload_n 0, 1) := by decide +kernel
theorem dX3_beginAppeal_36 : decode cX3_beginAppeal 36 = .ok (.getfield 29, 3) := by decide +kernel
theorem dX3_beginAppeal_39 : decode cX3_beginAppeal 39 = .ok (.iload 4, 2) := by decide +kernel
theorem dX3_beginAppeal_41 : decode cX3_beginAppeal 41 = .ok (.aaload, 1) := by decide +kernel
theorem dX3_beginAppeal_42 : decode cX3_beginAppeal 42 = .ok (.getfield 156, 3) := by decide +kernel
theorem dX3_beginAppeal_45 : decode cX3_beginAppeal 45 = .ok (.iconst 1, 1) := by decide +kernel
theorem dX3_beginAppeal_46 : decode cX3_beginAppeal 46 = .ok (.if_icmp .ne 7, 3) := by decide +kernel
theorem dX3_beginAppeal_49 : decode cX3_beginAppeal 49 = .ok (.iconst 1, 1) := by decide +kernel
theorem dX3_beginAppeal_50 : decode cX3_beginAppeal 50 = .ok (.goto 4, 3) := by decide +kernel
theorem dX3_beginAppeal_53 : decode cX3_beginAppeal 53 = .ok (.iconst 0, 1) := by decide +kernel
theorem dX3_beginAppeal_54 : decode cX3_beginAppeal 54 = .ok (.iadd, 1) := by decide +kernel
theorem dX3_beginAppeal_55 : decode cX3_beginAppeal 55 = .ok (.istore_n 3, 1) := by decide +kernel
theorem dX3_beginAppeal_56 : decode cX3_beginAppeal 56 = .ok (.iinc 4 1, 3) := by decide +kernel
theorem dX3_beginAppeal_59 : decode cX3_beginAppeal 59 = .ok (.goto (-34), 3) := by decide +kernel
theorem dX3_beginAppeal_62 : decode cX3_beginAppeal 62 = .ok (.iload_n 3, 1) := by decide +kernel
theorem dX3_beginAppeal_63 : decode cX3_beginAppeal 63 = .ok (.ireturn, 1) := by decide +kernel
theorem dX1_readAppeal_0 : decode cX1_readAppeal 0 = .ok (.aload_n 0, 1) := by decide +kernel
theorem dX1_readAppeal_1 : decode cX1_readAppeal 1 = .ok (.invokevirtual 32, 3) := by decide +kernel
theorem dX1_readAppeal_4 : decode cX1_readAppeal 4 = .ok (.aload_n 0, 1) := by decide +kernel
theorem dX1_readAppeal_5 : decode cX1_readAppeal 5 = .ok (.invokevirtual 235, 3) := by decide +kernel
theorem dX1_readAppeal_8 : decode cX1_readAppeal 8 = .ok (.istore_n 1, 1) := by decide +kernel
theorem dX1_readAppeal_9 : decode cX1_readAppeal 9 = .ok (.aload_n 0, 1) := by decide +kernel
theorem dX1_readAppeal_10 : decode cX1_readAppeal 10 = .ok (.invokevirtual 215, 3) := by decide +kernel
theorem dX1_readAppeal_13 : decode cX1_readAppeal 13 = .ok (.istore_n 2, 1) := by decide +kernel
theorem dX1_readAppeal_14 : decode cX1_readAppeal 14 = .ok (.aload_n 0, 1) := by decide +kernel
theorem dX1_readAppeal_15 : decode cX1_readAppeal 15 = .ok (.aload_n 0, 1) := by decide +kernel
theorem dX1_readAppeal_16 : decode cX1_readAppeal 16 = .ok (.invokevirtual 35, 3) := by decide +kernel
theorem dX1_readAppeal_19 : decode cX1_readAppeal 19 = .ok (.ifCond .ne 18, 3) := by decide +kernel
theorem dX1_readAppeal_22 : decode cX1_readAppeal 22 = .ok (.aload_n 0, 1) := by decide +kernel
theorem dX1_readAppeal_23 : decode cX1_readAppeal 23 = .ok (.getfield 19, 3) := by decide +kernel
theorem dX1_readAppeal_26 : decode cX1_readAppeal 26 = .ok (.iload_n 1, 1) := by decide +kernel
theorem dX1_readAppeal_27 : decode cX1_readAppeal 27 = .ok (.invokevirtual 238, 3) := by decide +kernel
theorem dX1_readAppeal_30 : decode cX1_readAppeal 30 = .ok (.ifCond .eq 7, 3) := by decide +kernel
theorem dX1_readAppeal_33 : decode cX1_readAppeal 33 = .ok (.iconst 1, 1) := by decide +kernel
theorem dX1_readAppeal_34 : decode cX1_readAppeal 34 = .ok (.goto 4, 3) := by decide +kernel
theorem dX1_readAppeal_37 : decode cX1_readAppeal 37 = .ok (.iconst 0, 1) := by decide +kernel
theorem dX1_readAppeal_38 : decode cX1_readAppeal 38 = .ok (.invokevirtual 100, 3) := by decide +kernel
theorem dX1_readAppeal_41 : decode cX1_readAppeal 41 = .ok (.ifCond .eq 13, 3) := by decide +kernel
theorem dX1_readAppeal_44 : decode cX1_readAppeal 44 = .ok (.aload_n 0, 1) := by decide +kernel
theorem dX1_readAppeal_45 : decode cX1_readAppeal 45 = .ok (.getfield 19, 3) := by decide +kernel
theorem dX1_readAppeal_48 : decode cX1_readAppeal 48 = .ok (.iload_n 1, 1) := by decide +kernel
theorem dX1_readAppeal_49 : decode cX1_readAppeal 49 = .ok (.iload_n 2, 1) := by decide +kernel
theorem dX1_readAppeal_50 : decode cX1_readAppeal 50 = .ok (.invokevirtual 241, 3) := by decide +kernel
theorem dX1_readAppeal_53 : decode cX1_readAppeal 53 = .ok (.pop, 1) := by decide +kernel
theorem dX1_readAppeal_54 : decode cX1_readAppeal 54 = .ok (.return_, 1) := by decide +kernel
theorem dX3_canDecide_0 : decode cX3_canDecide 0 = .ok (.aload_n 0, 1) := by decide +kernel
theorem dX3_canDecide_1 : decode cX3_canDecide 1 = .ok (.getfield 29, 3) := by decide +kernel
theorem dX3_canDecide_4 : decode cX3_canDecide 4 = .ok (.iload_n 1, 1) := by decide +kernel
theorem dX3_canDecide_5 : decode cX3_canDecide 5 = .ok (.aaload, 1) := by decide +kernel
theorem dX3_canDecide_6 : decode cX3_canDecide 6 = .ok (.getfield 156, 3) := by decide +kernel
theorem dX3_canDecide_9 : decode cX3_canDecide 9 = .ok (.iconst 1, 1) := by decide +kernel
theorem dX3_canDecide_10 : decode cX3_canDecide 10 = .ok (.if_icmp .ne 7, 3) := by decide +kernel
theorem dX3_canDecide_13 : decode cX3_canDecide 13 = .ok (.iconst 1, 1) := by decide +kernel
theorem dX3_canDecide_14 : decode cX3_canDecide 14 = .ok (.goto 4, 3) := by decide +kernel
theorem dX3_canDecide_17 : decode cX3_canDecide 17 = .ok (.iconst 0, 1) := by decide +kernel
theorem dX3_canDecide_18 : decode cX3_canDecide 18 = .ok (.ireturn, 1) := by decide +kernel
theorem dX3_decisionFor_0 : decode cX3_decisionFor 0 = .ok (.aload_n 0, 1) := by decide +kernel
theorem dX3_decisionFor_1 : decode cX3_decisionFor 1 = .ok (.getfield 29, 3) := by decide +kernel
theorem dX3_decisionFor_4 : decode cX3_decisionFor 4 = .ok (.iload_n 1, 1) := by decide +kernel
theorem dX3_decisionFor_5 : decode cX3_decisionFor 5 = .ok (.aaload, 1) := by decide +kernel
theorem dX3_decisionFor_6 : decode cX3_decisionFor 6 = .ok (.aload_n 0, 1) := by decide +kernel
theorem dX3_decisionFor_7 : decode cX3_decisionFor 7 = .ok (.getfield 23, 3) := by decide +kernel
theorem dX3_decisionFor_10 : decode cX3_decisionFor 10 = .ok (.iload_n 2, 1) := by decide +kernel
theorem dX3_decisionFor_11 : decode cX3_decisionFor 11 = .ok (.aaload, 1) := by decide +kernel
theorem dX3_decisionFor_12 : decode cX3_decisionFor 12 = .ok (.invokevirtual 165, 3) := by decide +kernel
theorem dX3_decisionFor_15 : decode cX3_decisionFor 15 = .ok (.ifCond .eq 7, 3) := by decide +kernel
theorem dX3_decisionFor_18 : decode cX3_decisionFor 18 = .ok (.iconst 2, 1) := by decide +kernel
theorem dX3_decisionFor_19 : decode cX3_decisionFor 19 = .ok (.goto 4, 3) := by decide +kernel
theorem dX3_decisionFor_22 : decode cX3_decisionFor 22 = .ok (.iconst 3, 1) := by decide +kernel
theorem dX3_decisionFor_23 : decode cX3_decisionFor 23 = .ok (.ireturn, 1) := by decide +kernel
theorem dX3_decideAppeal_0 : decode cX3_decideAppeal 0 = .ok (.aload_n 0, 1) := by decide +kernel
theorem dX3_decideAppeal_1 : decode cX3_decideAppeal 1 = .ok (.getfield 29, 3) := by decide +kernel
theorem dX3_decideAppeal_4 : decode cX3_decideAppeal 4 = .ok (.iload_n 1, 1) := by decide +kernel
theorem dX3_decideAppeal_5 : decode cX3_decideAppeal 5 = .ok (.aaload, 1) := by decide +kernel
theorem dX3_decideAppeal_6 : decode cX3_decideAppeal 6 = .ok (.astore_n 2, 1) := by decide +kernel
theorem dX3_decideAppeal_7 : decode cX3_decideAppeal 7 = .ok (.aload_n 2, 1) := by decide +kernel
theorem dX3_decideAppeal_8 : decode cX3_decideAppeal 8 = .ok (.aload_n 0, 1) := by decide +kernel
theorem dX3_decideAppeal_9 : decode cX3_decideAppeal 9 = .ok (.iload_n 1, 1) := by decide +kernel
theorem dX3_decideAppeal_10 : decode cX3_decideAppeal 10 = .ok (.aload_n 2, 1) := by decide +kernel
theorem dX3_decideAppeal_11 : decode cX3_decideAppeal 11 = .ok (.getfield 162, 3) := by decide +kernel
theorem dX3_decideAppeal_14 : decode cX3_decideAppeal 14 = .ok (.invokevirtual 169, 3) := by decide +kernel
theorem dX3_decideAppeal_17 : decode cX3_decideAppeal 17 = .ok (.putfield 156, 3) := by decide +kernel
theorem dX3_decideAppeal_20 : decode cX3_decideAppeal 20 = .ok (.aload_n 2, 1) := by decide +kernel
theorem dX3_decideAppeal_21 : decode cX3_decideAppeal 21 = .ok (.aload_n 2, 1) := by decide +kernel
theorem dX3_decideAppeal_22 : decode cX3_decideAppeal 22 = .ok (.getfield 156, 3) := by decide +kernel
theorem dX3_decideAppeal_25 : decode cX3_decideAppeal 25 = .ok (.iconst 2, 1) := by decide +kernel
theorem dX3_decideAppeal_26 : decode cX3_decideAppeal 26 = .ok (.if_icmp .ne 9, 3) := by decide +kernel
theorem dX3_decideAppeal_29 : decode cX3_decideAppeal 29 = .ok (.sipush 700, 3) := by decide +kernel
theorem dX3_decideAppeal_32 : decode cX3_decideAppeal 32 = .ok (.goto 11, 3) := by decide +kernel
theorem dX3_decideAppeal_35 : decode cX3_decideAppeal 35 = .ok (.aload_n 2, 1) := by decide +kernel
theorem dX3_decideAppeal_36 : decode cX3_decideAppeal 36 = .ok (.getfield 172, 3) := by decide +kernel
theorem dX3_decideAppeal_39 : decode cX3_decideAppeal 39 = .ok (.sipush 500, 3) := by decide +kernel
theorem dX3_decideAppeal_42 : decode cX3_decideAppeal 42 = .ok (.iadd, 1) := by decide +kernel
theorem dX3_decideAppeal_43 : decode cX3_decideAppeal 43 = .ok (.putfield 172, 3) := by decide +kernel
theorem dX3_decideAppeal_46 : decode cX3_decideAppeal 46 = .ok (.aload_n 2, 1) := by decide +kernel
theorem dX3_decideAppeal_47 : decode cX3_decideAppeal 47 = .ok (.getfield 156, 3) := by decide +kernel
theorem dX3_decideAppeal_50 : decode cX3_decideAppeal 50 = .ok (.ireturn, 1) := by decide +kernel
theorem dX1_readDecide_0 : decode cX1_readDecide 0 = .ok (.aload_n 0, 1) := by decide +kernel
theorem dX1_readDecide_1 : decode cX1_readDecide 1 = .ok (.invokevirtual 32, 3) := by decide +kernel
theorem dX1_readDecide_4 : decode cX1_readDecide 4 = .ok (.aload_n 0, 1) := by decide +kernel
theorem dX1_readDecide_5 : decode cX1_readDecide 5 = .ok (.invokevirtual 235, 3) := by decide +kernel
theorem dX1_readDecide_8 : decode cX1_readDecide 8 = .ok (.istore_n 1, 1) := by decide +kernel
theorem dX1_readDecide_9 : decode cX1_readDecide 9 = .ok (.aload_n 0, 1) := by decide +kernel
theorem dX1_readDecide_10 : decode cX1_readDecide 10 = .ok (.aload_n 0, 1) := by decide +kernel
theorem dX1_readDecide_11 : decode cX1_readDecide 11 = .ok (.invokevirtual 35, 3) := by decide +kernel
theorem dX1_readDecide_14 : decode cX1_readDecide 14 = .ok (.ifCond .ne 18, 3) := by decide +kernel
theorem dX1_readDecide_17 : decode cX1_readDecide 17 = .ok (.aload_n 0, 1) := by decide +kernel
theorem dX1_readDecide_18 : decode cX1_readDecide 18 = .ok (.getfield 19, 3) := by decide +kernel
theorem dX1_readDecide_21 : decode cX1_readDecide 21 = .ok (.iload_n 1, 1) := by decide +kernel
theorem dX1_readDecide_22 : decode cX1_readDecide 22 = .ok (.invokevirtual 244, 3) := by decide +kernel
theorem dX1_readDecide_25 : decode cX1_readDecide 25 = .ok (.ifCond .eq 7, 3) := by decide +kernel
theorem dX1_readDecide_28 : decode cX1_readDecide 28 = .ok (.iconst 1, 1) := by decide +kernel
theorem dX1_readDecide_29 : decode cX1_readDecide 29 = .ok (.goto 4, 3) := by decide +kernel
theorem dX1_readDecide_32 : decode cX1_readDecide 32 = .ok (.iconst 0, 1) := by decide +kernel
theorem dX1_readDecide_33 : decode cX1_readDecide 33 = .ok (.invokevirtual 100, 3) := by decide +kernel
theorem dX1_readDecide_36 : decode cX1_readDecide 36 = .ok (.ifCond .eq 12, 3) := by decide +kernel
theorem dX1_readDecide_39 : decode cX1_readDecide 39 = .ok (.aload_n 0, 1) := by decide +kernel
theorem dX1_readDecide_40 : decode cX1_readDecide 40 = .ok (.getfield 19, 3) := by decide +kernel
theorem dX1_readDecide_43 : decode cX1_readDecide 43 = .ok (.iload_n 1, 1) := by decide +kernel
theorem dX1_readDecide_44 : decode cX1_readDecide 44 = .ok (.invokevirtual 247, 3) := by decide +kernel
theorem dX1_readDecide_47 : decode cX1_readDecide 47 = .ok (.pop, 1) := by decide +kernel
theorem dX1_readDecide_48 : decode cX1_readDecide 48 = .ok (.return_, 1) := by decide +kernel
theorem dX3_canPay_0 : decode cX3_canPay 0 = .ok (.aload_n 0, 1) := by decide +kernel
theorem dX3_canPay_1 : decode cX3_canPay 1 = .ok (.getfield 29, 3) := by decide +kernel
theorem dX3_canPay_4 : decode cX3_canPay 4 = .ok (.iload_n 1, 1) := by decide +kernel
theorem dX3_canPay_5 : decode cX3_canPay 5 = .ok (.aaload, 1) := by decide +kernel
theorem dX3_canPay_6 : decode cX3_canPay 6 = .ok (.astore_n 2, 1) := by decide +kernel
theorem dX3_canPay_7 : decode cX3_canPay 7 = .ok (.aload_n 2, 1) := by decide +kernel
theorem dX3_canPay_8 : decode cX3_canPay 8 = .ok (.getfield 156, 3) := by decide +kernel
theorem dX3_canPay_11 : decode cX3_canPay 11 = .ok (.iconst 1, 1) := by decide +kernel
theorem dX3_canPay_12 : decode cX3_canPay 12 = .ok (.if_icmp .eq 38, 3) := by decide +kernel
theorem dX3_canPay_15 : decode cX3_canPay 15 = .ok (.aload_n 2, 1) := by decide +kernel
theorem dX3_canPay_16 : decode cX3_canPay 16 = .ok (.getfield 156, 3) := by decide +kernel
theorem dX3_canPay_19 : decode cX3_canPay 19 = .ok (.iconst 4, 1) := by decide +kernel
theorem dX3_canPay_20 : decode cX3_canPay 20 = .ok (.if_icmp .eq 30, 3) := by decide +kernel
theorem dX3_canPay_23 : decode cX3_canPay 23 = .ok (.aload_n 0, 1) := by decide +kernel
theorem dX3_canPay_24 : decode cX3_canPay 24 = .ok (.getfield 17, 3) := by decide +kernel
theorem dX3_canPay_27 : decode cX3_canPay 27 = .ok (.aload_n 2, 1) := by decide +kernel
theorem dX3_canPay_28 : decode cX3_canPay 28 = .ok (.getfield 175, 3) := by decide +kernel
theorem dX3_canPay_31 : decode cX3_canPay 31 = .ok (.aaload, 1) := by decide +kernel
theorem dX3_canPay_32 : decode cX3_canPay 32 = .ok (.getfield 90, 3) := by decide +kernel
theorem dX3_canPay_35 : decode cX3_canPay 35 = .ok (.aload_n 2, 1) := by decide +kernel
theorem dX3_canPay_36 : decode cX3_canPay 36 = .ok (.aload_n 0, 1) := by decide +kernel
theorem dX3_canPay_37 : decode cX3_canPay 37 = .ok (.getfield 36, 3) := by decide +kernel
theorem dX3_canPay_40 : decode cX3_canPay 40 = .ok (.invokevirtual 178, 3) := by decide +kernel
theorem dX3_canPay_43 : decode cX3_canPay 43 = .ok (.if_icmp .lt 7, 3) := by decide +kernel
theorem dX3_canPay_46 : decode cX3_canPay 46 = .ok (.iconst 1, 1) := by decide +kernel
theorem dX3_canPay_47 : decode cX3_canPay 47 = .ok (.goto 4, 3) := by decide +kernel
theorem dX3_canPay_50 : decode cX3_canPay 50 = .ok (.iconst 0, 1) := by decide +kernel
theorem dX3_canPay_51 : decode cX3_canPay 51 = .ok (.ireturn, 1) := by decide +kernel
theorem dX3_payCase_0 : decode cX3_payCase 0 = .ok (.aload_n 0, 1) := by decide +kernel
theorem dX3_payCase_1 : decode cX3_payCase 1 = .ok (.getfield 29, 3) := by decide +kernel
theorem dX3_payCase_4 : decode cX3_payCase 4 = .ok (.iload_n 1, 1) := by decide +kernel
theorem dX3_payCase_5 : decode cX3_payCase 5 = .ok (.aaload, 1) := by decide +kernel
theorem dX3_payCase_6 : decode cX3_payCase 6 = .ok (.astore_n 2, 1) := by decide +kernel
theorem dX3_payCase_7 : decode cX3_payCase 7 = .ok (.aload_n 2, 1) := by decide +kernel
theorem dX3_payCase_8 : decode cX3_payCase 8 = .ok (.aload_n 0, 1) := by decide +kernel
theorem dX3_payCase_9 : decode cX3_payCase 9 = .ok (.getfield 36, 3) := by decide +kernel
theorem dX3_payCase_12 : decode cX3_payCase 12 = .ok (.invokevirtual 178, 3) := by decide +kernel
theorem dX3_payCase_15 : decode cX3_payCase 15 = .ok (.istore_n 3, 1) := by decide +kernel
theorem dX3_payCase_16 : decode cX3_payCase 16 = .ok (.aload_n 0, 1) := by decide +kernel
theorem dX3_payCase_17 : decode cX3_payCase 17 = .ok (.getfield 17, 3) := by decide +kernel
theorem dX3_payCase_20 : decode cX3_payCase 20 = .ok (.aload_n 2, 1) := by decide +kernel
theorem dX3_payCase_21 : decode cX3_payCase 21 = .ok (.getfield 175, 3) := by decide +kernel
theorem dX3_payCase_24 : decode cX3_payCase 24 = .ok (.aaload, 1) := by decide +kernel
theorem dX3_payCase_25 : decode cX3_payCase 25 = .ok (.dup, 1) := by decide +kernel
theorem dX3_payCase_26 : decode cX3_payCase 26 = .ok (.getfield 90, 3) := by decide +kernel
theorem dX3_payCase_29 : decode cX3_payCase 29 = .ok (.iload_n 3, 1) := by decide +kernel
theorem dX3_payCase_30 : decode cX3_payCase 30 = .ok (.isub, 1) := by decide +kernel
theorem dX3_payCase_31 : decode cX3_payCase 31 = .ok (.putfield 90, 3) := by decide +kernel
theorem dX3_payCase_34 : decode cX3_payCase 34 = .ok (.aload_n 0, 1) := by decide +kernel
theorem dX3_payCase_35 : decode cX3_payCase 35 = .ok (.dup, 1) := by decide +kernel
theorem dX3_payCase_36 : decode cX3_payCase 36 = .ok (.getfield 40, 3) := by decide +kernel
theorem dX3_payCase_39 : decode cX3_payCase 39 = .ok (.iload_n 3, 1) := by decide +kernel
theorem dX3_payCase_40 : decode cX3_payCase 40 = .ok (.iadd, 1) := by decide +kernel
theorem dX3_payCase_41 : decode cX3_payCase 41 = .ok (.putfield 40, 3) := by decide +kernel
theorem dX3_payCase_44 : decode cX3_payCase 44 = .ok (.aload_n 2, 1) := by decide +kernel
theorem dX3_payCase_45 : decode cX3_payCase 45 = .ok (.iconst 4, 1) := by decide +kernel
theorem dX3_payCase_46 : decode cX3_payCase 46 = .ok (.putfield 156, 3) := by decide +kernel
theorem dX3_payCase_49 : decode cX3_payCase 49 = .ok (.iload_n 3, 1) := by decide +kernel
theorem dX3_payCase_50 : decode cX3_payCase 50 = .ok (.ireturn, 1) := by decide +kernel
theorem dX1_readPay_0 : decode cX1_readPay 0 = .ok (.aload_n 0, 1) := by decide +kernel
theorem dX1_readPay_1 : decode cX1_readPay 1 = .ok (.invokevirtual 32, 3) := by decide +kernel
theorem dX1_readPay_4 : decode cX1_readPay 4 = .ok (.aload_n 0, 1) := by decide +kernel
theorem dX1_readPay_5 : decode cX1_readPay 5 = .ok (.invokevirtual 235, 3) := by decide +kernel
theorem dX1_readPay_8 : decode cX1_readPay 8 = .ok (.istore_n 1, 1) := by decide +kernel
theorem dX1_readPay_9 : decode cX1_readPay 9 = .ok (.aload_n 0, 1) := by decide +kernel
theorem dX1_readPay_10 : decode cX1_readPay 10 = .ok (.aload_n 0, 1) := by decide +kernel
theorem dX1_readPay_11 : decode cX1_readPay 11 = .ok (.invokevirtual 35, 3) := by decide +kernel
theorem dX1_readPay_14 : decode cX1_readPay 14 = .ok (.ifCond .ne 18, 3) := by decide +kernel
theorem dX1_readPay_17 : decode cX1_readPay 17 = .ok (.aload_n 0, 1) := by decide +kernel
theorem dX1_readPay_18 : decode cX1_readPay 18 = .ok (.getfield 19, 3) := by decide +kernel
theorem dX1_readPay_21 : decode cX1_readPay 21 = .ok (.iload_n 1, 1) := by decide +kernel
theorem dX1_readPay_22 : decode cX1_readPay 22 = .ok (.invokevirtual 250, 3) := by decide +kernel
theorem dX1_readPay_25 : decode cX1_readPay 25 = .ok (.ifCond .eq 7, 3) := by decide +kernel
theorem dX1_readPay_28 : decode cX1_readPay 28 = .ok (.iconst 1, 1) := by decide +kernel
theorem dX1_readPay_29 : decode cX1_readPay 29 = .ok (.goto 4, 3) := by decide +kernel
theorem dX1_readPay_32 : decode cX1_readPay 32 = .ok (.iconst 0, 1) := by decide +kernel
theorem dX1_readPay_33 : decode cX1_readPay 33 = .ok (.invokevirtual 100, 3) := by decide +kernel
theorem dX1_readPay_36 : decode cX1_readPay 36 = .ok (.ifCond .eq 12, 3) := by decide +kernel
theorem dX1_readPay_39 : decode cX1_readPay 39 = .ok (.aload_n 0, 1) := by decide +kernel
theorem dX1_readPay_40 : decode cX1_readPay 40 = .ok (.getfield 19, 3) := by decide +kernel
theorem dX1_readPay_43 : decode cX1_readPay 43 = .ok (.iload_n 1, 1) := by decide +kernel
theorem dX1_readPay_44 : decode cX1_readPay 44 = .ok (.invokevirtual 253, 3) := by decide +kernel
theorem dX1_readPay_47 : decode cX1_readPay 47 = .ok (.pop, 1) := by decide +kernel
theorem dX1_readPay_48 : decode cX1_readPay 48 = .ok (.return_, 1) := by decide +kernel
theorem dX1_readCommands_0 : decode cX1_readCommands 0 = .ok (.iconst 0, 1) := by decide +kernel
theorem dX1_readCommands_1 : decode cX1_readCommands 1 = .ok (.istore_n 1, 1) := by decide +kernel
theorem dX1_readCommands_2 : decode cX1_readCommands 2 = .ok (.iload_n 1, 1) := by decide +kernel
theorem dX1_readCommands_3 : decode cX1_readCommands 3 = .ok (.sipush 700, 3) := by decide +kernel
theorem dX1_readCommands_6 : decode cX1_readCommands 6 = .ok (.if_icmp .ge 141, 3) := by decide +kernel
theorem dX1_readCommands_9 : decode cX1_readCommands 9 = .ok (.aload_n 0, 1) := by decide +kernel
theorem dX1_readCommands_10 : decode cX1_readCommands 10 = .ok (.invokevirtual 35, 3) := by decide +kernel
theorem dX1_readCommands_13 : decode cX1_readCommands 13 = .ok (.ifCond .ne 134, 3) := by decide +kernel
theorem dX1_readCommands_16 : decode cX1_readCommands 16 = .ok (.aload_n 0, 1) := by decide +kernel
theorem dX1_readCommands_17 : decode cX1_readCommands 17 = .ok (.getfield 42, 3) := by decide +kernel
theorem dX1_readCommands_20 : decode cX1_readCommands 20 = .ok (.ifCond .eq 127, 3) := by decide +kernel
theorem dX1_readCommands_23 : decode cX1_readCommands 23 = .ok (.aload_n 0, 1) := by decide +kernel
theorem dX1_readCommands_24 : decode cX1_readCommands 24 = .ok (.ldc 161, 2) := by decide +kernel
theorem dX1_readCommands_26 : decode cX1_readCommands 26 = .ok (.invokevirtual 71, 3) := by decide +kernel
theorem dX1_readCommands_29 : decode cX1_readCommands 29 = .ok (.ifCond .eq 10, 3) := by decide +kernel
theorem dX1_readCommands_32 : decode cX1_readCommands 32 = .ok (.aload_n 0, 1) := by decide +kernel
theorem dX1_readCommands_33 : decode cX1_readCommands 33 = .ok (.invokevirtual 163, 3) := by decide +kernel
theorem dX1_readCommands_36 : decode cX1_readCommands 36 = .ok (.goto 105, 3) := by decide +kernel
theorem dX1_readCommands_39 : decode cX1_readCommands 39 = .ok (.aload_n 0, 1) := by decide +kernel
theorem dX1_readCommands_40 : decode cX1_readCommands 40 = .ok (.ldc 166, 2) := by decide +kernel
theorem dX1_readCommands_42 : decode cX1_readCommands 42 = .ok (.invokevirtual 71, 3) := by decide +kernel
theorem dX1_readCommands_45 : decode cX1_readCommands 45 = .ok (.ifCond .eq 10, 3) := by decide +kernel
theorem dX1_readCommands_48 : decode cX1_readCommands 48 = .ok (.aload_n 0, 1) := by decide +kernel
theorem dX1_readCommands_49 : decode cX1_readCommands 49 = .ok (.invokevirtual 168, 3) := by decide +kernel
theorem dX1_readCommands_52 : decode cX1_readCommands 52 = .ok (.goto 89, 3) := by decide +kernel
theorem dX1_readCommands_55 : decode cX1_readCommands 55 = .ok (.aload_n 0, 1) := by decide +kernel
theorem dX1_readCommands_56 : decode cX1_readCommands 56 = .ok (.ldc 171, 2) := by decide +kernel
theorem dX1_readCommands_58 : decode cX1_readCommands 58 = .ok (.invokevirtual 71, 3) := by decide +kernel
theorem dX1_readCommands_61 : decode cX1_readCommands 61 = .ok (.ifCond .eq 10, 3) := by decide +kernel
theorem dX1_readCommands_64 : decode cX1_readCommands 64 = .ok (.aload_n 0, 1) := by decide +kernel
theorem dX1_readCommands_65 : decode cX1_readCommands 65 = .ok (.invokevirtual 173, 3) := by decide +kernel
theorem dX1_readCommands_68 : decode cX1_readCommands 68 = .ok (.goto 73, 3) := by decide +kernel
theorem dX1_readCommands_71 : decode cX1_readCommands 71 = .ok (.aload_n 0, 1) := by decide +kernel
theorem dX1_readCommands_72 : decode cX1_readCommands 72 = .ok (.ldc 176, 2) := by decide +kernel
theorem dX1_readCommands_74 : decode cX1_readCommands 74 = .ok (.invokevirtual 71, 3) := by decide +kernel
theorem dX1_readCommands_77 : decode cX1_readCommands 77 = .ok (.ifCond .eq 10, 3) := by decide +kernel
theorem dX1_readCommands_80 : decode cX1_readCommands 80 = .ok (.aload_n 0, 1) := by decide +kernel
theorem dX1_readCommands_81 : decode cX1_readCommands 81 = .ok (.invokevirtual 178, 3) := by decide +kernel
theorem dX1_readCommands_84 : decode cX1_readCommands 84 = .ok (.goto 57, 3) := by decide +kernel
theorem dX1_readCommands_87 : decode cX1_readCommands 87 = .ok (.aload_n 0, 1) := by decide +kernel
theorem dX1_readCommands_88 : decode cX1_readCommands 88 = .ok (.ldc 181, 2) := by decide +kernel
theorem dX1_readCommands_90 : decode cX1_readCommands 90 = .ok (.invokevirtual 71, 3) := by decide +kernel
theorem dX1_readCommands_93 : decode cX1_readCommands 93 = .ok (.ifCond .eq 10, 3) := by decide +kernel
theorem dX1_readCommands_96 : decode cX1_readCommands 96 = .ok (.aload_n 0, 1) := by decide +kernel
theorem dX1_readCommands_97 : decode cX1_readCommands 97 = .ok (.invokevirtual 183, 3) := by decide +kernel
theorem dX1_readCommands_100 : decode cX1_readCommands 100 = .ok (.goto 41, 3) := by decide +kernel
theorem dX1_readCommands_103 : decode cX1_readCommands 103 = .ok (.aload_n 0, 1) := by decide +kernel
theorem dX1_readCommands_104 : decode cX1_readCommands 104 = .ok (.ldc 186, 2) := by decide +kernel
theorem dX1_readCommands_106 : decode cX1_readCommands 106 = .ok (.invokevirtual 71, 3) := by decide +kernel
theorem dX1_readCommands_109 : decode cX1_readCommands 109 = .ok (.ifCond .eq 10, 3) := by decide +kernel
theorem dX1_readCommands_112 : decode cX1_readCommands 112 = .ok (.aload_n 0, 1) := by decide +kernel
theorem dX1_readCommands_113 : decode cX1_readCommands 113 = .ok (.invokevirtual 188, 3) := by decide +kernel
theorem dX1_readCommands_116 : decode cX1_readCommands 116 = .ok (.goto 25, 3) := by decide +kernel
theorem dX1_readCommands_119 : decode cX1_readCommands 119 = .ok (.aload_n 0, 1) := by decide +kernel
theorem dX1_readCommands_120 : decode cX1_readCommands 120 = .ok (.ldc 191, 2) := by decide +kernel
theorem dX1_readCommands_122 : decode cX1_readCommands 122 = .ok (.invokevirtual 71, 3) := by decide +kernel
theorem dX1_readCommands_125 : decode cX1_readCommands 125 = .ok (.ifCond .eq 10, 3) := by decide +kernel
theorem dX1_readCommands_128 : decode cX1_readCommands 128 = .ok (.aload_n 0, 1) := by decide +kernel
theorem dX1_readCommands_129 : decode cX1_readCommands 129 = .ok (.invokevirtual 193, 3) := by decide +kernel
theorem dX1_readCommands_132 : decode cX1_readCommands 132 = .ok (.goto 9, 3) := by decide +kernel
theorem dX1_readCommands_135 : decode cX1_readCommands 135 = .ok (.aload_n 0, 1) := by decide +kernel
theorem dX1_readCommands_136 : decode cX1_readCommands 136 = .ok (.iconst 1, 1) := by decide +kernel
theorem dX1_readCommands_137 : decode cX1_readCommands 137 = .ok (.invokevirtual 75, 3) := by decide +kernel
theorem dX1_readCommands_140 : decode cX1_readCommands 140 = .ok (.pop, 1) := by decide +kernel
theorem dX1_readCommands_141 : decode cX1_readCommands 141 = .ok (.iinc 1 1, 3) := by decide +kernel
theorem dX1_readCommands_144 : decode cX1_readCommands 144 = .ok (.goto (-142), 3) := by decide +kernel
theorem dX1_readCommands_147 : decode cX1_readCommands 147 = .ok (.iload_n 1, 1) := by decide +kernel
theorem dX1_readCommands_148 : decode cX1_readCommands 148 = .ok (.ireturn, 1) := by decide +kernel
theorem dX2_init_0 : decode cX2_init 0 = .ok (.aload_n 0, 1) := by decide +kernel
theorem dX2_init_1 : decode cX2_init 1 = .ok (.invokespecial 3, 3) := by decide +kernel
theorem dX2_init_4 : decode cX2_init 4 = .ok (.aload_n 0, 1) := by decide +kernel
theorem dX2_init_5 : decode cX2_init 5 = .ok (.ldc 9, 2) := by decide +kernel
theorem dX2_init_7 : decode cX2_init 7 = .ok (.putfield 11, 3) := by decide +kernel
theorem dX2_init_10 : decode cX2_init 10 = .ok (.aload_n 0, 1) := by decide +kernel
theorem dX2_init_11 : decode cX2_init 11 = .ok (.iconst (-1), 1) := by decide +kernel
theorem dX2_init_12 : decode cX2_init 12 = .ok (.putfield 17, 3) := by decide +kernel
theorem dX2_init_15 : decode cX2_init 15 = .ok (.aload_n 0, 1) := by decide +kernel
theorem dX2_init_16 : decode cX2_init 16 = .ok (.iconst (-1), 1) := by decide +kernel
theorem dX2_init_17 : decode cX2_init 17 = .ok (.putfield 21, 3) := by decide +kernel
theorem dX2_init_20 : decode cX2_init 20 = .ok (.aload_n 0, 1) := by decide +kernel
theorem dX2_init_21 : decode cX2_init 21 = .ok (.iconst (-1), 1) := by decide +kernel
theorem dX2_init_22 : decode cX2_init 22 = .ok (.putfield 24, 3) := by decide +kernel
theorem dX2_init_25 : decode cX2_init 25 = .ok (.aload_n 0, 1) := by decide +kernel
theorem dX2_init_26 : decode cX2_init 26 = .ok (.iconst (-1), 1) := by decide +kernel
theorem dX2_init_27 : decode cX2_init 27 = .ok (.putfield 27, 3) := by decide +kernel
theorem dX2_init_30 : decode cX2_init 30 = .ok (.return_, 1) := by decide +kernel
theorem dX2_copyFrom_0 : decode cX2_copyFrom 0 = .ok (.aload_n 0, 1) := by decide +kernel
theorem dX2_copyFrom_1 : decode cX2_copyFrom 1 = .ok (.aload_n 1, 1) := by decide +kernel
theorem dX2_copyFrom_2 : decode cX2_copyFrom 2 = .ok (.getfield 11, 3) := by decide +kernel
theorem dX2_copyFrom_5 : decode cX2_copyFrom 5 = .ok (.putfield 11, 3) := by decide +kernel
theorem dX2_copyFrom_8 : decode cX2_copyFrom 8 = .ok (.aload_n 0, 1) := by decide +kernel
theorem dX2_copyFrom_9 : decode cX2_copyFrom 9 = .ok (.aload_n 1, 1) := by decide +kernel
theorem dX2_copyFrom_10 : decode cX2_copyFrom 10 = .ok (.getfield 30, 3) := by decide +kernel
theorem dX2_copyFrom_13 : decode cX2_copyFrom 13 = .ok (.putfield 30, 3) := by decide +kernel
theorem dX2_copyFrom_16 : decode cX2_copyFrom 16 = .ok (.aload_n 0, 1) := by decide +kernel
theorem dX2_copyFrom_17 : decode cX2_copyFrom 17 = .ok (.aload_n 1, 1) := by decide +kernel
theorem dX2_copyFrom_18 : decode cX2_copyFrom 18 = .ok (.getfield 17, 3) := by decide +kernel
theorem dX2_copyFrom_21 : decode cX2_copyFrom 21 = .ok (.aload_n 1, 1) := by decide +kernel
theorem dX2_copyFrom_22 : decode cX2_copyFrom 22 = .ok (.getfield 21, 3) := by decide +kernel
theorem dX2_copyFrom_25 : decode cX2_copyFrom 25 = .ok (.aload_n 1, 1) := by decide +kernel
theorem dX2_copyFrom_26 : decode cX2_copyFrom 26 = .ok (.getfield 24, 3) := by decide +kernel
theorem dX2_copyFrom_29 : decode cX2_copyFrom 29 = .ok (.aload_n 1, 1) := by decide +kernel
theorem dX2_copyFrom_30 : decode cX2_copyFrom 30 = .ok (.getfield 27, 3) := by decide +kernel
theorem dX2_copyFrom_33 : decode cX2_copyFrom 33 = .ok (.invokevirtual 33, 3) := by decide +kernel
theorem dX2_copyFrom_36 : decode cX2_copyFrom 36 = .ok (.aload_n 0, 1) := by decide +kernel
theorem dX2_copyFrom_37 : decode cX2_copyFrom 37 = .ok (.aload_n 1, 1) := by decide +kernel
theorem dX2_copyFrom_38 : decode cX2_copyFrom 38 = .ok (.getfield 37, 3) := by decide +kernel
theorem dX2_copyFrom_41 : decode cX2_copyFrom 41 = .ok (.putfield 37, 3) := by decide +kernel
theorem dX2_copyFrom_44 : decode cX2_copyFrom 44 = .ok (.return_, 1) := by decide +kernel
theorem dX4_init_0 : decode cX4_init 0 = .ok (.aload_n 0, 1) := by decide +kernel
theorem dX4_init_1 : decode cX4_init 1 = .ok (.invokespecial 3, 3) := by decide +kernel
theorem dX4_init_4 : decode cX4_init 4 = .ok (.return_, 1) := by decide +kernel
theorem dX3_init_0 : decode cX3_init 0 = .ok (.aload_n 0, 1) := by decide +kernel
theorem dX3_init_1 : decode cX3_init 1 = .ok (.invokespecial 3, 3) := by decide +kernel
theorem dX3_init_4 : decode cX3_init 4 = .ok (.aload_n 0, 1) := by decide +kernel
theorem dX3_init_5 : decode cX3_init 5 = .ok (.bipush 12, 2) := by decide +kernel
theorem dX3_init_7 : decode cX3_init 7 = .ok (.newarray .int, 2) := by decide +kernel
theorem dX3_init_9 : decode cX3_init 9 = .ok (.putfield 9, 3) := by decide +kernel
theorem dX3_init_12 : decode cX3_init 12 = .ok (.aload_n 0, 1) := by decide +kernel
theorem dX3_init_13 : decode cX3_init 13 = .ok (.bipush 8, 2) := by decide +kernel
theorem dX3_init_15 : decode cX3_init 15 = .ok (.anewarray 15, 3) := by decide +kernel
theorem dX3_init_18 : decode cX3_init 18 = .ok (.putfield 17, 3) := by decide +kernel
theorem dX3_init_21 : decode cX3_init 21 = .ok (.aload_n 0, 1) := by decide +kernel
theorem dX3_init_22 : decode cX3_init 22 = .ok (.bipush 30, 2) := by decide +kernel
theorem dX3_init_24 : decode cX3_init 24 = .ok (.anewarray 21, 3) := by decide +kernel
theorem dX3_init_27 : decode cX3_init 27 = .ok (.putfield 23, 3) := by decide +kernel
theorem dX3_init_30 : decode cX3_init 30 = .ok (.aload_n 0, 1) := by decide +kernel
theorem dX3_init_31 : decode cX3_init 31 = .ok (.bipush 20, 2) := by decide +kernel
theorem dX3_init_33 : decode cX3_init 33 = .ok (.anewarray 27, 3) := by decide +kernel
theorem dX3_init_36 : decode cX3_init 36 = .ok (.putfield 29, 3) := by decide +kernel
theorem dX3_init_39 : decode cX3_init 39 = .ok (.iconst 0, 1) := by decide +kernel
theorem dX3_init_40 : decode cX3_init 40 = .ok (.istore_n 1, 1) := by decide +kernel
theorem dX3_init_41 : decode cX3_init 41 = .ok (.iload_n 1, 1) := by decide +kernel
theorem dX3_init_42 : decode cX3_init 42 = .ok (.bipush 8, 2) := by decide +kernel
theorem dX3_init_44 : decode cX3_init 44 = .ok (.if_icmp .ge 22, 3) := by decide +kernel
theorem dX3_init_47 : decode cX3_init 47 = .ok (.aload_n 0, 1) := by decide +kernel
theorem dX3_init_48 : decode cX3_init 48 = .ok (.getfield 17, 3) := by decide +kernel
theorem dX3_init_51 : decode cX3_init 51 = .ok (.iload_n 1, 1) := by decide +kernel
theorem dX3_init_52 : decode cX3_init 52 = .ok (.new 15, 3) := by decide +kernel
theorem dX3_init_55 : decode cX3_init 55 = .ok (.dup, 1) := by decide +kernel
theorem dX3_init_56 : decode cX3_init 56 = .ok (.invokespecial 33, 3) := by decide +kernel
theorem dX3_init_59 : decode cX3_init 59 = .ok (.aastore, 1) := by decide +kernel
theorem dX3_init_60 : decode cX3_init 60 = .ok (.iinc 1 1, 3) := by decide +kernel
theorem dX3_init_63 : decode cX3_init 63 = .ok (.goto (-22), 3) := by decide +kernel
theorem dX3_init_66 : decode cX3_init 66 = .ok (.iconst 0, 1) := by decide +kernel
theorem dX3_init_67 : decode cX3_init 67 = .ok (.istore_n 1, 1) := by decide +kernel
theorem dX3_init_68 : decode cX3_init 68 = .ok (.iload_n 1, 1) := by decide +kernel
theorem dX3_init_69 : decode cX3_init 69 = .ok (.bipush 30, 2) := by decide +kernel
theorem dX3_init_71 : decode cX3_init 71 = .ok (.if_icmp .ge 22, 3) := by decide +kernel
theorem dX3_init_74 : decode cX3_init 74 = .ok (.aload_n 0, 1) := by decide +kernel
theorem dX3_init_75 : decode cX3_init 75 = .ok (.getfield 23, 3) := by decide +kernel
theorem dX3_init_78 : decode cX3_init 78 = .ok (.iload_n 1, 1) := by decide +kernel
theorem dX3_init_79 : decode cX3_init 79 = .ok (.new 21, 3) := by decide +kernel
theorem dX3_init_82 : decode cX3_init 82 = .ok (.dup, 1) := by decide +kernel
theorem dX3_init_83 : decode cX3_init 83 = .ok (.invokespecial 34, 3) := by decide +kernel
theorem dX3_init_86 : decode cX3_init 86 = .ok (.aastore, 1) := by decide +kernel
theorem dX3_init_87 : decode cX3_init 87 = .ok (.iinc 1 1, 3) := by decide +kernel
theorem dX3_init_90 : decode cX3_init 90 = .ok (.goto (-22), 3) := by decide +kernel
theorem dX3_init_93 : decode cX3_init 93 = .ok (.iconst 0, 1) := by decide +kernel
theorem dX3_init_94 : decode cX3_init 94 = .ok (.istore_n 1, 1) := by decide +kernel
theorem dX3_init_95 : decode cX3_init 95 = .ok (.iload_n 1, 1) := by decide +kernel
theorem dX3_init_96 : decode cX3_init 96 = .ok (.bipush 20, 2) := by decide +kernel
theorem dX3_init_98 : decode cX3_init 98 = .ok (.if_icmp .ge 22, 3) := by decide +kernel
theorem dX3_init_101 : decode cX3_init 101 = .ok (.aload_n 0, 1) := by decide +kernel
theorem dX3_init_102 : decode cX3_init 102 = .ok (.getfield 29, 3) := by decide +kernel
theorem dX3_init_105 : decode cX3_init 105 = .ok (.iload_n 1, 1) := by decide +kernel
theorem dX3_init_106 : decode cX3_init 106 = .ok (.new 27, 3) := by decide +kernel
theorem dX3_init_109 : decode cX3_init 109 = .ok (.dup, 1) := by decide +kernel
theorem dX3_init_110 : decode cX3_init 110 = .ok (.invokespecial 35, 3) := by decide +kernel
theorem dX3_init_113 : decode cX3_init 113 = .ok (.aastore, 1) := by decide +kernel
theorem dX3_init_114 : decode cX3_init 114 = .ok (.iinc 1 1, 3) := by decide +kernel
theorem dX3_init_117 : decode cX3_init 117 = .ok (.goto (-22), 3) := by decide +kernel
theorem dX3_init_120 : decode cX3_init 120 = .ok (.return_, 1) := by decide +kernel
theorem dX3_clear_0 : decode cX3_clear 0 = .ok (.aload_n 0, 1) := by decide +kernel
theorem dX3_clear_1 : decode cX3_clear 1 = .ok (.iconst 0, 1) := by decide +kernel
theorem dX3_clear_2 : decode cX3_clear 2 = .ok (.putfield 36, 3) := by decide +kernel
theorem dX3_clear_5 : decode cX3_clear 5 = .ok (.aload_n 0, 1) := by decide +kernel
theorem dX3_clear_6 : decode cX3_clear 6 = .ok (.iconst 0, 1) := by decide +kernel
theorem dX3_clear_7 : decode cX3_clear 7 = .ok (.putfield 40, 3) := by decide +kernel
theorem dX3_clear_10 : decode cX3_clear 10 = .ok (.aload_n 0, 1) := by decide +kernel
theorem dX3_clear_11 : decode cX3_clear 11 = .ok (.iconst 0, 1) := by decide +kernel
theorem dX3_clear_12 : decode cX3_clear 12 = .ok (.putfield 43, 3) := by decide +kernel
theorem dX3_clear_15 : decode cX3_clear 15 = .ok (.aload_n 0, 1) := by decide +kernel
theorem dX3_clear_16 : decode cX3_clear 16 = .ok (.iconst 0, 1) := by decide +kernel
theorem dX3_clear_17 : decode cX3_clear 17 = .ok (.putfield 46, 3) := by decide +kernel
theorem dX3_clear_20 : decode cX3_clear 20 = .ok (.aload_n 0, 1) := by decide +kernel
theorem dX3_clear_21 : decode cX3_clear 21 = .ok (.iconst 0, 1) := by decide +kernel
theorem dX3_clear_22 : decode cX3_clear 22 = .ok (.putfield 49, 3) := by decide +kernel
theorem dX3_clear_25 : decode cX3_clear 25 = .ok (.aload_n 0, 1) := by decide +kernel
theorem dX3_clear_26 : decode cX3_clear 26 = .ok (.iconst 0, 1) := by decide +kernel
theorem dX3_clear_27 : decode cX3_clear 27 = .ok (.putfield 52, 3) := by decide +kernel
theorem dX3_clear_30 : decode cX3_clear 30 = .ok (.aload_n 0, 1) := by decide +kernel
theorem dX3_clear_31 : decode cX3_clear 31 = .ok (.iconst 0, 1) := by decide +kernel
theorem dX3_clear_32 : decode cX3_clear 32 = .ok (.putfield 55, 3) := by decide +kernel
theorem dX3_clear_35 : decode cX3_clear 35 = .ok (.aload_n 0, 1) := by decide +kernel
theorem dX3_clear_36 : decode cX3_clear 36 = .ok (.iconst 0, 1) := by decide +kernel
theorem dX3_clear_37 : decode cX3_clear 37 = .ok (.putfield 58, 3) := by decide +kernel
theorem dX3_clear_40 : decode cX3_clear 40 = .ok (.return_, 1) := by decide +kernel
theorem dX4_copyFrom_0 : decode cX4_copyFrom 0 = .ok (.aload_n 0, 1) := by decide +kernel
theorem dX4_copyFrom_1 : decode cX4_copyFrom 1 = .ok (.aload_n 1, 1) := by decide +kernel
theorem dX4_copyFrom_2 : decode cX4_copyFrom 2 = .ok (.getfield 9, 3) := by decide +kernel
theorem dX4_copyFrom_5 : decode cX4_copyFrom 5 = .ok (.putfield 9, 3) := by decide +kernel
theorem dX4_copyFrom_8 : decode cX4_copyFrom 8 = .ok (.aload_n 0, 1) := by decide +kernel
theorem dX4_copyFrom_9 : decode cX4_copyFrom 9 = .ok (.aload_n 1, 1) := by decide +kernel
theorem dX4_copyFrom_10 : decode cX4_copyFrom 10 = .ok (.getfield 15, 3) := by decide +kernel
theorem dX4_copyFrom_13 : decode cX4_copyFrom 13 = .ok (.putfield 15, 3) := by decide +kernel
theorem dX4_copyFrom_16 : decode cX4_copyFrom 16 = .ok (.aload_n 0, 1) := by decide +kernel
theorem dX4_copyFrom_17 : decode cX4_copyFrom 17 = .ok (.aload_n 1, 1) := by decide +kernel
theorem dX4_copyFrom_18 : decode cX4_copyFrom 18 = .ok (.getfield 18, 3) := by decide +kernel
theorem dX4_copyFrom_21 : decode cX4_copyFrom 21 = .ok (.putfield 18, 3) := by decide +kernel
theorem dX4_copyFrom_24 : decode cX4_copyFrom 24 = .ok (.aload_n 0, 1) := by decide +kernel
theorem dX4_copyFrom_25 : decode cX4_copyFrom 25 = .ok (.aload_n 1, 1) := by decide +kernel
theorem dX4_copyFrom_26 : decode cX4_copyFrom 26 = .ok (.getfield 21, 3) := by decide +kernel
theorem dX4_copyFrom_29 : decode cX4_copyFrom 29 = .ok (.putfield 21, 3) := by decide +kernel
theorem dX4_copyFrom_32 : decode cX4_copyFrom 32 = .ok (.aload_n 0, 1) := by decide +kernel
theorem dX4_copyFrom_33 : decode cX4_copyFrom 33 = .ok (.aload_n 1, 1) := by decide +kernel
theorem dX4_copyFrom_34 : decode cX4_copyFrom 34 = .ok (.getfield 24, 3) := by decide +kernel
theorem dX4_copyFrom_37 : decode cX4_copyFrom 37 = .ok (.putfield 24, 3) := by decide +kernel
theorem dX4_copyFrom_40 : decode cX4_copyFrom 40 = .ok (.aload_n 0, 1) := by decide +kernel
theorem dX4_copyFrom_41 : decode cX4_copyFrom 41 = .ok (.aload_n 1, 1) := by decide +kernel
theorem dX4_copyFrom_42 : decode cX4_copyFrom 42 = .ok (.getfield 27, 3) := by decide +kernel
theorem dX4_copyFrom_45 : decode cX4_copyFrom 45 = .ok (.putfield 27, 3) := by decide +kernel
theorem dX4_copyFrom_48 : decode cX4_copyFrom 48 = .ok (.return_, 1) := by decide +kernel
theorem dX3_copyFrom_0 : decode cX3_copyFrom 0 = .ok (.aload_n 0, 1) := by decide +kernel
theorem dX3_copyFrom_1 : decode cX3_copyFrom 1 = .ok (.aload_n 1, 1) := by decide +kernel
theorem dX3_copyFrom_2 : decode cX3_copyFrom 2 = .ok (.getfield 36, 3) := by decide +kernel
theorem dX3_copyFrom_5 : decode cX3_copyFrom 5 = .ok (.putfield 36, 3) := by decide +kernel
theorem dX3_copyFrom_8 : decode cX3_copyFrom 8 = .ok (.aload_n 0, 1) := by decide +kernel
theorem dX3_copyFrom_9 : decode cX3_copyFrom 9 = .ok (.aload_n 1, 1) := by decide +kernel
theorem dX3_copyFrom_10 : decode cX3_copyFrom 10 = .ok (.getfield 40, 3) := by decide +kernel
theorem dX3_copyFrom_13 : decode cX3_copyFrom 13 = .ok (.putfield 40, 3) := by decide +kernel
theorem dX3_copyFrom_16 : decode cX3_copyFrom 16 = .ok (.aload_n 0, 1) := by decide +kernel
theorem dX3_copyFrom_17 : decode cX3_copyFrom 17 = .ok (.aload_n 1, 1) := by decide +kernel
theorem dX3_copyFrom_18 : decode cX3_copyFrom 18 = .ok (.getfield 43, 3) := by decide +kernel
theorem dX3_copyFrom_21 : decode cX3_copyFrom 21 = .ok (.putfield 43, 3) := by decide +kernel
theorem dX3_copyFrom_24 : decode cX3_copyFrom 24 = .ok (.aload_n 0, 1) := by decide +kernel
theorem dX3_copyFrom_25 : decode cX3_copyFrom 25 = .ok (.aload_n 1, 1) := by decide +kernel
theorem dX3_copyFrom_26 : decode cX3_copyFrom 26 = .ok (.getfield 46, 3) := by decide +kernel
theorem dX3_copyFrom_29 : decode cX3_copyFrom 29 = .ok (.putfield 46, 3) := by decide +kernel
theorem dX3_copyFrom_32 : decode cX3_copyFrom 32 = .ok (.aload_n 0, 1) := by decide +kernel
theorem dX3_copyFrom_33 : decode cX3_copyFrom 33 = .ok (.aload_n 1, 1) := by decide +kernel
theorem dX3_copyFrom_34 : decode cX3_copyFrom 34 = .ok (.getfield 49, 3) := by decide +kernel
theorem dX3_copyFrom_37 : decode cX3_copyFrom 37 = .ok (.putfield 49, 3) := by decide +kernel
theorem dX3_copyFrom_40 : decode cX3_copyFrom 40 = .ok (.aload_n 0, 1) := by decide +kernel
theorem dX3_copyFrom_41 : decode cX3_copyFrom 41 = .ok (.aload_n 1, 1) := by decide +kernel
theorem dX3_copyFrom_42 : decode cX3_copyFrom 42 = .ok (.getfield 52, 3) := by decide +kernel
theorem dX3_copyFrom_45 : decode cX3_copyFrom 45 = .ok (.putfield 52, 3) := by decide +kernel
theorem dX3_copyFrom_48 : decode cX3_copyFrom 48 = .ok (.aload_n 0, 1) := by decide +kernel
theorem dX3_copyFrom_49 : decode cX3_copyFrom 49 = .ok (.aload_n 1, 1) := by decide +kernel
theorem dX3_copyFrom_50 : decode cX3_copyFrom 50 = .ok (.getfield 55, 3) := by decide +kernel
theorem dX3_copyFrom_53 : decode cX3_copyFrom 53 = .ok (.putfield 55, 3) := by decide +kernel
theorem dX3_copyFrom_56 : decode cX3_copyFrom 56 = .ok (.aload_n 0, 1) := by decide +kernel
theorem dX3_copyFrom_57 : decode cX3_copyFrom 57 = .ok (.aload_n 1, 1) := by decide +kernel
theorem dX3_copyFrom_58 : decode cX3_copyFrom 58 = .ok (.getfield 58, 3) := by decide +kernel
theorem dX3_copyFrom_61 : decode cX3_copyFrom 61 = .ok (.putfield 58, 3) := by decide +kernel
theorem dX3_copyFrom_64 : decode cX3_copyFrom 64 = .ok (.aload_n 1, 1) := by decide +kernel
theorem dX3_copyFrom_65 : decode cX3_copyFrom 65 = .ok (.getfield 9, 3) := by decide +kernel
theorem dX3_copyFrom_68 : decode cX3_copyFrom 68 = .ok (.iconst 0, 1) := by decide +kernel
theorem dX3_copyFrom_69 : decode cX3_copyFrom 69 = .ok (.aload_n 0, 1) := by decide +kernel
theorem dX3_copyFrom_70 : decode cX3_copyFrom 70 = .ok (.getfield 9, 3) := by decide +kernel
theorem dX3_copyFrom_73 : decode cX3_copyFrom 73 = .ok (.iconst 0, 1) := by decide +kernel
theorem dX3_copyFrom_74 : decode cX3_copyFrom 74 = .ok (.bipush 12, 2) := by decide +kernel
theorem dX3_copyFrom_76 : decode cX3_copyFrom 76 = .ok (.invokestatic 61, 3) := by decide +kernel
theorem dX3_copyFrom_79 : decode cX3_copyFrom 79 = .ok (.iconst 0, 1) := by decide +kernel
theorem dX3_copyFrom_80 : decode cX3_copyFrom 80 = .ok (.istore_n 2, 1) := by decide +kernel
theorem dX3_copyFrom_81 : decode cX3_copyFrom 81 = .ok (.iload_n 2, 1) := by decide +kernel
theorem dX3_copyFrom_82 : decode cX3_copyFrom 82 = .ok (.aload_n 0, 1) := by decide +kernel
theorem dX3_copyFrom_83 : decode cX3_copyFrom 83 = .ok (.getfield 52, 3) := by decide +kernel
theorem dX3_copyFrom_86 : decode cX3_copyFrom 86 = .ok (.if_icmp .ge 24, 3) := by decide +kernel
theorem dX3_copyFrom_89 : decode cX3_copyFrom 89 = .ok (.aload_n 0, 1) := by decide +kernel
theorem dX3_copyFrom_90 : decode cX3_copyFrom 90 = .ok (.getfield 17, 3) := by decide +kernel
theorem dX3_copyFrom_93 : decode cX3_copyFrom 93 = .ok (.iload_n 2, 1) := by decide +kernel
theorem dX3_copyFrom_94 : decode cX3_copyFrom 94 = .ok (.aaload, 1) := by decide +kernel
theorem dX3_copyFrom_95 : decode cX3_copyFrom 95 = .ok (.aload_n 1, 1) := by decide +kernel
theorem dX3_copyFrom_96 : decode cX3_copyFrom 96 = .ok (.getfield 17, 3) := by decide +kernel
theorem dX3_copyFrom_99 : decode cX3_copyFrom 99 = .ok (.iload_n 2, 1) := by decide +kernel
theorem dX3_copyFrom_100 : decode cX3_copyFrom 100 = .ok (.aaload, 1) := by decide +kernel
theorem dX3_copyFrom_101 : decode cX3_copyFrom 101 = .ok (.invokevirtual 67, 3) := by decide +kernel
theorem dX3_copyFrom_104 : decode cX3_copyFrom 104 = .ok (.iinc 2 1, 3) := by decide +kernel
theorem dX3_copyFrom_107 : decode cX3_copyFrom 107 = .ok (.goto (-26), 3) := by decide +kernel
theorem dX3_copyFrom_110 : decode cX3_copyFrom 110 = .ok (.iconst 0, 1) := by decide +kernel
theorem dX3_copyFrom_111 : decode cX3_copyFrom 111 = .ok (.istore_n 2, 1) := by decide +kernel
theorem dX3_copyFrom_112 : decode cX3_copyFrom 112 = .ok (.iload_n 2, 1) := by decide +kernel
theorem dX3_copyFrom_113 : decode cX3_copyFrom 113 = .ok (.aload_n 0, 1) := by decide +kernel
theorem dX3_copyFrom_114 : decode cX3_copyFrom 114 = .ok (.getfield 55, 3) := by decide +kernel
theorem dX3_copyFrom_117 : decode cX3_copyFrom 117 = .ok (.if_icmp .ge 24, 3) := by decide +kernel
theorem dX3_copyFrom_120 : decode cX3_copyFrom 120 = .ok (.aload_n 0, 1) := by decide +kernel
theorem dX3_copyFrom_121 : decode cX3_copyFrom 121 = .ok (.getfield 23, 3) := by decide +kernel
theorem dX3_copyFrom_124 : decode cX3_copyFrom 124 = .ok (.iload_n 2, 1) := by decide +kernel
theorem dX3_copyFrom_125 : decode cX3_copyFrom 125 = .ok (.aaload, 1) := by decide +kernel
theorem dX3_copyFrom_126 : decode cX3_copyFrom 126 = .ok (.aload_n 1, 1) := by decide +kernel
theorem dX3_copyFrom_127 : decode cX3_copyFrom 127 = .ok (.getfield 23, 3) := by decide +kernel
theorem dX3_copyFrom_130 : decode cX3_copyFrom 130 = .ok (.iload_n 2, 1) := by decide +kernel
theorem dX3_copyFrom_131 : decode cX3_copyFrom 131 = .ok (.aaload, 1) := by decide +kernel
theorem dX3_copyFrom_132 : decode cX3_copyFrom 132 = .ok (.invokevirtual 71, 3) := by decide +kernel
theorem dX3_copyFrom_135 : decode cX3_copyFrom 135 = .ok (.iinc 2 1, 3) := by decide +kernel
theorem dX3_copyFrom_138 : decode cX3_copyFrom 138 = .ok (.goto (-26), 3) := by decide +kernel
theorem dX3_copyFrom_141 : decode cX3_copyFrom 141 = .ok (.iconst 0, 1) := by decide +kernel
theorem dX3_copyFrom_142 : decode cX3_copyFrom 142 = .ok (.istore_n 2, 1) := by decide +kernel
theorem dX3_copyFrom_143 : decode cX3_copyFrom 143 = .ok (.iload_n 2, 1) := by decide +kernel
theorem dX3_copyFrom_144 : decode cX3_copyFrom 144 = .ok (.aload_n 0, 1) := by decide +kernel
theorem dX3_copyFrom_145 : decode cX3_copyFrom 145 = .ok (.getfield 58, 3) := by decide +kernel
theorem dX3_copyFrom_148 : decode cX3_copyFrom 148 = .ok (.if_icmp .ge 24, 3) := by decide +kernel
theorem dX3_copyFrom_151 : decode cX3_copyFrom 151 = .ok (.aload_n 0, 1) := by decide +kernel
theorem dX3_copyFrom_152 : decode cX3_copyFrom 152 = .ok (.getfield 29, 3) := by decide +kernel
theorem dX3_copyFrom_155 : decode cX3_copyFrom 155 = .ok (.iload_n 2, 1) := by decide +kernel
theorem dX3_copyFrom_156 : decode cX3_copyFrom 156 = .ok (.aaload, 1) := by decide +kernel
theorem dX3_copyFrom_157 : decode cX3_copyFrom 157 = .ok (.aload_n 1, 1) := by decide +kernel
theorem dX3_copyFrom_158 : decode cX3_copyFrom 158 = .ok (.getfield 29, 3) := by decide +kernel
theorem dX3_copyFrom_161 : decode cX3_copyFrom 161 = .ok (.iload_n 2, 1) := by decide +kernel
theorem dX3_copyFrom_162 : decode cX3_copyFrom 162 = .ok (.aaload, 1) := by decide +kernel
theorem dX3_copyFrom_163 : decode cX3_copyFrom 163 = .ok (.invokevirtual 74, 3) := by decide +kernel
theorem dX3_copyFrom_166 : decode cX3_copyFrom 166 = .ok (.iinc 2 1, 3) := by decide +kernel
theorem dX3_copyFrom_169 : decode cX3_copyFrom 169 = .ok (.goto (-26), 3) := by decide +kernel
theorem dX3_copyFrom_172 : decode cX3_copyFrom 172 = .ok (.return_, 1) := by decide +kernel
theorem dX3_sumOfDebts_0 : decode cX3_sumOfDebts 0 = .ok (.iconst 0, 1) := by decide +kernel
theorem dX3_sumOfDebts_1 : decode cX3_sumOfDebts 1 = .ok (.istore_n 2, 1) := by decide +kernel
theorem dX3_sumOfDebts_2 : decode cX3_sumOfDebts 2 = .ok (.iconst 0, 1) := by decide +kernel
theorem dX3_sumOfDebts_3 : decode cX3_sumOfDebts 3 = .ok (.istore_n 3, 1) := by decide +kernel
theorem dX3_sumOfDebts_4 : decode cX3_sumOfDebts 4 = .ok (.iload_n 3, 1) := by decide +kernel
theorem dX3_sumOfDebts_5 : decode cX3_sumOfDebts 5 = .ok (.aload_n 0, 1) := by decide +kernel
theorem dX3_sumOfDebts_6 : decode cX3_sumOfDebts 6 = .ok (.getfield 58, 3) := by decide +kernel
theorem dX3_sumOfDebts_9 : decode cX3_sumOfDebts 9 = .ok (.if_icmp .ge 42, 3) := by decide +kernel
theorem dX3_sumOfDebts_12 : decode cX3_sumOfDebts 12 = .ok (.iload_n 2, 1) := by decide +kernel
theorem dX3_sumOfDebts_13 : decode cX3_sumOfDebts 13 = .ok (.aload_n 0, 1) := by decide +kernel
theorem dX3_sumOfDebts_14 : decode cX3_sumOfDebts 14 = .ok (.getfield 29, 3) := by decide +kernel
theorem dX3_sumOfDebts_17 : decode cX3_sumOfDebts 17 = .ok (.iload_n 3, 1) := by decide +kernel
theorem dX3_sumOfDebts_18 : decode cX3_sumOfDebts 18 = .ok (.aaload, 1) := by decide +kernel
theorem dX3_sumOfDebts_19 : decode cX3_sumOfDebts 19 = .ok (.getfield 175, 3) := by decide +kernel
theorem dX3_sumOfDebts_22 : decode cX3_sumOfDebts 22 = .ok (.iload_n 1, 1) := by decide +kernel
theorem dX3_sumOfDebts_23 : decode cX3_sumOfDebts 23 = .ok (.if_icmp .ne 19, 3) := by decide +kernel
theorem dX3_sumOfDebts_26 : decode cX3_sumOfDebts 26 = .ok (.aload_n 0, 1) := by decide +kernel
theorem dX3_sumOfDebts_27 : decode cX3_sumOfDebts 27 = .ok (.getfield 29, 3) := by decide +kernel
theorem dX3_sumOfDebts_30 : decode cX3_sumOfDebts 30 = .ok (.iload_n 3, 1) := by decide +kernel
theorem dX3_sumOfDebts_31 : decode cX3_sumOfDebts 31 = .ok (.aaload, 1) := by decide +kernel
theorem dX3_sumOfDebts_32 : decode cX3_sumOfDebts 32 = .ok (.aload_n 0, 1) := by decide +kernel
theorem dX3_sumOfDebts_33 : decode cX3_sumOfDebts 33 = .ok (.getfield 36, 3) := by decide +kernel
theorem dX3_sumOfDebts_36 : decode cX3_sumOfDebts 36 = .ok (.invokevirtual 178, 3) := by decide +kernel
theorem dX3_sumOfDebts_39 : decode cX3_sumOfDebts 39 = .ok (.goto 4, 3) := by decide +kernel
theorem dX3_sumOfDebts_42 : decode cX3_sumOfDebts 42 = .ok (.iconst 0, 1) := by decide +kernel
theorem dX3_sumOfDebts_43 : decode cX3_sumOfDebts 43 = .ok (.iadd, 1) := by decide +kernel
theorem dX3_sumOfDebts_44 : decode cX3_sumOfDebts 44 = .ok (.istore_n 2, 1) := by decide +kernel
theorem dX3_sumOfDebts_45 : decode cX3_sumOfDebts 45 = .ok (.iinc 3 1, 3) := by decide +kernel
theorem dX3_sumOfDebts_48 : decode cX3_sumOfDebts 48 = .ok (.goto (-44), 3) := by decide +kernel
theorem dX3_sumOfDebts_51 : decode cX3_sumOfDebts 51 = .ok (.iload_n 2, 1) := by decide +kernel
theorem dX3_sumOfDebts_52 : decode cX3_sumOfDebts 52 = .ok (.ireturn, 1) := by decide +kernel
theorem dX3_countUnpaid_0 : decode cX3_countUnpaid 0 = .ok (.iconst 0, 1) := by decide +kernel
theorem dX3_countUnpaid_1 : decode cX3_countUnpaid 1 = .ok (.istore_n 2, 1) := by decide +kernel
theorem dX3_countUnpaid_2 : decode cX3_countUnpaid 2 = .ok (.iconst 0, 1) := by decide +kernel
theorem dX3_countUnpaid_3 : decode cX3_countUnpaid 3 = .ok (.istore_n 3, 1) := by decide +kernel
theorem dX3_countUnpaid_4 : decode cX3_countUnpaid 4 = .ok (.iload_n 3, 1) := by decide +kernel
theorem dX3_countUnpaid_5 : decode cX3_countUnpaid 5 = .ok (.aload_n 0, 1) := by decide +kernel
theorem dX3_countUnpaid_6 : decode cX3_countUnpaid 6 = .ok (.getfield 58, 3) := by decide +kernel
theorem dX3_countUnpaid_9 : decode cX3_countUnpaid 9 = .ok (.if_icmp .ge 43, 3) := by decide +kernel
theorem dX3_countUnpaid_12 : decode cX3_countUnpaid 12 = .ok (.iload_n 2, 1) := by decide +kernel
theorem dX3_countUnpaid_13 : decode cX3_countUnpaid 13 = .ok (.aload_n 0, 1) := by decide +kernel
theorem dX3_countUnpaid_14 : decode cX3_countUnpaid 14 = .ok (.getfield 29, 3) := by decide +kernel
theorem dX3_countUnpaid_17 : decode cX3_countUnpaid 17 = .ok (.iload_n 3, 1) := by decide +kernel
theorem dX3_countUnpaid_18 : decode cX3_countUnpaid 18 = .ok (.aaload, 1) := by decide +kernel
theorem dX3_countUnpaid_19 : decode cX3_countUnpaid 19 = .ok (.getfield 175, 3) := by decide +kernel
theorem dX3_countUnpaid_22 : decode cX3_countUnpaid 22 = .ok (.iload_n 1, 1) := by decide +kernel
theorem dX3_countUnpaid_23 : decode cX3_countUnpaid 23 = .ok (.if_icmp .ne 20, 3) := by decide +kernel
theorem dX3_countUnpaid_26 : decode cX3_countUnpaid 26 = .ok (.aload_n 0, 1) := by decide +kernel
theorem dX3_countUnpaid_27 : decode cX3_countUnpaid 27 = .ok (.getfield 29, 3) := by decide +kernel
theorem dX3_countUnpaid_30 : decode cX3_countUnpaid 30 = .ok (.iload_n 3, 1) := by decide +kernel
theorem dX3_countUnpaid_31 : decode cX3_countUnpaid 31 = .ok (.aaload, 1) := by decide +kernel
theorem dX3_countUnpaid_32 : decode cX3_countUnpaid 32 = .ok (.getfield 156, 3) := by decide +kernel
theorem dX3_countUnpaid_35 : decode cX3_countUnpaid 35 = .ok (.iconst 4, 1) := by decide +kernel
theorem dX3_countUnpaid_36 : decode cX3_countUnpaid 36 = .ok (.if_icmp .eq 7, 3) := by decide +kernel
theorem dX3_countUnpaid_39 : decode cX3_countUnpaid 39 = .ok (.iconst 1, 1) := by decide +kernel
theorem dX3_countUnpaid_40 : decode cX3_countUnpaid 40 = .ok (.goto 4, 3) := by decide +kernel
theorem dX3_countUnpaid_43 : decode cX3_countUnpaid 43 = .ok (.iconst 0, 1) := by decide +kernel
theorem dX3_countUnpaid_44 : decode cX3_countUnpaid 44 = .ok (.iadd, 1) := by decide +kernel
theorem dX3_countUnpaid_45 : decode cX3_countUnpaid 45 = .ok (.istore_n 2, 1) := by decide +kernel
theorem dX3_countUnpaid_46 : decode cX3_countUnpaid 46 = .ok (.iinc 3 1, 3) := by decide +kernel
theorem dX3_countUnpaid_49 : decode cX3_countUnpaid 49 = .ok (.goto (-45), 3) := by decide +kernel
theorem dX3_countUnpaid_52 : decode cX3_countUnpaid 52 = .ok (.iload_n 2, 1) := by decide +kernel
theorem dX3_countUnpaid_53 : decode cX3_countUnpaid 53 = .ok (.ireturn, 1) := by decide +kernel
theorem dX4_price_0 : decode cX4_price 0 = .ok (.aload_n 0, 1) := by decide +kernel
theorem dX4_price_1 : decode cX4_price 1 = .ok (.getfield 15, 3) := by decide +kernel
theorem dX4_price_4 : decode cX4_price 4 = .ok (.aload_n 0, 1) := by decide +kernel
theorem dX4_price_5 : decode cX4_price 5 = .ok (.getfield 18, 3) := by decide +kernel
theorem dX4_price_8 : decode cX4_price 8 = .ok (.invokestatic 34, 3) := by decide +kernel
theorem dX4_price_11 : decode cX4_price 11 = .ok (.ireturn, 1) := by decide +kernel
theorem dX3_sumOfPrices_0 : decode cX3_sumOfPrices 0 = .ok (.iconst 0, 1) := by decide +kernel
theorem dX3_sumOfPrices_1 : decode cX3_sumOfPrices 1 = .ok (.istore_n 1, 1) := by decide +kernel
theorem dX3_sumOfPrices_2 : decode cX3_sumOfPrices 2 = .ok (.iconst 0, 1) := by decide +kernel
theorem dX3_sumOfPrices_3 : decode cX3_sumOfPrices 3 = .ok (.istore_n 2, 1) := by decide +kernel
theorem dX3_sumOfPrices_4 : decode cX3_sumOfPrices 4 = .ok (.iload_n 2, 1) := by decide +kernel
theorem dX3_sumOfPrices_5 : decode cX3_sumOfPrices 5 = .ok (.aload_n 0, 1) := by decide +kernel
theorem dX3_sumOfPrices_6 : decode cX3_sumOfPrices 6 = .ok (.getfield 55, 3) := by decide +kernel
theorem dX3_sumOfPrices_9 : decode cX3_sumOfPrices 9 = .ok (.if_icmp .ge 21, 3) := by decide +kernel
theorem dX3_sumOfPrices_12 : decode cX3_sumOfPrices 12 = .ok (.iload_n 1, 1) := by decide +kernel
theorem dX3_sumOfPrices_13 : decode cX3_sumOfPrices 13 = .ok (.aload_n 0, 1) := by decide +kernel
theorem dX3_sumOfPrices_14 : decode cX3_sumOfPrices 14 = .ok (.getfield 23, 3) := by decide +kernel
theorem dX3_sumOfPrices_17 : decode cX3_sumOfPrices 17 = .ok (.iload_n 2, 1) := by decide +kernel
theorem dX3_sumOfPrices_18 : decode cX3_sumOfPrices 18 = .ok (.aaload, 1) := by decide +kernel
theorem dX3_sumOfPrices_19 : decode cX3_sumOfPrices 19 = .ok (.invokevirtual 181, 3) := by decide +kernel
theorem dX3_sumOfPrices_22 : decode cX3_sumOfPrices 22 = .ok (.iadd, 1) := by decide +kernel
theorem dX3_sumOfPrices_23 : decode cX3_sumOfPrices 23 = .ok (.istore_n 1, 1) := by decide +kernel
theorem dX3_sumOfPrices_24 : decode cX3_sumOfPrices 24 = .ok (.iinc 2 1, 3) := by decide +kernel
theorem dX3_sumOfPrices_27 : decode cX3_sumOfPrices 27 = .ok (.goto (-23), 3) := by decide +kernel
theorem dX3_sumOfPrices_30 : decode cX3_sumOfPrices 30 = .ok (.iload_n 1, 1) := by decide +kernel
theorem dX3_sumOfPrices_31 : decode cX3_sumOfPrices 31 = .ok (.ireturn, 1) := by decide +kernel
theorem dX3_sumOfMoney_0 : decode cX3_sumOfMoney 0 = .ok (.iconst 0, 1) := by decide +kernel
theorem dX3_sumOfMoney_1 : decode cX3_sumOfMoney 1 = .ok (.istore_n 1, 1) := by decide +kernel
theorem dX3_sumOfMoney_2 : decode cX3_sumOfMoney 2 = .ok (.iconst 0, 1) := by decide +kernel
theorem dX3_sumOfMoney_3 : decode cX3_sumOfMoney 3 = .ok (.istore_n 2, 1) := by decide +kernel
theorem dX3_sumOfMoney_4 : decode cX3_sumOfMoney 4 = .ok (.iload_n 2, 1) := by decide +kernel
theorem dX3_sumOfMoney_5 : decode cX3_sumOfMoney 5 = .ok (.aload_n 0, 1) := by decide +kernel
theorem dX3_sumOfMoney_6 : decode cX3_sumOfMoney 6 = .ok (.getfield 52, 3) := by decide +kernel
theorem dX3_sumOfMoney_9 : decode cX3_sumOfMoney 9 = .ok (.if_icmp .ge 21, 3) := by decide +kernel
theorem dX3_sumOfMoney_12 : decode cX3_sumOfMoney 12 = .ok (.iload_n 1, 1) := by decide +kernel
theorem dX3_sumOfMoney_13 : decode cX3_sumOfMoney 13 = .ok (.aload_n 0, 1) := by decide +kernel
theorem dX3_sumOfMoney_14 : decode cX3_sumOfMoney 14 = .ok (.getfield 17, 3) := by decide +kernel
theorem dX3_sumOfMoney_17 : decode cX3_sumOfMoney 17 = .ok (.iload_n 2, 1) := by decide +kernel
theorem dX3_sumOfMoney_18 : decode cX3_sumOfMoney 18 = .ok (.aaload, 1) := by decide +kernel
theorem dX3_sumOfMoney_19 : decode cX3_sumOfMoney 19 = .ok (.getfield 90, 3) := by decide +kernel
theorem dX3_sumOfMoney_22 : decode cX3_sumOfMoney 22 = .ok (.iadd, 1) := by decide +kernel
theorem dX3_sumOfMoney_23 : decode cX3_sumOfMoney 23 = .ok (.istore_n 1, 1) := by decide +kernel
theorem dX3_sumOfMoney_24 : decode cX3_sumOfMoney 24 = .ok (.iinc 2 1, 3) := by decide +kernel
theorem dX3_sumOfMoney_27 : decode cX3_sumOfMoney 27 = .ok (.goto (-23), 3) := by decide +kernel
theorem dX3_sumOfMoney_30 : decode cX3_sumOfMoney 30 = .ok (.iload_n 1, 1) := by decide +kernel
theorem dX3_sumOfMoney_31 : decode cX3_sumOfMoney 31 = .ok (.ireturn, 1) := by decide +kernel
theorem dX3_countOddStamps_0 : decode cX3_countOddStamps 0 = .ok (.iconst 0, 1) := by decide +kernel
theorem dX3_countOddStamps_1 : decode cX3_countOddStamps 1 = .ok (.istore_n 1, 1) := by decide +kernel
theorem dX3_countOddStamps_2 : decode cX3_countOddStamps 2 = .ok (.iconst 0, 1) := by decide +kernel
theorem dX3_countOddStamps_3 : decode cX3_countOddStamps 3 = .ok (.istore_n 2, 1) := by decide +kernel
theorem dX3_countOddStamps_4 : decode cX3_countOddStamps 4 = .ok (.iload_n 2, 1) := by decide +kernel
theorem dX3_countOddStamps_5 : decode cX3_countOddStamps 5 = .ok (.aload_n 0, 1) := by decide +kernel
theorem dX3_countOddStamps_6 : decode cX3_countOddStamps 6 = .ok (.getfield 55, 3) := by decide +kernel
theorem dX3_countOddStamps_9 : decode cX3_countOddStamps 9 = .ok (.if_icmp .ge 46, 3) := by decide +kernel
theorem dX3_countOddStamps_12 : decode cX3_countOddStamps 12 = .ok (.iload_n 1, 1) := by decide +kernel
theorem dX3_countOddStamps_13 : decode cX3_countOddStamps 13 = .ok (.aload_n 0, 1) := by decide +kernel
theorem dX3_countOddStamps_14 : decode cX3_countOddStamps 14 = .ok (.getfield 23, 3) := by decide +kernel
theorem dX3_countOddStamps_17 : decode cX3_countOddStamps 17 = .ok (.iload_n 2, 1) := by decide +kernel
theorem dX3_countOddStamps_18 : decode cX3_countOddStamps 18 = .ok (.aaload, 1) := by decide +kernel
theorem dX3_countOddStamps_19 : decode cX3_countOddStamps 19 = .ok (.invokevirtual 185, 3) := by decide +kernel
theorem dX3_countOddStamps_22 : decode cX3_countOddStamps 22 = .ok (.aload_n 0, 1) := by decide +kernel
theorem dX3_countOddStamps_23 : decode cX3_countOddStamps 23 = .ok (.getfield 23, 3) := by decide +kernel
theorem dX3_countOddStamps_26 : decode cX3_countOddStamps 26 = .ok (.iload_n 2, 1) := by decide +kernel
theorem dX3_countOddStamps_27 : decode cX3_countOddStamps 27 = .ok (.aaload, 1) := by decide +kernel
theorem dX3_countOddStamps_28 : decode cX3_countOddStamps 28 = .ok (.getfield 140, 3) := by decide +kernel
theorem dX3_countOddStamps_31 : decode cX3_countOddStamps 31 = .ok (.ifCond .le 7, 3) := by decide +kernel
theorem dX3_countOddStamps_34 : decode cX3_countOddStamps 34 = .ok (.iconst 1, 1) := by decide +kernel
theorem dX3_countOddStamps_35 : decode cX3_countOddStamps 35 = .ok (.goto 4, 3) := by decide +kernel
theorem dX3_countOddStamps_38 : decode cX3_countOddStamps 38 = .ok (.iconst 0, 1) := by decide +kernel
theorem dX3_countOddStamps_39 : decode cX3_countOddStamps 39 = .ok (.if_icmp .ne 7, 3) := by decide +kernel
theorem dX3_countOddStamps_42 : decode cX3_countOddStamps 42 = .ok (.iconst 0, 1) := by decide +kernel
theorem dX3_countOddStamps_43 : decode cX3_countOddStamps 43 = .ok (.goto 4, 3) := by decide +kernel
theorem dX3_countOddStamps_46 : decode cX3_countOddStamps 46 = .ok (.iconst 1, 1) := by decide +kernel
theorem dX3_countOddStamps_47 : decode cX3_countOddStamps 47 = .ok (.iadd, 1) := by decide +kernel
theorem dX3_countOddStamps_48 : decode cX3_countOddStamps 48 = .ok (.istore_n 1, 1) := by decide +kernel
theorem dX3_countOddStamps_49 : decode cX3_countOddStamps 49 = .ok (.iinc 2 1, 3) := by decide +kernel
theorem dX3_countOddStamps_52 : decode cX3_countOddStamps 52 = .ok (.goto (-48), 3) := by decide +kernel
theorem dX3_countOddStamps_55 : decode cX3_countOddStamps 55 = .ok (.iload_n 1, 1) := by decide +kernel
theorem dX3_countOddStamps_56 : decode cX3_countOddStamps 56 = .ok (.ireturn, 1) := by decide +kernel
theorem dX5_init_0 : decode cX5_init 0 = .ok (.aload_n 0, 1) := by decide +kernel
theorem dX5_init_1 : decode cX5_init 1 = .ok (.invokespecial 1, 3) := by decide +kernel
theorem dX5_init_4 : decode cX5_init 4 = .ok (.aload_n 0, 1) := by decide +kernel
theorem dX5_init_5 : decode cX5_init 5 = .ok (.new 7, 3) := by decide +kernel
theorem dX5_init_8 : decode cX5_init 8 = .ok (.dup, 1) := by decide +kernel
theorem dX5_init_9 : decode cX5_init 9 = .ok (.invokespecial 9, 3) := by decide +kernel
theorem dX5_init_12 : decode cX5_init 12 = .ok (.putfield 10, 3) := by decide +kernel
theorem dX5_init_15 : decode cX5_init 15 = .ok (.aload_n 0, 1) := by decide +kernel
theorem dX5_init_16 : decode cX5_init 16 = .ok (.new 7, 3) := by decide +kernel
theorem dX5_init_19 : decode cX5_init 19 = .ok (.dup, 1) := by decide +kernel
theorem dX5_init_20 : decode cX5_init 20 = .ok (.invokespecial 9, 3) := by decide +kernel
theorem dX5_init_23 : decode cX5_init 23 = .ok (.putfield 16, 3) := by decide +kernel
theorem dX5_init_26 : decode cX5_init 26 = .ok (.aload_n 0, 1) := by decide +kernel
theorem dX5_init_27 : decode cX5_init 27 = .ok (.bipush 8, 2) := by decide +kernel
theorem dX5_init_29 : decode cX5_init 29 = .ok (.anewarray 7, 3) := by decide +kernel
theorem dX5_init_32 : decode cX5_init 32 = .ok (.putfield 19, 3) := by decide +kernel
theorem dX5_init_35 : decode cX5_init 35 = .ok (.aload_n 0, 1) := by decide +kernel
theorem dX5_init_36 : decode cX5_init 36 = .ok (.iconst 2, 1) := by decide +kernel
theorem dX5_init_37 : decode cX5_init 37 = .ok (.anewarray 7, 3) := by decide +kernel
theorem dX5_init_40 : decode cX5_init 40 = .ok (.putfield 23, 3) := by decide +kernel
theorem dX5_init_43 : decode cX5_init 43 = .ok (.aload_n 0, 1) := by decide +kernel
theorem dX5_init_44 : decode cX5_init 44 = .ok (.iconst 2, 1) := by decide +kernel
theorem dX5_init_45 : decode cX5_init 45 = .ok (.newarray .boolean, 2) := by decide +kernel
theorem dX5_init_47 : decode cX5_init 47 = .ok (.putfield 26, 3) := by decide +kernel
theorem dX5_init_50 : decode cX5_init 50 = .ok (.aload_n 0, 1) := by decide +kernel
theorem dX5_init_51 : decode cX5_init 51 = .ok (.new 30, 3) := by decide +kernel
theorem dX5_init_54 : decode cX5_init 54 = .ok (.dup, 1) := by decide +kernel
theorem dX5_init_55 : decode cX5_init 55 = .ok (.aload_n 0, 1) := by decide +kernel
theorem dX5_init_56 : decode cX5_init 56 = .ok (.getfield 16, 3) := by decide +kernel
theorem dX5_init_59 : decode cX5_init 59 = .ok (.invokespecial 32, 3) := by decide +kernel
theorem dX5_init_62 : decode cX5_init 62 = .ok (.putfield 35, 3) := by decide +kernel
theorem dX5_init_65 : decode cX5_init 65 = .ok (.aload_n 0, 1) := by decide +kernel
theorem dX5_init_66 : decode cX5_init 66 = .ok (.new 39, 3) := by decide +kernel
theorem dX5_init_69 : decode cX5_init 69 = .ok (.dup, 1) := by decide +kernel
theorem dX5_init_70 : decode cX5_init 70 = .ok (.invokespecial 41, 3) := by decide +kernel
theorem dX5_init_73 : decode cX5_init 73 = .ok (.putfield 42, 3) := by decide +kernel
theorem dX5_init_76 : decode cX5_init 76 = .ok (.iconst 0, 1) := by decide +kernel
theorem dX5_init_77 : decode cX5_init 77 = .ok (.istore_n 1, 1) := by decide +kernel
theorem dX5_init_78 : decode cX5_init 78 = .ok (.iload_n 1, 1) := by decide +kernel
theorem dX5_init_79 : decode cX5_init 79 = .ok (.bipush 8, 2) := by decide +kernel
theorem dX5_init_81 : decode cX5_init 81 = .ok (.if_icmp .ge 22, 3) := by decide +kernel
theorem dX5_init_84 : decode cX5_init 84 = .ok (.aload_n 0, 1) := by decide +kernel
theorem dX5_init_85 : decode cX5_init 85 = .ok (.getfield 19, 3) := by decide +kernel
theorem dX5_init_88 : decode cX5_init 88 = .ok (.iload_n 1, 1) := by decide +kernel
theorem dX5_init_89 : decode cX5_init 89 = .ok (.new 7, 3) := by decide +kernel
theorem dX5_init_92 : decode cX5_init 92 = .ok (.dup, 1) := by decide +kernel
theorem dX5_init_93 : decode cX5_init 93 = .ok (.invokespecial 9, 3) := by decide +kernel
theorem dX5_init_96 : decode cX5_init 96 = .ok (.aastore, 1) := by decide +kernel
theorem dX5_init_97 : decode cX5_init 97 = .ok (.iinc 1 1, 3) := by decide +kernel
theorem dX5_init_100 : decode cX5_init 100 = .ok (.goto (-22), 3) := by decide +kernel
theorem dX5_init_103 : decode cX5_init 103 = .ok (.iconst 0, 1) := by decide +kernel
theorem dX5_init_104 : decode cX5_init 104 = .ok (.istore_n 1, 1) := by decide +kernel
theorem dX5_init_105 : decode cX5_init 105 = .ok (.iload_n 1, 1) := by decide +kernel
theorem dX5_init_106 : decode cX5_init 106 = .ok (.iconst 2, 1) := by decide +kernel
theorem dX5_init_107 : decode cX5_init 107 = .ok (.if_icmp .ge 22, 3) := by decide +kernel
theorem dX5_init_110 : decode cX5_init 110 = .ok (.aload_n 0, 1) := by decide +kernel
theorem dX5_init_111 : decode cX5_init 111 = .ok (.getfield 23, 3) := by decide +kernel
theorem dX5_init_114 : decode cX5_init 114 = .ok (.iload_n 1, 1) := by decide +kernel
theorem dX5_init_115 : decode cX5_init 115 = .ok (.new 7, 3) := by decide +kernel
theorem dX5_init_118 : decode cX5_init 118 = .ok (.dup, 1) := by decide +kernel
theorem dX5_init_119 : decode cX5_init 119 = .ok (.invokespecial 9, 3) := by decide +kernel
theorem dX5_init_122 : decode cX5_init 122 = .ok (.aastore, 1) := by decide +kernel
theorem dX5_init_123 : decode cX5_init 123 = .ok (.iinc 1 1, 3) := by decide +kernel
theorem dX5_init_126 : decode cX5_init 126 = .ok (.goto (-21), 3) := by decide +kernel
theorem dX5_init_129 : decode cX5_init 129 = .ok (.iconst 0, 1) := by decide +kernel
theorem dX5_init_130 : decode cX5_init 130 = .ok (.istore_n 1, 1) := by decide +kernel
theorem dX5_init_131 : decode cX5_init 131 = .ok (.iload_n 1, 1) := by decide +kernel
theorem dX5_init_132 : decode cX5_init 132 = .ok (.bipush 8, 2) := by decide +kernel
theorem dX5_init_134 : decode cX5_init 134 = .ok (.if_icmp .ge 19, 3) := by decide +kernel
theorem dX5_init_137 : decode cX5_init 137 = .ok (.aload_n 0, 1) := by decide +kernel
theorem dX5_init_138 : decode cX5_init 138 = .ok (.getfield 10, 3) := by decide +kernel
theorem dX5_init_141 : decode cX5_init 141 = .ok (.iload_n 1, 1) := by decide +kernel
theorem dX5_init_142 : decode cX5_init 142 = .ok (.iconst 3, 1) := by decide +kernel
theorem dX5_init_143 : decode cX5_init 143 = .ok (.idiv, 1) := by decide +kernel
theorem dX5_init_144 : decode cX5_init 144 = .ok (.invokevirtual 46, 3) := by decide +kernel
theorem dX5_init_147 : decode cX5_init 147 = .ok (.iinc 1 1, 3) := by decide +kernel
theorem dX5_init_150 : decode cX5_init 150 = .ok (.goto (-19), 3) := by decide +kernel
theorem dX5_init_153 : decode cX5_init 153 = .ok (.aload_n 0, 1) := by decide +kernel
theorem dX5_init_154 : decode cX5_init 154 = .ok (.getfield 10, 3) := by decide +kernel
theorem dX5_init_157 : decode cX5_init 157 = .ok (.ldc 50, 2) := by decide +kernel
theorem dX5_init_159 : decode cX5_init 159 = .ok (.sipush 9000, 3) := by decide +kernel
theorem dX5_init_162 : decode cX5_init 162 = .ok (.invokevirtual 52, 3) := by decide +kernel
theorem dX5_init_165 : decode cX5_init 165 = .ok (.aload_n 0, 1) := by decide +kernel
theorem dX5_init_166 : decode cX5_init 166 = .ok (.getfield 10, 3) := by decide +kernel
theorem dX5_init_169 : decode cX5_init 169 = .ok (.ldc 56, 2) := by decide +kernel
theorem dX5_init_171 : decode cX5_init 171 = .ok (.sipush 1200, 3) := by decide +kernel
theorem dX5_init_174 : decode cX5_init 174 = .ok (.invokevirtual 52, 3) := by decide +kernel
theorem dX5_init_177 : decode cX5_init 177 = .ok (.aload_n 0, 1) := by decide +kernel
theorem dX5_init_178 : decode cX5_init 178 = .ok (.getfield 10, 3) := by decide +kernel
theorem dX5_init_181 : decode cX5_init 181 = .ok (.ldc 58, 2) := by decide +kernel
theorem dX5_init_183 : decode cX5_init 183 = .ok (.sipush 20000, 3) := by decide +kernel
theorem dX5_init_186 : decode cX5_init 186 = .ok (.invokevirtual 52, 3) := by decide +kernel
theorem dX5_init_189 : decode cX5_init 189 = .ok (.return_, 1) := by decide +kernel
theorem dX5_append_0 : decode cX5_append 0 = .ok (.aload_n 0, 1) := by decide +kernel
theorem dX5_append_1 : decode cX5_append 1 = .ok (.getfield 35, 3) := by decide +kernel
theorem dX5_append_4 : decode cX5_append 4 = .ok (.getfield 60, 3) := by decide +kernel
theorem dX5_append_7 : decode cX5_append 7 = .ok (.sipush 680, 3) := by decide +kernel
theorem dX5_append_10 : decode cX5_append 10 = .ok (.if_icmp .le 5, 3) := by decide +kernel
theorem dX5_append_13 : decode cX5_append 13 = .ok (.iconst (-1), 1) := by decide +kernel
theorem dX5_append_14 : decode cX5_append 14 = .ok (.ireturn, 1) := by decide +kernel
theorem dX5_append_15 : decode cX5_append 15 = .ok (.aload_n 0, 1) := by decide +kernel
theorem dX5_append_16 : decode cX5_append 16 = .ok (.getfield 35, 3) := by decide +kernel
theorem dX5_append_19 : decode cX5_append 19 = .ok (.iload_n 1, 1) := by decide +kernel
theorem dX5_append_20 : decode cX5_append 20 = .ok (.invokevirtual 64, 3) := by decide +kernel
theorem dX5_append_23 : decode cX5_append 23 = .ok (.aload_n 0, 1) := by decide +kernel
theorem dX5_append_24 : decode cX5_append 24 = .ok (.getfield 35, 3) := by decide +kernel
theorem dX5_append_27 : decode cX5_append 27 = .ok (.iload_n 2, 1) := by decide +kernel
theorem dX5_append_28 : decode cX5_append 28 = .ok (.invokevirtual 64, 3) := by decide +kernel
theorem dX5_append_31 : decode cX5_append 31 = .ok (.aload_n 0, 1) := by decide +kernel
theorem dX5_append_32 : decode cX5_append 32 = .ok (.getfield 35, 3) := by decide +kernel
theorem dX5_append_35 : decode cX5_append 35 = .ok (.iload_n 3, 1) := by decide +kernel
theorem dX5_append_36 : decode cX5_append 36 = .ok (.invokevirtual 64, 3) := by decide +kernel
theorem dX5_append_39 : decode cX5_append 39 = .ok (.aload_n 0, 1) := by decide +kernel
theorem dX5_append_40 : decode cX5_append 40 = .ok (.getfield 35, 3) := by decide +kernel
theorem dX5_append_43 : decode cX5_append 43 = .ok (.iload 4, 2) := by decide +kernel
theorem dX5_append_45 : decode cX5_append 45 = .ok (.invokevirtual 64, 3) := by decide +kernel
theorem dX5_append_48 : decode cX5_append 48 = .ok (.aload_n 0, 1) := by decide +kernel
theorem dX5_append_49 : decode cX5_append 49 = .ok (.getfield 35, 3) := by decide +kernel
theorem dX5_append_52 : decode cX5_append 52 = .ok (.iload 5, 2) := by decide +kernel
theorem dX5_append_54 : decode cX5_append 54 = .ok (.invokevirtual 64, 3) := by decide +kernel
theorem dX5_append_57 : decode cX5_append 57 = .ok (.aload_n 0, 1) := by decide +kernel
theorem dX5_append_58 : decode cX5_append 58 = .ok (.getfield 35, 3) := by decide +kernel
theorem dX5_append_61 : decode cX5_append 61 = .ok (.getfield 60, 3) := by decide +kernel
theorem dX5_append_64 : decode cX5_append 64 = .ok (.ireturn, 1) := by decide +kernel
theorem dX5_truncateInput_0 : decode cX5_truncateInput 0 = .ok (.iload_n 1, 1) := by decide +kernel
theorem dX5_truncateInput_1 : decode cX5_truncateInput 1 = .ok (.ifCond .lt 14, 3) := by decide +kernel
theorem dX5_truncateInput_4 : decode cX5_truncateInput 4 = .ok (.iload_n 1, 1) := by decide +kernel
theorem dX5_truncateInput_5 : decode cX5_truncateInput 5 = .ok (.aload_n 0, 1) := by decide +kernel
theorem dX5_truncateInput_6 : decode cX5_truncateInput 6 = .ok (.getfield 35, 3) := by decide +kernel
theorem dX5_truncateInput_9 : decode cX5_truncateInput 9 = .ok (.getfield 60, 3) := by decide +kernel
theorem dX5_truncateInput_12 : decode cX5_truncateInput 12 = .ok (.if_icmp .le 13, 3) := by decide +kernel
theorem dX5_truncateInput_15 : decode cX5_truncateInput 15 = .ok (.new 67, 3) := by decide +kernel
theorem dX5_truncateInput_18 : decode cX5_truncateInput 18 = .ok (.dup, 1) := by decide +kernel
theorem dX5_truncateInput_19 : decode cX5_truncateInput 19 = .ok (.ldc 69, 2) := by decide +kernel
theorem dX5_truncateInput_21 : decode cX5_truncateInput 21 = .ok (.invokespecial 71, 3) := by decide +kernel
theorem dX5_truncateInput_24 : decode cX5_truncateInput 24 = .ok (.athrow, 1) := by decide +kernel
theorem dX5_truncateInput_25 : decode cX5_truncateInput 25 = .ok (.aload_n 0, 1) := by decide +kernel
theorem dX5_truncateInput_26 : decode cX5_truncateInput 26 = .ok (.getfield 35, 3) := by decide +kernel
theorem dX5_truncateInput_29 : decode cX5_truncateInput 29 = .ok (.iload_n 1, 1) := by decide +kernel
theorem dX5_truncateInput_30 : decode cX5_truncateInput 30 = .ok (.putfield 60, 3) := by decide +kernel
theorem dX5_truncateInput_33 : decode cX5_truncateInput 33 = .ok (.iload_n 1, 1) := by decide +kernel
theorem dX5_truncateInput_34 : decode cX5_truncateInput 34 = .ok (.ireturn, 1) := by decide +kernel
theorem dX5_discardOldestChange_0 : decode cX5_discardOldestChange 0 = .ok (.aload_n 0, 1) := by decide +kernel
theorem dX5_discardOldestChange_1 : decode cX5_discardOldestChange 1 = .ok (.getfield 19, 3) := by decide +kernel
theorem dX5_discardOldestChange_4 : decode cX5_discardOldestChange 4 = .ok (.iconst 0, 1) := by decide +kernel
theorem dX5_discardOldestChange_5 : decode cX5_discardOldestChange 5 = .ok (.aaload, 1) := by decide +kernel
theorem dX5_discardOldestChange_6 : decode cX5_discardOldestChange 6 = .ok (.astore_n 1, 1) := by decide +kernel
theorem dX5_discardOldestChange_7 : decode cX5_discardOldestChange 7 = .ok (.iconst 1, 1) := by decide +kernel
theorem dX5_discardOldestChange_8 : decode cX5_discardOldestChange 8 = .ok (.istore_n 2, 1) := by decide +kernel
theorem dX5_discardOldestChange_9 : decode cX5_discardOldestChange 9 = .ok (.iload_n 2, 1) := by decide +kernel
theorem dX5_discardOldestChange_10 : decode cX5_discardOldestChange 10 = .ok (.bipush 8, 2) := by decide +kernel
theorem dX5_discardOldestChange_12 : decode cX5_discardOldestChange 12 = .ok (.if_icmp .ge 23, 3) := by decide +kernel
theorem dX5_discardOldestChange_15 : decode cX5_discardOldestChange 15 = .ok (.aload_n 0, 1) := by decide +kernel
theorem dX5_discardOldestChange_16 : decode cX5_discardOldestChange 16 = .ok (.getfield 19, 3) := by decide +kernel
theorem dX5_discardOldestChange_19 : decode cX5_discardOldestChange 19 = .ok (.iload_n 2, 1) := by decide +kernel
theorem dX5_discardOldestChange_20 : decode cX5_discardOldestChange 20 = .ok (.iconst 1, 1) := by decide +kernel
theorem dX5_discardOldestChange_21 : decode cX5_discardOldestChange 21 = .ok (.isub, 1) := by decide +kernel
theorem dX5_discardOldestChange_22 : decode cX5_discardOldestChange 22 = .ok (.aload_n 0, 1) := by decide +kernel
theorem dX5_discardOldestChange_23 : decode cX5_discardOldestChange 23 = .ok (.getfield 19, 3) := by decide +kernel
theorem dX5_discardOldestChange_26 : decode cX5_discardOldestChange 26 = .ok (.iload_n 2, 1) := by decide +kernel
theorem dX5_discardOldestChange_27 : decode cX5_discardOldestChange 27 = .ok (.aaload, 1) := by decide +kernel
theorem dX5_discardOldestChange_28 : decode cX5_discardOldestChange 28 = .ok (.aastore, 1) := by decide +kernel
theorem dX5_discardOldestChange_29 : decode cX5_discardOldestChange 29 = .ok (.iinc 2 1, 3) := by decide +kernel
theorem dX5_discardOldestChange_32 : decode cX5_discardOldestChange 32 = .ok (.goto (-23), 3) := by decide +kernel
theorem dX5_discardOldestChange_35 : decode cX5_discardOldestChange 35 = .ok (.aload_n 0, 1) := by decide +kernel
theorem dX5_discardOldestChange_36 : decode cX5_discardOldestChange 36 = .ok (.getfield 19, 3) := by decide +kernel
theorem dX5_discardOldestChange_39 : decode cX5_discardOldestChange 39 = .ok (.bipush 7, 2) := by decide +kernel
theorem dX5_discardOldestChange_41 : decode cX5_discardOldestChange 41 = .ok (.aload_n 1, 1) := by decide +kernel
theorem dX5_discardOldestChange_42 : decode cX5_discardOldestChange 42 = .ok (.aastore, 1) := by decide +kernel
theorem dX5_discardOldestChange_43 : decode cX5_discardOldestChange 43 = .ok (.aload_n 0, 1) := by decide +kernel
theorem dX5_discardOldestChange_44 : decode cX5_discardOldestChange 44 = .ok (.bipush 7, 2) := by decide +kernel
theorem dX5_discardOldestChange_46 : decode cX5_discardOldestChange 46 = .ok (.putfield 192, 3) := by decide +kernel
theorem dX5_discardOldestChange_49 : decode cX5_discardOldestChange 49 = .ok (.return_, 1) := by decide +kernel
theorem dX5_keepForUndo_0 : decode cX5_keepForUndo 0 = .ok (.aload_n 0, 1) := by decide +kernel
theorem dX5_keepForUndo_1 : decode cX5_keepForUndo 1 = .ok (.getfield 192, 3) := by decide +kernel
theorem dX5_keepForUndo_4 : decode cX5_keepForUndo 4 = .ok (.bipush 8, 2) := by decide +kernel
theorem dX5_keepForUndo_6 : decode cX5_keepForUndo 6 = .ok (.if_icmp .ne 7, 3) := by decide +kernel
theorem dX5_keepForUndo_9 : decode cX5_keepForUndo 9 = .ok (.aload_n 0, 1) := by decide +kernel
theorem dX5_keepForUndo_10 : decode cX5_keepForUndo 10 = .ok (.invokevirtual 364, 3) := by decide +kernel
theorem dX5_keepForUndo_13 : decode cX5_keepForUndo 13 = .ok (.aload_n 0, 1) := by decide +kernel
theorem dX5_keepForUndo_14 : decode cX5_keepForUndo 14 = .ok (.getfield 19, 3) := by decide +kernel
theorem dX5_keepForUndo_17 : decode cX5_keepForUndo 17 = .ok (.aload_n 0, 1) := by decide +kernel
theorem dX5_keepForUndo_18 : decode cX5_keepForUndo 18 = .ok (.getfield 192, 3) := by decide +kernel
theorem dX5_keepForUndo_21 : decode cX5_keepForUndo 21 = .ok (.aaload, 1) := by decide +kernel
theorem dX5_keepForUndo_22 : decode cX5_keepForUndo 22 = .ok (.aload_n 0, 1) := by decide +kernel
theorem dX5_keepForUndo_23 : decode cX5_keepForUndo 23 = .ok (.getfield 10, 3) := by decide +kernel
theorem dX5_keepForUndo_26 : decode cX5_keepForUndo 26 = .ok (.invokevirtual 97, 3) := by decide +kernel
theorem dX5_keepForUndo_29 : decode cX5_keepForUndo 29 = .ok (.aload_n 0, 1) := by decide +kernel
theorem dX5_keepForUndo_30 : decode cX5_keepForUndo 30 = .ok (.dup, 1) := by decide +kernel
theorem dX5_keepForUndo_31 : decode cX5_keepForUndo 31 = .ok (.getfield 192, 3) := by decide +kernel
theorem dX5_keepForUndo_34 : decode cX5_keepForUndo 34 = .ok (.iconst 1, 1) := by decide +kernel
theorem dX5_keepForUndo_35 : decode cX5_keepForUndo 35 = .ok (.iadd, 1) := by decide +kernel
theorem dX5_keepForUndo_36 : decode cX5_keepForUndo 36 = .ok (.putfield 192, 3) := by decide +kernel
theorem dX5_keepForUndo_39 : decode cX5_keepForUndo 39 = .ok (.return_, 1) := by decide +kernel
theorem dX5_endParsing_0 : decode cX5_endParsing 0 = .ok (.aload_n 0, 1) := by decide +kernel
theorem dX5_endParsing_1 : decode cX5_endParsing 1 = .ok (.getfield 35, 3) := by decide +kernel
theorem dX5_endParsing_4 : decode cX5_endParsing 4 = .ok (.iconst 0, 1) := by decide +kernel
theorem dX5_endParsing_5 : decode cX5_endParsing 5 = .ok (.putfield 60, 3) := by decide +kernel
theorem dX5_endParsing_8 : decode cX5_endParsing 8 = .ok (.aload_n 0, 1) := by decide +kernel
theorem dX5_endParsing_9 : decode cX5_endParsing 9 = .ok (.getfield 35, 3) := by decide +kernel
theorem dX5_endParsing_12 : decode cX5_endParsing 12 = .ok (.getfield 100, 3) := by decide +kernel
theorem dX5_endParsing_15 : decode cX5_endParsing 15 = .ok (.ifCond .eq 5, 3) := by decide +kernel
theorem dX5_endParsing_18 : decode cX5_endParsing 18 = .ok (.iconst (-1), 1) := by decide +kernel
theorem dX5_endParsing_19 : decode cX5_endParsing 19 = .ok (.ireturn, 1) := by decide +kernel
theorem dX5_endParsing_20 : decode cX5_endParsing 20 = .ok (.aload_n 0, 1) := by decide +kernel
theorem dX5_endParsing_21 : decode cX5_endParsing 21 = .ok (.invokevirtual 122, 3) := by decide +kernel
theorem dX5_endParsing_24 : decode cX5_endParsing 24 = .ok (.aload_n 0, 1) := by decide +kernel
theorem dX5_endParsing_25 : decode cX5_endParsing 25 = .ok (.getfield 10, 3) := by decide +kernel
theorem dX5_endParsing_28 : decode cX5_endParsing 28 = .ok (.aload_n 0, 1) := by decide +kernel
theorem dX5_endParsing_29 : decode cX5_endParsing 29 = .ok (.getfield 16, 3) := by decide +kernel
theorem dX5_endParsing_32 : decode cX5_endParsing 32 = .ok (.invokevirtual 97, 3) := by decide +kernel
theorem dX5_endParsing_35 : decode cX5_endParsing 35 = .ok (.iload_n 1, 1) := by decide +kernel
theorem dX5_endParsing_36 : decode cX5_endParsing 36 = .ok (.ireturn, 1) := by decide +kernel
theorem dX5_load_0 : decode cX5_load 0 = .ok (.aload_n 0, 1) := by decide +kernel
theorem dX5_load_1 : decode cX5_load 1 = .ok (.getfield 16, 3) := by decide +kernel
theorem dX5_load_4 : decode cX5_load 4 = .ok (.invokevirtual 74, 3) := by decide +kernel
theorem dX5_load_7 : decode cX5_load 7 = .ok (.aload_n 0, 1) := by decide +kernel
theorem dX5_load_8 : decode cX5_load 8 = .ok (.getfield 35, 3) := by decide +kernel
theorem dX5_load_11 : decode cX5_load 11 = .ok (.invokevirtual 77, 3) := by decide +kernel
theorem dX5_load_14 : decode cX5_load 14 = .ok (.aload_n 0, 1) := by decide +kernel
theorem dX5_load_15 : decode cX5_load 15 = .ok (.getfield 35, 3) := by decide +kernel
theorem dX5_load_18 : decode cX5_load 18 = .ok (.invokevirtual 80, 3) := by decide +kernel
theorem dX5_load_21 : decode cX5_load 21 = .ok (.aload_n 0, 1) := by decide +kernel
theorem dX5_load_22 : decode cX5_load 22 = .ok (.getfield 35, 3) := by decide +kernel
theorem dX5_load_25 : decode cX5_load 25 = .ok (.invokevirtual 83, 3) := by decide +kernel
theorem dX5_load_28 : decode cX5_load 28 = .ok (.aload_n 0, 1) := by decide +kernel
theorem dX5_load_29 : decode cX5_load 29 = .ok (.getfield 35, 3) := by decide +kernel
theorem dX5_load_32 : decode cX5_load 32 = .ok (.invokevirtual 86, 3) := by decide +kernel
theorem dX5_load_35 : decode cX5_load 35 = .ok (.pop, 1) := by decide +kernel
theorem dX5_load_36 : decode cX5_load 36 = .ok (.aload_n 0, 1) := by decide +kernel
theorem dX5_load_37 : decode cX5_load 37 = .ok (.aload_n 0, 1) := by decide +kernel
theorem dX5_load_38 : decode cX5_load 38 = .ok (.getfield 16, 3) := by decide +kernel
theorem dX5_load_41 : decode cX5_load 41 = .ok (.getfield 90, 3) := by decide +kernel
theorem dX5_load_44 : decode cX5_load 44 = .ok (.invokevirtual 93, 3) := by decide +kernel
theorem dX5_load_47 : decode cX5_load 47 = .ok (.ireturn, 1) := by decide +kernel
theorem dX5_requirePassenger_0 : decode cX5_requirePassenger 0 = .ok (.iload_n 1, 1) := by decide +kernel
theorem dX5_requirePassenger_1 : decode cX5_requirePassenger 1 = .ok (.ifCond .lt 14, 3) := by decide +kernel
theorem dX5_requirePassenger_4 : decode cX5_requirePassenger 4 = .ok (.iload_n 1, 1) := by decide +kernel
theorem dX5_requirePassenger_5 : decode cX5_requirePassenger 5 = .ok (.aload_n 0, 1) := by decide +kernel
theorem dX5_requirePassenger_6 : decode cX5_requirePassenger 6 = .ok (.getfield 10, 3) := by decide +kernel
theorem dX5_requirePassenger_9 : decode cX5_requirePassenger 9 = .ok (.getfield 90, 3) := by decide +kernel
theorem dX5_requirePassenger_12 : decode cX5_requirePassenger 12 = .ok (.if_icmp .lt 14, 3) := by decide +kernel
theorem dX5_requirePassenger_15 : decode cX5_requirePassenger 15 = .ok (.new 367, 3) := by decide +kernel
theorem dX5_requirePassenger_18 : decode cX5_requirePassenger 18 = .ok (.dup, 1) := by decide +kernel
theorem dX5_requirePassenger_19 : decode cX5_requirePassenger 19 = .ok (.ldc_w 369, 3) := by decide +kernel
theorem dX5_requirePassenger_22 : decode cX5_requirePassenger 22 = .ok (.invokespecial 371, 3) := by decide +kernel
theorem dX5_requirePassenger_25 : decode cX5_requirePassenger 25 = .ok (.athrow, 1) := by decide +kernel
theorem dX5_requirePassenger_26 : decode cX5_requirePassenger 26 = .ok (.return_, 1) := by decide +kernel
theorem dX5_buy_0 : decode cX5_buy 0 = .ok (.aload_n 0, 1) := by decide +kernel
theorem dX5_buy_1 : decode cX5_buy 1 = .ok (.iload_n 1, 1) := by decide +kernel
theorem dX5_buy_2 : decode cX5_buy 2 = .ok (.invokevirtual 106, 3) := by decide +kernel
theorem dX5_buy_5 : decode cX5_buy 5 = .ok (.iload_n 2, 1) := by decide +kernel
theorem dX5_buy_6 : decode cX5_buy 6 = .ok (.ifCond .lt 8, 3) := by decide +kernel
theorem dX5_buy_9 : decode cX5_buy 9 = .ok (.iload_n 2, 1) := by decide +kernel
theorem dX5_buy_10 : decode cX5_buy 10 = .ok (.iconst 2, 1) := by decide +kernel
theorem dX5_buy_11 : decode cX5_buy 11 = .ok (.if_icmp .le 13, 3) := by decide +kernel
theorem dX5_buy_14 : decode cX5_buy 14 = .ok (.new 67, 3) := by decide +kernel
theorem dX5_buy_17 : decode cX5_buy 17 = .ok (.dup, 1) := by decide +kernel
theorem dX5_buy_18 : decode cX5_buy 18 = .ok (.ldc 109, 2) := by decide +kernel
theorem dX5_buy_20 : decode cX5_buy 20 = .ok (.invokespecial 71, 3) := by decide +kernel
theorem dX5_buy_23 : decode cX5_buy 23 = .ok (.athrow, 1) := by decide +kernel
theorem dX5_buy_24 : decode cX5_buy 24 = .ok (.iload_n 3, 1) := by decide +kernel
theorem dX5_buy_25 : decode cX5_buy 25 = .ok (.iconst 1, 1) := by decide +kernel
theorem dX5_buy_26 : decode cX5_buy 26 = .ok (.if_icmp .lt 9, 3) := by decide +kernel
theorem dX5_buy_29 : decode cX5_buy 29 = .ok (.iload_n 3, 1) := by decide +kernel
theorem dX5_buy_30 : decode cX5_buy 30 = .ok (.bipush 15, 2) := by decide +kernel
theorem dX5_buy_32 : decode cX5_buy 32 = .ok (.if_icmp .le 13, 3) := by decide +kernel
theorem dX5_buy_35 : decode cX5_buy 35 = .ok (.new 67, 3) := by decide +kernel
theorem dX5_buy_38 : decode cX5_buy 38 = .ok (.dup, 1) := by decide +kernel
theorem dX5_buy_39 : decode cX5_buy 39 = .ok (.ldc 111, 2) := by decide +kernel
theorem dX5_buy_41 : decode cX5_buy 41 = .ok (.invokespecial 71, 3) := by decide +kernel
theorem dX5_buy_44 : decode cX5_buy 44 = .ok (.athrow, 1) := by decide +kernel
theorem dX5_buy_45 : decode cX5_buy 45 = .ok (.aload_n 0, 1) := by decide +kernel
theorem dX5_buy_46 : decode cX5_buy 46 = .ok (.getfield 10, 3) := by decide +kernel
theorem dX5_buy_49 : decode cX5_buy 49 = .ok (.iload_n 1, 1) := by decide +kernel
theorem dX5_buy_50 : decode cX5_buy 50 = .ok (.iload_n 2, 1) := by decide +kernel
theorem dX5_buy_51 : decode cX5_buy 51 = .ok (.iload_n 3, 1) := by decide +kernel
theorem dX5_buy_52 : decode cX5_buy 52 = .ok (.invokevirtual 113, 3) := by decide +kernel
theorem dX5_buy_55 : decode cX5_buy 55 = .ok (.ifCond .ne 13, 3) := by decide +kernel
theorem dX5_buy_58 : decode cX5_buy 58 = .ok (.new 117, 3) := by decide +kernel
theorem dX5_buy_61 : decode cX5_buy 61 = .ok (.dup, 1) := by decide +kernel
theorem dX5_buy_62 : decode cX5_buy 62 = .ok (.ldc 119, 2) := by decide +kernel
theorem dX5_buy_64 : decode cX5_buy 64 = .ok (.invokespecial 121, 3) := by decide +kernel
theorem dX5_buy_67 : decode cX5_buy 67 = .ok (.athrow, 1) := by decide +kernel
theorem dX5_buy_68 : decode cX5_buy 68 = .ok (.aload_n 0, 1) := by decide +kernel
theorem dX5_buy_69 : decode cX5_buy 69 = .ok (.invokevirtual 122, 3) := by decide +kernel
theorem dX5_buy_72 : decode cX5_buy 72 = .ok (.aload_n 0, 1) := by decide +kernel
theorem dX5_buy_73 : decode cX5_buy 73 = .ok (.getfield 10, 3) := by decide +kernel
theorem dX5_buy_76 : decode cX5_buy 76 = .ok (.iload_n 1, 1) := by decide +kernel
theorem dX5_buy_77 : decode cX5_buy 77 = .ok (.iload_n 2, 1) := by decide +kernel
theorem dX5_buy_78 : decode cX5_buy 78 = .ok (.iload_n 3, 1) := by decide +kernel
theorem dX5_buy_79 : decode cX5_buy 79 = .ok (.invokevirtual 125, 3) := by decide +kernel
theorem dX5_buy_82 : decode cX5_buy 82 = .ok (.ireturn, 1) := by decide +kernel
theorem dX5_requireStop_0 : decode cX5_requireStop 0 = .ok (.iload_n 1, 1) := by decide +kernel
theorem dX5_requireStop_1 : decode cX5_requireStop 1 = .ok (.ifCond .lt 14, 3) := by decide +kernel
theorem dX5_requireStop_4 : decode cX5_requireStop 4 = .ok (.iload_n 1, 1) := by decide +kernel
theorem dX5_requireStop_5 : decode cX5_requireStop 5 = .ok (.aload_n 0, 1) := by decide +kernel
theorem dX5_requireStop_6 : decode cX5_requireStop 6 = .ok (.getfield 10, 3) := by decide +kernel
theorem dX5_requireStop_9 : decode cX5_requireStop 9 = .ok (.getfield 205, 3) := by decide +kernel
theorem dX5_requireStop_12 : decode cX5_requireStop 12 = .ok (.if_icmp .lt 14, 3) := by decide +kernel
theorem dX5_requireStop_15 : decode cX5_requireStop 15 = .ok (.new 367, 3) := by decide +kernel
theorem dX5_requireStop_18 : decode cX5_requireStop 18 = .ok (.dup, 1) := by decide +kernel
theorem dX5_requireStop_19 : decode cX5_requireStop 19 = .ok (.ldc_w 372, 3) := by decide +kernel
theorem dX5_requireStop_22 : decode cX5_requireStop 22 = .ok (.invokespecial 371, 3) := by decide +kernel
theorem dX5_requireStop_25 : decode cX5_requireStop 25 = .ok (.athrow, 1) := by decide +kernel
theorem dX5_requireStop_26 : decode cX5_requireStop 26 = .ok (.return_, 1) := by decide +kernel
theorem dX5_requireTicket_0 : decode cX5_requireTicket 0 = .ok (.iload_n 1, 1) := by decide +kernel
theorem dX5_requireTicket_1 : decode cX5_requireTicket 1 = .ok (.ifCond .lt 14, 3) := by decide +kernel
theorem dX5_requireTicket_4 : decode cX5_requireTicket 4 = .ok (.iload_n 1, 1) := by decide +kernel
theorem dX5_requireTicket_5 : decode cX5_requireTicket 5 = .ok (.aload_n 0, 1) := by decide +kernel
theorem dX5_requireTicket_6 : decode cX5_requireTicket 6 = .ok (.getfield 10, 3) := by decide +kernel
theorem dX5_requireTicket_9 : decode cX5_requireTicket 9 = .ok (.getfield 208, 3) := by decide +kernel
theorem dX5_requireTicket_12 : decode cX5_requireTicket 12 = .ok (.if_icmp .lt 14, 3) := by decide +kernel
theorem dX5_requireTicket_15 : decode cX5_requireTicket 15 = .ok (.new 367, 3) := by decide +kernel
theorem dX5_requireTicket_18 : decode cX5_requireTicket 18 = .ok (.dup, 1) := by decide +kernel
theorem dX5_requireTicket_19 : decode cX5_requireTicket 19 = .ok (.ldc_w 374, 3) := by decide +kernel
theorem dX5_requireTicket_22 : decode cX5_requireTicket 22 = .ok (.invokespecial 371, 3) := by decide +kernel
theorem dX5_requireTicket_25 : decode cX5_requireTicket 25 = .ok (.athrow, 1) := by decide +kernel
theorem dX5_requireTicket_26 : decode cX5_requireTicket 26 = .ok (.return_, 1) := by decide +kernel
theorem dX5_ride_0 : decode cX5_ride 0 = .ok (.aload_n 0, 1) := by decide +kernel
theorem dX5_ride_1 : decode cX5_ride 1 = .ok (.iload_n 1, 1) := by decide +kernel
theorem dX5_ride_2 : decode cX5_ride 2 = .ok (.invokevirtual 106, 3) := by decide +kernel
theorem dX5_ride_5 : decode cX5_ride 5 = .ok (.aload_n 0, 1) := by decide +kernel
theorem dX5_ride_6 : decode cX5_ride 6 = .ok (.iload_n 2, 1) := by decide +kernel
theorem dX5_ride_7 : decode cX5_ride 7 = .ok (.invokevirtual 129, 3) := by decide +kernel
theorem dX5_ride_10 : decode cX5_ride 10 = .ok (.aload_n 0, 1) := by decide +kernel
theorem dX5_ride_11 : decode cX5_ride 11 = .ok (.iload_n 3, 1) := by decide +kernel
theorem dX5_ride_12 : decode cX5_ride 12 = .ok (.invokevirtual 129, 3) := by decide +kernel
theorem dX5_ride_15 : decode cX5_ride 15 = .ok (.iload 4, 2) := by decide +kernel
theorem dX5_ride_17 : decode cX5_ride 17 = .ok (.iconst (-1), 1) := by decide +kernel
theorem dX5_ride_18 : decode cX5_ride 18 = .ok (.if_icmp .eq 9, 3) := by decide +kernel
theorem dX5_ride_21 : decode cX5_ride 21 = .ok (.aload_n 0, 1) := by decide +kernel
theorem dX5_ride_22 : decode cX5_ride 22 = .ok (.iload 4, 2) := by decide +kernel
theorem dX5_ride_24 : decode cX5_ride 24 = .ok (.invokevirtual 132, 3) := by decide +kernel
theorem dX5_ride_27 : decode cX5_ride 27 = .ok (.iload_n 3, 1) := by decide +kernel
theorem dX5_ride_28 : decode cX5_ride 28 = .ok (.iload_n 2, 1) := by decide +kernel
theorem dX5_ride_29 : decode cX5_ride 29 = .ok (.if_icmp .ne 13, 3) := by decide +kernel
theorem dX5_ride_32 : decode cX5_ride 32 = .ok (.new 67, 3) := by decide +kernel
theorem dX5_ride_35 : decode cX5_ride 35 = .ok (.dup, 1) := by decide +kernel
theorem dX5_ride_36 : decode cX5_ride 36 = .ok (.ldc 135, 2) := by decide +kernel
theorem dX5_ride_38 : decode cX5_ride 38 = .ok (.invokespecial 71, 3) := by decide +kernel
theorem dX5_ride_41 : decode cX5_ride 41 = .ok (.athrow, 1) := by decide +kernel
theorem dX5_ride_42 : decode cX5_ride 42 = .ok (.aload_n 0, 1) := by decide +kernel
theorem dX5_ride_43 : decode cX5_ride 43 = .ok (.getfield 10, 3) := by decide +kernel
theorem dX5_ride_46 : decode cX5_ride 46 = .ok (.iload_n 1, 1) := by decide +kernel
theorem dX5_ride_47 : decode cX5_ride 47 = .ok (.iload 4, 2) := by decide +kernel
theorem dX5_ride_49 : decode cX5_ride 49 = .ok (.invokevirtual 137, 3) := by decide +kernel
theorem dX5_ride_52 : decode cX5_ride 52 = .ok (.ifCond .ne 13, 3) := by decide +kernel
theorem dX5_ride_55 : decode cX5_ride 55 = .ok (.new 117, 3) := by decide +kernel
theorem dX5_ride_58 : decode cX5_ride 58 = .ok (.dup, 1) := by decide +kernel
theorem dX5_ride_59 : decode cX5_ride 59 = .ok (.ldc 141, 2) := by decide +kernel
theorem dX5_ride_61 : decode cX5_ride 61 = .ok (.invokespecial 121, 3) := by decide +kernel
theorem dX5_ride_64 : decode cX5_ride 64 = .ok (.athrow, 1) := by decide +kernel
theorem dX5_ride_65 : decode cX5_ride 65 = .ok (.aload_n 0, 1) := by decide +kernel
theorem dX5_ride_66 : decode cX5_ride 66 = .ok (.invokevirtual 122, 3) := by decide +kernel
theorem dX5_ride_69 : decode cX5_ride 69 = .ok (.aload_n 0, 1) := by decide +kernel
theorem dX5_ride_70 : decode cX5_ride 70 = .ok (.getfield 10, 3) := by decide +kernel
theorem dX5_ride_73 : decode cX5_ride 73 = .ok (.iload_n 1, 1) := by decide +kernel
theorem dX5_ride_74 : decode cX5_ride 74 = .ok (.iload_n 2, 1) := by decide +kernel
theorem dX5_ride_75 : decode cX5_ride 75 = .ok (.iload_n 3, 1) := by decide +kernel
theorem dX5_ride_76 : decode cX5_ride 76 = .ok (.iload 4, 2) := by decide +kernel
theorem dX5_ride_78 : decode cX5_ride 78 = .ok (.invokevirtual 143, 3) := by decide +kernel
theorem dX5_ride_81 : decode cX5_ride 81 = .ok (.ireturn, 1) := by decide +kernel
theorem dX5_inspect_0 : decode cX5_inspect 0 = .ok (.aload_n 0, 1) := by decide +kernel
theorem dX5_inspect_1 : decode cX5_inspect 1 = .ok (.iload_n 1, 1) := by decide +kernel
theorem dX5_inspect_2 : decode cX5_inspect 2 = .ok (.invokevirtual 106, 3) := by decide +kernel
theorem dX5_inspect_5 : decode cX5_inspect 5 = .ok (.aload_n 0, 1) := by decide +kernel
theorem dX5_inspect_6 : decode cX5_inspect 6 = .ok (.getfield 10, 3) := by decide +kernel
theorem dX5_inspect_9 : decode cX5_inspect 9 = .ok (.iload_n 1, 1) := by decide +kernel
theorem dX5_inspect_10 : decode cX5_inspect 10 = .ok (.invokevirtual 147, 3) := by decide +kernel
theorem dX5_inspect_13 : decode cX5_inspect 13 = .ok (.ifCond .ne 13, 3) := by decide +kernel
theorem dX5_inspect_16 : decode cX5_inspect 16 = .ok (.new 117, 3) := by decide +kernel
theorem dX5_inspect_19 : decode cX5_inspect 19 = .ok (.dup, 1) := by decide +kernel
theorem dX5_inspect_20 : decode cX5_inspect 20 = .ok (.ldc 151, 2) := by decide +kernel
theorem dX5_inspect_22 : decode cX5_inspect 22 = .ok (.invokespecial 121, 3) := by decide +kernel
theorem dX5_inspect_25 : decode cX5_inspect 25 = .ok (.athrow, 1) := by decide +kernel
theorem dX5_inspect_26 : decode cX5_inspect 26 = .ok (.aload_n 0, 1) := by decide +kernel
theorem dX5_inspect_27 : decode cX5_inspect 27 = .ok (.invokevirtual 122, 3) := by decide +kernel
theorem dX5_inspect_30 : decode cX5_inspect 30 = .ok (.aload_n 0, 1) := by decide +kernel
theorem dX5_inspect_31 : decode cX5_inspect 31 = .ok (.getfield 10, 3) := by decide +kernel
theorem dX5_inspect_34 : decode cX5_inspect 34 = .ok (.iload_n 1, 1) := by decide +kernel
theorem dX5_inspect_35 : decode cX5_inspect 35 = .ok (.invokevirtual 153, 3) := by decide +kernel
theorem dX5_inspect_38 : decode cX5_inspect 38 = .ok (.ireturn, 1) := by decide +kernel
theorem dX5_waitFor_0 : decode cX5_waitFor 0 = .ok (.iload_n 1, 1) := by decide +kernel
theorem dX5_waitFor_1 : decode cX5_waitFor 1 = .ok (.iconst 1, 1) := by decide +kernel
theorem dX5_waitFor_2 : decode cX5_waitFor 2 = .ok (.if_icmp .lt 10, 3) := by decide +kernel
theorem dX5_waitFor_5 : decode cX5_waitFor 5 = .ok (.iload_n 1, 1) := by decide +kernel
theorem dX5_waitFor_6 : decode cX5_waitFor 6 = .ok (.sipush 9999, 3) := by decide +kernel
theorem dX5_waitFor_9 : decode cX5_waitFor 9 = .ok (.if_icmp .le 13, 3) := by decide +kernel
theorem dX5_waitFor_12 : decode cX5_waitFor 12 = .ok (.new 67, 3) := by decide +kernel
theorem dX5_waitFor_15 : decode cX5_waitFor 15 = .ok (.dup, 1) := by decide +kernel
theorem dX5_waitFor_16 : decode cX5_waitFor 16 = .ok (.ldc 156, 2) := by decide +kernel
theorem dX5_waitFor_18 : decode cX5_waitFor 18 = .ok (.invokespecial 71, 3) := by decide +kernel
theorem dX5_waitFor_21 : decode cX5_waitFor 21 = .ok (.athrow, 1) := by decide +kernel
theorem dX5_waitFor_22 : decode cX5_waitFor 22 = .ok (.iload_n 1, 1) := by decide +kernel
theorem dX5_waitFor_23 : decode cX5_waitFor 23 = .ok (.ldc 158, 2) := by decide +kernel
theorem dX5_waitFor_25 : decode cX5_waitFor 25 = .ok (.aload_n 0, 1) := by decide +kernel
theorem dX5_waitFor_26 : decode cX5_waitFor 26 = .ok (.getfield 10, 3) := by decide +kernel
theorem dX5_waitFor_29 : decode cX5_waitFor 29 = .ok (.getfield 159, 3) := by decide +kernel
theorem dX5_waitFor_32 : decode cX5_waitFor 32 = .ok (.isub, 1) := by decide +kernel
theorem dX5_waitFor_33 : decode cX5_waitFor 33 = .ok (.if_icmp .le 13, 3) := by decide +kernel
theorem dX5_waitFor_36 : decode cX5_waitFor 36 = .ok (.new 117, 3) := by decide +kernel
theorem dX5_waitFor_39 : decode cX5_waitFor 39 = .ok (.dup, 1) := by decide +kernel
theorem dX5_waitFor_40 : decode cX5_waitFor 40 = .ok (.ldc 162, 2) := by decide +kernel
theorem dX5_waitFor_42 : decode cX5_waitFor 42 = .ok (.invokespecial 121, 3) := by decide +kernel
theorem dX5_waitFor_45 : decode cX5_waitFor 45 = .ok (.athrow, 1) := by decide +kernel
theorem dX5_waitFor_46 : decode cX5_waitFor 46 = .ok (.aload_n 0, 1) := by decide +kernel
theorem dX5_waitFor_47 : decode cX5_waitFor 47 = .ok (.invokevirtual 122, 3) := by decide +kernel
theorem dX5_waitFor_50 : decode cX5_waitFor 50 = .ok (.aload_n 0, 1) := by decide +kernel
theorem dX5_waitFor_51 : decode cX5_waitFor 51 = .ok (.getfield 10, 3) := by decide +kernel
theorem dX5_waitFor_54 : decode cX5_waitFor 54 = .ok (.dup, 1) := by decide +kernel
theorem dX5_waitFor_55 : decode cX5_waitFor 55 = .ok (.getfield 159, 3) := by decide +kernel
theorem dX5_waitFor_58 : decode cX5_waitFor 58 = .ok (.iload_n 1, 1) := by decide +kernel
theorem dX5_waitFor_59 : decode cX5_waitFor 59 = .ok (.iadd, 1) := by decide +kernel
theorem dX5_waitFor_60 : decode cX5_waitFor 60 = .ok (.putfield 159, 3) := by decide +kernel
theorem dX5_waitFor_63 : decode cX5_waitFor 63 = .ok (.aload_n 0, 1) := by decide +kernel
theorem dX5_waitFor_64 : decode cX5_waitFor 64 = .ok (.getfield 10, 3) := by decide +kernel
theorem dX5_waitFor_67 : decode cX5_waitFor 67 = .ok (.getfield 159, 3) := by decide +kernel
theorem dX5_waitFor_70 : decode cX5_waitFor 70 = .ok (.ireturn, 1) := by decide +kernel
theorem dX5_requireCase_0 : decode cX5_requireCase 0 = .ok (.iload_n 1, 1) := by decide +kernel
theorem dX5_requireCase_1 : decode cX5_requireCase 1 = .ok (.ifCond .lt 14, 3) := by decide +kernel
theorem dX5_requireCase_4 : decode cX5_requireCase 4 = .ok (.iload_n 1, 1) := by decide +kernel
theorem dX5_requireCase_5 : decode cX5_requireCase 5 = .ok (.aload_n 0, 1) := by decide +kernel
theorem dX5_requireCase_6 : decode cX5_requireCase 6 = .ok (.getfield 10, 3) := by decide +kernel
theorem dX5_requireCase_9 : decode cX5_requireCase 9 = .ok (.getfield 211, 3) := by decide +kernel
theorem dX5_requireCase_12 : decode cX5_requireCase 12 = .ok (.if_icmp .lt 14, 3) := by decide +kernel
theorem dX5_requireCase_15 : decode cX5_requireCase 15 = .ok (.new 367, 3) := by decide +kernel
theorem dX5_requireCase_18 : decode cX5_requireCase 18 = .ok (.dup, 1) := by decide +kernel
theorem dX5_requireCase_19 : decode cX5_requireCase 19 = .ok (.ldc_w 376, 3) := by decide +kernel
theorem dX5_requireCase_22 : decode cX5_requireCase 22 = .ok (.invokespecial 371, 3) := by decide +kernel
theorem dX5_requireCase_25 : decode cX5_requireCase 25 = .ok (.athrow, 1) := by decide +kernel
theorem dX5_requireCase_26 : decode cX5_requireCase 26 = .ok (.return_, 1) := by decide +kernel
theorem dX5_appeal_0 : decode cX5_appeal 0 = .ok (.aload_n 0, 1) := by decide +kernel
theorem dX5_appeal_1 : decode cX5_appeal 1 = .ok (.iload_n 1, 1) := by decide +kernel
theorem dX5_appeal_2 : decode cX5_appeal 2 = .ok (.invokevirtual 164, 3) := by decide +kernel
theorem dX5_appeal_5 : decode cX5_appeal 5 = .ok (.aload_n 0, 1) := by decide +kernel
theorem dX5_appeal_6 : decode cX5_appeal 6 = .ok (.iload_n 2, 1) := by decide +kernel
theorem dX5_appeal_7 : decode cX5_appeal 7 = .ok (.invokevirtual 132, 3) := by decide +kernel
theorem dX5_appeal_10 : decode cX5_appeal 10 = .ok (.aload_n 0, 1) := by decide +kernel
theorem dX5_appeal_11 : decode cX5_appeal 11 = .ok (.getfield 10, 3) := by decide +kernel
theorem dX5_appeal_14 : decode cX5_appeal 14 = .ok (.iload_n 1, 1) := by decide +kernel
theorem dX5_appeal_15 : decode cX5_appeal 15 = .ok (.invokevirtual 167, 3) := by decide +kernel
theorem dX5_appeal_18 : decode cX5_appeal 18 = .ok (.ifCond .ne 13, 3) := by decide +kernel
theorem dX5_appeal_21 : decode cX5_appeal 21 = .ok (.new 117, 3) := by decide +kernel
theorem dX5_appeal_24 : decode cX5_appeal 24 = .ok (.dup, 1) := by decide +kernel
theorem dX5_appeal_25 : decode cX5_appeal 25 = .ok (.ldc 170, 2) := by decide +kernel
theorem dX5_appeal_27 : decode cX5_appeal 27 = .ok (.invokespecial 121, 3) := by decide +kernel
theorem dX5_appeal_30 : decode cX5_appeal 30 = .ok (.athrow, 1) := by decide +kernel
theorem dX5_appeal_31 : decode cX5_appeal 31 = .ok (.aload_n 0, 1) := by decide +kernel
theorem dX5_appeal_32 : decode cX5_appeal 32 = .ok (.invokevirtual 122, 3) := by decide +kernel
theorem dX5_appeal_35 : decode cX5_appeal 35 = .ok (.aload_n 0, 1) := by decide +kernel
theorem dX5_appeal_36 : decode cX5_appeal 36 = .ok (.getfield 10, 3) := by decide +kernel
theorem dX5_appeal_39 : decode cX5_appeal 39 = .ok (.iload_n 1, 1) := by decide +kernel
theorem dX5_appeal_40 : decode cX5_appeal 40 = .ok (.iload_n 2, 1) := by decide +kernel
theorem dX5_appeal_41 : decode cX5_appeal 41 = .ok (.invokevirtual 172, 3) := by decide +kernel
theorem dX5_appeal_44 : decode cX5_appeal 44 = .ok (.ireturn, 1) := by decide +kernel
theorem dX5_decide_0 : decode cX5_decide 0 = .ok (.aload_n 0, 1) := by decide +kernel
theorem dX5_decide_1 : decode cX5_decide 1 = .ok (.iload_n 1, 1) := by decide +kernel
theorem dX5_decide_2 : decode cX5_decide 2 = .ok (.invokevirtual 164, 3) := by decide +kernel
theorem dX5_decide_5 : decode cX5_decide 5 = .ok (.aload_n 0, 1) := by decide +kernel
theorem dX5_decide_6 : decode cX5_decide 6 = .ok (.getfield 10, 3) := by decide +kernel
theorem dX5_decide_9 : decode cX5_decide 9 = .ok (.iload_n 1, 1) := by decide +kernel
theorem dX5_decide_10 : decode cX5_decide 10 = .ok (.invokevirtual 176, 3) := by decide +kernel
theorem dX5_decide_13 : decode cX5_decide 13 = .ok (.ifCond .ne 13, 3) := by decide +kernel
theorem dX5_decide_16 : decode cX5_decide 16 = .ok (.new 117, 3) := by decide +kernel
theorem dX5_decide_19 : decode cX5_decide 19 = .ok (.dup, 1) := by decide +kernel
theorem dX5_decide_20 : decode cX5_decide 20 = .ok (.ldc 179, 2) := by decide +kernel
theorem dX5_decide_22 : decode cX5_decide 22 = .ok (.invokespecial 121, 3) := by decide +kernel
theorem dX5_decide_25 : decode cX5_decide 25 = .ok (.athrow, 1) := by decide +kernel
theorem dX5_decide_26 : decode cX5_decide 26 = .ok (.aload_n 0, 1) := by decide +kernel
theorem dX5_decide_27 : decode cX5_decide 27 = .ok (.invokevirtual 122, 3) := by decide +kernel
theorem dX5_decide_30 : decode cX5_decide 30 = .ok (.aload_n 0, 1) := by decide +kernel
theorem dX5_decide_31 : decode cX5_decide 31 = .ok (.getfield 10, 3) := by decide +kernel
theorem dX5_decide_34 : decode cX5_decide 34 = .ok (.iload_n 1, 1) := by decide +kernel
theorem dX5_decide_35 : decode cX5_decide 35 = .ok (.invokevirtual 181, 3) := by decide +kernel
theorem dX5_decide_38 : decode cX5_decide 38 = .ok (.ireturn, 1) := by decide +kernel
theorem dX5_pay_0 : decode cX5_pay 0 = .ok (.aload_n 0, 1) := by decide +kernel
theorem dX5_pay_1 : decode cX5_pay 1 = .ok (.iload_n 1, 1) := by decide +kernel
theorem dX5_pay_2 : decode cX5_pay 2 = .ok (.invokevirtual 164, 3) := by decide +kernel
theorem dX5_pay_5 : decode cX5_pay 5 = .ok (.aload_n 0, 1) := by decide +kernel
theorem dX5_pay_6 : decode cX5_pay 6 = .ok (.getfield 10, 3) := by decide +kernel
theorem dX5_pay_9 : decode cX5_pay 9 = .ok (.iload_n 1, 1) := by decide +kernel
theorem dX5_pay_10 : decode cX5_pay 10 = .ok (.invokevirtual 184, 3) := by decide +kernel
theorem dX5_pay_13 : decode cX5_pay 13 = .ok (.ifCond .ne 13, 3) := by decide +kernel
theorem dX5_pay_16 : decode cX5_pay 16 = .ok (.new 117, 3) := by decide +kernel
theorem dX5_pay_19 : decode cX5_pay 19 = .ok (.dup, 1) := by decide +kernel
theorem dX5_pay_20 : decode cX5_pay 20 = .ok (.ldc 187, 2) := by decide +kernel
theorem dX5_pay_22 : decode cX5_pay 22 = .ok (.invokespecial 121, 3) := by decide +kernel
theorem dX5_pay_25 : decode cX5_pay 25 = .ok (.athrow, 1) := by decide +kernel
theorem dX5_pay_26 : decode cX5_pay 26 = .ok (.aload_n 0, 1) := by decide +kernel
theorem dX5_pay_27 : decode cX5_pay 27 = .ok (.invokevirtual 122, 3) := by decide +kernel
theorem dX5_pay_30 : decode cX5_pay 30 = .ok (.aload_n 0, 1) := by decide +kernel
theorem dX5_pay_31 : decode cX5_pay 31 = .ok (.getfield 10, 3) := by decide +kernel
theorem dX5_pay_34 : decode cX5_pay 34 = .ok (.iload_n 1, 1) := by decide +kernel
theorem dX5_pay_35 : decode cX5_pay 35 = .ok (.invokevirtual 189, 3) := by decide +kernel
theorem dX5_pay_38 : decode cX5_pay 38 = .ok (.ireturn, 1) := by decide +kernel
theorem dX5_undo_0 : decode cX5_undo 0 = .ok (.aload_n 0, 1) := by decide +kernel
theorem dX5_undo_1 : decode cX5_undo 1 = .ok (.getfield 192, 3) := by decide +kernel
theorem dX5_undo_4 : decode cX5_undo 4 = .ok (.iconst 1, 1) := by decide +kernel
theorem dX5_undo_5 : decode cX5_undo 5 = .ok (.if_icmp .ge 13, 3) := by decide +kernel
theorem dX5_undo_8 : decode cX5_undo 8 = .ok (.new 117, 3) := by decide +kernel
theorem dX5_undo_11 : decode cX5_undo 11 = .ok (.dup, 1) := by decide +kernel
theorem dX5_undo_12 : decode cX5_undo 12 = .ok (.ldc 195, 2) := by decide +kernel
theorem dX5_undo_14 : decode cX5_undo 14 = .ok (.invokespecial 121, 3) := by decide +kernel
theorem dX5_undo_17 : decode cX5_undo 17 = .ok (.athrow, 1) := by decide +kernel
theorem dX5_undo_18 : decode cX5_undo 18 = .ok (.aload_n 0, 1) := by decide +kernel
theorem dX5_undo_19 : decode cX5_undo 19 = .ok (.dup, 1) := by decide +kernel
theorem dX5_undo_20 : decode cX5_undo 20 = .ok (.getfield 192, 3) := by decide +kernel
theorem dX5_undo_23 : decode cX5_undo 23 = .ok (.iconst 1, 1) := by decide +kernel
theorem dX5_undo_24 : decode cX5_undo 24 = .ok (.isub, 1) := by decide +kernel
theorem dX5_undo_25 : decode cX5_undo 25 = .ok (.putfield 192, 3) := by decide +kernel
theorem dX5_undo_28 : decode cX5_undo 28 = .ok (.aload_n 0, 1) := by decide +kernel
theorem dX5_undo_29 : decode cX5_undo 29 = .ok (.getfield 10, 3) := by decide +kernel
theorem dX5_undo_32 : decode cX5_undo 32 = .ok (.aload_n 0, 1) := by decide +kernel
theorem dX5_undo_33 : decode cX5_undo 33 = .ok (.getfield 19, 3) := by decide +kernel
theorem dX5_undo_36 : decode cX5_undo 36 = .ok (.aload_n 0, 1) := by decide +kernel
theorem dX5_undo_37 : decode cX5_undo 37 = .ok (.getfield 192, 3) := by decide +kernel
theorem dX5_undo_40 : decode cX5_undo 40 = .ok (.aaload, 1) := by decide +kernel
theorem dX5_undo_41 : decode cX5_undo 41 = .ok (.invokevirtual 97, 3) := by decide +kernel
theorem dX5_undo_44 : decode cX5_undo 44 = .ok (.aload_n 0, 1) := by decide +kernel
theorem dX5_undo_45 : decode cX5_undo 45 = .ok (.getfield 192, 3) := by decide +kernel
theorem dX5_undo_48 : decode cX5_undo 48 = .ok (.ireturn, 1) := by decide +kernel
theorem dX5_clock_0 : decode cX5_clock 0 = .ok (.aload_n 0, 1) := by decide +kernel
theorem dX5_clock_1 : decode cX5_clock 1 = .ok (.getfield 10, 3) := by decide +kernel
theorem dX5_clock_4 : decode cX5_clock 4 = .ok (.getfield 159, 3) := by decide +kernel
theorem dX5_clock_7 : decode cX5_clock 7 = .ok (.ireturn, 1) := by decide +kernel
theorem dX5_stopCount_0 : decode cX5_stopCount 0 = .ok (.aload_n 0, 1) := by decide +kernel
theorem dX5_stopCount_1 : decode cX5_stopCount 1 = .ok (.getfield 10, 3) := by decide +kernel
theorem dX5_stopCount_4 : decode cX5_stopCount 4 = .ok (.getfield 205, 3) := by decide +kernel
theorem dX5_stopCount_7 : decode cX5_stopCount 7 = .ok (.ireturn, 1) := by decide +kernel
theorem dX5_passengerCount_0 : decode cX5_passengerCount 0 = .ok (.aload_n 0, 1) := by decide +kernel
theorem dX5_passengerCount_1 : decode cX5_passengerCount 1 = .ok (.getfield 10, 3) := by decide +kernel
theorem dX5_passengerCount_4 : decode cX5_passengerCount 4 = .ok (.getfield 90, 3) := by decide +kernel
theorem dX5_passengerCount_7 : decode cX5_passengerCount 7 = .ok (.ireturn, 1) := by decide +kernel
theorem dX5_ticketCount_0 : decode cX5_ticketCount 0 = .ok (.aload_n 0, 1) := by decide +kernel
theorem dX5_ticketCount_1 : decode cX5_ticketCount 1 = .ok (.getfield 10, 3) := by decide +kernel
theorem dX5_ticketCount_4 : decode cX5_ticketCount 4 = .ok (.getfield 208, 3) := by decide +kernel
theorem dX5_ticketCount_7 : decode cX5_ticketCount 7 = .ok (.ireturn, 1) := by decide +kernel
theorem dX5_caseCount_0 : decode cX5_caseCount 0 = .ok (.aload_n 0, 1) := by decide +kernel
theorem dX5_caseCount_1 : decode cX5_caseCount 1 = .ok (.getfield 10, 3) := by decide +kernel
theorem dX5_caseCount_4 : decode cX5_caseCount 4 = .ok (.getfield 211, 3) := by decide +kernel
theorem dX5_caseCount_7 : decode cX5_caseCount 7 = .ok (.ireturn, 1) := by decide +kernel
theorem dX5_undoableChanges_0 : decode cX5_undoableChanges 0 = .ok (.aload_n 0, 1) := by decide +kernel
theorem dX5_undoableChanges_1 : decode cX5_undoableChanges 1 = .ok (.getfield 192, 3) := by decide +kernel
theorem dX5_undoableChanges_4 : decode cX5_undoableChanges 4 = .ok (.ireturn, 1) := by decide +kernel
theorem dX5_zonesBetween_0 : decode cX5_zonesBetween 0 = .ok (.aload_n 0, 1) := by decide +kernel
theorem dX5_zonesBetween_1 : decode cX5_zonesBetween 1 = .ok (.iload_n 1, 1) := by decide +kernel
theorem dX5_zonesBetween_2 : decode cX5_zonesBetween 2 = .ok (.invokevirtual 129, 3) := by decide +kernel
theorem dX5_zonesBetween_5 : decode cX5_zonesBetween 5 = .ok (.aload_n 0, 1) := by decide +kernel
theorem dX5_zonesBetween_6 : decode cX5_zonesBetween 6 = .ok (.iload_n 2, 1) := by decide +kernel
theorem dX5_zonesBetween_7 : decode cX5_zonesBetween 7 = .ok (.invokevirtual 129, 3) := by decide +kernel
theorem dX5_zonesBetween_10 : decode cX5_zonesBetween 10 = .ok (.aload_n 0, 1) := by decide +kernel
theorem dX5_zonesBetween_11 : decode cX5_zonesBetween 11 = .ok (.getfield 10, 3) := by decide +kernel
theorem dX5_zonesBetween_14 : decode cX5_zonesBetween 14 = .ok (.iload_n 1, 1) := by decide +kernel
theorem dX5_zonesBetween_15 : decode cX5_zonesBetween 15 = .ok (.iload_n 2, 1) := by decide +kernel
theorem dX5_zonesBetween_16 : decode cX5_zonesBetween 16 = .ok (.invokevirtual 218, 3) := by decide +kernel
theorem dX5_zonesBetween_19 : decode cX5_zonesBetween 19 = .ok (.ireturn, 1) := by decide +kernel
theorem dX5_money_0 : decode cX5_money 0 = .ok (.aload_n 0, 1) := by decide +kernel
theorem dX5_money_1 : decode cX5_money 1 = .ok (.iload_n 1, 1) := by decide +kernel
theorem dX5_money_2 : decode cX5_money 2 = .ok (.invokevirtual 106, 3) := by decide +kernel
theorem dX5_money_5 : decode cX5_money 5 = .ok (.aload_n 0, 1) := by decide +kernel
theorem dX5_money_6 : decode cX5_money 6 = .ok (.getfield 10, 3) := by decide +kernel
theorem dX5_money_9 : decode cX5_money 9 = .ok (.getfield 221, 3) := by decide +kernel
theorem dX5_money_12 : decode cX5_money 12 = .ok (.iload_n 1, 1) := by decide +kernel
theorem dX5_money_13 : decode cX5_money 13 = .ok (.aaload, 1) := by decide +kernel
theorem dX5_money_14 : decode cX5_money 14 = .ok (.getfield 225, 3) := by decide +kernel
theorem dX5_money_17 : decode cX5_money 17 = .ok (.ireturn, 1) := by decide +kernel
theorem dX5_isRiding_0 : decode cX5_isRiding 0 = .ok (.aload_n 0, 1) := by decide +kernel
theorem dX5_isRiding_1 : decode cX5_isRiding 1 = .ok (.iload_n 1, 1) := by decide +kernel
theorem dX5_isRiding_2 : decode cX5_isRiding 2 = .ok (.invokevirtual 106, 3) := by decide +kernel
theorem dX5_isRiding_5 : decode cX5_isRiding 5 = .ok (.aload_n 0, 1) := by decide +kernel
theorem dX5_isRiding_6 : decode cX5_isRiding 6 = .ok (.getfield 10, 3) := by decide +kernel
theorem dX5_isRiding_9 : decode cX5_isRiding 9 = .ok (.getfield 221, 3) := by decide +kernel
theorem dX5_isRiding_12 : decode cX5_isRiding 12 = .ok (.iload_n 1, 1) := by decide +kernel
theorem dX5_isRiding_13 : decode cX5_isRiding 13 = .ok (.aaload, 1) := by decide +kernel
theorem dX5_isRiding_14 : decode cX5_isRiding 14 = .ok (.aload_n 0, 1) := by decide +kernel
theorem dX5_isRiding_15 : decode cX5_isRiding 15 = .ok (.getfield 10, 3) := by decide +kernel
theorem dX5_isRiding_18 : decode cX5_isRiding 18 = .ok (.getfield 159, 3) := by decide +kernel
theorem dX5_isRiding_21 : decode cX5_isRiding 21 = .ok (.invokevirtual 230, 3) := by decide +kernel
theorem dX5_isRiding_24 : decode cX5_isRiding 24 = .ok (.ireturn, 1) := by decide +kernel
theorem dX5_rideEnd_0 : decode cX5_rideEnd 0 = .ok (.aload_n 0, 1) := by decide +kernel
theorem dX5_rideEnd_1 : decode cX5_rideEnd 1 = .ok (.iload_n 1, 1) := by decide +kernel
theorem dX5_rideEnd_2 : decode cX5_rideEnd 2 = .ok (.invokevirtual 106, 3) := by decide +kernel
theorem dX5_rideEnd_5 : decode cX5_rideEnd 5 = .ok (.aload_n 0, 1) := by decide +kernel
theorem dX5_rideEnd_6 : decode cX5_rideEnd 6 = .ok (.getfield 10, 3) := by decide +kernel
theorem dX5_rideEnd_9 : decode cX5_rideEnd 9 = .ok (.getfield 221, 3) := by decide +kernel
theorem dX5_rideEnd_12 : decode cX5_rideEnd 12 = .ok (.iload_n 1, 1) := by decide +kernel
theorem dX5_rideEnd_13 : decode cX5_rideEnd 13 = .ok (.aaload, 1) := by decide +kernel
theorem dX5_rideEnd_14 : decode cX5_rideEnd 14 = .ok (.getfield 233, 3) := by decide +kernel
theorem dX5_rideEnd_17 : decode cX5_rideEnd 17 = .ok (.ireturn, 1) := by decide +kernel
theorem dX5_rideTicket_0 : decode cX5_rideTicket 0 = .ok (.aload_n 0, 1) := by decide +kernel
theorem dX5_rideTicket_1 : decode cX5_rideTicket 1 = .ok (.iload_n 1, 1) := by decide +kernel
theorem dX5_rideTicket_2 : decode cX5_rideTicket 2 = .ok (.invokevirtual 106, 3) := by decide +kernel
theorem dX5_rideTicket_5 : decode cX5_rideTicket 5 = .ok (.aload_n 0, 1) := by decide +kernel
theorem dX5_rideTicket_6 : decode cX5_rideTicket 6 = .ok (.getfield 10, 3) := by decide +kernel
theorem dX5_rideTicket_9 : decode cX5_rideTicket 9 = .ok (.getfield 221, 3) := by decide +kernel
theorem dX5_rideTicket_12 : decode cX5_rideTicket 12 = .ok (.iload_n 1, 1) := by decide +kernel
theorem dX5_rideTicket_13 : decode cX5_rideTicket 13 = .ok (.aaload, 1) := by decide +kernel
theorem dX5_rideTicket_14 : decode cX5_rideTicket 14 = .ok (.getfield 236, 3) := by decide +kernel
theorem dX5_rideTicket_17 : decode cX5_rideTicket 17 = .ok (.ireturn, 1) := by decide +kernel
theorem dX5_faultNow_0 : decode cX5_faultNow 0 = .ok (.aload_n 0, 1) := by decide +kernel
theorem dX5_faultNow_1 : decode cX5_faultNow 1 = .ok (.iload_n 1, 1) := by decide +kernel
theorem dX5_faultNow_2 : decode cX5_faultNow 2 = .ok (.invokevirtual 106, 3) := by decide +kernel
theorem dX5_faultNow_5 : decode cX5_faultNow 5 = .ok (.aload_n 0, 1) := by decide +kernel
theorem dX5_faultNow_6 : decode cX5_faultNow 6 = .ok (.getfield 10, 3) := by decide +kernel
theorem dX5_faultNow_9 : decode cX5_faultNow 9 = .ok (.iload_n 1, 1) := by decide +kernel
theorem dX5_faultNow_10 : decode cX5_faultNow 10 = .ok (.invokevirtual 239, 3) := by decide +kernel
theorem dX5_faultNow_13 : decode cX5_faultNow 13 = .ok (.ireturn, 1) := by decide +kernel
theorem dX5_debt_0 : decode cX5_debt 0 = .ok (.aload_n 0, 1) := by decide +kernel
theorem dX5_debt_1 : decode cX5_debt 1 = .ok (.iload_n 1, 1) := by decide +kernel
theorem dX5_debt_2 : decode cX5_debt 2 = .ok (.invokevirtual 106, 3) := by decide +kernel
theorem dX5_debt_5 : decode cX5_debt 5 = .ok (.aload_n 0, 1) := by decide +kernel
theorem dX5_debt_6 : decode cX5_debt 6 = .ok (.getfield 10, 3) := by decide +kernel
theorem dX5_debt_9 : decode cX5_debt 9 = .ok (.iload_n 1, 1) := by decide +kernel
theorem dX5_debt_10 : decode cX5_debt 10 = .ok (.invokevirtual 242, 3) := by decide +kernel
theorem dX5_debt_13 : decode cX5_debt 13 = .ok (.ireturn, 1) := by decide +kernel
theorem dX5_unpaidCases_0 : decode cX5_unpaidCases 0 = .ok (.aload_n 0, 1) := by decide +kernel
theorem dX5_unpaidCases_1 : decode cX5_unpaidCases 1 = .ok (.iload_n 1, 1) := by decide +kernel
theorem dX5_unpaidCases_2 : decode cX5_unpaidCases 2 = .ok (.invokevirtual 106, 3) := by decide +kernel
theorem dX5_unpaidCases_5 : decode cX5_unpaidCases 5 = .ok (.aload_n 0, 1) := by decide +kernel
theorem dX5_unpaidCases_6 : decode cX5_unpaidCases 6 = .ok (.getfield 10, 3) := by decide +kernel
theorem dX5_unpaidCases_9 : decode cX5_unpaidCases 9 = .ok (.iload_n 1, 1) := by decide +kernel
theorem dX5_unpaidCases_10 : decode cX5_unpaidCases 10 = .ok (.invokevirtual 245, 3) := by decide +kernel
theorem dX5_unpaidCases_13 : decode cX5_unpaidCases 13 = .ok (.ireturn, 1) := by decide +kernel
theorem dX5_ticketHolder_0 : decode cX5_ticketHolder 0 = .ok (.aload_n 0, 1) := by decide +kernel
theorem dX5_ticketHolder_1 : decode cX5_ticketHolder 1 = .ok (.iload_n 1, 1) := by decide +kernel
theorem dX5_ticketHolder_2 : decode cX5_ticketHolder 2 = .ok (.invokevirtual 132, 3) := by decide +kernel
theorem dX5_ticketHolder_5 : decode cX5_ticketHolder 5 = .ok (.aload_n 0, 1) := by decide +kernel
theorem dX5_ticketHolder_6 : decode cX5_ticketHolder 6 = .ok (.getfield 10, 3) := by decide +kernel
theorem dX5_ticketHolder_9 : decode cX5_ticketHolder 9 = .ok (.getfield 268, 3) := by decide +kernel
theorem dX5_ticketHolder_12 : decode cX5_ticketHolder 12 = .ok (.iload_n 1, 1) := by decide +kernel
theorem dX5_ticketHolder_13 : decode cX5_ticketHolder 13 = .ok (.aaload, 1) := by decide +kernel
theorem dX5_ticketHolder_14 : decode cX5_ticketHolder 14 = .ok (.getfield 272, 3) := by decide +kernel
theorem dX5_ticketHolder_17 : decode cX5_ticketHolder 17 = .ok (.ireturn, 1) := by decide +kernel
theorem dX5_ticketKind_0 : decode cX5_ticketKind 0 = .ok (.aload_n 0, 1) := by decide +kernel
theorem dX5_ticketKind_1 : decode cX5_ticketKind 1 = .ok (.iload_n 1, 1) := by decide +kernel
theorem dX5_ticketKind_2 : decode cX5_ticketKind 2 = .ok (.invokevirtual 132, 3) := by decide +kernel
theorem dX5_ticketKind_5 : decode cX5_ticketKind 5 = .ok (.aload_n 0, 1) := by decide +kernel
theorem dX5_ticketKind_6 : decode cX5_ticketKind 6 = .ok (.getfield 10, 3) := by decide +kernel
theorem dX5_ticketKind_9 : decode cX5_ticketKind 9 = .ok (.getfield 268, 3) := by decide +kernel
theorem dX5_ticketKind_12 : decode cX5_ticketKind 12 = .ok (.iload_n 1, 1) := by decide +kernel
theorem dX5_ticketKind_13 : decode cX5_ticketKind 13 = .ok (.aaload, 1) := by decide +kernel
theorem dX5_ticketKind_14 : decode cX5_ticketKind 14 = .ok (.getfield 277, 3) := by decide +kernel
theorem dX5_ticketKind_17 : decode cX5_ticketKind 17 = .ok (.ireturn, 1) := by decide +kernel
theorem dX5_ticketZones_0 : decode cX5_ticketZones 0 = .ok (.aload_n 0, 1) := by decide +kernel
theorem dX5_ticketZones_1 : decode cX5_ticketZones 1 = .ok (.iload_n 1, 1) := by decide +kernel
theorem dX5_ticketZones_2 : decode cX5_ticketZones 2 = .ok (.invokevirtual 132, 3) := by decide +kernel
theorem dX5_ticketZones_5 : decode cX5_ticketZones 5 = .ok (.aload_n 0, 1) := by decide +kernel
theorem dX5_ticketZones_6 : decode cX5_ticketZones 6 = .ok (.getfield 10, 3) := by decide +kernel
theorem dX5_ticketZones_9 : decode cX5_ticketZones 9 = .ok (.getfield 268, 3) := by decide +kernel
theorem dX5_ticketZones_12 : decode cX5_ticketZones 12 = .ok (.iload_n 1, 1) := by decide +kernel
theorem dX5_ticketZones_13 : decode cX5_ticketZones 13 = .ok (.aaload, 1) := by decide +kernel
theorem dX5_ticketZones_14 : decode cX5_ticketZones 14 = .ok (.getfield 280, 3) := by decide +kernel
theorem dX5_ticketZones_17 : decode cX5_ticketZones 17 = .ok (.ireturn, 1) := by decide +kernel
theorem dX5_ticketPrice_0 : decode cX5_ticketPrice 0 = .ok (.aload_n 0, 1) := by decide +kernel
theorem dX5_ticketPrice_1 : decode cX5_ticketPrice 1 = .ok (.iload_n 1, 1) := by decide +kernel
theorem dX5_ticketPrice_2 : decode cX5_ticketPrice 2 = .ok (.invokevirtual 132, 3) := by decide +kernel
theorem dX5_ticketPrice_5 : decode cX5_ticketPrice 5 = .ok (.aload_n 0, 1) := by decide +kernel
theorem dX5_ticketPrice_6 : decode cX5_ticketPrice 6 = .ok (.getfield 10, 3) := by decide +kernel
theorem dX5_ticketPrice_9 : decode cX5_ticketPrice 9 = .ok (.getfield 268, 3) := by decide +kernel
theorem dX5_ticketPrice_12 : decode cX5_ticketPrice 12 = .ok (.iload_n 1, 1) := by decide +kernel
theorem dX5_ticketPrice_13 : decode cX5_ticketPrice 13 = .ok (.aaload, 1) := by decide +kernel
theorem dX5_ticketPrice_14 : decode cX5_ticketPrice 14 = .ok (.invokevirtual 282, 3) := by decide +kernel
theorem dX5_ticketPrice_17 : decode cX5_ticketPrice 17 = .ok (.ireturn, 1) := by decide +kernel
theorem dX5_stampTime_0 : decode cX5_stampTime 0 = .ok (.aload_n 0, 1) := by decide +kernel
theorem dX5_stampTime_1 : decode cX5_stampTime 1 = .ok (.iload_n 1, 1) := by decide +kernel
theorem dX5_stampTime_2 : decode cX5_stampTime 2 = .ok (.invokevirtual 132, 3) := by decide +kernel
theorem dX5_stampTime_5 : decode cX5_stampTime 5 = .ok (.aload_n 0, 1) := by decide +kernel
theorem dX5_stampTime_6 : decode cX5_stampTime 6 = .ok (.getfield 10, 3) := by decide +kernel
theorem dX5_stampTime_9 : decode cX5_stampTime 9 = .ok (.getfield 268, 3) := by decide +kernel
theorem dX5_stampTime_12 : decode cX5_stampTime 12 = .ok (.iload_n 1, 1) := by decide +kernel
theorem dX5_stampTime_13 : decode cX5_stampTime 13 = .ok (.aaload, 1) := by decide +kernel
theorem dX5_stampTime_14 : decode cX5_stampTime 14 = .ok (.getfield 285, 3) := by decide +kernel
theorem dX5_stampTime_17 : decode cX5_stampTime 17 = .ok (.ireturn, 1) := by decide +kernel
theorem dX5_stampStop_0 : decode cX5_stampStop 0 = .ok (.aload_n 0, 1) := by decide +kernel
theorem dX5_stampStop_1 : decode cX5_stampStop 1 = .ok (.iload_n 1, 1) := by decide +kernel
theorem dX5_stampStop_2 : decode cX5_stampStop 2 = .ok (.invokevirtual 132, 3) := by decide +kernel
theorem dX5_stampStop_5 : decode cX5_stampStop 5 = .ok (.aload_n 0, 1) := by decide +kernel
theorem dX5_stampStop_6 : decode cX5_stampStop 6 = .ok (.getfield 10, 3) := by decide +kernel
theorem dX5_stampStop_9 : decode cX5_stampStop 9 = .ok (.getfield 268, 3) := by decide +kernel
theorem dX5_stampStop_12 : decode cX5_stampStop 12 = .ok (.iload_n 1, 1) := by decide +kernel
theorem dX5_stampStop_13 : decode cX5_stampStop 13 = .ok (.aaload, 1) := by decide +kernel
theorem dX5_stampStop_14 : decode cX5_stampStop 14 = .ok (.getfield 288, 3) := by decide +kernel
theorem dX5_stampStop_17 : decode cX5_stampStop 17 = .ok (.ireturn, 1) := by decide +kernel
theorem dX5_ticketRides_0 : decode cX5_ticketRides 0 = .ok (.aload_n 0, 1) := by decide +kernel
theorem dX5_ticketRides_1 : decode cX5_ticketRides 1 = .ok (.iload_n 1, 1) := by decide +kernel
theorem dX5_ticketRides_2 : decode cX5_ticketRides 2 = .ok (.invokevirtual 132, 3) := by decide +kernel
theorem dX5_ticketRides_5 : decode cX5_ticketRides 5 = .ok (.aload_n 0, 1) := by decide +kernel
theorem dX5_ticketRides_6 : decode cX5_ticketRides 6 = .ok (.getfield 10, 3) := by decide +kernel
theorem dX5_ticketRides_9 : decode cX5_ticketRides 9 = .ok (.getfield 268, 3) := by decide +kernel
theorem dX5_ticketRides_12 : decode cX5_ticketRides 12 = .ok (.iload_n 1, 1) := by decide +kernel
theorem dX5_ticketRides_13 : decode cX5_ticketRides 13 = .ok (.aaload, 1) := by decide +kernel
theorem dX5_ticketRides_14 : decode cX5_ticketRides 14 = .ok (.getfield 291, 3) := by decide +kernel
theorem dX5_ticketRides_17 : decode cX5_ticketRides 17 = .ok (.ireturn, 1) := by decide +kernel
theorem dX5_isInTime_0 : decode cX5_isInTime 0 = .ok (.aload_n 0, 1) := by decide +kernel
theorem dX5_isInTime_1 : decode cX5_isInTime 1 = .ok (.iload_n 1, 1) := by decide +kernel
theorem dX5_isInTime_2 : decode cX5_isInTime 2 = .ok (.invokevirtual 132, 3) := by decide +kernel
theorem dX5_isInTime_5 : decode cX5_isInTime 5 = .ok (.aload_n 0, 1) := by decide +kernel
theorem dX5_isInTime_6 : decode cX5_isInTime 6 = .ok (.getfield 10, 3) := by decide +kernel
theorem dX5_isInTime_9 : decode cX5_isInTime 9 = .ok (.getfield 268, 3) := by decide +kernel
theorem dX5_isInTime_12 : decode cX5_isInTime 12 = .ok (.iload_n 1, 1) := by decide +kernel
theorem dX5_isInTime_13 : decode cX5_isInTime 13 = .ok (.aaload, 1) := by decide +kernel
theorem dX5_isInTime_14 : decode cX5_isInTime 14 = .ok (.aload_n 0, 1) := by decide +kernel
theorem dX5_isInTime_15 : decode cX5_isInTime 15 = .ok (.getfield 10, 3) := by decide +kernel
theorem dX5_isInTime_18 : decode cX5_isInTime 18 = .ok (.getfield 159, 3) := by decide +kernel
theorem dX5_isInTime_21 : decode cX5_isInTime 21 = .ok (.invokevirtual 294, 3) := by decide +kernel
theorem dX5_isInTime_24 : decode cX5_isInTime 24 = .ok (.ireturn, 1) := by decide +kernel
theorem dX5_casePassenger_0 : decode cX5_casePassenger 0 = .ok (.aload_n 0, 1) := by decide +kernel
theorem dX5_casePassenger_1 : decode cX5_casePassenger 1 = .ok (.iload_n 1, 1) := by decide +kernel
theorem dX5_casePassenger_2 : decode cX5_casePassenger 2 = .ok (.invokevirtual 164, 3) := by decide +kernel
theorem dX5_casePassenger_5 : decode cX5_casePassenger 5 = .ok (.aload_n 0, 1) := by decide +kernel
theorem dX5_casePassenger_6 : decode cX5_casePassenger 6 = .ok (.getfield 10, 3) := by decide +kernel
theorem dX5_casePassenger_9 : decode cX5_casePassenger 9 = .ok (.getfield 297, 3) := by decide +kernel
theorem dX5_casePassenger_12 : decode cX5_casePassenger 12 = .ok (.iload_n 1, 1) := by decide +kernel
theorem dX5_casePassenger_13 : decode cX5_casePassenger 13 = .ok (.aaload, 1) := by decide +kernel
theorem dX5_casePassenger_14 : decode cX5_casePassenger 14 = .ok (.getfield 301, 3) := by decide +kernel
theorem dX5_casePassenger_17 : decode cX5_casePassenger 17 = .ok (.ireturn, 1) := by decide +kernel
theorem dX5_caseFault_0 : decode cX5_caseFault 0 = .ok (.aload_n 0, 1) := by decide +kernel
theorem dX5_caseFault_1 : decode cX5_caseFault 1 = .ok (.iload_n 1, 1) := by decide +kernel
theorem dX5_caseFault_2 : decode cX5_caseFault 2 = .ok (.invokevirtual 164, 3) := by decide +kernel
theorem dX5_caseFault_5 : decode cX5_caseFault 5 = .ok (.aload_n 0, 1) := by decide +kernel
theorem dX5_caseFault_6 : decode cX5_caseFault 6 = .ok (.getfield 10, 3) := by decide +kernel
theorem dX5_caseFault_9 : decode cX5_caseFault 9 = .ok (.getfield 297, 3) := by decide +kernel
theorem dX5_caseFault_12 : decode cX5_caseFault 12 = .ok (.iload_n 1, 1) := by decide +kernel
theorem dX5_caseFault_13 : decode cX5_caseFault 13 = .ok (.aaload, 1) := by decide +kernel
theorem dX5_caseFault_14 : decode cX5_caseFault 14 = .ok (.getfield 306, 3) := by decide +kernel
theorem dX5_caseFault_17 : decode cX5_caseFault 17 = .ok (.ireturn, 1) := by decide +kernel
theorem dX5_caseState_0 : decode cX5_caseState 0 = .ok (.aload_n 0, 1) := by decide +kernel
theorem dX5_caseState_1 : decode cX5_caseState 1 = .ok (.iload_n 1, 1) := by decide +kernel
theorem dX5_caseState_2 : decode cX5_caseState 2 = .ok (.invokevirtual 164, 3) := by decide +kernel
theorem dX5_caseState_5 : decode cX5_caseState 5 = .ok (.aload_n 0, 1) := by decide +kernel
theorem dX5_caseState_6 : decode cX5_caseState 6 = .ok (.getfield 10, 3) := by decide +kernel
theorem dX5_caseState_9 : decode cX5_caseState 9 = .ok (.getfield 297, 3) := by decide +kernel
theorem dX5_caseState_12 : decode cX5_caseState 12 = .ok (.iload_n 1, 1) := by decide +kernel
theorem dX5_caseState_13 : decode cX5_caseState 13 = .ok (.aaload, 1) := by decide +kernel
theorem dX5_caseState_14 : decode cX5_caseState 14 = .ok (.getfield 309, 3) := by decide +kernel
theorem dX5_caseState_17 : decode cX5_caseState 17 = .ok (.ireturn, 1) := by decide +kernel
theorem dX5_caseTime_0 : decode cX5_caseTime 0 = .ok (.aload_n 0, 1) := by decide +kernel
theorem dX5_caseTime_1 : decode cX5_caseTime 1 = .ok (.iload_n 1, 1) := by decide +kernel
theorem dX5_caseTime_2 : decode cX5_caseTime 2 = .ok (.invokevirtual 164, 3) := by decide +kernel
theorem dX5_caseTime_5 : decode cX5_caseTime 5 = .ok (.aload_n 0, 1) := by decide +kernel
theorem dX5_caseTime_6 : decode cX5_caseTime 6 = .ok (.getfield 10, 3) := by decide +kernel
theorem dX5_caseTime_9 : decode cX5_caseTime 9 = .ok (.getfield 297, 3) := by decide +kernel
theorem dX5_caseTime_12 : decode cX5_caseTime 12 = .ok (.iload_n 1, 1) := by decide +kernel
theorem dX5_caseTime_13 : decode cX5_caseTime 13 = .ok (.aaload, 1) := by decide +kernel
theorem dX5_caseTime_14 : decode cX5_caseTime 14 = .ok (.getfield 312, 3) := by decide +kernel
theorem dX5_caseTime_17 : decode cX5_caseTime 17 = .ok (.ireturn, 1) := by decide +kernel
theorem dX5_amountDue_0 : decode cX5_amountDue 0 = .ok (.aload_n 0, 1) := by decide +kernel
theorem dX5_amountDue_1 : decode cX5_amountDue 1 = .ok (.iload_n 1, 1) := by decide +kernel
theorem dX5_amountDue_2 : decode cX5_amountDue 2 = .ok (.invokevirtual 164, 3) := by decide +kernel
theorem dX5_amountDue_5 : decode cX5_amountDue 5 = .ok (.aload_n 0, 1) := by decide +kernel
theorem dX5_amountDue_6 : decode cX5_amountDue 6 = .ok (.getfield 10, 3) := by decide +kernel
theorem dX5_amountDue_9 : decode cX5_amountDue 9 = .ok (.getfield 297, 3) := by decide +kernel
theorem dX5_amountDue_12 : decode cX5_amountDue 12 = .ok (.iload_n 1, 1) := by decide +kernel
theorem dX5_amountDue_13 : decode cX5_amountDue 13 = .ok (.aaload, 1) := by decide +kernel
theorem dX5_amountDue_14 : decode cX5_amountDue 14 = .ok (.aload_n 0, 1) := by decide +kernel
theorem dX5_amountDue_15 : decode cX5_amountDue 15 = .ok (.getfield 10, 3) := by decide +kernel
theorem dX5_amountDue_18 : decode cX5_amountDue 18 = .ok (.getfield 159, 3) := by decide +kernel
theorem dX5_amountDue_21 : decode cX5_amountDue 21 = .ok (.invokevirtual 315, 3) := by decide +kernel
theorem dX5_amountDue_24 : decode cX5_amountDue 24 = .ok (.ireturn, 1) := by decide +kernel
theorem dX5_caseTicket_0 : decode cX5_caseTicket 0 = .ok (.aload_n 0, 1) := by decide +kernel
theorem dX5_caseTicket_1 : decode cX5_caseTicket 1 = .ok (.iload_n 1, 1) := by decide +kernel
theorem dX5_caseTicket_2 : decode cX5_caseTicket 2 = .ok (.invokevirtual 164, 3) := by decide +kernel
theorem dX5_caseTicket_5 : decode cX5_caseTicket 5 = .ok (.aload_n 0, 1) := by decide +kernel
theorem dX5_caseTicket_6 : decode cX5_caseTicket 6 = .ok (.getfield 10, 3) := by decide +kernel
theorem dX5_caseTicket_9 : decode cX5_caseTicket 9 = .ok (.getfield 297, 3) := by decide +kernel
theorem dX5_caseTicket_12 : decode cX5_caseTicket 12 = .ok (.iload_n 1, 1) := by decide +kernel
theorem dX5_caseTicket_13 : decode cX5_caseTicket 13 = .ok (.aaload, 1) := by decide +kernel
theorem dX5_caseTicket_14 : decode cX5_caseTicket 14 = .ok (.getfield 318, 3) := by decide +kernel
theorem dX5_caseTicket_17 : decode cX5_caseTicket 17 = .ok (.ireturn, 1) := by decide +kernel
theorem dX5_isOverdue_0 : decode cX5_isOverdue 0 = .ok (.aload_n 0, 1) := by decide +kernel
theorem dX5_isOverdue_1 : decode cX5_isOverdue 1 = .ok (.iload_n 1, 1) := by decide +kernel
theorem dX5_isOverdue_2 : decode cX5_isOverdue 2 = .ok (.invokevirtual 164, 3) := by decide +kernel
theorem dX5_isOverdue_5 : decode cX5_isOverdue 5 = .ok (.aload_n 0, 1) := by decide +kernel
theorem dX5_isOverdue_6 : decode cX5_isOverdue 6 = .ok (.getfield 10, 3) := by decide +kernel
theorem dX5_isOverdue_9 : decode cX5_isOverdue 9 = .ok (.getfield 297, 3) := by decide +kernel
theorem dX5_isOverdue_12 : decode cX5_isOverdue 12 = .ok (.iload_n 1, 1) := by decide +kernel
theorem dX5_isOverdue_13 : decode cX5_isOverdue 13 = .ok (.aaload, 1) := by decide +kernel
theorem dX5_isOverdue_14 : decode cX5_isOverdue 14 = .ok (.aload_n 0, 1) := by decide +kernel
theorem dX5_isOverdue_15 : decode cX5_isOverdue 15 = .ok (.getfield 10, 3) := by decide +kernel
theorem dX5_isOverdue_18 : decode cX5_isOverdue 18 = .ok (.getfield 159, 3) := by decide +kernel
theorem dX5_isOverdue_21 : decode cX5_isOverdue 21 = .ok (.invokevirtual 321, 3) := by decide +kernel
theorem dX5_isOverdue_24 : decode cX5_isOverdue 24 = .ok (.ireturn, 1) := by decide +kernel
theorem dX5_outlook_0 : decode cX5_outlook 0 = .ok (.aload_n 0, 1) := by decide +kernel
theorem dX5_outlook_1 : decode cX5_outlook 1 = .ok (.iload_n 1, 1) := by decide +kernel
theorem dX5_outlook_2 : decode cX5_outlook 2 = .ok (.invokevirtual 164, 3) := by decide +kernel
theorem dX5_outlook_5 : decode cX5_outlook 5 = .ok (.aload_n 0, 1) := by decide +kernel
theorem dX5_outlook_6 : decode cX5_outlook 6 = .ok (.iload_n 2, 1) := by decide +kernel
theorem dX5_outlook_7 : decode cX5_outlook 7 = .ok (.invokevirtual 132, 3) := by decide +kernel
theorem dX5_outlook_10 : decode cX5_outlook 10 = .ok (.aload_n 0, 1) := by decide +kernel
theorem dX5_outlook_11 : decode cX5_outlook 11 = .ok (.getfield 10, 3) := by decide +kernel
theorem dX5_outlook_14 : decode cX5_outlook 14 = .ok (.iload_n 1, 1) := by decide +kernel
theorem dX5_outlook_15 : decode cX5_outlook 15 = .ok (.iload_n 2, 1) := by decide +kernel
theorem dX5_outlook_16 : decode cX5_outlook 16 = .ok (.invokevirtual 324, 3) := by decide +kernel
theorem dX5_outlook_19 : decode cX5_outlook 19 = .ok (.ireturn, 1) := by decide +kernel
theorem dX5_ticketSales_0 : decode cX5_ticketSales 0 = .ok (.aload_n 0, 1) := by decide +kernel
theorem dX5_ticketSales_1 : decode cX5_ticketSales 1 = .ok (.getfield 10, 3) := by decide +kernel
theorem dX5_ticketSales_4 : decode cX5_ticketSales 4 = .ok (.invokevirtual 327, 3) := by decide +kernel
theorem dX5_ticketSales_7 : decode cX5_ticketSales 7 = .ok (.ireturn, 1) := by decide +kernel
theorem dX5_finesPaid_0 : decode cX5_finesPaid 0 = .ok (.aload_n 0, 1) := by decide +kernel
theorem dX5_finesPaid_1 : decode cX5_finesPaid 1 = .ok (.getfield 10, 3) := by decide +kernel
theorem dX5_finesPaid_4 : decode cX5_finesPaid 4 = .ok (.getfield 330, 3) := by decide +kernel
theorem dX5_finesPaid_7 : decode cX5_finesPaid 7 = .ok (.ireturn, 1) := by decide +kernel
theorem dX5_inspections_0 : decode cX5_inspections 0 = .ok (.aload_n 0, 1) := by decide +kernel
theorem dX5_inspections_1 : decode cX5_inspections 1 = .ok (.getfield 10, 3) := by decide +kernel
theorem dX5_inspections_4 : decode cX5_inspections 4 = .ok (.getfield 333, 3) := by decide +kernel
theorem dX5_inspections_7 : decode cX5_inspections 7 = .ok (.ireturn, 1) := by decide +kernel
theorem dX5_inconsistencies_0 : decode cX5_inconsistencies 0 = .ok (.aload_n 0, 1) := by decide +kernel
theorem dX5_inconsistencies_1 : decode cX5_inconsistencies 1 = .ok (.getfield 10, 3) := by decide +kernel
theorem dX5_inconsistencies_4 : decode cX5_inconsistencies 4 = .ok (.getfield 336, 3) := by decide +kernel
theorem dX5_inconsistencies_7 : decode cX5_inconsistencies 7 = .ok (.aload_n 0, 1) := by decide +kernel
theorem dX5_inconsistencies_8 : decode cX5_inconsistencies 8 = .ok (.getfield 10, 3) := by decide +kernel
theorem dX5_inconsistencies_11 : decode cX5_inconsistencies 11 = .ok (.invokevirtual 327, 3) := by decide +kernel
theorem dX5_inconsistencies_14 : decode cX5_inconsistencies 14 = .ok (.isub, 1) := by decide +kernel
theorem dX5_inconsistencies_15 : decode cX5_inconsistencies 15 = .ok (.aload_n 0, 1) := by decide +kernel
theorem dX5_inconsistencies_16 : decode cX5_inconsistencies 16 = .ok (.getfield 10, 3) := by decide +kernel
theorem dX5_inconsistencies_19 : decode cX5_inconsistencies 19 = .ok (.getfield 330, 3) := by decide +kernel
theorem dX5_inconsistencies_22 : decode cX5_inconsistencies 22 = .ok (.isub, 1) := by decide +kernel
theorem dX5_inconsistencies_23 : decode cX5_inconsistencies 23 = .ok (.aload_n 0, 1) := by decide +kernel
theorem dX5_inconsistencies_24 : decode cX5_inconsistencies 24 = .ok (.getfield 10, 3) := by decide +kernel
theorem dX5_inconsistencies_27 : decode cX5_inconsistencies 27 = .ok (.invokevirtual 339, 3) := by decide +kernel
theorem dX5_inconsistencies_30 : decode cX5_inconsistencies 30 = .ok (.isub, 1) := by decide +kernel
theorem dX5_inconsistencies_31 : decode cX5_inconsistencies 31 = .ok (.istore_n 1, 1) := by decide +kernel
theorem dX5_inconsistencies_32 : decode cX5_inconsistencies 32 = .ok (.iload_n 1, 1) := by decide +kernel
theorem dX5_inconsistencies_33 : decode cX5_inconsistencies 33 = .ok (.invokestatic 260, 3) := by decide +kernel
theorem dX5_inconsistencies_36 : decode cX5_inconsistencies 36 = .ok (.aload_n 0, 1) := by decide +kernel
theorem dX5_inconsistencies_37 : decode cX5_inconsistencies 37 = .ok (.getfield 10, 3) := by decide +kernel
theorem dX5_inconsistencies_40 : decode cX5_inconsistencies 40 = .ok (.invokevirtual 342, 3) := by decide +kernel
theorem dX5_inconsistencies_43 : decode cX5_inconsistencies 43 = .ok (.iadd, 1) := by decide +kernel
theorem dX5_inconsistencies_44 : decode cX5_inconsistencies 44 = .ok (.ireturn, 1) := by decide +kernel
