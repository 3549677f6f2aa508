theorem dX0_init_0 : decode cX0_init 0 = .ok (.aload_n 0, 1) := by decide +kernel
theorem dX0_init_1 : decode cX0_init 1 = .ok (.invokespecial 3, 3) := by decide +kernel
theorem dX0_init_4 : decode cX0_init 4 = .ok (.return_, 1) := by decide +kernel
theorem dX0_open_0 : decode cX0_open 0 = .ok (.aload_n 0, 1) := by decide +kernel
theorem dX0_open_1 : decode cX0_open 1 = .ok (.iload_n 1, 1) := by decide +kernel
theorem dX0_open_2 : decode cX0_open 2 = .ok (.putfield 9, 3) := by decide +kernel
theorem dX0_open_5 : decode cX0_open 5 = .ok (.aload_n 0, 1) := by decide +kernel
theorem dX0_open_6 : decode cX0_open 6 = .ok (.iload_n 2, 1) := by decide +kernel
theorem dX0_open_7 : decode cX0_open 7 = .ok (.putfield 15, 3) := by decide +kernel
theorem dX0_open_10 : decode cX0_open 10 = .ok (.aload_n 0, 1) := by decide +kernel
theorem dX0_open_11 : decode cX0_open 11 = .ok (.iload_n 3, 1) := by decide +kernel
theorem dX0_open_12 : decode cX0_open 12 = .ok (.putfield 18, 3) := by decide +kernel
theorem dX0_open_15 : decode cX0_open 15 = .ok (.aload_n 0, 1) := by decide +kernel
theorem dX0_open_16 : decode cX0_open 16 = .ok (.iload 4, 2) := by decide +kernel
theorem dX0_open_18 : decode cX0_open 18 = .ok (.putfield 21, 3) := by decide +kernel
theorem dX0_open_21 : decode cX0_open 21 = .ok (.aload_n 0, 1) := by decide +kernel
theorem dX0_open_22 : decode cX0_open 22 = .ok (.iconst 0, 1) := by decide +kernel
theorem dX0_open_23 : decode cX0_open 23 = .ok (.putfield 24, 3) := by decide +kernel
theorem dX0_open_26 : decode cX0_open 26 = .ok (.aload_n 0, 1) := by decide +kernel
theorem dX0_open_27 : decode cX0_open 27 = .ok (.sipush 6000, 3) := by decide +kernel
theorem dX0_open_30 : decode cX0_open 30 = .ok (.putfield 27, 3) := by decide +kernel
theorem dX0_open_33 : decode cX0_open 33 = .ok (.aload_n 0, 1) := by decide +kernel
theorem dX0_open_34 : decode cX0_open 34 = .ok (.iconst (-1), 1) := by decide +kernel
theorem dX0_open_35 : decode cX0_open 35 = .ok (.putfield 30, 3) := by decide +kernel
theorem dX0_open_38 : decode cX0_open 38 = .ok (.return_, 1) := by decide +kernel
theorem dX0_overdueAt_0 : decode cX0_overdueAt 0 = .ok (.aload_n 0, 1) := by decide +kernel
theorem dX0_overdueAt_1 : decode cX0_overdueAt 1 = .ok (.getfield 24, 3) := by decide +kernel
theorem dX0_overdueAt_4 : decode cX0_overdueAt 4 = .ok (.iconst 4, 1) := by decide +kernel
theorem dX0_overdueAt_5 : decode cX0_overdueAt 5 = .ok (.if_icmp .eq 19, 3) := by decide +kernel
theorem dX0_overdueAt_8 : decode cX0_overdueAt 8 = .ok (.iload_n 1, 1) := by decide +kernel
theorem dX0_overdueAt_9 : decode cX0_overdueAt 9 = .ok (.aload_n 0, 1) := by decide +kernel
theorem dX0_overdueAt_10 : decode cX0_overdueAt 10 = .ok (.getfield 18, 3) := by decide +kernel
theorem dX0_overdueAt_13 : decode cX0_overdueAt 13 = .ok (.sipush 20160, 3) := by decide +kernel
theorem dX0_overdueAt_16 : decode cX0_overdueAt 16 = .ok (.iadd, 1) := by decide +kernel
theorem dX0_overdueAt_17 : decode cX0_overdueAt 17 = .ok (.if_icmp .le 7, 3) := by decide +kernel
theorem dX0_overdueAt_20 : decode cX0_overdueAt 20 = .ok (.iconst 1, 1) := by decide +kernel
theorem dX0_overdueAt_21 : decode cX0_overdueAt 21 = .ok (.goto 4, 3) := by decide +kernel
theorem dX0_overdueAt_24 : decode cX0_overdueAt 24 = .ok (.iconst 0, 1) := by decide +kernel
theorem dX0_overdueAt_25 : decode cX0_overdueAt 25 = .ok (.ireturn, 1) := by decide +kernel
theorem dX0_costAt_0 : decode cX0_costAt 0 = .ok (.aload_n 0, 1) := by decide +kernel
theorem dX0_costAt_1 : decode cX0_costAt 1 = .ok (.getfield 24, 3) := by decide +kernel
theorem dX0_costAt_4 : decode cX0_costAt 4 = .ok (.iconst 4, 1) := by decide +kernel
theorem dX0_costAt_5 : decode cX0_costAt 5 = .ok (.if_icmp .ne 5, 3) := by decide +kernel
theorem dX0_costAt_8 : decode cX0_costAt 8 = .ok (.iconst 0, 1) := by decide +kernel
theorem dX0_costAt_9 : decode cX0_costAt 9 = .ok (.ireturn, 1) := by decide +kernel
theorem dX0_costAt_10 : decode cX0_costAt 10 = .ok (.aload_n 0, 1) := by decide +kernel
theorem dX0_costAt_11 : decode cX0_costAt 11 = .ok (.iload_n 1, 1) := by decide +kernel
theorem dX0_costAt_12 : decode cX0_costAt 12 = .ok (.invokevirtual 33, 3) := by decide +kernel
theorem dX0_costAt_15 : decode cX0_costAt 15 = .ok (.ifCond .eq 14, 3) := by decide +kernel
theorem dX0_costAt_18 : decode cX0_costAt 18 = .ok (.aload_n 0, 1) := by decide +kernel
theorem dX0_costAt_19 : decode cX0_costAt 19 = .ok (.getfield 27, 3) := by decide +kernel
theorem dX0_costAt_22 : decode cX0_costAt 22 = .ok (.sipush 1500, 3) := by decide +kernel
theorem dX0_costAt_25 : decode cX0_costAt 25 = .ok (.iadd, 1) := by decide +kernel
theorem dX0_costAt_26 : decode cX0_costAt 26 = .ok (.goto 7, 3) := by decide +kernel
theorem dX0_costAt_29 : decode cX0_costAt 29 = .ok (.aload_n 0, 1) := by decide +kernel
theorem dX0_costAt_30 : decode cX0_costAt 30 = .ok (.getfield 27, 3) := by decide +kernel
theorem dX0_costAt_33 : decode cX0_costAt 33 = .ok (.ireturn, 1) := by decide +kernel
theorem dX4_isStamped_0 : decode cX4_isStamped 0 = .ok (.aload_n 0, 1) := by decide +kernel
theorem dX4_isStamped_1 : decode cX4_isStamped 1 = .ok (.getfield 21, 3) := by decide +kernel
theorem dX4_isStamped_4 : decode cX4_isStamped 4 = .ok (.iconst (-1), 1) := by decide +kernel
theorem dX4_isStamped_5 : decode cX4_isStamped 5 = .ok (.if_icmp .eq 7, 3) := by decide +kernel
theorem dX4_isStamped_8 : decode cX4_isStamped 8 = .ok (.iconst 1, 1) := by decide +kernel
theorem dX4_isStamped_9 : decode cX4_isStamped 9 = .ok (.goto 4, 3) := by decide +kernel
theorem dX4_isStamped_12 : decode cX4_isStamped 12 = .ok (.iconst 0, 1) := by decide +kernel
theorem dX4_isStamped_13 : decode cX4_isStamped 13 = .ok (.ireturn, 1) := by decide +kernel
theorem dX5_dayOf_0 : decode cX5_dayOf 0 = .ok (.iload_n 0, 1) := by decide +kernel
theorem dX5_dayOf_1 : decode cX5_dayOf 1 = .ok (.sipush 1440, 3) := by decide +kernel
theorem dX5_dayOf_4 : decode cX5_dayOf 4 = .ok (.idiv, 1) := by decide +kernel
theorem dX5_dayOf_5 : decode cX5_dayOf 5 = .ok (.ireturn, 1) := by decide +kernel
theorem dX4_hasZones_0 : decode cX4_hasZones 0 = .ok (.iload_n 1, 1) := by decide +kernel
theorem dX4_hasZones_1 : decode cX4_hasZones 1 = .ok (.aload_n 0, 1) := by decide +kernel
theorem dX4_hasZones_2 : decode cX4_hasZones 2 = .ok (.getfield 18, 3) := by decide +kernel
theorem dX4_hasZones_5 : decode cX4_hasZones 5 = .ok (.iconst (-1), 1) := by decide +kernel
theorem dX4_hasZones_6 : decode cX4_hasZones 6 = .ok (.ixor, 1) := by decide +kernel
theorem dX4_hasZones_7 : decode cX4_hasZones 7 = .ok (.iand, 1) := by decide +kernel
theorem dX4_hasZones_8 : decode cX4_hasZones 8 = .ok (.ifCond .ne 7, 3) := by decide +kernel
theorem dX4_hasZones_11 : decode cX4_hasZones 11 = .ok (.iconst 1, 1) := by decide +kernel
theorem dX4_hasZones_12 : decode cX4_hasZones 12 = .ok (.goto 4, 3) := by decide +kernel
theorem dX4_hasZones_15 : decode cX4_hasZones 15 = .ok (.iconst 0, 1) := by decide +kernel
theorem dX4_hasZones_16 : decode cX4_hasZones 16 = .ok (.ireturn, 1) := by decide +kernel
theorem dX0_isExcusedBy_0 : decode cX0_isExcusedBy 0 = .ok (.aload_n 1, 1) := by decide +kernel
theorem dX0_isExcusedBy_1 : decode cX0_isExcusedBy 1 = .ok (.getfield 37, 3) := by decide +kernel
theorem dX0_isExcusedBy_4 : decode cX0_isExcusedBy 4 = .ok (.aload_n 0, 1) := by decide +kernel
theorem dX0_isExcusedBy_5 : decode cX0_isExcusedBy 5 = .ok (.getfield 9, 3) := by decide +kernel
theorem dX0_isExcusedBy_8 : decode cX0_isExcusedBy 8 = .ok (.if_icmp .ne 61, 3) := by decide +kernel
theorem dX0_isExcusedBy_11 : decode cX0_isExcusedBy 11 = .ok (.aload_n 1, 1) := by decide +kernel
theorem dX0_isExcusedBy_12 : decode cX0_isExcusedBy 12 = .ok (.getfield 42, 3) := by decide +kernel
theorem dX0_isExcusedBy_15 : decode cX0_isExcusedBy 15 = .ok (.iconst 1, 1) := by decide +kernel
theorem dX0_isExcusedBy_16 : decode cX0_isExcusedBy 16 = .ok (.if_icmp .ne 53, 3) := by decide +kernel
theorem dX0_isExcusedBy_19 : decode cX0_isExcusedBy 19 = .ok (.aload_n 1, 1) := by decide +kernel
theorem dX0_isExcusedBy_20 : decode cX0_isExcusedBy 20 = .ok (.invokevirtual 45, 3) := by decide +kernel
theorem dX0_isExcusedBy_23 : decode cX0_isExcusedBy 23 = .ok (.ifCond .eq 46, 3) := by decide +kernel
theorem dX0_isExcusedBy_26 : decode cX0_isExcusedBy 26 = .ok (.aload_n 1, 1) := by decide +kernel
theorem dX0_isExcusedBy_27 : decode cX0_isExcusedBy 27 = .ok (.getfield 49, 3) := by decide +kernel
theorem dX0_isExcusedBy_30 : decode cX0_isExcusedBy 30 = .ok (.aload_n 0, 1) := by decide +kernel
theorem dX0_isExcusedBy_31 : decode cX0_isExcusedBy 31 = .ok (.getfield 18, 3) := by decide +kernel
theorem dX0_isExcusedBy_34 : decode cX0_isExcusedBy 34 = .ok (.if_icmp .gt 35, 3) := by decide +kernel
theorem dX0_isExcusedBy_37 : decode cX0_isExcusedBy 37 = .ok (.aload_n 1, 1) := by decide +kernel
theorem dX0_isExcusedBy_38 : decode cX0_isExcusedBy 38 = .ok (.getfield 49, 3) := by decide +kernel
theorem dX0_isExcusedBy_41 : decode cX0_isExcusedBy 41 = .ok (.invokestatic 52, 3) := by decide +kernel
theorem dX0_isExcusedBy_44 : decode cX0_isExcusedBy 44 = .ok (.aload_n 0, 1) := by decide +kernel
theorem dX0_isExcusedBy_45 : decode cX0_isExcusedBy 45 = .ok (.getfield 18, 3) := by decide +kernel
theorem dX0_isExcusedBy_48 : decode cX0_isExcusedBy 48 = .ok (.invokestatic 52, 3) := by decide +kernel
theorem dX0_isExcusedBy_51 : decode cX0_isExcusedBy 51 = .ok (.if_icmp .ne 18, 3) := by decide +kernel
theorem dX0_isExcusedBy_54 : decode cX0_isExcusedBy 54 = .ok (.aload_n 1, 1) := by decide +kernel
theorem dX0_isExcusedBy_55 : decode cX0_isExcusedBy 55 = .ok (.aload_n 0, 1) := by decide +kernel
theorem dX0_isExcusedBy_56 : decode cX0_isExcusedBy 56 = .ok (.getfield 21, 3) := by decide +kernel
theorem dX0_isExcusedBy_59 : decode cX0_isExcusedBy 59 = .ok (.invokevirtual 56, 3) := by decide +kernel
theorem dX0_isExcusedBy_62 : decode cX0_isExcusedBy 62 = .ok (.ifCond .eq 7, 3) := by decide +kernel
theorem dX0_isExcusedBy_65 : decode cX0_isExcusedBy 65 = .ok (.iconst 1, 1) := by decide +kernel
theorem dX0_isExcusedBy_66 : decode cX0_isExcusedBy 66 = .ok (.goto 4, 3) := by decide +kernel
theorem dX0_isExcusedBy_69 : decode cX0_isExcusedBy 69 = .ok (.iconst 0, 1) := by decide +kernel
theorem dX0_isExcusedBy_70 : decode cX0_isExcusedBy 70 = .ok (.ireturn, 1) := by decide +kernel
theorem dX0_copyFrom_0 : decode cX0_copyFrom 0 = .ok (.aload_n 0, 1) := by decide +kernel
theorem dX0_copyFrom_1 : decode cX0_copyFrom 1 = .ok (.aload_n 1, 1) := by decide +kernel
theorem dX0_copyFrom_2 : decode cX0_copyFrom 2 = .ok (.getfield 9, 3) := by decide +kernel
theorem dX0_copyFrom_5 : decode cX0_copyFrom 5 = .ok (.putfield 9, 3) := by decide +kernel
theorem dX0_copyFrom_8 : decode cX0_copyFrom 8 = .ok (.aload_n 0, 1) := by decide +kernel
theorem dX0_copyFrom_9 : decode cX0_copyFrom 9 = .ok (.aload_n 1, 1) := by decide +kernel
theorem dX0_copyFrom_10 : decode cX0_copyFrom 10 = .ok (.getfield 15, 3) := by decide +kernel
theorem dX0_copyFrom_13 : decode cX0_copyFrom 13 = .ok (.putfield 15, 3) := by decide +kernel
theorem dX0_copyFrom_16 : decode cX0_copyFrom 16 = .ok (.aload_n 0, 1) := by decide +kernel
theorem dX0_copyFrom_17 : decode cX0_copyFrom 17 = .ok (.aload_n 1, 1) := by decide +kernel
theorem dX0_copyFrom_18 : decode cX0_copyFrom 18 = .ok (.getfield 18, 3) := by decide +kernel
theorem dX0_copyFrom_21 : decode cX0_copyFrom 21 = .ok (.putfield 18, 3) := by decide +kernel
theorem dX0_copyFrom_24 : decode cX0_copyFrom 24 = .ok (.aload_n 0, 1) := by decide +kernel
theorem dX0_copyFrom_25 : decode cX0_copyFrom 25 = .ok (.aload_n 1, 1) := by decide +kernel
theorem dX0_copyFrom_26 : decode cX0_copyFrom 26 = .ok (.getfield 21, 3) := by decide +kernel
theorem dX0_copyFrom_29 : decode cX0_copyFrom 29 = .ok (.putfield 21, 3) := by decide +kernel
theorem dX0_copyFrom_32 : decode cX0_copyFrom 32 = .ok (.aload_n 0, 1) := by decide +kernel
theorem dX0_copyFrom_33 : decode cX0_copyFrom 33 = .ok (.aload_n 1, 1) := by decide +kernel
theorem dX0_copyFrom_34 : decode cX0_copyFrom 34 = .ok (.getfield 24, 3) := by decide +kernel
theorem dX0_copyFrom_37 : decode cX0_copyFrom 37 = .ok (.putfield 24, 3) := by decide +kernel
theorem dX0_copyFrom_40 : decode cX0_copyFrom 40 = .ok (.aload_n 0, 1) := by decide +kernel
theorem dX0_copyFrom_41 : decode cX0_copyFrom 41 = .ok (.aload_n 1, 1) := by decide +kernel
theorem dX0_copyFrom_42 : decode cX0_copyFrom 42 = .ok (.getfield 27, 3) := by decide +kernel
theorem dX0_copyFrom_45 : decode cX0_copyFrom 45 = .ok (.putfield 27, 3) := by decide +kernel
theorem dX0_copyFrom_48 : decode cX0_copyFrom 48 = .ok (.aload_n 0, 1) := by decide +kernel
theorem dX0_copyFrom_49 : decode cX0_copyFrom 49 = .ok (.aload_n 1, 1) := by decide +kernel
theorem dX0_copyFrom_50 : decode cX0_copyFrom 50 = .ok (.getfield 30, 3) := by decide +kernel
theorem dX0_copyFrom_53 : decode cX0_copyFrom 53 = .ok (.putfield 30, 3) := by decide +kernel
theorem dX0_copyFrom_56 : decode cX0_copyFrom 56 = .ok (.return_, 1) := by decide +kernel
theorem dX1_init_0 : decode cX1_init 0 = .ok (.aload_n 0, 1) := by decide +kernel
theorem dX1_init_1 : decode cX1_init 1 = .ok (.invokespecial 3, 3) := by decide +kernel
theorem dX1_init_4 : decode cX1_init 4 = .ok (.aload_n 0, 1) := by decide +kernel
theorem dX1_init_5 : decode cX1_init 5 = .ok (.sipush 700, 3) := by decide +kernel
theorem dX1_init_8 : decode cX1_init 8 = .ok (.newarray .byte, 2) := by decide +kernel
theorem dX1_init_10 : decode cX1_init 10 = .ok (.putfield 9, 3) := by decide +kernel
theorem dX1_init_13 : decode cX1_init 13 = .ok (.aload_n 0, 1) := by decide +kernel
theorem dX1_init_14 : decode cX1_init 14 = .ok (.iconst (-1), 1) := by decide +kernel
theorem dX1_init_15 : decode cX1_init 15 = .ok (.putfield 15, 3) := by decide +kernel
theorem dX1_init_18 : decode cX1_init 18 = .ok (.aload_n 0, 1) := by decide +kernel
theorem dX1_init_19 : decode cX1_init 19 = .ok (.aload_n 1, 1) := by decide +kernel
theorem dX1_init_20 : decode cX1_init 20 = .ok (.putfield 19, 3) := by decide +kernel
theorem dX1_init_23 : decode cX1_init 23 = .ok (.return_, 1) := by decide +kernel
theorem dX1_addBytes_0 : decode cX1_addBytes 0 = .ok (.bipush 24, 2) := by decide +kernel
theorem dX1_addBytes_2 : decode cX1_addBytes 2 = .ok (.istore_n 2, 1) := by decide +kernel
theorem dX1_addBytes_3 : decode cX1_addBytes 3 = .ok (.iload_n 2, 1) := by decide +kernel
theorem dX1_addBytes_4 : decode cX1_addBytes 4 = .ok (.ifCond .lt 42, 3) := by decide +kernel
theorem dX1_addBytes_7 : decode cX1_addBytes 7 = .ok (.aload_n 0, 1) := by decide +kernel
theorem dX1_addBytes_8 : decode cX1_addBytes 8 = .ok (.getfield 23, 3) := by decide +kernel
theorem dX1_addBytes_11 : decode cX1_addBytes 11 = .ok (.sipush 700, 3) := by decide +kernel
theorem dX1_addBytes_14 : decode cX1_addBytes 14 = .ok (.if_icmp .ge 32, 3) := by decide +kernel
theorem dX1_addBytes_17 : decode cX1_addBytes 17 = .ok (.aload_n 0, 1) := by decide +kernel
theorem dX1_addBytes_18 : decode cX1_addBytes 18 = .ok (.getfield 9, 3) := by decide +kernel
theorem dX1_addBytes_21 : decode cX1_addBytes 21 = .ok (.aload_n 0, 1) := by decide +kernel
theorem dX1_addBytes_22 : decode cX1_addBytes 22 = .ok (.getfield 23, 3) := by decide +kernel
theorem dX1_addBytes_25 : decode cX1_addBytes 25 = .ok (.iload_n 1, 1) := by decide +kernel
theorem dX1_addBytes_26 : decode cX1_addBytes 26 = .ok (.iload_n 2, 1) := by decide +kernel
theorem dX1_addBytes_27 : decode cX1_addBytes 27 = .ok (.ishr, 1) := by decide +kernel
theorem dX1_addBytes_28 : decode cX1_addBytes 28 = .ok (.i2b, 1) := by decide +kernel
theorem dX1_addBytes_29 : decode cX1_addBytes 29 = .ok (.bastore, 1) := by decide +kernel
theorem dX1_addBytes_30 : decode cX1_addBytes 30 = .ok (.aload_n 0, 1) := by decide +kernel
theorem dX1_addBytes_31 : decode cX1_addBytes 31 = .ok (.dup, 1) := by decide +kernel
theorem dX1_addBytes_32 : decode cX1_addBytes 32 = .ok (.getfield 23, 3) := by decide +kernel
theorem dX1_addBytes_35 : decode cX1_addBytes 35 = .ok (.iconst 1, 1) := by decide +kernel
theorem dX1_addBytes_36 : decode cX1_addBytes 36 = .ok (.iadd, 1) := by decide +kernel
theorem dX1_addBytes_37 : decode cX1_addBytes 37 = .ok (.putfield 23, 3) := by decide +kernel
theorem dX1_addBytes_40 : decode cX1_addBytes 40 = .ok (.iinc 2 (-8), 3) := by decide +kernel
theorem dX1_addBytes_43 : decode cX1_addBytes 43 = .ok (.goto (-40), 3) := by decide +kernel
theorem dX1_addBytes_46 : decode cX1_addBytes 46 = .ok (.return_, 1) := by decide +kernel
theorem dX1_failed_0 : decode cX1_failed 0 = .ok (.aload_n 0, 1) := by decide +kernel
theorem dX1_failed_1 : decode cX1_failed 1 = .ok (.getfield 26, 3) := by decide +kernel
theorem dX1_failed_4 : decode cX1_failed 4 = .ok (.ifCond .eq 7, 3) := by decide +kernel
theorem dX1_failed_7 : decode cX1_failed 7 = .ok (.iconst 1, 1) := by decide +kernel
theorem dX1_failed_8 : decode cX1_failed 8 = .ok (.goto 4, 3) := by decide +kernel
theorem dX1_failed_11 : decode cX1_failed 11 = .ok (.iconst 0, 1) := by decide +kernel
theorem dX1_failed_12 : decode cX1_failed 12 = .ok (.ireturn, 1) := by decide +kernel
theorem dX1_isLetter_0 : decode cX1_isLetter 0 = .ok (.iload_n 0, 1) := by decide +kernel
theorem dX1_isLetter_1 : decode cX1_isLetter 1 = .ok (.bipush 97, 2) := by decide +kernel
theorem dX1_isLetter_3 : decode cX1_isLetter 3 = .ok (.if_icmp .lt 13, 3) := by decide +kernel
theorem dX1_isLetter_6 : decode cX1_isLetter 6 = .ok (.iload_n 0, 1) := by decide +kernel
theorem dX1_isLetter_7 : decode cX1_isLetter 7 = .ok (.bipush 122, 2) := by decide +kernel
theorem dX1_isLetter_9 : decode cX1_isLetter 9 = .ok (.if_icmp .gt 7, 3) := by decide +kernel
theorem dX1_isLetter_12 : decode cX1_isLetter 12 = .ok (.iconst 1, 1) := by decide +kernel
theorem dX1_isLetter_13 : decode cX1_isLetter 13 = .ok (.goto 4, 3) := by decide +kernel
theorem dX1_isLetter_16 : decode cX1_isLetter 16 = .ok (.iconst 0, 1) := by decide +kernel
theorem dX1_isLetter_17 : decode cX1_isLetter 17 = .ok (.ireturn, 1) := by decide +kernel
theorem dX1_isDigit_0 : decode cX1_isDigit 0 = .ok (.iload_n 0, 1) := by decide +kernel
theorem dX1_isDigit_1 : decode cX1_isDigit 1 = .ok (.bipush 48, 2) := by decide +kernel
theorem dX1_isDigit_3 : decode cX1_isDigit 3 = .ok (.if_icmp .lt 13, 3) := by decide +kernel
theorem dX1_isDigit_6 : decode cX1_isDigit 6 = .ok (.iload_n 0, 1) := by decide +kernel
theorem dX1_isDigit_7 : decode cX1_isDigit 7 = .ok (.bipush 57, 2) := by decide +kernel
theorem dX1_isDigit_9 : decode cX1_isDigit 9 = .ok (.if_icmp .gt 7, 3) := by decide +kernel
theorem dX1_isDigit_12 : decode cX1_isDigit 12 = .ok (.iconst 1, 1) := by decide +kernel
theorem dX1_isDigit_13 : decode cX1_isDigit 13 = .ok (.goto 4, 3) := by decide +kernel
theorem dX1_isDigit_16 : decode cX1_isDigit 16 = .ok (.iconst 0, 1) := by decide +kernel
theorem dX1_isDigit_17 : decode cX1_isDigit 17 = .ok (.ireturn, 1) := by decide +kernel
theorem dX1_advance_0 : decode cX1_advance 0 = .ok (.aload_n 0, 1) := by decide +kernel
theorem dX1_advance_1 : decode cX1_advance 1 = .ok (.invokevirtual 35, 3) := by decide +kernel
theorem dX1_advance_4 : decode cX1_advance 4 = .ok (.ifCond .eq 4, 3) := by decide +kernel
theorem dX1_advance_7 : decode cX1_advance 7 = .ok (.return_, 1) := by decide +kernel
theorem dX1_advance_8 : decode cX1_advance 8 = .ok (.aload_n 0, 1) := by decide +kernel
theorem dX1_advance_9 : decode cX1_advance 9 = .ok (.aload_n 0, 1) := by decide +kernel
theorem dX1_advance_10 : decode cX1_advance 10 = .ok (.getfield 29, 3) := by decide +kernel
theorem dX1_advance_13 : decode cX1_advance 13 = .ok (.putfield 39, 3) := by decide +kernel
theorem dX1_advance_16 : decode cX1_advance 16 = .ok (.aload_n 0, 1) := by decide +kernel
theorem dX1_advance_17 : decode cX1_advance 17 = .ok (.getfield 39, 3) := by decide +kernel
theorem dX1_advance_20 : decode cX1_advance 20 = .ok (.aload_n 0, 1) := by decide +kernel
theorem dX1_advance_21 : decode cX1_advance 21 = .ok (.getfield 23, 3) := by decide +kernel
theorem dX1_advance_24 : decode cX1_advance 24 = .ok (.if_icmp .ge 30, 3) := by decide +kernel
theorem dX1_advance_27 : decode cX1_advance 27 = .ok (.aload_n 0, 1) := by decide +kernel
theorem dX1_advance_28 : decode cX1_advance 28 = .ok (.getfield 9, 3) := by decide +kernel
theorem dX1_advance_31 : decode cX1_advance 31 = .ok (.aload_n 0, 1) := by decide +kernel
theorem dX1_advance_32 : decode cX1_advance 32 = .ok (.getfield 39, 3) := by decide +kernel
theorem dX1_advance_35 : decode cX1_advance 35 = .ok (.baload, 1) := by decide +kernel
theorem dX1_advance_36 : decode cX1_advance 36 = .ok (.bipush 32, 2) := by decide +kernel
theorem dX1_advance_38 : decode cX1_advance 38 = .ok (.if_icmp .ne 16, 3) := by decide +kernel
theorem dX1_advance_41 : decode cX1_advance 41 = .ok (.aload_n 0, 1) := by decide +kernel
theorem dX1_advance_42 : decode cX1_advance 42 = .ok (.dup, 1) := by decide +kernel
theorem dX1_advance_43 : decode cX1_advance 43 = .ok (.getfield 39, 3) := by decide +kernel
theorem dX1_advance_46 : decode cX1_advance 46 = .ok (.iconst 1, 1) := by decide +kernel
theorem dX1_advance_47 : decode cX1_advance 47 = .ok (.iadd, 1) := by decide +kernel
theorem dX1_advance_48 : decode cX1_advance 48 = .ok (.putfield 39, 3) := by decide +kernel
theorem dX1_advance_51 : decode cX1_advance 51 = .ok (.goto (-35), 3) := by decide +kernel
theorem dX1_advance_54 : decode cX1_advance 54 = .ok (.aload_n 0, 1) := by decide +kernel
theorem dX1_advance_55 : decode cX1_advance 55 = .ok (.aload_n 0, 1) := by decide +kernel
theorem dX1_advance_56 : decode cX1_advance 56 = .ok (.getfield 39, 3) := by decide +kernel
theorem dX1_advance_59 : decode cX1_advance 59 = .ok (.putfield 29, 3) := by decide +kernel
theorem dX1_advance_62 : decode cX1_advance 62 = .ok (.aload_n 0, 1) := by decide +kernel
theorem dX1_advance_63 : decode cX1_advance 63 = .ok (.getfield 39, 3) := by decide +kernel
theorem dX1_advance_66 : decode cX1_advance 66 = .ok (.aload_n 0, 1) := by decide +kernel
theorem dX1_advance_67 : decode cX1_advance 67 = .ok (.getfield 23, 3) := by decide +kernel
theorem dX1_advance_70 : decode cX1_advance 70 = .ok (.if_icmp .lt 11, 3) := by decide +kernel
theorem dX1_advance_73 : decode cX1_advance 73 = .ok (.aload_n 0, 1) := by decide +kernel
theorem dX1_advance_74 : decode cX1_advance 74 = .ok (.iconst 0, 1) := by decide +kernel
theorem dX1_advance_75 : decode cX1_advance 75 = .ok (.putfield 42, 3) := by decide +kernel
theorem dX1_advance_78 : decode cX1_advance 78 = .ok (.goto 188, 3) := by decide +kernel
theorem dX1_advance_81 : decode cX1_advance 81 = .ok (.aload_n 0, 1) := by decide +kernel
theorem dX1_advance_82 : decode cX1_advance 82 = .ok (.getfield 9, 3) := by decide +kernel
theorem dX1_advance_85 : decode cX1_advance 85 = .ok (.aload_n 0, 1) := by decide +kernel
theorem dX1_advance_86 : decode cX1_advance 86 = .ok (.getfield 39, 3) := by decide +kernel
theorem dX1_advance_89 : decode cX1_advance 89 = .ok (.baload, 1) := by decide +kernel
theorem dX1_advance_90 : decode cX1_advance 90 = .ok (.invokestatic 45, 3) := by decide +kernel
theorem dX1_advance_93 : decode cX1_advance 93 = .ok (.ifCond .eq 47, 3) := by decide +kernel
theorem dX1_advance_96 : decode cX1_advance 96 = .ok (.aload_n 0, 1) := by decide +kernel
theorem dX1_advance_97 : decode cX1_advance 97 = .ok (.iconst 1, 1) := by decide +kernel
theorem dX1_advance_98 : decode cX1_advance 98 = .ok (.putfield 42, 3) := by decide +kernel
theorem dX1_advance_101 : decode cX1_advance 101 = .ok (.aload_n 0, 1) := by decide +kernel
theorem dX1_advance_102 : decode cX1_advance 102 = .ok (.getfield 29, 3) := by decide +kernel
theorem dX1_advance_105 : decode cX1_advance 105 = .ok (.aload_n 0, 1) := by decide +kernel
theorem dX1_advance_106 : decode cX1_advance 106 = .ok (.getfield 23, 3) := by decide +kernel
theorem dX1_advance_109 : decode cX1_advance 109 = .ok (.if_icmp .ge 157, 3) := by decide +kernel
theorem dX1_advance_112 : decode cX1_advance 112 = .ok (.aload_n 0, 1) := by decide +kernel
theorem dX1_advance_113 : decode cX1_advance 113 = .ok (.getfield 9, 3) := by decide +kernel
theorem dX1_advance_116 : decode cX1_advance 116 = .ok (.aload_n 0, 1) := by decide +kernel
theorem dX1_advance_117 : decode cX1_advance 117 = .ok (.getfield 29, 3) := by decide +kernel
theorem dX1_advance_120 : decode cX1_advance 120 = .ok (.baload, 1) := by decide +kernel
theorem dX1_advance_121 : decode cX1_advance 121 = .ok (.invokestatic 45, 3) := by decide +kernel
theorem dX1_advance_124 : decode cX1_advance 124 = .ok (.ifCond .eq 142, 3) := by decide +kernel
theorem dX1_advance_127 : decode cX1_advance 127 = .ok (.aload_n 0, 1) := by decide +kernel
theorem dX1_advance_128 : decode cX1_advance 128 = .ok (.dup, 1) := by decide +kernel
theorem dX1_advance_129 : decode cX1_advance 129 = .ok (.getfield 29, 3) := by decide +kernel
theorem dX1_advance_132 : decode cX1_advance 132 = .ok (.iconst 1, 1) := by decide +kernel
theorem dX1_advance_133 : decode cX1_advance 133 = .ok (.iadd, 1) := by decide +kernel
theorem dX1_advance_134 : decode cX1_advance 134 = .ok (.putfield 29, 3) := by decide +kernel
theorem dX1_advance_137 : decode cX1_advance 137 = .ok (.goto (-36), 3) := by decide +kernel
theorem dX1_advance_140 : decode cX1_advance 140 = .ok (.aload_n 0, 1) := by decide +kernel
theorem dX1_advance_141 : decode cX1_advance 141 = .ok (.getfield 9, 3) := by decide +kernel
theorem dX1_advance_144 : decode cX1_advance 144 = .ok (.aload_n 0, 1) := by decide +kernel
theorem dX1_advance_145 : decode cX1_advance 145 = .ok (.getfield 39, 3) := by decide +kernel
theorem dX1_advance_148 : decode cX1_advance 148 = .ok (.baload, 1) := by decide +kernel
theorem dX1_advance_149 : decode cX1_advance 149 = .ok (.invokestatic 49, 3) := by decide +kernel
theorem dX1_advance_152 : decode cX1_advance 152 = .ok (.ifCond .eq 81, 3) := by decide +kernel
theorem dX1_advance_155 : decode cX1_advance 155 = .ok (.aload_n 0, 1) := by decide +kernel
theorem dX1_advance_156 : decode cX1_advance 156 = .ok (.iconst 2, 1) := by decide +kernel
theorem dX1_advance_157 : decode cX1_advance 157 = .ok (.putfield 42, 3) := by decide +kernel
theorem dX1_advance_160 : decode cX1_advance 160 = .ok (.aload_n 0, 1) := by decide +kernel
theorem dX1_advance_161 : decode cX1_advance 161 = .ok (.iconst 0, 1) := by decide +kernel
theorem dX1_advance_162 : decode cX1_advance 162 = .ok (.putfield 52, 3) := by decide +kernel
theorem dX1_advance_165 : decode cX1_advance 165 = .ok (.aload_n 0, 1) := by decide +kernel
theorem dX1_advance_166 : decode cX1_advance 166 = .ok (.getfield 29, 3) := by decide +kernel
theorem dX1_advance_169 : decode cX1_advance 169 = .ok (.aload_n 0, 1) := by decide +kernel
theorem dX1_advance_170 : decode cX1_advance 170 = .ok (.getfield 23, 3) := by decide +kernel
theorem dX1_advance_173 : decode cX1_advance 173 = .ok (.if_icmp .ge 93, 3) := by decide +kernel
theorem dX1_advance_176 : decode cX1_advance 176 = .ok (.aload_n 0, 1) := by decide +kernel
theorem dX1_advance_177 : decode cX1_advance 177 = .ok (.getfield 9, 3) := by decide +kernel
theorem dX1_advance_180 : decode cX1_advance 180 = .ok (.aload_n 0, 1) := by decide +kernel
theorem dX1_advance_181 : decode cX1_advance 181 = .ok (.getfield 29, 3) := by decide +kernel
theorem dX1_advance_184 : decode cX1_advance 184 = .ok (.baload, 1) := by decide +kernel
theorem dX1_advance_185 : decode cX1_advance 185 = .ok (.invokestatic 49, 3) := by decide +kernel
theorem dX1_advance_188 : decode cX1_advance 188 = .ok (.ifCond .eq 78, 3) := by decide +kernel
theorem dX1_advance_191 : decode cX1_advance 191 = .ok (.aload_n 0, 1) := by decide +kernel
theorem dX1_advance_192 : decode cX1_advance 192 = .ok (.ldc 55, 2) := by decide +kernel
theorem dX1_advance_194 : decode cX1_advance 194 = .ok (.aload_n 0, 1) := by decide +kernel
theorem dX1_advance_195 : decode cX1_advance 195 = .ok (.getfield 52, 3) := by decide +kernel
theorem dX1_advance_198 : decode cX1_advance 198 = .ok (.bipush 10, 2) := by decide +kernel
theorem dX1_advance_200 : decode cX1_advance 200 = .ok (.imul, 1) := by decide +kernel
theorem dX1_advance_201 : decode cX1_advance 201 = .ok (.aload_n 0, 1) := by decide +kernel
theorem dX1_advance_202 : decode cX1_advance 202 = .ok (.getfield 9, 3) := by decide +kernel
theorem dX1_advance_205 : decode cX1_advance 205 = .ok (.aload_n 0, 1) := by decide +kernel
theorem dX1_advance_206 : decode cX1_advance 206 = .ok (.getfield 29, 3) := by decide +kernel
theorem dX1_advance_209 : decode cX1_advance 209 = .ok (.baload, 1) := by decide +kernel
theorem dX1_advance_210 : decode cX1_advance 210 = .ok (.iadd, 1) := by decide +kernel
theorem dX1_advance_211 : decode cX1_advance 211 = .ok (.bipush 48, 2) := by decide +kernel
theorem dX1_advance_213 : decode cX1_advance 213 = .ok (.isub, 1) := by decide +kernel
theorem dX1_advance_214 : decode cX1_advance 214 = .ok (.invokestatic 56, 3) := by decide +kernel
theorem dX1_advance_217 : decode cX1_advance 217 = .ok (.putfield 52, 3) := by decide +kernel
theorem dX1_advance_220 : decode cX1_advance 220 = .ok (.aload_n 0, 1) := by decide +kernel
theorem dX1_advance_221 : decode cX1_advance 221 = .ok (.dup, 1) := by decide +kernel
theorem dX1_advance_222 : decode cX1_advance 222 = .ok (.getfield 29, 3) := by decide +kernel
theorem dX1_advance_225 : decode cX1_advance 225 = .ok (.iconst 1, 1) := by decide +kernel
theorem dX1_advance_226 : decode cX1_advance 226 = .ok (.iadd, 1) := by decide +kernel
theorem dX1_advance_227 : decode cX1_advance 227 = .ok (.putfield 29, 3) := by decide +kernel
theorem dX1_advance_230 : decode cX1_advance 230 = .ok (.goto (-65), 3) := by decide +kernel
theorem dX1_advance_233 : decode cX1_advance 233 = .ok (.aload_n 0, 1) := by decide +kernel
theorem dX1_advance_234 : decode cX1_advance 234 = .ok (.aload_n 0, 1) := by decide +kernel
theorem dX1_advance_235 : decode cX1_advance 235 = .ok (.getfield 9, 3) := by decide +kernel
theorem dX1_advance_238 : decode cX1_advance 238 = .ok (.aload_n 0, 1) := by decide +kernel
theorem dX1_advance_239 : decode cX1_advance 239 = .ok (.getfield 39, 3) := by decide +kernel
theorem dX1_advance_242 : decode cX1_advance 242 = .ok (.baload, 1) := by decide +kernel
theorem dX1_advance_243 : decode cX1_advance 243 = .ok (.bipush 59, 2) := by decide +kernel
theorem dX1_advance_245 : decode cX1_advance 245 = .ok (.if_icmp .ne 7, 3) := by decide +kernel
theorem dX1_advance_248 : decode cX1_advance 248 = .ok (.iconst 3, 1) := by decide +kernel
theorem dX1_advance_249 : decode cX1_advance 249 = .ok (.goto 4, 3) := by decide +kernel
theorem dX1_advance_252 : decode cX1_advance 252 = .ok (.iconst 4, 1) := by decide +kernel
theorem dX1_advance_253 : decode cX1_advance 253 = .ok (.putfield 42, 3) := by decide +kernel
theorem dX1_advance_256 : decode cX1_advance 256 = .ok (.aload_n 0, 1) := by decide +kernel
theorem dX1_advance_257 : decode cX1_advance 257 = .ok (.aload_n 0, 1) := by decide +kernel
theorem dX1_advance_258 : decode cX1_advance 258 = .ok (.getfield 39, 3) := by decide +kernel
theorem dX1_advance_261 : decode cX1_advance 261 = .ok (.iconst 1, 1) := by decide +kernel
theorem dX1_advance_262 : decode cX1_advance 262 = .ok (.iadd, 1) := by decide +kernel
theorem dX1_advance_263 : decode cX1_advance 263 = .ok (.putfield 29, 3) := by decide +kernel
theorem dX1_advance_266 : decode cX1_advance 266 = .ok (.return_, 1) := by decide +kernel
theorem dX1_begin_0 : decode cX1_begin 0 = .ok (.aload_n 0, 1) := by decide +kernel
theorem dX1_begin_1 : decode cX1_begin 1 = .ok (.iconst 0, 1) := by decide +kernel
theorem dX1_begin_2 : decode cX1_begin 2 = .ok (.putfield 26, 3) := by decide +kernel
theorem dX1_begin_5 : decode cX1_begin 5 = .ok (.aload_n 0, 1) := by decide +kernel
theorem dX1_begin_6 : decode cX1_begin 6 = .ok (.iconst (-1), 1) := by decide +kernel
theorem dX1_begin_7 : decode cX1_begin 7 = .ok (.putfield 15, 3) := by decide +kernel
theorem dX1_begin_10 : decode cX1_begin 10 = .ok (.aload_n 0, 1) := by decide +kernel
theorem dX1_begin_11 : decode cX1_begin 11 = .ok (.iconst 0, 1) := by decide +kernel
theorem dX1_begin_12 : decode cX1_begin 12 = .ok (.putfield 29, 3) := by decide +kernel
theorem dX1_begin_15 : decode cX1_begin 15 = .ok (.aload_n 0, 1) := by decide +kernel
theorem dX1_begin_16 : decode cX1_begin 16 = .ok (.invokevirtual 32, 3) := by decide +kernel
theorem dX1_begin_19 : decode cX1_begin 19 = .ok (.return_, 1) := by decide +kernel
theorem dJ0_coder_7d493_0 : decode cJ0_coder_7d493 0 = .ok (.getstatic 38, 3) := by decide +kernel
theorem dJ0_coder_7d493_3 : decode cJ0_coder_7d493 3 = .ok (.ifCond .eq 10, 3) := by decide +kernel
theorem dJ0_coder_7d493_6 : decode cJ0_coder_7d493 6 = .ok (.aload_n 0, 1) := by decide +kernel
theorem dJ0_coder_7d493_7 : decode cJ0_coder_7d493 7 = .ok (.getfield 15, 3) := by decide +kernel
theorem dJ0_coder_7d493_10 : decode cJ0_coder_7d493 10 = .ok (.goto 4, 3) := by decide +kernel
theorem dJ0_coder_7d493_14 : decode cJ0_coder_7d493 14 = .ok (.ireturn, 1) := by decide +kernel
theorem dJ0_length_8abf5_0 : decode cJ0_length_8abf5 0 = .ok (.aload_n 0, 1) := by decide +kernel
theorem dJ0_length_8abf5_1 : decode cJ0_length_8abf5 1 = .ok (.getfield 9, 3) := by decide +kernel
theorem dJ0_length_8abf5_4 : decode cJ0_length_8abf5 4 = .ok (.arraylength, 1) := by decide +kernel
theorem dJ0_length_8abf5_5 : decode cJ0_length_8abf5 5 = .ok (.aload_n 0, 1) := by decide +kernel
theorem dJ0_length_8abf5_6 : decode cJ0_length_8abf5 6 = .ok (.invokevirtual 335, 3) := by decide +kernel
theorem dJ0_length_8abf5_9 : decode cJ0_length_8abf5 9 = .ok (.ishr, 1) := by decide +kernel
theorem dJ0_length_8abf5_10 : decode cJ0_length_8abf5 10 = .ok (.ireturn, 1) := by decide +kernel
theorem dJ0_isLatin1_aae02_0 : decode cJ0_isLatin1_aae02 0 = .ok (.getstatic 38, 3) := by decide +kernel
theorem dJ0_isLatin1_aae02_3 : decode cJ0_isLatin1_aae02 3 = .ok (.ifCond .eq 14, 3) := by decide +kernel
theorem dJ0_isLatin1_aae02_6 : decode cJ0_isLatin1_aae02 6 = .ok (.aload_n 0, 1) := by decide +kernel
theorem dJ0_isLatin1_aae02_7 : decode cJ0_isLatin1_aae02 7 = .ok (.getfield 15, 3) := by decide +kernel
theorem dJ0_isLatin1_aae02_10 : decode cJ0_isLatin1_aae02 10 = .ok (.ifCond .ne 7, 3) := by decide +kernel
theorem dJ0_isLatin1_aae02_13 : decode cJ0_isLatin1_aae02 13 = .ok (.iconst 1, 1) := by decide +kernel
theorem dJ0_isLatin1_aae02_14 : decode cJ0_isLatin1_aae02 14 = .ok (.goto 4, 3) := by decide +kernel
theorem dJ0_isLatin1_aae02_17 : decode cJ0_isLatin1_aae02 17 = .ok (.iconst 0, 1) := by decide +kernel
theorem dJ0_isLatin1_aae02_18 : decode cJ0_isLatin1_aae02 18 = .ok (.ireturn, 1) := by decide +kernel
theorem dJ3_checkIndex_8e157_0 : decode cJ3_checkIndex_8e157 0 = .ok (.iload_n 0, 1) := by decide +kernel
theorem dJ3_checkIndex_8e157_1 : decode cJ3_checkIndex_8e157 1 = .ok (.ifCond .lt 8, 3) := by decide +kernel
theorem dJ3_checkIndex_8e157_4 : decode cJ3_checkIndex_8e157 4 = .ok (.iload_n 0, 1) := by decide +kernel
theorem dJ3_checkIndex_8e157_5 : decode cJ3_checkIndex_8e157 5 = .ok (.iload_n 1, 1) := by decide +kernel
theorem dJ3_checkIndex_8e157_6 : decode cJ3_checkIndex_8e157 6 = .ok (.if_icmp .lt 10, 3) := by decide +kernel
theorem dJ3_checkIndex_8e157_16 : decode cJ3_checkIndex_8e157 16 = .ok (.iload_n 0, 1) := by decide +kernel
theorem dJ3_checkIndex_8e157_17 : decode cJ3_checkIndex_8e157 17 = .ok (.ireturn, 1) := by decide +kernel
theorem dJ0_checkIndex_df160_0 : decode cJ0_checkIndex_df160 0 = .ok (.iload_n 0, 1) := by decide +kernel
theorem dJ0_checkIndex_df160_1 : decode cJ0_checkIndex_df160 1 = .ok (.iload_n 1, 1) := by decide +kernel
theorem dJ0_checkIndex_df160_2 : decode cJ0_checkIndex_df160 2 = .ok (.getstatic 1053, 3) := by decide +kernel
theorem dJ0_checkIndex_df160_5 : decode cJ0_checkIndex_df160 5 = .ok (.invokestatic 1059, 3) := by decide +kernel
theorem dJ0_checkIndex_df160_8 : decode cJ0_checkIndex_df160 8 = .ok (.pop, 1) := by decide +kernel
theorem dJ0_checkIndex_df160_9 : decode cJ0_checkIndex_df160 9 = .ok (.return_, 1) := by decide +kernel
theorem dJ1_charAt_3b067_0 : decode cJ1_charAt_3b067 0 = .ok (.iload_n 1, 1) := by decide +kernel
theorem dJ1_charAt_3b067_1 : decode cJ1_charAt_3b067 1 = .ok (.aload_n 0, 1) := by decide +kernel
theorem dJ1_charAt_3b067_2 : decode cJ1_charAt_3b067 2 = .ok (.arraylength, 1) := by decide +kernel
theorem dJ1_charAt_3b067_3 : decode cJ1_charAt_3b067 3 = .ok (.invokestatic 9, 3) := by decide +kernel
theorem dJ1_charAt_3b067_6 : decode cJ1_charAt_3b067 6 = .ok (.aload_n 0, 1) := by decide +kernel
theorem dJ1_charAt_3b067_7 : decode cJ1_charAt_3b067 7 = .ok (.iload_n 1, 1) := by decide +kernel
theorem dJ1_charAt_3b067_8 : decode cJ1_charAt_3b067 8 = .ok (.baload, 1) := by decide +kernel
theorem dJ1_charAt_3b067_9 : decode cJ1_charAt_3b067 9 = .ok (.sipush 255, 3) := by decide +kernel
theorem dJ1_charAt_3b067_12 : decode cJ1_charAt_3b067 12 = .ok (.iand, 1) := by decide +kernel
theorem dJ1_charAt_3b067_13 : decode cJ1_charAt_3b067 13 = .ok (.i2c, 1) := by decide +kernel
theorem dJ1_charAt_3b067_14 : decode cJ1_charAt_3b067 14 = .ok (.ireturn, 1) := by decide +kernel
theorem dJ0_charAt_5068e_0 : decode cJ0_charAt_5068e 0 = .ok (.aload_n 0, 1) := by decide +kernel
theorem dJ0_charAt_5068e_1 : decode cJ0_charAt_5068e 1 = .ok (.invokevirtual 492, 3) := by decide +kernel
theorem dJ0_charAt_5068e_4 : decode cJ0_charAt_5068e 4 = .ok (.ifCond .eq 12, 3) := by decide +kernel
theorem dJ0_charAt_5068e_7 : decode cJ0_charAt_5068e 7 = .ok (.aload_n 0, 1) := by decide +kernel
theorem dJ0_charAt_5068e_8 : decode cJ0_charAt_5068e 8 = .ok (.getfield 9, 3) := by decide +kernel
theorem dJ0_charAt_5068e_11 : decode cJ0_charAt_5068e 11 = .ok (.iload_n 1, 1) := by decide +kernel
theorem dJ0_charAt_5068e_12 : decode cJ0_charAt_5068e 12 = .ok (.invokestatic 495, 3) := by decide +kernel
theorem dJ0_charAt_5068e_15 : decode cJ0_charAt_5068e 15 = .ok (.ireturn, 1) := by decide +kernel
theorem dX1_tokenIs_0 : decode cX1_tokenIs 0 = .ok (.aload_n 0, 1) := by decide +kernel
theorem dX1_tokenIs_1 : decode cX1_tokenIs 1 = .ok (.getfield 42, 3) := by decide +kernel
theorem dX1_tokenIs_4 : decode cX1_tokenIs 4 = .ok (.iconst 1, 1) := by decide +kernel
theorem dX1_tokenIs_5 : decode cX1_tokenIs 5 = .ok (.if_icmp .ne 19, 3) := by decide +kernel
theorem dX1_tokenIs_8 : decode cX1_tokenIs 8 = .ok (.aload_n 0, 1) := by decide +kernel
theorem dX1_tokenIs_9 : decode cX1_tokenIs 9 = .ok (.getfield 29, 3) := by decide +kernel
theorem dX1_tokenIs_12 : decode cX1_tokenIs 12 = .ok (.aload_n 0, 1) := by decide +kernel
theorem dX1_tokenIs_13 : decode cX1_tokenIs 13 = .ok (.getfield 39, 3) := by decide +kernel
theorem dX1_tokenIs_16 : decode cX1_tokenIs 16 = .ok (.isub, 1) := by decide +kernel
theorem dX1_tokenIs_17 : decode cX1_tokenIs 17 = .ok (.aload_n 1, 1) := by decide +kernel
theorem dX1_tokenIs_18 : decode cX1_tokenIs 18 = .ok (.invokevirtual 62, 3) := by decide +kernel
theorem dX1_tokenIs_21 : decode cX1_tokenIs 21 = .ok (.if_icmp .eq 5, 3) := by decide +kernel
theorem dX1_tokenIs_24 : decode cX1_tokenIs 24 = .ok (.iconst 0, 1) := by decide +kernel
theorem dX1_tokenIs_25 : decode cX1_tokenIs 25 = .ok (.ireturn, 1) := by decide +kernel
theorem dX1_tokenIs_26 : decode cX1_tokenIs 26 = .ok (.iconst 0, 1) := by decide +kernel
theorem dX1_tokenIs_27 : decode cX1_tokenIs 27 = .ok (.istore_n 2, 1) := by decide +kernel
theorem dX1_tokenIs_28 : decode cX1_tokenIs 28 = .ok (.iload_n 2, 1) := by decide +kernel
theorem dX1_tokenIs_29 : decode cX1_tokenIs 29 = .ok (.aload_n 1, 1) := by decide +kernel
theorem dX1_tokenIs_30 : decode cX1_tokenIs 30 = .ok (.invokevirtual 62, 3) := by decide +kernel
theorem dX1_tokenIs_33 : decode cX1_tokenIs 33 = .ok (.if_icmp .ge 30, 3) := by decide +kernel
theorem dX1_tokenIs_36 : decode cX1_tokenIs 36 = .ok (.aload_n 0, 1) := by decide +kernel
theorem dX1_tokenIs_37 : decode cX1_tokenIs 37 = .ok (.getfield 9, 3) := by decide +kernel
theorem dX1_tokenIs_40 : decode cX1_tokenIs 40 = .ok (.aload_n 0, 1) := by decide +kernel
theorem dX1_tokenIs_41 : decode cX1_tokenIs 41 = .ok (.getfield 39, 3) := by decide +kernel
theorem dX1_tokenIs_44 : decode cX1_tokenIs 44 = .ok (.iload_n 2, 1) := by decide +kernel
theorem dX1_tokenIs_45 : decode cX1_tokenIs 45 = .ok (.iadd, 1) := by decide +kernel
theorem dX1_tokenIs_46 : decode cX1_tokenIs 46 = .ok (.baload, 1) := by decide +kernel
theorem dX1_tokenIs_47 : decode cX1_tokenIs 47 = .ok (.aload_n 1, 1) := by decide +kernel
theorem dX1_tokenIs_48 : decode cX1_tokenIs 48 = .ok (.iload_n 2, 1) := by decide +kernel
theorem dX1_tokenIs_49 : decode cX1_tokenIs 49 = .ok (.invokevirtual 67, 3) := by decide +kernel
theorem dX1_tokenIs_52 : decode cX1_tokenIs 52 = .ok (.if_icmp .eq 5, 3) := by decide +kernel
theorem dX1_tokenIs_55 : decode cX1_tokenIs 55 = .ok (.iconst 0, 1) := by decide +kernel
theorem dX1_tokenIs_56 : decode cX1_tokenIs 56 = .ok (.ireturn, 1) := by decide +kernel
theorem dX1_tokenIs_57 : decode cX1_tokenIs 57 = .ok (.iinc 2 1, 3) := by decide +kernel
theorem dX1_tokenIs_60 : decode cX1_tokenIs 60 = .ok (.goto (-32), 3) := by decide +kernel
theorem dX1_tokenIs_63 : decode cX1_tokenIs 63 = .ok (.iconst 1, 1) := by decide +kernel
theorem dX1_tokenIs_64 : decode cX1_tokenIs 64 = .ok (.ireturn, 1) := by decide +kernel
theorem dX1_fail_0 : decode cX1_fail 0 = .ok (.aload_n 0, 1) := by decide +kernel
theorem dX1_fail_1 : decode cX1_fail 1 = .ok (.invokevirtual 35, 3) := by decide +kernel
theorem dX1_fail_4 : decode cX1_fail 4 = .ok (.ifCond .ne 16, 3) := by decide +kernel
theorem dX1_fail_7 : decode cX1_fail 7 = .ok (.aload_n 0, 1) := by decide +kernel
theorem dX1_fail_8 : decode cX1_fail 8 = .ok (.iload_n 1, 1) := by decide +kernel
theorem dX1_fail_9 : decode cX1_fail 9 = .ok (.putfield 26, 3) := by decide +kernel
theorem dX1_fail_12 : decode cX1_fail 12 = .ok (.aload_n 0, 1) := by decide +kernel
theorem dX1_fail_13 : decode cX1_fail 13 = .ok (.aload_n 0, 1) := by decide +kernel
theorem dX1_fail_14 : decode cX1_fail 14 = .ok (.getfield 39, 3) := by decide +kernel
theorem dX1_fail_17 : decode cX1_fail 17 = .ok (.putfield 15, 3) := by decide +kernel
theorem dX1_fail_20 : decode cX1_fail 20 = .ok (.iconst (-1), 1) := by decide +kernel
theorem dX1_fail_21 : decode cX1_fail 21 = .ok (.ireturn, 1) := by decide +kernel
theorem dX1_readKeyword_0 : decode cX1_readKeyword 0 = .ok (.aload_n 0, 1) := by decide +kernel
theorem dX1_readKeyword_1 : decode cX1_readKeyword 1 = .ok (.aload_n 1, 1) := by decide +kernel
theorem dX1_readKeyword_2 : decode cX1_readKeyword 2 = .ok (.invokevirtual 71, 3) := by decide +kernel
theorem dX1_readKeyword_5 : decode cX1_readKeyword 5 = .ok (.ifCond .ne 12, 3) := by decide +kernel
theorem dX1_readKeyword_8 : decode cX1_readKeyword 8 = .ok (.aload_n 0, 1) := by decide +kernel
theorem dX1_readKeyword_9 : decode cX1_readKeyword 9 = .ok (.iconst 1, 1) := by decide +kernel
theorem dX1_readKeyword_10 : decode cX1_readKeyword 10 = .ok (.invokevirtual 75, 3) := by decide +kernel
theorem dX1_readKeyword_13 : decode cX1_readKeyword 13 = .ok (.pop, 1) := by decide +kernel
theorem dX1_readKeyword_14 : decode cX1_readKeyword 14 = .ok (.goto 7, 3) := by decide +kernel
theorem dX1_readKeyword_17 : decode cX1_readKeyword 17 = .ok (.aload_n 0, 1) := by decide +kernel
theorem dX1_readKeyword_18 : decode cX1_readKeyword 18 = .ok (.invokevirtual 32, 3) := by decide +kernel
theorem dX1_readKeyword_21 : decode cX1_readKeyword 21 = .ok (.return_, 1) := by decide +kernel
theorem dX1_readNumber_0 : decode cX1_readNumber 0 = .ok (.aload_n 0, 1) := by decide +kernel
theorem dX1_readNumber_1 : decode cX1_readNumber 1 = .ok (.getfield 42, 3) := by decide +kernel
theorem dX1_readNumber_4 : decode cX1_readNumber 4 = .ok (.iconst 2, 1) := by decide +kernel
theorem dX1_readNumber_5 : decode cX1_readNumber 5 = .ok (.if_icmp .eq 9, 3) := by decide +kernel
theorem dX1_readNumber_8 : decode cX1_readNumber 8 = .ok (.aload_n 0, 1) := by decide +kernel
theorem dX1_readNumber_9 : decode cX1_readNumber 9 = .ok (.iconst 1, 1) := by decide +kernel
theorem dX1_readNumber_10 : decode cX1_readNumber 10 = .ok (.invokevirtual 75, 3) := by decide +kernel
theorem dX1_readNumber_13 : decode cX1_readNumber 13 = .ok (.ireturn, 1) := by decide +kernel
theorem dX1_readNumber_14 : decode cX1_readNumber 14 = .ok (.aload_n 0, 1) := by decide +kernel
theorem dX1_readNumber_15 : decode cX1_readNumber 15 = .ok (.getfield 52, 3) := by decide +kernel
theorem dX1_readNumber_18 : decode cX1_readNumber 18 = .ok (.iload_n 1, 1) := by decide +kernel
theorem dX1_readNumber_19 : decode cX1_readNumber 19 = .ok (.if_icmp .lt 11, 3) := by decide +kernel
theorem dX1_readNumber_22 : decode cX1_readNumber 22 = .ok (.aload_n 0, 1) := by decide +kernel
theorem dX1_readNumber_23 : decode cX1_readNumber 23 = .ok (.getfield 52, 3) := by decide +kernel
theorem dX1_readNumber_26 : decode cX1_readNumber 26 = .ok (.iload_n 2, 1) := by decide +kernel
theorem dX1_readNumber_27 : decode cX1_readNumber 27 = .ok (.if_icmp .le 9, 3) := by decide +kernel
theorem dX1_readNumber_30 : decode cX1_readNumber 30 = .ok (.aload_n 0, 1) := by decide +kernel
theorem dX1_readNumber_31 : decode cX1_readNumber 31 = .ok (.iconst 2, 1) := by decide +kernel
theorem dX1_readNumber_32 : decode cX1_readNumber 32 = .ok (.invokevirtual 75, 3) := by decide +kernel
theorem dX1_readNumber_35 : decode cX1_readNumber 35 = .ok (.ireturn, 1) := by decide +kernel
theorem dX1_readNumber_36 : decode cX1_readNumber 36 = .ok (.aload_n 0, 1) := by decide +kernel
theorem dX1_readNumber_37 : decode cX1_readNumber 37 = .ok (.getfield 52, 3) := by decide +kernel
theorem dX1_readNumber_40 : decode cX1_readNumber 40 = .ok (.istore_n 3, 1) := by decide +kernel
theorem dX1_readNumber_41 : decode cX1_readNumber 41 = .ok (.aload_n 0, 1) := by decide +kernel
theorem dX1_readNumber_42 : decode cX1_readNumber 42 = .ok (.invokevirtual 32, 3) := by decide +kernel
theorem dX1_readNumber_45 : decode cX1_readNumber 45 = .ok (.iload_n 3, 1) := by decide +kernel
theorem dX1_readNumber_46 : decode cX1_readNumber 46 = .ok (.ireturn, 1) := by decide +kernel
theorem dX3_addStop_0 : decode cX3_addStop 0 = .ok (.aload_n 0, 1) := by decide +kernel
theorem dX3_addStop_1 : decode cX3_addStop 1 = .ok (.getfield 49, 3) := by decide +kernel
theorem dX3_addStop_4 : decode cX3_addStop 4 = .ok (.bipush 12, 2) := by decide +kernel
theorem dX3_addStop_6 : decode cX3_addStop 6 = .ok (.if_icmp .ge 23, 3) := by decide +kernel
theorem dX3_addStop_9 : decode cX3_addStop 9 = .ok (.aload_n 0, 1) := by decide +kernel
theorem dX3_addStop_10 : decode cX3_addStop 10 = .ok (.getfield 9, 3) := by decide +kernel
theorem dX3_addStop_13 : decode cX3_addStop 13 = .ok (.aload_n 0, 1) := by decide +kernel
theorem dX3_addStop_14 : decode cX3_addStop 14 = .ok (.getfield 49, 3) := by decide +kernel
theorem dX3_addStop_17 : decode cX3_addStop 17 = .ok (.iload_n 1, 1) := by decide +kernel
theorem dX3_addStop_18 : decode cX3_addStop 18 = .ok (.iastore, 1) := by decide +kernel
theorem dX3_addStop_19 : decode cX3_addStop 19 = .ok (.aload_n 0, 1) := by decide +kernel
theorem dX3_addStop_20 : decode cX3_addStop 20 = .ok (.dup, 1) := by decide +kernel
theorem dX3_addStop_21 : decode cX3_addStop 21 = .ok (.getfield 49, 3) := by decide +kernel
theorem dX3_addStop_24 : decode cX3_addStop 24 = .ok (.iconst 1, 1) := by decide +kernel
theorem dX3_addStop_25 : decode cX3_addStop 25 = .ok (.iadd, 1) := by decide +kernel
theorem dX3_addStop_26 : decode cX3_addStop 26 = .ok (.putfield 49, 3) := by decide +kernel
theorem dX3_addStop_29 : decode cX3_addStop 29 = .ok (.return_, 1) := by decide +kernel
theorem dX1_readZone_0 : decode cX1_readZone 0 = .ok (.aload_n 0, 1) := by decide +kernel
theorem dX1_readZone_1 : decode cX1_readZone 1 = .ok (.getfield 19, 3) := by decide +kernel
theorem dX1_readZone_4 : decode cX1_readZone 4 = .ok (.getfield 79, 3) := by decide +kernel
theorem dX1_readZone_7 : decode cX1_readZone 7 = .ok (.bipush 12, 2) := by decide +kernel
theorem dX1_readZone_9 : decode cX1_readZone 9 = .ok (.if_icmp .ne 25, 3) := by decide +kernel
theorem dX1_readZone_12 : decode cX1_readZone 12 = .ok (.aload_n 0, 1) := by decide +kernel
theorem dX1_readZone_13 : decode cX1_readZone 13 = .ok (.getfield 42, 3) := by decide +kernel
theorem dX1_readZone_16 : decode cX1_readZone 16 = .ok (.iconst 2, 1) := by decide +kernel
theorem dX1_readZone_17 : decode cX1_readZone 17 = .ok (.if_icmp .ne 17, 3) := by decide +kernel
theorem dX1_readZone_20 : decode cX1_readZone 20 = .ok (.aload_n 0, 1) := by decide +kernel
theorem dX1_readZone_21 : decode cX1_readZone 21 = .ok (.getfield 52, 3) := by decide +kernel
theorem dX1_readZone_24 : decode cX1_readZone 24 = .ok (.iconst 3, 1) := by decide +kernel
theorem dX1_readZone_25 : decode cX1_readZone 25 = .ok (.if_icmp .gt 9, 3) := by decide +kernel
theorem dX1_readZone_28 : decode cX1_readZone 28 = .ok (.aload_n 0, 1) := by decide +kernel
theorem dX1_readZone_29 : decode cX1_readZone 29 = .ok (.iconst 5, 1) := by decide +kernel
theorem dX1_readZone_30 : decode cX1_readZone 30 = .ok (.invokevirtual 75, 3) := by decide +kernel
theorem dX1_readZone_33 : decode cX1_readZone 33 = .ok (.pop, 1) := by decide +kernel
theorem dX1_readZone_34 : decode cX1_readZone 34 = .ok (.aload_n 0, 1) := by decide +kernel
theorem dX1_readZone_35 : decode cX1_readZone 35 = .ok (.iconst 0, 1) := by decide +kernel
theorem dX1_readZone_36 : decode cX1_readZone 36 = .ok (.iconst 3, 1) := by decide +kernel
theorem dX1_readZone_37 : decode cX1_readZone 37 = .ok (.invokevirtual 84, 3) := by decide +kernel
theorem dX1_readZone_40 : decode cX1_readZone 40 = .ok (.istore_n 1, 1) := by decide +kernel
theorem dX1_readZone_41 : decode cX1_readZone 41 = .ok (.aload_n 0, 1) := by decide +kernel
theorem dX1_readZone_42 : decode cX1_readZone 42 = .ok (.invokevirtual 35, 3) := by decide +kernel
theorem dX1_readZone_45 : decode cX1_readZone 45 = .ok (.ifCond .ne 11, 3) := by decide +kernel
theorem dX1_readZone_48 : decode cX1_readZone 48 = .ok (.aload_n 0, 1) := by decide +kernel
theorem dX1_readZone_49 : decode cX1_readZone 49 = .ok (.getfield 19, 3) := by decide +kernel
theorem dX1_readZone_52 : decode cX1_readZone 52 = .ok (.iload_n 1, 1) := by decide +kernel
theorem dX1_readZone_53 : decode cX1_readZone 53 = .ok (.invokevirtual 87, 3) := by decide +kernel
theorem dX1_readZone_56 : decode cX1_readZone 56 = .ok (.return_, 1) := by decide +kernel
theorem dX1_readSemicolon_0 : decode cX1_readSemicolon 0 = .ok (.aload_n 0, 1) := by decide +kernel
theorem dX1_readSemicolon_1 : decode cX1_readSemicolon 1 = .ok (.getfield 42, 3) := by decide +kernel
theorem dX1_readSemicolon_4 : decode cX1_readSemicolon 4 = .ok (.iconst 3, 1) := by decide +kernel
theorem dX1_readSemicolon_5 : decode cX1_readSemicolon 5 = .ok (.if_icmp .eq 12, 3) := by decide +kernel
theorem dX1_readSemicolon_8 : decode cX1_readSemicolon 8 = .ok (.aload_n 0, 1) := by decide +kernel
theorem dX1_readSemicolon_9 : decode cX1_readSemicolon 9 = .ok (.iconst 1, 1) := by decide +kernel
theorem dX1_readSemicolon_10 : decode cX1_readSemicolon 10 = .ok (.invokevirtual 75, 3) := by decide +kernel
theorem dX1_readSemicolon_13 : decode cX1_readSemicolon 13 = .ok (.pop, 1) := by decide +kernel
theorem dX1_readSemicolon_14 : decode cX1_readSemicolon 14 = .ok (.goto 21, 3) := by decide +kernel
theorem dX1_readSemicolon_17 : decode cX1_readSemicolon 17 = .ok (.iload_n 1, 1) := by decide +kernel
theorem dX1_readSemicolon_18 : decode cX1_readSemicolon 18 = .ok (.ifCond .ne 13, 3) := by decide +kernel
theorem dX1_readSemicolon_21 : decode cX1_readSemicolon 21 = .ok (.aload_n 0, 1) := by decide +kernel
theorem dX1_readSemicolon_22 : decode cX1_readSemicolon 22 = .ok (.bipush 6, 2) := by decide +kernel
theorem dX1_readSemicolon_24 : decode cX1_readSemicolon 24 = .ok (.invokevirtual 75, 3) := by decide +kernel
theorem dX1_readSemicolon_27 : decode cX1_readSemicolon 27 = .ok (.pop, 1) := by decide +kernel
theorem dX1_readSemicolon_28 : decode cX1_readSemicolon 28 = .ok (.goto 7, 3) := by decide +kernel
theorem dX1_readSemicolon_31 : decode cX1_readSemicolon 31 = .ok (.aload_n 0, 1) := by decide +kernel
theorem dX1_readSemicolon_32 : decode cX1_readSemicolon 32 = .ok (.invokevirtual 32, 3) := by decide +kernel
theorem dX1_readSemicolon_35 : decode cX1_readSemicolon 35 = .ok (.aload_n 0, 1) := by decide +kernel
theorem dX1_readSemicolon_36 : decode cX1_readSemicolon 36 = .ok (.invokevirtual 35, 3) := by decide +kernel
theorem dX1_readSemicolon_39 : decode cX1_readSemicolon 39 = .ok (.ifCond .ne 7, 3) := by decide +kernel
theorem dX1_readSemicolon_42 : decode cX1_readSemicolon 42 = .ok (.iconst 1, 1) := by decide +kernel
theorem dX1_readSemicolon_43 : decode cX1_readSemicolon 43 = .ok (.goto 4, 3) := by decide +kernel
theorem dX1_readSemicolon_46 : decode cX1_readSemicolon 46 = .ok (.iconst 0, 1) := by decide +kernel
theorem dX1_readSemicolon_47 : decode cX1_readSemicolon 47 = .ok (.ireturn, 1) := by decide +kernel
theorem dX1_readLine_0 : decode cX1_readLine 0 = .ok (.aload_n 0, 1) := by decide +kernel
theorem dX1_readLine_1 : decode cX1_readLine 1 = .ok (.ldc 91, 2) := by decide +kernel
theorem dX1_readLine_3 : decode cX1_readLine 3 = .ok (.invokevirtual 93, 3) := by decide +kernel
theorem dX1_readLine_6 : decode cX1_readLine 6 = .ok (.iconst 0, 1) := by decide +kernel
theorem dX1_readLine_7 : decode cX1_readLine 7 = .ok (.istore_n 1, 1) := by decide +kernel
theorem dX1_readLine_8 : decode cX1_readLine 8 = .ok (.iload_n 1, 1) := by decide +kernel
theorem dX1_readLine_9 : decode cX1_readLine 9 = .ok (.iconst 2, 1) := by decide +kernel
theorem dX1_readLine_10 : decode cX1_readLine 10 = .ok (.if_icmp .ge 13, 3) := by decide +kernel
theorem dX1_readLine_13 : decode cX1_readLine 13 = .ok (.aload_n 0, 1) := by decide +kernel
theorem dX1_readLine_14 : decode cX1_readLine 14 = .ok (.invokevirtual 97, 3) := by decide +kernel
theorem dX1_readLine_17 : decode cX1_readLine 17 = .ok (.iinc 1 1, 3) := by decide +kernel
theorem dX1_readLine_20 : decode cX1_readLine 20 = .ok (.goto (-12), 3) := by decide +kernel
theorem dX1_readLine_23 : decode cX1_readLine 23 = .ok (.iconst 2, 1) := by decide +kernel
theorem dX1_readLine_24 : decode cX1_readLine 24 = .ok (.istore_n 1, 1) := by decide +kernel
theorem dX1_readLine_25 : decode cX1_readLine 25 = .ok (.iload_n 1, 1) := by decide +kernel
theorem dX1_readLine_26 : decode cX1_readLine 26 = .ok (.bipush 12, 2) := by decide +kernel
theorem dX1_readLine_28 : decode cX1_readLine 28 = .ok (.if_icmp .gt 21, 3) := by decide +kernel
theorem dX1_readLine_31 : decode cX1_readLine 31 = .ok (.aload_n 0, 1) := by decide +kernel
theorem dX1_readLine_32 : decode cX1_readLine 32 = .ok (.getfield 42, 3) := by decide +kernel
theorem dX1_readLine_35 : decode cX1_readLine 35 = .ok (.iconst 2, 1) := by decide +kernel
theorem dX1_readLine_36 : decode cX1_readLine 36 = .ok (.if_icmp .ne 13, 3) := by decide +kernel
theorem dX1_readLine_39 : decode cX1_readLine 39 = .ok (.aload_n 0, 1) := by decide +kernel
theorem dX1_readLine_40 : decode cX1_readLine 40 = .ok (.invokevirtual 97, 3) := by decide +kernel
theorem dX1_readLine_43 : decode cX1_readLine 43 = .ok (.iinc 1 1, 3) := by decide +kernel
theorem dX1_readLine_46 : decode cX1_readLine 46 = .ok (.goto (-21), 3) := by decide +kernel
theorem dX1_readLine_49 : decode cX1_readLine 49 = .ok (.aload_n 0, 1) := by decide +kernel
theorem dX1_readLine_50 : decode cX1_readLine 50 = .ok (.iconst 1, 1) := by decide +kernel
theorem dX1_readLine_51 : decode cX1_readLine 51 = .ok (.invokevirtual 100, 3) := by decide +kernel
theorem dX1_readLine_54 : decode cX1_readLine 54 = .ok (.pop, 1) := by decide +kernel
theorem dX1_readLine_55 : decode cX1_readLine 55 = .ok (.return_, 1) := by decide +kernel
theorem dX1_isName_0 : decode cX1_isName 0 = .ok (.aload_n 0, 1) := by decide +kernel
theorem dX1_isName_1 : decode cX1_isName 1 = .ok (.getfield 42, 3) := by decide +kernel
theorem dX1_isName_4 : decode cX1_isName 4 = .ok (.iconst 1, 1) := by decide +kernel
theorem dX1_isName_5 : decode cX1_isName 5 = .ok (.if_icmp .ne 21, 3) := by decide +kernel
theorem dX1_isName_8 : decode cX1_isName 8 = .ok (.aload_n 0, 1) := by decide +kernel
theorem dX1_isName_9 : decode cX1_isName 9 = .ok (.getfield 29, 3) := by decide +kernel
theorem dX1_isName_12 : decode cX1_isName 12 = .ok (.aload_n 0, 1) := by decide +kernel
theorem dX1_isName_13 : decode cX1_isName 13 = .ok (.getfield 39, 3) := by decide +kernel
theorem dX1_isName_16 : decode cX1_isName 16 = .ok (.isub, 1) := by decide +kernel
theorem dX1_isName_17 : decode cX1_isName 17 = .ok (.bipush 6, 2) := by decide +kernel
theorem dX1_isName_19 : decode cX1_isName 19 = .ok (.if_icmp .gt 7, 3) := by decide +kernel
theorem dX1_isName_22 : decode cX1_isName 22 = .ok (.iconst 1, 1) := by decide +kernel
theorem dX1_isName_23 : decode cX1_isName 23 = .ok (.goto 4, 3) := by decide +kernel
theorem dX1_isName_26 : decode cX1_isName 26 = .ok (.iconst 0, 1) := by decide +kernel
theorem dX1_isName_27 : decode cX1_isName 27 = .ok (.ireturn, 1) := by decide +kernel
theorem dX1_findPassenger_0 : decode cX1_findPassenger 0 = .ok (.iconst 0, 1) := by decide +kernel
theorem dX1_findPassenger_1 : decode cX1_findPassenger 1 = .ok (.istore_n 1, 1) := by decide +kernel
theorem dX1_findPassenger_2 : decode cX1_findPassenger 2 = .ok (.iload_n 1, 1) := by decide +kernel
theorem dX1_findPassenger_3 : decode cX1_findPassenger 3 = .ok (.aload_n 0, 1) := by decide +kernel
theorem dX1_findPassenger_4 : decode cX1_findPassenger 4 = .ok (.getfield 19, 3) := by decide +kernel
theorem dX1_findPassenger_7 : decode cX1_findPassenger 7 = .ok (.getfield 109, 3) := by decide +kernel
theorem dX1_findPassenger_10 : decode cX1_findPassenger 10 = .ok (.if_icmp .ge 30, 3) := by decide +kernel
theorem dX1_findPassenger_13 : decode cX1_findPassenger 13 = .ok (.aload_n 0, 1) := by decide +kernel
theorem dX1_findPassenger_14 : decode cX1_findPassenger 14 = .ok (.aload_n 0, 1) := by decide +kernel
theorem dX1_findPassenger_15 : decode cX1_findPassenger 15 = .ok (.getfield 19, 3) := by decide +kernel
theorem dX1_findPassenger_18 : decode cX1_findPassenger 18 = .ok (.getfield 139, 3) := by decide +kernel
theorem dX1_findPassenger_21 : decode cX1_findPassenger 21 = .ok (.iload_n 1, 1) := by decide +kernel
theorem dX1_findPassenger_22 : decode cX1_findPassenger 22 = .ok (.aaload, 1) := by decide +kernel
theorem dX1_findPassenger_23 : decode cX1_findPassenger 23 = .ok (.getfield 143, 3) := by decide +kernel
theorem dX1_findPassenger_26 : decode cX1_findPassenger 26 = .ok (.invokevirtual 71, 3) := by decide +kernel
theorem dX1_findPassenger_29 : decode cX1_findPassenger 29 = .ok (.ifCond .eq 5, 3) := by decide +kernel
theorem dX1_findPassenger_32 : decode cX1_findPassenger 32 = .ok (.iload_n 1, 1) := by decide +kernel
theorem dX1_findPassenger_33 : decode cX1_findPassenger 33 = .ok (.ireturn, 1) := by decide +kernel
theorem dX1_findPassenger_34 : decode cX1_findPassenger 34 = .ok (.iinc 1 1, 3) := by decide +kernel
theorem dX1_findPassenger_37 : decode cX1_findPassenger 37 = .ok (.goto (-35), 3) := by decide +kernel
theorem dX1_findPassenger_40 : decode cX1_findPassenger 40 = .ok (.iconst (-1), 1) := by decide +kernel
theorem dX1_findPassenger_41 : decode cX1_findPassenger 41 = .ok (.ireturn, 1) := by decide +kernel
theorem dJ5_init_d00df_0 : decode cJ5_init_d00df 0 = .ok (.aload_n 0, 1) := by decide +kernel
theorem dJ5_init_d00df_1 : decode cJ5_init_d00df 1 = .ok (.invokespecial 3, 3) := by decide +kernel
theorem dJ5_init_d00df_4 : decode cJ5_init_d00df 4 = .ok (.getstatic 18, 3) := by decide +kernel
theorem dJ5_init_d00df_7 : decode cJ5_init_d00df 7 = .ok (.ifCond .eq 18, 3) := by decide +kernel
theorem dJ5_init_d00df_10 : decode cJ5_init_d00df 10 = .ok (.aload_n 0, 1) := by decide +kernel
theorem dJ5_init_d00df_11 : decode cJ5_init_d00df 11 = .ok (.iload_n 1, 1) := by decide +kernel
theorem dJ5_init_d00df_12 : decode cJ5_init_d00df 12 = .ok (.newarray .byte, 2) := by decide +kernel
theorem dJ5_init_d00df_14 : decode cJ5_init_d00df 14 = .ok (.putfield 15, 3) := by decide +kernel
theorem dJ5_init_d00df_17 : decode cJ5_init_d00df 17 = .ok (.aload_n 0, 1) := by decide +kernel
theorem dJ5_init_d00df_18 : decode cJ5_init_d00df 18 = .ok (.iconst 0, 1) := by decide +kernel
theorem dJ5_init_d00df_19 : decode cJ5_init_d00df 19 = .ok (.putfield 22, 3) := by decide +kernel
theorem dJ5_init_d00df_22 : decode cJ5_init_d00df 22 = .ok (.goto 16, 3) := by decide +kernel
theorem dJ5_init_d00df_38 : decode cJ5_init_d00df 38 = .ok (.return_, 1) := by decide +kernel
theorem dJ4_init_da8c8_0 : decode cJ4_init_da8c8 0 = .ok (.aload_n 0, 1) := by decide +kernel
theorem dJ4_init_da8c8_1 : decode cJ4_init_da8c8 1 = .ok (.bipush 16, 2) := by decide +kernel
theorem dJ4_init_da8c8_3 : decode cJ4_init_da8c8 3 = .ok (.invokespecial 1, 3) := by decide +kernel
theorem dJ4_init_da8c8_6 : decode cJ4_init_da8c8 6 = .ok (.return_, 1) := by decide +kernel
theorem dJ8_newLength_cabcc_0 : decode cJ8_newLength_cabcc 0 = .ok (.iload_n 0, 1) := by decide +kernel
theorem dJ8_newLength_cabcc_1 : decode cJ8_newLength_cabcc 1 = .ok (.iload_n 1, 1) := by decide +kernel
theorem dJ8_newLength_cabcc_2 : decode cJ8_newLength_cabcc 2 = .ok (.iload_n 2, 1) := by decide +kernel
theorem dJ8_newLength_cabcc_3 : decode cJ8_newLength_cabcc 3 = .ok (.invokestatic 194, 3) := by decide +kernel
theorem dJ8_newLength_cabcc_6 : decode cJ8_newLength_cabcc 6 = .ok (.iadd, 1) := by decide +kernel
theorem dJ8_newLength_cabcc_7 : decode cJ8_newLength_cabcc 7 = .ok (.istore_n 3, 1) := by decide +kernel
theorem dJ8_newLength_cabcc_8 : decode cJ8_newLength_cabcc 8 = .ok (.iconst 0, 1) := by decide +kernel
theorem dJ8_newLength_cabcc_9 : decode cJ8_newLength_cabcc 9 = .ok (.iload_n 3, 1) := by decide +kernel
theorem dJ8_newLength_cabcc_10 : decode cJ8_newLength_cabcc 10 = .ok (.if_icmp .ge 11, 3) := by decide +kernel
theorem dJ8_newLength_cabcc_13 : decode cJ8_newLength_cabcc 13 = .ok (.iload_n 3, 1) := by decide +kernel
theorem dJ8_newLength_cabcc_14 : decode cJ8_newLength_cabcc 14 = .ok (.ldc 200, 2) := by decide +kernel
theorem dJ8_newLength_cabcc_16 : decode cJ8_newLength_cabcc 16 = .ok (.if_icmp .gt 5, 3) := by decide +kernel
theorem dJ8_newLength_cabcc_19 : decode cJ8_newLength_cabcc 19 = .ok (.iload_n 3, 1) := by decide +kernel
theorem dJ8_newLength_cabcc_20 : decode cJ8_newLength_cabcc 20 = .ok (.ireturn, 1) := by decide +kernel
theorem dJ5_newCapacity_0f7a4_0 : decode cJ5_newCapacity_0f7a4 0 = .ok (.aload_n 0, 1) := by decide +kernel
theorem dJ5_newCapacity_0f7a4_1 : decode cJ5_newCapacity_0f7a4 1 = .ok (.getfield 15, 3) := by decide +kernel
theorem dJ5_newCapacity_0f7a4_4 : decode cJ5_newCapacity_0f7a4 4 = .ok (.arraylength, 1) := by decide +kernel
theorem dJ5_newCapacity_0f7a4_5 : decode cJ5_newCapacity_0f7a4 5 = .ok (.istore_n 2, 1) := by decide +kernel
theorem dJ5_newCapacity_0f7a4_6 : decode cJ5_newCapacity_0f7a4 6 = .ok (.iload_n 1, 1) := by decide +kernel
theorem dJ5_newCapacity_0f7a4_7 : decode cJ5_newCapacity_0f7a4 7 = .ok (.aload_n 0, 1) := by decide +kernel
theorem dJ5_newCapacity_0f7a4_8 : decode cJ5_newCapacity_0f7a4 8 = .ok (.getfield 22, 3) := by decide +kernel
theorem dJ5_newCapacity_0f7a4_11 : decode cJ5_newCapacity_0f7a4 11 = .ok (.ishl, 1) := by decide +kernel
theorem dJ5_newCapacity_0f7a4_12 : decode cJ5_newCapacity_0f7a4 12 = .ok (.istore_n 3, 1) := by decide +kernel
theorem dJ5_newCapacity_0f7a4_13 : decode cJ5_newCapacity_0f7a4 13 = .ok (.iload_n 3, 1) := by decide +kernel
theorem dJ5_newCapacity_0f7a4_14 : decode cJ5_newCapacity_0f7a4 14 = .ok (.iload_n 2, 1) := by decide +kernel
theorem dJ5_newCapacity_0f7a4_15 : decode cJ5_newCapacity_0f7a4 15 = .ok (.isub, 1) := by decide +kernel
theorem dJ5_newCapacity_0f7a4_16 : decode cJ5_newCapacity_0f7a4 16 = .ok (.istore 4, 2) := by decide +kernel
theorem dJ5_newCapacity_0f7a4_18 : decode cJ5_newCapacity_0f7a4 18 = .ok (.iload_n 2, 1) := by decide +kernel
theorem dJ5_newCapacity_0f7a4_19 : decode cJ5_newCapacity_0f7a4 19 = .ok (.iload 4, 2) := by decide +kernel
theorem dJ5_newCapacity_0f7a4_21 : decode cJ5_newCapacity_0f7a4 21 = .ok (.iload_n 2, 1) := by decide +kernel
theorem dJ5_newCapacity_0f7a4_22 : decode cJ5_newCapacity_0f7a4 22 = .ok (.iconst 2, 1) := by decide +kernel
theorem dJ5_newCapacity_0f7a4_23 : decode cJ5_newCapacity_0f7a4 23 = .ok (.aload_n 0, 1) := by decide +kernel
theorem dJ5_newCapacity_0f7a4_24 : decode cJ5_newCapacity_0f7a4 24 = .ok (.getfield 22, 3) := by decide +kernel
theorem dJ5_newCapacity_0f7a4_27 : decode cJ5_newCapacity_0f7a4 27 = .ok (.ishl, 1) := by decide +kernel
theorem dJ5_newCapacity_0f7a4_28 : decode cJ5_newCapacity_0f7a4 28 = .ok (.iadd, 1) := by decide +kernel
theorem dJ5_newCapacity_0f7a4_29 : decode cJ5_newCapacity_0f7a4 29 = .ok (.invokestatic 114, 3) := by decide +kernel
theorem dJ5_newCapacity_0f7a4_32 : decode cJ5_newCapacity_0f7a4 32 = .ok (.istore 5, 2) := by decide +kernel
theorem dJ5_newCapacity_0f7a4_34 : decode cJ5_newCapacity_0f7a4 34 = .ok (.iload 5, 2) := by decide +kernel
theorem dJ5_newCapacity_0f7a4_36 : decode cJ5_newCapacity_0f7a4 36 = .ok (.ldc 39, 2) := by decide +kernel
theorem dJ5_newCapacity_0f7a4_38 : decode cJ5_newCapacity_0f7a4 38 = .ok (.if_icmp .ne 13, 3) := by decide +kernel
theorem dJ5_newCapacity_0f7a4_51 : decode cJ5_newCapacity_0f7a4 51 = .ok (.iload 5, 2) := by decide +kernel
theorem dJ5_newCapacity_0f7a4_53 : decode cJ5_newCapacity_0f7a4 53 = .ok (.aload_n 0, 1) := by decide +kernel
theorem dJ5_newCapacity_0f7a4_54 : decode cJ5_newCapacity_0f7a4 54 = .ok (.getfield 22, 3) := by decide +kernel
theorem dJ5_newCapacity_0f7a4_57 : decode cJ5_newCapacity_0f7a4 57 = .ok (.ishr, 1) := by decide +kernel
theorem dJ5_newCapacity_0f7a4_58 : decode cJ5_newCapacity_0f7a4 58 = .ok (.ireturn, 1) := by decide +kernel
theorem dJ7_copyOf_9075b_0 : decode cJ7_copyOf_9075b 0 = .ok (.iload_n 1, 1) := by decide +kernel
theorem dJ7_copyOf_9075b_1 : decode cJ7_copyOf_9075b 1 = .ok (.aload_n 0, 1) := by decide +kernel
theorem dJ7_copyOf_9075b_2 : decode cJ7_copyOf_9075b 2 = .ok (.arraylength, 1) := by decide +kernel
theorem dJ7_copyOf_9075b_3 : decode cJ7_copyOf_9075b 3 = .ok (.if_icmp .ne 11, 3) := by decide +kernel
theorem dJ7_copyOf_9075b_14 : decode cJ7_copyOf_9075b 14 = .ok (.iload_n 1, 1) := by decide +kernel
theorem dJ7_copyOf_9075b_15 : decode cJ7_copyOf_9075b 15 = .ok (.newarray .byte, 2) := by decide +kernel
theorem dJ7_copyOf_9075b_17 : decode cJ7_copyOf_9075b 17 = .ok (.astore_n 2, 1) := by decide +kernel
theorem dJ7_copyOf_9075b_18 : decode cJ7_copyOf_9075b 18 = .ok (.aload_n 0, 1) := by decide +kernel
theorem dJ7_copyOf_9075b_19 : decode cJ7_copyOf_9075b 19 = .ok (.iconst 0, 1) := by decide +kernel
theorem dJ7_copyOf_9075b_20 : decode cJ7_copyOf_9075b 20 = .ok (.aload_n 2, 1) := by decide +kernel
theorem dJ7_copyOf_9075b_21 : decode cJ7_copyOf_9075b 21 = .ok (.iconst 0, 1) := by decide +kernel
theorem dJ7_copyOf_9075b_22 : decode cJ7_copyOf_9075b 22 = .ok (.aload_n 0, 1) := by decide +kernel
theorem dJ7_copyOf_9075b_23 : decode cJ7_copyOf_9075b 23 = .ok (.arraylength, 1) := by decide +kernel
theorem dJ7_copyOf_9075b_24 : decode cJ7_copyOf_9075b 24 = .ok (.iload_n 1, 1) := by decide +kernel
theorem dJ7_copyOf_9075b_25 : decode cJ7_copyOf_9075b 25 = .ok (.invokestatic 304, 3) := by decide +kernel
theorem dJ7_copyOf_9075b_28 : decode cJ7_copyOf_9075b 28 = .ok (.invokestatic 150, 3) := by decide +kernel
theorem dJ7_copyOf_9075b_31 : decode cJ7_copyOf_9075b 31 = .ok (.aload_n 2, 1) := by decide +kernel
theorem dJ7_copyOf_9075b_32 : decode cJ7_copyOf_9075b 32 = .ok (.areturn, 1) := by decide +kernel
theorem dJ5_ensureCapacityInternal_d00df_0 : decode cJ5_ensureCapacityInternal_d00df 0 = .ok (.aload_n 0, 1) := by decide +kernel
theorem dJ5_ensureCapacityInternal_d00df_1 : decode cJ5_ensureCapacityInternal_d00df 1 = .ok (.getfield 15, 3) := by decide +kernel
theorem dJ5_ensureCapacityInternal_d00df_4 : decode cJ5_ensureCapacityInternal_d00df 4 = .ok (.arraylength, 1) := by decide +kernel
theorem dJ5_ensureCapacityInternal_d00df_5 : decode cJ5_ensureCapacityInternal_d00df 5 = .ok (.aload_n 0, 1) := by decide +kernel
theorem dJ5_ensureCapacityInternal_d00df_6 : decode cJ5_ensureCapacityInternal_d00df 6 = .ok (.getfield 22, 3) := by decide +kernel
theorem dJ5_ensureCapacityInternal_d00df_9 : decode cJ5_ensureCapacityInternal_d00df 9 = .ok (.ishr, 1) := by decide +kernel
theorem dJ5_ensureCapacityInternal_d00df_10 : decode cJ5_ensureCapacityInternal_d00df 10 = .ok (.istore_n 2, 1) := by decide +kernel
theorem dJ5_ensureCapacityInternal_d00df_11 : decode cJ5_ensureCapacityInternal_d00df 11 = .ok (.iload_n 1, 1) := by decide +kernel
theorem dJ5_ensureCapacityInternal_d00df_12 : decode cJ5_ensureCapacityInternal_d00df 12 = .ok (.iload_n 2, 1) := by decide +kernel
theorem dJ5_ensureCapacityInternal_d00df_13 : decode cJ5_ensureCapacityInternal_d00df 13 = .ok (.isub, 1) := by decide +kernel
theorem dJ5_ensureCapacityInternal_d00df_14 : decode cJ5_ensureCapacityInternal_d00df 14 = .ok (.ifCond .le 24, 3) := by decide +kernel
theorem dJ5_ensureCapacityInternal_d00df_17 : decode cJ5_ensureCapacityInternal_d00df 17 = .ok (.aload_n 0, 1) := by decide +kernel
theorem dJ5_ensureCapacityInternal_d00df_18 : decode cJ5_ensureCapacityInternal_d00df 18 = .ok (.aload_n 0, 1) := by decide +kernel
theorem dJ5_ensureCapacityInternal_d00df_19 : decode cJ5_ensureCapacityInternal_d00df 19 = .ok (.getfield 15, 3) := by decide +kernel
theorem dJ5_ensureCapacityInternal_d00df_22 : decode cJ5_ensureCapacityInternal_d00df 22 = .ok (.aload_n 0, 1) := by decide +kernel
theorem dJ5_ensureCapacityInternal_d00df_23 : decode cJ5_ensureCapacityInternal_d00df 23 = .ok (.iload_n 1, 1) := by decide +kernel
theorem dJ5_ensureCapacityInternal_d00df_24 : decode cJ5_ensureCapacityInternal_d00df 24 = .ok (.invokevirtual 104, 3) := by decide +kernel
theorem dJ5_ensureCapacityInternal_d00df_27 : decode cJ5_ensureCapacityInternal_d00df 27 = .ok (.aload_n 0, 1) := by decide +kernel
theorem dJ5_ensureCapacityInternal_d00df_28 : decode cJ5_ensureCapacityInternal_d00df 28 = .ok (.getfield 22, 3) := by decide +kernel
theorem dJ5_ensureCapacityInternal_d00df_31 : decode cJ5_ensureCapacityInternal_d00df 31 = .ok (.ishl, 1) := by decide +kernel
theorem dJ5_ensureCapacityInternal_d00df_32 : decode cJ5_ensureCapacityInternal_d00df 32 = .ok (.invokestatic 108, 3) := by decide +kernel
theorem dJ5_ensureCapacityInternal_d00df_35 : decode cJ5_ensureCapacityInternal_d00df 35 = .ok (.putfield 15, 3) := by decide +kernel
theorem dJ5_ensureCapacityInternal_d00df_38 : decode cJ5_ensureCapacityInternal_d00df 38 = .ok (.return_, 1) := by decide +kernel
theorem dJ5_isLatin1_aae02_0 : decode cJ5_isLatin1_aae02 0 = .ok (.getstatic 18, 3) := by decide +kernel
theorem dJ5_isLatin1_aae02_3 : decode cJ5_isLatin1_aae02 3 = .ok (.ifCond .eq 14, 3) := by decide +kernel
theorem dJ5_isLatin1_aae02_6 : decode cJ5_isLatin1_aae02 6 = .ok (.aload_n 0, 1) := by decide +kernel
theorem dJ5_isLatin1_aae02_7 : decode cJ5_isLatin1_aae02 7 = .ok (.getfield 22, 3) := by decide +kernel
theorem dJ5_isLatin1_aae02_10 : decode cJ5_isLatin1_aae02 10 = .ok (.ifCond .ne 7, 3) := by decide +kernel
theorem dJ5_isLatin1_aae02_13 : decode cJ5_isLatin1_aae02 13 = .ok (.iconst 1, 1) := by decide +kernel
theorem dJ5_isLatin1_aae02_14 : decode cJ5_isLatin1_aae02 14 = .ok (.goto 4, 3) := by decide +kernel
theorem dJ5_isLatin1_aae02_17 : decode cJ5_isLatin1_aae02 17 = .ok (.iconst 0, 1) := by decide +kernel
theorem dJ5_isLatin1_aae02_18 : decode cJ5_isLatin1_aae02 18 = .ok (.ireturn, 1) := by decide +kernel
theorem dJ1_canEncode_fc78d_0 : decode cJ1_canEncode_fc78d 0 = .ok (.iload_n 0, 1) := by decide +kernel
theorem dJ1_canEncode_fc78d_1 : decode cJ1_canEncode_fc78d 1 = .ok (.sipush 255, 3) := by decide +kernel
theorem dJ1_canEncode_fc78d_4 : decode cJ1_canEncode_fc78d 4 = .ok (.if_icmp .gt 7, 3) := by decide +kernel
theorem dJ1_canEncode_fc78d_7 : decode cJ1_canEncode_fc78d 7 = .ok (.iconst 1, 1) := by decide +kernel
theorem dJ1_canEncode_fc78d_8 : decode cJ1_canEncode_fc78d 8 = .ok (.goto 4, 3) := by decide +kernel
theorem dJ1_canEncode_fc78d_11 : decode cJ1_canEncode_fc78d 11 = .ok (.iconst 0, 1) := by decide +kernel
theorem dJ1_canEncode_fc78d_12 : decode cJ1_canEncode_fc78d 12 = .ok (.ireturn, 1) := by decide +kernel
theorem dJ5_append_3fe6f_0 : decode cJ5_append_3fe6f 0 = .ok (.aload_n 0, 1) := by decide +kernel
theorem dJ5_append_3fe6f_1 : decode cJ5_append_3fe6f 1 = .ok (.aload_n 0, 1) := by decide +kernel
theorem dJ5_append_3fe6f_2 : decode cJ5_append_3fe6f 2 = .ok (.getfield 79, 3) := by decide +kernel
theorem dJ5_append_3fe6f_5 : decode cJ5_append_3fe6f 5 = .ok (.iconst 1, 1) := by decide +kernel
theorem dJ5_append_3fe6f_6 : decode cJ5_append_3fe6f 6 = .ok (.iadd, 1) := by decide +kernel
theorem dJ5_append_3fe6f_7 : decode cJ5_append_3fe6f 7 = .ok (.invokevirtual 100, 3) := by decide +kernel
theorem dJ5_append_3fe6f_10 : decode cJ5_append_3fe6f 10 = .ok (.aload_n 0, 1) := by decide +kernel
theorem dJ5_append_3fe6f_11 : decode cJ5_append_3fe6f 11 = .ok (.invokevirtual 83, 3) := by decide +kernel
theorem dJ5_append_3fe6f_14 : decode cJ5_append_3fe6f 14 = .ok (.ifCond .eq 31, 3) := by decide +kernel
theorem dJ5_append_3fe6f_17 : decode cJ5_append_3fe6f 17 = .ok (.iload_n 1, 1) := by decide +kernel
theorem dJ5_append_3fe6f_18 : decode cJ5_append_3fe6f 18 = .ok (.invokestatic 191, 3) := by decide +kernel
theorem dJ5_append_3fe6f_21 : decode cJ5_append_3fe6f 21 = .ok (.ifCond .eq 24, 3) := by decide +kernel
theorem dJ5_append_3fe6f_24 : decode cJ5_append_3fe6f 24 = .ok (.aload_n 0, 1) := by decide +kernel
theorem dJ5_append_3fe6f_25 : decode cJ5_append_3fe6f 25 = .ok (.getfield 15, 3) := by decide +kernel
theorem dJ5_append_3fe6f_28 : decode cJ5_append_3fe6f 28 = .ok (.aload_n 0, 1) := by decide +kernel
theorem dJ5_append_3fe6f_29 : decode cJ5_append_3fe6f 29 = .ok (.dup, 1) := by decide +kernel
theorem dJ5_append_3fe6f_30 : decode cJ5_append_3fe6f 30 = .ok (.getfield 79, 3) := by decide +kernel
theorem dJ5_append_3fe6f_33 : decode cJ5_append_3fe6f 33 = .ok (.dup_x1, 1) := by decide +kernel
theorem dJ5_append_3fe6f_34 : decode cJ5_append_3fe6f 34 = .ok (.iconst 1, 1) := by decide +kernel
theorem dJ5_append_3fe6f_35 : decode cJ5_append_3fe6f 35 = .ok (.iadd, 1) := by decide +kernel
theorem dJ5_append_3fe6f_36 : decode cJ5_append_3fe6f 36 = .ok (.putfield 79, 3) := by decide +kernel
theorem dJ5_append_3fe6f_39 : decode cJ5_append_3fe6f 39 = .ok (.iload_n 1, 1) := by decide +kernel
theorem dJ5_append_3fe6f_40 : decode cJ5_append_3fe6f 40 = .ok (.i2b, 1) := by decide +kernel
theorem dJ5_append_3fe6f_41 : decode cJ5_append_3fe6f 41 = .ok (.bastore, 1) := by decide +kernel
theorem dJ5_append_3fe6f_42 : decode cJ5_append_3fe6f 42 = .ok (.goto 33, 3) := by decide +kernel
theorem dJ5_append_3fe6f_75 : decode cJ5_append_3fe6f 75 = .ok (.aload_n 0, 1) := by decide +kernel
theorem dJ5_append_3fe6f_76 : decode cJ5_append_3fe6f 76 = .ok (.areturn, 1) := by decide +kernel
theorem dJ4_append_cf468_0 : decode cJ4_append_cf468 0 = .ok (.aload_n 0, 1) := by decide +kernel
theorem dJ4_append_cf468_1 : decode cJ4_append_cf468 1 = .ok (.iload_n 1, 1) := by decide +kernel
theorem dJ4_append_cf468_2 : decode cJ4_append_cf468 2 = .ok (.invokespecial 50, 3) := by decide +kernel
theorem dJ4_append_cf468_5 : decode cJ4_append_cf468 5 = .ok (.pop, 1) := by decide +kernel
theorem dJ4_append_cf468_6 : decode cJ4_append_cf468 6 = .ok (.aload_n 0, 1) := by decide +kernel
theorem dJ4_append_cf468_7 : decode cJ4_append_cf468 7 = .ok (.areturn, 1) := by decide +kernel
theorem dJ5_getValue_6d5f1_0 : decode cJ5_getValue_6d5f1 0 = .ok (.aload_n 0, 1) := by decide +kernel
theorem dJ5_getValue_6d5f1_1 : decode cJ5_getValue_6d5f1 1 = .ok (.getfield 15, 3) := by decide +kernel
theorem dJ5_getValue_6d5f1_4 : decode cJ5_getValue_6d5f1 4 = .ok (.areturn, 1) := by decide +kernel
theorem dJ5_length_8abf5_0 : decode cJ5_length_8abf5 0 = .ok (.aload_n 0, 1) := by decide +kernel
theorem dJ5_length_8abf5_1 : decode cJ5_length_8abf5 1 = .ok (.getfield 79, 3) := by decide +kernel
theorem dJ5_length_8abf5_4 : decode cJ5_length_8abf5 4 = .ok (.ireturn, 1) := by decide +kernel
theorem dJ4_length_8abf5_0 : decode cJ4_length_8abf5 0 = .ok (.aload_n 0, 1) := by decide +kernel
theorem dJ4_length_8abf5_1 : decode cJ4_length_8abf5 1 = .ok (.invokespecial 343, 3) := by decide +kernel
theorem dJ4_length_8abf5_4 : decode cJ4_length_8abf5 4 = .ok (.ireturn, 1) := by decide +kernel
theorem dJ7_checkLength_df160_0 : decode cJ7_checkLength_df160 0 = .ok (.iload_n 1, 1) := by decide +kernel
theorem dJ7_checkLength_df160_1 : decode cJ7_checkLength_df160 1 = .ok (.iload_n 0, 1) := by decide +kernel
theorem dJ7_checkLength_df160_2 : decode cJ7_checkLength_df160 2 = .ok (.if_icmp .ge 35, 3) := by decide +kernel
theorem dJ7_checkLength_df160_37 : decode cJ7_checkLength_df160 37 = .ok (.return_, 1) := by decide +kernel
theorem dJ7_copyOfRangeByte_39247_0 : decode cJ7_copyOfRangeByte_39247 0 = .ok (.iload_n 1, 1) := by decide +kernel
theorem dJ7_copyOfRangeByte_39247_1 : decode cJ7_copyOfRangeByte_39247 1 = .ok (.iload_n 2, 1) := by decide +kernel
theorem dJ7_copyOfRangeByte_39247_2 : decode cJ7_copyOfRangeByte_39247 2 = .ok (.invokestatic 343, 3) := by decide +kernel
theorem dJ7_copyOfRangeByte_39247_5 : decode cJ7_copyOfRangeByte_39247 5 = .ok (.iload_n 2, 1) := by decide +kernel
theorem dJ7_copyOfRangeByte_39247_6 : decode cJ7_copyOfRangeByte_39247 6 = .ok (.iload_n 1, 1) := by decide +kernel
theorem dJ7_copyOfRangeByte_39247_7 : decode cJ7_copyOfRangeByte_39247 7 = .ok (.isub, 1) := by decide +kernel
theorem dJ7_copyOfRangeByte_39247_8 : decode cJ7_copyOfRangeByte_39247 8 = .ok (.istore_n 3, 1) := by decide +kernel
theorem dJ7_copyOfRangeByte_39247_9 : decode cJ7_copyOfRangeByte_39247 9 = .ok (.iload_n 3, 1) := by decide +kernel
theorem dJ7_copyOfRangeByte_39247_10 : decode cJ7_copyOfRangeByte_39247 10 = .ok (.newarray .byte, 2) := by decide +kernel
theorem dJ7_copyOfRangeByte_39247_12 : decode cJ7_copyOfRangeByte_39247 12 = .ok (.astore 4, 2) := by decide +kernel
theorem dJ7_copyOfRangeByte_39247_14 : decode cJ7_copyOfRangeByte_39247 14 = .ok (.aload_n 0, 1) := by decide +kernel
theorem dJ7_copyOfRangeByte_39247_15 : decode cJ7_copyOfRangeByte_39247 15 = .ok (.iload_n 1, 1) := by decide +kernel
theorem dJ7_copyOfRangeByte_39247_16 : decode cJ7_copyOfRangeByte_39247 16 = .ok (.aload 4, 2) := by decide +kernel
theorem dJ7_copyOfRangeByte_39247_18 : decode cJ7_copyOfRangeByte_39247 18 = .ok (.iconst 0, 1) := by decide +kernel
theorem dJ7_copyOfRangeByte_39247_19 : decode cJ7_copyOfRangeByte_39247 19 = .ok (.aload_n 0, 1) := by decide +kernel
theorem dJ7_copyOfRangeByte_39247_20 : decode cJ7_copyOfRangeByte_39247 20 = .ok (.arraylength, 1) := by decide +kernel
theorem dJ7_copyOfRangeByte_39247_21 : decode cJ7_copyOfRangeByte_39247 21 = .ok (.iload_n 1, 1) := by decide +kernel
theorem dJ7_copyOfRangeByte_39247_22 : decode cJ7_copyOfRangeByte_39247 22 = .ok (.isub, 1) := by decide +kernel
theorem dJ7_copyOfRangeByte_39247_23 : decode cJ7_copyOfRangeByte_39247 23 = .ok (.iload_n 3, 1) := by decide +kernel
theorem dJ7_copyOfRangeByte_39247_24 : decode cJ7_copyOfRangeByte_39247 24 = .ok (.invokestatic 304, 3) := by decide +kernel
theorem dJ7_copyOfRangeByte_39247_27 : decode cJ7_copyOfRangeByte_39247 27 = .ok (.invokestatic 150, 3) := by decide +kernel
theorem dJ7_copyOfRangeByte_39247_30 : decode cJ7_copyOfRangeByte_39247 30 = .ok (.aload 4, 2) := by decide +kernel
theorem dJ7_copyOfRangeByte_39247_32 : decode cJ7_copyOfRangeByte_39247 32 = .ok (.areturn, 1) := by decide +kernel
theorem dJ7_copyOfRange_39247_0 : decode cJ7_copyOfRange_39247 0 = .ok (.iload_n 1, 1) := by decide +kernel
theorem dJ7_copyOfRange_39247_1 : decode cJ7_copyOfRange_39247 1 = .ok (.ifCond .ne 9, 3) := by decide +kernel
theorem dJ7_copyOfRange_39247_4 : decode cJ7_copyOfRange_39247 4 = .ok (.iload_n 2, 1) := by decide +kernel
theorem dJ7_copyOfRange_39247_5 : decode cJ7_copyOfRange_39247 5 = .ok (.aload_n 0, 1) := by decide +kernel
theorem dJ7_copyOfRange_39247_6 : decode cJ7_copyOfRange_39247 6 = .ok (.arraylength, 1) := by decide +kernel
theorem dJ7_copyOfRange_39247_7 : decode cJ7_copyOfRange_39247 7 = .ok (.if_icmp .eq 10, 3) := by decide +kernel
theorem dJ7_copyOfRange_39247_10 : decode cJ7_copyOfRange_39247 10 = .ok (.aload_n 0, 1) := by decide +kernel
theorem dJ7_copyOfRange_39247_11 : decode cJ7_copyOfRange_39247 11 = .ok (.iload_n 1, 1) := by decide +kernel
theorem dJ7_copyOfRange_39247_12 : decode cJ7_copyOfRange_39247 12 = .ok (.iload_n 2, 1) := by decide +kernel
theorem dJ7_copyOfRange_39247_13 : decode cJ7_copyOfRange_39247 13 = .ok (.invokestatic 339, 3) := by decide +kernel
theorem dJ7_copyOfRange_39247_16 : decode cJ7_copyOfRange_39247 16 = .ok (.areturn, 1) := by decide +kernel
theorem dJ0_init_db425_0 : decode cJ0_init_db425 0 = .ok (.aload_n 0, 1) := by decide +kernel
theorem dJ0_init_db425_1 : decode cJ0_init_db425 1 = .ok (.invokespecial 1, 3) := by decide +kernel
theorem dJ0_init_db425_4 : decode cJ0_init_db425 4 = .ok (.aload_n 1, 1) := by decide +kernel
theorem dJ0_init_db425_5 : decode cJ0_init_db425 5 = .ok (.invokevirtual 552, 3) := by decide +kernel
theorem dJ0_init_db425_8 : decode cJ0_init_db425 8 = .ok (.astore_n 3, 1) := by decide +kernel
theorem dJ0_init_db425_9 : decode cJ0_init_db425 9 = .ok (.aload_n 1, 1) := by decide +kernel
theorem dJ0_init_db425_10 : decode cJ0_init_db425 10 = .ok (.invokevirtual 549, 3) := by decide +kernel
theorem dJ0_init_db425_13 : decode cJ0_init_db425 13 = .ok (.istore 4, 2) := by decide +kernel
theorem dJ0_init_db425_15 : decode cJ0_init_db425 15 = .ok (.aload_n 1, 1) := by decide +kernel
theorem dJ0_init_db425_16 : decode cJ0_init_db425 16 = .ok (.invokevirtual 1047, 3) := by decide +kernel
theorem dJ0_init_db425_19 : decode cJ0_init_db425 19 = .ok (.ifCond .eq 22, 3) := by decide +kernel
theorem dJ0_init_db425_22 : decode cJ0_init_db425 22 = .ok (.aload_n 0, 1) := by decide +kernel
theorem dJ0_init_db425_23 : decode cJ0_init_db425 23 = .ok (.iconst 0, 1) := by decide +kernel
theorem dJ0_init_db425_24 : decode cJ0_init_db425 24 = .ok (.putfield 15, 3) := by decide +kernel
theorem dJ0_init_db425_27 : decode cJ0_init_db425 27 = .ok (.aload_n 0, 1) := by decide +kernel
theorem dJ0_init_db425_28 : decode cJ0_init_db425 28 = .ok (.aload_n 3, 1) := by decide +kernel
theorem dJ0_init_db425_29 : decode cJ0_init_db425 29 = .ok (.iconst 0, 1) := by decide +kernel
theorem dJ0_init_db425_30 : decode cJ0_init_db425 30 = .ok (.iload 4, 2) := by decide +kernel
theorem dJ0_init_db425_32 : decode cJ0_init_db425 32 = .ok (.invokestatic 54, 3) := by decide +kernel
theorem dJ0_init_db425_35 : decode cJ0_init_db425 35 = .ok (.putfield 9, 3) := by decide +kernel
theorem dJ0_init_db425_38 : decode cJ0_init_db425 38 = .ok (.goto 59, 3) := by decide +kernel
theorem dJ0_init_db425_97 : decode cJ0_init_db425 97 = .ok (.return_, 1) := by decide +kernel
theorem dJ0_init_81219_0 : decode cJ0_init_81219 0 = .ok (.aload_n 0, 1) := by decide +kernel
theorem dJ0_init_81219_1 : decode cJ0_init_81219 1 = .ok (.aload_n 1, 1) := by decide +kernel
theorem dJ0_init_81219_2 : decode cJ0_init_81219 2 = .ok (.aconst_null, 1) := by decide +kernel
theorem dJ0_init_81219_3 : decode cJ0_init_81219 3 = .ok (.invokespecial 489, 3) := by decide +kernel
theorem dJ0_init_81219_6 : decode cJ0_init_81219 6 = .ok (.return_, 1) := by decide +kernel
theorem dJ4_toString_0e30d_0 : decode cJ4_toString_0e30d 0 = .ok (.new 18, 3) := by decide +kernel
theorem dJ4_toString_0e30d_3 : decode cJ4_toString_0e30d 3 = .ok (.dup, 1) := by decide +kernel
theorem dJ4_toString_0e30d_4 : decode cJ4_toString_0e30d 4 = .ok (.aload_n 0, 1) := by decide +kernel
theorem dJ4_toString_0e30d_5 : decode cJ4_toString_0e30d 5 = .ok (.invokespecial 137, 3) := by decide +kernel
theorem dJ4_toString_0e30d_8 : decode cJ4_toString_0e30d 8 = .ok (.areturn, 1) := by decide +kernel
theorem dX1_readNewName_0 : decode cX1_readNewName 0 = .ok (.aload_n 0, 1) := by decide +kernel
theorem dX1_readNewName_1 : decode cX1_readNewName 1 = .ok (.invokevirtual 121, 3) := by decide +kernel
theorem dX1_readNewName_4 : decode cX1_readNewName 4 = .ok (.ifCond .ne 12, 3) := by decide +kernel
theorem dX1_readNewName_7 : decode cX1_readNewName 7 = .ok (.aload_n 0, 1) := by decide +kernel
theorem dX1_readNewName_8 : decode cX1_readNewName 8 = .ok (.iconst 1, 1) := by decide +kernel
theorem dX1_readNewName_9 : decode cX1_readNewName 9 = .ok (.invokevirtual 75, 3) := by decide +kernel
theorem dX1_readNewName_12 : decode cX1_readNewName 12 = .ok (.pop, 1) := by decide +kernel
theorem dX1_readNewName_13 : decode cX1_readNewName 13 = .ok (.goto 17, 3) := by decide +kernel
theorem dX1_readNewName_16 : decode cX1_readNewName 16 = .ok (.aload_n 0, 1) := by decide +kernel
theorem dX1_readNewName_17 : decode cX1_readNewName 17 = .ok (.invokevirtual 124, 3) := by decide +kernel
theorem dX1_readNewName_20 : decode cX1_readNewName 20 = .ok (.iconst (-1), 1) := by decide +kernel
theorem dX1_readNewName_21 : decode cX1_readNewName 21 = .ok (.if_icmp .eq 9, 3) := by decide +kernel
theorem dX1_readNewName_24 : decode cX1_readNewName 24 = .ok (.aload_n 0, 1) := by decide +kernel
theorem dX1_readNewName_25 : decode cX1_readNewName 25 = .ok (.iconst 4, 1) := by decide +kernel
theorem dX1_readNewName_26 : decode cX1_readNewName 26 = .ok (.invokevirtual 75, 3) := by decide +kernel
theorem dX1_readNewName_29 : decode cX1_readNewName 29 = .ok (.pop, 1) := by decide +kernel
theorem dX1_readNewName_30 : decode cX1_readNewName 30 = .ok (.aload_n 0, 1) := by decide +kernel
theorem dX1_readNewName_31 : decode cX1_readNewName 31 = .ok (.invokevirtual 35, 3) := by decide +kernel
theorem dX1_readNewName_34 : decode cX1_readNewName 34 = .ok (.ifCond .eq 6, 3) := by decide +kernel
theorem dX1_readNewName_37 : decode cX1_readNewName 37 = .ok (.ldc 127, 2) := by decide +kernel
theorem dX1_readNewName_39 : decode cX1_readNewName 39 = .ok (.areturn, 1) := by decide +kernel
theorem dX1_readNewName_40 : decode cX1_readNewName 40 = .ok (.new 129, 3) := by decide +kernel
theorem dX1_readNewName_43 : decode cX1_readNewName 43 = .ok (.dup, 1) := by decide +kernel
theorem dX1_readNewName_44 : decode cX1_readNewName 44 = .ok (.invokespecial 131, 3) := by decide +kernel
theorem dX1_readNewName_47 : decode cX1_readNewName 47 = .ok (.astore_n 1, 1) := by decide +kernel
theorem dX1_readNewName_48 : decode cX1_readNewName 48 = .ok (.aload_n 0, 1) := by decide +kernel
theorem dX1_readNewName_49 : decode cX1_readNewName 49 = .ok (.getfield 39, 3) := by decide +kernel
theorem dX1_readNewName_52 : decode cX1_readNewName 52 = .ok (.istore_n 2, 1) := by decide +kernel
theorem dX1_readNewName_53 : decode cX1_readNewName 53 = .ok (.iload_n 2, 1) := by decide +kernel
theorem dX1_readNewName_54 : decode cX1_readNewName 54 = .ok (.aload_n 0, 1) := by decide +kernel
theorem dX1_readNewName_55 : decode cX1_readNewName 55 = .ok (.getfield 29, 3) := by decide +kernel
theorem dX1_readNewName_58 : decode cX1_readNewName 58 = .ok (.if_icmp .ge 21, 3) := by decide +kernel
theorem dX1_readNewName_61 : decode cX1_readNewName 61 = .ok (.aload_n 1, 1) := by decide +kernel
theorem dX1_readNewName_62 : decode cX1_readNewName 62 = .ok (.aload_n 0, 1) := by decide +kernel
theorem dX1_readNewName_63 : decode cX1_readNewName 63 = .ok (.getfield 9, 3) := by decide +kernel
theorem dX1_readNewName_66 : decode cX1_readNewName 66 = .ok (.iload_n 2, 1) := by decide +kernel
theorem dX1_readNewName_67 : decode cX1_readNewName 67 = .ok (.baload, 1) := by decide +kernel
theorem dX1_readNewName_68 : decode cX1_readNewName 68 = .ok (.i2c, 1) := by decide +kernel
theorem dX1_readNewName_69 : decode cX1_readNewName 69 = .ok (.invokevirtual 132, 3) := by decide +kernel
theorem dX1_readNewName_72 : decode cX1_readNewName 72 = .ok (.pop, 1) := by decide +kernel
theorem dX1_readNewName_73 : decode cX1_readNewName 73 = .ok (.iinc 2 1, 3) := by decide +kernel
theorem dX1_readNewName_76 : decode cX1_readNewName 76 = .ok (.goto (-23), 3) := by decide +kernel
theorem dX1_readNewName_79 : decode cX1_readNewName 79 = .ok (.aload_n 0, 1) := by decide +kernel
theorem dX1_readNewName_80 : decode cX1_readNewName 80 = .ok (.invokevirtual 32, 3) := by decide +kernel
theorem dX1_readNewName_83 : decode cX1_readNewName 83 = .ok (.aload_n 1, 1) := by decide +kernel
theorem dX1_readNewName_84 : decode cX1_readNewName 84 = .ok (.invokevirtual 136, 3) := by decide +kernel
theorem dX1_readNewName_87 : decode cX1_readNewName 87 = .ok (.areturn, 1) := by decide +kernel
theorem dX2_takeRide_0 : decode cX2_takeRide 0 = .ok (.aload_n 0, 1) := by decide +kernel
theorem dX2_takeRide_1 : decode cX2_takeRide 1 = .ok (.iload_n 1, 1) := by decide +kernel
theorem dX2_takeRide_2 : decode cX2_takeRide 2 = .ok (.putfield 17, 3) := by decide +kernel
theorem dX2_takeRide_5 : decode cX2_takeRide 5 = .ok (.aload_n 0, 1) := by decide +kernel
theorem dX2_takeRide_6 : decode cX2_takeRide 6 = .ok (.iload_n 2, 1) := by decide +kernel
theorem dX2_takeRide_7 : decode cX2_takeRide 7 = .ok (.putfield 21, 3) := by decide +kernel
theorem dX2_takeRide_10 : decode cX2_takeRide 10 = .ok (.aload_n 0, 1) := by decide +kernel
theorem dX2_takeRide_11 : decode cX2_takeRide 11 = .ok (.iload_n 3, 1) := by decide +kernel
theorem dX2_takeRide_12 : decode cX2_takeRide 12 = .ok (.putfield 24, 3) := by decide +kernel
theorem dX2_takeRide_15 : decode cX2_takeRide 15 = .ok (.aload_n 0, 1) := by decide +kernel
theorem dX2_takeRide_16 : decode cX2_takeRide 16 = .ok (.iload 4, 2) := by decide +kernel
theorem dX2_takeRide_18 : decode cX2_takeRide 18 = .ok (.putfield 27, 3) := by decide +kernel
theorem dX2_takeRide_21 : decode cX2_takeRide 21 = .ok (.aload_n 0, 1) := by decide +kernel
theorem dX2_takeRide_22 : decode cX2_takeRide 22 = .ok (.iconst 0, 1) := by decide +kernel
theorem dX2_takeRide_23 : decode cX2_takeRide 23 = .ok (.putfield 37, 3) := by decide +kernel
theorem dX2_takeRide_26 : decode cX2_takeRide 26 = .ok (.return_, 1) := by decide +kernel
theorem dX2_enter_0 : decode cX2_enter 0 = .ok (.aload_n 0, 1) := by decide +kernel
theorem dX2_enter_1 : decode cX2_enter 1 = .ok (.aload_n 1, 1) := by decide +kernel
theorem dX2_enter_2 : decode cX2_enter 2 = .ok (.putfield 11, 3) := by decide +kernel
theorem dX2_enter_5 : decode cX2_enter 5 = .ok (.aload_n 0, 1) := by decide +kernel
theorem dX2_enter_6 : decode cX2_enter 6 = .ok (.iload_n 2, 1) := by decide +kernel
theorem dX2_enter_7 : decode cX2_enter 7 = .ok (.putfield 30, 3) := by decide +kernel
theorem dX2_enter_10 : decode cX2_enter 10 = .ok (.aload_n 0, 1) := by decide +kernel
theorem dX2_enter_11 : decode cX2_enter 11 = .ok (.iconst (-1), 1) := by decide +kernel
theorem dX2_enter_12 : decode cX2_enter 12 = .ok (.iconst (-1), 1) := by decide +kernel
theorem dX2_enter_13 : decode cX2_enter 13 = .ok (.iconst (-1), 1) := by decide +kernel
theorem dX2_enter_14 : decode cX2_enter 14 = .ok (.iconst (-1), 1) := by decide +kernel
theorem dX2_enter_15 : decode cX2_enter 15 = .ok (.invokevirtual 33, 3) := by decide +kernel
theorem dX2_enter_18 : decode cX2_enter 18 = .ok (.return_, 1) := by decide +kernel
theorem dX3_addPassenger_0 : decode cX3_addPassenger 0 = .ok (.aload_n 0, 1) := by decide +kernel
theorem dX3_addPassenger_1 : decode cX3_addPassenger 1 = .ok (.getfield 52, 3) := by decide +kernel
theorem dX3_addPassenger_4 : decode cX3_addPassenger 4 = .ok (.bipush 8, 2) := by decide +kernel
theorem dX3_addPassenger_6 : decode cX3_addPassenger 6 = .ok (.if_icmp .ge 37, 3) := by decide +kernel
theorem dX3_addPassenger_9 : decode cX3_addPassenger 9 = .ok (.aload_n 0, 1) := by decide +kernel
theorem dX3_addPassenger_10 : decode cX3_addPassenger 10 = .ok (.getfield 17, 3) := by decide +kernel
theorem dX3_addPassenger_13 : decode cX3_addPassenger 13 = .ok (.aload_n 0, 1) := by decide +kernel
theorem dX3_addPassenger_14 : decode cX3_addPassenger 14 = .ok (.getfield 52, 3) := by decide +kernel
theorem dX3_addPassenger_17 : decode cX3_addPassenger 17 = .ok (.aaload, 1) := by decide +kernel
theorem dX3_addPassenger_18 : decode cX3_addPassenger 18 = .ok (.aload_n 1, 1) := by decide +kernel
theorem dX3_addPassenger_19 : decode cX3_addPassenger 19 = .ok (.iload_n 2, 1) := by decide +kernel
theorem dX3_addPassenger_20 : decode cX3_addPassenger 20 = .ok (.invokevirtual 77, 3) := by decide +kernel
theorem dX3_addPassenger_23 : decode cX3_addPassenger 23 = .ok (.aload_n 0, 1) := by decide +kernel
theorem dX3_addPassenger_24 : decode cX3_addPassenger 24 = .ok (.dup, 1) := by decide +kernel
theorem dX3_addPassenger_25 : decode cX3_addPassenger 25 = .ok (.getfield 52, 3) := by decide +kernel
theorem dX3_addPassenger_28 : decode cX3_addPassenger 28 = .ok (.iconst 1, 1) := by decide +kernel
theorem dX3_addPassenger_29 : decode cX3_addPassenger 29 = .ok (.iadd, 1) := by decide +kernel
theorem dX3_addPassenger_30 : decode cX3_addPassenger 30 = .ok (.putfield 52, 3) := by decide +kernel
theorem dX3_addPassenger_33 : decode cX3_addPassenger 33 = .ok (.aload_n 0, 1) := by decide +kernel
theorem dX3_addPassenger_34 : decode cX3_addPassenger 34 = .ok (.dup, 1) := by decide +kernel
theorem dX3_addPassenger_35 : decode cX3_addPassenger 35 = .ok (.getfield 46, 3) := by decide +kernel
theorem dX3_addPassenger_38 : decode cX3_addPassenger 38 = .ok (.iload_n 2, 1) := by decide +kernel
theorem dX3_addPassenger_39 : decode cX3_addPassenger 39 = .ok (.iadd, 1) := by decide +kernel
theorem dX3_addPassenger_40 : decode cX3_addPassenger 40 = .ok (.putfield 46, 3) := by decide +kernel
theorem dX3_addPassenger_43 : decode cX3_addPassenger 43 = .ok (.return_, 1) := by decide +kernel
theorem dX1_readPassenger_0 : decode cX1_readPassenger 0 = .ok (.aload_n 0, 1) := by decide +kernel
theorem dX1_readPassenger_1 : decode cX1_readPassenger 1 = .ok (.getfield 19, 3) := by decide +kernel
theorem dX1_readPassenger_4 : decode cX1_readPassenger 4 = .ok (.getfield 109, 3) := by decide +kernel
theorem dX1_readPassenger_7 : decode cX1_readPassenger 7 = .ok (.bipush 8, 2) := by decide +kernel
theorem dX1_readPassenger_9 : decode cX1_readPassenger 9 = .ok (.if_icmp .ne 18, 3) := by decide +kernel
theorem dX1_readPassenger_12 : decode cX1_readPassenger 12 = .ok (.aload_n 0, 1) := by decide +kernel
theorem dX1_readPassenger_13 : decode cX1_readPassenger 13 = .ok (.ldc 107, 2) := by decide +kernel
theorem dX1_readPassenger_15 : decode cX1_readPassenger 15 = .ok (.invokevirtual 71, 3) := by decide +kernel
theorem dX1_readPassenger_18 : decode cX1_readPassenger 18 = .ok (.ifCond .eq 9, 3) := by decide +kernel
theorem dX1_readPassenger_21 : decode cX1_readPassenger 21 = .ok (.aload_n 0, 1) := by decide +kernel
theorem dX1_readPassenger_22 : decode cX1_readPassenger 22 = .ok (.iconst 5, 1) := by decide +kernel
theorem dX1_readPassenger_23 : decode cX1_readPassenger 23 = .ok (.invokevirtual 75, 3) := by decide +kernel
theorem dX1_readPassenger_26 : decode cX1_readPassenger 26 = .ok (.pop, 1) := by decide +kernel
theorem dX1_readPassenger_27 : decode cX1_readPassenger 27 = .ok (.aload_n 0, 1) := by decide +kernel
theorem dX1_readPassenger_28 : decode cX1_readPassenger 28 = .ok (.ldc 107, 2) := by decide +kernel
theorem dX1_readPassenger_30 : decode cX1_readPassenger 30 = .ok (.invokevirtual 93, 3) := by decide +kernel
theorem dX1_readPassenger_33 : decode cX1_readPassenger 33 = .ok (.aload_n 0, 1) := by decide +kernel
theorem dX1_readPassenger_34 : decode cX1_readPassenger 34 = .ok (.invokevirtual 112, 3) := by decide +kernel
theorem dX1_readPassenger_37 : decode cX1_readPassenger 37 = .ok (.astore_n 1, 1) := by decide +kernel
theorem dX1_readPassenger_38 : decode cX1_readPassenger 38 = .ok (.aload_n 0, 1) := by decide +kernel
theorem dX1_readPassenger_39 : decode cX1_readPassenger 39 = .ok (.iconst 0, 1) := by decide +kernel
theorem dX1_readPassenger_40 : decode cX1_readPassenger 40 = .ok (.ldc 116, 2) := by decide +kernel
theorem dX1_readPassenger_42 : decode cX1_readPassenger 42 = .ok (.invokevirtual 84, 3) := by decide +kernel
theorem dX1_readPassenger_45 : decode cX1_readPassenger 45 = .ok (.istore_n 2, 1) := by decide +kernel
theorem dX1_readPassenger_46 : decode cX1_readPassenger 46 = .ok (.aload_n 0, 1) := by decide +kernel
theorem dX1_readPassenger_47 : decode cX1_readPassenger 47 = .ok (.iconst 1, 1) := by decide +kernel
theorem dX1_readPassenger_48 : decode cX1_readPassenger 48 = .ok (.invokevirtual 100, 3) := by decide +kernel
theorem dX1_readPassenger_51 : decode cX1_readPassenger 51 = .ok (.ifCond .eq 12, 3) := by decide +kernel
theorem dX1_readPassenger_54 : decode cX1_readPassenger 54 = .ok (.aload_n 0, 1) := by decide +kernel
theorem dX1_readPassenger_55 : decode cX1_readPassenger 55 = .ok (.getfield 19, 3) := by decide +kernel
theorem dX1_readPassenger_58 : decode cX1_readPassenger 58 = .ok (.aload_n 1, 1) := by decide +kernel
theorem dX1_readPassenger_59 : decode cX1_readPassenger 59 = .ok (.iload_n 2, 1) := by decide +kernel
theorem dX1_readPassenger_60 : decode cX1_readPassenger 60 = .ok (.invokevirtual 117, 3) := by decide +kernel
theorem dX1_readPassenger_63 : decode cX1_readPassenger 63 = .ok (.return_, 1) := by decide +kernel
theorem dX1_readPassengers_0 : decode cX1_readPassengers 0 = .ok (.aload_n 0, 1) := by decide +kernel
theorem dX1_readPassengers_1 : decode cX1_readPassengers 1 = .ok (.invokevirtual 104, 3) := by decide +kernel
theorem dX1_readPassengers_4 : decode cX1_readPassengers 4 = .ok (.iconst 1, 1) := by decide +kernel
theorem dX1_readPassengers_5 : decode cX1_readPassengers 5 = .ok (.istore_n 1, 1) := by decide +kernel
theorem dX1_readPassengers_6 : decode cX1_readPassengers 6 = .ok (.iload_n 1, 1) := by decide +kernel
theorem dX1_readPassengers_7 : decode cX1_readPassengers 7 = .ok (.bipush 8, 2) := by decide +kernel
theorem dX1_readPassengers_9 : decode cX1_readPassengers 9 = .ok (.if_icmp .gt 22, 3) := by decide +kernel
theorem dX1_readPassengers_12 : decode cX1_readPassengers 12 = .ok (.aload_n 0, 1) := by decide +kernel
theorem dX1_readPassengers_13 : decode cX1_readPassengers 13 = .ok (.ldc 107, 2) := by decide +kernel
theorem dX1_readPassengers_15 : decode cX1_readPassengers 15 = .ok (.invokevirtual 71, 3) := by decide +kernel
theorem dX1_readPassengers_18 : decode cX1_readPassengers 18 = .ok (.ifCond .eq 13, 3) := by decide +kernel
theorem dX1_readPassengers_21 : decode cX1_readPassengers 21 = .ok (.aload_n 0, 1) := by decide +kernel
theorem dX1_readPassengers_22 : decode cX1_readPassengers 22 = .ok (.invokevirtual 104, 3) := by decide +kernel
theorem dX1_readPassengers_25 : decode cX1_readPassengers 25 = .ok (.iinc 1 1, 3) := by decide +kernel
theorem dX1_readPassengers_28 : decode cX1_readPassengers 28 = .ok (.goto (-22), 3) := by decide +kernel
theorem dX1_readPassengers_31 : decode cX1_readPassengers 31 = .ok (.return_, 1) := by decide +kernel
theorem dX1_readKnownName_0 : decode cX1_readKnownName 0 = .ok (.aload_n 0, 1) := by decide +kernel
theorem dX1_readKnownName_1 : decode cX1_readKnownName 1 = .ok (.invokevirtual 121, 3) := by decide +kernel
theorem dX1_readKnownName_4 : decode cX1_readKnownName 4 = .ok (.ifCond .ne 9, 3) := by decide +kernel
theorem dX1_readKnownName_7 : decode cX1_readKnownName 7 = .ok (.aload_n 0, 1) := by decide +kernel
theorem dX1_readKnownName_8 : decode cX1_readKnownName 8 = .ok (.iconst 1, 1) := by decide +kernel
theorem dX1_readKnownName_9 : decode cX1_readKnownName 9 = .ok (.invokevirtual 75, 3) := by decide +kernel
theorem dX1_readKnownName_12 : decode cX1_readKnownName 12 = .ok (.ireturn, 1) := by decide +kernel
theorem dX1_readKnownName_13 : decode cX1_readKnownName 13 = .ok (.aload_n 0, 1) := by decide +kernel
theorem dX1_readKnownName_14 : decode cX1_readKnownName 14 = .ok (.invokevirtual 124, 3) := by decide +kernel
theorem dX1_readKnownName_17 : decode cX1_readKnownName 17 = .ok (.istore_n 1, 1) := by decide +kernel
theorem dX1_readKnownName_18 : decode cX1_readKnownName 18 = .ok (.iload_n 1, 1) := by decide +kernel
theorem dX1_readKnownName_19 : decode cX1_readKnownName 19 = .ok (.iconst (-1), 1) := by decide +kernel
theorem dX1_readKnownName_20 : decode cX1_readKnownName 20 = .ok (.if_icmp .ne 9, 3) := by decide +kernel
theorem dX1_readKnownName_23 : decode cX1_readKnownName 23 = .ok (.aload_n 0, 1) := by decide +kernel
theorem dX1_readKnownName_24 : decode cX1_readKnownName 24 = .ok (.iconst 3, 1) := by decide +kernel
theorem dX1_readKnownName_25 : decode cX1_readKnownName 25 = .ok (.invokevirtual 75, 3) := by decide +kernel
theorem dX1_readKnownName_28 : decode cX1_readKnownName 28 = .ok (.ireturn, 1) := by decide +kernel
theorem dX1_readKnownName_29 : decode cX1_readKnownName 29 = .ok (.aload_n 0, 1) := by decide +kernel
theorem dX1_readKnownName_30 : decode cX1_readKnownName 30 = .ok (.invokevirtual 32, 3) := by decide +kernel
theorem dX1_readKnownName_33 : decode cX1_readKnownName 33 = .ok (.iload_n 1, 1) := by decide +kernel
theorem dX1_readKnownName_34 : decode cX1_readKnownName 34 = .ok (.ireturn, 1) := by decide +kernel
theorem dX1_readKind_0 : decode cX1_readKind 0 = .ok (.iconst 0, 1) := by decide +kernel
theorem dX1_readKind_1 : decode cX1_readKind 1 = .ok (.istore_n 1, 1) := by decide +kernel
theorem dX1_readKind_2 : decode cX1_readKind 2 = .ok (.aload_n 0, 1) := by decide +kernel
theorem dX1_readKind_3 : decode cX1_readKind 3 = .ok (.ldc 149, 2) := by decide +kernel
theorem dX1_readKind_5 : decode cX1_readKind 5 = .ok (.invokevirtual 71, 3) := by decide +kernel
theorem dX1_readKind_8 : decode cX1_readKind 8 = .ok (.ifCond .eq 8, 3) := by decide +kernel
theorem dX1_readKind_11 : decode cX1_readKind 11 = .ok (.iconst 1, 1) := by decide +kernel
theorem dX1_readKind_12 : decode cX1_readKind 12 = .ok (.istore_n 1, 1) := by decide +kernel
theorem dX1_readKind_13 : decode cX1_readKind 13 = .ok (.goto 32, 3) := by decide +kernel
theorem dX1_readKind_16 : decode cX1_readKind 16 = .ok (.aload_n 0, 1) := by decide +kernel
theorem dX1_readKind_17 : decode cX1_readKind 17 = .ok (.ldc 151, 2) := by decide +kernel
theorem dX1_readKind_19 : decode cX1_readKind 19 = .ok (.invokevirtual 71, 3) := by decide +kernel
theorem dX1_readKind_22 : decode cX1_readKind 22 = .ok (.ifCond .eq 8, 3) := by decide +kernel
theorem dX1_readKind_25 : decode cX1_readKind 25 = .ok (.iconst 2, 1) := by decide +kernel
theorem dX1_readKind_26 : decode cX1_readKind 26 = .ok (.istore_n 1, 1) := by decide +kernel
theorem dX1_readKind_27 : decode cX1_readKind 27 = .ok (.goto 18, 3) := by decide +kernel
theorem dX1_readKind_30 : decode cX1_readKind 30 = .ok (.aload_n 0, 1) := by decide +kernel
theorem dX1_readKind_31 : decode cX1_readKind 31 = .ok (.ldc 153, 2) := by decide +kernel
theorem dX1_readKind_33 : decode cX1_readKind 33 = .ok (.invokevirtual 71, 3) := by decide +kernel
theorem dX1_readKind_36 : decode cX1_readKind 36 = .ok (.ifCond .ne 9, 3) := by decide +kernel
theorem dX1_readKind_39 : decode cX1_readKind 39 = .ok (.aload_n 0, 1) := by decide +kernel
theorem dX1_readKind_40 : decode cX1_readKind 40 = .ok (.iconst 1, 1) := by decide +kernel
theorem dX1_readKind_41 : decode cX1_readKind 41 = .ok (.invokevirtual 75, 3) := by decide +kernel
theorem dX1_readKind_44 : decode cX1_readKind 44 = .ok (.ireturn, 1) := by decide +kernel
theorem dX1_readKind_45 : decode cX1_readKind 45 = .ok (.aload_n 0, 1) := by decide +kernel
theorem dX1_readKind_46 : decode cX1_readKind 46 = .ok (.invokevirtual 32, 3) := by decide +kernel
theorem dX1_readKind_49 : decode cX1_readKind 49 = .ok (.iload_n 1, 1) := by decide +kernel
theorem dX1_readKind_50 : decode cX1_readKind 50 = .ok (.ireturn, 1) := by decide +kernel
theorem dX1_readStop_0 : decode cX1_readStop 0 = .ok (.aload_n 0, 1) := by decide +kernel
theorem dX1_readStop_1 : decode cX1_readStop 1 = .ok (.getfield 42, 3) := by decide +kernel
theorem dX1_readStop_4 : decode cX1_readStop 4 = .ok (.iconst 2, 1) := by decide +kernel
theorem dX1_readStop_5 : decode cX1_readStop 5 = .ok (.if_icmp .ne 17, 3) := by decide +kernel
theorem dX1_readStop_8 : decode cX1_readStop 8 = .ok (.aload_n 0, 1) := by decide +kernel
theorem dX1_readStop_9 : decode cX1_readStop 9 = .ok (.getfield 52, 3) := by decide +kernel
theorem dX1_readStop_12 : decode cX1_readStop 12 = .ok (.iload_n 1, 1) := by decide +kernel
theorem dX1_readStop_13 : decode cX1_readStop 13 = .ok (.if_icmp .ne 9, 3) := by decide +kernel
theorem dX1_readStop_16 : decode cX1_readStop 16 = .ok (.aload_n 0, 1) := by decide +kernel
theorem dX1_readStop_17 : decode cX1_readStop 17 = .ok (.iconst 2, 1) := by decide +kernel
theorem dX1_readStop_18 : decode cX1_readStop 18 = .ok (.invokevirtual 75, 3) := by decide +kernel
theorem dX1_readStop_21 : decode cX1_readStop 21 = .ok (.pop, 1) := by decide +kernel
theorem dX1_readStop_22 : decode cX1_readStop 22 = .ok (.aload_n 0, 1) := by decide +kernel
theorem dX1_readStop_23 : decode cX1_readStop 23 = .ok (.iconst 0, 1) := by decide +kernel
theorem dX1_readStop_24 : decode cX1_readStop 24 = .ok (.aload_n 0, 1) := by decide +kernel
theorem dX1_readStop_25 : decode cX1_readStop 25 = .ok (.getfield 19, 3) := by decide +kernel
theorem dX1_readStop_28 : decode cX1_readStop 28 = .ok (.getfield 79, 3) := by decide +kernel
theorem dX1_readStop_31 : decode cX1_readStop 31 = .ok (.iconst 1, 1) := by decide +kernel
theorem dX1_readStop_32 : decode cX1_readStop 32 = .ok (.isub, 1) := by decide +kernel
theorem dX1_readStop_33 : decode cX1_readStop 33 = .ok (.invokevirtual 84, 3) := by decide +kernel
theorem dX1_readStop_36 : decode cX1_readStop 36 = .ok (.ireturn, 1) := by decide +kernel
theorem dX1_readTicket_0 : decode cX1_readTicket 0 = .ok (.aload_n 0, 1) := by decide +kernel
theorem dX1_readTicket_1 : decode cX1_readTicket 1 = .ok (.iconst 0, 1) := by decide +kernel
theorem dX1_readTicket_2 : decode cX1_readTicket 2 = .ok (.aload_n 0, 1) := by decide +kernel
theorem dX1_readTicket_3 : decode cX1_readTicket 3 = .ok (.getfield 19, 3) := by decide +kernel
theorem dX1_readTicket_6 : decode cX1_readTicket 6 = .ok (.getfield 155, 3) := by decide +kernel
theorem dX1_readTicket_9 : decode cX1_readTicket 9 = .ok (.iconst 1, 1) := by decide +kernel
theorem dX1_readTicket_10 : decode cX1_readTicket 10 = .ok (.isub, 1) := by decide +kernel
theorem dX1_readTicket_11 : decode cX1_readTicket 11 = .ok (.invokevirtual 84, 3) := by decide +kernel
theorem dX1_readTicket_14 : decode cX1_readTicket 14 = .ok (.ireturn, 1) := by decide +kernel
theorem dX1_readCase_0 : decode cX1_readCase 0 = .ok (.aload_n 0, 1) := by decide +kernel
theorem dX1_readCase_1 : decode cX1_readCase 1 = .ok (.iconst 0, 1) := by decide +kernel
theorem dX1_readCase_2 : decode cX1_readCase 2 = .ok (.aload_n 0, 1) := by decide +kernel
theorem dX1_readCase_3 : decode cX1_readCase 3 = .ok (.getfield 19, 3) := by decide +kernel
theorem dX1_readCase_6 : decode cX1_readCase 6 = .ok (.getfield 158, 3) := by decide +kernel
theorem dX1_readCase_9 : decode cX1_readCase 9 = .ok (.iconst 1, 1) := by decide +kernel
theorem dX1_readCase_10 : decode cX1_readCase 10 = .ok (.isub, 1) := by decide +kernel
theorem dX1_readCase_11 : decode cX1_readCase 11 = .ok (.invokevirtual 84, 3) := by decide +kernel
theorem dX1_readCase_14 : decode cX1_readCase 14 = .ok (.ireturn, 1) := by decide +kernel
theorem dJ6_bitCount_0f7a4_0 : decode cJ6_bitCount_0f7a4 0 = .ok (.iload_n 0, 1) := by decide +kernel
theorem dJ6_bitCount_0f7a4_1 : decode cJ6_bitCount_0f7a4 1 = .ok (.iload_n 0, 1) := by decide +kernel
theorem dJ6_bitCount_0f7a4_2 : decode cJ6_bitCount_0f7a4 2 = .ok (.iconst 1, 1) := by decide +kernel
theorem dJ6_bitCount_0f7a4_3 : decode cJ6_bitCount_0f7a4 3 = .ok (.iushr, 1) := by decide +kernel
theorem dJ6_bitCount_0f7a4_4 : decode cJ6_bitCount_0f7a4 4 = .ok (.ldc_w 265, 3) := by decide +kernel
theorem dJ6_bitCount_0f7a4_7 : decode cJ6_bitCount_0f7a4 7 = .ok (.iand, 1) := by decide +kernel
theorem dJ6_bitCount_0f7a4_8 : decode cJ6_bitCount_0f7a4 8 = .ok (.isub, 1) := by decide +kernel
theorem dJ6_bitCount_0f7a4_9 : decode cJ6_bitCount_0f7a4 9 = .ok (.istore_n 0, 1) := by decide +kernel
theorem dJ6_bitCount_0f7a4_10 : decode cJ6_bitCount_0f7a4 10 = .ok (.iload_n 0, 1) := by decide +kernel
theorem dJ6_bitCount_0f7a4_11 : decode cJ6_bitCount_0f7a4 11 = .ok (.ldc_w 266, 3) := by decide +kernel
theorem dJ6_bitCount_0f7a4_14 : decode cJ6_bitCount_0f7a4 14 = .ok (.iand, 1) := by decide +kernel
theorem dJ6_bitCount_0f7a4_15 : decode cJ6_bitCount_0f7a4 15 = .ok (.iload_n 0, 1) := by decide +kernel
theorem dJ6_bitCount_0f7a4_16 : decode cJ6_bitCount_0f7a4 16 = .ok (.iconst 2, 1) := by decide +kernel
theorem dJ6_bitCount_0f7a4_17 : decode cJ6_bitCount_0f7a4 17 = .ok (.iushr, 1) := by decide +kernel
theorem dJ6_bitCount_0f7a4_18 : decode cJ6_bitCount_0f7a4 18 = .ok (.ldc_w 266, 3) := by decide +kernel
theorem dJ6_bitCount_0f7a4_21 : decode cJ6_bitCount_0f7a4 21 = .ok (.iand, 1) := by decide +kernel
theorem dJ6_bitCount_0f7a4_22 : decode cJ6_bitCount_0f7a4 22 = .ok (.iadd, 1) := by decide +kernel
theorem dJ6_bitCount_0f7a4_23 : decode cJ6_bitCount_0f7a4 23 = .ok (.istore_n 0, 1) := by decide +kernel
theorem dJ6_bitCount_0f7a4_24 : decode cJ6_bitCount_0f7a4 24 = .ok (.iload_n 0, 1) := by decide +kernel
theorem dJ6_bitCount_0f7a4_25 : decode cJ6_bitCount_0f7a4 25 = .ok (.iload_n 0, 1) := by decide +kernel
theorem dJ6_bitCount_0f7a4_26 : decode cJ6_bitCount_0f7a4 26 = .ok (.iconst 4, 1) := by decide +kernel
theorem dJ6_bitCount_0f7a4_27 : decode cJ6_bitCount_0f7a4 27 = .ok (.iushr, 1) := by decide +kernel
theorem dJ6_bitCount_0f7a4_28 : decode cJ6_bitCount_0f7a4 28 = .ok (.iadd, 1) := by decide +kernel
theorem dJ6_bitCount_0f7a4_29 : decode cJ6_bitCount_0f7a4 29 = .ok (.ldc_w 267, 3) := by decide +kernel
theorem dJ6_bitCount_0f7a4_32 : decode cJ6_bitCount_0f7a4 32 = .ok (.iand, 1) := by decide +kernel
theorem dJ6_bitCount_0f7a4_33 : decode cJ6_bitCount_0f7a4 33 = .ok (.istore_n 0, 1) := by decide +kernel
theorem dJ6_bitCount_0f7a4_34 : decode cJ6_bitCount_0f7a4 34 = .ok (.iload_n 0, 1) := by decide +kernel
theorem dJ6_bitCount_0f7a4_35 : decode cJ6_bitCount_0f7a4 35 = .ok (.iload_n 0, 1) := by decide +kernel
theorem dJ6_bitCount_0f7a4_36 : decode cJ6_bitCount_0f7a4 36 = .ok (.bipush 8, 2) := by decide +kernel
theorem dJ6_bitCount_0f7a4_38 : decode cJ6_bitCount_0f7a4 38 = .ok (.iushr, 1) := by decide +kernel
theorem dJ6_bitCount_0f7a4_39 : decode cJ6_bitCount_0f7a4 39 = .ok (.iadd, 1) := by decide +kernel
theorem dJ6_bitCount_0f7a4_40 : decode cJ6_bitCount_0f7a4 40 = .ok (.istore_n 0, 1) := by decide +kernel
theorem dJ6_bitCount_0f7a4_41 : decode cJ6_bitCount_0f7a4 41 = .ok (.iload_n 0, 1) := by decide +kernel
theorem dJ6_bitCount_0f7a4_42 : decode cJ6_bitCount_0f7a4 42 = .ok (.iload_n 0, 1) := by decide +kernel
theorem dJ6_bitCount_0f7a4_43 : decode cJ6_bitCount_0f7a4 43 = .ok (.bipush 16, 2) := by decide +kernel
theorem dJ6_bitCount_0f7a4_45 : decode cJ6_bitCount_0f7a4 45 = .ok (.iushr, 1) := by decide +kernel
theorem dJ6_bitCount_0f7a4_46 : decode cJ6_bitCount_0f7a4 46 = .ok (.iadd, 1) := by decide +kernel
theorem dJ6_bitCount_0f7a4_47 : decode cJ6_bitCount_0f7a4 47 = .ok (.istore_n 0, 1) := by decide +kernel
theorem dJ6_bitCount_0f7a4_48 : decode cJ6_bitCount_0f7a4 48 = .ok (.iload_n 0, 1) := by decide +kernel
theorem dJ6_bitCount_0f7a4_49 : decode cJ6_bitCount_0f7a4 49 = .ok (.bipush 63, 2) := by decide +kernel
theorem dJ6_bitCount_0f7a4_51 : decode cJ6_bitCount_0f7a4 51 = .ok (.iand, 1) := by decide +kernel
theorem dJ6_bitCount_0f7a4_52 : decode cJ6_bitCount_0f7a4 52 = .ok (.ireturn, 1) := by decide +kernel
theorem dX5_priceOf_0 : decode cX5_priceOf 0 = .ok (.iload_n 0, 1) := by decide +kernel
theorem dX5_priceOf_1 : decode cX5_priceOf 1 = .ok (.iconst 2, 1) := by decide +kernel
theorem dX5_priceOf_2 : decode cX5_priceOf 2 = .ok (.if_icmp .ne 7, 3) := by decide +kernel
theorem dX5_priceOf_5 : decode cX5_priceOf 5 = .ok (.sipush 150, 3) := by decide +kernel
theorem dX5_priceOf_8 : decode cX5_priceOf 8 = .ok (.ireturn, 1) := by decide +kernel
theorem dX5_priceOf_9 : decode cX5_priceOf 9 = .ok (.iload_n 1, 1) := by decide +kernel
theorem dX5_priceOf_10 : decode cX5_priceOf 10 = .ok (.invokestatic 380, 3) := by decide +kernel
theorem dX5_priceOf_13 : decode cX5_priceOf 13 = .ok (.iload_n 0, 1) := by decide +kernel
theorem dX5_priceOf_14 : decode cX5_priceOf 14 = .ok (.iconst 1, 1) := by decide +kernel
theorem dX5_priceOf_15 : decode cX5_priceOf 15 = .ok (.if_icmp .ne 9, 3) := by decide +kernel
theorem dX5_priceOf_18 : decode cX5_priceOf 18 = .ok (.sipush 500, 3) := by decide +kernel
theorem dX5_priceOf_21 : decode cX5_priceOf 21 = .ok (.goto 6, 3) := by decide +kernel
theorem dX5_priceOf_24 : decode cX5_priceOf 24 = .ok (.sipush 200, 3) := by decide +kernel
theorem dX5_priceOf_27 : decode cX5_priceOf 27 = .ok (.imul, 1) := by decide +kernel
theorem dX5_priceOf_28 : decode cX5_priceOf 28 = .ok (.ireturn, 1) := by decide +kernel
theorem dX3_canSell_0 : decode cX3_canSell 0 = .ok (.aload_n 0, 1) := by decide +kernel
theorem dX3_canSell_1 : decode cX3_canSell 1 = .ok (.getfield 55, 3) := by decide +kernel
theorem dX3_canSell_4 : decode cX3_canSell 4 = .ok (.bipush 30, 2) := by decide +kernel
theorem dX3_canSell_6 : decode cX3_canSell 6 = .ok (.if_icmp .ge 24, 3) := by decide +kernel
theorem dX3_canSell_9 : decode cX3_canSell 9 = .ok (.aload_n 0, 1) := by decide +kernel
theorem dX3_canSell_10 : decode cX3_canSell 10 = .ok (.getfield 17, 3) := by decide +kernel
theorem dX3_canSell_13 : decode cX3_canSell 13 = .ok (.iload_n 1, 1) := by decide +kernel
theorem dX3_canSell_14 : decode cX3_canSell 14 = .ok (.aaload, 1) := by decide +kernel
theorem dX3_canSell_15 : decode cX3_canSell 15 = .ok (.getfield 90, 3) := by decide +kernel
theorem dX3_canSell_18 : decode cX3_canSell 18 = .ok (.iload_n 2, 1) := by decide +kernel
theorem dX3_canSell_19 : decode cX3_canSell 19 = .ok (.iload_n 3, 1) := by decide +kernel
theorem dX3_canSell_20 : decode cX3_canSell 20 = .ok (.invokestatic 93, 3) := by decide +kernel
theorem dX3_canSell_23 : decode cX3_canSell 23 = .ok (.if_icmp .lt 7, 3) := by decide +kernel
theorem dX3_canSell_26 : decode cX3_canSell 26 = .ok (.iconst 1, 1) := by decide +kernel
theorem dX3_canSell_27 : decode cX3_canSell 27 = .ok (.goto 4, 3) := by decide +kernel
theorem dX3_canSell_30 : decode cX3_canSell 30 = .ok (.iconst 0, 1) := by decide +kernel
theorem dX3_canSell_31 : decode cX3_canSell 31 = .ok (.ireturn, 1) := by decide +kernel
theorem dX4_issue_0 : decode cX4_issue 0 = .ok (.aload_n 0, 1) := by decide +kernel
theorem dX4_issue_1 : decode cX4_issue 1 = .ok (.iload_n 1, 1) := by decide +kernel
theorem dX4_issue_2 : decode cX4_issue 2 = .ok (.putfield 9, 3) := by decide +kernel
theorem dX4_issue_5 : decode cX4_issue 5 = .ok (.aload_n 0, 1) := by decide +kernel
theorem dX4_issue_6 : decode cX4_issue 6 = .ok (.iload_n 2, 1) := by decide +kernel
theorem dX4_issue_7 : decode cX4_issue 7 = .ok (.putfield 15, 3) := by decide +kernel
theorem dX4_issue_10 : decode cX4_issue 10 = .ok (.aload_n 0, 1) := by decide +kernel
theorem dX4_issue_11 : decode cX4_issue 11 = .ok (.iload_n 3, 1) := by decide +kernel
theorem dX4_issue_12 : decode cX4_issue 12 = .ok (.putfield 18, 3) := by decide +kernel
theorem dX4_issue_15 : decode cX4_issue 15 = .ok (.aload_n 0, 1) := by decide +kernel
theorem dX4_issue_16 : decode cX4_issue 16 = .ok (.iconst (-1), 1) := by decide +kernel
theorem dX4_issue_17 : decode cX4_issue 17 = .ok (.putfield 21, 3) := by decide +kernel
theorem dX4_issue_20 : decode cX4_issue 20 = .ok (.aload_n 0, 1) := by decide +kernel
theorem dX4_issue_21 : decode cX4_issue 21 = .ok (.iconst (-1), 1) := by decide +kernel
theorem dX4_issue_22 : decode cX4_issue 22 = .ok (.putfield 24, 3) := by decide +kernel
theorem dX4_issue_25 : decode cX4_issue 25 = .ok (.aload_n 0, 1) := by decide +kernel
theorem dX4_issue_26 : decode cX4_issue 26 = .ok (.iconst 0, 1) := by decide +kernel
theorem dX4_issue_27 : decode cX4_issue 27 = .ok (.putfield 27, 3) := by decide +kernel
theorem dX4_issue_30 : decode cX4_issue 30 = .ok (.return_, 1) := by decide +kernel
theorem dX3_sell_0 : decode cX3_sell 0 = .ok (.aload_n 0, 1) := by decide +kernel
theorem dX3_sell_1 : decode cX3_sell 1 = .ok (.getfield 55, 3) := by decide +kernel
theorem dX3_sell_4 : decode cX3_sell 4 = .ok (.istore 4, 2) := by decide +kernel
theorem dX3_sell_6 : decode cX3_sell 6 = .ok (.aload_n 0, 1) := by decide +kernel
theorem dX3_sell_7 : decode cX3_sell 7 = .ok (.getfield 23, 3) := by decide +kernel
theorem dX3_sell_10 : decode cX3_sell 10 = .ok (.iload 4, 2) := by decide +kernel
theorem dX3_sell_12 : decode cX3_sell 12 = .ok (.aaload, 1) := by decide +kernel
theorem dX3_sell_13 : decode cX3_sell 13 = .ok (.iload_n 1, 1) := by decide +kernel
theorem dX3_sell_14 : decode cX3_sell 14 = .ok (.iload_n 2, 1) := by decide +kernel
theorem dX3_sell_15 : decode cX3_sell 15 = .ok (.iload_n 3, 1) := by decide +kernel
theorem dX3_sell_16 : decode cX3_sell 16 = .ok (.invokevirtual 96, 3) := by decide +kernel
theorem dX3_sell_19 : decode cX3_sell 19 = .ok (.aload_n 0, 1) := by decide +kernel
theorem dX3_sell_20 : decode cX3_sell 20 = .ok (.getfield 17, 3) := by decide +kernel
theorem dX3_sell_23 : decode cX3_sell 23 = .ok (.iload_n 1, 1) := by decide +kernel
theorem dX3_sell_24 : decode cX3_sell 24 = .ok (.aaload, 1) := by decide +kernel
theorem dX3_sell_25 : decode cX3_sell 25 = .ok (.dup, 1) := by decide +kernel
theorem dX3_sell_26 : decode cX3_sell 26 = .ok (.getfield 90, 3) := by decide +kernel
theorem dX3_sell_29 : decode cX3_sell 29 = .ok (.iload_n 2, 1) := by decide +kernel
theorem dX3_sell_30 : decode cX3_sell 30 = .ok (.iload_n 3, 1) := by decide +kernel
theorem dX3_sell_31 : decode cX3_sell 31 = .ok (.invokestatic 93, 3) := by decide +kernel
theorem dX3_sell_34 : decode cX3_sell 34 = .ok (.isub, 1) := by decide +kernel
theorem dX3_sell_35 : decode cX3_sell 35 = .ok (.putfield 90, 3) := by decide +kernel
theorem dX3_sell_38 : decode cX3_sell 38 = .ok (.aload_n 0, 1) := by decide +kernel
theorem dX3_sell_39 : decode cX3_sell 39 = .ok (.dup, 1) := by decide +kernel
theorem dX3_sell_40 : decode cX3_sell 40 = .ok (.getfield 55, 3) := by decide +kernel
theorem dX3_sell_43 : decode cX3_sell 43 = .ok (.iconst 1, 1) := by decide +kernel
theorem dX3_sell_44 : decode cX3_sell 44 = .ok (.iadd, 1) := by decide +kernel
theorem dX3_sell_45 : decode cX3_sell 45 = .ok (.putfield 55, 3) := by decide +kernel
theorem dX3_sell_48 : decode cX3_sell 48 = .ok (.iload 4, 2) := by decide +kernel
theorem dX3_sell_50 : decode cX3_sell 50 = .ok (.ireturn, 1) := by decide +kernel
theorem dX1_readBuy_0 : decode cX1_readBuy 0 = .ok (.aload_n 0, 1) := by decide +kernel
theorem dX1_readBuy_1 : decode cX1_readBuy 1 = .ok (.invokevirtual 32, 3) := by decide +kernel
theorem dX1_readBuy_4 : decode cX1_readBuy 4 = .ok (.aload_n 0, 1) := by decide +kernel
theorem dX1_readBuy_5 : decode cX1_readBuy 5 = .ok (.invokevirtual 196, 3) := by decide +kernel
theorem dX1_readBuy_8 : decode cX1_readBuy 8 = .ok (.istore_n 1, 1) := by decide +kernel
theorem dX1_readBuy_9 : decode cX1_readBuy 9 = .ok (.aload_n 0, 1) := by decide +kernel
theorem dX1_readBuy_10 : decode cX1_readBuy 10 = .ok (.invokevirtual 199, 3) := by decide +kernel
theorem dX1_readBuy_13 : decode cX1_readBuy 13 = .ok (.istore_n 2, 1) := by decide +kernel
theorem dX1_readBuy_14 : decode cX1_readBuy 14 = .ok (.aload_n 0, 1) := by decide +kernel
theorem dX1_readBuy_15 : decode cX1_readBuy 15 = .ok (.iconst 1, 1) := by decide +kernel
theorem dX1_readBuy_16 : decode cX1_readBuy 16 = .ok (.bipush 15, 2) := by decide +kernel
theorem dX1_readBuy_18 : decode cX1_readBuy 18 = .ok (.invokevirtual 84, 3) := by decide +kernel
theorem dX1_readBuy_21 : decode cX1_readBuy 21 = .ok (.istore_n 3, 1) := by decide +kernel
theorem dX1_readBuy_22 : decode cX1_readBuy 22 = .ok (.aload_n 0, 1) := by decide +kernel
theorem dX1_readBuy_23 : decode cX1_readBuy 23 = .ok (.aload_n 0, 1) := by decide +kernel
theorem dX1_readBuy_24 : decode cX1_readBuy 24 = .ok (.invokevirtual 35, 3) := by decide +kernel
theorem dX1_readBuy_27 : decode cX1_readBuy 27 = .ok (.ifCond .ne 20, 3) := by decide +kernel
theorem dX1_readBuy_30 : decode cX1_readBuy 30 = .ok (.aload_n 0, 1) := by decide +kernel
theorem dX1_readBuy_31 : decode cX1_readBuy 31 = .ok (.getfield 19, 3) := by decide +kernel
theorem dX1_readBuy_34 : decode cX1_readBuy 34 = .ok (.iload_n 1, 1) := by decide +kernel
theorem dX1_readBuy_35 : decode cX1_readBuy 35 = .ok (.iload_n 2, 1) := by decide +kernel
theorem dX1_readBuy_36 : decode cX1_readBuy 36 = .ok (.iload_n 3, 1) := by decide +kernel
theorem dX1_readBuy_37 : decode cX1_readBuy 37 = .ok (.invokevirtual 202, 3) := by decide +kernel
theorem dX1_readBuy_40 : decode cX1_readBuy 40 = .ok (.ifCond .eq 7, 3) := by decide +kernel
theorem dX1_readBuy_43 : decode cX1_readBuy 43 = .ok (.iconst 1, 1) := by decide +kernel
theorem dX1_readBuy_44 : decode cX1_readBuy 44 = .ok (.goto 4, 3) := by decide +kernel
theorem dX1_readBuy_47 : decode cX1_readBuy 47 = .ok (.iconst 0, 1) := by decide +kernel
theorem dX1_readBuy_48 : decode cX1_readBuy 48 = .ok (.invokevirtual 100, 3) := by decide +kernel
theorem dX1_readBuy_51 : decode cX1_readBuy 51 = .ok (.ifCond .eq 14, 3) := by decide +kernel
theorem dX1_readBuy_54 : decode cX1_readBuy 54 = .ok (.aload_n 0, 1) := by decide +kernel
theorem dX1_readBuy_55 : decode cX1_readBuy 55 = .ok (.getfield 19, 3) := by decide +kernel
theorem dX1_readBuy_58 : decode cX1_readBuy 58 = .ok (.iload_n 1, 1) := by decide +kernel
theorem dX1_readBuy_59 : decode cX1_readBuy 59 = .ok (.iload_n 2, 1) := by decide +kernel
theorem dX1_readBuy_60 : decode cX1_readBuy 60 = .ok (.iload_n 3, 1) := by decide +kernel
theorem dX1_readBuy_61 : decode cX1_readBuy 61 = .ok (.invokevirtual 206, 3) := by decide +kernel
theorem dX1_readBuy_64 : decode cX1_readBuy 64 = .ok (.pop, 1) := by decide +kernel
theorem dX1_readBuy_65 : decode cX1_readBuy 65 = .ok (.return_, 1) := by decide +kernel
theorem dX2_isOnTram_0 : decode cX2_isOnTram 0 = .ok (.iload_n 1, 1) := by decide +kernel
theorem dX2_isOnTram_1 : decode cX2_isOnTram 1 = .ok (.aload_n 0, 1) := by decide +kernel
theorem dX2_isOnTram_2 : decode cX2_isOnTram 2 = .ok (.getfield 24, 3) := by decide +kernel
theorem dX2_isOnTram_5 : decode cX2_isOnTram 5 = .ok (.if_icmp .ge 7, 3) := by decide +kernel
theorem dX2_isOnTram_8 : decode cX2_isOnTram 8 = .ok (.iconst 1, 1) := by decide +kernel
theorem dX2_isOnTram_9 : decode cX2_isOnTram 9 = .ok (.goto 4, 3) := by decide +kernel
theorem dX2_isOnTram_12 : decode cX2_isOnTram 12 = .ok (.iconst 0, 1) := by decide +kernel
theorem dX2_isOnTram_13 : decode cX2_isOnTram 13 = .ok (.ireturn, 1) := by decide +kernel
theorem dX3_canBeginRide_0 : decode cX3_canBeginRide 0 = .ok (.aload_n 0, 1) := by decide +kernel
theorem dX3_canBeginRide_1 : decode cX3_canBeginRide 1 = .ok (.getfield 17, 3) := by decide +kernel
theorem dX3_canBeginRide_4 : decode cX3_canBeginRide 4 = .ok (.iload_n 1, 1) := by decide +kernel
theorem dX3_canBeginRide_5 : decode cX3_canBeginRide 5 = .ok (.aaload, 1) := by decide +kernel
theorem dX3_canBeginRide_6 : decode cX3_canBeginRide 6 = .ok (.aload_n 0, 1) := by decide +kernel
theorem dX3_canBeginRide_7 : decode cX3_canBeginRide 7 = .ok (.getfield 36, 3) := by decide +kernel
theorem dX3_canBeginRide_10 : decode cX3_canBeginRide 10 = .ok (.invokevirtual 100, 3) := by decide +kernel
theorem dX3_canBeginRide_13 : decode cX3_canBeginRide 13 = .ok (.ifCond .ne 25, 3) := by decide +kernel
theorem dX3_canBeginRide_16 : decode cX3_canBeginRide 16 = .ok (.iload_n 2, 1) := by decide +kernel
theorem dX3_canBeginRide_17 : decode cX3_canBeginRide 17 = .ok (.iconst (-1), 1) := by decide +kernel
theorem dX3_canBeginRide_18 : decode cX3_canBeginRide 18 = .ok (.if_icmp .eq 16, 3) := by decide +kernel
theorem dX3_canBeginRide_21 : decode cX3_canBeginRide 21 = .ok (.aload_n 0, 1) := by decide +kernel
theorem dX3_canBeginRide_22 : decode cX3_canBeginRide 22 = .ok (.getfield 23, 3) := by decide +kernel
theorem dX3_canBeginRide_25 : decode cX3_canBeginRide 25 = .ok (.iload_n 2, 1) := by decide +kernel
theorem dX3_canBeginRide_26 : decode cX3_canBeginRide 26 = .ok (.aaload, 1) := by decide +kernel
theorem dX3_canBeginRide_27 : decode cX3_canBeginRide 27 = .ok (.getfield 104, 3) := by decide +kernel
theorem dX3_canBeginRide_30 : decode cX3_canBeginRide 30 = .ok (.iload_n 1, 1) := by decide +kernel
theorem dX3_canBeginRide_31 : decode cX3_canBeginRide 31 = .ok (.if_icmp .ne 7, 3) := by decide +kernel
theorem dX3_canBeginRide_34 : decode cX3_canBeginRide 34 = .ok (.iconst 1, 1) := by decide +kernel
theorem dX3_canBeginRide_35 : decode cX3_canBeginRide 35 = .ok (.goto 4, 3) := by decide +kernel
theorem dX3_canBeginRide_38 : decode cX3_canBeginRide 38 = .ok (.iconst 0, 1) := by decide +kernel
theorem dX3_canBeginRide_39 : decode cX3_canBeginRide 39 = .ok (.ireturn, 1) := by decide +kernel
theorem dX4_useForRide_0 : decode cX4_useForRide 0 = .ok (.aload_n 0, 1) := by decide +kernel
theorem dX4_useForRide_1 : decode cX4_useForRide 1 = .ok (.invokevirtual 30, 3) := by decide +kernel
theorem dX4_useForRide_4 : decode cX4_useForRide 4 = .ok (.ifCond .ne 13, 3) := by decide +kernel
theorem dX4_useForRide_7 : decode cX4_useForRide 7 = .ok (.aload_n 0, 1) := by decide +kernel
theorem dX4_useForRide_8 : decode cX4_useForRide 8 = .ok (.iload_n 1, 1) := by decide +kernel
theorem dX4_useForRide_9 : decode cX4_useForRide 9 = .ok (.putfield 21, 3) := by decide +kernel
theorem dX4_useForRide_12 : decode cX4_useForRide 12 = .ok (.aload_n 0, 1) := by decide +kernel
theorem dX4_useForRide_13 : decode cX4_useForRide 13 = .ok (.iload_n 2, 1) := by decide +kernel
theorem dX4_useForRide_14 : decode cX4_useForRide 14 = .ok (.putfield 24, 3) := by decide +kernel
theorem dX4_useForRide_17 : decode cX4_useForRide 17 = .ok (.aload_n 0, 1) := by decide +kernel
theorem dX4_useForRide_18 : decode cX4_useForRide 18 = .ok (.dup, 1) := by decide +kernel
theorem dX4_useForRide_19 : decode cX4_useForRide 19 = .ok (.getfield 27, 3) := by decide +kernel
theorem dX4_useForRide_22 : decode cX4_useForRide 22 = .ok (.iconst 1, 1) := by decide +kernel
theorem dX4_useForRide_23 : decode cX4_useForRide 23 = .ok (.iadd, 1) := by decide +kernel
theorem dX4_useForRide_24 : decode cX4_useForRide 24 = .ok (.putfield 27, 3) := by decide +kernel
theorem dX4_useForRide_27 : decode cX4_useForRide 27 = .ok (.return_, 1) := by decide +kernel
theorem dX3_beginRide_0 : decode cX3_beginRide 0 = .ok (.aload_n 0, 1) := by decide +kernel
theorem dX3_beginRide_1 : decode cX3_beginRide 1 = .ok (.getfield 36, 3) := by decide +kernel
theorem dX3_beginRide_4 : decode cX3_beginRide 4 = .ok (.iconst 2, 1) := by decide +kernel
theorem dX3_beginRide_5 : decode cX3_beginRide 5 = .ok (.iload_n 3, 1) := by decide +kernel
theorem dX3_beginRide_6 : decode cX3_beginRide 6 = .ok (.iload_n 2, 1) := by decide +kernel
theorem dX3_beginRide_7 : decode cX3_beginRide 7 = .ok (.isub, 1) := by decide +kernel
theorem dX3_beginRide_8 : decode cX3_beginRide 8 = .ok (.invokestatic 107, 3) := by decide +kernel
theorem dX3_beginRide_11 : decode cX3_beginRide 11 = .ok (.imul, 1) := by decide +kernel
theorem dX3_beginRide_12 : decode cX3_beginRide 12 = .ok (.iadd, 1) := by decide +kernel
theorem dX3_beginRide_13 : decode cX3_beginRide 13 = .ok (.istore 5, 2) := by decide +kernel
theorem dX3_beginRide_15 : decode cX3_beginRide 15 = .ok (.aload_n 0, 1) := by decide +kernel
theorem dX3_beginRide_16 : decode cX3_beginRide 16 = .ok (.getfield 17, 3) := by decide +kernel
theorem dX3_beginRide_19 : decode cX3_beginRide 19 = .ok (.iload_n 1, 1) := by decide +kernel
theorem dX3_beginRide_20 : decode cX3_beginRide 20 = .ok (.aaload, 1) := by decide +kernel
theorem dX3_beginRide_21 : decode cX3_beginRide 21 = .ok (.iload_n 2, 1) := by decide +kernel
theorem dX3_beginRide_22 : decode cX3_beginRide 22 = .ok (.iload_n 3, 1) := by decide +kernel
theorem dX3_beginRide_23 : decode cX3_beginRide 23 = .ok (.iload 5, 2) := by decide +kernel
theorem dX3_beginRide_25 : decode cX3_beginRide 25 = .ok (.iload 4, 2) := by decide +kernel
theorem dX3_beginRide_27 : decode cX3_beginRide 27 = .ok (.invokevirtual 111, 3) := by decide +kernel
theorem dX3_beginRide_30 : decode cX3_beginRide 30 = .ok (.iload 4, 2) := by decide +kernel
theorem dX3_beginRide_32 : decode cX3_beginRide 32 = .ok (.iconst (-1), 1) := by decide +kernel
theorem dX3_beginRide_33 : decode cX3_beginRide 33 = .ok (.if_icmp .eq 18, 3) := by decide +kernel
theorem dX3_beginRide_36 : decode cX3_beginRide 36 = .ok (.aload_n 0, 1) := by decide +kernel
theorem dX3_beginRide_37 : decode cX3_beginRide 37 = .ok (.getfield 23, 3) := by decide +kernel
theorem dX3_beginRide_40 : decode cX3_beginRide 40 = .ok (.iload 4, 2) := by decide +kernel
theorem dX3_beginRide_42 : decode cX3_beginRide 42 = .ok (.aaload, 1) := by decide +kernel
theorem dX3_beginRide_43 : decode cX3_beginRide 43 = .ok (.aload_n 0, 1) := by decide +kernel
theorem dX3_beginRide_44 : decode cX3_beginRide 44 = .ok (.getfield 36, 3) := by decide +kernel
theorem dX3_beginRide_47 : decode cX3_beginRide 47 = .ok (.iload_n 2, 1) := by decide +kernel
theorem dX3_beginRide_48 : decode cX3_beginRide 48 = .ok (.invokevirtual 115, 3) := by decide +kernel
theorem dX3_beginRide_51 : decode cX3_beginRide 51 = .ok (.iload 5, 2) := by decide +kernel
theorem dX3_beginRide_53 : decode cX3_beginRide 53 = .ok (.ireturn, 1) := by decide +kernel
theorem dX1_readRide_0 : decode cX1_readRide 0 = .ok (.aload_n 0, 1) := by decide +kernel
theorem dX1_readRide_1 : decode cX1_readRide 1 = .ok (.invokevirtual 32, 3) := by decide +kernel
theorem dX1_readRide_4 : decode cX1_readRide 4 = .ok (.aload_n 0, 1) := by decide +kernel
theorem dX1_readRide_5 : decode cX1_readRide 5 = .ok (.invokevirtual 196, 3) := by decide +kernel
theorem dX1_readRide_8 : decode cX1_readRide 8 = .ok (.istore_n 1, 1) := by decide +kernel
theorem dX1_readRide_9 : decode cX1_readRide 9 = .ok (.aload_n 0, 1) := by decide +kernel
theorem dX1_readRide_10 : decode cX1_readRide 10 = .ok (.iconst (-1), 1) := by decide +kernel
theorem dX1_readRide_11 : decode cX1_readRide 11 = .ok (.invokevirtual 210, 3) := by decide +kernel
theorem dX1_readRide_14 : decode cX1_readRide 14 = .ok (.istore_n 2, 1) := by decide +kernel
theorem dX1_readRide_15 : decode cX1_readRide 15 = .ok (.aload_n 0, 1) := by decide +kernel
theorem dX1_readRide_16 : decode cX1_readRide 16 = .ok (.iload_n 2, 1) := by decide +kernel
theorem dX1_readRide_17 : decode cX1_readRide 17 = .ok (.invokevirtual 210, 3) := by decide +kernel
theorem dX1_readRide_20 : decode cX1_readRide 20 = .ok (.istore_n 3, 1) := by decide +kernel
theorem dX1_readRide_21 : decode cX1_readRide 21 = .ok (.iconst (-1), 1) := by decide +kernel
theorem dX1_readRide_22 : decode cX1_readRide 22 = .ok (.istore 4, 2) := by decide +kernel
theorem dX1_readRide_24 : decode cX1_readRide 24 = .ok (.aload_n 0, 1) := by decide +kernel
theorem dX1_readRide_25 : decode cX1_readRide 25 = .ok (.ldc 213, 2) := by decide +kernel
theorem dX1_readRide_27 : decode cX1_readRide 27 = .ok (.invokevirtual 71, 3) := by decide +kernel
theorem dX1_readRide_30 : decode cX1_readRide 30 = .ok (.ifCond .eq 13, 3) := by decide +kernel
theorem dX1_readRide_33 : decode cX1_readRide 33 = .ok (.aload_n 0, 1) := by decide +kernel
theorem dX1_readRide_34 : decode cX1_readRide 34 = .ok (.invokevirtual 32, 3) := by decide +kernel
theorem dX1_readRide_37 : decode cX1_readRide 37 = .ok (.aload_n 0, 1) := by decide +kernel
theorem dX1_readRide_38 : decode cX1_readRide 38 = .ok (.invokevirtual 215, 3) := by decide +kernel
theorem dX1_readRide_41 : decode cX1_readRide 41 = .ok (.istore 4, 2) := by decide +kernel
theorem dX1_readRide_43 : decode cX1_readRide 43 = .ok (.aload_n 0, 1) := by decide +kernel
theorem dX1_readRide_44 : decode cX1_readRide 44 = .ok (.aload_n 0, 1) := by decide +kernel
theorem dX1_readRide_45 : decode cX1_readRide 45 = .ok (.invokevirtual 35, 3) := by decide +kernel
theorem dX1_readRide_48 : decode cX1_readRide 48 = .ok (.ifCond .ne 20, 3) := by decide +kernel
theorem dX1_readRide_51 : decode cX1_readRide 51 = .ok (.aload_n 0, 1) := by decide +kernel
theorem dX1_readRide_52 : decode cX1_readRide 52 = .ok (.getfield 19, 3) := by decide +kernel
theorem dX1_readRide_55 : decode cX1_readRide 55 = .ok (.iload_n 1, 1) := by decide +kernel
theorem dX1_readRide_56 : decode cX1_readRide 56 = .ok (.iload 4, 2) := by decide +kernel
theorem dX1_readRide_58 : decode cX1_readRide 58 = .ok (.invokevirtual 218, 3) := by decide +kernel
theorem dX1_readRide_61 : decode cX1_readRide 61 = .ok (.ifCond .eq 7, 3) := by decide +kernel
theorem dX1_readRide_64 : decode cX1_readRide 64 = .ok (.iconst 1, 1) := by decide +kernel
theorem dX1_readRide_65 : decode cX1_readRide 65 = .ok (.goto 4, 3) := by decide +kernel
theorem dX1_readRide_68 : decode cX1_readRide 68 = .ok (.iconst 0, 1) := by decide +kernel
theorem dX1_readRide_69 : decode cX1_readRide 69 = .ok (.invokevirtual 100, 3) := by decide +kernel
theorem dX1_readRide_72 : decode cX1_readRide 72 = .ok (.ifCond .eq 16, 3) := by decide +kernel
theorem dX1_readRide_75 : decode cX1_readRide 75 = .ok (.aload_n 0, 1) := by decide +kernel
theorem dX1_readRide_76 : decode cX1_readRide 76 = .ok (.getfield 19, 3) := by decide +kernel
theorem dX1_readRide_79 : decode cX1_readRide 79 = .ok (.iload_n 1, 1) := by decide +kernel
theorem dX1_readRide_80 : decode cX1_readRide 80 = .ok (.iload_n 2, 1) := by decide +kernel
theorem dX1_readRide_81 : decode cX1_readRide 81 = .ok (.iload_n 3, 1) := by decide +kernel
theorem dX1_readRide_82 : decode cX1_readRide 82 = .ok (.iload 4, 2) := by decide +kernel
theorem dX1_readRide_84 : decode cX1_readRide 84 = .ok (.invokevirtual 222, 3) := by decide +kernel
theorem dX1_readRide_87 : decode cX1_readRide 87 = .ok (.pop, 1) := by decide +kernel
theorem dX1_readRide_88 : decode cX1_readRide 88 = .ok (.return_, 1) := by decide +kernel
theorem dX3_canInspect_0 : decode cX3_canInspect 0 = .ok (.aload_n 0, 1) := by decide +kernel
theorem dX3_canInspect_1 : decode cX3_canInspect 1 = .ok (.getfield 17, 3) := by decide +kernel
theorem dX3_canInspect_4 : decode cX3_canInspect 4 = .ok (.iload_n 1, 1) := by decide +kernel
theorem dX3_canInspect_5 : decode cX3_canInspect 5 = .ok (.aaload, 1) := by decide +kernel
theorem dX3_canInspect_6 : decode cX3_canInspect 6 = .ok (.astore_n 2, 1) := by decide +kernel
theorem dX3_canInspect_7 : decode cX3_canInspect 7 = .ok (.aload_n 2, 1) := by decide +kernel
theorem dX3_canInspect_8 : decode cX3_canInspect 8 = .ok (.aload_n 0, 1) := by decide +kernel
theorem dX3_canInspect_9 : decode cX3_canInspect 9 = .ok (.getfield 36, 3) := by decide +kernel
theorem dX3_canInspect_12 : decode cX3_canInspect 12 = .ok (.invokevirtual 100, 3) := by decide +kernel
theorem dX3_canInspect_15 : decode cX3_canInspect 15 = .ok (.ifCond .eq 23, 3) := by decide +kernel
theorem dX3_canInspect_18 : decode cX3_canInspect 18 = .ok (.aload_n 2, 1) := by decide +kernel
theorem dX3_canInspect_19 : decode cX3_canInspect 19 = .ok (.getfield 146, 3) := by decide +kernel
theorem dX3_canInspect_22 : decode cX3_canInspect 22 = .ok (.ifCond .ne 16, 3) := by decide +kernel
theorem dX3_canInspect_25 : decode cX3_canInspect 25 = .ok (.aload_n 0, 1) := by decide +kernel
theorem dX3_canInspect_26 : decode cX3_canInspect 26 = .ok (.getfield 58, 3) := by decide +kernel
theorem dX3_canInspect_29 : decode cX3_canInspect 29 = .ok (.bipush 20, 2) := by decide +kernel
theorem dX3_canInspect_31 : decode cX3_canInspect 31 = .ok (.if_icmp .ge 7, 3) := by decide +kernel
theorem dX3_canInspect_34 : decode cX3_canInspect 34 = .ok (.iconst 1, 1) := by decide +kernel
theorem dX3_canInspect_35 : decode cX3_canInspect 35 = .ok (.goto 4, 3) := by decide +kernel
theorem dX3_canInspect_38 : decode cX3_canInspect 38 = .ok (.iconst 0, 1) := by decide +kernel
theorem dX3_canInspect_39 : decode cX3_canInspect 39 = .ok (.ireturn, 1) := by decide +kernel
theorem dX4_inTimeAt_0 : decode cX4_inTimeAt 0 = .ok (.aload_n 0, 1) := by decide +kernel
theorem dX4_inTimeAt_1 : decode cX4_inTimeAt 1 = .ok (.invokevirtual 30, 3) := by decide +kernel
theorem dX4_inTimeAt_4 : decode cX4_inTimeAt 4 = .ok (.ifCond .ne 5, 3) := by decide +kernel
theorem dX4_inTimeAt_7 : decode cX4_inTimeAt 7 = .ok (.iconst 1, 1) := by decide +kernel
theorem dX4_inTimeAt_8 : decode cX4_inTimeAt 8 = .ok (.ireturn, 1) := by decide +kernel
theorem dX4_inTimeAt_9 : decode cX4_inTimeAt 9 = .ok (.aload_n 0, 1) := by decide +kernel
theorem dX4_inTimeAt_10 : decode cX4_inTimeAt 10 = .ok (.getfield 15, 3) := by decide +kernel
theorem dX4_inTimeAt_13 : decode cX4_inTimeAt 13 = .ok (.iconst 1, 1) := by decide +kernel
theorem dX4_inTimeAt_14 : decode cX4_inTimeAt 14 = .ok (.if_icmp .ne 23, 3) := by decide +kernel
theorem dX4_inTimeAt_17 : decode cX4_inTimeAt 17 = .ok (.iload_n 1, 1) := by decide +kernel
theorem dX4_inTimeAt_18 : decode cX4_inTimeAt 18 = .ok (.invokestatic 38, 3) := by decide +kernel
theorem dX4_inTimeAt_21 : decode cX4_inTimeAt 21 = .ok (.aload_n 0, 1) := by decide +kernel
theorem dX4_inTimeAt_22 : decode cX4_inTimeAt 22 = .ok (.getfield 21, 3) := by decide +kernel
theorem dX4_inTimeAt_25 : decode cX4_inTimeAt 25 = .ok (.invokestatic 38, 3) := by decide +kernel
theorem dX4_inTimeAt_28 : decode cX4_inTimeAt 28 = .ok (.if_icmp .ne 7, 3) := by decide +kernel
theorem dX4_inTimeAt_31 : decode cX4_inTimeAt 31 = .ok (.iconst 1, 1) := by decide +kernel
theorem dX4_inTimeAt_32 : decode cX4_inTimeAt 32 = .ok (.goto 4, 3) := by decide +kernel
theorem dX4_inTimeAt_35 : decode cX4_inTimeAt 35 = .ok (.iconst 0, 1) := by decide +kernel
theorem dX4_inTimeAt_36 : decode cX4_inTimeAt 36 = .ok (.ireturn, 1) := by decide +kernel
theorem dX4_inTimeAt_37 : decode cX4_inTimeAt 37 = .ok (.iload_n 1, 1) := by decide +kernel
theorem dX4_inTimeAt_38 : decode cX4_inTimeAt 38 = .ok (.aload_n 0, 1) := by decide +kernel
theorem dX4_inTimeAt_39 : decode cX4_inTimeAt 39 = .ok (.getfield 21, 3) := by decide +kernel
theorem dX4_inTimeAt_42 : decode cX4_inTimeAt 42 = .ok (.isub, 1) := by decide +kernel
theorem dX4_inTimeAt_43 : decode cX4_inTimeAt 43 = .ok (.aload_n 0, 1) := by decide +kernel
theorem dX4_inTimeAt_44 : decode cX4_inTimeAt 44 = .ok (.getfield 15, 3) := by decide +kernel
theorem dX4_inTimeAt_47 : decode cX4_inTimeAt 47 = .ok (.iconst 2, 1) := by decide +kernel
theorem dX4_inTimeAt_48 : decode cX4_inTimeAt 48 = .ok (.if_icmp .ne 8, 3) := by decide +kernel
theorem dX4_inTimeAt_51 : decode cX4_inTimeAt 51 = .ok (.bipush 30, 2) := by decide +kernel
theorem dX4_inTimeAt_53 : decode cX4_inTimeAt 53 = .ok (.goto 5, 3) := by decide +kernel
theorem dX4_inTimeAt_56 : decode cX4_inTimeAt 56 = .ok (.bipush 60, 2) := by decide +kernel
theorem dX4_inTimeAt_58 : decode cX4_inTimeAt 58 = .ok (.if_icmp .ge 7, 3) := by decide +kernel
theorem dX4_inTimeAt_61 : decode cX4_inTimeAt 61 = .ok (.iconst 1, 1) := by decide +kernel
theorem dX4_inTimeAt_62 : decode cX4_inTimeAt 62 = .ok (.goto 4, 3) := by decide +kernel
theorem dX4_inTimeAt_65 : decode cX4_inTimeAt 65 = .ok (.iconst 0, 1) := by decide +kernel
theorem dX4_inTimeAt_66 : decode cX4_inTimeAt 66 = .ok (.ireturn, 1) := by decide +kernel
theorem dX3_rideZones_0 : decode cX3_rideZones 0 = .ok (.iconst 0, 1) := by decide +kernel
theorem dX3_rideZones_1 : decode cX3_rideZones 1 = .ok (.istore_n 3, 1) := by decide +kernel
theorem dX3_rideZones_2 : decode cX3_rideZones 2 = .ok (.iload_n 1, 1) := by decide +kernel
theorem dX3_rideZones_3 : decode cX3_rideZones 3 = .ok (.iload_n 2, 1) := by decide +kernel
theorem dX3_rideZones_4 : decode cX3_rideZones 4 = .ok (.invokestatic 81, 3) := by decide +kernel
theorem dX3_rideZones_7 : decode cX3_rideZones 7 = .ok (.istore 4, 2) := by decide +kernel
theorem dX3_rideZones_9 : decode cX3_rideZones 9 = .ok (.iload_n 1, 1) := by decide +kernel
theorem dX3_rideZones_10 : decode cX3_rideZones 10 = .ok (.iload_n 2, 1) := by decide +kernel
theorem dX3_rideZones_11 : decode cX3_rideZones 11 = .ok (.invokestatic 87, 3) := by decide +kernel
theorem dX3_rideZones_14 : decode cX3_rideZones 14 = .ok (.istore 5, 2) := by decide +kernel
theorem dX3_rideZones_16 : decode cX3_rideZones 16 = .ok (.iload 5, 2) := by decide +kernel
theorem dX3_rideZones_18 : decode cX3_rideZones 18 = .ok (.iload 4, 2) := by decide +kernel
theorem dX3_rideZones_20 : decode cX3_rideZones 20 = .ok (.if_icmp .gt 21, 3) := by decide +kernel
theorem dX3_rideZones_23 : decode cX3_rideZones 23 = .ok (.iload_n 3, 1) := by decide +kernel
theorem dX3_rideZones_24 : decode cX3_rideZones 24 = .ok (.iconst 1, 1) := by decide +kernel
theorem dX3_rideZones_25 : decode cX3_rideZones 25 = .ok (.aload_n 0, 1) := by decide +kernel
theorem dX3_rideZones_26 : decode cX3_rideZones 26 = .ok (.getfield 9, 3) := by decide +kernel
theorem dX3_rideZones_29 : decode cX3_rideZones 29 = .ok (.iload 5, 2) := by decide +kernel
theorem dX3_rideZones_31 : decode cX3_rideZones 31 = .ok (.iaload, 1) := by decide +kernel
theorem dX3_rideZones_32 : decode cX3_rideZones 32 = .ok (.ishl, 1) := by decide +kernel
theorem dX3_rideZones_33 : decode cX3_rideZones 33 = .ok (.ior, 1) := by decide +kernel
theorem dX3_rideZones_34 : decode cX3_rideZones 34 = .ok (.istore_n 3, 1) := by decide +kernel
theorem dX3_rideZones_35 : decode cX3_rideZones 35 = .ok (.iinc 5 1, 3) := by decide +kernel
theorem dX3_rideZones_38 : decode cX3_rideZones 38 = .ok (.goto (-22), 3) := by decide +kernel
theorem dX3_rideZones_41 : decode cX3_rideZones 41 = .ok (.iload_n 3, 1) := by decide +kernel
theorem dX3_rideZones_42 : decode cX3_rideZones 42 = .ok (.ireturn, 1) := by decide +kernel
theorem dX3_findFault_0 : decode cX3_findFault 0 = .ok (.aload_n 0, 1) := by decide +kernel
theorem dX3_findFault_1 : decode cX3_findFault 1 = .ok (.getfield 17, 3) := by decide +kernel
theorem dX3_findFault_4 : decode cX3_findFault 4 = .ok (.iload_n 1, 1) := by decide +kernel
theorem dX3_findFault_5 : decode cX3_findFault 5 = .ok (.aaload, 1) := by decide +kernel
theorem dX3_findFault_6 : decode cX3_findFault 6 = .ok (.astore_n 2, 1) := by decide +kernel
theorem dX3_findFault_7 : decode cX3_findFault 7 = .ok (.aload_n 2, 1) := by decide +kernel
theorem dX3_findFault_8 : decode cX3_findFault 8 = .ok (.getfield 119, 3) := by decide +kernel
theorem dX3_findFault_11 : decode cX3_findFault 11 = .ok (.iconst (-1), 1) := by decide +kernel
theorem dX3_findFault_12 : decode cX3_findFault 12 = .ok (.if_icmp .ne 5, 3) := by decide +kernel
theorem dX3_findFault_15 : decode cX3_findFault 15 = .ok (.iconst 0, 1) := by decide +kernel
theorem dX3_findFault_16 : decode cX3_findFault 16 = .ok (.ireturn, 1) := by decide +kernel
theorem dX3_findFault_17 : decode cX3_findFault 17 = .ok (.aload_n 2, 1) := by decide +kernel
theorem dX3_findFault_18 : decode cX3_findFault 18 = .ok (.getfield 122, 3) := by decide +kernel
theorem dX3_findFault_21 : decode cX3_findFault 21 = .ok (.iconst (-1), 1) := by decide +kernel
theorem dX3_findFault_22 : decode cX3_findFault 22 = .ok (.if_icmp .ne 5, 3) := by decide +kernel
theorem dX3_findFault_25 : decode cX3_findFault 25 = .ok (.iconst 1, 1) := by decide +kernel
theorem dX3_findFault_26 : decode cX3_findFault 26 = .ok (.ireturn, 1) := by decide +kernel
theorem dX3_findFault_27 : decode cX3_findFault 27 = .ok (.aload_n 0, 1) := by decide +kernel
theorem dX3_findFault_28 : decode cX3_findFault 28 = .ok (.getfield 23, 3) := by decide +kernel
theorem dX3_findFault_31 : decode cX3_findFault 31 = .ok (.aload_n 2, 1) := by decide +kernel
theorem dX3_findFault_32 : decode cX3_findFault 32 = .ok (.getfield 122, 3) := by decide +kernel
theorem dX3_findFault_35 : decode cX3_findFault 35 = .ok (.aaload, 1) := by decide +kernel
theorem dX3_findFault_36 : decode cX3_findFault 36 = .ok (.astore_n 3, 1) := by decide +kernel
theorem dX3_findFault_37 : decode cX3_findFault 37 = .ok (.aload_n 3, 1) := by decide +kernel
theorem dX3_findFault_38 : decode cX3_findFault 38 = .ok (.aload_n 0, 1) := by decide +kernel
theorem dX3_findFault_39 : decode cX3_findFault 39 = .ok (.getfield 36, 3) := by decide +kernel
theorem dX3_findFault_42 : decode cX3_findFault 42 = .ok (.invokevirtual 125, 3) := by decide +kernel
theorem dX3_findFault_45 : decode cX3_findFault 45 = .ok (.ifCond .ne 5, 3) := by decide +kernel
theorem dX3_findFault_48 : decode cX3_findFault 48 = .ok (.iconst 2, 1) := by decide +kernel
theorem dX3_findFault_49 : decode cX3_findFault 49 = .ok (.ireturn, 1) := by decide +kernel
theorem dX3_findFault_50 : decode cX3_findFault 50 = .ok (.aload_n 3, 1) := by decide +kernel
theorem dX3_findFault_51 : decode cX3_findFault 51 = .ok (.aload_n 0, 1) := by decide +kernel
theorem dX3_findFault_52 : decode cX3_findFault 52 = .ok (.aload_n 2, 1) := by decide +kernel
theorem dX3_findFault_53 : decode cX3_findFault 53 = .ok (.getfield 119, 3) := by decide +kernel
theorem dX3_findFault_56 : decode cX3_findFault 56 = .ok (.aload_n 2, 1) := by decide +kernel
theorem dX3_findFault_57 : decode cX3_findFault 57 = .ok (.getfield 128, 3) := by decide +kernel
theorem dX3_findFault_60 : decode cX3_findFault 60 = .ok (.invokevirtual 131, 3) := by decide +kernel
theorem dX3_findFault_63 : decode cX3_findFault 63 = .ok (.invokevirtual 134, 3) := by decide +kernel
theorem dX3_findFault_66 : decode cX3_findFault 66 = .ok (.ifCond .ne 5, 3) := by decide +kernel
theorem dX3_findFault_69 : decode cX3_findFault 69 = .ok (.iconst 3, 1) := by decide +kernel
theorem dX3_findFault_70 : decode cX3_findFault 70 = .ok (.ireturn, 1) := by decide +kernel
theorem dX3_findFault_71 : decode cX3_findFault 71 = .ok (.aload_n 3, 1) := by decide +kernel
theorem dX3_findFault_72 : decode cX3_findFault 72 = .ok (.getfield 137, 3) := by decide +kernel
theorem dX3_findFault_75 : decode cX3_findFault 75 = .ok (.ifCond .ne 13, 3) := by decide +kernel
theorem dX3_findFault_78 : decode cX3_findFault 78 = .ok (.aload_n 3, 1) := by decide +kernel
theorem dX3_findFault_79 : decode cX3_findFault 79 = .ok (.getfield 140, 3) := by decide +kernel
theorem dX3_findFault_82 : decode cX3_findFault 82 = .ok (.iconst 3, 1) := by decide +kernel
theorem dX3_findFault_83 : decode cX3_findFault 83 = .ok (.if_icmp .le 5, 3) := by decide +kernel
theorem dX3_findFault_86 : decode cX3_findFault 86 = .ok (.iconst 4, 1) := by decide +kernel
theorem dX3_findFault_87 : decode cX3_findFault 87 = .ok (.ireturn, 1) := by decide +kernel
theorem dX3_findFault_88 : decode cX3_findFault 88 = .ok (.aload_n 3, 1) := by decide +kernel
theorem dX3_findFault_89 : decode cX3_findFault 89 = .ok (.getfield 137, 3) := by decide +kernel
theorem dX3_findFault_92 : decode cX3_findFault 92 = .ok (.iconst 2, 1) := by decide +kernel
theorem dX3_findFault_93 : decode cX3_findFault 93 = .ok (.if_icmp .ne 21, 3) := by decide +kernel
theorem dX3_findFault_96 : decode cX3_findFault 96 = .ok (.aload_n 2, 1) := by decide +kernel
theorem dX3_findFault_97 : decode cX3_findFault 97 = .ok (.getfield 128, 3) := by decide +kernel
theorem dX3_findFault_100 : decode cX3_findFault 100 = .ok (.aload_n 3, 1) := by decide +kernel
theorem dX3_findFault_101 : decode cX3_findFault 101 = .ok (.getfield 143, 3) := by decide +kernel
theorem dX3_findFault_104 : decode cX3_findFault 104 = .ok (.isub, 1) := by decide +kernel
theorem dX3_findFault_105 : decode cX3_findFault 105 = .ok (.invokestatic 107, 3) := by decide +kernel
theorem dX3_findFault_108 : decode cX3_findFault 108 = .ok (.iconst 4, 1) := by decide +kernel
theorem dX3_findFault_109 : decode cX3_findFault 109 = .ok (.if_icmp .le 5, 3) := by decide +kernel
theorem dX3_findFault_112 : decode cX3_findFault 112 = .ok (.iconst 5, 1) := by decide +kernel
theorem dX3_findFault_113 : decode cX3_findFault 113 = .ok (.ireturn, 1) := by decide +kernel
theorem dX3_findFault_114 : decode cX3_findFault 114 = .ok (.iconst 0, 1) := by decide +kernel
theorem dX3_findFault_115 : decode cX3_findFault 115 = .ok (.ireturn, 1) := by decide +kernel
theorem dX3_inspectRide_0 : decode cX3_inspectRide 0 = .ok (.aload_n 0, 1) := by decide +kernel
theorem dX3_inspectRide_1 : decode cX3_inspectRide 1 = .ok (.getfield 17, 3) := by decide +kernel
theorem dX3_inspectRide_4 : decode cX3_inspectRide 4 = .ok (.iload_n 1, 1) := by decide +kernel
theorem dX3_inspectRide_5 : decode cX3_inspectRide 5 = .ok (.aaload, 1) := by decide +kernel
theorem dX3_inspectRide_6 : decode cX3_inspectRide 6 = .ok (.astore_n 2, 1) := by decide +kernel
theorem dX3_inspectRide_7 : decode cX3_inspectRide 7 = .ok (.aload_n 0, 1) := by decide +kernel
theorem dX3_inspectRide_8 : decode cX3_inspectRide 8 = .ok (.iload_n 1, 1) := by decide +kernel
theorem dX3_inspectRide_9 : decode cX3_inspectRide 9 = .ok (.invokevirtual 150, 3) := by decide +kernel
theorem dX3_inspectRide_12 : decode cX3_inspectRide 12 = .ok (.istore_n 3, 1) := by decide +kernel
theorem dX3_inspectRide_13 : decode cX3_inspectRide 13 = .ok (.aload_n 2, 1) := by decide +kernel
theorem dX3_inspectRide_14 : decode cX3_inspectRide 14 = .ok (.iconst 1, 1) := by decide +kernel
theorem dX3_inspectRide_15 : decode cX3_inspectRide 15 = .ok (.putfield 146, 3) := by decide +kernel
theorem dX3_inspectRide_18 : decode cX3_inspectRide 18 = .ok (.aload_n 0, 1) := by decide +kernel
theorem dX3_inspectRide_19 : decode cX3_inspectRide 19 = .ok (.dup, 1) := by decide +kernel
theorem dX3_inspectRide_20 : decode cX3_inspectRide 20 = .ok (.getfield 43, 3) := by decide +kernel
theorem dX3_inspectRide_23 : decode cX3_inspectRide 23 = .ok (.iconst 1, 1) := by decide +kernel
theorem dX3_inspectRide_24 : decode cX3_inspectRide 24 = .ok (.iadd, 1) := by decide +kernel
theorem dX3_inspectRide_25 : decode cX3_inspectRide 25 = .ok (.putfield 43, 3) := by decide +kernel
theorem dX3_inspectRide_28 : decode cX3_inspectRide 28 = .ok (.iload_n 3, 1) := by decide +kernel
theorem dX3_inspectRide_29 : decode cX3_inspectRide 29 = .ok (.ifCond .eq 43, 3) := by decide +kernel
theorem dX3_inspectRide_32 : decode cX3_inspectRide 32 = .ok (.aload_n 0, 1) := by decide +kernel
theorem dX3_inspectRide_33 : decode cX3_inspectRide 33 = .ok (.getfield 29, 3) := by decide +kernel
theorem dX3_inspectRide_36 : decode cX3_inspectRide 36 = .ok (.aload_n 0, 1) := by decide +kernel
theorem dX3_inspectRide_37 : decode cX3_inspectRide 37 = .ok (.getfield 58, 3) := by decide +kernel
theorem dX3_inspectRide_40 : decode cX3_inspectRide 40 = .ok (.aaload, 1) := by decide +kernel
theorem dX3_inspectRide_41 : decode cX3_inspectRide 41 = .ok (.iload_n 1, 1) := by decide +kernel
theorem dX3_inspectRide_42 : decode cX3_inspectRide 42 = .ok (.iload_n 3, 1) := by decide +kernel
theorem dX3_inspectRide_43 : decode cX3_inspectRide 43 = .ok (.aload_n 0, 1) := by decide +kernel
theorem dX3_inspectRide_44 : decode cX3_inspectRide 44 = .ok (.getfield 36, 3) := by decide +kernel
theorem dX3_inspectRide_47 : decode cX3_inspectRide 47 = .ok (.aload_n 0, 1) := by decide +kernel
theorem dX3_inspectRide_48 : decode cX3_inspectRide 48 = .ok (.aload_n 2, 1) := by decide +kernel
theorem dX3_inspectRide_49 : decode cX3_inspectRide 49 = .ok (.getfield 119, 3) := by decide +kernel
theorem dX3_inspectRide_52 : decode cX3_inspectRide 52 = .ok (.aload_n 2, 1) := by decide +kernel
theorem dX3_inspectRide_53 : decode cX3_inspectRide 53 = .ok (.getfield 128, 3) := by decide +kernel
theorem dX3_inspectRide_56 : decode cX3_inspectRide 56 = .ok (.invokevirtual 131, 3) := by decide +kernel
theorem dX3_inspectRide_59 : decode cX3_inspectRide 59 = .ok (.invokevirtual 153, 3) := by decide +kernel
theorem dX3_inspectRide_62 : decode cX3_inspectRide 62 = .ok (.aload_n 0, 1) := by decide +kernel
theorem dX3_inspectRide_63 : decode cX3_inspectRide 63 = .ok (.dup, 1) := by decide +kernel
theorem dX3_inspectRide_64 : decode cX3_inspectRide 64 = .ok (.getfield 58, 3) := by decide +kernel
theorem dX3_inspectRide_67 : decode cX3_inspectRide 67 = .ok (.iconst 1, 1) := by decide +kernel
theorem dX3_inspectRide_68 : decode cX3_inspectRide 68 = .ok (.iadd, 1) := by decide +kernel
theorem dX3_inspectRide_69 : decode cX3_inspectRide 69 = .ok (.putfield 58, 3) := by decide +kernel
theorem dX3_inspectRide_72 : decode cX3_inspectRide 72 = .ok (.iload_n 3, 1) := by decide +kernel
theorem dX3_inspectRide_73 : decode cX3_inspectRide 73 = .ok (.ireturn, 1) := by decide +kernel
theorem dX1_readInspect_0 : decode cX1_readInspect 0 = .ok (.aload_n 0, 1) := by decide +kernel
theorem dX1_readInspect_1 : decode cX1_readInspect 1 = .ok (.invokevirtual 32, 3) := by decide +kernel
theorem dX1_readInspect_4 : decode cX1_readInspect 4 = .ok (.aload_n 0, 1) := by decide +kernel
theorem dX1_readInspect_5 : decode cX1_readInspect 5 = .ok (.invokevirtual 196, 3) := by decide +kernel
theorem dX1_readInspect_8 : decode cX1_readInspect 8 = .ok (.istore_n 1, 1) := by decide +kernel
theorem dX1_readInspect_9 : decode cX1_readInspect 9 = .ok (.aload_n 0, 1) := by decide +kernel
theorem dX1_readInspect_10 : decode cX1_readInspect 10 = .ok (.aload_n 0, 1) := by decide +kernel
theorem dX1_readInspect_11 : decode cX1_readInspect 11 = .ok (.invokevirtual 35, 3) := by decide +kernel
theorem dX1_readInspect_14 : decode cX1_readInspect 14 = .ok (.ifCond .ne 18, 3) := by decide +kernel
theorem dX1_readInspect_17 : decode cX1_readInspect 17 = .ok (.aload_n 0, 1) := by decide +kernel
theorem dX1_readInspect_18 : decode cX1_readInspect 18 = .ok (.getfield 19, 3) := by decide +kernel
theorem dX1_readInspect_21 : decode cX1_readInspect 21 = .ok (.iload_n 1, 1) := by decide +kernel
theorem dX1_readInspect_22 : decode cX1_readInspect 22 = .ok (.invokevirtual 226, 3) := by decide +kernel
theorem dX1_readInspect_25 : decode cX1_readInspect 25 = .ok (.ifCond .eq 7, 3) := by decide +kernel
theorem dX1_readInspect_28 : decode cX1_readInspect 28 = .ok (.iconst 1, 1) := by decide +kernel
theorem dX1_readInspect_29 : decode cX1_readInspect 29 = .ok (.goto 4, 3) := by decide +kernel
theorem dX1_readInspect_32 : decode cX1_readInspect 32 = .ok (.iconst 0, 1) := by decide +kernel
theorem dX1_readInspect_33 : decode cX1_readInspect 33 = .ok (.invokevirtual 100, 3) := by decide +kernel
theorem dX1_readInspect_36 : decode cX1_readInspect 36 = .ok (.ifCond .eq 12, 3) := by decide +kernel
theorem dX1_readInspect_39 : decode cX1_readInspect 39 = .ok (.aload_n 0, 1) := by decide +kernel
theorem dX1_readInspect_40 : decode cX1_readInspect 40 = .ok (.getfield 19, 3) := by decide +kernel
theorem dX1_readInspect_43 : decode cX1_readInspect 43 = .ok (.iload_n 1, 1) := by decide +kernel
theorem dX1_readInspect_44 : decode cX1_readInspect 44 = .ok (.invokevirtual 229, 3) := by decide +kernel
theorem dX1_readInspect_47 : decode cX1_readInspect 47 = .ok (.pop, 1) := by decide +kernel
theorem dX1_readInspect_48 : decode cX1_readInspect 48 = .ok (.return_, 1) := by decide +kernel
theorem dX1_readWait_0 : decode cX1_readWait 0 = .ok (.aload_n 0, 1) := by decide +kernel
theorem dX1_readWait_1 : decode cX1_readWait 1 = .ok (.invokevirtual 32, 3) := by decide +kernel
theorem dX1_readWait_4 : decode cX1_readWait 4 = .ok (.aload_n 0, 1) := by decide +kernel
theorem dX1_readWait_5 : decode cX1_readWait 5 = .ok (.iconst 1, 1) := by decide +kernel
theorem dX1_readWait_6 : decode cX1_readWait 6 = .ok (.sipush 9999, 3) := by decide +kernel
theorem dX1_readWait_9 : decode cX1_readWait 9 = .ok (.ldc 116, 2) := by decide +kernel
theorem dX1_readWait_11 : decode cX1_readWait 11 = .ok (.aload_n 0, 1) := by decide +kernel
theorem dX1_readWait_12 : decode cX1_readWait 12 = .ok (.getfield 19, 3) := by decide +kernel
theorem dX1_readWait_15 : decode cX1_readWait 15 = .ok (.getfield 232, 3) := by decide +kernel
theorem dX1_readWait_18 : decode cX1_readWait 18 = .ok (.isub, 1) := by decide +kernel
theorem dX1_readWait_19 : decode cX1_readWait 19 = .ok (.invokestatic 56, 3) := by decide +kernel
theorem dX1_readWait_22 : decode cX1_readWait 22 = .ok (.invokevirtual 84, 3) := by decide +kernel
theorem dX1_readWait_25 : decode cX1_readWait 25 = .ok (.istore_n 1, 1) := by decide +kernel
theorem dX1_readWait_26 : decode cX1_readWait 26 = .ok (.aload_n 0, 1) := by decide +kernel
theorem dX1_readWait_27 : decode cX1_readWait 27 = .ok (.iconst 1, 1) := by decide +kernel
theorem dX1_readWait_28 : decode cX1_readWait 28 = .ok (.invokevirtual 100, 3) := by decide +kernel
theorem dX1_readWait_31 : decode cX1_readWait 31 = .ok (.ifCond .eq 16, 3) := by decide +kernel
theorem dX1_readWait_34 : decode cX1_readWait 34 = .ok (.aload_n 0, 1) := by decide +kernel
theorem dX1_readWait_35 : decode cX1_readWait 35 = .ok (.getfield 19, 3) := by decide +kernel
theorem dX1_readWait_38 : decode cX1_readWait 38 = .ok (.dup, 1) := by decide +kernel
theorem dX1_readWait_39 : decode cX1_readWait 39 = .ok (.getfield 232, 3) := by decide +kernel
theorem dX1_readWait_42 : decode cX1_readWait 42 = .ok (.iload_n 1, 1) := by decide +kernel
theorem dX1_readWait_43 : decode cX1_readWait 43 = .ok (.iadd, 1) := by decide +kernel
theorem dX1_readWait_44 : decode cX1_readWait 44 = .ok (.putfield 232, 3) := by decide +kernel
theorem dX1_readWait_47 : decode cX1_readWait 47 = .ok (.return_, 1) := by decide +kernel
theorem dX3_canAppeal_0 : decode cX3_canAppeal 0 = .ok (.aload_n 0, 1) := by decide +kernel
theorem dX3_canAppeal_1 : decode cX3_canAppeal 1 = .ok (.getfield 29, 3) := by decide +kernel
theorem dX3_canAppeal_4 : decode cX3_canAppeal 4 = .ok (.iload_n 1, 1) := by decide +kernel
theorem dX3_canAppeal_5 : decode cX3_canAppeal 5 = .ok (.aaload, 1) := by decide +kernel
theorem dX3_canAppeal_6 : decode cX3_canAppeal 6 = .ok (.getfield 156, 3) := by decide +kernel
theorem dX3_canAppeal_9 : decode cX3_canAppeal 9 = .ok (.ifCond .ne 23, 3) := by decide +kernel
theorem dX3_canAppeal_12 : decode cX3_canAppeal 12 = .ok (.aload_n 0, 1) := by decide +kernel
theorem dX3_canAppeal_13 : decode cX3_canAppeal 13 = .ok (.getfield 29, 3) := by decide +kernel
theorem dX3_canAppeal_16 : decode cX3_canAppeal 16 = .ok (.iload_n 1, 1) := by decide +kernel
theorem dX3_canAppeal_17 : decode cX3_canAppeal 17 = .ok (.aaload, 1) := by decide +kernel
theorem dX3_canAppeal_18 : decode cX3_canAppeal 18 = .ok (.aload_n 0, 1) := by decide +kernel
theorem dX3_canAppeal_19 : decode cX3_canAppeal 19 = .ok (.getfield 36, 3) := by decide +kernel
theorem dX3_canAppeal_22 : decode cX3_canAppeal 22 = .ok (.invokevirtual 159, 3) := by decide +kernel
theorem dX3_canAppeal_25 : decode cX3_canAppeal 25 = .ok (.ifCond .ne 7, 3) := by decide +kernel
theorem dX3_canAppeal_28 : decode cX3_canAppeal 28 = .ok (.iconst 1, 1) := by decide +kernel
theorem dX3_canAppeal_29 : decode cX3_canAppeal 29 = .ok (.goto 4, 3) := by decide +kernel
theorem dX3_canAppeal_32 : decode cX3_canAppeal 32 = .ok (.iconst 0, 1) := by decide +kernel
theorem dX3_canAppeal_33 : decode cX3_canAppeal 33 = .ok (.ireturn, 1) := by decide +kernel
theorem dX3_beginAppeal_0 : decode cX3_beginAppeal 0 = .ok (.aload_n 0, 1) := by decide +kernel
theorem dX3_beginAppeal_1 : decode cX3_beginAppeal 1 = .ok (.getfield 29, 3) := by decide +kernel
theorem dX3_beginAppeal_4 : decode cX3_beginAppeal 4 = .ok (.iload_n 1, 1) := by decide +kernel
theorem dX3_beginAppeal_5 : decode cX3_beginAppeal 5 = .ok (.aaload, 1) := by decide +kernel
theorem dX3_beginAppeal_6 : decode cX3_beginAppeal 6 = .ok (.iconst 1, 1) := by decide +kernel
theorem dX3_beginAppeal_7 : decode cX3_beginAppeal 7 = .ok (.putfield 156, 3) := by decide +kernel
theorem dX3_beginAppeal_10 : decode cX3_beginAppeal 10 = .ok (.aload_n 0, 1) := by decide +kernel
theorem dX3_beginAppeal_11 : decode cX3_beginAppeal 11 = .ok (.getfield 29, 3) := by decide +kernel
theorem dX3_beginAppeal_14 : decode cX3_beginAppeal 14 = .ok (.iload_n 1, 1) := by decide +kernel
theorem dX3_beginAppeal_15 : decode cX3_beginAppeal 15 = .ok (.aaload, 1) := by decide +kernel
theorem dX3_beginAppeal_16 : decode cX3_beginAppeal 16 = .ok (.iload_n 2, 1) := by decide +kernel
theorem dX3_beginAppeal_17 : decode cX3_beginAppeal 17 = .ok (.putfield 162, 3) := by decide +kernel
theorem dX3_beginAppeal_20 : decode cX3_beginAppeal 20 = .ok (.iconst 0, 1) := by decide +kernel
theorem dX3_beginAppeal_21 : decode cX3_beginAppeal 21 = .ok (.istore_n 3, 1) := by decide +kernel
theorem dX3_beginAppeal_22 : decode cX3_beginAppeal 22 = .ok (.iconst 0, 1) := by decide +kernel
theorem dX3_beginAppeal_23 : decode cX3_beginAppeal 23 = .ok (.istore 4, 2) := by decide +kernel
theorem dX3_beginAppeal_25 : decode cX3_beginAppeal 25 = .ok (.iload 4, 2) := by decide +kernel
theorem dX3_beginAppeal_27 : decode cX3_beginAppeal 27 = .ok (.aload_n 0, 1) := by decide +kernel
theorem dX3_beginAppeal_28 : decode cX3_beginAppeal 28 = .ok (.getfield 58, 3) := by decide +kernel
theorem dX3_beginAppeal_31 : decode cX3_beginAppeal 31 = .ok (.if_icmp .ge 31, 3) := by decide +kernel
theorem dX3_beginAppeal_34 : decode cX3_beginAppeal 34 = .ok (.iload_n 3, 1) := by decide +kernel
theorem dX3_beginAppeal_35 : decode cX3_beginAppeal 35 = .ok (.aload_n 0, 1) := by decide +kernel
theorem dX3_beginAppeal_36 : decode cX3_beginAppeal 36 = .ok (.getfield 29, 3) := by decide +kernel
theorem dX3_beginAppeal_39 : decode cX3_beginAppeal 39 = .ok (.iload 4, 2) := by decide +kernel
theorem dX3_beginAppeal_41 : decode cX3_beginAppeal 41 = .ok (.aaload, 1) := by decide +kernel
theorem dX3_beginAppeal_42 : decode cX3_beginAppeal 42 = .ok (.getfield 156, 3) := by decide +kernel
theorem dX3_beginAppeal_45 : decode cX3_beginAppeal 45 = .ok (.iconst 1, 1) := by decide +kernel
theorem dX3_beginAppeal_46 : decode cX3_beginAppeal 46 = .ok (.if_icmp .ne 7, 3) := by decide +kernel
theorem dX3_beginAppeal_49 : decode cX3_beginAppeal 49 = .ok (.iconst 1, 1) := by decide +kernel
theorem dX3_beginAppeal_50 : decode cX3_beginAppeal 50 = .ok (.goto 4, 3) := by decide +kernel
theorem dX3_beginAppeal_53 : decode cX3_beginAppeal 53 = .ok (.iconst 0, 1) := by decide +kernel
theorem dX3_beginAppeal_54 : decode cX3_beginAppeal 54 = .ok (.iadd, 1) := by decide +kernel
theorem dX3_beginAppeal_55 : decode cX3_beginAppeal 55 = .ok (.istore_n 3, 1) := by decide +kernel
theorem dX3_beginAppeal_56 : decode cX3_beginAppeal 56 = .ok (.iinc 4 1, 3) := by decide +kernel
theorem dX3_beginAppeal_59 : decode cX3_beginAppeal 59 = .ok (.goto (-34), 3) := by decide +kernel
theorem dX3_beginAppeal_62 : decode cX3_beginAppeal 62 = .ok (.iload_n 3, 1) := by decide +kernel
theorem dX3_beginAppeal_63 : decode cX3_beginAppeal 63 = .ok (.ireturn, 1) := by decide +kernel
theorem dX1_readAppeal_0 : decode cX1_readAppeal 0 = .ok (.aload_n 0, 1) := by decide +kernel
theorem dX1_readAppeal_1 : decode cX1_readAppeal 1 = .ok (.invokevirtual 32, 3) := by decide +kernel
theorem dX1_readAppeal_4 : decode cX1_readAppeal 4 = .ok (.aload_n 0, 1) := by decide +kernel
theorem dX1_readAppeal_5 : decode cX1_readAppeal 5 = .ok (.invokevirtual 235, 3) := by decide +kernel
theorem dX1_readAppeal_8 : decode cX1_readAppeal 8 = .ok (.istore_n 1, 1) := by decide +kernel
theorem dX1_readAppeal_9 : decode cX1_readAppeal 9 = .ok (.aload_n 0, 1) := by decide +kernel
theorem dX1_readAppeal_10 : decode cX1_readAppeal 10 = .ok (.invokevirtual 215, 3) := by decide +kernel
theorem dX1_readAppeal_13 : decode cX1_readAppeal 13 = .ok (.istore_n 2, 1) := by decide +kernel
theorem dX1_readAppeal_14 : decode cX1_readAppeal 14 = .ok (.aload_n 0, 1) := by decide +kernel
theorem dX1_readAppeal_15 : decode cX1_readAppeal 15 = .ok (.aload_n 0, 1) := by decide +kernel
theorem dX1_readAppeal_16 : decode cX1_readAppeal 16 = .ok (.invokevirtual 35, 3) := by decide +kernel
theorem dX1_readAppeal_19 : decode cX1_readAppeal 19 = .ok (.ifCond .ne 18, 3) := by decide +kernel
theorem dX1_readAppeal_22 : decode cX1_readAppeal 22 = .ok (.aload_n 0, 1) := by decide +kernel
theorem dX1_readAppeal_23 : decode cX1_readAppeal 23 = .ok (.getfield 19, 3) := by decide +kernel
theorem dX1_readAppeal_26 : decode cX1_readAppeal 26 = .ok (.iload_n 1, 1) := by decide +kernel
theorem dX1_readAppeal_27 : decode cX1_readAppeal 27 = .ok (.invokevirtual 238, 3) := by decide +kernel
theorem dX1_readAppeal_30 : decode cX1_readAppeal 30 = .ok (.ifCond .eq 7, 3) := by decide +kernel
theorem dX1_readAppeal_33 : decode cX1_readAppeal 33 = .ok (.iconst 1, 1) := by decide +kernel
theorem dX1_readAppeal_34 : decode cX1_readAppeal 34 = .ok (.goto 4, 3) := by decide +kernel
theorem dX1_readAppeal_37 : decode cX1_readAppeal 37 = .ok (.iconst 0, 1) := by decide +kernel
theorem dX1_readAppeal_38 : decode cX1_readAppeal 38 = .ok (.invokevirtual 100, 3) := by decide +kernel
theorem dX1_readAppeal_41 : decode cX1_readAppeal 41 = .ok (.ifCond .eq 13, 3) := by decide +kernel
theorem dX1_readAppeal_44 : decode cX1_readAppeal 44 = .ok (.aload_n 0, 1) := by decide +kernel
theorem dX1_readAppeal_45 : decode cX1_readAppeal 45 = .ok (.getfield 19, 3) := by decide +kernel
theorem dX1_readAppeal_48 : decode cX1_readAppeal 48 = .ok (.iload_n 1, 1) := by decide +kernel
theorem dX1_readAppeal_49 : decode cX1_readAppeal 49 = .ok (.iload_n 2, 1) := by decide +kernel
theorem dX1_readAppeal_50 : decode cX1_readAppeal 50 = .ok (.invokevirtual 241, 3) := by decide +kernel
theorem dX1_readAppeal_53 : decode cX1_readAppeal 53 = .ok (.pop, 1) := by decide +kernel
theorem dX1_readAppeal_54 : decode cX1_readAppeal 54 = .ok (.return_, 1) := by decide +kernel
theorem dX3_canDecide_0 : decode cX3_canDecide 0 = .ok (.aload_n 0, 1) := by decide +kernel
theorem dX3_canDecide_1 : decode cX3_canDecide 1 = .ok (.getfield 29, 3) := by decide +kernel
theorem dX3_canDecide_4 : decode cX3_canDecide 4 = .ok (.iload_n 1, 1) := by decide +kernel
theorem dX3_canDecide_5 : decode cX3_canDecide 5 = .ok (.aaload, 1) := by decide +kernel
theorem dX3_canDecide_6 : decode cX3_canDecide 6 = .ok (.getfield 156, 3) := by decide +kernel
theorem dX3_canDecide_9 : decode cX3_canDecide 9 = .ok (.iconst 1, 1) := by decide +kernel
theorem dX3_canDecide_10 : decode cX3_canDecide 10 = .ok (.if_icmp .ne 7, 3) := by decide +kernel
theorem dX3_canDecide_13 : decode cX3_canDecide 13 = .ok (.iconst 1, 1) := by decide +kernel
theorem dX3_canDecide_14 : decode cX3_canDecide 14 = .ok (.goto 4, 3) := by decide +kernel
theorem dX3_canDecide_17 : decode cX3_canDecide 17 = .ok (.iconst 0, 1) := by decide +kernel
theorem dX3_canDecide_18 : decode cX3_canDecide 18 = .ok (.ireturn, 1) := by decide +kernel
theorem dX3_decisionFor_0 : decode cX3_decisionFor 0 = .ok (.aload_n 0, 1) := by decide +kernel
theorem dX3_decisionFor_1 : decode cX3_decisionFor 1 = .ok (.getfield 29, 3) := by decide +kernel
theorem dX3_decisionFor_4 : decode cX3_decisionFor 4 = .ok (.iload_n 1, 1) := by decide +kernel
theorem dX3_decisionFor_5 : decode cX3_decisionFor 5 = .ok (.aaload, 1) := by decide +kernel
theorem dX3_decisionFor_6 : decode cX3_decisionFor 6 = .ok (.aload_n 0, 1) := by decide +kernel
theorem dX3_decisionFor_7 : decode cX3_decisionFor 7 = .ok (.getfield 23, 3) := by decide +kernel
theorem dX3_decisionFor_10 : decode cX3_decisionFor 10 = .ok (.iload_n 2, 1) := by decide +kernel
theorem dX3_decisionFor_11 : decode cX3_decisionFor 11 = .ok (.aaload, 1) := by decide +kernel
theorem dX3_decisionFor_12 : decode cX3_decisionFor 12 = .ok (.invokevirtual 165, 3) := by decide +kernel
theorem dX3_decisionFor_15 : decode cX3_decisionFor 15 = .ok (.ifCond .eq 7, 3) := by decide +kernel
theorem dX3_decisionFor_18 : decode cX3_decisionFor 18 = .ok (.iconst 2, 1) := by decide +kernel
theorem dX3_decisionFor_19 : decode cX3_decisionFor 19 = .ok (.goto 4, 3) := by decide +kernel
theorem dX3_decisionFor_22 : decode cX3_decisionFor 22 = .ok (.iconst 3, 1) := by decide +kernel
theorem dX3_decisionFor_23 : decode cX3_decisionFor 23 = .ok (.ireturn, 1) := by decide +kernel
theorem dX3_decideAppeal_0 : decode cX3_decideAppeal 0 = .ok (.aload_n 0, 1) := by decide +kernel
theorem dX3_decideAppeal_1 : decode cX3_decideAppeal 1 = .ok (.getfield 29, 3) := by decide +kernel
theorem dX3_decideAppeal_4 : decode cX3_decideAppeal 4 = .ok (.iload_n 1, 1) := by decide +kernel
theorem dX3_decideAppeal_5 : decode cX3_decideAppeal 5 = .ok (.aaload, 1) := by decide +kernel
theorem dX3_decideAppeal_6 : decode cX3_decideAppeal 6 = .ok (.astore_n 2, 1) := by decide +kernel
theorem dX3_decideAppeal_7 : decode cX3_decideAppeal 7 = .ok (.aload_n 2, 1) := by decide +kernel
theorem dX3_decideAppeal_8 : decode cX3_decideAppeal 8 = .ok (.aload_n 0, 1) := by decide +kernel
theorem dX3_decideAppeal_9 : decode cX3_decideAppeal 9 = .ok (.iload_n 1, 1) := by decide +kernel
theorem dX3_decideAppeal_10 : decode cX3_decideAppeal 10 = .ok (.aload_n 2, 1) := by decide +kernel
theorem dX3_decideAppeal_11 : decode cX3_decideAppeal 11 = .ok (.getfield 162, 3) := by decide +kernel
theorem dX3_decideAppeal_14 : decode cX3_decideAppeal 14 = .ok (.invokevirtual 169, 3) := by decide +kernel
theorem dX3_decideAppeal_17 : decode cX3_decideAppeal 17 = .ok (.putfield 156, 3) := by decide +kernel
theorem dX3_decideAppeal_20 : decode cX3_decideAppeal 20 = .ok (.aload_n 2, 1) := by decide +kernel
theorem dX3_decideAppeal_21 : decode cX3_decideAppeal 21 = .ok (.aload_n 2, 1) := by decide +kernel
theorem dX3_decideAppeal_22 : decode cX3_decideAppeal 22 = .ok (.getfield 156, 3) := by decide +kernel
theorem dX3_decideAppeal_25 : decode cX3_decideAppeal 25 = .ok (.iconst 2, 1) := by decide +kernel
theorem dX3_decideAppeal_26 : decode cX3_decideAppeal 26 = .ok (.if_icmp .ne 9, 3) := by decide +kernel
theorem dX3_decideAppeal_29 : decode cX3_decideAppeal 29 = .ok (.sipush 700, 3) := by decide +kernel
theorem dX3_decideAppeal_32 : decode cX3_decideAppeal 32 = .ok (.goto 11, 3) := by decide +kernel
theorem dX3_decideAppeal_35 : decode cX3_decideAppeal 35 = .ok (.aload_n 2, 1) := by decide +kernel
theorem dX3_decideAppeal_36 : decode cX3_decideAppeal 36 = .ok (.getfield 172, 3) := by decide +kernel
theorem dX3_decideAppeal_39 : decode cX3_decideAppeal 39 = .ok (.sipush 500, 3) := by decide +kernel
theorem dX3_decideAppeal_42 : decode cX3_decideAppeal 42 = .ok (.iadd, 1) := by decide +kernel
theorem dX3_decideAppeal_43 : decode cX3_decideAppeal 43 = .ok (.putfield 172, 3) := by decide +kernel
theorem dX3_decideAppeal_46 : decode cX3_decideAppeal 46 = .ok (.aload_n 2, 1) := by decide +kernel
theorem dX3_decideAppeal_47 : decode cX3_decideAppeal 47 = .ok (.getfield 156, 3) := by decide +kernel
theorem dX3_decideAppeal_50 : decode cX3_decideAppeal 50 = .ok (.ireturn, 1) := by decide +kernel
theorem dX1_readDecide_0 : decode cX1_readDecide 0 = .ok (.aload_n 0, 1) := by decide +kernel
theorem dX1_readDecide_1 : decode cX1_readDecide 1 = .ok (.invokevirtual 32, 3) := by decide +kernel
theorem dX1_readDecide_4 : decode cX1_readDecide 4 = .ok (.aload_n 0, 1) := by decide +kernel
theorem dX1_readDecide_5 : decode cX1_readDecide 5 = .ok (.invokevirtual 235, 3) := by decide +kernel
theorem dX1_readDecide_8 : decode cX1_readDecide 8 = .ok (.istore_n 1, 1) := by decide +kernel
theorem dX1_readDecide_9 : decode cX1_readDecide 9 = .ok (.aload_n 0, 1) := by decide +kernel
theorem dX1_readDecide_10 : decode cX1_readDecide 10 = .ok (.aload_n 0, 1) := by decide +kernel
theorem dX1_readDecide_11 : decode cX1_readDecide 11 = .ok (.invokevirtual 35, 3) := by decide +kernel
theorem dX1_readDecide_14 : decode cX1_readDecide 14 = .ok (.ifCond .ne 18, 3) := by decide +kernel
theorem dX1_readDecide_17 : decode cX1_readDecide 17 = .ok (.aload_n 0, 1) := by decide +kernel
theorem dX1_readDecide_18 : decode cX1_readDecide 18 = .ok (.getfield 19, 3) := by decide +kernel
theorem dX1_readDecide_21 : decode cX1_readDecide 21 = .ok (.iload_n 1, 1) := by decide +kernel
theorem dX1_readDecide_22 : decode cX1_readDecide 22 = .ok (.invokevirtual 244, 3) := by decide +kernel
theorem dX1_readDecide_25 : decode cX1_readDecide 25 = .ok (.ifCond .eq 7, 3) := by decide +kernel
theorem dX1_readDecide_28 : decode cX1_readDecide 28 = .ok (.iconst 1, 1) := by decide +kernel
theorem dX1_readDecide_29 : decode cX1_readDecide 29 = .ok (.goto 4, 3) := by decide +kernel
theorem dX1_readDecide_32 : decode cX1_readDecide 32 = .ok (.iconst 0, 1) := by decide +kernel
theorem dX1_readDecide_33 : decode cX1_readDecide 33 = .ok (.invokevirtual 100, 3) := by decide +kernel
theorem dX1_readDecide_36 : decode cX1_readDecide 36 = .ok (.ifCond .eq 12, 3) := by decide +kernel
theorem dX1_readDecide_39 : decode cX1_readDecide 39 = .ok (.aload_n 0, 1) := by decide +kernel
theorem dX1_readDecide_40 : decode cX1_readDecide 40 = .ok (.getfield 19, 3) := by decide +kernel
theorem dX1_readDecide_43 : decode cX1_readDecide 43 = .ok (.iload_n 1, 1) := by decide +kernel
theorem dX1_readDecide_44 : decode cX1_readDecide 44 = .ok (.invokevirtual 247, 3) := by decide +kernel
theorem dX1_readDecide_47 : decode cX1_readDecide 47 = .ok (.pop, 1) := by decide +kernel
theorem dX1_readDecide_48 : decode cX1_readDecide 48 = .ok (.return_, 1) := by decide +kernel
theorem dX3_canPay_0 : decode cX3_canPay 0 = .ok (.aload_n 0, 1) := by decide +kernel
theorem dX3_canPay_1 : decode cX3_canPay 1 = .ok (.getfield 29, 3) := by decide +kernel
theorem dX3_canPay_4 : decode cX3_canPay 4 = .ok (.iload_n 1, 1) := by decide +kernel
theorem dX3_canPay_5 : decode cX3_canPay 5 = .ok (.aaload, 1) := by decide +kernel
theorem dX3_canPay_6 : decode cX3_canPay 6 = .ok (.astore_n 2, 1) := by decide +kernel
theorem dX3_canPay_7 : decode cX3_canPay 7 = .ok (.aload_n 2, 1) := by decide +kernel
theorem dX3_canPay_8 : decode cX3_canPay 8 = .ok (.getfield 156, 3) := by decide +kernel
theorem dX3_canPay_11 : decode cX3_canPay 11 = .ok (.iconst 1, 1) := by decide +kernel
theorem dX3_canPay_12 : decode cX3_canPay 12 = .ok (.if_icmp .eq 38, 3) := by decide +kernel
theorem dX3_canPay_15 : decode cX3_canPay 15 = .ok (.aload_n 2, 1) := by decide +kernel
theorem dX3_canPay_16 : decode cX3_canPay 16 = .ok (.getfield 156, 3) := by decide +kernel
theorem dX3_canPay_19 : decode cX3_canPay 19 = .ok (.iconst 4, 1) := by decide +kernel
theorem dX3_canPay_20 : decode cX3_canPay 20 = .ok (.if_icmp .eq 30, 3) := by decide +kernel
theorem dX3_canPay_23 : decode cX3_canPay 23 = .ok (.aload_n 0, 1) := by decide +kernel
theorem dX3_canPay_24 : decode cX3_canPay 24 = .ok (.getfield 17, 3) := by decide +kernel
theorem dX3_canPay_27 : decode cX3_canPay 27 = .ok (.aload_n 2, 1) := by decide +kernel
theorem dX3_canPay_28 : decode cX3_canPay 28 = .ok (.getfield 175, 3) := by decide +kernel
theorem dX3_canPay_31 : decode cX3_canPay 31 = .ok (.aaload, 1) := by decide +kernel
theorem dX3_canPay_32 : decode cX3_canPay 32 = .ok (.getfield 90, 3) := by decide +kernel
theorem dX3_canPay_35 : decode cX3_canPay 35 = .ok (.aload_n 2, 1) := by decide +kernel
theorem dX3_canPay_36 : decode cX3_canPay 36 = .ok (.aload_n 0, 1) := by decide +kernel
theorem dX3_canPay_37 : decode cX3_canPay 37 = .ok (.getfield 36, 3) := by decide +kernel
theorem dX3_canPay_40 : decode cX3_canPay 40 = .ok (.invokevirtual 178, 3) := by decide +kernel
theorem dX3_canPay_43 : decode cX3_canPay 43 = .ok (.if_icmp .lt 7, 3) := by decide +kernel
theorem dX3_canPay_46 : decode cX3_canPay 46 = .ok (.iconst 1, 1) := by decide +kernel
theorem dX3_canPay_47 : decode cX3_canPay 47 = .ok (.goto 4, 3) := by decide +kernel
theorem dX3_canPay_50 : decode cX3_canPay 50 = .ok (.iconst 0, 1) := by decide +kernel
theorem dX3_canPay_51 : decode cX3_canPay 51 = .ok (.ireturn, 1) := by decide +kernel
theorem dX3_payCase_0 : decode cX3_payCase 0 = .ok (.aload_n 0, 1) := by decide +kernel
theorem dX3_payCase_1 : decode cX3_payCase 1 = .ok (.getfield 29, 3) := by decide +kernel
theorem dX3_payCase_4 : decode cX3_payCase 4 = .ok (.iload_n 1, 1) := by decide +kernel
theorem dX3_payCase_5 : decode cX3_payCase 5 = .ok (.aaload, 1) := by decide +kernel
theorem dX3_payCase_6 : decode cX3_payCase 6 = .ok (.astore_n 2, 1) := by decide +kernel
theorem dX3_payCase_7 : decode cX3_payCase 7 = .ok (.aload_n 2, 1) := by decide +kernel
theorem dX3_payCase_8 : decode cX3_payCase 8 = .ok (.aload_n 0, 1) := by decide +kernel
theorem dX3_payCase_9 : decode cX3_payCase 9 = .ok (.getfield 36, 3) := by decide +kernel
theorem dX3_payCase_12 : decode cX3_payCase 12 = .ok (.invokevirtual 178, 3) := by decide +kernel
theorem dX3_payCase_15 : decode cX3_payCase 15 = .ok (.istore_n 3, 1) := by decide +kernel
theorem dX3_payCase_16 : decode cX3_payCase 16 = .ok (.aload_n 0, 1) := by decide +kernel
theorem dX3_payCase_17 : decode cX3_payCase 17 = .ok (.getfield 17, 3) := by decide +kernel
theorem dX3_payCase_20 : decode cX3_payCase 20 = .ok (.aload_n 2, 1) := by decide +kernel
theorem dX3_payCase_21 : decode cX3_payCase 21 = .ok (.getfield 175, 3) := by decide +kernel
theorem dX3_payCase_24 : decode cX3_payCase 24 = .ok (.aaload, 1) := by decide +kernel
theorem dX3_payCase_25 : decode cX3_payCase 25 = .ok (.dup, 1) := by decide +kernel
theorem dX3_payCase_26 : decode cX3_payCase 26 = .ok (.getfield 90, 3) := by decide +kernel
theorem dX3_payCase_29 : decode cX3_payCase 29 = .ok (.iload_n 3, 1) := by decide +kernel
theorem dX3_payCase_30 : decode cX3_payCase 30 = .ok (.isub, 1) := by decide +kernel
theorem dX3_payCase_31 : decode cX3_payCase 31 = .ok (.putfield 90, 3) := by decide +kernel
theorem dX3_payCase_34 : decode cX3_payCase 34 = .ok (.aload_n 0, 1) := by decide +kernel
theorem dX3_payCase_35 : decode cX3_payCase 35 = .ok (.dup, 1) := by decide +kernel
theorem dX3_payCase_36 : decode cX3_payCase 36 = .ok (.getfield 40, 3) := by decide +kernel
theorem dX3_payCase_39 : decode cX3_payCase 39 = .ok (.iload_n 3, 1) := by decide +kernel
theorem dX3_payCase_40 : decode cX3_payCase 40 = .ok (.iadd, 1) := by decide +kernel
theorem dX3_payCase_41 : decode cX3_payCase 41 = .ok (.putfield 40, 3) := by decide +kernel
theorem dX3_payCase_44 : decode cX3_payCase 44 = .ok (.aload_n 2, 1) := by decide +kernel
theorem dX3_payCase_45 : decode cX3_payCase 45 = .ok (.iconst 4, 1) := by decide +kernel
theorem dX3_payCase_46 : decode cX3_payCase 46 = .ok (.putfield 156, 3) := by decide +kernel
theorem dX3_payCase_49 : decode cX3_payCase 49 = .ok (.iload_n 3, 1) := by decide +kernel
theorem dX3_payCase_50 : decode cX3_payCase 50 = .ok (.ireturn, 1) := by decide +kernel
theorem dX1_readPay_0 : decode cX1_readPay 0 = .ok (.aload_n 0, 1) := by decide +kernel
theorem dX1_readPay_1 : decode cX1_readPay 1 = .ok (.invokevirtual 32, 3) := by decide +kernel
theorem dX1_readPay_4 : decode cX1_readPay 4 = .ok (.aload_n 0, 1) := by decide +kernel
theorem dX1_readPay_5 : decode cX1_readPay 5 = .ok (.invokevirtual 235, 3) := by decide +kernel
theorem dX1_readPay_8 : decode cX1_readPay 8 = .ok (.istore_n 1, 1) := by decide +kernel
theorem dX1_readPay_9 : decode cX1_readPay 9 = .ok (.aload_n 0, 1) := by decide +kernel
theorem dX1_readPay_10 : decode cX1_readPay 10 = .ok (.aload_n 0, 1) := by decide +kernel
theorem dX1_readPay_11 : decode cX1_readPay 11 = .ok (.invokevirtual 35, 3) := by decide +kernel
theorem dX1_readPay_14 : decode cX1_readPay 14 = .ok (.ifCond .ne 18, 3) := by decide +kernel
theorem dX1_readPay_17 : decode cX1_readPay 17 = .ok (.aload_n 0, 1) := by decide +kernel
theorem dX1_readPay_18 : decode cX1_readPay 18 = .ok (.getfield 19, 3) := by decide +kernel
theorem dX1_readPay_21 : decode cX1_readPay 21 = .ok (.iload_n 1, 1) := by decide +kernel
theorem dX1_readPay_22 : decode cX1_readPay 22 = .ok (.invokevirtual 250, 3) := by decide +kernel
theorem dX1_readPay_25 : decode cX1_readPay 25 = .ok (.ifCond .eq 7, 3) := by decide +kernel
theorem dX1_readPay_28 : decode cX1_readPay 28 = .ok (.iconst 1, 1) := by decide +kernel
theorem dX1_readPay_29 : decode cX1_readPay 29 = .ok (.goto 4, 3) := by decide +kernel
theorem dX1_readPay_32 : decode cX1_readPay 32 = .ok (.iconst 0, 1) := by decide +kernel
theorem dX1_readPay_33 : decode cX1_readPay 33 = .ok (.invokevirtual 100, 3) := by decide +kernel
theorem dX1_readPay_36 : decode cX1_readPay 36 = .ok (.ifCond .eq 12, 3) := by decide +kernel
theorem dX1_readPay_39 : decode cX1_readPay 39 = .ok (.aload_n 0, 1) := by decide +kernel
theorem dX1_readPay_40 : decode cX1_readPay 40 = .ok (.getfield 19, 3) := by decide +kernel
theorem dX1_readPay_43 : decode cX1_readPay 43 = .ok (.iload_n 1, 1) := by decide +kernel
theorem dX1_readPay_44 : decode cX1_readPay 44 = .ok (.invokevirtual 253, 3) := by decide +kernel
theorem dX1_readPay_47 : decode cX1_readPay 47 = .ok (.pop, 1) := by decide +kernel
theorem dX1_readPay_48 : decode cX1_readPay 48 = .ok (.return_, 1) := by decide +kernel
theorem dX1_readCommands_0 : decode cX1_readCommands 0 = .ok (.iconst 0, 1) := by decide +kernel
theorem dX1_readCommands_1 : decode cX1_readCommands 1 = .ok (.istore_n 1, 1) := by decide +kernel
theorem dX1_readCommands_2 : decode cX1_readCommands 2 = .ok (.iload_n 1, 1) := by decide +kernel
theorem dX1_readCommands_3 : decode cX1_readCommands 3 = .ok (.sipush 700, 3) := by decide +kernel
theorem dX1_readCommands_6 : decode cX1_readCommands 6 = .ok (.if_icmp .ge 141, 3) := by decide +kernel
theorem dX1_readCommands_9 : decode cX1_readCommands 9 = .ok (.aload_n 0, 1) := by decide +kernel
theorem dX1_readCommands_10 : decode cX1_readCommands 10 = .ok (.invokevirtual 35, 3) := by decide +kernel
theorem dX1_readCommands_13 : decode cX1_readCommands 13 = .ok (.ifCond .ne 134, 3) := by decide +kernel
theorem dX1_readCommands_16 : decode cX1_readCommands 16 = .ok (.aload_n 0, 1) := by decide +kernel
theorem dX1_readCommands_17 : decode cX1_readCommands 17 = .ok (.getfield 42, 3) := by decide +kernel
theorem dX1_readCommands_20 : decode cX1_readCommands 20 = .ok (.ifCond .eq 127, 3) := by decide +kernel
theorem dX1_readCommands_23 : decode cX1_readCommands 23 = .ok (.aload_n 0, 1) := by decide +kernel
theorem dX1_readCommands_24 : decode cX1_readCommands 24 = .ok (.ldc 161, 2) := by decide +kernel
theorem dX1_readCommands_26 : decode cX1_readCommands 26 = .ok (.invokevirtual 71, 3) := by decide +kernel
theorem dX1_readCommands_29 : decode cX1_readCommands 29 = .ok (.ifCond .eq 10, 3) := by decide +kernel
theorem dX1_readCommands_32 : decode cX1_readCommands 32 = .ok (.aload_n 0, 1) := by decide +kernel
theorem dX1_readCommands_33 : decode cX1_readCommands 33 = .ok (.invokevirtual 163, 3) := by decide +kernel
theorem dX1_readCommands_36 : decode cX1_readCommands 36 = .ok (.goto 105, 3) := by decide +kernel
theorem dX1_readCommands_39 : decode cX1_readCommands 39 = .ok (.aload_n 0, 1) := by decide +kernel
theorem dX1_readCommands_40 : decode cX1_readCommands 40 = .ok (.ldc 166, 2) := by decide +kernel
theorem dX1_readCommands_42 : decode cX1_readCommands 42 = .ok (.invokevirtual 71, 3) := by decide +kernel
theorem dX1_readCommands_45 : decode cX1_readCommands 45 = .ok (.ifCond .eq 10, 3) := by decide +kernel
theorem dX1_readCommands_48 : decode cX1_readCommands 48 = .ok (.aload_n 0, 1) := by decide +kernel
theorem dX1_readCommands_49 : decode cX1_readCommands 49 = .ok (.invokevirtual 168, 3) := by decide +kernel
theorem dX1_readCommands_52 : decode cX1_readCommands 52 = .ok (.goto 89, 3) := by decide +kernel
theorem dX1_readCommands_55 : decode cX1_readCommands 55 = .ok (.aload_n 0, 1) := by decide +kernel
theorem dX1_readCommands_56 : decode cX1_readCommands 56 = .ok (.ldc 171, 2) := by decide +kernel
theorem dX1_readCommands_58 : decode cX1_readCommands 58 = .ok (.invokevirtual 71, 3) := by decide +kernel
theorem dX1_readCommands_61 : decode cX1_readCommands 61 = .ok (.ifCond .eq 10, 3) := by decide +kernel
theorem dX1_readCommands_64 : decode cX1_readCommands 64 = .ok (.aload_n 0, 1) := by decide +kernel
theorem dX1_readCommands_65 : decode cX1_readCommands 65 = .ok (.invokevirtual 173, 3) := by decide +kernel
theorem dX1_readCommands_68 : decode cX1_readCommands 68 = .ok (.goto 73, 3) := by decide +kernel
theorem dX1_readCommands_71 : decode cX1_readCommands 71 = .ok (.aload_n 0, 1) := by decide +kernel
theorem dX1_readCommands_72 : decode cX1_readCommands 72 = .ok (.ldc 176, 2) := by decide +kernel
theorem dX1_readCommands_74 : decode cX1_readCommands 74 = .ok (.invokevirtual 71, 3) := by decide +kernel
theorem dX1_readCommands_77 : decode cX1_readCommands 77 = .ok (.ifCond .eq 10, 3) := by decide +kernel
theorem dX1_readCommands_80 : decode cX1_readCommands 80 = .ok (.aload_n 0, 1) := by decide +kernel
theorem dX1_readCommands_81 : decode cX1_readCommands 81 = .ok (.invokevirtual 178, 3) := by decide +kernel
theorem dX1_readCommands_84 : decode cX1_readCommands 84 = .ok (.goto 57, 3) := by decide +kernel
theorem dX1_readCommands_87 : decode cX1_readCommands 87 = .ok (.aload_n 0, 1) := by decide +kernel
theorem dX1_readCommands_88 : decode cX1_readCommands 88 = .ok (.ldc 181, 2) := by decide +kernel
theorem dX1_readCommands_90 : decode cX1_readCommands 90 = .ok (.invokevirtual 71, 3) := by decide +kernel
theorem dX1_readCommands_93 : decode cX1_readCommands 93 = .ok (.ifCond .eq 10, 3) := by decide +kernel
theorem dX1_readCommands_96 : decode cX1_readCommands 96 = .ok (.aload_n 0, 1) := by decide +kernel
theorem dX1_readCommands_97 : decode cX1_readCommands 97 = .ok (.invokevirtual 183, 3) := by decide +kernel
theorem dX1_readCommands_100 : decode cX1_readCommands 100 = .ok (.goto 41, 3) := by decide +kernel
theorem dX1_readCommands_103 : decode cX1_readCommands 103 = .ok (.aload_n 0, 1) := by decide +kernel
theorem dX1_readCommands_104 : decode cX1_readCommands 104 = .ok (.ldc 186, 2) := by decide +kernel
theorem dX1_readCommands_106 : decode cX1_readCommands 106 = .ok (.invokevirtual 71, 3) := by decide +kernel
theorem dX1_readCommands_109 : decode cX1_readCommands 109 = .ok (.ifCond .eq 10, 3) := by decide +kernel
theorem dX1_readCommands_112 : decode cX1_readCommands 112 = .ok (.aload_n 0, 1) := by decide +kernel
theorem dX1_readCommands_113 : decode cX1_readCommands 113 = .ok (.invokevirtual 188, 3) := by decide +kernel
theorem dX1_readCommands_116 : decode cX1_readCommands 116 = .ok (.goto 25, 3) := by decide +kernel
theorem dX1_readCommands_119 : decode cX1_readCommands 119 = .ok (.aload_n 0, 1) := by decide +kernel
theorem dX1_readCommands_120 : decode cX1_readCommands 120 = .ok (.ldc 191, 2) := by decide +kernel
theorem dX1_readCommands_122 : decode cX1_readCommands 122 = .ok (.invokevirtual 71, 3) := by decide +kernel
theorem dX1_readCommands_125 : decode cX1_readCommands 125 = .ok (.ifCond .eq 10, 3) := by decide +kernel
theorem dX1_readCommands_128 : decode cX1_readCommands 128 = .ok (.aload_n 0, 1) := by decide +kernel
theorem dX1_readCommands_129 : decode cX1_readCommands 129 = .ok (.invokevirtual 193, 3) := by decide +kernel
theorem dX1_readCommands_132 : decode cX1_readCommands 132 = .ok (.goto 9, 3) := by decide +kernel
theorem dX1_readCommands_135 : decode cX1_readCommands 135 = .ok (.aload_n 0, 1) := by decide +kernel
theorem dX1_readCommands_136 : decode cX1_readCommands 136 = .ok (.iconst 1, 1) := by decide +kernel
theorem dX1_readCommands_137 : decode cX1_readCommands 137 = .ok (.invokevirtual 75, 3) := by decide +kernel
theorem dX1_readCommands_140 : decode cX1_readCommands 140 = .ok (.pop, 1) := by decide +kernel
theorem dX1_readCommands_141 : decode cX1_readCommands 141 = .ok (.iinc 1 1, 3) := by decide +kernel
theorem dX1_readCommands_144 : decode cX1_readCommands 144 = .ok (.goto (-142), 3) := by decide +kernel
theorem dX1_readCommands_147 : decode cX1_readCommands 147 = .ok (.iload_n 1, 1) := by decide +kernel
theorem dX1_readCommands_148 : decode cX1_readCommands 148 = .ok (.ireturn, 1) := by decide +kernel
theorem dX2_init_0 : decode cX2_init 0 = .ok (.aload_n 0, 1) := by decide +kernel
theorem dX2_init_1 : decode cX2_init 1 = .ok (.invokespecial 3, 3) := by decide +kernel
theorem dX2_init_4 : decode cX2_init 4 = .ok (.aload_n 0, 1) := by decide +kernel
theorem dX2_init_5 : decode cX2_init 5 = .ok (.ldc 9, 2) := by decide +kernel
theorem dX2_init_7 : decode cX2_init 7 = .ok (.putfield 11, 3) := by decide +kernel
theorem dX2_init_10 : decode cX2_init 10 = .ok (.aload_n 0, 1) := by decide +kernel
theorem dX2_init_11 : decode cX2_init 11 = .ok (.iconst (-1), 1) := by decide +kernel
theorem dX2_init_12 : decode cX2_init 12 = .ok (.putfield 17, 3) := by decide +kernel
theorem dX2_init_15 : decode cX2_init 15 = .ok (.aload_n 0, 1) := by decide +kernel
theorem dX2_init_16 : decode cX2_init 16 = .ok (.iconst (-1), 1) := by decide +kernel
theorem dX2_init_17 : decode cX2_init 17 = .ok (.putfield 21, 3) := by decide +kernel
theorem dX2_init_20 : decode cX2_init 20 = .ok (.aload_n 0, 1) := by decide +kernel
theorem dX2_init_21 : decode cX2_init 21 = .ok (.iconst (-1), 1) := by decide +kernel
theorem dX2_init_22 : decode cX2_init 22 = .ok (.putfield 24, 3) := by decide +kernel
theorem dX2_init_25 : decode cX2_init 25 = .ok (.aload_n 0, 1) := by decide +kernel
theorem dX2_init_26 : decode cX2_init 26 = .ok (.iconst (-1), 1) := by decide +kernel
theorem dX2_init_27 : decode cX2_init 27 = .ok (.putfield 27, 3) := by decide +kernel
theorem dX2_init_30 : decode cX2_init 30 = .ok (.return_, 1) := by decide +kernel
theorem dX2_copyFrom_0 : decode cX2_copyFrom 0 = .ok (.aload_n 0, 1) := by decide +kernel
theorem dX2_copyFrom_1 : decode cX2_copyFrom 1 = .ok (.aload_n 1, 1) := by decide +kernel
theorem dX2_copyFrom_2 : decode cX2_copyFrom 2 = .ok (.getfield 11, 3) := by decide +kernel
theorem dX2_copyFrom_5 : decode cX2_copyFrom 5 = .ok (.putfield 11, 3) := by decide +kernel
theorem dX2_copyFrom_8 : decode cX2_copyFrom 8 = .ok (.aload_n 0, 1) := by decide +kernel
theorem dX2_copyFrom_9 : decode cX2_copyFrom 9 = .ok (.aload_n 1, 1) := by decide +kernel
theorem dX2_copyFrom_10 : decode cX2_copyFrom 10 = .ok (.getfield 30, 3) := by decide +kernel
theorem dX2_copyFrom_13 : decode cX2_copyFrom 13 = .ok (.putfield 30, 3) := by decide +kernel
theorem dX2_copyFrom_16 : decode cX2_copyFrom 16 = .ok (.aload_n 0, 1) := by decide +kernel
theorem dX2_copyFrom_17 : decode cX2_copyFrom 17 = .ok (.aload_n 1, 1) := by decide +kernel
theorem dX2_copyFrom_18 : decode cX2_copyFrom 18 = .ok (.getfield 17, 3) := by decide +kernel
theorem dX2_copyFrom_21 : decode cX2_copyFrom 21 = .ok (.aload_n 1, 1) := by decide +kernel
theorem dX2_copyFrom_22 : decode cX2_copyFrom 22 = .ok (.getfield 21, 3) := by decide +kernel
theorem dX2_copyFrom_25 : decode cX2_copyFrom 25 = .ok (.aload_n 1, 1) := by decide +kernel
theorem dX2_copyFrom_26 : decode cX2_copyFrom 26 = .ok (.getfield 24, 3) := by decide +kernel
theorem dX2_copyFrom_29 : decode cX2_copyFrom 29 = .ok (.aload_n 1, 1) := by decide +kernel
theorem dX2_copyFrom_30 : decode cX2_copyFrom 30 = .ok (.getfield 27, 3) := by decide +kernel
theorem dX2_copyFrom_33 : decode cX2_copyFrom 33 = .ok (.invokevirtual 33, 3) := by decide +kernel
theorem dX2_copyFrom_36 : decode cX2_copyFrom 36 = .ok (.aload_n 0, 1) := by decide +kernel
theorem dX2_copyFrom_37 : decode cX2_copyFrom 37 = .ok (.aload_n 1, 1) := by decide +kernel
theorem dX2_copyFrom_38 : decode cX2_copyFrom 38 = .ok (.getfield 37, 3) := by decide +kernel
theorem dX2_copyFrom_41 : decode cX2_copyFrom 41 = .ok (.putfield 37, 3) := by decide +kernel
theorem dX2_copyFrom_44 : decode cX2_copyFrom 44 = .ok (.return_, 1) := by decide +kernel
theorem dX4_init_0 : decode cX4_init 0 = .ok (.aload_n 0, 1) := by decide +kernel
theorem dX4_init_1 : decode cX4_init 1 = .ok (.invokespecial 3, 3) := by decide +kernel
theorem dX4_init_4 : decode cX4_init 4 = .ok (.return_, 1) := by decide +kernel
theorem dX3_init_0 : decode cX3_init 0 = .ok (.aload_n 0, 1) := by decide +kernel
theorem dX3_init_1 : decode cX3_init 1 = .ok (.invokespecial 3, 3) := by decide +kernel
theorem dX3_init_4 : decode cX3_init 4 = .ok (.aload_n 0, 1) := by decide +kernel
theorem dX3_init_5 : decode cX3_init 5 = .ok (.bipush 12, 2) := by decide +kernel
theorem dX3_init_7 : decode cX3_init 7 = .ok (.newarray .int, 2) := by decide +kernel
theorem dX3_init_9 : decode cX3_init 9 = .ok (.putfield 9, 3) := by decide +kernel
theorem dX3_init_12 : decode cX3_init 12 = .ok (.aload_n 0, 1) := by decide +kernel
theorem dX3_init_13 : decode cX3_init 13 = .ok (.bipush 8, 2) := by decide +kernel
theorem dX3_init_15 : decode cX3_init 15 = .ok (.anewarray 15, 3) := by decide +kernel
theorem dX3_init_18 : decode cX3_init 18 = .ok (.putfield 17, 3) := by decide +kernel
theorem dX3_init_21 : decode cX3_init 21 = .ok (.aload_n 0, 1) := by decide +kernel
theorem dX3_init_22 : decode cX3_init 22 = .ok (.bipush 30, 2) := by decide +kernel
theorem dX3_init_24 : decode cX3_init 24 = .ok (.anewarray 21, 3) := by decide +kernel
theorem dX3_init_27 : decode cX3_init 27 = .ok (.putfield 23, 3) := by decide +kernel
theorem dX3_init_30 : decode cX3_init 30 = .ok (.aload_n 0, 1) := by decide +kernel
theorem dX3_init_31 : decode cX3_init 31 = .ok (.bipush 20, 2) := by decide +kernel
theorem dX3_init_33 : decode cX3_init 33 = .ok (.anewarray 27, 3) := by decide +kernel
theorem dX3_init_36 : decode cX3_init 36 = .ok (.putfield 29, 3) := by decide +kernel
theorem dX3_init_39 : decode cX3_init 39 = .ok (.iconst 0, 1) := by decide +kernel
theorem dX3_init_40 : decode cX3_init 40 = .ok (.istore_n 1, 1) := by decide +kernel
theorem dX3_init_41 : decode cX3_init 41 = .ok (.iload_n 1, 1) := by decide +kernel
theorem dX3_init_42 : decode cX3_init 42 = .ok (.bipush 8, 2) := by decide +kernel
theorem dX3_init_44 : decode cX3_init 44 = .ok (.if_icmp .ge 22, 3) := by decide +kernel
theorem dX3_init_47 : decode cX3_init 47 = .ok (.aload_n 0, 1) := by decide +kernel
theorem dX3_init_48 : decode cX3_init 48 = .ok (.getfield 17, 3) := by decide +kernel
theorem dX3_init_51 : decode cX3_init 51 = .ok (.iload_n 1, 1) := by decide +kernel
theorem dX3_init_52 : decode cX3_init 52 = .ok (.new 15, 3) := by decide +kernel
theorem dX3_init_55 : decode cX3_init 55 = .ok (.dup, 1) := by decide +kernel
theorem dX3_init_56 : decode cX3_init 56 = .ok (.invokespecial 33, 3) := by decide +kernel
theorem dX3_init_59 : decode cX3_init 59 = .ok (.aastore, 1) := by decide +kernel
theorem dX3_init_60 : decode cX3_init 60 = .ok (.iinc 1 1, 3) := by decide +kernel
theorem dX3_init_63 : decode cX3_init 63 = .ok (.goto (-22), 3) := by decide +kernel
theorem dX3_init_66 : decode cX3_init 66 = .ok (.iconst 0, 1) := by decide +kernel
theorem dX3_init_67 : decode cX3_init 67 = .ok (.istore_n 1, 1) := by decide +kernel
theorem dX3_init_68 : decode cX3_init 68 = .ok (.iload_n 1, 1) := by decide +kernel
theorem dX3_init_69 : decode cX3_init 69 = .ok (.bipush 30, 2) := by decide +kernel
theorem dX3_init_71 : decode cX3_init 71 = .ok (.if_icmp .ge 22, 3) := by decide +kernel
theorem dX3_init_74 : decode cX3_init 74 = .ok (.aload_n 0, 1) := by decide +kernel
theorem dX3_init_75 : decode cX3_init 75 = .ok (.getfield 23, 3) := by decide +kernel
theorem dX3_init_78 : decode cX3_init 78 = .ok (.iload_n 1, 1) := by decide +kernel
theorem dX3_init_79 : decode cX3_init 79 = .ok (.new 21, 3) := by decide +kernel
theorem dX3_init_82 : decode cX3_init 82 = .ok (.dup, 1) := by decide +kernel
theorem dX3_init_83 : decode cX3_init 83 = .ok (.invokespecial 34, 3) := by decide +kernel
theorem dX3_init_86 : decode cX3_init 86 = .ok (.aastore, 1) := by decide +kernel
theorem dX3_init_87 : decode cX3_init 87 = .ok (.iinc 1 1, 3) := by decide +kernel
theorem dX3_init_90 : decode cX3_init 90 = .ok (.goto (-22), 3) := by decide +kernel
theorem dX3_init_93 : decode cX3_init 93 = .ok (.iconst 0, 1) := by decide +kernel
theorem dX3_init_94 : decode cX3_init 94 = .ok (.istore_n 1, 1) := by decide +kernel
theorem dX3_init_95 : decode cX3_init 95 = .ok (.iload_n 1, 1) := by decide +kernel
theorem dX3_init_96 : decode cX3_init 96 = .ok (.bipush 20, 2) := by decide +kernel
theorem dX3_init_98 : decode cX3_init 98 = .ok (.if_icmp .ge 22, 3) := by decide +kernel
theorem dX3_init_101 : decode cX3_init 101 = .ok (.aload_n 0, 1) := by decide +kernel
theorem dX3_init_102 : decode cX3_init 102 = .ok (.getfield 29, 3) := by decide +kernel
theorem dX3_init_105 : decode cX3_init 105 = .ok (.iload_n 1, 1) := by decide +kernel
theorem dX3_init_106 : decode cX3_init 106 = .ok (.new 27, 3) := by decide +kernel
theorem dX3_init_109 : decode cX3_init 109 = .ok (.dup, 1) := by decide +kernel
theorem dX3_init_110 : decode cX3_init 110 = .ok (.invokespecial 35, 3) := by decide +kernel
theorem dX3_init_113 : decode cX3_init 113 = .ok (.aastore, 1) := by decide +kernel
theorem dX3_init_114 : decode cX3_init 114 = .ok (.iinc 1 1, 3) := by decide +kernel
theorem dX3_init_117 : decode cX3_init 117 = .ok (.goto (-22), 3) := by decide +kernel
theorem dX3_init_120 : decode cX3_init 120 = .ok (.return_, 1) := by decide +kernel
theorem dX3_clear_0 : decode cX3_clear 0 = .ok (.aload_n 0, 1) := by decide +kernel
theorem dX3_clear_1 : decode cX3_clear 1 = .ok (.iconst 0, 1) := by decide +kernel
theorem dX3_clear_2 : decode cX3_clear 2 = .ok (.putfield 36, 3) := by decide +kernel
theorem dX3_clear_5 : decode cX3_clear 5 = .ok (.aload_n 0, 1) := by decide +kernel
theorem dX3_clear_6 : decode cX3_clear 6 = .ok (.iconst 0, 1) := by decide +kernel
theorem dX3_clear_7 : decode cX3_clear 7 = .ok (.putfield 40, 3) := by decide +kernel
theorem dX3_clear_10 : decode cX3_clear 10 = .ok (.aload_n 0, 1) := by decide +kernel
theorem dX3_clear_11 : decode cX3_clear 11 = .ok (.iconst 0, 1) := by decide +kernel
theorem dX3_clear_12 : decode cX3_clear 12 = .ok (.putfield 43, 3) := by decide +kernel
theorem dX3_clear_15 : decode cX3_clear 15 = .ok (.aload_n 0, 1) := by decide +kernel
theorem dX3_clear_16 : decode cX3_clear 16 = .ok (.iconst 0, 1) := by decide +kernel
theorem dX3_clear_17 : decode cX3_clear 17 = .ok (.putfield 46, 3) := by decide +kernel
theorem dX3_clear_20 : decode cX3_clear 20 = .ok (.aload_n 0, 1) := by decide +kernel
theorem dX3_clear_21 : decode cX3_clear 21 = .ok (.iconst 0, 1) := by decide +kernel
theorem dX3_clear_22 : decode cX3_clear 22 = .ok (.putfield 49, 3) := by decide +kernel
theorem dX3_clear_25 : decode cX3_clear 25 = .ok (.aload_n 0, 1) := by decide +kernel
theorem dX3_clear_26 : decode cX3_clear 26 = .ok (.iconst 0, 1) := by decide +kernel
theorem dX3_clear_27 : decode cX3_clear 27 = .ok (.putfield 52, 3) := by decide +kernel
theorem dX3_clear_30 : decode cX3_clear 30 = .ok (.aload_n 0, 1) := by decide +kernel
theorem dX3_clear_31 : decode cX3_clear 31 = .ok (.iconst 0, 1) := by decide +kernel
theorem dX3_clear_32 : decode cX3_clear 32 = .ok (.putfield 55, 3) := by decide +kernel
theorem dX3_clear_35 : decode cX3_clear 35 = .ok (.aload_n 0, 1) := by decide +kernel
theorem dX3_clear_36 : decode cX3_clear 36 = .ok (.iconst 0, 1) := by decide +kernel
theorem dX3_clear_37 : decode cX3_clear 37 = .ok (.putfield 58, 3) := by decide +kernel
theorem dX3_clear_40 : decode cX3_clear 40 = .ok (.return_, 1) := by decide +kernel
theorem dX4_copyFrom_0 : decode cX4_copyFrom 0 = .ok (.aload_n 0, 1) := by decide +kernel
theorem dX4_copyFrom_1 : decode cX4_copyFrom 1 = .ok (.aload_n 1, 1) := by decide +kernel
theorem dX4_copyFrom_2 : decode cX4_copyFrom 2 = .ok (.getfield 9, 3) := by decide +kernel
theorem dX4_copyFrom_5 : decode cX4_copyFrom 5 = .ok (.putfield 9, 3) := by decide +kernel
theorem dX4_copyFrom_8 : decode cX4_copyFrom 8 = .ok (.aload_n 0, 1) := by decide +kernel
theorem dX4_copyFrom_9 : decode cX4_copyFrom 9 = .ok (.aload_n 1, 1) := by decide +kernel
theorem dX4_copyFrom_10 : decode cX4_copyFrom 10 = .ok (.getfield 15, 3) := by decide +kernel
theorem dX4_copyFrom_13 : decode cX4_copyFrom 13 = .ok (.putfield 15, 3) := by decide +kernel
theorem dX4_copyFrom_16 : decode cX4_copyFrom 16 = .ok (.aload_n 0, 1) := by decide +kernel
theorem dX4_copyFrom_17 : decode cX4_copyFrom 17 = .ok (.aload_n 1, 1) := by decide +kernel
theorem dX4_copyFrom_18 : decode cX4_copyFrom 18 = .ok (.getfield 18, 3) := by decide +kernel
theorem dX4_copyFrom_21 : decode cX4_copyFrom 21 = .ok (.putfield 18, 3) := by decide +kernel
theorem dX4_copyFrom_24 : decode cX4_copyFrom 24 = .ok (.aload_n 0, 1) := by decide +kernel
theorem dX4_copyFrom_25 : decode cX4_copyFrom 25 = .ok (.aload_n 1, 1) := by decide +kernel
theorem dX4_copyFrom_26 : decode cX4_copyFrom 26 = .ok (.getfield 21, 3) := by decide +kernel
theorem dX4_copyFrom_29 : decode cX4_copyFrom 29 = .ok (.putfield 21, 3) := by decide +kernel
theorem dX4_copyFrom_32 : decode cX4_copyFrom 32 = .ok (.aload_n 0, 1) := by decide +kernel
theorem dX4_copyFrom_33 : decode cX4_copyFrom 33 = .ok (.aload_n 1, 1) := by decide +kernel
theorem dX4_copyFrom_34 : decode cX4_copyFrom 34 = .ok (.getfield 24, 3) := by decide +kernel
theorem dX4_copyFrom_37 : decode cX4_copyFrom 37 = .ok (.putfield 24, 3) := by decide +kernel
theorem dX4_copyFrom_40 : decode cX4_copyFrom 40 = .ok (.aload_n 0, 1) := by decide +kernel
theorem dX4_copyFrom_41 : decode cX4_copyFrom 41 = .ok (.aload_n 1, 1) := by decide +kernel
theorem dX4_copyFrom_42 : decode cX4_copyFrom 42 = .ok (.getfield 27, 3) := by decide +kernel
theorem dX4_copyFrom_45 : decode cX4_copyFrom 45 = .ok (.putfield 27, 3) := by decide +kernel
theorem dX4_copyFrom_48 : decode cX4_copyFrom 48 = .ok (.return_, 1) := by decide +kernel
theorem dX3_copyFrom_0 : decode cX3_copyFrom 0 = .ok (.aload_n 0, 1) := by decide +kernel
theorem dX3_copyFrom_1 : decode cX3_copyFrom 1 = .ok (.aload_n 1, 1) := by decide +kernel
theorem dX3_copyFrom_2 : decode cX3_copyFrom 2 = .ok (.getfield 36, 3) := by decide +kernel
theorem dX3_copyFrom_5 : decode cX3_copyFrom 5 = .ok (.putfield 36, 3) := by decide +kernel
theorem dX3_copyFrom_8 : decode cX3_copyFrom 8 = .ok (.aload_n 0, 1) := by decide +kernel
theorem dX3_copyFrom_9 : decode cX3_copyFrom 9 = .ok (.aload_n 1, 1) := by decide +kernel
theorem dX3_copyFrom_10 : decode cX3_copyFrom 10 = .ok (.getfield 40, 3) := by decide +kernel
theorem dX3_copyFrom_13 : decode cX3_copyFrom 13 = .ok (.putfield 40, 3) := by decide +kernel
theorem dX3_copyFrom_16 : decode cX3_copyFrom 16 = .ok (.aload_n 0, 1) := by decide +kernel
theorem dX3_copyFrom_17 : decode cX3_copyFrom 17 = .ok (.aload_n 1, 1) := by decide +kernel
theorem dX3_copyFrom_18 : decode cX3_copyFrom 18 = .ok (.getfield 43, 3) := by decide +kernel
theorem dX3_copyFrom_21 : decode cX3_copyFrom 21 = .ok (.putfield 43, 3) := by decide +kernel
theorem dX3_copyFrom_24 : decode cX3_copyFrom 24 = .ok (.aload_n 0, 1) := by decide +kernel
theorem dX3_copyFrom_25 : decode cX3_copyFrom 25 = .ok (.aload_n 1, 1) := by decide +kernel
theorem dX3_copyFrom_26 : decode cX3_copyFrom 26 = .ok (.getfield 46, 3) := by decide +kernel
theorem dX3_copyFrom_29 : decode cX3_copyFrom 29 = .ok (.putfield 46, 3) := by decide +kernel
theorem dX3_copyFrom_32 : decode cX3_copyFrom 32 = .ok (.aload_n 0, 1) := by decide +kernel
theorem dX3_copyFrom_33 : decode cX3_copyFrom 33 = .ok (.aload_n 1, 1) := by decide +kernel
theorem dX3_copyFrom_34 : decode cX3_copyFrom 34 = .ok (.getfield 49, 3) := by decide +kernel
theorem dX3_copyFrom_37 : decode cX3_copyFrom 37 = .ok (.putfield 49, 3) := by decide +kernel
theorem dX3_copyFrom_40 : decode cX3_copyFrom 40 = .ok (.aload_n 0, 1) := by decide +kernel
theorem dX3_copyFrom_41 : decode cX3_copyFrom 41 = .ok (.aload_n 1, 1) := by decide +kernel
theorem dX3_copyFrom_42 : decode cX3_copyFrom 42 = .ok (.getfield 52, 3) := by decide +kernel
theorem dX3_copyFrom_45 : decode cX3_copyFrom 45 = .ok (.putfield 52, 3) := by decide +kernel
theorem dX3_copyFrom_48 : decode cX3_copyFrom 48 = .ok (.aload_n 0, 1) := by decide +kernel
theorem dX3_copyFrom_49 : decode cX3_copyFrom 49 = .ok (.aload_n 1, 1) := by decide +kernel
theorem dX3_copyFrom_50 : decode cX3_copyFrom 50 = .ok (.getfield 55, 3) := by decide +kernel
theorem dX3_copyFrom_53 : decode cX3_copyFrom 53 = .ok (.putfield 55, 3) := by decide +kernel
theorem dX3_copyFrom_56 : decode cX3_copyFrom 56 = .ok (.aload_n 0, 1) := by decide +kernel
theorem dX3_copyFrom_57 : decode cX3_copyFrom 57 = .ok (.aload_n 1, 1) := by decide +kernel
theorem dX3_copyFrom_58 : decode cX3_copyFrom 58 = .ok (.getfield 58, 3) := by decide +kernel
theorem dX3_copyFrom_61 : decode cX3_copyFrom 61 = .ok (.putfield 58, 3) := by decide +kernel
theorem dX3_copyFrom_64 : decode cX3_copyFrom 64 = .ok (.aload_n 1, 1) := by decide +kernel
theorem dX3_copyFrom_65 : decode cX3_copyFrom 65 = .ok (.getfield 9, 3) := by decide +kernel
theorem dX3_copyFrom_68 : decode cX3_copyFrom 68 = .ok (.iconst 0, 1) := by decide +kernel
theorem dX3_copyFrom_69 : decode cX3_copyFrom 69 = .ok (.aload_n 0, 1) := by decide +kernel
theorem dX3_copyFrom_70 : decode cX3_copyFrom 70 = .ok (.getfield 9, 3) := by decide +kernel
theorem dX3_copyFrom_73 : decode cX3_copyFrom 73 = .ok (.iconst 0, 1) := by decide +kernel
theorem dX3_copyFrom_74 : decode cX3_copyFrom 74 = .ok (.bipush 12, 2) := by decide +kernel
theorem dX3_copyFrom_76 : decode cX3_copyFrom 76 = .ok (.invokestatic 61, 3) := by decide +kernel
theorem dX3_copyFrom_79 : decode cX3_copyFrom 79 = .ok (.iconst 0, 1) := by decide +kernel
theorem dX3_copyFrom_80 : decode cX3_copyFrom 80 = .ok (.istore_n 2, 1) := by decide +kernel
theorem dX3_copyFrom_81 : decode cX3_copyFrom 81 = .ok (.iload_n 2, 1) := by decide +kernel
theorem dX3_copyFrom_82 : decode cX3_copyFrom 82 = .ok (.aload_n 0, 1) := by decide +kernel
theorem dX3_copyFrom_83 : decode cX3_copyFrom 83 = .ok (.getfield 52, 3) := by decide +kernel
theorem dX3_copyFrom_86 : decode cX3_copyFrom 86 = .ok (.if_icmp .ge 24, 3) := by decide +kernel
theorem dX3_copyFrom_89 : decode cX3_copyFrom 89 = .ok (.aload_n 0, 1) := by decide +kernel
theorem dX3_copyFrom_90 : decode cX3_copyFrom 90 = .ok (.getfield 17, 3) := by decide +kernel
theorem dX3_copyFrom_93 : decode cX3_copyFrom 93 = .ok (.iload_n 2, 1) := by decide +kernel
theorem dX3_copyFrom_94 : decode cX3_copyFrom 94 = .ok (.aaload, 1) := by decide +kernel
theorem dX3_copyFrom_95 : decode cX3_copyFrom 95 = .ok (.aload_n 1, 1) := by decide +kernel
theorem dX3_copyFrom_96 : decode cX3_copyFrom 96 = .ok (.getfield 17, 3) := by decide +kernel
theorem dX3_copyFrom_99 : decode cX3_copyFrom 99 = .ok (.iload_n 2, 1) := by decide +kernel
theorem dX3_copyFrom_100 : decode cX3_copyFrom 100 = .ok (.aaload, 1) := by decide +kernel
theorem dX3_copyFrom_101 : decode cX3_copyFrom 101 = .ok (.invokevirtual 67, 3) := by decide +kernel
theorem dX3_copyFrom_104 : decode cX3_copyFrom 104 = .ok (.iinc 2 1, 3) := by decide +kernel
theorem dX3_copyFrom_107 : decode cX3_copyFrom 107 = .ok (.goto (-26), 3) := by decide +kernel
theorem dX3_copyFrom_110 : decode cX3_copyFrom 110 = .ok (.iconst 0, 1) := by decide +kernel
theorem dX3_copyFrom_111 : decode cX3_copyFrom 111 = .ok (.istore_n 2, 1) := by decide +kernel
theorem dX3_copyFrom_112 : decode cX3_copyFrom 112 = .ok (.iload_n 2, 1) := by decide +kernel
theorem dX3_copyFrom_113 : decode cX3_copyFrom 113 = .ok (.aload_n 0, 1) := by decide +kernel
theorem dX3_copyFrom_114 : decode cX3_copyFrom 114 = .ok (.getfield 55, 3) := by decide +kernel
theorem dX3_copyFrom_117 : decode cX3_copyFrom 117 = .ok (.if_icmp .ge 24, 3) := by decide +kernel
theorem dX3_copyFrom_120 : decode cX3_copyFrom 120 = .ok (.aload_n 0, 1) := by decide +kernel
theorem dX3_copyFrom_121 : decode cX3_copyFrom 121 = .ok (.getfield 23, 3) := by decide +kernel
theorem dX3_copyFrom_124 : decode cX3_copyFrom 124 = .ok (.iload_n 2, 1) := by decide +kernel
theorem dX3_copyFrom_125 : decode cX3_copyFrom 125 = .ok (.aaload, 1) := by decide +kernel
theorem dX3_copyFrom_126 : decode cX3_copyFrom 126 = .ok (.aload_n 1, 1) := by decide +kernel
theorem dX3_copyFrom_127 : decode cX3_copyFrom 127 = .ok (.getfield 23, 3) := by decide +kernel
theorem dX3_copyFrom_130 : decode cX3_copyFrom 130 = .ok (.iload_n 2, 1) := by decide +kernel
theorem dX3_copyFrom_131 : decode cX3_copyFrom 131 = .ok (.aaload, 1) := by decide +kernel
theorem dX3_copyFrom_132 : decode cX3_copyFrom 132 = .ok (.invokevirtual 71, 3) := by decide +kernel
theorem dX3_copyFrom_135 : decode cX3_copyFrom 135 = .ok (.iinc 2 1, 3) := by decide +kernel
theorem dX3_copyFrom_138 : decode cX3_copyFrom 138 = .ok (.goto (-26), 3) := by decide +kernel
theorem dX3_copyFrom_141 : decode cX3_copyFrom 141 = .ok (.iconst 0, 1) := by decide +kernel
theorem dX3_copyFrom_142 : decode cX3_copyFrom 142 = .ok (.istore_n 2, 1) := by decide +kernel
theorem dX3_copyFrom_143 : decode cX3_copyFrom 143 = .ok (.iload_n 2, 1) := by decide +kernel
theorem dX3_copyFrom_144 : decode cX3_copyFrom 144 = .ok (.aload_n 0, 1) := by decide +kernel
theorem dX3_copyFrom_145 : decode cX3_copyFrom 145 = .ok (.getfield 58, 3) := by decide +kernel
theorem dX3_copyFrom_148 : decode cX3_copyFrom 148 = .ok (.if_icmp .ge 24, 3) := by decide +kernel
theorem dX3_copyFrom_151 : decode cX3_copyFrom 151 = .ok (.aload_n 0, 1) := by decide +kernel
theorem dX3_copyFrom_152 : decode cX3_copyFrom 152 = .ok (.getfield 29, 3) := by decide +kernel
theorem dX3_copyFrom_155 : decode cX3_copyFrom 155 = .ok (.iload_n 2, 1) := by decide +kernel
theorem dX3_copyFrom_156 : decode cX3_copyFrom 156 = .ok (.aaload, 1) := by decide +kernel
theorem dX3_copyFrom_157 : decode cX3_copyFrom 157 = .ok (.aload_n 1, 1) := by decide +kernel
theorem dX3_copyFrom_158 : decode cX3_copyFrom 158 = .ok (.getfield 29, 3) := by decide +kernel
theorem dX3_copyFrom_161 : decode cX3_copyFrom 161 = .ok (.iload_n 2, 1) := by decide +kernel
theorem dX3_copyFrom_162 : decode cX3_copyFrom 162 = .ok (.aaload, 1) := by decide +kernel
theorem dX3_copyFrom_163 : decode cX3_copyFrom 163 = .ok (.invokevirtual 74, 3) := by decide +kernel
theorem dX3_copyFrom_166 : decode cX3_copyFrom 166 = .ok (.iinc 2 1, 3) := by decide +kernel
theorem dX3_copyFrom_169 : decode cX3_copyFrom 169 = .ok (.goto (-26), 3) := by decide +kernel
theorem dX3_copyFrom_172 : decode cX3_copyFrom 172 = .ok (.return_, 1) := by decide +kernel
theorem dX3_sumOfDebts_0 : decode cX3_sumOfDebts 0 = .ok (.iconst 0, 1) := by decide +kernel
theorem dX3_sumOfDebts_1 : decode cX3_sumOfDebts 1 = .ok (.istore_n 2, 1) := by decide +kernel
theorem dX3_sumOfDebts_2 : decode cX3_sumOfDebts 2 = .ok (.iconst 0, 1) := by decide +kernel
theorem dX3_sumOfDebts_3 : decode cX3_sumOfDebts 3 = .ok (.istore_n 3, 1) := by decide +kernel
theorem dX3_sumOfDebts_4 : decode cX3_sumOfDebts 4 = .ok (.iload_n 3, 1) := by decide +kernel
theorem dX3_sumOfDebts_5 : decode cX3_sumOfDebts 5 = .ok (.aload_n 0, 1) := by decide +kernel
theorem dX3_sumOfDebts_6 : decode cX3_sumOfDebts 6 = .ok (.getfield 58, 3) := by decide +kernel
theorem dX3_sumOfDebts_9 : decode cX3_sumOfDebts 9 = .ok (.if_icmp .ge 42, 3) := by decide +kernel
theorem dX3_sumOfDebts_12 : decode cX3_sumOfDebts 12 = .ok (.iload_n 2, 1) := by decide +kernel
theorem dX3_sumOfDebts_13 : decode cX3_sumOfDebts 13 = .ok (.aload_n 0, 1) := by decide +kernel
theorem dX3_sumOfDebts_14 : decode cX3_sumOfDebts 14 = .ok (.getfield 29, 3) := by decide +kernel
theorem dX3_sumOfDebts_17 : decode cX3_sumOfDebts 17 = .ok (.iload_n 3, 1) := by decide +kernel
theorem dX3_sumOfDebts_18 : decode cX3_sumOfDebts 18 = .ok (.aaload, 1) := by decide +kernel
theorem dX3_sumOfDebts_19 : decode cX3_sumOfDebts 19 = .ok (.getfield 175, 3) := by decide +kernel
theorem dX3_sumOfDebts_22 : decode cX3_sumOfDebts 22 = .ok (.iload_n 1, 1) := by decide +kernel
theorem dX3_sumOfDebts_23 : decode cX3_sumOfDebts 23 = .ok (.if_icmp .ne 19, 3) := by decide +kernel
theorem dX3_sumOfDebts_26 : decode cX3_sumOfDebts 26 = .ok (.aload_n 0, 1) := by decide +kernel
theorem dX3_sumOfDebts_27 : decode cX3_sumOfDebts 27 = .ok (.getfield 29, 3) := by decide +kernel
theorem dX3_sumOfDebts_30 : decode cX3_sumOfDebts 30 = .ok (.iload_n 3, 1) := by decide +kernel
theorem dX3_sumOfDebts_31 : decode cX3_sumOfDebts 31 = .ok (.aaload, 1) := by decide +kernel
theorem dX3_sumOfDebts_32 : decode cX3_sumOfDebts 32 = .ok (.aload_n 0, 1) := by decide +kernel
theorem dX3_sumOfDebts_33 : decode cX3_sumOfDebts 33 = .ok (.getfield 36, 3) := by decide +kernel
theorem dX3_sumOfDebts_36 : decode cX3_sumOfDebts 36 = .ok (.invokevirtual 178, 3) := by decide +kernel
theorem dX3_sumOfDebts_39 : decode cX3_sumOfDebts 39 = .ok (.goto 4, 3) := by decide +kernel
theorem dX3_sumOfDebts_42 : decode cX3_sumOfDebts 42 = .ok (.iconst 0, 1) := by decide +kernel
theorem dX3_sumOfDebts_43 : decode cX3_sumOfDebts 43 = .ok (.iadd, 1) := by decide +kernel
theorem dX3_sumOfDebts_44 : decode cX3_sumOfDebts 44 = .ok (.istore_n 2, 1) := by decide +kernel
theorem dX3_sumOfDebts_45 : decode cX3_sumOfDebts 45 = .ok (.iinc 3 1, 3) := by decide +kernel
theorem dX3_sumOfDebts_48 : decode cX3_sumOfDebts 48 = .ok (.goto (-44), 3) := by decide +kernel
theorem dX3_sumOfDebts_51 : decode cX3_sumOfDebts 51 = .ok (.iload_n 2, 1) := by decide +kernel
theorem dX3_sumOfDebts_52 : decode cX3_sumOfDebts 52 = .ok (.ireturn, 1) := by decide +kernel
theorem dX3_countUnpaid_0 : decode cX3_countUnpaid 0 = .ok (.iconst 0, 1) := by decide +kernel
theorem dX3_countUnpaid_1 : decode cX3_countUnpaid 1 = .ok (.istore_n 2, 1) := by decide +kernel
theorem dX3_countUnpaid_2 : decode cX3_countUnpaid 2 = .ok (.iconst 0, 1) := by decide +kernel
theorem dX3_countUnpaid_3 : decode cX3_countUnpaid 3 = .ok (.istore_n 3, 1) := by decide +kernel
theorem dX3_countUnpaid_4 : decode cX3_countUnpaid 4 = .ok (.iload_n 3, 1) := by decide +kernel
theorem dX3_countUnpaid_5 : decode cX3_countUnpaid 5 = .ok (.aload_n 0, 1) := by decide +kernel
theorem dX3_countUnpaid_6 : decode cX3_countUnpaid 6 = .ok (.getfield 58, 3) := by decide +kernel
theorem dX3_countUnpaid_9 : decode cX3_countUnpaid 9 = .ok (.if_icmp .ge 43, 3) := by decide +kernel
theorem dX3_countUnpaid_12 : decode cX3_countUnpaid 12 = .ok (.iload_n 2, 1) := by decide +kernel
theorem dX3_countUnpaid_13 : decode cX3_countUnpaid 13 = .ok (.aload_n 0, 1) := by decide +kernel
theorem dX3_countUnpaid_14 : decode cX3_countUnpaid 14 = .ok (.getfield 29, 3) := by decide +kernel
theorem dX3_countUnpaid_17 : decode cX3_countUnpaid 17 = .ok (.iload_n 3, 1) := by decide +kernel
theorem dX3_countUnpaid_18 : decode cX3_countUnpaid 18 = .ok (.aaload, 1) := by decide +kernel
theorem dX3_countUnpaid_19 : decode cX3_countUnpaid 19 = .ok (.getfield 175, 3) := by decide +kernel
theorem dX3_countUnpaid_22 : decode cX3_countUnpaid 22 = .ok (.iload_n 1, 1) := by decide +kernel
theorem dX3_countUnpaid_23 : decode cX3_countUnpaid 23 = .ok (.if_icmp .ne 20, 3) := by decide +kernel
theorem dX3_countUnpaid_26 : decode cX3_countUnpaid 26 = .ok (.aload_n 0, 1) := by decide +kernel
theorem dX3_countUnpaid_27 : decode cX3_countUnpaid 27 = .ok (.getfield 29, 3) := by decide +kernel
theorem dX3_countUnpaid_30 : decode cX3_countUnpaid 30 = .ok (.iload_n 3, 1) := by decide +kernel
theorem dX3_countUnpaid_31 : decode cX3_countUnpaid 31 = .ok (.aaload, 1) := by decide +kernel
theorem dX3_countUnpaid_32 : decode cX3_countUnpaid 32 = .ok (.getfield 156, 3) := by decide +kernel
theorem dX3_countUnpaid_35 : decode cX3_countUnpaid 35 = .ok (.iconst 4, 1) := by decide +kernel
theorem dX3_countUnpaid_36 : decode cX3_countUnpaid 36 = .ok (.if_icmp .eq 7, 3) := by decide +kernel
theorem dX3_countUnpaid_39 : decode cX3_countUnpaid 39 = .ok (.iconst 1, 1) := by decide +kernel
theorem dX3_countUnpaid_40 : decode cX3_countUnpaid 40 = .ok (.goto 4, 3) := by decide +kernel
theorem dX3_countUnpaid_43 : decode cX3_countUnpaid 43 = .ok (.iconst 0, 1) := by decide +kernel
theorem dX3_countUnpaid_44 : decode cX3_countUnpaid 44 = .ok (.iadd, 1) := by decide +kernel
theorem dX3_countUnpaid_45 : decode cX3_countUnpaid 45 = .ok (.istore_n 2, 1) := by decide +kernel
theorem dX3_countUnpaid_46 : decode cX3_countUnpaid 46 = .ok (.iinc 3 1, 3) := by decide +kernel
theorem dX3_countUnpaid_49 : decode cX3_countUnpaid 49 = .ok (.goto (-45), 3) := by decide +kernel
theorem dX3_countUnpaid_52 : decode cX3_countUnpaid 52 = .ok (.iload_n 2, 1) := by decide +kernel
theorem dX3_countUnpaid_53 : decode cX3_countUnpaid 53 = .ok (.ireturn, 1) := by decide +kernel
theorem dX4_price_0 : decode cX4_price 0 = .ok (.aload_n 0, 1) := by decide +kernel
theorem dX4_price_1 : decode cX4_price 1 = .ok (.getfield 15, 3) := by decide +kernel
theorem dX4_price_4 : decode cX4_price 4 = .ok (.aload_n 0, 1) := by decide +kernel
theorem dX4_price_5 : decode cX4_price 5 = .ok (.getfield 18, 3) := by decide +kernel
theorem dX4_price_8 : decode cX4_price 8 = .ok (.invokestatic 34, 3) := by decide +kernel
theorem dX4_price_11 : decode cX4_price 11 = .ok (.ireturn, 1) := by decide +kernel
theorem dX3_sumOfPrices_0 : decode cX3_sumOfPrices 0 = .ok (.iconst 0, 1) := by decide +kernel
theorem dX3_sumOfPrices_1 : decode cX3_sumOfPrices 1 = .ok (.istore_n 1, 1) := by decide +kernel
theorem dX3_sumOfPrices_2 : decode cX3_sumOfPrices 2 = .ok (.iconst 0, 1) := by decide +kernel
theorem dX3_sumOfPrices_3 : decode cX3_sumOfPrices 3 = .ok (.istore_n 2, 1) := by decide +kernel
theorem dX3_sumOfPrices_4 : decode cX3_sumOfPrices 4 = .ok (.iload_n 2, 1) := by decide +kernel
theorem dX3_sumOfPrices_5 : decode cX3_sumOfPrices 5 = .ok (.aload_n 0, 1) := by decide +kernel
theorem dX3_sumOfPrices_6 : decode cX3_sumOfPrices 6 = .ok (.getfield 55, 3) := by decide +kernel
theorem dX3_sumOfPrices_9 : decode cX3_sumOfPrices 9 = .ok (.if_icmp .ge 21, 3) := by decide +kernel
theorem dX3_sumOfPrices_12 : decode cX3_sumOfPrices 12 = .ok (.iload_n 1, 1) := by decide +kernel
theorem dX3_sumOfPrices_13 : decode cX3_sumOfPrices 13 = .ok (.aload_n 0, 1) := by decide +kernel
theorem dX3_sumOfPrices_14 : decode cX3_sumOfPrices 14 = .ok (.getfield 23, 3) := by decide +kernel
theorem dX3_sumOfPrices_17 : decode cX3_sumOfPrices 17 = .ok (.iload_n 2, 1) := by decide +kernel
theorem dX3_sumOfPrices_18 : decode cX3_sumOfPrices 18 = .ok (.aaload, 1) := by decide +kernel
theorem dX3_sumOfPrices_19 : decode cX3_sumOfPrices 19 = .ok (.invokevirtual 181, 3) := by decide +kernel
theorem dX3_sumOfPrices_22 : decode cX3_sumOfPrices 22 = .ok (.iadd, 1) := by decide +kernel
theorem dX3_sumOfPrices_23 : decode cX3_sumOfPrices 23 = .ok (.istore_n 1, 1) := by decide +kernel
theorem dX3_sumOfPrices_24 : decode cX3_sumOfPrices 24 = .ok (.iinc 2 1, 3) := by decide +kernel
theorem dX3_sumOfPrices_27 : decode cX3_sumOfPrices 27 = .ok (.goto (-23), 3) := by decide +kernel
theorem dX3_sumOfPrices_30 : decode cX3_sumOfPrices 30 = .ok (.iload_n 1, 1) := by decide +kernel
theorem dX3_sumOfPrices_31 : decode cX3_sumOfPrices 31 = .ok (.ireturn, 1) := by decide +kernel
theorem dX3_sumOfMoney_0 : decode cX3_sumOfMoney 0 = .ok (.iconst 0, 1) := by decide +kernel
theorem dX3_sumOfMoney_1 : decode cX3_sumOfMoney 1 = .ok (.istore_n 1, 1) := by decide +kernel
theorem dX3_sumOfMoney_2 : decode cX3_sumOfMoney 2 = .ok (.iconst 0, 1) := by decide +kernel
theorem dX3_sumOfMoney_3 : decode cX3_sumOfMoney 3 = .ok (.istore_n 2, 1) := by decide +kernel
theorem dX3_sumOfMoney_4 : decode cX3_sumOfMoney 4 = .ok (.iload_n 2, 1) := by decide +kernel
theorem dX3_sumOfMoney_5 : decode cX3_sumOfMoney 5 = .ok (.aload_n 0, 1) := by decide +kernel
theorem dX3_sumOfMoney_6 : decode cX3_sumOfMoney 6 = .ok (.getfield 52, 3) := by decide +kernel
theorem dX3_sumOfMoney_9 : decode cX3_sumOfMoney 9 = .ok (.if_icmp .ge 21, 3) := by decide +kernel
theorem dX3_sumOfMoney_12 : decode cX3_sumOfMoney 12 = .ok (.iload_n 1, 1) := by decide +kernel
theorem dX3_sumOfMoney_13 : decode cX3_sumOfMoney 13 = .ok (.aload_n 0, 1) := by decide +kernel
theorem dX3_sumOfMoney_14 : decode cX3_sumOfMoney 14 = .ok (.getfield 17, 3) := by decide +kernel
theorem dX3_sumOfMoney_17 : decode cX3_sumOfMoney 17 = .ok (.iload_n 2, 1) := by decide +kernel
theorem dX3_sumOfMoney_18 : decode cX3_sumOfMoney 18 = .ok (.aaload, 1) := by decide +kernel
theorem dX3_sumOfMoney_19 : decode cX3_sumOfMoney 19 = .ok (.getfield 90, 3) := by decide +kernel
theorem dX3_sumOfMoney_22 : decode cX3_sumOfMoney 22 = .ok (.iadd, 1) := by decide +kernel
theorem dX3_sumOfMoney_23 : decode cX3_sumOfMoney 23 = .ok (.istore_n 1, 1) := by decide +kernel
theorem dX3_sumOfMoney_24 : decode cX3_sumOfMoney 24 = .ok (.iinc 2 1, 3) := by decide +kernel
theorem dX3_sumOfMoney_27 : decode cX3_sumOfMoney 27 = .ok (.goto (-23), 3) := by decide +kernel
theorem dX3_sumOfMoney_30 : decode cX3_sumOfMoney 30 = .ok (.iload_n 1, 1) := by decide +kernel
theorem dX3_sumOfMoney_31 : decode cX3_sumOfMoney 31 = .ok (.ireturn, 1) := by decide +kernel
theorem dX3_countOddStamps_0 : decode cX3_countOddStamps 0 = .ok (.iconst 0, 1) := by decide +kernel
theorem dX3_countOddStamps_1 : decode cX3_countOddStamps 1 = .ok (.istore_n 1, 1) := by decide +kernel
theorem dX3_countOddStamps_2 : decode cX3_countOddStamps 2 = .ok (.iconst 0, 1) := by decide +kernel
theorem dX3_countOddStamps_3 : decode cX3_countOddStamps 3 = .ok (.istore_n 2, 1) := by decide +kernel
theorem dX3_countOddStamps_4 : decode cX3_countOddStamps 4 = .ok (.iload_n 2, 1) := by decide +kernel
theorem dX3_countOddStamps_5 : decode cX3_countOddStamps 5 = .ok (.aload_n 0, 1) := by decide +kernel
theorem dX3_countOddStamps_6 : decode cX3_countOddStamps 6 = .ok (.getfield 55, 3) := by decide +kernel
theorem dX3_countOddStamps_9 : decode cX3_countOddStamps 9 = .ok (.if_icmp .ge 46, 3) := by decide +kernel
theorem dX3_countOddStamps_12 : decode cX3_countOddStamps 12 = .ok (.iload_n 1, 1) := by decide +kernel
theorem dX3_countOddStamps_13 : decode cX3_countOddStamps 13 = .ok (.aload_n 0, 1) := by decide +kernel
theorem dX3_countOddStamps_14 : decode cX3_countOddStamps 14 = .ok (.getfield 23, 3) := by decide +kernel
theorem dX3_countOddStamps_17 : decode cX3_countOddStamps 17 = .ok (.iload_n 2, 1) := by decide +kernel
theorem dX3_countOddStamps_18 : decode cX3_countOddStamps 18 = .ok (.aaload, 1) := by decide +kernel
theorem dX3_countOddStamps_19 : decode cX3_countOddStamps 19 = .ok (.invokevirtual 185, 3) := by decide +kernel
theorem dX3_countOddStamps_22 : decode cX3_countOddStamps 22 = .ok (.aload_n 0, 1) := by decide +kernel
theorem dX3_countOddStamps_23 : decode cX3_countOddStamps 23 = .ok (.getfield 23, 3) := by decide +kernel
theorem dX3_countOddStamps_26 : decode cX3_countOddStamps 26 = .ok (.iload_n 2, 1) := by decide +kernel
theorem dX3_countOddStamps_27 : decode cX3_countOddStamps 27 = .ok (.aaload, 1) := by decide +kernel
theorem dX3_countOddStamps_28 : decode cX3_countOddStamps 28 = .ok (.getfield 140, 3) := by decide +kernel
theorem dX3_countOddStamps_31 : decode cX3_countOddStamps 31 = .ok (.ifCond .le 7, 3) := by decide +kernel
theorem dX3_countOddStamps_34 : decode cX3_countOddStamps 34 = .ok (.iconst 1, 1) := by decide +kernel
theorem dX3_countOddStamps_35 : decode cX3_countOddStamps 35 = .ok (.goto 4, 3) := by decide +kernel
theorem dX3_countOddStamps_38 : decode cX3_countOddStamps 38 = .ok (.iconst 0, 1) := by decide +kernel
theorem dX3_countOddStamps_39 : decode cX3_countOddStamps 39 = .ok (.if_icmp .ne 7, 3) := by decide +kernel
theorem dX3_countOddStamps_42 : decode cX3_countOddStamps 42 = .ok (.iconst 0, 1) := by decide +kernel
theorem dX3_countOddStamps_43 : decode cX3_countOddStamps 43 = .ok (.goto 4, 3) := by decide +kernel
theorem dX3_countOddStamps_46 : decode cX3_countOddStamps 46 = .ok (.iconst 1, 1) := by decide +kernel
theorem dX3_countOddStamps_47 : decode cX3_countOddStamps 47 = .ok (.iadd, 1) := by decide +kernel
theorem dX3_countOddStamps_48 : decode cX3_countOddStamps 48 = .ok (.istore_n 1, 1) := by decide +kernel
theorem dX3_countOddStamps_49 : decode cX3_countOddStamps 49 = .ok (.iinc 2 1, 3) := by decide +kernel
theorem dX3_countOddStamps_52 : decode cX3_countOddStamps 52 = .ok (.goto (-48), 3) := by decide +kernel
theorem dX3_countOddStamps_55 : decode cX3_countOddStamps 55 = .ok (.iload_n 1, 1) := by decide +kernel
theorem dX3_countOddStamps_56 : decode cX3_countOddStamps 56 = .ok (.ireturn, 1) := by decide +kernel
theorem dX5_init_0 : decode cX5_init 0 = .ok (.aload_n 0, 1) := by decide +kernel
theorem dX5_init_1 : decode cX5_init 1 = .ok (.invokespecial 1, 3) := by decide +kernel
theorem dX5_init_4 : decode cX5_init 4 = .ok (.aload_n 0, 1) := by decide +kernel
theorem dX5_init_5 : decode cX5_init 5 = .ok (.new 7, 3) := by decide +kernel
theorem dX5_init_8 : decode cX5_init 8 = .ok (.dup, 1) := by decide +kernel
theorem dX5_init_9 : decode cX5_init 9 = .ok (.invokespecial 9, 3) := by decide +kernel
theorem dX5_init_12 : decode cX5_init 12 = .ok (.putfield 10, 3) := by decide +kernel
theorem dX5_init_15 : decode cX5_init 15 = .ok (.aload_n 0, 1) := by decide +kernel
theorem dX5_init_16 : decode cX5_init 16 = .ok (.new 7, 3) := by decide +kernel
theorem dX5_init_19 : decode cX5_init 19 = .ok (.dup, 1) := by decide +kernel
theorem dX5_init_20 : decode cX5_init 20 = .ok (.invokespecial 9, 3) := by decide +kernel
theorem dX5_init_23 : decode cX5_init 23 = .ok (.putfield 16, 3) := by decide +kernel
theorem dX5_init_26 : decode cX5_init 26 = .ok (.aload_n 0, 1) := by decide +kernel
theorem dX5_init_27 : decode cX5_init 27 = .ok (.bipush 8, 2) := by decide +kernel
theorem dX5_init_29 : decode cX5_init 29 = .ok (.anewarray 7, 3) := by decide +kernel
theorem dX5_init_32 : decode cX5_init 32 = .ok (.putfield 19, 3) := by decide +kernel
theorem dX5_init_35 : decode cX5_init 35 = .ok (.aload_n 0, 1) := by decide +kernel
theorem dX5_init_36 : decode cX5_init 36 = .ok (.iconst 2, 1) := by decide +kernel
theorem dX5_init_37 : decode cX5_init 37 = .ok (.anewarray 7, 3) := by decide +kernel
theorem dX5_init_40 : decode cX5_init 40 = .ok (.putfield 23, 3) := by decide +kernel
theorem dX5_init_43 : decode cX5_init 43 = .ok (.aload_n 0, 1) := by decide +kernel
theorem dX5_init_44 : decode cX5_init 44 = .ok (.iconst 2, 1) := by decide +kernel
theorem dX5_init_45 : decode cX5_init 45 = .ok (.newarray .boolean, 2) := by decide +kernel
theorem dX5_init_47 : decode cX5_init 47 = .ok (.putfield 26, 3) := by decide +kernel
theorem dX5_init_50 : decode cX5_init 50 = .ok (.aload_n 0, 1) := by decide +kernel
theorem dX5_init_51 : decode cX5_init 51 = .ok (.new 30, 3) := by decide +kernel
theorem dX5_init_54 : decode cX5_init 54 = .ok (.dup, 1) := by decide +kernel
theorem dX5_init_55 : decode cX5_init 55 = .ok (.aload_n 0, 1) := by decide +kernel
theorem dX5_init_56 : decode cX5_init 56 = .ok (.getfield 16, 3) := by decide +kernel
theorem dX5_init_59 : decode cX5_init 59 = .ok (.invokespecial 32, 3) := by decide +kernel
theorem dX5_init_62 : decode cX5_init 62 = .ok (.putfield 35, 3) := by decide +kernel
theorem dX5_init_65 : decode cX5_init 65 = .ok (.aload_n 0, 1) := by decide +kernel
theorem dX5_init_66 : decode cX5_init 66 = .ok (.new 39, 3) := by decide +kernel
theorem dX5_init_69 : decode cX5_init 69 = .ok (.dup, 1) := by decide +kernel
theorem dX5_init_70 : decode cX5_init 70 = .ok (.invokespecial 41, 3) := by decide +kernel
theorem dX5_init_73 : decode cX5_init 73 = .ok (.putfield 42, 3) := by decide +kernel
theorem dX5_init_76 : decode cX5_init 76 = .ok (.iconst 0, 1) := by decide +kernel
theorem dX5_init_77 : decode cX5_init 77 = .ok (.istore_n 1, 1) := by decide +kernel
theorem dX5_init_78 : decode cX5_init 78 = .ok (.iload_n 1, 1) := by decide +kernel
theorem dX5_init_79 : decode cX5_init 79 = .ok (.bipush 8, 2) := by decide +kernel
theorem dX5_init_81 : decode cX5_init 81 = .ok (.if_icmp .ge 22, 3) := by decide +kernel
theorem dX5_init_84 : decode cX5_init 84 = .ok (.aload_n 0, 1) := by decide +kernel
theorem dX5_init_85 : decode cX5_init 85 = .ok (.getfield 19, 3) := by decide +kernel
theorem dX5_init_88 : decode cX5_init 88 = .ok (.iload_n 1, 1) := by decide +kernel
theorem dX5_init_89 : decode cX5_init 89 = .ok (.new 7, 3) := by decide +kernel
theorem dX5_init_92 : decode cX5_init 92 = .ok (.dup, 1) := by decide +kernel
theorem dX5_init_93 : decode cX5_init 93 = .ok (.invokespecial 9, 3) := by decide +kernel
theorem dX5_init_96 : decode cX5_init 96 = .ok (.aastore, 1) := by decide +kernel
theorem dX5_init_97 : decode cX5_init 97 = .ok (.iinc 1 1, 3) := by decide +kernel
theorem dX5_init_100 : decode cX5_init 100 = .ok (.goto (-22), 3) := by decide +kernel
theorem dX5_init_103 : decode cX5_init 103 = .ok (.iconst 0, 1) := by decide +kernel
theorem dX5_init_104 : decode cX5_init 104 = .ok (.istore_n 1, 1) := by decide +kernel
theorem dX5_init_105 : decode cX5_init 105 = .ok (.iload_n 1, 1) := by decide +kernel
theorem dX5_init_106 : decode cX5_init 106 = .ok (.iconst 2, 1) := by decide +kernel
theorem dX5_init_107 : decode cX5_init 107 = .ok (.if_icmp .ge 22, 3) := by decide +kernel
theorem dX5_init_110 : decode cX5_init 110 = .ok (.aload_n 0, 1) := by decide +kernel
theorem dX5_init_111 : decode cX5_init 111 = .ok (.getfield 23, 3) := by decide +kernel
theorem dX5_init_114 : decode cX5_init 114 = .ok (.iload_n 1, 1) := by decide +kernel
theorem dX5_init_115 : decode cX5_init 115 = .ok (.new 7, 3) := by decide +kernel
theorem dX5_init_118 : decode cX5_init 118 = .ok (.dup, 1) := by decide +kernel
theorem dX5_init_119 : decode cX5_init 119 = .ok (.invokespecial 9, 3) := by decide +kernel
theorem dX5_init_122 : decode cX5_init 122 = .ok (.aastore, 1) := by decide +kernel
theorem dX5_init_123 : decode cX5_init 123 = .ok (.iinc 1 1, 3) := by decide +kernel
theorem dX5_init_126 : decode cX5_init 126 = .ok (.goto (-21), 3) := by decide +kernel
theorem dX5_init_129 : decode cX5_init 129 = .ok (.iconst 0, 1) := by decide +kernel
theorem dX5_init_130 : decode cX5_init 130 = .ok (.istore_n 1, 1) := by decide +kernel
theorem dX5_init_131 : decode cX5_init 131 = .ok (.iload_n 1, 1) := by decide +kernel
theorem dX5_init_132 : decode cX5_init 132 = .ok (.bipush 8, 2) := by decide +kernel
theorem dX5_init_134 : decode cX5_init 134 = .ok (.if_icmp .ge 19, 3) := by decide +kernel
theorem dX5_init_137 : decode cX5_init 137 = .ok (.aload_n 0, 1) := by decide +kernel
theorem dX5_init_138 : decode cX5_init 138 = .ok (.getfield 10, 3) := by decide +kernel
theorem dX5_init_141 : decode cX5_init 141 = .ok (.iload_n 1, 1) := by decide +kernel
theorem dX5_init_142 : decode cX5_init 142 = .ok (.iconst 3, 1) := by decide +kernel
theorem dX5_init_143 : decode cX5_init 143 = .ok (.idiv, 1) := by decide +kernel
theorem dX5_init_144 : decode cX5_init 144 = .ok (.invokevirtual 46, 3) := by decide +kernel
theorem dX5_init_147 : decode cX5_init 147 = .ok (.iinc 1 1, 3) := by decide +kernel
theorem dX5_init_150 : decode cX5_init 150 = .ok (.goto (-19), 3) := by decide +kernel
theorem dX5_init_153 : decode cX5_init 153 = .ok (.aload_n 0, 1) := by decide +kernel
theorem dX5_init_154 : decode cX5_init 154 = .ok (.getfield 10, 3) := by decide +kernel
theorem dX5_init_157 : decode cX5_init 157 = .ok (.ldc 50, 2) := by decide +kernel
theorem dX5_init_159 : decode cX5_init 159 = .ok (.sipush 9000, 3) := by decide +kernel
theorem dX5_init_162 : decode cX5_init 162 = .ok (.invokevirtual 52, 3) := by decide +kernel
theorem dX5_init_165 : decode cX5_init 165 = .ok (.aload_n 0, 1) := by decide +kernel
theorem dX5_init_166 : decode cX5_init 166 = .ok (.getfield 10, 3) := by decide +kernel
theorem dX5_init_169 : decode cX5_init 169 = .ok (.ldc 56, 2) := by decide +kernel
theorem dX5_init_171 : decode cX5_init 171 = .ok (.sipush 1200, 3) := by decide +kernel
theorem dX5_init_174 : decode cX5_init 174 = .ok (.invokevirtual 52, 3) := by decide +kernel
theorem dX5_init_177 : decode cX5_init 177 = .ok (.aload_n 0, 1) := by decide +kernel
theorem dX5_init_178 : decode cX5_init 178 = .ok (.getfield 10, 3) := by decide +kernel
theorem dX5_init_181 : decode cX5_init 181 = .ok (.ldc 58, 2) := by decide +kernel
theorem dX5_init_183 : decode cX5_init 183 = .ok (.sipush 20000, 3) := by decide +kernel
theorem dX5_init_186 : decode cX5_init 186 = .ok (.invokevirtual 52, 3) := by decide +kernel
theorem dX5_init_189 : decode cX5_init 189 = .ok (.return_, 1) := by decide +kernel
theorem dX5_append_0 : decode cX5_append 0 = .ok (.aload_n 0, 1) := by decide +kernel
theorem dX5_append_1 : decode cX5_append 1 = .ok (.getfield 35, 3) := by decide +kernel
theorem dX5_append_4 : decode cX5_append 4 = .ok (.getfield 60, 3) := by decide +kernel
theorem dX5_append_7 : decode cX5_append 7 = .ok (.sipush 680, 3) := by decide +kernel
theorem dX5_append_10 : decode cX5_append 10 = .ok (.if_icmp .le 5, 3) := by decide +kernel
theorem dX5_append_13 : decode cX5_append 13 = .ok (.iconst (-1), 1) := by decide +kernel
theorem dX5_append_14 : decode cX5_append 14 = .ok (.ireturn, 1) := by decide +kernel
theorem dX5_append_15 : decode cX5_append 15 = .ok (.aload_n 0, 1) := by decide +kernel
theorem dX5_append_16 : decode cX5_append 16 = .ok (.getfield 35, 3) := by decide +kernel
theorem dX5_append_19 : decode cX5_append 19 = .ok (.iload_n 1, 1) := by decide +kernel
theorem dX5_append_20 : decode cX5_append 20 = .ok (.invokevirtual 64, 3) := by decide +kernel
theorem dX5_append_23 : decode cX5_append 23 = .ok (.aload_n 0, 1) := by decide +kernel
theorem dX5_append_24 : decode cX5_append 24 = .ok (.getfield 35, 3) := by decide +kernel
theorem dX5_append_27 : decode cX5_append 27 = .ok (.iload_n 2, 1) := by decide +kernel
theorem dX5_append_28 : decode cX5_append 28 = .ok (.invokevirtual 64, 3) := by decide +kernel
theorem dX5_append_31 : decode cX5_append 31 = .ok (.aload_n 0, 1) := by decide +kernel
theorem dX5_append_32 : decode cX5_append 32 = .ok (.getfield 35, 3) := by decide +kernel
theorem dX5_append_35 : decode cX5_append 35 = .ok (.iload_n 3, 1) := by decide +kernel
theorem dX5_append_36 : decode cX5_append 36 = .ok (.invokevirtual 64, 3) := by decide +kernel
theorem dX5_append_39 : decode cX5_append 39 = .ok (.aload_n 0, 1) := by decide +kernel
theorem dX5_append_40 : decode cX5_append 40 = .ok (.getfield 35, 3) := by decide +kernel
theorem dX5_append_43 : decode cX5_append 43 = .ok (.iload 4, 2) := by decide +kernel
theorem dX5_append_45 : decode cX5_append 45 = .ok (.invokevirtual 64, 3) := by decide +kernel
theorem dX5_append_48 : decode cX5_append 48 = .ok (.aload_n 0, 1) := by decide +kernel
theorem dX5_append_49 : decode cX5_append 49 = .ok (.getfield 35, 3) := by decide +kernel
theorem dX5_append_52 : decode cX5_append 52 = .ok (.iload 5, 2) := by decide +kernel
theorem dX5_append_54 : decode cX5_append 54 = .ok (.invokevirtual 64, 3) := by decide +kernel
theorem dX5_append_57 : decode cX5_append 57 = .ok (.aload_n 0, 1) := by decide +kernel
theorem dX5_append_58 : decode cX5_append 58 = .ok (.getfield 35, 3) := by decide +kernel
theorem dX5_append_61 : decode cX5_append 61 = .ok (.getfield 60, 3) := by decide +kernel
theorem dX5_append_64 : decode cX5_append 64 = .ok (.ireturn, 1) := by decide +kernel
theorem dX5_truncateInput_0 : decode cX5_truncateInput 0 = .ok (.iload_n 1, 1) := by decide +kernel
theorem dX5_truncateInput_1 : decode cX5_truncateInput 1 = .ok (.ifCond .lt 14, 3) := by decide +kernel
theorem dX5_truncateInput_4 : decode cX5_truncateInput 4 = .ok (.iload_n 1, 1) := by decide +kernel
theorem dX5_truncateInput_5 : decode cX5_truncateInput 5 = .ok (.aload_n 0, 1) := by decide +kernel
theorem dX5_truncateInput_6 : decode cX5_truncateInput 6 = .ok (.getfield 35, 3) := by decide +kernel
theorem dX5_truncateInput_9 : decode cX5_truncateInput 9 = .ok (.getfield 60, 3) := by decide +kernel
theorem dX5_truncateInput_12 : decode cX5_truncateInput 12 = .ok (.if_icmp .le 13, 3) := by decide +kernel
theorem dX5_truncateInput_15 : decode cX5_truncateInput 15 = .ok (.new 67, 3) := by decide +kernel
theorem dX5_truncateInput_18 : decode cX5_truncateInput 18 = .ok (.dup, 1) := by decide +kernel
theorem dX5_truncateInput_19 : decode cX5_truncateInput 19 = .ok (.ldc 69, 2) := by decide +kernel
theorem dX5_truncateInput_21 : decode cX5_truncateInput 21 = .ok (.invokespecial 71, 3) := by decide +kernel
theorem dX5_truncateInput_24 : decode cX5_truncateInput 24 = .ok (.athrow, 1) := by decide +kernel
theorem dX5_truncateInput_25 : decode cX5_truncateInput 25 = .ok (.aload_n 0, 1) := by decide +kernel
theorem dX5_truncateInput_26 : decode cX5_truncateInput 26 = .ok (.getfield 35, 3) := by decide +kernel
theorem dX5_truncateInput_29 : decode cX5_truncateInput 29 = .ok (.iload_n 1, 1) := by decide +kernel
theorem dX5_truncateInput_30 : decode cX5_truncateInput 30 = .ok (.putfield 60, 3) := by decide +kernel
theorem dX5_truncateInput_33 : decode cX5_truncateInput 33 = .ok (.iload_n 1, 1) := by decide +kernel
theorem dX5_truncateInput_34 : decode cX5_truncateInput 34 = .ok (.ireturn, 1) := by decide +kernel
theorem dX5_discardOldestChange_0 : decode cX5_discardOldestChange 0 = .ok (.aload_n 0, 1) := by decide +kernel
theorem dX5_discardOldestChange_1 : decode cX5_discardOldestChange 1 = .ok (.getfield 19, 3) := by decide +kernel
theorem dX5_discardOldestChange_4 : decode cX5_discardOldestChange 4 = .ok (.iconst 0, 1) := by decide +kernel
theorem dX5_discardOldestChange_5 : decode cX5_discardOldestChange 5 = .ok (.aaload, 1) := by decide +kernel
theorem dX5_discardOldestChange_6 : decode cX5_discardOldestChange 6 = .ok (.astore_n 1, 1) := by decide +kernel
theorem dX5_discardOldestChange_7 : decode cX5_discardOldestChange 7 = .ok (.iconst 1, 1) := by decide +kernel
theorem dX5_discardOldestChange_8 : decode cX5_discardOldestChange 8 = .ok (.istore_n 2, 1) := by decide +kernel
theorem dX5_discardOldestChange_9 : decode cX5_discardOldestChange 9 = .ok (.iload_n 2, 1) := by decide +kernel
theorem dX5_discardOldestChange_10 : decode cX5_discardOldestChange 10 = .ok (.bipush 8, 2) := by decide +kernel
theorem dX5_discardOldestChange_12 : decode cX5_discardOldestChange 12 = .ok (.if_icmp .ge 23, 3) := by decide +kernel
theorem dX5_discardOldestChange_15 : decode cX5_discardOldestChange 15 = .ok (.aload_n 0, 1) := by decide +kernel
theorem dX5_discardOldestChange_16 : decode cX5_discardOldestChange 16 = .ok (.getfield 19, 3) := by decide +kernel
theorem dX5_discardOldestChange_19 : decode cX5_discardOldestChange 19 = .ok (.iload_n 2, 1) := by decide +kernel
theorem dX5_discardOldestChange_20 : decode cX5_discardOldestChange 20 = .ok (.iconst 1, 1) := by decide +kernel
theorem dX5_discardOldestChange_21 : decode cX5_discardOldestChange 21 = .ok (.isub, 1) := by decide +kernel
theorem dX5_discardOldestChange_22 : decode cX5_discardOldestChange 22 = .ok (.aload_n 0, 1) := by decide +kernel
theorem dX5_discardOldestChange_23 : decode cX5_discardOldestChange 23 = .ok (.getfield 19, 3) := by decide +kernel
theorem dX5_discardOldestChange_26 : decode cX5_discardOldestChange 26 = .ok (.iload_n 2, 1) := by decide +kernel
theorem dX5_discardOldestChange_27 : decode cX5_discardOldestChange 27 = .ok (.aaload, 1) := by decide +kernel
theorem dX5_discardOldestChange_28 : decode cX5_discardOldestChange 28 = .ok (.aastore, 1) := by decide +kernel
theorem dX5_discardOldestChange_29 : decode cX5_discardOldestChange 29 = .ok (.iinc 2 1, 3) := by decide +kernel
theorem dX5_discardOldestChange_32 : decode cX5_discardOldestChange 32 = .ok (.goto (-23), 3) := by decide +kernel
theorem dX5_discardOldestChange_35 : decode cX5_discardOldestChange 35 = .ok (.aload_n 0, 1) := by decide +kernel
theorem dX5_discardOldestChange_36 : decode cX5_discardOldestChange 36 = .ok (.getfield 19, 3) := by decide +kernel
theorem dX5_discardOldestChange_39 : decode cX5_discardOldestChange 39 = .ok (.bipush 7, 2) := by decide +kernel
theorem dX5_discardOldestChange_41 : decode cX5_discardOldestChange 41 = .ok (.aload_n 1, 1) := by decide +kernel
theorem dX5_discardOldestChange_42 : decode cX5_discardOldestChange 42 = .ok (.aastore, 1) := by decide +kernel
theorem dX5_discardOldestChange_43 : decode cX5_discardOldestChange 43 = .ok (.aload_n 0, 1) := by decide +kernel
theorem dX5_discardOldestChange_44 : decode cX5_discardOldestChange 44 = .ok (.bipush 7, 2) := by decide +kernel
theorem dX5_discardOldestChange_46 : decode cX5_discardOldestChange 46 = .ok (.putfield 192, 3) := by decide +kernel
theorem dX5_discardOldestChange_49 : decode cX5_discardOldestChange 49 = .ok (.return_, 1) := by decide +kernel
theorem dX5_keepForUndo_0 : decode cX5_keepForUndo 0 = .ok (.aload_n 0, 1) := by decide +kernel
theorem dX5_keepForUndo_1 : decode cX5_keepForUndo 1 = .ok (.getfield 192, 3) := by decide +kernel
theorem dX5_keepForUndo_4 : decode cX5_keepForUndo 4 = .ok (.bipush 8, 2) := by decide +kernel
theorem dX5_keepForUndo_6 : decode cX5_keepForUndo 6 = .ok (.if_icmp .ne 7, 3) := by decide +kernel
theorem dX5_keepForUndo_9 : decode cX5_keepForUndo 9 = .ok (.aload_n 0, 1) := by decide +kernel
theorem dX5_keepForUndo_10 : decode cX5_keepForUndo 10 = .ok (.invokevirtual 364, 3) := by decide +kernel
theorem dX5_keepForUndo_13 : decode cX5_keepForUndo 13 = .ok (.aload_n 0, 1) := by decide +kernel
theorem dX5_keepForUndo_14 : decode cX5_keepForUndo 14 = .ok (.getfield 19, 3) := by decide +kernel
theorem dX5_keepForUndo_17 : decode cX5_keepForUndo 17 = .ok (.aload_n 0, 1) := by decide +kernel
theorem dX5_keepForUndo_18 : decode cX5_keepForUndo 18 = .ok (.getfield 192, 3) := by decide +kernel
theorem dX5_keepForUndo_21 : decode cX5_keepForUndo 21 = .ok (.aaload, 1) := by decide +kernel
theorem dX5_keepForUndo_22 : decode cX5_keepForUndo 22 = .ok (.aload_n 0, 1) := by decide +kernel
theorem dX5_keepForUndo_23 : decode cX5_keepForUndo 23 = .ok (.getfield 10, 3) := by decide +kernel
theorem dX5_keepForUndo_26 : decode cX5_keepForUndo 26 = .ok (.invokevirtual 97, 3) := by decide +kernel
theorem dX5_keepForUndo_29 : decode cX5_keepForUndo 29 = .ok (.aload_n 0, 1) := by decide +kernel
theorem dX5_keepForUndo_30 : decode cX5_keepForUndo 30 = .ok (.dup, 1) := by decide +kernel
theorem dX5_keepForUndo_31 : decode cX5_keepForUndo 31 = .ok (.getfield 192, 3) := by decide +kernel
theorem dX5_keepForUndo_34 : decode cX5_keepForUndo 34 = .ok (.iconst 1, 1) := by decide +kernel
theorem dX5_keepForUndo_35 : decode cX5_keepForUndo 35 = .ok (.iadd, 1) := by decide +kernel
theorem dX5_keepForUndo_36 : decode cX5_keepForUndo 36 = .ok (.putfield 192, 3) := by decide +kernel
theorem dX5_keepForUndo_39 : decode cX5_keepForUndo 39 = .ok (.return_, 1) := by decide +kernel
theorem dX5_endParsing_0 : decode cX5_endParsing 0 = .ok (.aload_n 0, 1) := by decide +kernel
theorem dX5_endParsing_1 : decode cX5_endParsing 1 = .ok (.getfield 35, 3) := by decide +kernel
theorem dX5_endParsing_4 : decode cX5_endParsing 4 = .ok (.iconst 0, 1) := by decide +kernel
theorem dX5_endParsing_5 : decode cX5_endParsing 5 = .ok (.putfield 60, 3) := by decide +kernel
theorem dX5_endParsing_8 : decode cX5_endParsing 8 = .ok (.aload_n 0, 1) := by decide +kernel
theorem dX5_endParsing_9 : decode cX5_endParsing 9 = .ok (.getfield 35, 3) := by decide +kernel
theorem dX5_endParsing_12 : decode cX5_endParsing 12 = .ok (.getfield 100, 3) := by decide +kernel
theorem dX5_endParsing_15 : decode cX5_endParsing 15 = .ok (.ifCond .eq 5, 3) := by decide +kernel
theorem dX5_endParsing_18 : decode cX5_endParsing 18 = .ok (.iconst (-1), 1) := by decide +kernel
theorem dX5_endParsing_19 : decode cX5_endParsing 19 = .ok (.ireturn, 1) := by decide +kernel
theorem dX5_endParsing_20 : decode cX5_endParsing 20 = .ok (.aload_n 0, 1) := by decide +kernel
theorem dX5_endParsing_21 : decode cX5_endParsing 21 = .ok (.invokevirtual 122, 3) := by decide +kernel
theorem dX5_endParsing_24 : decode cX5_endParsing 24 = .ok (.aload_n 0, 1) := by decide +kernel
theorem dX5_endParsing_25 : decode cX5_endParsing 25 = .ok (.getfield 10, 3) := by decide +kernel
theorem dX5_endParsing_28 : decode cX5_endParsing 28 = .ok (.aload_n 0, 1) := by decide +kernel
theorem dX5_endParsing_29 : decode cX5_endParsing 29 = .ok (.getfield 16, 3) := by decide +kernel
theorem dX5_endParsing_32 : decode cX5_endParsing 32 = .ok (.invokevirtual 97, 3) := by decide +kernel
theorem dX5_endParsing_35 : decode cX5_endParsing 35 = .ok (.iload_n 1, 1) := by decide +kernel
theorem dX5_endParsing_36 : decode cX5_endParsing 36 = .ok (.ireturn, 1) := by decide +kernel
theorem dX5_load_0 : decode cX5_load 0 = .ok (.aload_n 0, 1) := by decide +kernel
theorem dX5_load_1 : decode cX5_load 1 = .ok (.getfield 16, 3) := by decide +kernel
theorem dX5_load_4 : decode cX5_load 4 = .ok (.invokevirtual 74, 3) := by decide +kernel
theorem dX5_load_7 : decode cX5_load 7 = .ok (.aload_n 0, 1) := by decide +kernel
theorem dX5_load_8 : decode cX5_load 8 = .ok (.getfield 35, 3) := by decide +kernel
theorem dX5_load_11 : decode cX5_load 11 = .ok (.invokevirtual 77, 3) := by decide +kernel
theorem dX5_load_14 : decode cX5_load 14 = .ok (.aload_n 0, 1) := by decide +kernel
theorem dX5_load_15 : decode cX5_load 15 = .ok (.getfield 35, 3) := by decide +kernel
theorem dX5_load_18 : decode cX5_load 18 = .ok (.invokevirtual 80, 3) := by decide +kernel
theorem dX5_load_21 : decode cX5_load 21 = .ok (.aload_n 0, 1) := by decide +kernel
theorem dX5_load_22 : decode cX5_load 22 = .ok (.getfield 35, 3) := by decide +kernel
theorem dX5_load_25 : decode cX5_load 25 = .ok (.invokevirtual 83, 3) := by decide +kernel
theorem dX5_load_28 : decode cX5_load 28 = .ok (.aload_n 0, 1) := by decide +kernel
theorem dX5_load_29 : decode cX5_load 29 = .ok (.getfield 35, 3) := by decide +kernel
theorem dX5_load_32 : decode cX5_load 32 = .ok (.invokevirtual 86, 3) := by decide +kernel
theorem dX5_load_35 : decode cX5_load 35 = .ok (.pop, 1) := by decide +kernel
theorem dX5_load_36 : decode cX5_load 36 = .ok (.aload_n 0, 1) := by decide +kernel
theorem dX5_load_37 : decode cX5_load 37 = .ok (.aload_n 0, 1) := by decide +kernel
theorem dX5_load_38 : decode cX5_load 38 = .ok (.getfield 16, 3) := by decide +kernel
theorem dX5_load_41 : decode cX5_load 41 = .ok (.getfield 90, 3) := by decide +kernel
theorem dX5_load_44 : decode cX5_load 44 = .ok (.invokevirtual 93, 3) := by decide +kernel
theorem dX5_load_47 : decode cX5_load 47 = .ok (.ireturn, 1) := by decide +kernel
theorem dX5_play_0 : decode cX5_play 0 = .ok (.aload_n 0, 1) := by decide +kernel
theorem dX5_play_1 : decode cX5_play 1 = .ok (.getfield 16, 3) := by decide +kernel
theorem dX5_play_4 : decode cX5_play 4 = .ok (.aload_n 0, 1) := by decide +kernel
theorem dX5_play_5 : decode cX5_play 5 = .ok (.getfield 10, 3) := by decide +kernel
theorem dX5_play_8 : decode cX5_play 8 = .ok (.invokevirtual 97, 3) := by decide +kernel
theorem dX5_play_11 : decode cX5_play 11 = .ok (.aload_n 0, 1) := by decide +kernel
theorem dX5_play_12 : decode cX5_play 12 = .ok (.getfield 35, 3) := by decide +kernel
theorem dX5_play_15 : decode cX5_play 15 = .ok (.invokevirtual 77, 3) := by decide +kernel
theorem dX5_play_18 : decode cX5_play 18 = .ok (.aload_n 0, 1) := by decide +kernel
theorem dX5_play_19 : decode cX5_play 19 = .ok (.aload_n 0, 1) := by decide +kernel
theorem dX5_play_20 : decode cX5_play 20 = .ok (.getfield 35, 3) := by decide +kernel
theorem dX5_play_23 : decode cX5_play 23 = .ok (.invokevirtual 86, 3) := by decide +kernel
theorem dX5_play_26 : decode cX5_play 26 = .ok (.invokevirtual 93, 3) := by decide +kernel
theorem dX5_play_29 : decode cX5_play 29 = .ok (.ireturn, 1) := by decide +kernel
theorem dX5_errorCode_0 : decode cX5_errorCode 0 = .ok (.aload_n 0, 1) := by decide +kernel
theorem dX5_errorCode_1 : decode cX5_errorCode 1 = .ok (.getfield 35, 3) := by decide +kernel
theorem dX5_errorCode_4 : decode cX5_errorCode 4 = .ok (.getfield 100, 3) := by decide +kernel
theorem dX5_errorCode_7 : decode cX5_errorCode 7 = .ok (.ireturn, 1) := by decide +kernel
theorem dX5_errorOffset_0 : decode cX5_errorOffset 0 = .ok (.aload_n 0, 1) := by decide +kernel
theorem dX5_errorOffset_1 : decode cX5_errorOffset 1 = .ok (.getfield 35, 3) := by decide +kernel
theorem dX5_errorOffset_4 : decode cX5_errorOffset 4 = .ok (.getfield 103, 3) := by decide +kernel
theorem dX5_errorOffset_7 : decode cX5_errorOffset 7 = .ok (.ireturn, 1) := by decide +kernel
theorem dX5_requirePassenger_0 : decode cX5_requirePassenger 0 = .ok (.iload_n 1, 1) := by decide +kernel
theorem dX5_requirePassenger_1 : decode cX5_requirePassenger 1 = .ok (.ifCond .lt 14, 3) := by decide +kernel
theorem dX5_requirePassenger_4 : decode cX5_requirePassenger 4 = .ok (.iload_n 1, 1) := by decide +kernel
theorem dX5_requirePassenger_5 : decode cX5_requirePassenger 5 = .ok (.aload_n 0, 1) := by decide +kernel
theorem dX5_requirePassenger_6 : decode cX5_requirePassenger 6 = .ok (.getfield 10, 3) := by decide +kernel
theorem dX5_requirePassenger_9 : decode cX5_requirePassenger 9 = .ok (.getfield 90, 3) := by decide +kernel
theorem dX5_requirePassenger_12 : decode cX5_requirePassenger 12 = .ok (.if_icmp .lt 14, 3) := by decide +kernel
theorem dX5_requirePassenger_15 : decode cX5_requirePassenger 15 = .ok (.new 367, 3) := by decide +kernel
theorem dX5_requirePassenger_18 : decode cX5_requirePassenger 18 = .ok (.dup, 1) := by decide +kernel
theorem dX5_requirePassenger_19 : decode cX5_requirePassenger 19 = .ok (.ldc_w 369, 3) := by decide +kernel
theorem dX5_requirePassenger_22 : decode cX5_requirePassenger 22 = .ok (.invokespecial 371, 3) := by decide +kernel
theorem dX5_requirePassenger_25 : decode cX5_requirePassenger 25 = .ok (.athrow, 1) := by decide +kernel
theorem dX5_requirePassenger_26 : decode cX5_requirePassenger 26 = .ok (.return_, 1) := by decide +kernel
theorem dX5_buy_0 : decode cX5_buy 0 = .ok (.aload_n 0, 1) := by decide +kernel
theorem dX5_buy_1 : decode cX5_buy 1 = .ok (.iload_n 1, 1) := by decide +kernel
theorem dX5_buy_2 : decode cX5_buy 2 = .ok (.invokevirtual 106, 3) := by decide +kernel
theorem dX5_buy_5 : decode cX5_buy 5 = .ok (.iload_n 2, 1) := by decide +kernel
theorem dX5_buy_6 : decode cX5_buy 6 = .ok (.ifCond .lt 8, 3) := by decide +kernel
theorem dX5_buy_9 : decode cX5_buy 9 = .ok (.iload_n 2, 1) := by decide +kernel
theorem dX5_buy_10 : decode cX5_buy 10 = .ok (.iconst 2, 1) := by decide +kernel
theorem dX5_buy_11 : decode cX5_buy 11 = .ok (.if_icmp .le 13, 3) := by decide +kernel
theorem dX5_buy_14 : decode cX5_buy 14 = .ok (.new 67, 3) := by decide +kernel
theorem dX5_buy_17 : decode cX5_buy 17 = .ok (.dup, 1) := by decide +kernel
theorem dX5_buy_18 : decode cX5_buy 18 = .ok (.ldc 109, 2) := by decide +kernel
theorem dX5_buy_20 : decode cX5_buy 20 = .ok (.invokespecial 71, 3) := by decide +kernel
theorem dX5_buy_23 : decode cX5_buy 23 = .ok (.athrow, 1) := by decide +kernel
theorem dX5_buy_24 : decode cX5_buy 24 = .ok (.iload_n 3, 1) := by decide +kernel
theorem dX5_buy_25 : decode cX5_buy 25 = .ok (.iconst 1, 1) := by decide +kernel
theorem dX5_buy_26 : decode cX5_buy 26 = .ok (.if_icmp .lt 9, 3) := by decide +kernel
theorem dX5_buy_29 : decode cX5_buy 29 = .ok (.iload_n 3, 1) := by decide +kernel
theorem dX5_buy_30 : decode cX5_buy 30 = .ok (.bipush 15, 2) := by decide +kernel
theorem dX5_buy_32 : decode cX5_buy 32 = .ok (.if_icmp .le 13, 3) := by decide +kernel
theorem dX5_buy_35 : decode cX5_buy 35 = .ok (.new 67, 3) := by decide +kernel
theorem dX5_buy_38 : decode cX5_buy 38 = .ok (.dup, 1) := by decide +kernel
theorem dX5_buy_39 : decode cX5_buy 39 = .ok (.ldc 111, 2) := by decide +kernel
theorem dX5_buy_41 : decode cX5_buy 41 = .ok (.invokespecial 71, 3) := by decide +kernel
theorem dX5_buy_44 : decode cX5_buy 44 = .ok (.athrow, 1) := by decide +kernel
theorem dX5_buy_45 : decode cX5_buy 45 = .ok (.aload_n 0, 1) := by decide +kernel
theorem dX5_buy_46 : decode cX5_buy 46 = .ok (.getfield 10, 3) := by decide +kernel
theorem dX5_buy_49 : decode cX5_buy 49 = .ok (.iload_n 1, 1) := by decide +kernel
theorem dX5_buy_50 : decode cX5_buy 50 = .ok (.iload_n 2, 1) := by decide +kernel
theorem dX5_buy_51 : decode cX5_buy 51 = .ok (.iload_n 3, 1) := by decide +kernel
theorem dX5_buy_52 : decode cX5_buy 52 = .ok (.invokevirtual 113, 3) := by decide +kernel
theorem dX5_buy_55 : decode cX5_buy 55 = .ok (.ifCond .ne 13, 3) := by decide +kernel
theorem dX5_buy_58 : decode cX5_buy 58 = .ok (.new 117, 3) := by decide +kernel
theorem dX5_buy_61 : decode cX5_buy 61 = .ok (.dup, 1) := by decide +kernel
theorem dX5_buy_62 : decode cX5_buy 62 = .ok (.ldc 119, 2) := by decide +kernel
theorem dX5_buy_64 : decode cX5_buy 64 = .ok (.invokespecial 121, 3) := by decide +kernel
theorem dX5_buy_67 : decode cX5_buy 67 = .ok (.athrow, 1) := by decide +kernel
theorem dX5_buy_68 : decode cX5_buy 68 = .ok (.aload_n 0, 1) := by decide +kernel
theorem dX5_buy_69 : decode cX5_buy 69 = .ok (.invokevirtual 122, 3) := by decide +kernel
theorem dX5_buy_72 : decode cX5_buy 72 = .ok (.aload_n 0, 1) := by decide +kernel
theorem dX5_buy_73 : decode cX5_buy 73 = .ok (.getfield 10, 3) := by decide +kernel
theorem dX5_buy_76 : decode cX5_buy 76 = .ok (.iload_n 1, 1) := by decide +kernel
theorem dX5_buy_77 : decode cX5_buy 77 = .ok (.iload_n 2, 1) := by decide +kernel
theorem dX5_buy_78 : decode cX5_buy 78 = .ok (.iload_n 3, 1) := by decide +kernel
theorem dX5_buy_79 : decode cX5_buy 79 = .ok (.invokevirtual 125, 3) := by decide +kernel
theorem dX5_buy_82 : decode cX5_buy 82 = .ok (.ireturn, 1) := by decide +kernel
theorem dX5_requireStop_0 : decode cX5_requireStop 0 = .ok (.iload_n 1, 1) := by decide +kernel
theorem dX5_requireStop_1 : decode cX5_requireStop 1 = .ok (.ifCond .lt 14, 3) := by decide +kernel
theorem dX5_requireStop_4 : decode cX5_requireStop 4 = .ok (.iload_n 1, 1) := by decide +kernel
theorem dX5_requireStop_5 : decode cX5_requireStop 5 = .ok (.aload_n 0, 1) := by decide +kernel
theorem dX5_requireStop_6 : decode cX5_requireStop 6 = .ok (.getfield 10, 3) := by decide +kernel
theorem dX5_requireStop_9 : decode cX5_requireStop 9 = .ok (.getfield 205, 3) := by decide +kernel
theorem dX5_requireStop_12 : decode cX5_requireStop 12 = .ok (.if_icmp .lt 14, 3) := by decide +kernel
theorem dX5_requireStop_15 : decode cX5_requireStop 15 = .ok (.new 367, 3) := by decide +kernel
theorem dX5_requireStop_18 : decode cX5_requireStop 18 = .ok (.dup, 1) := by decide +kernel
theorem dX5_requireStop_19 : decode cX5_requireStop 19 = .ok (.ldc_w 372, 3) := by decide +kernel
theorem dX5_requireStop_22 : decode cX5_requireStop 22 = .ok (.invokespecial 371, 3) := by decide +kernel
theorem dX5_requireStop_25 : decode cX5_requireStop 25 = .ok (.athrow, 1) := by decide +kernel
theorem dX5_requireStop_26 : decode cX5_requireStop 26 = .ok (.return_, 1) := by decide +kernel
theorem dX5_requireTicket_0 : decode cX5_requireTicket 0 = .ok (.iload_n 1, 1) := by decide +kernel
theorem dX5_requireTicket_1 : decode cX5_requireTicket 1 = .ok (.ifCond .lt 14, 3) := by decide +kernel
theorem dX5_requireTicket_4 : decode cX5_requireTicket 4 = .ok (.iload_n 1, 1) := by decide +kernel
theorem dX5_requireTicket_5 : decode cX5_requireTicket 5 = .ok (.aload_n 0, 1) := by decide +kernel
theorem dX5_requireTicket_6 : decode cX5_requireTicket 6 = .ok (.getfield 10, 3) := by decide +kernel
theorem dX5_requireTicket_9 : decode cX5_requireTicket 9 = .ok (.getfield 208, 3) := by decide +kernel
theorem dX5_requireTicket_12 : decode cX5_requireTicket 12 = .ok (.if_icmp .lt 14, 3) := by decide +kernel
theorem dX5_requireTicket_15 : decode cX5_requireTicket 15 = .ok (.new 367, 3) := by decide +kernel
theorem dX5_requireTicket_18 : decode cX5_requireTicket 18 = .ok (.dup, 1) := by decide +kernel
theorem dX5_requireTicket_19 : decode cX5_requireTicket 19 = .ok (.ldc_w 374, 3) := by decide +kernel
theorem dX5_requireTicket_22 : decode cX5_requireTicket 22 = .ok (.invokespecial 371, 3) := by decide +kernel
theorem dX5_requireTicket_25 : decode cX5_requireTicket 25 = .ok (.athrow, 1) := by decide +kernel
theorem dX5_requireTicket_26 : decode cX5_requireTicket 26 = .ok (.return_, 1) := by decide +kernel
theorem dX5_ride_0 : decode cX5_ride 0 = .ok (.aload_n 0, 1) := by decide +kernel
theorem dX5_ride_1 : decode cX5_ride 1 = .ok (.iload_n 1, 1) := by decide +kernel
theorem dX5_ride_2 : decode cX5_ride 2 = .ok (.invokevirtual 106, 3) := by decide +kernel
theorem dX5_ride_5 : decode cX5_ride 5 = .ok (.aload_n 0, 1) := by decide +kernel
theorem dX5_ride_6 : decode cX5_ride 6 = .ok (.iload_n 2, 1) := by decide +kernel
theorem dX5_ride_7 : decode cX5_ride 7 = .ok (.invokevirtual 129, 3) := by decide +kernel
theorem dX5_ride_10 : decode cX5_ride 10 = .ok (.aload_n 0, 1) := by decide +kernel
theorem dX5_ride_11 : decode cX5_ride 11 = .ok (.iload_n 3, 1) := by decide +kernel
theorem dX5_ride_12 : decode cX5_ride 12 = .ok (.invokevirtual 129, 3) := by decide +kernel
theorem dX5_ride_15 : decode cX5_ride 15 = .ok (.iload 4, 2) := by decide +kernel
theorem dX5_ride_17 : decode cX5_ride 17 = .ok (.iconst (-1), 1) := by decide +kernel
theorem dX5_ride_18 : decode cX5_ride 18 = .ok (.if_icmp .eq 9, 3) := by decide +kernel
theorem dX5_ride_21 : decode cX5_ride 21 = .ok (.aload_n 0, 1) := by decide +kernel
theorem dX5_ride_22 : decode cX5_ride 22 = .ok (.iload 4, 2) := by decide +kernel
theorem dX5_ride_24 : decode cX5_ride 24 = .ok (.invokevirtual 132, 3) := by decide +kernel
theorem dX5_ride_27 : decode cX5_ride 27 = .ok (.iload_n 3, 1) := by decide +kernel
theorem dX5_ride_28 : decode cX5_ride 28 = .ok (.iload_n 2, 1) := by decide +kernel
theorem dX5_ride_29 : decode cX5_ride 29 = .ok (.if_icmp .ne 13, 3) := by decide +kernel
theorem dX5_ride_32 : decode cX5_ride 32 = .ok (.new 67, 3) := by decide +kernel
theorem dX5_ride_35 : decode cX5_ride 35 = .ok (.dup, 1) := by decide +kernel
theorem dX5_ride_36 : decode cX5_ride 36 = .ok (.ldc 135, 2) := by decide +kernel
theorem dX5_ride_38 : decode cX5_ride 38 = .ok (.invokespecial 71, 3) := by decide +kernel
theorem dX5_ride_41 : decode cX5_ride 41 = .ok (.athrow, 1) := by decide +kernel
theorem dX5_ride_42 : decode cX5_ride 42 = .ok (.aload_n 0, 1) := by decide +kernel
theorem dX5_ride_43 : decode cX5_ride 43 = .ok (.getfield 10, 3) := by decide +kernel
theorem dX5_ride_46 : decode cX5_ride 46 = .ok (.iload_n 1, 1) := by decide +kernel
theorem dX5_ride_47 : decode cX5_ride 47 = .ok (.iload 4, 2) := by decide +kernel
theorem dX5_ride_49 : decode cX5_ride 49 = .ok (.invokevirtual 137, 3) := by decide +kernel
theorem dX5_ride_52 : decode cX5_ride 52 = .ok (.ifCond .ne 13, 3) := by decide +kernel
theorem dX5_ride_55 : decode cX5_ride 55 = .ok (.new 117, 3) := by decide +kernel
theorem dX5_ride_58 : decode cX5_ride 58 = .ok (.dup, 1) := by decide +kernel
theorem dX5_ride_59 : decode cX5_ride 59 = .ok (.ldc 141, 2) := by decide +kernel
theorem dX5_ride_61 : decode cX5_ride 61 = .ok (.invokespecial 121, 3) := by decide +kernel
theorem dX5_ride_64 : decode cX5_ride 64 = .ok (.athrow, 1) := by decide +kernel
theorem dX5_ride_65 : decode cX5_ride 65 = .ok (.aload_n 0, 1) := by decide +kernel
theorem dX5_ride_66 : decode cX5_ride 66 = .ok (.invokevirtual 122, 3) := by decide +kernel
theorem dX5_ride_69 : decode cX5_ride 69 = .ok (.aload_n 0, 1) := by decide +kernel
theorem dX5_ride_70 : decode cX5_ride 70 = .ok (.getfield 10, 3) := by decide +kernel
theorem dX5_ride_73 : decode cX5_ride 73 = .ok (.iload_n 1, 1) := by decide +kernel
theorem dX5_ride_74 : decode cX5_ride 74 = .ok (.iload_n 2, 1) := by decide +kernel
theorem dX5_ride_75 : decode cX5_ride 75 = .ok (.iload_n 3, 1) := by decide +kernel
theorem dX5_ride_76 : decode cX5_ride 76 = .ok (.iload 4, 2) := by decide +kernel
theorem dX5_ride_78 : decode cX5_ride 78 = .ok (.invokevirtual 143, 3) := by decide +kernel
theorem dX5_ride_81 : decode cX5_ride 81 = .ok (.ireturn, 1) := by decide +kernel
theorem dX5_inspect_0 : decode cX5_inspect 0 = .ok (.aload_n 0, 1) := by decide +kernel
theorem dX5_inspect_1 : decode cX5_inspect 1 = .ok (.iload_n 1, 1) := by decide +kernel
theorem dX5_inspect_2 : decode cX5_inspect 2 = .ok (.invokevirtual 106, 3) := by decide +kernel
theorem dX5_inspect_5 : decode cX5_inspect 5 = .ok (.aload_n 0, 1) := by decide +kernel
theorem dX5_inspect_6 : decode cX5_inspect 6 = .ok (.getfield 10, 3) := by decide +kernel
theorem dX5_inspect_9 : decode cX5_inspect 9 = .ok (.iload_n 1, 1) := by decide +kernel
theorem dX5_inspect_10 : decode cX5_inspect 10 = .ok (.invokevirtual 147, 3) := by decide +kernel
theorem dX5_inspect_13 : decode cX5_inspect 13 = .ok (.ifCond .ne 13, 3) := by decide +kernel
theorem dX5_inspect_16 : decode cX5_inspect 16 = .ok (.new 117, 3) := by decide +kernel
theorem dX5_inspect_19 : decode cX5_inspect 19 = .ok (.dup, 1) := by decide +kernel
theorem dX5_inspect_20 : decode cX5_inspect 20 = .ok (.ldc 151, 2) := by decide +kernel
theorem dX5_inspect_22 : decode cX5_inspect 22 = .ok (.invokespecial 121, 3) := by decide +kernel
theorem dX5_inspect_25 : decode cX5_inspect 25 = .ok (.athrow, 1) := by decide +kernel
theorem dX5_inspect_26 : decode cX5_inspect 26 = .ok (.aload_n 0, 1) := by decide +kernel
theorem dX5_inspect_27 : decode cX5_inspect 27 = .ok (.invokevirtual 122, 3) := by decide +kernel
theorem dX5_inspect_30 : decode cX5_inspect 30 = .ok (.aload_n 0, 1) := by decide +kernel
theorem dX5_inspect_31 : decode cX5_inspect 31 = .ok (.getfield 10, 3) := by decide +kernel
theorem dX5_inspect_34 : decode cX5_inspect 34 = .ok (.iload_n 1, 1) := by decide +kernel
theorem dX5_inspect_35 : decode cX5_inspect 35 = .ok (.invokevirtual 153, 3) := by decide +kernel
theorem dX5_inspect_38 : decode cX5_inspect 38 = .ok (.ireturn, 1) := by decide +kernel
theorem dX5_waitFor_0 : decode cX5_waitFor 0 = .ok (.iload_n 1, 1) := by decide +kernel
theorem dX5_waitFor_1 : decode cX5_waitFor 1 = .ok (.iconst 1, 1) := by decide +kernel
theorem dX5_waitFor_2 : decode cX5_waitFor 2 = .ok (.if_icmp .lt 10, 3) := by decide +kernel
theorem dX5_waitFor_5 : decode cX5_waitFor 5 = .ok (.iload_n 1, 1) := by decide +kernel
theorem dX5_waitFor_6 : decode cX5_waitFor 6 = .ok (.sipush 9999, 3) := by decide +kernel
theorem dX5_waitFor_9 : decode cX5_waitFor 9 = .ok (.if_icmp .le 13, 3) := by decide +kernel
theorem dX5_waitFor_12 : decode cX5_waitFor 12 = .ok (.new 67, 3) := by decide +kernel
theorem dX5_waitFor_15 : decode cX5_waitFor 15 = .ok (.dup, 1) := by decide +kernel
theorem dX5_waitFor_16 : decode cX5_waitFor 16 = .ok (.ldc 156, 2) := by decide +kernel
theorem dX5_waitFor_18 : decode cX5_waitFor 18 = .ok (.invokespecial 71, 3) := by decide +kernel
theorem dX5_waitFor_21 : decode cX5_waitFor 21 = .ok (.athrow, 1) := by decide +kernel
theorem dX5_waitFor_22 : decode cX5_waitFor 22 = .ok (.iload_n 1, 1) := by decide +kernel
theorem dX5_waitFor_23 : decode cX5_waitFor 23 = .ok (.ldc 158, 2) := by decide +kernel
theorem dX5_waitFor_25 : decode cX5_waitFor 25 = .ok (.aload_n 0, 1) := by decide +kernel
theorem dX5_waitFor_26 : decode cX5_waitFor 26 = .ok (.getfield 10, 3) := by decide +kernel
theorem dX5_waitFor_29 : decode cX5_waitFor 29 = .ok (.getfield 159, 3) := by decide +kernel
theorem dX5_waitFor_32 : decode cX5_waitFor 32 = .ok (.isub, 1) := by decide +kernel
theorem dX5_waitFor_33 : decode cX5_waitFor 33 = .ok (.if_icmp .le 13, 3) := by decide +kernel
theorem dX5_waitFor_36 : decode cX5_waitFor 36 = .ok (.new 117, 3) := by decide +kernel
theorem dX5_waitFor_39 : decode cX5_waitFor 39 = .ok (.dup, 1) := by decide +kernel
theorem dX5_waitFor_40 : decode cX5_waitFor 40 = .ok (.ldc 162, 2) := by decide +kernel
theorem dX5_waitFor_42 : decode cX5_waitFor 42 = .ok (.invokespecial 121, 3) := by decide +kernel
theorem dX5_waitFor_45 : decode cX5_waitFor 45 = .ok (.athrow, 1) := by decide +kernel
theorem dX5_waitFor_46 : decode cX5_waitFor 46 = .ok (.aload_n 0, 1) := by decide +kernel
theorem dX5_waitFor_47 : decode cX5_waitFor 47 = .ok (.invokevirtual 122, 3) := by decide +kernel
theorem dX5_waitFor_50 : decode cX5_waitFor 50 = .ok (.aload_n 0, 1) := by decide +kernel
theorem dX5_waitFor_51 : decode cX5_waitFor 51 = .ok (.getfield 10, 3) := by decide +kernel
theorem dX5_waitFor_54 : decode cX5_waitFor 54 = .ok (.dup, 1) := by decide +kernel
theorem dX5_waitFor_55 : decode cX5_waitFor 55 = .ok (.getfield 159, 3) := by decide +kernel
theorem dX5_waitFor_58 : decode cX5_waitFor 58 = .ok (.iload_n 1, 1) := by decide +kernel
theorem dX5_waitFor_59 : decode cX5_waitFor 59 = .ok (.iadd, 1) := by decide +kernel
theorem dX5_waitFor_60 : decode cX5_waitFor 60 = .ok (.putfield 159, 3) := by decide +kernel
theorem dX5_waitFor_63 : decode cX5_waitFor 63 = .ok (.aload_n 0, 1) := by decide +kernel
theorem dX5_waitFor_64 : decode cX5_waitFor 64 = .ok (.getfield 10, 3) := by decide +kernel
theorem dX5_waitFor_67 : decode cX5_waitFor 67 = .ok (.getfield 159, 3) := by decide +kernel
theorem dX5_waitFor_70 : decode cX5_waitFor 70 = .ok (.ireturn, 1) := by decide +kernel
theorem dX5_requireCase_0 : decode cX5_requireCase 0 = .ok (.iload_n 1, 1) := by decide +kernel
theorem dX5_requireCase_1 : decode cX5_requireCase 1 = .ok (.ifCond .lt 14, 3) := by decide +kernel
theorem dX5_requireCase_4 : decode cX5_requireCase 4 = .ok (.iload_n 1, 1) := by decide +kernel
theorem dX5_requireCase_5 : decode cX5_requireCase 5 = .ok (.aload_n 0, 1) := by decide +kernel
theorem dX5_requireCase_6 : decode cX5_requireCase 6 = .ok (.getfield 10, 3) := by decide +kernel
theorem dX5_requireCase_9 : decode cX5_requireCase 9 = .ok (.getfield 211, 3) := by decide +kernel
theorem dX5_requireCase_12 : decode cX5_requireCase 12 = .ok (.if_icmp .lt 14, 3) := by decide +kernel
theorem dX5_requireCase_15 : decode cX5_requireCase 15 = .ok (.new 367, 3) := by decide +kernel
theorem dX5_requireCase_18 : decode cX5_requireCase 18 = .ok (.dup, 1) := by decide +kernel
theorem dX5_requireCase_19 : decode cX5_requireCase 19 = .ok (.ldc_w 376, 3) := by decide +kernel
theorem dX5_requireCase_22 : decode cX5_requireCase 22 = .ok (.invokespecial 371, 3) := by decide +kernel
theorem dX5_requireCase_25 : decode cX5_requireCase 25 = .ok (.athrow, 1) := by decide +kernel
theorem dX5_requireCase_26 : decode cX5_requireCase 26 = .ok (.return_, 1) := by decide +kernel
theorem dX5_appeal_0 : decode cX5_appeal 0 = .ok (.aload_n 0, 1) := by decide +kernel
theorem dX5_appeal_1 : decode cX5_appeal 1 = .ok (.iload_n 1, 1) := by decide +kernel
theorem dX5_appeal_2 : decode cX5_appeal 2 = .ok (.invokevirtual 164, 3) := by decide +kernel
theorem dX5_appeal_5 : decode cX5_appeal 5 = .ok (.aload_n 0, 1) := by decide +kernel
theorem dX5_appeal_6 : decode cX5_appeal 6 = .ok (.iload_n 2, 1) := by decide +kernel
theorem dX5_appeal_7 : decode cX5_appeal 7 = .ok (.invokevirtual 132, 3) := by decide +kernel
theorem dX5_appeal_10 : decode cX5_appeal 10 = .ok (.aload_n 0, 1) := by decide +kernel
theorem dX5_appeal_11 : decode cX5_appeal 11 = .ok (.getfield 10, 3) := by decide +kernel
theorem dX5_appeal_14 : decode cX5_appeal 14 = .ok (.iload_n 1, 1) := by decide +kernel
theorem dX5_appeal_15 : decode cX5_appeal 15 = .ok (.invokevirtual 167, 3) := by decide +kernel
theorem dX5_appeal_18 : decode cX5_appeal 18 = .ok (.ifCond .ne 13, 3) := by decide +kernel
theorem dX5_appeal_21 : decode cX5_appeal 21 = .ok (.new 117, 3) := by decide +kernel
theorem dX5_appeal_24 : decode cX5_appeal 24 = .ok (.dup, 1) := by decide +kernel
theorem dX5_appeal_25 : decode cX5_appeal 25 = .ok (.ldc 170, 2) := by decide +kernel
theorem dX5_appeal_27 : decode cX5_appeal 27 = .ok (.invokespecial 121, 3) := by decide +kernel
theorem dX5_appeal_30 : decode cX5_appeal 30 = .ok (.athrow, 1) := by decide +kernel
theorem dX5_appeal_31 : decode cX5_appeal 31 = .ok (.aload_n 0, 1) := by decide +kernel
theorem dX5_appeal_32 : decode cX5_appeal 32 = .ok (.invokevirtual 122, 3) := by decide +kernel
theorem dX5_appeal_35 : decode cX5_appeal 35 = .ok (.aload_n 0, 1) := by decide +kernel
theorem dX5_appeal_36 : decode cX5_appeal 36 = .ok (.getfield 10, 3) := by decide +kernel
theorem dX5_appeal_39 : decode cX5_appeal 39 = .ok (.iload_n 1, 1) := by decide +kernel
theorem dX5_appeal_40 : decode cX5_appeal 40 = .ok (.iload_n 2, 1) := by decide +kernel
theorem dX5_appeal_41 : decode cX5_appeal 41 = .ok (.invokevirtual 172, 3) := by decide +kernel
theorem dX5_appeal_44 : decode cX5_appeal 44 = .ok (.ireturn, 1) := by decide +kernel
theorem dX5_decide_0 : decode cX5_decide 0 = .ok (.aload_n 0, 1) := by decide +kernel
theorem dX5_decide_1 : decode cX5_decide 1 = .ok (.iload_n 1, 1) := by decide +kernel
theorem dX5_decide_2 : decode cX5_decide 2 = .ok (.invokevirtual 164, 3) := by decide +kernel
theorem dX5_decide_5 : decode cX5_decide 5 = .ok (.aload_n 0, 1) := by decide +kernel
theorem dX5_decide_6 : decode cX5_decide 6 = .ok (.getfield 10, 3) := by decide +kernel
theorem dX5_decide_9 : decode cX5_decide 9 = .ok (.iload_n 1, 1) := by decide +kernel
theorem dX5_decide_10 : decode cX5_decide 10 = .ok (.invokevirtual 176, 3) := by decide +kernel
theorem dX5_decide_13 : decode cX5_decide 13 = .ok (.ifCond .ne 13, 3) := by decide +kernel
theorem dX5_decide_16 : decode cX5_decide 16 = .ok (.new 117, 3) := by decide +kernel
theorem dX5_decide_19 : decode cX5_decide 19 = .ok (.dup, 1) := by decide +kernel
theorem dX5_decide_20 : decode cX5_decide 20 = .ok (.ldc 179, 2) := by decide +kernel
theorem dX5_decide_22 : decode cX5_decide 22 = .ok (.invokespecial 121, 3) := by decide +kernel
theorem dX5_decide_25 : decode cX5_decide 25 = .ok (.athrow, 1) := by decide +kernel
theorem dX5_decide_26 : decode cX5_decide 26 = .ok (.aload_n 0, 1) := by decide +kernel
theorem dX5_decide_27 : decode cX5_decide 27 = .ok (.invokevirtual 122, 3) := by decide +kernel
theorem dX5_decide_30 : decode cX5_decide 30 = .ok (.aload_n 0, 1) := by decide +kernel
theorem dX5_decide_31 : decode cX5_decide 31 = .ok (.getfield 10, 3) := by decide +kernel
theorem dX5_decide_34 : decode cX5_decide 34 = .ok (.iload_n 1, 1) := by decide +kernel
theorem dX5_decide_35 : decode cX5_decide 35 = .ok (.invokevirtual 181, 3) := by decide +kernel
theorem dX5_decide_38 : decode cX5_decide 38 = .ok (.ireturn, 1) := by decide +kernel
theorem dX5_pay_0 : decode cX5_pay 0 = .ok (.aload_n 0, 1) := by decide +kernel
theorem dX5_pay_1 : decode cX5_pay 1 = .ok (.iload_n 1, 1) := by decide +kernel
theorem dX5_pay_2 : decode cX5_pay 2 = .ok (.invokevirtual 164, 3) := by decide +kernel
theorem dX5_pay_5 : decode cX5_pay 5 = .ok (.aload_n 0, 1) := by decide +kernel
theorem dX5_pay_6 : decode cX5_pay 6 = .ok (.getfield 10, 3) := by decide +kernel
theorem dX5_pay_9 : decode cX5_pay 9 = .ok (.iload_n 1, 1) := by decide +kernel
theorem dX5_pay_10 : decode cX5_pay 10 = .ok (.invokevirtual 184, 3) := by decide +kernel
theorem dX5_pay_13 : decode cX5_pay 13 = .ok (.ifCond .ne 13, 3) := by decide +kernel
theorem dX5_pay_16 : decode cX5_pay 16 = .ok (.new 117, 3) := by decide +kernel
theorem dX5_pay_19 : decode cX5_pay 19 = .ok (.dup, 1) := by decide +kernel
theorem dX5_pay_20 : decode cX5_pay 20 = .ok (.ldc 187, 2) := by decide +kernel
theorem dX5_pay_22 : decode cX5_pay 22 = .ok (.invokespecial 121, 3) := by decide +kernel
theorem dX5_pay_25 : decode cX5_pay 25 = .ok (.athrow, 1) := by decide +kernel
theorem dX5_pay_26 : decode cX5_pay 26 = .ok (.aload_n 0, 1) := by decide +kernel
theorem dX5_pay_27 : decode cX5_pay 27 = .ok (.invokevirtual 122, 3) := by decide +kernel
theorem dX5_pay_30 : decode cX5_pay 30 = .ok (.aload_n 0, 1) := by decide +kernel
theorem dX5_pay_31 : decode cX5_pay 31 = .ok (.getfield 10, 3) := by decide +kernel
theorem dX5_pay_34 : decode cX5_pay 34 = .ok (.iload_n 1, 1) := by decide +kernel
theorem dX5_pay_35 : decode cX5_pay 35 = .ok (.invokevirtual 189, 3) := by decide +kernel
theorem dX5_pay_38 : decode cX5_pay 38 = .ok (.ireturn, 1) := by decide +kernel
theorem dX5_undo_0 : decode cX5_undo 0 = .ok (.aload_n 0, 1) := by decide +kernel
theorem dX5_undo_1 : decode cX5_undo 1 = .ok (.getfield 192, 3) := by decide +kernel
theorem dX5_undo_4 : decode cX5_undo 4 = .ok (.iconst 1, 1) := by decide +kernel
theorem dX5_undo_5 : decode cX5_undo 5 = .ok (.if_icmp .ge 13, 3) := by decide +kernel
theorem dX5_undo_8 : decode cX5_undo 8 = .ok (.new 117, 3) := by decide +kernel
theorem dX5_undo_11 : decode cX5_undo 11 = .ok (.dup, 1) := by decide +kernel
theorem dX5_undo_12 : decode cX5_undo 12 = .ok (.ldc 195, 2) := by decide +kernel
theorem dX5_undo_14 : decode cX5_undo 14 = .ok (.invokespecial 121, 3) := by decide +kernel
theorem dX5_undo_17 : decode cX5_undo 17 = .ok (.athrow, 1) := by decide +kernel
theorem dX5_undo_18 : decode cX5_undo 18 = .ok (.aload_n 0, 1) := by decide +kernel
theorem dX5_undo_19 : decode cX5_undo 19 = .ok (.dup, 1) := by decide +kernel
theorem dX5_undo_20 : decode cX5_undo 20 = .ok (.getfield 192, 3) := by decide +kernel
theorem dX5_undo_23 : decode cX5_undo 23 = .ok (.iconst 1, 1) := by decide +kernel
theorem dX5_undo_24 : decode cX5_undo 24 = .ok (.isub, 1) := by decide +kernel
theorem dX5_undo_25 : decode cX5_undo 25 = .ok (.putfield 192, 3) := by decide +kernel
theorem dX5_undo_28 : decode cX5_undo 28 = .ok (.aload_n 0, 1) := by decide +kernel
theorem dX5_undo_29 : decode cX5_undo 29 = .ok (.getfield 10, 3) := by decide +kernel
theorem dX5_undo_32 : decode cX5_undo 32 = .ok (.aload_n 0, 1) := by decide +kernel
theorem dX5_undo_33 : decode cX5_undo 33 = .ok (.getfield 19, 3) := by decide +kernel
theorem dX5_undo_36 : decode cX5_undo 36 = .ok (.aload_n 0, 1) := by decide +kernel
theorem dX5_undo_37 : decode cX5_undo 37 = .ok (.getfield 192, 3) := by decide +kernel
theorem dX5_undo_40 : decode cX5_undo 40 = .ok (.aaload, 1) := by decide +kernel
theorem dX5_undo_41 : decode cX5_undo 41 = .ok (.invokevirtual 97, 3) := by decide +kernel
theorem dX5_undo_44 : decode cX5_undo 44 = .ok (.aload_n 0, 1) := by decide +kernel
theorem dX5_undo_45 : decode cX5_undo 45 = .ok (.getfield 192, 3) := by decide +kernel
theorem dX5_undo_48 : decode cX5_undo 48 = .ok (.ireturn, 1) := by decide +kernel
theorem dX5_requireSlot_0 : decode cX5_requireSlot 0 = .ok (.iload_n 0, 1) := by decide +kernel
theorem dX5_requireSlot_1 : decode cX5_requireSlot 1 = .ok (.ifCond .lt 8, 3) := by decide +kernel
theorem dX5_requireSlot_4 : decode cX5_requireSlot 4 = .ok (.iload_n 0, 1) := by decide +kernel
theorem dX5_requireSlot_5 : decode cX5_requireSlot 5 = .ok (.iconst 2, 1) := by decide +kernel
theorem dX5_requireSlot_6 : decode cX5_requireSlot 6 = .ok (.if_icmp .lt 14, 3) := by decide +kernel
theorem dX5_requireSlot_9 : decode cX5_requireSlot 9 = .ok (.new 67, 3) := by decide +kernel
theorem dX5_requireSlot_12 : decode cX5_requireSlot 12 = .ok (.dup, 1) := by decide +kernel
theorem dX5_requireSlot_13 : decode cX5_requireSlot 13 = .ok (.ldc_w 378, 3) := by decide +kernel
theorem dX5_requireSlot_16 : decode cX5_requireSlot 16 = .ok (.invokespecial 71, 3) := by decide +kernel
theorem dX5_requireSlot_19 : decode cX5_requireSlot 19 = .ok (.athrow, 1) := by decide +kernel
theorem dX5_requireSlot_20 : decode cX5_requireSlot 20 = .ok (.return_, 1) := by decide +kernel
theorem dX5_save_0 : decode cX5_save 0 = .ok (.iload_n 1, 1) := by decide +kernel
theorem dX5_save_1 : decode cX5_save 1 = .ok (.invokestatic 197, 3) := by decide +kernel
theorem dX5_save_4 : decode cX5_save 4 = .ok (.aload_n 0, 1) := by decide +kernel
theorem dX5_save_5 : decode cX5_save 5 = .ok (.getfield 23, 3) := by decide +kernel
theorem dX5_save_8 : decode cX5_save 8 = .ok (.iload_n 1, 1) := by decide +kernel
theorem dX5_save_9 : decode cX5_save 9 = .ok (.aaload, 1) := by decide +kernel
theorem dX5_save_10 : decode cX5_save 10 = .ok (.aload_n 0, 1) := by decide +kernel
theorem dX5_save_11 : decode cX5_save 11 = .ok (.getfield 10, 3) := by decide +kernel
theorem dX5_save_14 : decode cX5_save 14 = .ok (.invokevirtual 97, 3) := by decide +kernel
theorem dX5_save_17 : decode cX5_save 17 = .ok (.aload_n 0, 1) := by decide +kernel
theorem dX5_save_18 : decode cX5_save 18 = .ok (.getfield 26, 3) := by decide +kernel
theorem dX5_save_21 : decode cX5_save 21 = .ok (.iload_n 1, 1) := by decide +kernel
theorem dX5_save_22 : decode cX5_save 22 = .ok (.iconst 1, 1) := by decide +kernel
theorem dX5_save_23 : decode cX5_save 23 = .ok (.bastore, 1) := by decide +kernel
theorem dX5_save_24 : decode cX5_save 24 = .ok (.aload_n 0, 1) := by decide +kernel
theorem dX5_save_25 : decode cX5_save 25 = .ok (.getfield 10, 3) := by decide +kernel
theorem dX5_save_28 : decode cX5_save 28 = .ok (.getfield 159, 3) := by decide +kernel
theorem dX5_save_31 : decode cX5_save 31 = .ok (.ireturn, 1) := by decide +kernel
theorem dX5_restore_0 : decode cX5_restore 0 = .ok (.iload_n 1, 1) := by decide +kernel
theorem dX5_restore_1 : decode cX5_restore 1 = .ok (.invokestatic 197, 3) := by decide +kernel
theorem dX5_restore_4 : decode cX5_restore 4 = .ok (.aload_n 0, 1) := by decide +kernel
theorem dX5_restore_5 : decode cX5_restore 5 = .ok (.getfield 26, 3) := by decide +kernel
theorem dX5_restore_8 : decode cX5_restore 8 = .ok (.iload_n 1, 1) := by decide +kernel
theorem dX5_restore_9 : decode cX5_restore 9 = .ok (.baload, 1) := by decide +kernel
theorem dX5_restore_10 : decode cX5_restore 10 = .ok (.ifCond .ne 13, 3) := by decide +kernel
theorem dX5_restore_13 : decode cX5_restore 13 = .ok (.new 117, 3) := by decide +kernel
theorem dX5_restore_16 : decode cX5_restore 16 = .ok (.dup, 1) := by decide +kernel
theorem dX5_restore_17 : decode cX5_restore 17 = .ok (.ldc 200, 2) := by decide +kernel
theorem dX5_restore_19 : decode cX5_restore 19 = .ok (.invokespecial 121, 3) := by decide +kernel
theorem dX5_restore_22 : decode cX5_restore 22 = .ok (.athrow, 1) := by decide +kernel
theorem dX5_restore_23 : decode cX5_restore 23 = .ok (.aload_n 0, 1) := by decide +kernel
theorem dX5_restore_24 : decode cX5_restore 24 = .ok (.invokevirtual 122, 3) := by decide +kernel
theorem dX5_restore_27 : decode cX5_restore 27 = .ok (.aload_n 0, 1) := by decide +kernel
theorem dX5_restore_28 : decode cX5_restore 28 = .ok (.getfield 10, 3) := by decide +kernel
theorem dX5_restore_31 : decode cX5_restore 31 = .ok (.aload_n 0, 1) := by decide +kernel
theorem dX5_restore_32 : decode cX5_restore 32 = .ok (.getfield 23, 3) := by decide +kernel
theorem dX5_restore_35 : decode cX5_restore 35 = .ok (.iload_n 1, 1) := by decide +kernel
theorem dX5_restore_36 : decode cX5_restore 36 = .ok (.aaload, 1) := by decide +kernel
theorem dX5_restore_37 : decode cX5_restore 37 = .ok (.invokevirtual 97, 3) := by decide +kernel
theorem dX5_restore_40 : decode cX5_restore 40 = .ok (.aload_n 0, 1) := by decide +kernel
theorem dX5_restore_41 : decode cX5_restore 41 = .ok (.getfield 10, 3) := by decide +kernel
theorem dX5_restore_44 : decode cX5_restore 44 = .ok (.getfield 159, 3) := by decide +kernel
theorem dX5_restore_47 : decode cX5_restore 47 = .ok (.ireturn, 1) := by decide +kernel
theorem dX5_clock_0 : decode cX5_clock 0 = .ok (.aload_n 0, 1) := by decide +kernel
theorem dX5_clock_1 : decode cX5_clock 1 = .ok (.getfield 10, 3) := by decide +kernel
theorem dX5_clock_4 : decode cX5_clock 4 = .ok (.getfield 159, 3) := by decide +kernel
theorem dX5_clock_7 : decode cX5_clock 7 = .ok (.ireturn, 1) := by decide +kernel
theorem dX5_day_0 : decode cX5_day 0 = .ok (.aload_n 0, 1) := by decide +kernel
theorem dX5_day_1 : decode cX5_day 1 = .ok (.getfield 10, 3) := by decide +kernel
theorem dX5_day_4 : decode cX5_day 4 = .ok (.getfield 159, 3) := by decide +kernel
theorem dX5_day_7 : decode cX5_day 7 = .ok (.invokestatic 202, 3) := by decide +kernel
theorem dX5_day_10 : decode cX5_day 10 = .ok (.ireturn, 1) := by decide +kernel
theorem dX5_stopCount_0 : decode cX5_stopCount 0 = .ok (.aload_n 0, 1) := by decide +kernel
theorem dX5_stopCount_1 : decode cX5_stopCount 1 = .ok (.getfield 10, 3) := by decide +kernel
theorem dX5_stopCount_4 : decode cX5_stopCount 4 = .ok (.getfield 205, 3) := by decide +kernel
theorem dX5_stopCount_7 : decode cX5_stopCount 7 = .ok (.ireturn, 1) := by decide +kernel
theorem dX5_passengerCount_0 : decode cX5_passengerCount 0 = .ok (.aload_n 0, 1) := by decide +kernel
theorem dX5_passengerCount_1 : decode cX5_passengerCount 1 = .ok (.getfield 10, 3) := by decide +kernel
theorem dX5_passengerCount_4 : decode cX5_passengerCount 4 = .ok (.getfield 90, 3) := by decide +kernel
theorem dX5_passengerCount_7 : decode cX5_passengerCount 7 = .ok (.ireturn, 1) := by decide +kernel
theorem dX5_ticketCount_0 : decode cX5_ticketCount 0 = .ok (.aload_n 0, 1) := by decide +kernel
theorem dX5_ticketCount_1 : decode cX5_ticketCount 1 = .ok (.getfield 10, 3) := by decide +kernel
theorem dX5_ticketCount_4 : decode cX5_ticketCount 4 = .ok (.getfield 208, 3) := by decide +kernel
theorem dX5_ticketCount_7 : decode cX5_ticketCount 7 = .ok (.ireturn, 1) := by decide +kernel
theorem dX5_caseCount_0 : decode cX5_caseCount 0 = .ok (.aload_n 0, 1) := by decide +kernel
theorem dX5_caseCount_1 : decode cX5_caseCount 1 = .ok (.getfield 10, 3) := by decide +kernel
theorem dX5_caseCount_4 : decode cX5_caseCount 4 = .ok (.getfield 211, 3) := by decide +kernel
theorem dX5_caseCount_7 : decode cX5_caseCount 7 = .ok (.ireturn, 1) := by decide +kernel
theorem dX5_undoableChanges_0 : decode cX5_undoableChanges 0 = .ok (.aload_n 0, 1) := by decide +kernel
theorem dX5_undoableChanges_1 : decode cX5_undoableChanges 1 = .ok (.getfield 192, 3) := by decide +kernel
theorem dX5_undoableChanges_4 : decode cX5_undoableChanges 4 = .ok (.ireturn, 1) := by decide +kernel
theorem dX5_zone_0 : decode cX5_zone 0 = .ok (.aload_n 0, 1) := by decide +kernel
theorem dX5_zone_1 : decode cX5_zone 1 = .ok (.iload_n 1, 1) := by decide +kernel
theorem dX5_zone_2 : decode cX5_zone 2 = .ok (.invokevirtual 129, 3) := by decide +kernel
theorem dX5_zone_5 : decode cX5_zone 5 = .ok (.aload_n 0, 1) := by decide +kernel
theorem dX5_zone_6 : decode cX5_zone 6 = .ok (.getfield 10, 3) := by decide +kernel
theorem dX5_zone_9 : decode cX5_zone 9 = .ok (.getfield 214, 3) := by decide +kernel
theorem dX5_zone_12 : decode cX5_zone 12 = .ok (.iload_n 1, 1) := by decide +kernel
theorem dX5_zone_13 : decode cX5_zone 13 = .ok (.iaload, 1) := by decide +kernel
theorem dX5_zone_14 : decode cX5_zone 14 = .ok (.ireturn, 1) := by decide +kernel
theorem dX5_zonesBetween_0 : decode cX5_zonesBetween 0 = .ok (.aload_n 0, 1) := by decide +kernel
theorem dX5_zonesBetween_1 : decode cX5_zonesBetween 1 = .ok (.iload_n 1, 1) := by decide +kernel
theorem dX5_zonesBetween_2 : decode cX5_zonesBetween 2 = .ok (.invokevirtual 129, 3) := by decide +kernel
theorem dX5_zonesBetween_5 : decode cX5_zonesBetween 5 = .ok (.aload_n 0, 1) := by decide +kernel
theorem dX5_zonesBetween_6 : decode cX5_zonesBetween 6 = .ok (.iload_n 2, 1) := by decide +kernel
theorem dX5_zonesBetween_7 : decode cX5_zonesBetween 7 = .ok (.invokevirtual 129, 3) := by decide +kernel
theorem dX5_zonesBetween_10 : decode cX5_zonesBetween 10 = .ok (.aload_n 0, 1) := by decide +kernel
theorem dX5_zonesBetween_11 : decode cX5_zonesBetween 11 = .ok (.getfield 10, 3) := by decide +kernel
theorem dX5_zonesBetween_14 : decode cX5_zonesBetween 14 = .ok (.iload_n 1, 1) := by decide +kernel
theorem dX5_zonesBetween_15 : decode cX5_zonesBetween 15 = .ok (.iload_n 2, 1) := by decide +kernel
theorem dX5_zonesBetween_16 : decode cX5_zonesBetween 16 = .ok (.invokevirtual 218, 3) := by decide +kernel
theorem dX5_zonesBetween_19 : decode cX5_zonesBetween 19 = .ok (.ireturn, 1) := by decide +kernel
theorem dX5_money_0 : decode cX5_money 0 = .ok (.aload_n 0, 1) := by decide +kernel
theorem dX5_money_1 : decode cX5_money 1 = .ok (.iload_n 1, 1) := by decide +kernel
theorem dX5_money_2 : decode cX5_money 2 = .ok (.invokevirtual 106, 3) := by decide +kernel
theorem dX5_money_5 : decode cX5_money 5 = .ok (.aload_n 0, 1) := by decide +kernel
theorem dX5_money_6 : decode cX5_money 6 = .ok (.getfield 10, 3) := by decide +kernel
theorem dX5_money_9 : decode cX5_money 9 = .ok (.getfield 221, 3) := by decide +kernel
theorem dX5_money_12 : decode cX5_money 12 = .ok (.iload_n 1, 1) := by decide +kernel
theorem dX5_money_13 : decode cX5_money 13 = .ok (.aaload, 1) := by decide +kernel
theorem dX5_money_14 : decode cX5_money 14 = .ok (.getfield 225, 3) := by decide +kernel
theorem dX5_money_17 : decode cX5_money 17 = .ok (.ireturn, 1) := by decide +kernel
theorem dX5_isRiding_0 : decode cX5_isRiding 0 = .ok (.aload_n 0, 1) := by decide +kernel
theorem dX5_isRiding_1 : decode cX5_isRiding 1 = .ok (.iload_n 1, 1) := by decide +kernel
theorem dX5_isRiding_2 : decode cX5_isRiding 2 = .ok (.invokevirtual 106, 3) := by decide +kernel
theorem dX5_isRiding_5 : decode cX5_isRiding 5 = .ok (.aload_n 0, 1) := by decide +kernel
theorem dX5_isRiding_6 : decode cX5_isRiding 6 = .ok (.getfield 10, 3) := by decide +kernel
theorem dX5_isRiding_9 : decode cX5_isRiding 9 = .ok (.getfield 221, 3) := by decide +kernel
theorem dX5_isRiding_12 : decode cX5_isRiding 12 = .ok (.iload_n 1, 1) := by decide +kernel
theorem dX5_isRiding_13 : decode cX5_isRiding 13 = .ok (.aaload, 1) := by decide +kernel
theorem dX5_isRiding_14 : decode cX5_isRiding 14 = .ok (.aload_n 0, 1) := by decide +kernel
theorem dX5_isRiding_15 : decode cX5_isRiding 15 = .ok (.getfield 10, 3) := by decide +kernel
theorem dX5_isRiding_18 : decode cX5_isRiding 18 = .ok (.getfield 159, 3) := by decide +kernel
theorem dX5_isRiding_21 : decode cX5_isRiding 21 = .ok (.invokevirtual 230, 3) := by decide +kernel
theorem dX5_isRiding_24 : decode cX5_isRiding 24 = .ok (.ireturn, 1) := by decide +kernel
theorem dX5_rideEnd_0 : decode cX5_rideEnd 0 = .ok (.aload_n 0, 1) := by decide +kernel
theorem dX5_rideEnd_1 : decode cX5_rideEnd 1 = .ok (.iload_n 1, 1) := by decide +kernel
theorem dX5_rideEnd_2 : decode cX5_rideEnd 2 = .ok (.invokevirtual 106, 3) := by decide +kernel
theorem dX5_rideEnd_5 : decode cX5_rideEnd 5 = .ok (.aload_n 0, 1) := by decide +kernel
theorem dX5_rideEnd_6 : decode cX5_rideEnd 6 = .ok (.getfield 10, 3) := by decide +kernel
theorem dX5_rideEnd_9 : decode cX5_rideEnd 9 = .ok (.getfield 221, 3) := by decide +kernel
theorem dX5_rideEnd_12 : decode cX5_rideEnd 12 = .ok (.iload_n 1, 1) := by decide +kernel
theorem dX5_rideEnd_13 : decode cX5_rideEnd 13 = .ok (.aaload, 1) := by decide +kernel
theorem dX5_rideEnd_14 : decode cX5_rideEnd 14 = .ok (.getfield 233, 3) := by decide +kernel
theorem dX5_rideEnd_17 : decode cX5_rideEnd 17 = .ok (.ireturn, 1) := by decide +kernel
theorem dX5_rideTicket_0 : decode cX5_rideTicket 0 = .ok (.aload_n 0, 1) := by decide +kernel
theorem dX5_rideTicket_1 : decode cX5_rideTicket 1 = .ok (.iload_n 1, 1) := by decide +kernel
theorem dX5_rideTicket_2 : decode cX5_rideTicket 2 = .ok (.invokevirtual 106, 3) := by decide +kernel
theorem dX5_rideTicket_5 : decode cX5_rideTicket 5 = .ok (.aload_n 0, 1) := by decide +kernel
theorem dX5_rideTicket_6 : decode cX5_rideTicket 6 = .ok (.getfield 10, 3) := by decide +kernel
theorem dX5_rideTicket_9 : decode cX5_rideTicket 9 = .ok (.getfield 221, 3) := by decide +kernel
theorem dX5_rideTicket_12 : decode cX5_rideTicket 12 = .ok (.iload_n 1, 1) := by decide +kernel
theorem dX5_rideTicket_13 : decode cX5_rideTicket 13 = .ok (.aaload, 1) := by decide +kernel
theorem dX5_rideTicket_14 : decode cX5_rideTicket 14 = .ok (.getfield 236, 3) := by decide +kernel
theorem dX5_rideTicket_17 : decode cX5_rideTicket 17 = .ok (.ireturn, 1) := by decide +kernel
theorem dX5_faultNow_0 : decode cX5_faultNow 0 = .ok (.aload_n 0, 1) := by decide +kernel
theorem dX5_faultNow_1 : decode cX5_faultNow 1 = .ok (.iload_n 1, 1) := by decide +kernel
theorem dX5_faultNow_2 : decode cX5_faultNow 2 = .ok (.invokevirtual 106, 3) := by decide +kernel
theorem dX5_faultNow_5 : decode cX5_faultNow 5 = .ok (.aload_n 0, 1) := by decide +kernel
theorem dX5_faultNow_6 : decode cX5_faultNow 6 = .ok (.getfield 10, 3) := by decide +kernel
theorem dX5_faultNow_9 : decode cX5_faultNow 9 = .ok (.iload_n 1, 1) := by decide +kernel
theorem dX5_faultNow_10 : decode cX5_faultNow 10 = .ok (.invokevirtual 239, 3) := by decide +kernel
theorem dX5_faultNow_13 : decode cX5_faultNow 13 = .ok (.ireturn, 1) := by decide +kernel
theorem dX5_debt_0 : decode cX5_debt 0 = .ok (.aload_n 0, 1) := by decide +kernel
theorem dX5_debt_1 : decode cX5_debt 1 = .ok (.iload_n 1, 1) := by decide +kernel
theorem dX5_debt_2 : decode cX5_debt 2 = .ok (.invokevirtual 106, 3) := by decide +kernel
theorem dX5_debt_5 : decode cX5_debt 5 = .ok (.aload_n 0, 1) := by decide +kernel
theorem dX5_debt_6 : decode cX5_debt 6 = .ok (.getfield 10, 3) := by decide +kernel
theorem dX5_debt_9 : decode cX5_debt 9 = .ok (.iload_n 1, 1) := by decide +kernel
theorem dX5_debt_10 : decode cX5_debt 10 = .ok (.invokevirtual 242, 3) := by decide +kernel
theorem dX5_debt_13 : decode cX5_debt 13 = .ok (.ireturn, 1) := by decide +kernel
theorem dX5_unpaidCases_0 : decode cX5_unpaidCases 0 = .ok (.aload_n 0, 1) := by decide +kernel
theorem dX5_unpaidCases_1 : decode cX5_unpaidCases 1 = .ok (.iload_n 1, 1) := by decide +kernel
theorem dX5_unpaidCases_2 : decode cX5_unpaidCases 2 = .ok (.invokevirtual 106, 3) := by decide +kernel
theorem dX5_unpaidCases_5 : decode cX5_unpaidCases 5 = .ok (.aload_n 0, 1) := by decide +kernel
theorem dX5_unpaidCases_6 : decode cX5_unpaidCases 6 = .ok (.getfield 10, 3) := by decide +kernel
theorem dX5_unpaidCases_9 : decode cX5_unpaidCases 9 = .ok (.iload_n 1, 1) := by decide +kernel
theorem dX5_unpaidCases_10 : decode cX5_unpaidCases 10 = .ok (.invokevirtual 245, 3) := by decide +kernel
theorem dX5_unpaidCases_13 : decode cX5_unpaidCases 13 = .ok (.ireturn, 1) := by decide +kernel
theorem dX5_nameByte_0 : decode cX5_nameByte 0 = .ok (.aload_n 0, 1) := by decide +kernel
theorem dX5_nameByte_1 : decode cX5_nameByte 1 = .ok (.iload_n 1, 1) := by decide +kernel
theorem dX5_nameByte_2 : decode cX5_nameByte 2 = .ok (.invokevirtual 106, 3) := by decide +kernel
theorem dX5_nameByte_5 : decode cX5_nameByte 5 = .ok (.aload_n 0, 1) := by decide +kernel
theorem dX5_nameByte_6 : decode cX5_nameByte 6 = .ok (.getfield 10, 3) := by decide +kernel
theorem dX5_nameByte_9 : decode cX5_nameByte 9 = .ok (.getfield 221, 3) := by decide +kernel
theorem dX5_nameByte_12 : decode cX5_nameByte 12 = .ok (.iload_n 1, 1) := by decide +kernel
theorem dX5_nameByte_13 : decode cX5_nameByte 13 = .ok (.aaload, 1) := by decide +kernel
theorem dX5_nameByte_14 : decode cX5_nameByte 14 = .ok (.getfield 248, 3) := by decide +kernel
theorem dX5_nameByte_17 : decode cX5_nameByte 17 = .ok (.astore_n 3, 1) := by decide +kernel
theorem dX5_nameByte_18 : decode cX5_nameByte 18 = .ok (.iload_n 2, 1) := by decide +kernel
theorem dX5_nameByte_19 : decode cX5_nameByte 19 = .ok (.ifCond .lt 19, 3) := by decide +kernel
theorem dX5_nameByte_22 : decode cX5_nameByte 22 = .ok (.iload_n 2, 1) := by decide +kernel
theorem dX5_nameByte_23 : decode cX5_nameByte 23 = .ok (.aload_n 3, 1) := by decide +kernel
theorem dX5_nameByte_24 : decode cX5_nameByte 24 = .ok (.invokevirtual 252, 3) := by decide +kernel
theorem dX5_nameByte_27 : decode cX5_nameByte 27 = .ok (.if_icmp .ge 11, 3) := by decide +kernel
theorem dX5_nameByte_30 : decode cX5_nameByte 30 = .ok (.aload_n 3, 1) := by decide +kernel
theorem dX5_nameByte_31 : decode cX5_nameByte 31 = .ok (.iload_n 2, 1) := by decide +kernel
theorem dX5_nameByte_32 : decode cX5_nameByte 32 = .ok (.invokevirtual 256, 3) := by decide +kernel
theorem dX5_nameByte_35 : decode cX5_nameByte 35 = .ok (.goto 4, 3) := by decide +kernel
theorem dX5_nameByte_38 : decode cX5_nameByte 38 = .ok (.iconst (-1), 1) := by decide +kernel
theorem dX5_nameByte_39 : decode cX5_nameByte 39 = .ok (.ireturn, 1) := by decide +kernel
theorem dX5_cheapestKind_0 : decode cX5_cheapestKind 0 = .ok (.aload_n 0, 1) := by decide +kernel
theorem dX5_cheapestKind_1 : decode cX5_cheapestKind 1 = .ok (.iload_n 1, 1) := by decide +kernel
theorem dX5_cheapestKind_2 : decode cX5_cheapestKind 2 = .ok (.invokevirtual 129, 3) := by decide +kernel
theorem dX5_cheapestKind_5 : decode cX5_cheapestKind 5 = .ok (.aload_n 0, 1) := by decide +kernel
theorem dX5_cheapestKind_6 : decode cX5_cheapestKind 6 = .ok (.iload_n 2, 1) := by decide +kernel
theorem dX5_cheapestKind_7 : decode cX5_cheapestKind 7 = .ok (.invokevirtual 129, 3) := by decide +kernel
theorem dX5_cheapestKind_10 : decode cX5_cheapestKind 10 = .ok (.aload_n 0, 1) := by decide +kernel
theorem dX5_cheapestKind_11 : decode cX5_cheapestKind 11 = .ok (.getfield 10, 3) := by decide +kernel
theorem dX5_cheapestKind_14 : decode cX5_cheapestKind 14 = .ok (.iload_n 1, 1) := by decide +kernel
theorem dX5_cheapestKind_15 : decode cX5_cheapestKind 15 = .ok (.iload_n 2, 1) := by decide +kernel
theorem dX5_cheapestKind_16 : decode cX5_cheapestKind 16 = .ok (.invokevirtual 218, 3) := by decide +kernel
theorem dX5_cheapestKind_19 : decode cX5_cheapestKind 19 = .ok (.istore_n 3, 1) := by decide +kernel
theorem dX5_cheapestKind_20 : decode cX5_cheapestKind 20 = .ok (.iconst 0, 1) := by decide +kernel
theorem dX5_cheapestKind_21 : decode cX5_cheapestKind 21 = .ok (.istore 4, 2) := by decide +kernel
theorem dX5_cheapestKind_23 : decode cX5_cheapestKind 23 = .ok (.iconst 1, 1) := by decide +kernel
theorem dX5_cheapestKind_24 : decode cX5_cheapestKind 24 = .ok (.istore 5, 2) := by decide +kernel
theorem dX5_cheapestKind_26 : decode cX5_cheapestKind 26 = .ok (.iload 5, 2) := by decide +kernel
theorem dX5_cheapestKind_28 : decode cX5_cheapestKind 28 = .ok (.iconst 2, 1) := by decide +kernel
theorem dX5_cheapestKind_29 : decode cX5_cheapestKind 29 = .ok (.if_icmp .gt 56, 3) := by decide +kernel
theorem dX5_cheapestKind_32 : decode cX5_cheapestKind 32 = .ok (.iload 5, 2) := by decide +kernel
theorem dX5_cheapestKind_34 : decode cX5_cheapestKind 34 = .ok (.iconst 2, 1) := by decide +kernel
theorem dX5_cheapestKind_35 : decode cX5_cheapestKind 35 = .ok (.if_icmp .ne 13, 3) := by decide +kernel
theorem dX5_cheapestKind_38 : decode cX5_cheapestKind 38 = .ok (.iload_n 2, 1) := by decide +kernel
theorem dX5_cheapestKind_39 : decode cX5_cheapestKind 39 = .ok (.iload_n 1, 1) := by decide +kernel
theorem dX5_cheapestKind_40 : decode cX5_cheapestKind 40 = .ok (.isub, 1) := by decide +kernel
theorem dX5_cheapestKind_41 : decode cX5_cheapestKind 41 = .ok (.invokestatic 260, 3) := by decide +kernel
theorem dX5_cheapestKind_44 : decode cX5_cheapestKind 44 = .ok (.iconst 4, 1) := by decide +kernel
theorem dX5_cheapestKind_45 : decode cX5_cheapestKind 45 = .ok (.if_icmp .gt 7, 3) := by decide +kernel
theorem dX5_cheapestKind_48 : decode cX5_cheapestKind 48 = .ok (.iconst 1, 1) := by decide +kernel
theorem dX5_cheapestKind_49 : decode cX5_cheapestKind 49 = .ok (.goto 4, 3) := by decide +kernel
theorem dX5_cheapestKind_52 : decode cX5_cheapestKind 52 = .ok (.iconst 0, 1) := by decide +kernel
theorem dX5_cheapestKind_53 : decode cX5_cheapestKind 53 = .ok (.istore 6, 2) := by decide +kernel
theorem dX5_cheapestKind_55 : decode cX5_cheapestKind 55 = .ok (.iload 6, 2) := by decide +kernel
theorem dX5_cheapestKind_57 : decode cX5_cheapestKind 57 = .ok (.ifCond .eq 22, 3) := by decide +kernel
theorem dX5_cheapestKind_60 : decode cX5_cheapestKind 60 = .ok (.iload 5, 2) := by decide +kernel
theorem dX5_cheapestKind_62 : decode cX5_cheapestKind 62 = .ok (.iload_n 3, 1) := by decide +kernel
theorem dX5_cheapestKind_63 : decode cX5_cheapestKind 63 = .ok (.invokestatic 265, 3) := by decide +kernel
theorem dX5_cheapestKind_66 : decode cX5_cheapestKind 66 = .ok (.iload 4, 2) := by decide +kernel
theorem dX5_cheapestKind_68 : decode cX5_cheapestKind 68 = .ok (.iload_n 3, 1) := by decide +kernel
theorem dX5_cheapestKind_69 : decode cX5_cheapestKind 69 = .ok (.invokestatic 265, 3) := by decide +kernel
theorem dX5_cheapestKind_72 : decode cX5_cheapestKind 72 = .ok (.if_icmp .ge 7, 3) := by decide +kernel
theorem dX5_cheapestKind_75 : decode cX5_cheapestKind 75 = .ok (.iload 5, 2) := by decide +kernel
theorem dX5_cheapestKind_77 : decode cX5_cheapestKind 77 = .ok (.istore 4, 2) := by decide +kernel
theorem dX5_cheapestKind_79 : decode cX5_cheapestKind 79 = .ok (.iinc 5 1, 3) := by decide +kernel
theorem dX5_cheapestKind_82 : decode cX5_cheapestKind 82 = .ok (.goto (-56), 3) := by decide +kernel
theorem dX5_cheapestKind_85 : decode cX5_cheapestKind 85 = .ok (.iload 4, 2) := by decide +kernel
theorem dX5_cheapestKind_87 : decode cX5_cheapestKind 87 = .ok (.ireturn, 1) := by decide +kernel
theorem dX5_ticketHolder_0 : decode cX5_ticketHolder 0 = .ok (.aload_n 0, 1) := by decide +kernel
theorem dX5_ticketHolder_1 : decode cX5_ticketHolder 1 = .ok (.iload_n 1, 1) := by decide +kernel
theorem dX5_ticketHolder_2 : decode cX5_ticketHolder 2 = .ok (.invokevirtual 132, 3) := by decide +kernel
theorem dX5_ticketHolder_5 : decode cX5_ticketHolder 5 = .ok (.aload_n 0, 1) := by decide +kernel
theorem dX5_ticketHolder_6 : decode cX5_ticketHolder 6 = .ok (.getfield 10, 3) := by decide +kernel
theorem dX5_ticketHolder_9 : decode cX5_ticketHolder 9 = .ok (.getfield 268, 3) := by decide +kernel
theorem dX5_ticketHolder_12 : decode cX5_ticketHolder 12 = .ok (.iload_n 1, 1) := by decide +kernel
theorem dX5_ticketHolder_13 : decode cX5_ticketHolder 13 = .ok (.aaload, 1) := by decide +kernel
theorem dX5_ticketHolder_14 : decode cX5_ticketHolder 14 = .ok (.getfield 272, 3) := by decide +kernel
theorem dX5_ticketHolder_17 : decode cX5_ticketHolder 17 = .ok (.ireturn, 1) := by decide +kernel
theorem dX5_ticketKind_0 : decode cX5_ticketKind 0 = .ok (.aload_n 0, 1) := by decide +kernel
theorem dX5_ticketKind_1 : decode cX5_ticketKind 1 = .ok (.iload_n 1, 1) := by decide +kernel
theorem dX5_ticketKind_2 : decode cX5_ticketKind 2 = .ok (.invokevirtual 132, 3) := by decide +kernel
theorem dX5_ticketKind_5 : decode cX5_ticketKind 5 = .ok (.aload_n 0, 1) := by decide +kernel
theorem dX5_ticketKind_6 : decode cX5_ticketKind 6 = .ok (.getfield 10, 3) := by decide +kernel
theorem dX5_ticketKind_9 : decode cX5_ticketKind 9 = .ok (.getfield 268, 3) := by decide +kernel
theorem dX5_ticketKind_12 : decode cX5_ticketKind 12 = .ok (.iload_n 1, 1) := by decide +kernel
theorem dX5_ticketKind_13 : decode cX5_ticketKind 13 = .ok (.aaload, 1) := by decide +kernel
theorem dX5_ticketKind_14 : decode cX5_ticketKind 14 = .ok (.getfield 277, 3) := by decide +kernel
theorem dX5_ticketKind_17 : decode cX5_ticketKind 17 = .ok (.ireturn, 1) := by decide +kernel
theorem dX5_ticketZones_0 : decode cX5_ticketZones 0 = .ok (.aload_n 0, 1) := by decide +kernel
theorem dX5_ticketZones_1 : decode cX5_ticketZones 1 = .ok (.iload_n 1, 1) := by decide +kernel
theorem dX5_ticketZones_2 : decode cX5_ticketZones 2 = .ok (.invokevirtual 132, 3) := by decide +kernel
theorem dX5_ticketZones_5 : decode cX5_ticketZones 5 = .ok (.aload_n 0, 1) := by decide +kernel
theorem dX5_ticketZones_6 : decode cX5_ticketZones 6 = .ok (.getfield 10, 3) := by decide +kernel
theorem dX5_ticketZones_9 : decode cX5_ticketZones 9 = .ok (.getfield 268, 3) := by decide +kernel
theorem dX5_ticketZones_12 : decode cX5_ticketZones 12 = .ok (.iload_n 1, 1) := by decide +kernel
theorem dX5_ticketZones_13 : decode cX5_ticketZones 13 = .ok (.aaload, 1) := by decide +kernel
theorem dX5_ticketZones_14 : decode cX5_ticketZones 14 = .ok (.getfield 280, 3) := by decide +kernel
theorem dX5_ticketZones_17 : decode cX5_ticketZones 17 = .ok (.ireturn, 1) := by decide +kernel
theorem dX5_ticketPrice_0 : decode cX5_ticketPrice 0 = .ok (.aload_n 0, 1) := by decide +kernel
theorem dX5_ticketPrice_1 : decode cX5_ticketPrice 1 = .ok (.iload_n 1, 1) := by decide +kernel
theorem dX5_ticketPrice_2 : decode cX5_ticketPrice 2 = .ok (.invokevirtual 132, 3) := by decide +kernel
theorem dX5_ticketPrice_5 : decode cX5_ticketPrice 5 = .ok (.aload_n 0, 1) := by decide +kernel
theorem dX5_ticketPrice_6 : decode cX5_ticketPrice 6 = .ok (.getfield 10, 3) := by decide +kernel
theorem dX5_ticketPrice_9 : decode cX5_ticketPrice 9 = .ok (.getfield 268, 3) := by decide +kernel
theorem dX5_ticketPrice_12 : decode cX5_ticketPrice 12 = .ok (.iload_n 1, 1) := by decide +kernel
theorem dX5_ticketPrice_13 : decode cX5_ticketPrice 13 = .ok (.aaload, 1) := by decide +kernel
theorem dX5_ticketPrice_14 : decode cX5_ticketPrice 14 = .ok (.invokevirtual 282, 3) := by decide +kernel
theorem dX5_ticketPrice_17 : decode cX5_ticketPrice 17 = .ok (.ireturn, 1) := by decide +kernel
theorem dX5_stampTime_0 : decode cX5_stampTime 0 = .ok (.aload_n 0, 1) := by decide +kernel
theorem dX5_stampTime_1 : decode cX5_stampTime 1 = .ok (.iload_n 1, 1) := by decide +kernel
theorem dX5_stampTime_2 : decode cX5_stampTime 2 = .ok (.invokevirtual 132, 3) := by decide +kernel
theorem dX5_stampTime_5 : decode cX5_stampTime 5 = .ok (.aload_n 0, 1) := by decide +kernel
theorem dX5_stampTime_6 : decode cX5_stampTime 6 = .ok (.getfield 10, 3) := by decide +kernel
theorem dX5_stampTime_9 : decode cX5_stampTime 9 = .ok (.getfield 268, 3) := by decide +kernel
theorem dX5_stampTime_12 : decode cX5_stampTime 12 = .ok (.iload_n 1, 1) := by decide +kernel
theorem dX5_stampTime_13 : decode cX5_stampTime 13 = .ok (.aaload, 1) := by decide +kernel
theorem dX5_stampTime_14 : decode cX5_stampTime 14 = .ok (.getfield 285, 3) := by decide +kernel
theorem dX5_stampTime_17 : decode cX5_stampTime 17 = .ok (.ireturn, 1) := by decide +kernel
theorem dX5_stampStop_0 : decode cX5_stampStop 0 = .ok (.aload_n 0, 1) := by decide +kernel
theorem dX5_stampStop_1 : decode cX5_stampStop 1 = .ok (.iload_n 1, 1) := by decide +kernel
theorem dX5_stampStop_2 : decode cX5_stampStop 2 = .ok (.invokevirtual 132, 3) := by decide +kernel
theorem dX5_stampStop_5 : decode cX5_stampStop 5 = .ok (.aload_n 0, 1) := by decide +kernel
theorem dX5_stampStop_6 : decode cX5_stampStop 6 = .ok (.getfield 10, 3) := by decide +kernel
theorem dX5_stampStop_9 : decode cX5_stampStop 9 = .ok (.getfield 268, 3) := by decide +kernel
theorem dX5_stampStop_12 : decode cX5_stampStop 12 = .ok (.iload_n 1, 1) := by decide +kernel
theorem dX5_stampStop_13 : decode cX5_stampStop 13 = .ok (.aaload, 1) := by decide +kernel
theorem dX5_stampStop_14 : decode cX5_stampStop 14 = .ok (.getfield 288, 3) := by decide +kernel
theorem dX5_stampStop_17 : decode cX5_stampStop 17 = .ok (.ireturn, 1) := by decide +kernel
theorem dX5_ticketRides_0 : decode cX5_ticketRides 0 = .ok (.aload_n 0, 1) := by decide +kernel
theorem dX5_ticketRides_1 : decode cX5_ticketRides 1 = .ok (.iload_n 1, 1) := by decide +kernel
theorem dX5_ticketRides_2 : decode cX5_ticketRides 2 = .ok (.invokevirtual 132, 3) := by decide +kernel
theorem dX5_ticketRides_5 : decode cX5_ticketRides 5 = .ok (.aload_n 0, 1) := by decide +kernel
theorem dX5_ticketRides_6 : decode cX5_ticketRides 6 = .ok (.getfield 10, 3) := by decide +kernel
theorem dX5_ticketRides_9 : decode cX5_ticketRides 9 = .ok (.getfield 268, 3) := by decide +kernel
theorem dX5_ticketRides_12 : decode cX5_ticketRides 12 = .ok (.iload_n 1, 1) := by decide +kernel
theorem dX5_ticketRides_13 : decode cX5_ticketRides 13 = .ok (.aaload, 1) := by decide +kernel
theorem dX5_ticketRides_14 : decode cX5_ticketRides 14 = .ok (.getfield 291, 3) := by decide +kernel
theorem dX5_ticketRides_17 : decode cX5_ticketRides 17 = .ok (.ireturn, 1) := by decide +kernel
theorem dX5_isInTime_0 : decode cX5_isInTime 0 = .ok (.aload_n 0, 1) := by decide +kernel
theorem dX5_isInTime_1 : decode cX5_isInTime 1 = .ok (.iload_n 1, 1) := by decide +kernel
theorem dX5_isInTime_2 : decode cX5_isInTime 2 = .ok (.invokevirtual 132, 3) := by decide +kernel
theorem dX5_isInTime_5 : decode cX5_isInTime 5 = .ok (.aload_n 0, 1) := by decide +kernel
theorem dX5_isInTime_6 : decode cX5_isInTime 6 = .ok (.getfield 10, 3) := by decide +kernel
theorem dX5_isInTime_9 : decode cX5_isInTime 9 = .ok (.getfield 268, 3) := by decide +kernel
theorem dX5_isInTime_12 : decode cX5_isInTime 12 = .ok (.iload_n 1, 1) := by decide +kernel
theorem dX5_isInTime_13 : decode cX5_isInTime 13 = .ok (.aaload, 1) := by decide +kernel
theorem dX5_isInTime_14 : decode cX5_isInTime 14 = .ok (.aload_n 0, 1) := by decide +kernel
theorem dX5_isInTime_15 : decode cX5_isInTime 15 = .ok (.getfield 10, 3) := by decide +kernel
theorem dX5_isInTime_18 : decode cX5_isInTime 18 = .ok (.getfield 159, 3) := by decide +kernel
theorem dX5_isInTime_21 : decode cX5_isInTime 21 = .ok (.invokevirtual 294, 3) := by decide +kernel
theorem dX5_isInTime_24 : decode cX5_isInTime 24 = .ok (.ireturn, 1) := by decide +kernel
theorem dX5_casePassenger_0 : decode cX5_casePassenger 0 = .ok (.aload_n 0, 1) := by decide +kernel
theorem dX5_casePassenger_1 : decode cX5_casePassenger 1 = .ok (.iload_n 1, 1) := by decide +kernel
theorem dX5_casePassenger_2 : decode cX5_casePassenger 2 = .ok (.invokevirtual 164, 3) := by decide +kernel
theorem dX5_casePassenger_5 : decode cX5_casePassenger 5 = .ok (.aload_n 0, 1) := by decide +kernel
theorem dX5_casePassenger_6 : decode cX5_casePassenger 6 = .ok (.getfield 10, 3) := by decide +kernel
theorem dX5_casePassenger_9 : decode cX5_casePassenger 9 = .ok (.getfield 297, 3) := by decide +kernel
theorem dX5_casePassenger_12 : decode cX5_casePassenger 12 = .ok (.iload_n 1, 1) := by decide +kernel
theorem dX5_casePassenger_13 : decode cX5_casePassenger 13 = .ok (.aaload, 1) := by decide +kernel
theorem dX5_casePassenger_14 : decode cX5_casePassenger 14 = .ok (.getfield 301, 3) := by decide +kernel
theorem dX5_casePassenger_17 : decode cX5_casePassenger 17 = .ok (.ireturn, 1) := by decide +kernel
theorem dX5_caseFault_0 : decode cX5_caseFault 0 = .ok (.aload_n 0, 1) := by decide +kernel
theorem dX5_caseFault_1 : decode cX5_caseFault 1 = .ok (.iload_n 1, 1) := by decide +kernel
theorem dX5_caseFault_2 : decode cX5_caseFault 2 = .ok (.invokevirtual 164, 3) := by decide +kernel
theorem dX5_caseFault_5 : decode cX5_caseFault 5 = .ok (.aload_n 0, 1) := by decide +kernel
theorem dX5_caseFault_6 : decode cX5_caseFault 6 = .ok (.getfield 10, 3) := by decide +kernel
theorem dX5_caseFault_9 : decode cX5_caseFault 9 = .ok (.getfield 297, 3) := by decide +kernel
theorem dX5_caseFault_12 : decode cX5_caseFault 12 = .ok (.iload_n 1, 1) := by decide +kernel
theorem dX5_caseFault_13 : decode cX5_caseFault 13 = .ok (.aaload, 1) := by decide +kernel
theorem dX5_caseFault_14 : decode cX5_caseFault 14 = .ok (.getfield 306, 3) := by decide +kernel
theorem dX5_caseFault_17 : decode cX5_caseFault 17 = .ok (.ireturn, 1) := by decide +kernel
theorem dX5_caseState_0 : decode cX5_caseState 0 = .ok (.aload_n 0, 1) := by decide +kernel
theorem dX5_caseState_1 : decode cX5_caseState 1 = .ok (.iload_n 1, 1) := by decide +kernel
theorem dX5_caseState_2 : decode cX5_caseState 2 = .ok (.invokevirtual 164, 3) := by decide +kernel
theorem dX5_caseState_5 : decode cX5_caseState 5 = .ok (.aload_n 0, 1) := by decide +kernel
theorem dX5_caseState_6 : decode cX5_caseState 6 = .ok (.getfield 10, 3) := by decide +kernel
theorem dX5_caseState_9 : decode cX5_caseState 9 = .ok (.getfield 297, 3) := by decide +kernel
theorem dX5_caseState_12 : decode cX5_caseState 12 = .ok (.iload_n 1, 1) := by decide +kernel
theorem dX5_caseState_13 : decode cX5_caseState 13 = .ok (.aaload, 1) := by decide +kernel
theorem dX5_caseState_14 : decode cX5_caseState 14 = .ok (.getfield 309, 3) := by decide +kernel
theorem dX5_caseState_17 : decode cX5_caseState 17 = .ok (.ireturn, 1) := by decide +kernel
theorem dX5_caseTime_0 : decode cX5_caseTime 0 = .ok (.aload_n 0, 1) := by decide +kernel
theorem dX5_caseTime_1 : decode cX5_caseTime 1 = .ok (.iload_n 1, 1) := by decide +kernel
theorem dX5_caseTime_2 : decode cX5_caseTime 2 = .ok (.invokevirtual 164, 3) := by decide +kernel
theorem dX5_caseTime_5 : decode cX5_caseTime 5 = .ok (.aload_n 0, 1) := by decide +kernel
theorem dX5_caseTime_6 : decode cX5_caseTime 6 = .ok (.getfield 10, 3) := by decide +kernel
theorem dX5_caseTime_9 : decode cX5_caseTime 9 = .ok (.getfield 297, 3) := by decide +kernel
theorem dX5_caseTime_12 : decode cX5_caseTime 12 = .ok (.iload_n 1, 1) := by decide +kernel
theorem dX5_caseTime_13 : decode cX5_caseTime 13 = .ok (.aaload, 1) := by decide +kernel
theorem dX5_caseTime_14 : decode cX5_caseTime 14 = .ok (.getfield 312, 3) := by decide +kernel
theorem dX5_caseTime_17 : decode cX5_caseTime 17 = .ok (.ireturn, 1) := by decide +kernel
theorem dX5_amountDue_0 : decode cX5_amountDue 0 = .ok (.aload_n 0, 1) := by decide +kernel
theorem dX5_amountDue_1 : decode cX5_amountDue 1 = .ok (.iload_n 1, 1) := by decide +kernel
theorem dX5_amountDue_2 : decode cX5_amountDue 2 = .ok (.invokevirtual 164, 3) := by decide +kernel
theorem dX5_amountDue_5 : decode cX5_amountDue 5 = .ok (.aload_n 0, 1) := by decide +kernel
theorem dX5_amountDue_6 : decode cX5_amountDue 6 = .ok (.getfield 10, 3) := by decide +kernel
theorem dX5_amountDue_9 : decode cX5_amountDue 9 = .ok (.getfield 297, 3) := by decide +kernel
theorem dX5_amountDue_12 : decode cX5_amountDue 12 = .ok (.iload_n 1, 1) := by decide +kernel
theorem dX5_amountDue_13 : decode cX5_amountDue 13 = .ok (.aaload, 1) := by decide +kernel
theorem dX5_amountDue_14 : decode cX5_amountDue 14 = .ok (.aload_n 0, 1) := by decide +kernel
theorem dX5_amountDue_15 : decode cX5_amountDue 15 = .ok (.getfield 10, 3) := by decide +kernel
theorem dX5_amountDue_18 : decode cX5_amountDue 18 = .ok (.getfield 159, 3) := by decide +kernel
theorem dX5_amountDue_21 : decode cX5_amountDue 21 = .ok (.invokevirtual 315, 3) := by decide +kernel
theorem dX5_amountDue_24 : decode cX5_amountDue 24 = .ok (.ireturn, 1) := by decide +kernel
theorem dX5_caseTicket_0 : decode cX5_caseTicket 0 = .ok (.aload_n 0, 1) := by decide +kernel
theorem dX5_caseTicket_1 : decode cX5_caseTicket 1 = .ok (.iload_n 1, 1) := by decide +kernel
theorem dX5_caseTicket_2 : decode cX5_caseTicket 2 = .ok (.invokevirtual 164, 3) := by decide +kernel
theorem dX5_caseTicket_5 : decode cX5_caseTicket 5 = .ok (.aload_n 0, 1) := by decide +kernel
theorem dX5_caseTicket_6 : decode cX5_caseTicket 6 = .ok (.getfield 10, 3) := by decide +kernel
theorem dX5_caseTicket_9 : decode cX5_caseTicket 9 = .ok (.getfield 297, 3) := by decide +kernel
theorem dX5_caseTicket_12 : decode cX5_caseTicket 12 = .ok (.iload_n 1, 1) := by decide +kernel
theorem dX5_caseTicket_13 : decode cX5_caseTicket 13 = .ok (.aaload, 1) := by decide +kernel
theorem dX5_caseTicket_14 : decode cX5_caseTicket 14 = .ok (.getfield 318, 3) := by decide +kernel
theorem dX5_caseTicket_17 : decode cX5_caseTicket 17 = .ok (.ireturn, 1) := by decide +kernel
theorem dX5_isOverdue_0 : decode cX5_isOverdue 0 = .ok (.aload_n 0, 1) := by decide +kernel
theorem dX5_isOverdue_1 : decode cX5_isOverdue 1 = .ok (.iload_n 1, 1) := by decide +kernel
theorem dX5_isOverdue_2 : decode cX5_isOverdue 2 = .ok (.invokevirtual 164, 3) := by decide +kernel
theorem dX5_isOverdue_5 : decode cX5_isOverdue 5 = .ok (.aload_n 0, 1) := by decide +kernel
theorem dX5_isOverdue_6 : decode cX5_isOverdue 6 = .ok (.getfield 10, 3) := by decide +kernel
theorem dX5_isOverdue_9 : decode cX5_isOverdue 9 = .ok (.getfield 297, 3) := by decide +kernel
theorem dX5_isOverdue_12 : decode cX5_isOverdue 12 = .ok (.iload_n 1, 1) := by decide +kernel
theorem dX5_isOverdue_13 : decode cX5_isOverdue 13 = .ok (.aaload, 1) := by decide +kernel
theorem dX5_isOverdue_14 : decode cX5_isOverdue 14 = .ok (.aload_n 0, 1) := by decide +kernel
theorem dX5_isOverdue_15 : decode cX5_isOverdue 15 = .ok (.getfield 10, 3) := by decide +kernel
theorem dX5_isOverdue_18 : decode cX5_isOverdue 18 = .ok (.getfield 159, 3) := by decide +kernel
theorem dX5_isOverdue_21 : decode cX5_isOverdue 21 = .ok (.invokevirtual 321, 3) := by decide +kernel
theorem dX5_isOverdue_24 : decode cX5_isOverdue 24 = .ok (.ireturn, 1) := by decide +kernel
theorem dX5_outlook_0 : decode cX5_outlook 0 = .ok (.aload_n 0, 1) := by decide +kernel
theorem dX5_outlook_1 : decode cX5_outlook 1 = .ok (.iload_n 1, 1) := by decide +kernel
theorem dX5_outlook_2 : decode cX5_outlook 2 = .ok (.invokevirtual 164, 3) := by decide +kernel
theorem dX5_outlook_5 : decode cX5_outlook 5 = .ok (.aload_n 0, 1) := by decide +kernel
theorem dX5_outlook_6 : decode cX5_outlook 6 = .ok (.iload_n 2, 1) := by decide +kernel
theorem dX5_outlook_7 : decode cX5_outlook 7 = .ok (.invokevirtual 132, 3) := by decide +kernel
theorem dX5_outlook_10 : decode cX5_outlook 10 = .ok (.aload_n 0, 1) := by decide +kernel
theorem dX5_outlook_11 : decode cX5_outlook 11 = .ok (.getfield 10, 3) := by decide +kernel
theorem dX5_outlook_14 : decode cX5_outlook 14 = .ok (.iload_n 1, 1) := by decide +kernel
theorem dX5_outlook_15 : decode cX5_outlook 15 = .ok (.iload_n 2, 1) := by decide +kernel
theorem dX5_outlook_16 : decode cX5_outlook 16 = .ok (.invokevirtual 324, 3) := by decide +kernel
theorem dX5_outlook_19 : decode cX5_outlook 19 = .ok (.ireturn, 1) := by decide +kernel
theorem dX5_ticketSales_0 : decode cX5_ticketSales 0 = .ok (.aload_n 0, 1) := by decide +kernel
theorem dX5_ticketSales_1 : decode cX5_ticketSales 1 = .ok (.getfield 10, 3) := by decide +kernel
theorem dX5_ticketSales_4 : decode cX5_ticketSales 4 = .ok (.invokevirtual 327, 3) := by decide +kernel
theorem dX5_ticketSales_7 : decode cX5_ticketSales 7 = .ok (.ireturn, 1) := by decide +kernel
theorem dX5_finesPaid_0 : decode cX5_finesPaid 0 = .ok (.aload_n 0, 1) := by decide +kernel
theorem dX5_finesPaid_1 : decode cX5_finesPaid 1 = .ok (.getfield 10, 3) := by decide +kernel
theorem dX5_finesPaid_4 : decode cX5_finesPaid 4 = .ok (.getfield 330, 3) := by decide +kernel
theorem dX5_finesPaid_7 : decode cX5_finesPaid 7 = .ok (.ireturn, 1) := by decide +kernel
theorem dX5_inspections_0 : decode cX5_inspections 0 = .ok (.aload_n 0, 1) := by decide +kernel
theorem dX5_inspections_1 : decode cX5_inspections 1 = .ok (.getfield 10, 3) := by decide +kernel
theorem dX5_inspections_4 : decode cX5_inspections 4 = .ok (.getfield 333, 3) := by decide +kernel
theorem dX5_inspections_7 : decode cX5_inspections 7 = .ok (.ireturn, 1) := by decide +kernel
theorem dX5_inconsistencies_0 : decode cX5_inconsistencies 0 = .ok (.aload_n 0, 1) := by decide +kernel
theorem dX5_inconsistencies_1 : decode cX5_inconsistencies 1 = .ok (.getfield 10, 3) := by decide +kernel
theorem dX5_inconsistencies_4 : decode cX5_inconsistencies 4 = .ok (.getfield 336, 3) := by decide +kernel
theorem dX5_inconsistencies_7 : decode cX5_inconsistencies 7 = .ok (.aload_n 0, 1) := by decide +kernel
theorem dX5_inconsistencies_8 : decode cX5_inconsistencies 8 = .ok (.getfield 10, 3) := by decide +kernel
theorem dX5_inconsistencies_11 : decode cX5_inconsistencies 11 = .ok (.invokevirtual 327, 3) := by decide +kernel
theorem dX5_inconsistencies_14 : decode cX5_inconsistencies 14 = .ok (.isub, 1) := by decide +kernel
theorem dX5_inconsistencies_15 : decode cX5_inconsistencies 15 = .ok (.aload_n 0, 1) := by decide +kernel
theorem dX5_inconsistencies_16 : decode cX5_inconsistencies 16 = .ok (.getfield 10, 3) := by decide +kernel
theorem dX5_inconsistencies_19 : decode cX5_inconsistencies 19 = .ok (.getfield 330, 3) := by decide +kernel
theorem dX5_inconsistencies_22 : decode cX5_inconsistencies 22 = .ok (.isub, 1) := by decide +kernel
theorem dX5_inconsistencies_23 : decode cX5_inconsistencies 23 = .ok (.aload_n 0, 1) := by decide +kernel
theorem dX5_inconsistencies_24 : decode cX5_inconsistencies 24 = .ok (.getfield 10, 3) := by decide +kernel
theorem dX5_inconsistencies_27 : decode cX5_inconsistencies 27 = .ok (.invokevirtual 339, 3) := by decide +kernel
theorem dX5_inconsistencies_30 : decode cX5_inconsistencies 30 = .ok (.isub, 1) := by decide +kernel
theorem dX5_inconsistencies_31 : decode cX5_inconsistencies 31 = .ok (.istore_n 1, 1) := by decide +kernel
theorem dX5_inconsistencies_32 : decode cX5_inconsistencies 32 = .ok (.iload_n 1, 1) := by decide +kernel
theorem dX5_inconsistencies_33 : decode cX5_inconsistencies 33 = .ok (.invokestatic 260, 3) := by decide +kernel
theorem dX5_inconsistencies_36 : decode cX5_inconsistencies 36 = .ok (.aload_n 0, 1) := by decide +kernel
theorem dX5_inconsistencies_37 : decode cX5_inconsistencies 37 = .ok (.getfield 10, 3) := by decide +kernel
theorem dX5_inconsistencies_40 : decode cX5_inconsistencies 40 = .ok (.invokevirtual 342, 3) := by decide +kernel
theorem dX5_inconsistencies_43 : decode cX5_inconsistencies 43 = .ok (.iadd, 1) := by decide +kernel
theorem dX5_inconsistencies_44 : decode cX5_inconsistencies 44 = .ok (.ireturn, 1) := by decide +kernel
theorem dX5_faultShare_0 : decode cX5_faultShare 0 = .ok (.aload_n 0, 1) := by decide +kernel
theorem dX5_faultShare_1 : decode cX5_faultShare 1 = .ok (.getfield 10, 3) := by decide +kernel
theorem dX5_faultShare_4 : decode cX5_faultShare 4 = .ok (.getfield 333, 3) := by decide +kernel
theorem dX5_faultShare_7 : decode cX5_faultShare 7 = .ok (.ifCond .ne 5, 3) := by decide +kernel
theorem dX5_faultShare_10 : decode cX5_faultShare 10 = .ok (.dconst 0, 1) := by decide +kernel
theorem dX5_faultShare_11 : decode cX5_faultShare 11 = .ok (.dreturn, 1) := by decide +kernel
theorem dX5_faultShare_12 : decode cX5_faultShare 12 = .ok (.aload_n 0, 1) := by decide +kernel
theorem dX5_faultShare_13 : decode cX5_faultShare 13 = .ok (.getfield 10, 3) := by decide +kernel
theorem dX5_faultShare_16 : decode cX5_faultShare 16 = .ok (.getfield 211, 3) := by decide +kernel
theorem dX5_faultShare_19 : decode cX5_faultShare 19 = .ok (.i2d, 1) := by decide +kernel
theorem dX5_faultShare_20 : decode cX5_faultShare 20 = .ok (.aload_n 0, 1) := by decide +kernel
theorem dX5_faultShare_21 : decode cX5_faultShare 21 = .ok (.getfield 10, 3) := by decide +kernel
theorem dX5_faultShare_24 : decode cX5_faultShare 24 = .ok (.getfield 333, 3) := by decide +kernel
theorem dX5_faultShare_27 : decode cX5_faultShare 27 = .ok (.i2d, 1) := by decide +kernel
theorem dX5_faultShare_28 : decode cX5_faultShare 28 = .ok (.ddiv, 1) := by decide +kernel
theorem dX5_faultShare_29 : decode cX5_faultShare 29 = .ok (.dreturn, 1) := by decide +kernel
theorem dX5_meanPrice_0 : decode cX5_meanPrice 0 = .ok (.aload_n 0, 1) := by decide +kernel
theorem dX5_meanPrice_1 : decode cX5_meanPrice 1 = .ok (.getfield 10, 3) := by decide +kernel
theorem dX5_meanPrice_4 : decode cX5_meanPrice 4 = .ok (.getfield 208, 3) := by decide +kernel
theorem dX5_meanPrice_7 : decode cX5_meanPrice 7 = .ok (.ifCond .ne 5, 3) := by decide +kernel
theorem dX5_meanPrice_10 : decode cX5_meanPrice 10 = .ok (.fconst 0, 1) := by decide +kernel
theorem dX5_meanPrice_11 : decode cX5_meanPrice 11 = .ok (.freturn, 1) := by decide +kernel
theorem dX5_meanPrice_12 : decode cX5_meanPrice 12 = .ok (.aload_n 0, 1) := by decide +kernel
theorem dX5_meanPrice_13 : decode cX5_meanPrice 13 = .ok (.getfield 10, 3) := by decide +kernel
theorem dX5_meanPrice_16 : decode cX5_meanPrice 16 = .ok (.invokevirtual 327, 3) := by decide +kernel
theorem dX5_meanPrice_19 : decode cX5_meanPrice 19 = .ok (.i2f, 1) := by decide +kernel
theorem dX5_meanPrice_20 : decode cX5_meanPrice 20 = .ok (.aload_n 0, 1) := by decide +kernel
theorem dX5_meanPrice_21 : decode cX5_meanPrice 21 = .ok (.getfield 10, 3) := by decide +kernel
theorem dX5_meanPrice_24 : decode cX5_meanPrice 24 = .ok (.getfield 208, 3) := by decide +kernel
theorem dX5_meanPrice_27 : decode cX5_meanPrice 27 = .ok (.i2f, 1) := by decide +kernel
theorem dX5_meanPrice_28 : decode cX5_meanPrice 28 = .ok (.fdiv, 1) := by decide +kernel
theorem dX5_meanPrice_29 : decode cX5_meanPrice 29 = .ok (.freturn, 1) := by decide +kernel
theorem dJ5_setLength_d00df_0 : decode cJ5_setLength_d00df 0 = .ok (.iload_n 1, 1) := by decide +kernel
theorem dJ5_setLength_d00df_1 : decode cJ5_setLength_d00df 1 = .ok (.ifCond .ge 12, 3) := by decide +kernel
theorem dJ5_setLength_d00df_13 : decode cJ5_setLength_d00df 13 = .ok (.aload_n 0, 1) := by decide +kernel
theorem dJ5_setLength_d00df_14 : decode cJ5_setLength_d00df 14 = .ok (.iload_n 1, 1) := by decide +kernel
theorem dJ5_setLength_d00df_15 : decode cJ5_setLength_d00df 15 = .ok (.invokevirtual 100, 3) := by decide +kernel
theorem dJ5_setLength_d00df_18 : decode cJ5_setLength_d00df 18 = .ok (.aload_n 0, 1) := by decide +kernel
theorem dJ5_setLength_d00df_19 : decode cJ5_setLength_d00df 19 = .ok (.getfield 79, 3) := by decide +kernel
theorem dJ5_setLength_d00df_22 : decode cJ5_setLength_d00df 22 = .ok (.iload_n 1, 1) := by decide +kernel
theorem dJ5_setLength_d00df_23 : decode cJ5_setLength_d00df 23 = .ok (.if_icmp .ge 40, 3) := by decide +kernel
theorem dJ5_setLength_d00df_63 : decode cJ5_setLength_d00df 63 = .ok (.aload_n 0, 1) := by decide +kernel
theorem dJ5_setLength_d00df_64 : decode cJ5_setLength_d00df 64 = .ok (.getfield 79, 3) := by decide +kernel
theorem dJ5_setLength_d00df_67 : decode cJ5_setLength_d00df 67 = .ok (.iload_n 1, 1) := by decide +kernel
theorem dJ5_setLength_d00df_68 : decode cJ5_setLength_d00df 68 = .ok (.if_icmp .le 8, 3) := by decide +kernel
theorem dJ5_setLength_d00df_71 : decode cJ5_setLength_d00df 71 = .ok (.aload_n 0, 1) := by decide +kernel
theorem dJ5_setLength_d00df_72 : decode cJ5_setLength_d00df 72 = .ok (.iconst 1, 1) := by decide +kernel
theorem dJ5_setLength_d00df_73 : decode cJ5_setLength_d00df 73 = .ok (.putfield 73, 3) := by decide +kernel
theorem dJ5_setLength_d00df_76 : decode cJ5_setLength_d00df 76 = .ok (.aload_n 0, 1) := by decide +kernel
theorem dJ5_setLength_d00df_77 : decode cJ5_setLength_d00df 77 = .ok (.iload_n 1, 1) := by decide +kernel
theorem dJ5_setLength_d00df_78 : decode cJ5_setLength_d00df 78 = .ok (.putfield 79, 3) := by decide +kernel
theorem dJ5_setLength_d00df_81 : decode cJ5_setLength_d00df 81 = .ok (.return_, 1) := by decide +kernel
theorem dJ4_setLength_d00df_0 : decode cJ4_setLength_d00df 0 = .ok (.aload_n 0, 1) := by decide +kernel
theorem dJ4_setLength_d00df_1 : decode cJ4_setLength_d00df 1 = .ok (.iload_n 1, 1) := by decide +kernel
theorem dJ4_setLength_d00df_2 : decode cJ4_setLength_d00df 2 = .ok (.invokespecial 333, 3) := by decide +kernel
theorem dJ4_setLength_d00df_5 : decode cJ4_setLength_d00df 5 = .ok (.return_, 1) := by decide +kernel
theorem dJ5_inflateIfNeededFor_a7421_0 : decode cJ5_inflateIfNeededFor_a7421 0 = .ok (.getstatic 18, 3) := by decide +kernel
theorem dJ5_inflateIfNeededFor_a7421_3 : decode cJ5_inflateIfNeededFor_a7421 3 = .ok (.ifCond .eq 18, 3) := by decide +kernel
theorem dJ5_inflateIfNeededFor_a7421_6 : decode cJ5_inflateIfNeededFor_a7421 6 = .ok (.aload_n 0, 1) := by decide +kernel
theorem dJ5_inflateIfNeededFor_a7421_7 : decode cJ5_inflateIfNeededFor_a7421 7 = .ok (.getfield 22, 3) := by decide +kernel
theorem dJ5_inflateIfNeededFor_a7421_10 : decode cJ5_inflateIfNeededFor_a7421 10 = .ok (.aload_n 1, 1) := by decide +kernel
theorem dJ5_inflateIfNeededFor_a7421_11 : decode cJ5_inflateIfNeededFor_a7421 11 = .ok (.invokevirtual 40, 3) := by decide +kernel
theorem dJ5_inflateIfNeededFor_a7421_14 : decode cJ5_inflateIfNeededFor_a7421 14 = .ok (.if_icmp .eq 7, 3) := by decide +kernel
theorem dJ5_inflateIfNeededFor_a7421_21 : decode cJ5_inflateIfNeededFor_a7421 21 = .ok (.return_, 1) := by decide +kernel
theorem dJ0_getBytes_840e7_0 : decode cJ0_getBytes_840e7 0 = .ok (.aload_n 0, 1) := by decide +kernel
theorem dJ0_getBytes_840e7_1 : decode cJ0_getBytes_840e7 1 = .ok (.invokevirtual 335, 3) := by decide +kernel
theorem dJ0_getBytes_840e7_4 : decode cJ0_getBytes_840e7 4 = .ok (.iload_n 3, 1) := by decide +kernel
theorem dJ0_getBytes_840e7_5 : decode cJ0_getBytes_840e7 5 = .ok (.if_icmp .ne 23, 3) := by decide +kernel
theorem dJ0_getBytes_840e7_8 : decode cJ0_getBytes_840e7 8 = .ok (.aload_n 0, 1) := by decide +kernel
theorem dJ0_getBytes_840e7_9 : decode cJ0_getBytes_840e7 9 = .ok (.getfield 9, 3) := by decide +kernel
theorem dJ0_getBytes_840e7_12 : decode cJ0_getBytes_840e7 12 = .ok (.iconst 0, 1) := by decide +kernel
theorem dJ0_getBytes_840e7_13 : decode cJ0_getBytes_840e7 13 = .ok (.aload_n 1, 1) := by decide +kernel
theorem dJ0_getBytes_840e7_14 : decode cJ0_getBytes_840e7 14 = .ok (.iload_n 2, 1) := by decide +kernel
theorem dJ0_getBytes_840e7_15 : decode cJ0_getBytes_840e7 15 = .ok (.iload_n 3, 1) := by decide +kernel
theorem dJ0_getBytes_840e7_16 : decode cJ0_getBytes_840e7 16 = .ok (.ishl, 1) := by decide +kernel
theorem dJ0_getBytes_840e7_17 : decode cJ0_getBytes_840e7 17 = .ok (.aload_n 0, 1) := by decide +kernel
theorem dJ0_getBytes_840e7_18 : decode cJ0_getBytes_840e7 18 = .ok (.getfield 9, 3) := by decide +kernel
theorem dJ0_getBytes_840e7_21 : decode cJ0_getBytes_840e7 21 = .ok (.arraylength, 1) := by decide +kernel
theorem dJ0_getBytes_840e7_22 : decode cJ0_getBytes_840e7 22 = .ok (.invokestatic 212, 3) := by decide +kernel
theorem dJ0_getBytes_840e7_25 : decode cJ0_getBytes_840e7 25 = .ok (.goto 18, 3) := by decide +kernel
theorem dJ0_getBytes_840e7_43 : decode cJ0_getBytes_840e7 43 = .ok (.return_, 1) := by decide +kernel
theorem dJ5_putStringAt_47b60_0 : decode cJ5_putStringAt_47b60 0 = .ok (.aload_n 0, 1) := by decide +kernel
theorem dJ5_putStringAt_47b60_1 : decode cJ5_putStringAt_47b60 1 = .ok (.aload_n 2, 1) := by decide +kernel
theorem dJ5_putStringAt_47b60_2 : decode cJ5_putStringAt_47b60 2 = .ok (.invokevirtual 397, 3) := by decide +kernel
theorem dJ5_putStringAt_47b60_5 : decode cJ5_putStringAt_47b60 5 = .ok (.aload_n 2, 1) := by decide +kernel
theorem dJ5_putStringAt_47b60_6 : decode cJ5_putStringAt_47b60 6 = .ok (.aload_n 0, 1) := by decide +kernel
theorem dJ5_putStringAt_47b60_7 : decode cJ5_putStringAt_47b60 7 = .ok (.getfield 15, 3) := by decide +kernel
theorem dJ5_putStringAt_47b60_10 : decode cJ5_putStringAt_47b60 10 = .ok (.iload_n 1, 1) := by decide +kernel
theorem dJ5_putStringAt_47b60_11 : decode cJ5_putStringAt_47b60 11 = .ok (.aload_n 0, 1) := by decide +kernel
theorem dJ5_putStringAt_47b60_12 : decode cJ5_putStringAt_47b60 12 = .ok (.getfield 22, 3) := by decide +kernel
theorem dJ5_putStringAt_47b60_15 : decode cJ5_putStringAt_47b60 15 = .ok (.invokevirtual 399, 3) := by decide +kernel
theorem dJ5_putStringAt_47b60_18 : decode cJ5_putStringAt_47b60 18 = .ok (.return_, 1) := by decide +kernel
theorem dJ5_append_cf1ce_0 : decode cJ5_append_cf1ce 0 = .ok (.aload_n 1, 1) := by decide +kernel
theorem dJ5_append_cf1ce_1 : decode cJ5_append_cf1ce 1 = .ok (.ifnonnull 8, 3) := by decide +kernel
theorem dJ5_append_cf1ce_9 : decode cJ5_append_cf1ce 9 = .ok (.aload_n 1, 1) := by decide +kernel
theorem dJ5_append_cf1ce_10 : decode cJ5_append_cf1ce 10 = .ok (.invokevirtual 32, 3) := by decide +kernel
theorem dJ5_append_cf1ce_13 : decode cJ5_append_cf1ce 13 = .ok (.istore_n 2, 1) := by decide +kernel
theorem dJ5_append_cf1ce_14 : decode cJ5_append_cf1ce 14 = .ok (.aload_n 0, 1) := by decide +kernel
theorem dJ5_append_cf1ce_15 : decode cJ5_append_cf1ce 15 = .ok (.aload_n 0, 1) := by decide +kernel
theorem dJ5_append_cf1ce_16 : decode cJ5_append_cf1ce 16 = .ok (.getfield 79, 3) := by decide +kernel
theorem dJ5_append_cf1ce_19 : decode cJ5_append_cf1ce 19 = .ok (.iload_n 2, 1) := by decide +kernel
theorem dJ5_append_cf1ce_20 : decode cJ5_append_cf1ce 20 = .ok (.iadd, 1) := by decide +kernel
theorem dJ5_append_cf1ce_21 : decode cJ5_append_cf1ce 21 = .ok (.invokevirtual 100, 3) := by decide +kernel
theorem dJ5_append_cf1ce_24 : decode cJ5_append_cf1ce 24 = .ok (.aload_n 0, 1) := by decide +kernel
theorem dJ5_append_cf1ce_25 : decode cJ5_append_cf1ce 25 = .ok (.aload_n 0, 1) := by decide +kernel
theorem dJ5_append_cf1ce_26 : decode cJ5_append_cf1ce 26 = .ok (.getfield 79, 3) := by decide +kernel
theorem dJ5_append_cf1ce_29 : decode cJ5_append_cf1ce 29 = .ok (.aload_n 1, 1) := by decide +kernel
theorem dJ5_append_cf1ce_30 : decode cJ5_append_cf1ce 30 = .ok (.invokevirtual 208, 3) := by decide +kernel
theorem dJ5_append_cf1ce_33 : decode cJ5_append_cf1ce 33 = .ok (.aload_n 0, 1) := by decide +kernel
theorem dJ5_append_cf1ce_34 : decode cJ5_append_cf1ce 34 = .ok (.dup, 1) := by decide +kernel
theorem dJ5_append_cf1ce_35 : decode cJ5_append_cf1ce 35 = .ok (.getfield 79, 3) := by decide +kernel
theorem dJ5_append_cf1ce_38 : decode cJ5_append_cf1ce 38 = .ok (.iload_n 2, 1) := by decide +kernel
theorem dJ5_append_cf1ce_39 : decode cJ5_append_cf1ce 39 = .ok (.iadd, 1) := by decide +kernel
theorem dJ5_append_cf1ce_40 : decode cJ5_append_cf1ce 40 = .ok (.putfield 79, 3) := by decide +kernel
theorem dJ5_append_cf1ce_43 : decode cJ5_append_cf1ce 43 = .ok (.aload_n 0, 1) := by decide +kernel
theorem dJ5_append_cf1ce_44 : decode cJ5_append_cf1ce 44 = .ok (.areturn, 1) := by decide +kernel
theorem dJ4_append_15ec4_0 : decode cJ4_append_15ec4 0 = .ok (.aload_n 0, 1) := by decide +kernel
theorem dJ4_append_15ec4_1 : decode cJ4_append_15ec4 1 = .ok (.aload_n 1, 1) := by decide +kernel
theorem dJ4_append_15ec4_2 : decode cJ4_append_15ec4 2 = .ok (.invokespecial 29, 3) := by decide +kernel
theorem dJ4_append_15ec4_5 : decode cJ4_append_15ec4 5 = .ok (.pop, 1) := by decide +kernel
theorem dJ4_append_15ec4_6 : decode cJ4_append_15ec4 6 = .ok (.aload_n 0, 1) := by decide +kernel
theorem dJ4_append_15ec4_7 : decode cJ4_append_15ec4 7 = .ok (.areturn, 1) := by decide +kernel
theorem dJ6_stringSize_0f7a4_0 : decode cJ6_stringSize_0f7a4 0 = .ok (.iconst 1, 1) := by decide +kernel
theorem dJ6_stringSize_0f7a4_1 : decode cJ6_stringSize_0f7a4 1 = .ok (.istore_n 1, 1) := by decide +kernel
theorem dJ6_stringSize_0f7a4_2 : decode cJ6_stringSize_0f7a4 2 = .ok (.iload_n 0, 1) := by decide +kernel
theorem dJ6_stringSize_0f7a4_3 : decode cJ6_stringSize_0f7a4 3 = .ok (.ifCond .lt 8, 3) := by decide +kernel
theorem dJ6_stringSize_0f7a4_6 : decode cJ6_stringSize_0f7a4 6 = .ok (.iconst 0, 1) := by decide +kernel
theorem dJ6_stringSize_0f7a4_7 : decode cJ6_stringSize_0f7a4 7 = .ok (.istore_n 1, 1) := by decide +kernel
theorem dJ6_stringSize_0f7a4_8 : decode cJ6_stringSize_0f7a4 8 = .ok (.iload_n 0, 1) := by decide +kernel
theorem dJ6_stringSize_0f7a4_9 : decode cJ6_stringSize_0f7a4 9 = .ok (.ineg, 1) := by decide +kernel
theorem dJ6_stringSize_0f7a4_10 : decode cJ6_stringSize_0f7a4 10 = .ok (.istore_n 0, 1) := by decide +kernel
theorem dJ6_stringSize_0f7a4_11 : decode cJ6_stringSize_0f7a4 11 = .ok (.bipush (-10), 2) := by decide +kernel
theorem dJ6_stringSize_0f7a4_13 : decode cJ6_stringSize_0f7a4 13 = .ok (.istore_n 2, 1) := by decide +kernel
theorem dJ6_stringSize_0f7a4_14 : decode cJ6_stringSize_0f7a4 14 = .ok (.iconst 1, 1) := by decide +kernel
theorem dJ6_stringSize_0f7a4_15 : decode cJ6_stringSize_0f7a4 15 = .ok (.istore_n 3, 1) := by decide +kernel
theorem dJ6_stringSize_0f7a4_16 : decode cJ6_stringSize_0f7a4 16 = .ok (.iload_n 3, 1) := by decide +kernel
theorem dJ6_stringSize_0f7a4_17 : decode cJ6_stringSize_0f7a4 17 = .ok (.bipush 10, 2) := by decide +kernel
theorem dJ6_stringSize_0f7a4_19 : decode cJ6_stringSize_0f7a4 19 = .ok (.if_icmp .ge 23, 3) := by decide +kernel
theorem dJ6_stringSize_0f7a4_22 : decode cJ6_stringSize_0f7a4 22 = .ok (.iload_n 0, 1) := by decide +kernel
theorem dJ6_stringSize_0f7a4_23 : decode cJ6_stringSize_0f7a4 23 = .ok (.iload_n 2, 1) := by decide +kernel
theorem dJ6_stringSize_0f7a4_24 : decode cJ6_stringSize_0f7a4 24 = .ok (.if_icmp .le 7, 3) := by decide +kernel
theorem dJ6_stringSize_0f7a4_27 : decode cJ6_stringSize_0f7a4 27 = .ok (.iload_n 3, 1) := by decide +kernel
theorem dJ6_stringSize_0f7a4_28 : decode cJ6_stringSize_0f7a4 28 = .ok (.iload_n 1, 1) := by decide +kernel
theorem dJ6_stringSize_0f7a4_29 : decode cJ6_stringSize_0f7a4 29 = .ok (.iadd, 1) := by decide +kernel
theorem dJ6_stringSize_0f7a4_30 : decode cJ6_stringSize_0f7a4 30 = .ok (.ireturn, 1) := by decide +kernel
theorem dJ6_stringSize_0f7a4_31 : decode cJ6_stringSize_0f7a4 31 = .ok (.bipush 10, 2) := by decide +kernel
theorem dJ6_stringSize_0f7a4_33 : decode cJ6_stringSize_0f7a4 33 = .ok (.iload_n 2, 1) := by decide +kernel
theorem dJ6_stringSize_0f7a4_34 : decode cJ6_stringSize_0f7a4 34 = .ok (.imul, 1) := by decide +kernel
theorem dJ6_stringSize_0f7a4_35 : decode cJ6_stringSize_0f7a4 35 = .ok (.istore_n 2, 1) := by decide +kernel
theorem dJ6_stringSize_0f7a4_36 : decode cJ6_stringSize_0f7a4 36 = .ok (.iinc 3 1, 3) := by decide +kernel
theorem dJ6_stringSize_0f7a4_39 : decode cJ6_stringSize_0f7a4 39 = .ok (.goto (-23), 3) := by decide +kernel
theorem dJ6_stringSize_0f7a4_42 : decode cJ6_stringSize_0f7a4 42 = .ok (.bipush 10, 2) := by decide +kernel
theorem dJ6_stringSize_0f7a4_44 : decode cJ6_stringSize_0f7a4 44 = .ok (.iload_n 1, 1) := by decide +kernel
theorem dJ6_stringSize_0f7a4_45 : decode cJ6_stringSize_0f7a4 45 = .ok (.iadd, 1) := by decide +kernel
theorem dJ6_stringSize_0f7a4_46 : decode cJ6_stringSize_0f7a4 46 = .ok (.ireturn, 1) := by decide +kernel
theorem dJ6_getChars_ba4f3_0 : decode cJ6_getChars_ba4f3 0 = .ok (.iload_n 1, 1) := by decide +kernel
theorem dJ6_getChars_ba4f3_1 : decode cJ6_getChars_ba4f3 1 = .ok (.istore 5, 2) := by decide +kernel
theorem dJ6_getChars_ba4f3_3 : decode cJ6_getChars_ba4f3 3 = .ok (.iload_n 0, 1) := by decide +kernel
theorem dJ6_getChars_ba4f3_4 : decode cJ6_getChars_ba4f3 4 = .ok (.ifCond .ge 7, 3) := by decide +kernel
theorem dJ6_getChars_ba4f3_7 : decode cJ6_getChars_ba4f3 7 = .ok (.iconst 1, 1) := by decide +kernel
theorem dJ6_getChars_ba4f3_8 : decode cJ6_getChars_ba4f3 8 = .ok (.goto 4, 3) := by decide +kernel
theorem dJ6_getChars_ba4f3_11 : decode cJ6_getChars_ba4f3 11 = .ok (.iconst 0, 1) := by decide +kernel
theorem dJ6_getChars_ba4f3_12 : decode cJ6_getChars_ba4f3 12 = .ok (.istore 6, 2) := by decide +kernel
theorem dJ6_getChars_ba4f3_14 : decode cJ6_getChars_ba4f3 14 = .ok (.iload 6, 2) := by decide +kernel
theorem dJ6_getChars_ba4f3_16 : decode cJ6_getChars_ba4f3 16 = .ok (.ifCond .ne 6, 3) := by decide +kernel
theorem dJ6_getChars_ba4f3_19 : decode cJ6_getChars_ba4f3 19 = .ok (.iload_n 0, 1) := by decide +kernel
theorem dJ6_getChars_ba4f3_20 : decode cJ6_getChars_ba4f3 20 = .ok (.ineg, 1) := by decide +kernel
theorem dJ6_getChars_ba4f3_21 : decode cJ6_getChars_ba4f3 21 = .ok (.istore_n 0, 1) := by decide +kernel
theorem dJ6_getChars_ba4f3_22 : decode cJ6_getChars_ba4f3 22 = .ok (.iload_n 0, 1) := by decide +kernel
theorem dJ6_getChars_ba4f3_23 : decode cJ6_getChars_ba4f3 23 = .ok (.bipush (-100), 2) := by decide +kernel
theorem dJ6_getChars_ba4f3_25 : decode cJ6_getChars_ba4f3 25 = .ok (.if_icmp .gt 47, 3) := by decide +kernel
theorem dJ6_getChars_ba4f3_28 : decode cJ6_getChars_ba4f3 28 = .ok (.iload_n 0, 1) := by decide +kernel
theorem dJ6_getChars_ba4f3_29 : decode cJ6_getChars_ba4f3 29 = .ok (.bipush 100, 2) := by decide +kernel
theorem dJ6_getChars_ba4f3_31 : decode cJ6_getChars_ba4f3 31 = .ok (.idiv, 1) := by decide +kernel
theorem dJ6_getChars_ba4f3_32 : decode cJ6_getChars_ba4f3 32 = .ok (.istore_n 3, 1) := by decide +kernel
theorem dJ6_getChars_ba4f3_33 : decode cJ6_getChars_ba4f3 33 = .ok (.iload_n 3, 1) := by decide +kernel
theorem dJ6_getChars_ba4f3_34 : decode cJ6_getChars_ba4f3 34 = .ok (.bipush 100, 2) := by decide +kernel
theorem dJ6_getChars_ba4f3_36 : decode cJ6_getChars_ba4f3 36 = .ok (.imul, 1) := by decide +kernel
theorem dJ6_getChars_ba4f3_37 : decode cJ6_getChars_ba4f3 37 = .ok (.iload_n 0, 1) := by decide +kernel
theorem dJ6_getChars_ba4f3_38 : decode cJ6_getChars_ba4f3 38 = .ok (.isub, 1) := by decide +kernel
theorem dJ6_getChars_ba4f3_39 : decode cJ6_getChars_ba4f3 39 = .ok (.istore 4, 2) := by decide +kernel
theorem dJ6_getChars_ba4f3_41 : decode cJ6_getChars_ba4f3 41 = .ok (.iload_n 3, 1) := by decide +kernel
theorem dJ6_getChars_ba4f3_42 : decode cJ6_getChars_ba4f3 42 = .ok (.istore_n 0, 1) := by decide +kernel
theorem dJ6_getChars_ba4f3_43 : decode cJ6_getChars_ba4f3 43 = .ok (.aload_n 2, 1) := by decide +kernel
theorem dJ6_getChars_ba4f3_44 : decode cJ6_getChars_ba4f3 44 = .ok (.iinc 5 (-1), 3) := by decide +kernel
theorem dJ6_getChars_ba4f3_47 : decode cJ6_getChars_ba4f3 47 = .ok (.iload 5, 2) := by decide +kernel
theorem dJ6_getChars_ba4f3_49 : decode cJ6_getChars_ba4f3 49 = .ok (.getstatic 83, 3) := by decide +kernel
theorem dJ6_getChars_ba4f3_52 : decode cJ6_getChars_ba4f3 52 = .ok (.iload 4, 2) := by decide +kernel
theorem dJ6_getChars_ba4f3_54 : decode cJ6_getChars_ba4f3 54 = .ok (.baload, 1) := by decide +kernel
theorem dJ6_getChars_ba4f3_55 : decode cJ6_getChars_ba4f3 55 = .ok (.bastore, 1) := by decide +kernel
theorem dJ6_getChars_ba4f3_56 : decode cJ6_getChars_ba4f3 56 = .ok (.aload_n 2, 1) := by decide +kernel
theorem dJ6_getChars_ba4f3_57 : decode cJ6_getChars_ba4f3 57 = .ok (.iinc 5 (-1), 3) := by decide +kernel
theorem dJ6_getChars_ba4f3_60 : decode cJ6_getChars_ba4f3 60 = .ok (.iload 5, 2) := by decide +kernel
theorem dJ6_getChars_ba4f3_62 : decode cJ6_getChars_ba4f3 62 = .ok (.getstatic 87, 3) := by decide +kernel
theorem dJ6_getChars_ba4f3_65 : decode cJ6_getChars_ba4f3 65 = .ok (.iload 4, 2) := by decide +kernel
theorem dJ6_getChars_ba4f3_67 : decode cJ6_getChars_ba4f3 67 = .ok (.baload, 1) := by decide +kernel
theorem dJ6_getChars_ba4f3_68 : decode cJ6_getChars_ba4f3 68 = .ok (.bastore, 1) := by decide +kernel
theorem dJ6_getChars_ba4f3_69 : decode cJ6_getChars_ba4f3 69 = .ok (.goto (-47), 3) := by decide +kernel
theorem dJ6_getChars_ba4f3_72 : decode cJ6_getChars_ba4f3 72 = .ok (.aload_n 2, 1) := by decide +kernel
theorem dJ6_getChars_ba4f3_73 : decode cJ6_getChars_ba4f3 73 = .ok (.iinc 5 (-1), 3) := by decide +kernel
theorem dJ6_getChars_ba4f3_76 : decode cJ6_getChars_ba4f3 76 = .ok (.iload 5, 2) := by decide +kernel
theorem dJ6_getChars_ba4f3_78 : decode cJ6_getChars_ba4f3 78 = .ok (.getstatic 83, 3) := by decide +kernel
theorem dJ6_getChars_ba4f3_81 : decode cJ6_getChars_ba4f3 81 = .ok (.iload_n 0, 1) := by decide +kernel
theorem dJ6_getChars_ba4f3_82 : decode cJ6_getChars_ba4f3 82 = .ok (.ineg, 1) := by decide +kernel
theorem dJ6_getChars_ba4f3_83 : decode cJ6_getChars_ba4f3 83 = .ok (.baload, 1) := by decide +kernel
theorem dJ6_getChars_ba4f3_84 : decode cJ6_getChars_ba4f3 84 = .ok (.bastore, 1) := by decide +kernel
theorem dJ6_getChars_ba4f3_85 : decode cJ6_getChars_ba4f3 85 = .ok (.iload_n 0, 1) := by decide +kernel
theorem dJ6_getChars_ba4f3_86 : decode cJ6_getChars_ba4f3 86 = .ok (.bipush (-9), 2) := by decide +kernel
theorem dJ6_getChars_ba4f3_88 : decode cJ6_getChars_ba4f3 88 = .ok (.if_icmp .ge 16, 3) := by decide +kernel
theorem dJ6_getChars_ba4f3_91 : decode cJ6_getChars_ba4f3 91 = .ok (.aload_n 2, 1) := by decide +kernel
theorem dJ6_getChars_ba4f3_92 : decode cJ6_getChars_ba4f3 92 = .ok (.iinc 5 (-1), 3) := by decide +kernel
theorem dJ6_getChars_ba4f3_95 : decode cJ6_getChars_ba4f3 95 = .ok (.iload 5, 2) := by decide +kernel
theorem dJ6_getChars_ba4f3_97 : decode cJ6_getChars_ba4f3 97 = .ok (.getstatic 87, 3) := by decide +kernel
theorem dJ6_getChars_ba4f3_100 : decode cJ6_getChars_ba4f3 100 = .ok (.iload_n 0, 1) := by decide +kernel
theorem dJ6_getChars_ba4f3_101 : decode cJ6_getChars_ba4f3 101 = .ok (.ineg, 1) := by decide +kernel
theorem dJ6_getChars_ba4f3_102 : decode cJ6_getChars_ba4f3 102 = .ok (.baload, 1) := by decide +kernel
theorem dJ6_getChars_ba4f3_103 : decode cJ6_getChars_ba4f3 103 = .ok (.bastore, 1) := by decide +kernel
theorem dJ6_getChars_ba4f3_104 : decode cJ6_getChars_ba4f3 104 = .ok (.iload 6, 2) := by decide +kernel
theorem dJ6_getChars_ba4f3_106 : decode cJ6_getChars_ba4f3 106 = .ok (.ifCond .eq 12, 3) := by decide +kernel
theorem dJ6_getChars_ba4f3_109 : decode cJ6_getChars_ba4f3 109 = .ok (.aload_n 2, 1) := by decide +kernel
theorem dJ6_getChars_ba4f3_110 : decode cJ6_getChars_ba4f3 110 = .ok (.iinc 5 (-1), 3) := by decide +kernel
theorem dJ6_getChars_ba4f3_113 : decode cJ6_getChars_ba4f3 113 = .ok (.iload 5, 2) := by decide +kernel
theorem dJ6_getChars_ba4f3_115 : decode cJ6_getChars_ba4f3 115 = .ok (.bipush 45, 2) := by decide +kernel
theorem dJ6_getChars_ba4f3_117 : decode cJ6_getChars_ba4f3 117 = .ok (.bastore, 1) := by decide +kernel
theorem dJ6_getChars_ba4f3_118 : decode cJ6_getChars_ba4f3 118 = .ok (.iload 5, 2) := by decide +kernel
theorem dJ6_getChars_ba4f3_120 : decode cJ6_getChars_ba4f3 120 = .ok (.ireturn, 1) := by decide +kernel
theorem dJ5_append_c97b9_0 : decode cJ5_append_c97b9 0 = .ok (.aload_n 0, 1) := by decide +kernel
theorem dJ5_append_c97b9_1 : decode cJ5_append_c97b9 1 = .ok (.getfield 79, 3) := by decide +kernel
theorem dJ5_append_c97b9_4 : decode cJ5_append_c97b9 4 = .ok (.istore_n 2, 1) := by decide +kernel
theorem dJ5_append_c97b9_5 : decode cJ5_append_c97b9 5 = .ok (.iload_n 2, 1) := by decide +kernel
theorem dJ5_append_c97b9_6 : decode cJ5_append_c97b9 6 = .ok (.iload_n 1, 1) := by decide +kernel
theorem dJ5_append_c97b9_7 : decode cJ5_append_c97b9 7 = .ok (.invokestatic 245, 3) := by decide +kernel
theorem dJ5_append_c97b9_10 : decode cJ5_append_c97b9 10 = .ok (.iadd, 1) := by decide +kernel
theorem dJ5_append_c97b9_11 : decode cJ5_append_c97b9 11 = .ok (.istore_n 3, 1) := by decide +kernel
theorem dJ5_append_c97b9_12 : decode cJ5_append_c97b9 12 = .ok (.aload_n 0, 1) := by decide +kernel
theorem dJ5_append_c97b9_13 : decode cJ5_append_c97b9 13 = .ok (.iload_n 3, 1) := by decide +kernel
theorem dJ5_append_c97b9_14 : decode cJ5_append_c97b9 14 = .ok (.invokevirtual 100, 3) := by decide +kernel
theorem dJ5_append_c97b9_17 : decode cJ5_append_c97b9 17 = .ok (.aload_n 0, 1) := by decide +kernel
theorem dJ5_append_c97b9_18 : decode cJ5_append_c97b9 18 = .ok (.invokevirtual 83, 3) := by decide +kernel
theorem dJ5_append_c97b9_21 : decode cJ5_append_c97b9 21 = .ok (.ifCond .eq 16, 3) := by decide +kernel
theorem dJ5_append_c97b9_24 : decode cJ5_append_c97b9 24 = .ok (.iload_n 1, 1) := by decide +kernel
theorem dJ5_append_c97b9_25 : decode cJ5_append_c97b9 25 = .ok (.iload_n 3, 1) := by decide +kernel
theorem dJ5_append_c97b9_26 : decode cJ5_append_c97b9 26 = .ok (.aload_n 0, 1) := by decide +kernel
theorem dJ5_append_c97b9_27 : decode cJ5_append_c97b9 27 = .ok (.getfield 15, 3) := by decide +kernel
theorem dJ5_append_c97b9_30 : decode cJ5_append_c97b9 30 = .ok (.invokestatic 248, 3) := by decide +kernel
theorem dJ5_append_c97b9_33 : decode cJ5_append_c97b9 33 = .ok (.pop, 1) := by decide +kernel
theorem dJ5_append_c97b9_34 : decode cJ5_append_c97b9 34 = .ok (.goto 14, 3) := by decide +kernel
theorem dJ5_append_c97b9_48 : decode cJ5_append_c97b9 48 = .ok (.aload_n 0, 1) := by decide +kernel
theorem dJ5_append_c97b9_49 : decode cJ5_append_c97b9 49 = .ok (.iload_n 3, 1) := by decide +kernel
theorem dJ5_append_c97b9_50 : decode cJ5_append_c97b9 50 = .ok (.putfield 79, 3) := by decide +kernel
theorem dJ5_append_c97b9_53 : decode cJ5_append_c97b9 53 = .ok (.aload_n 0, 1) := by decide +kernel
theorem dJ5_append_c97b9_54 : decode cJ5_append_c97b9 54 = .ok (.areturn, 1) := by decide +kernel
theorem dJ4_append_bf812_0 : decode cJ4_append_bf812 0 = .ok (.aload_n 0, 1) := by decide +kernel
theorem dJ4_append_bf812_1 : decode cJ4_append_bf812 1 = .ok (.iload_n 1, 1) := by decide +kernel
theorem dJ4_append_bf812_2 : decode cJ4_append_bf812 2 = .ok (.invokespecial 53, 3) := by decide +kernel
theorem dJ4_append_bf812_5 : decode cJ4_append_bf812 5 = .ok (.pop, 1) := by decide +kernel
theorem dJ4_append_bf812_6 : decode cJ4_append_bf812 6 = .ok (.aload_n 0, 1) := by decide +kernel
theorem dJ4_append_bf812_7 : decode cJ4_append_bf812 7 = .ok (.areturn, 1) := by decide +kernel
theorem dX5_writeCase_0 : decode cX5_writeCase 0 = .ok (.aload_n 0, 1) := by decide +kernel
theorem dX5_writeCase_1 : decode cX5_writeCase 1 = .ok (.getfield 42, 3) := by decide +kernel
theorem dX5_writeCase_4 : decode cX5_writeCase 4 = .ok (.invokevirtual 352, 3) := by decide +kernel
theorem dX5_writeCase_7 : decode cX5_writeCase 7 = .ok (.ifCond .le 13, 3) := by decide +kernel
theorem dX5_writeCase_10 : decode cX5_writeCase 10 = .ok (.aload_n 0, 1) := by decide +kernel
theorem dX5_writeCase_11 : decode cX5_writeCase 11 = .ok (.getfield 42, 3) := by decide +kernel
theorem dX5_writeCase_14 : decode cX5_writeCase 14 = .ok (.bipush 32, 2) := by decide +kernel
theorem dX5_writeCase_16 : decode cX5_writeCase 16 = .ok (.invokevirtual 354, 3) := by decide +kernel
theorem dX5_writeCase_19 : decode cX5_writeCase 19 = .ok (.pop, 1) := by decide +kernel
theorem dX5_writeCase_20 : decode cX5_writeCase 20 = .ok (.aload_n 0, 1) := by decide +kernel
theorem dX5_writeCase_21 : decode cX5_writeCase 21 = .ok (.getfield 42, 3) := by decide +kernel
theorem dX5_writeCase_24 : decode cX5_writeCase 24 = .ok (.aload_n 0, 1) := by decide +kernel
theorem dX5_writeCase_25 : decode cX5_writeCase 25 = .ok (.getfield 10, 3) := by decide +kernel
theorem dX5_writeCase_28 : decode cX5_writeCase 28 = .ok (.getfield 221, 3) := by decide +kernel
theorem dX5_writeCase_31 : decode cX5_writeCase 31 = .ok (.aload_n 1, 1) := by decide +kernel
theorem dX5_writeCase_32 : decode cX5_writeCase 32 = .ok (.getfield 301, 3) := by decide +kernel
theorem dX5_writeCase_35 : decode cX5_writeCase 35 = .ok (.aaload, 1) := by decide +kernel
theorem dX5_writeCase_36 : decode cX5_writeCase 36 = .ok (.getfield 248, 3) := by decide +kernel
theorem dX5_writeCase_39 : decode cX5_writeCase 39 = .ok (.invokevirtual 358, 3) := by decide +kernel
theorem dX5_writeCase_42 : decode cX5_writeCase 42 = .ok (.pop, 1) := by decide +kernel
theorem dX5_writeCase_43 : decode cX5_writeCase 43 = .ok (.aload_n 0, 1) := by decide +kernel
theorem dX5_writeCase_44 : decode cX5_writeCase 44 = .ok (.getfield 42, 3) := by decide +kernel
theorem dX5_writeCase_47 : decode cX5_writeCase 47 = .ok (.bipush 58, 2) := by decide +kernel
theorem dX5_writeCase_49 : decode cX5_writeCase 49 = .ok (.invokevirtual 354, 3) := by decide +kernel
theorem dX5_writeCase_52 : decode cX5_writeCase 52 = .ok (.pop, 1) := by decide +kernel
theorem dX5_writeCase_53 : decode cX5_writeCase 53 = .ok (.aload_n 0, 1) := by decide +kernel
theorem dX5_writeCase_54 : decode cX5_writeCase 54 = .ok (.getfield 42, 3) := by decide +kernel
theorem dX5_writeCase_57 : decode cX5_writeCase 57 = .ok (.aload_n 1, 1) := by decide +kernel
theorem dX5_writeCase_58 : decode cX5_writeCase 58 = .ok (.aload_n 0, 1) := by decide +kernel
theorem dX5_writeCase_59 : decode cX5_writeCase 59 = .ok (.getfield 10, 3) := by decide +kernel
theorem dX5_writeCase_62 : decode cX5_writeCase 62 = .ok (.getfield 159, 3) := by decide +kernel
theorem dX5_writeCase_65 : decode cX5_writeCase 65 = .ok (.invokevirtual 315, 3) := by decide +kernel
theorem dX5_writeCase_68 : decode cX5_writeCase 68 = .ok (.invokevirtual 361, 3) := by decide +kernel
theorem dX5_writeCase_71 : decode cX5_writeCase 71 = .ok (.pop, 1) := by decide +kernel
theorem dX5_writeCase_72 : decode cX5_writeCase 72 = .ok (.aload_n 1, 1) := by decide +kernel
theorem dX5_writeCase_73 : decode cX5_writeCase 73 = .ok (.aload_n 0, 1) := by decide +kernel
theorem dX5_writeCase_74 : decode cX5_writeCase 74 = .ok (.getfield 10, 3) := by decide +kernel
theorem dX5_writeCase_77 : decode cX5_writeCase 77 = .ok (.getfield 159, 3) := by decide +kernel
theorem dX5_writeCase_80 : decode cX5_writeCase 80 = .ok (.invokevirtual 321, 3) := by decide +kernel
theorem dX5_writeCase_83 : decode cX5_writeCase 83 = .ok (.ifCond .eq 13, 3) := by decide +kernel
theorem dX5_writeCase_86 : decode cX5_writeCase 86 = .ok (.aload_n 0, 1) := by decide +kernel
theorem dX5_writeCase_87 : decode cX5_writeCase 87 = .ok (.getfield 42, 3) := by decide +kernel
theorem dX5_writeCase_90 : decode cX5_writeCase 90 = .ok (.bipush 33, 2) := by decide +kernel
theorem dX5_writeCase_92 : decode cX5_writeCase 92 = .ok (.invokevirtual 354, 3) := by decide +kernel
theorem dX5_writeCase_95 : decode cX5_writeCase 95 = .ok (.pop, 1) := by decide +kernel
theorem dX5_writeCase_96 : decode cX5_writeCase 96 = .ok (.return_, 1) := by decide +kernel
theorem dX5_writeCases_0 : decode cX5_writeCases 0 = .ok (.aload_n 0, 1) := by decide +kernel
theorem dX5_writeCases_1 : decode cX5_writeCases 1 = .ok (.getfield 42, 3) := by decide +kernel
theorem dX5_writeCases_4 : decode cX5_writeCases 4 = .ok (.iconst 0, 1) := by decide +kernel
theorem dX5_writeCases_5 : decode cX5_writeCases 5 = .ok (.invokevirtual 345, 3) := by decide +kernel
theorem dX5_writeCases_8 : decode cX5_writeCases 8 = .ok (.iconst 0, 1) := by decide +kernel
theorem dX5_writeCases_9 : decode cX5_writeCases 9 = .ok (.istore_n 1, 1) := by decide +kernel
theorem dX5_writeCases_10 : decode cX5_writeCases 10 = .ok (.iload_n 1, 1) := by decide +kernel
theorem dX5_writeCases_11 : decode cX5_writeCases 11 = .ok (.aload_n 0, 1) := by decide +kernel
theorem dX5_writeCases_12 : decode cX5_writeCases 12 = .ok (.getfield 10, 3) := by decide +kernel
theorem dX5_writeCases_15 : decode cX5_writeCases 15 = .ok (.getfield 211, 3) := by decide +kernel
theorem dX5_writeCases_18 : decode cX5_writeCases 18 = .ok (.if_icmp .ge 38, 3) := by decide +kernel
theorem dX5_writeCases_21 : decode cX5_writeCases 21 = .ok (.aload_n 0, 1) := by decide +kernel
theorem dX5_writeCases_22 : decode cX5_writeCases 22 = .ok (.getfield 10, 3) := by decide +kernel
theorem dX5_writeCases_25 : decode cX5_writeCases 25 = .ok (.getfield 297, 3) := by decide +kernel
theorem dX5_writeCases_28 : decode cX5_writeCases 28 = .ok (.iload_n 1, 1) := by decide +kernel
theorem dX5_writeCases_29 : decode cX5_writeCases 29 = .ok (.aaload, 1) := by decide +kernel
theorem dX5_writeCases_30 : decode cX5_writeCases 30 = .ok (.getfield 309, 3) := by decide +kernel
theorem dX5_writeCases_33 : decode cX5_writeCases 33 = .ok (.iconst 4, 1) := by decide +kernel
theorem dX5_writeCases_34 : decode cX5_writeCases 34 = .ok (.if_icmp .eq 16, 3) := by decide +kernel
theorem dX5_writeCases_37 : decode cX5_writeCases 37 = .ok (.aload_n 0, 1) := by decide +kernel
theorem dX5_writeCases_38 : decode cX5_writeCases 38 = .ok (.aload_n 0, 1) := by decide +kernel
theorem dX5_writeCases_39 : decode cX5_writeCases 39 = .ok (.getfield 10, 3) := by decide +kernel
theorem dX5_writeCases_42 : decode cX5_writeCases 42 = .ok (.getfield 297, 3) := by decide +kernel
theorem dX5_writeCases_45 : decode cX5_writeCases 45 = .ok (.iload_n 1, 1) := by decide +kernel
theorem dX5_writeCases_46 : decode cX5_writeCases 46 = .ok (.aaload, 1) := by decide +kernel
theorem dX5_writeCases_47 : decode cX5_writeCases 47 = .ok (.invokevirtual 348, 3) := by decide +kernel
theorem dX5_writeCases_50 : decode cX5_writeCases 50 = .ok (.iinc 1 1, 3) := by decide +kernel
theorem dX5_writeCases_53 : decode cX5_writeCases 53 = .ok (.goto (-43), 3) := by decide +kernel
theorem dX5_writeCases_56 : decode cX5_writeCases 56 = .ok (.aload_n 0, 1) := by decide +kernel
theorem dX5_writeCases_57 : decode cX5_writeCases 57 = .ok (.getfield 42, 3) := by decide +kernel
theorem dX5_writeCases_60 : decode cX5_writeCases 60 = .ok (.invokevirtual 352, 3) := by decide +kernel
theorem dX5_writeCases_63 : decode cX5_writeCases 63 = .ok (.ireturn, 1) := by decide +kernel
theorem dJ5_charAt_5068e_0 : decode cJ5_charAt_5068e 0 = .ok (.aload_n 0, 1) := by decide +kernel
theorem dJ5_charAt_5068e_1 : decode cJ5_charAt_5068e 1 = .ok (.getfield 22, 3) := by decide +kernel
theorem dJ5_charAt_5068e_4 : decode cJ5_charAt_5068e 4 = .ok (.istore_n 2, 1) := by decide +kernel
theorem dJ5_charAt_5068e_5 : decode cJ5_charAt_5068e 5 = .ok (.aload_n 0, 1) := by decide +kernel
theorem dJ5_charAt_5068e_6 : decode cJ5_charAt_5068e 6 = .ok (.getfield 15, 3) := by decide +kernel
theorem dJ5_charAt_5068e_9 : decode cJ5_charAt_5068e 9 = .ok (.astore_n 3, 1) := by decide +kernel
theorem dJ5_charAt_5068e_10 : decode cJ5_charAt_5068e 10 = .ok (.aload_n 0, 1) := by decide +kernel
theorem dJ5_charAt_5068e_11 : decode cJ5_charAt_5068e 11 = .ok (.getfield 79, 3) := by decide +kernel
theorem dJ5_charAt_5068e_14 : decode cJ5_charAt_5068e 14 = .ok (.aload_n 3, 1) := by decide +kernel
theorem dJ5_charAt_5068e_15 : decode cJ5_charAt_5068e 15 = .ok (.arraylength, 1) := by decide +kernel
theorem dJ5_charAt_5068e_16 : decode cJ5_charAt_5068e 16 = .ok (.iload_n 2, 1) := by decide +kernel
theorem dJ5_charAt_5068e_17 : decode cJ5_charAt_5068e 17 = .ok (.ishr, 1) := by decide +kernel
theorem dJ5_charAt_5068e_18 : decode cJ5_charAt_5068e 18 = .ok (.invokestatic 138, 3) := by decide +kernel
theorem dJ5_charAt_5068e_21 : decode cJ5_charAt_5068e 21 = .ok (.istore 4, 2) := by decide +kernel
theorem dJ5_charAt_5068e_23 : decode cJ5_charAt_5068e 23 = .ok (.iload_n 1, 1) := by decide +kernel
theorem dJ5_charAt_5068e_24 : decode cJ5_charAt_5068e 24 = .ok (.iload 4, 2) := by decide +kernel
theorem dJ5_charAt_5068e_26 : decode cJ5_charAt_5068e 26 = .ok (.invokestatic 144, 3) := by decide +kernel
theorem dJ5_charAt_5068e_29 : decode cJ5_charAt_5068e 29 = .ok (.iload_n 2, 1) := by decide +kernel
theorem dJ5_charAt_5068e_30 : decode cJ5_charAt_5068e 30 = .ok (.ifCond .ne 12, 3) := by decide +kernel
theorem dJ5_charAt_5068e_33 : decode cJ5_charAt_5068e 33 = .ok (.aload_n 3, 1) := by decide +kernel
theorem dJ5_charAt_5068e_34 : decode cJ5_charAt_5068e 34 = .ok (.iload_n 1, 1) := by decide +kernel
theorem dJ5_charAt_5068e_35 : decode cJ5_charAt_5068e 35 = .ok (.baload, 1) := by decide +kernel
theorem dJ5_charAt_5068e_36 : decode cJ5_charAt_5068e 36 = .ok (.sipush 255, 3) := by decide +kernel
theorem dJ5_charAt_5068e_39 : decode cJ5_charAt_5068e 39 = .ok (.iand, 1) := by decide +kernel
theorem dJ5_charAt_5068e_40 : decode cJ5_charAt_5068e 40 = .ok (.i2c, 1) := by decide +kernel
theorem dJ5_charAt_5068e_41 : decode cJ5_charAt_5068e 41 = .ok (.ireturn, 1) := by decide +kernel
theorem dJ4_charAt_5068e_0 : decode cJ4_charAt_5068e 0 = .ok (.aload_n 0, 1) := by decide +kernel
theorem dJ4_charAt_5068e_1 : decode cJ4_charAt_5068e 1 = .ok (.iload_n 1, 1) := by decide +kernel
theorem dJ4_charAt_5068e_2 : decode cJ4_charAt_5068e 2 = .ok (.invokespecial 329, 3) := by decide +kernel
theorem dJ4_charAt_5068e_5 : decode cJ4_charAt_5068e 5 = .ok (.ireturn, 1) := by decide +kernel
theorem dX5_outputByte_0 : decode cX5_outputByte 0 = .ok (.iload_n 1, 1) := by decide +kernel
theorem dX5_outputByte_1 : decode cX5_outputByte 1 = .ok (.ifCond .lt 25, 3) := by decide +kernel
theorem dX5_outputByte_4 : decode cX5_outputByte 4 = .ok (.iload_n 1, 1) := by decide +kernel
theorem dX5_outputByte_5 : decode cX5_outputByte 5 = .ok (.aload_n 0, 1) := by decide +kernel
theorem dX5_outputByte_6 : decode cX5_outputByte 6 = .ok (.getfield 42, 3) := by decide +kernel
theorem dX5_outputByte_9 : decode cX5_outputByte 9 = .ok (.invokevirtual 352, 3) := by decide +kernel
theorem dX5_outputByte_12 : decode cX5_outputByte 12 = .ok (.if_icmp .ge 14, 3) := by decide +kernel
theorem dX5_outputByte_15 : decode cX5_outputByte 15 = .ok (.aload_n 0, 1) := by decide +kernel
theorem dX5_outputByte_16 : decode cX5_outputByte 16 = .ok (.getfield 42, 3) := by decide +kernel
theorem dX5_outputByte_19 : decode cX5_outputByte 19 = .ok (.iload_n 1, 1) := by decide +kernel
theorem dX5_outputByte_20 : decode cX5_outputByte 20 = .ok (.invokevirtual 353, 3) := by decide +kernel
theorem dX5_outputByte_23 : decode cX5_outputByte 23 = .ok (.goto 4, 3) := by decide +kernel
theorem dX5_outputByte_26 : decode cX5_outputByte 26 = .ok (.iconst (-1), 1) := by decide +kernel
theorem dX5_outputByte_27 : decode cX5_outputByte 27 = .ok (.ireturn, 1) := by decide +kernel
theorem dX6_copy_0 : decode cX6_copy 0 = .ok (.aload_n 0, 1) := by decide +kernel
theorem dX6_copy_1 : decode cX6_copy 1 = .ok (.iload_n 1, 1) := by decide +kernel
theorem dX6_copy_2 : decode cX6_copy 2 = .ok (.aload_n 2, 1) := by decide +kernel
theorem dX6_copy_3 : decode cX6_copy 3 = .ok (.iload_n 3, 1) := by decide +kernel
theorem dX6_copy_4 : decode cX6_copy 4 = .ok (.sipush 445, 3) := by decide +kernel
theorem dX6_copy_7 : decode cX6_copy 7 = .ok (.invokestatic 67, 3) := by decide +kernel
theorem dX6_copy_10 : decode cX6_copy 10 = .ok (.return_, 1) := by decide +kernel
theorem dX6_isIn_0 : decode cX6_isIn 0 = .ok (.iload_n 0, 1) := by decide +kernel
theorem dX6_isIn_1 : decode cX6_isIn 1 = .ok (.iload_n 1, 1) := by decide +kernel
theorem dX6_isIn_2 : decode cX6_isIn 2 = .ok (.if_icmp .lt 12, 3) := by decide +kernel
theorem dX6_isIn_5 : decode cX6_isIn 5 = .ok (.iload_n 0, 1) := by decide +kernel
theorem dX6_isIn_6 : decode cX6_isIn 6 = .ok (.iload_n 2, 1) := by decide +kernel
theorem dX6_isIn_7 : decode cX6_isIn 7 = .ok (.if_icmp .gt 7, 3) := by decide +kernel
theorem dX6_isIn_10 : decode cX6_isIn 10 = .ok (.iconst 1, 1) := by decide +kernel
theorem dX6_isIn_11 : decode cX6_isIn 11 = .ok (.goto 4, 3) := by decide +kernel
theorem dX6_isIn_14 : decode cX6_isIn 14 = .ok (.iconst 0, 1) := by decide +kernel
theorem dX6_isIn_15 : decode cX6_isIn 15 = .ok (.ireturn, 1) := by decide +kernel
theorem dX6_isLetter_0 : decode cX6_isLetter 0 = .ok (.iload_n 1, 1) := by decide +kernel
theorem dX6_isLetter_1 : decode cX6_isLetter 1 = .ok (.aload_n 0, 1) := by decide +kernel
theorem dX6_isLetter_2 : decode cX6_isLetter 2 = .ok (.getfield 51, 3) := by decide +kernel
theorem dX6_isLetter_5 : decode cX6_isLetter 5 = .ok (.if_icmp .ge 23, 3) := by decide +kernel
theorem dX6_isLetter_8 : decode cX6_isLetter 8 = .ok (.aload_n 0, 1) := by decide +kernel
theorem dX6_isLetter_9 : decode cX6_isLetter 9 = .ok (.getfield 26, 3) := by decide +kernel
theorem dX6_isLetter_12 : decode cX6_isLetter 12 = .ok (.iload_n 1, 1) := by decide +kernel
theorem dX6_isLetter_13 : decode cX6_isLetter 13 = .ok (.iaload, 1) := by decide +kernel
theorem dX6_isLetter_14 : decode cX6_isLetter 14 = .ok (.bipush 97, 2) := by decide +kernel
theorem dX6_isLetter_16 : decode cX6_isLetter 16 = .ok (.bipush 122, 2) := by decide +kernel
theorem dX6_isLetter_18 : decode cX6_isLetter 18 = .ok (.invokestatic 77, 3) := by decide +kernel
theorem dX6_isLetter_21 : decode cX6_isLetter 21 = .ok (.ifCond .eq 7, 3) := by decide +kernel
theorem dX6_isLetter_24 : decode cX6_isLetter 24 = .ok (.iconst 1, 1) := by decide +kernel
theorem dX6_isLetter_25 : decode cX6_isLetter 25 = .ok (.goto 4, 3) := by decide +kernel
theorem dX6_isLetter_28 : decode cX6_isLetter 28 = .ok (.iconst 0, 1) := by decide +kernel
theorem dX6_isLetter_29 : decode cX6_isLetter 29 = .ok (.ireturn, 1) := by decide +kernel
theorem dX6_isDigit_0 : decode cX6_isDigit 0 = .ok (.iload_n 1, 1) := by decide +kernel
theorem dX6_isDigit_1 : decode cX6_isDigit 1 = .ok (.aload_n 0, 1) := by decide +kernel
theorem dX6_isDigit_2 : decode cX6_isDigit 2 = .ok (.getfield 51, 3) := by decide +kernel
theorem dX6_isDigit_5 : decode cX6_isDigit 5 = .ok (.if_icmp .ge 23, 3) := by decide +kernel
theorem dX6_isDigit_8 : decode cX6_isDigit 8 = .ok (.aload_n 0, 1) := by decide +kernel
theorem dX6_isDigit_9 : decode cX6_isDigit 9 = .ok (.getfield 26, 3) := by decide +kernel
theorem dX6_isDigit_12 : decode cX6_isDigit 12 = .ok (.iload_n 1, 1) := by decide +kernel
theorem dX6_isDigit_13 : decode cX6_isDigit 13 = .ok (.iaload, 1) := by decide +kernel
theorem dX6_isDigit_14 : decode cX6_isDigit 14 = .ok (.bipush 48, 2) := by decide +kernel
theorem dX6_isDigit_16 : decode cX6_isDigit 16 = .ok (.bipush 57, 2) := by decide +kernel
theorem dX6_isDigit_18 : decode cX6_isDigit 18 = .ok (.invokestatic 77, 3) := by decide +kernel
theorem dX6_isDigit_21 : decode cX6_isDigit 21 = .ok (.ifCond .eq 7, 3) := by decide +kernel
theorem dX6_isDigit_24 : decode cX6_isDigit 24 = .ok (.iconst 1, 1) := by decide +kernel
theorem dX6_isDigit_25 : decode cX6_isDigit 25 = .ok (.goto 4, 3) := by decide +kernel
theorem dX6_isDigit_28 : decode cX6_isDigit 28 = .ok (.iconst 0, 1) := by decide +kernel
theorem dX6_isDigit_29 : decode cX6_isDigit 29 = .ok (.ireturn, 1) := by decide +kernel
theorem dX6_next_0 : decode cX6_next 0 = .ok (.aload_n 0, 1) := by decide +kernel
theorem dX6_next_1 : decode cX6_next 1 = .ok (.getfield 161, 3) := by decide +kernel
theorem dX6_next_4 : decode cX6_next 4 = .ok (.aload_n 0, 1) := by decide +kernel
theorem dX6_next_5 : decode cX6_next 5 = .ok (.getfield 51, 3) := by decide +kernel
theorem dX6_next_8 : decode cX6_next 8 = .ok (.if_icmp .ge 30, 3) := by decide +kernel
theorem dX6_next_11 : decode cX6_next 11 = .ok (.aload_n 0, 1) := by decide +kernel
theorem dX6_next_12 : decode cX6_next 12 = .ok (.getfield 26, 3) := by decide +kernel
theorem dX6_next_15 : decode cX6_next 15 = .ok (.aload_n 0, 1) := by decide +kernel
theorem dX6_next_16 : decode cX6_next 16 = .ok (.getfield 161, 3) := by decide +kernel
theorem dX6_next_19 : decode cX6_next 19 = .ok (.iaload, 1) := by decide +kernel
theorem dX6_next_20 : decode cX6_next 20 = .ok (.bipush 32, 2) := by decide +kernel
theorem dX6_next_22 : decode cX6_next 22 = .ok (.if_icmp .ne 16, 3) := by decide +kernel
theorem dX6_next_25 : decode cX6_next 25 = .ok (.aload_n 0, 1) := by decide +kernel
theorem dX6_next_26 : decode cX6_next 26 = .ok (.dup, 1) := by decide +kernel
theorem dX6_next_27 : decode cX6_next 27 = .ok (.getfield 161, 3) := by decide +kernel
theorem dX6_next_30 : decode cX6_next 30 = .ok (.iconst 1, 1) := by decide +kernel
theorem dX6_next_31 : decode cX6_next 31 = .ok (.iadd, 1) := by decide +kernel
theorem dX6_next_32 : decode cX6_next 32 = .ok (.putfield 161, 3) := by decide +kernel
theorem dX6_next_35 : decode cX6_next 35 = .ok (.goto (-35), 3) := by decide +kernel
theorem dX6_next_38 : decode cX6_next 38 = .ok (.aload_n 0, 1) := by decide +kernel
theorem dX6_next_39 : decode cX6_next 39 = .ok (.aload_n 0, 1) := by decide +kernel
theorem dX6_next_40 : decode cX6_next 40 = .ok (.getfield 161, 3) := by decide +kernel
theorem dX6_next_43 : decode cX6_next 43 = .ok (.putfield 164, 3) := by decide +kernel
theorem dX6_next_46 : decode cX6_next 46 = .ok (.aload_n 0, 1) := by decide +kernel
theorem dX6_next_47 : decode cX6_next 47 = .ok (.getfield 161, 3) := by decide +kernel
theorem dX6_next_50 : decode cX6_next 50 = .ok (.aload_n 0, 1) := by decide +kernel
theorem dX6_next_51 : decode cX6_next 51 = .ok (.getfield 51, 3) := by decide +kernel
theorem dX6_next_54 : decode cX6_next 54 = .ok (.if_icmp .ne 11, 3) := by decide +kernel
theorem dX6_next_57 : decode cX6_next 57 = .ok (.aload_n 0, 1) := by decide +kernel
theorem dX6_next_58 : decode cX6_next 58 = .ok (.iconst 0, 1) := by decide +kernel
theorem dX6_next_59 : decode cX6_next 59 = .ok (.putfield 167, 3) := by decide +kernel
theorem dX6_next_62 : decode cX6_next 62 = .ok (.goto 150, 3) := by decide +kernel
theorem dX6_next_65 : decode cX6_next 65 = .ok (.aload_n 0, 1) := by decide +kernel
theorem dX6_next_66 : decode cX6_next 66 = .ok (.aload_n 0, 1) := by decide +kernel
theorem dX6_next_67 : decode cX6_next 67 = .ok (.getfield 161, 3) := by decide +kernel
theorem dX6_next_70 : decode cX6_next 70 = .ok (.invokevirtual 170, 3) := by decide +kernel
theorem dX6_next_73 : decode cX6_next 73 = .ok (.ifCond .eq 32, 3) := by decide +kernel
theorem dX6_next_76 : decode cX6_next 76 = .ok (.aload_n 0, 1) := by decide +kernel
theorem dX6_next_77 : decode cX6_next 77 = .ok (.iconst 1, 1) := by decide +kernel
theorem dX6_next_78 : decode cX6_next 78 = .ok (.putfield 167, 3) := by decide +kernel
theorem dX6_next_81 : decode cX6_next 81 = .ok (.aload_n 0, 1) := by decide +kernel
theorem dX6_next_82 : decode cX6_next 82 = .ok (.aload_n 0, 1) := by decide +kernel
theorem dX6_next_83 : decode cX6_next 83 = .ok (.getfield 161, 3) := by decide +kernel
theorem dX6_next_86 : decode cX6_next 86 = .ok (.invokevirtual 170, 3) := by decide +kernel
theorem dX6_next_89 : decode cX6_next 89 = .ok (.ifCond .eq 123, 3) := by decide +kernel
theorem dX6_next_92 : decode cX6_next 92 = .ok (.aload_n 0, 1) := by decide +kernel
theorem dX6_next_93 : decode cX6_next 93 = .ok (.dup, 1) := by decide +kernel
theorem dX6_next_94 : decode cX6_next 94 = .ok (.getfield 161, 3) := by decide +kernel
theorem dX6_next_97 : decode cX6_next 97 = .ok (.iconst 1, 1) := by decide +kernel
theorem dX6_next_98 : decode cX6_next 98 = .ok (.iadd, 1) := by decide +kernel
theorem dX6_next_99 : decode cX6_next 99 = .ok (.putfield 161, 3) := by decide +kernel
theorem dX6_next_102 : decode cX6_next 102 = .ok (.goto (-21), 3) := by decide +kernel
theorem dX6_next_105 : decode cX6_next 105 = .ok (.aload_n 0, 1) := by decide +kernel
theorem dX6_next_106 : decode cX6_next 106 = .ok (.aload_n 0, 1) := by decide +kernel
theorem dX6_next_107 : decode cX6_next 107 = .ok (.getfield 161, 3) := by decide +kernel
theorem dX6_next_110 : decode cX6_next 110 = .ok (.invokevirtual 173, 3) := by decide +kernel
theorem dX6_next_113 : decode cX6_next 113 = .ok (.ifCond .eq 66, 3) := by decide +kernel
theorem dX6_next_116 : decode cX6_next 116 = .ok (.aload_n 0, 1) := by decide +kernel
theorem dX6_next_117 : decode cX6_next 117 = .ok (.iconst 2, 1) := by decide +kernel
theorem dX6_next_118 : decode cX6_next 118 = .ok (.putfield 167, 3) := by decide +kernel
theorem dX6_next_121 : decode cX6_next 121 = .ok (.aload_n 0, 1) := by decide +kernel
theorem dX6_next_122 : decode cX6_next 122 = .ok (.iconst 0, 1) := by decide +kernel
theorem dX6_next_123 : decode cX6_next 123 = .ok (.putfield 176, 3) := by decide +kernel
theorem dX6_next_126 : decode cX6_next 126 = .ok (.aload_n 0, 1) := by decide +kernel
theorem dX6_next_127 : decode cX6_next 127 = .ok (.aload_n 0, 1) := by decide +kernel
theorem dX6_next_128 : decode cX6_next 128 = .ok (.getfield 161, 3) := by decide +kernel
theorem dX6_next_131 : decode cX6_next 131 = .ok (.invokevirtual 173, 3) := by decide +kernel
theorem dX6_next_134 : decode cX6_next 134 = .ok (.ifCond .eq 78, 3) := by decide +kernel
theorem dX6_next_137 : decode cX6_next 137 = .ok (.aload_n 0, 1) := by decide +kernel
theorem dX6_next_138 : decode cX6_next 138 = .ok (.ldc 179, 2) := by decide +kernel
theorem dX6_next_140 : decode cX6_next 140 = .ok (.aload_n 0, 1) := by decide +kernel
theorem dX6_next_141 : decode cX6_next 141 = .ok (.getfield 176, 3) := by decide +kernel
theorem dX6_next_144 : decode cX6_next 144 = .ok (.bipush 10, 2) := by decide +kernel
theorem dX6_next_146 : decode cX6_next 146 = .ok (.imul, 1) := by decide +kernel
theorem dX6_next_147 : decode cX6_next 147 = .ok (.aload_n 0, 1) := by decide +kernel
theorem dX6_next_148 : decode cX6_next 148 = .ok (.getfield 26, 3) := by decide +kernel
theorem dX6_next_151 : decode cX6_next 151 = .ok (.aload_n 0, 1) := by decide +kernel
theorem dX6_next_152 : decode cX6_next 152 = .ok (.getfield 161, 3) := by decide +kernel
theorem dX6_next_155 : decode cX6_next 155 = .ok (.iaload, 1) := by decide +kernel
theorem dX6_next_156 : decode cX6_next 156 = .ok (.iadd, 1) := by decide +kernel
theorem dX6_next_157 : decode cX6_next 157 = .ok (.bipush 48, 2) := by decide +kernel
theorem dX6_next_159 : decode cX6_next 159 = .ok (.isub, 1) := by decide +kernel
theorem dX6_next_160 : decode cX6_next 160 = .ok (.invokestatic 81, 3) := by decide +kernel
theorem dX6_next_163 : decode cX6_next 163 = .ok (.putfield 176, 3) := by decide +kernel
theorem dX6_next_166 : decode cX6_next 166 = .ok (.aload_n 0, 1) := by decide +kernel
theorem dX6_next_167 : decode cX6_next 167 = .ok (.dup, 1) := by decide +kernel
theorem dX6_next_168 : decode cX6_next 168 = .ok (.getfield 161, 3) := by decide +kernel
theorem dX6_next_171 : decode cX6_next 171 = .ok (.iconst 1, 1) := by decide +kernel
theorem dX6_next_172 : decode cX6_next 172 = .ok (.iadd, 1) := by decide +kernel
theorem dX6_next_173 : decode cX6_next 173 = .ok (.putfield 161, 3) := by decide +kernel
theorem dX6_next_176 : decode cX6_next 176 = .ok (.goto (-50), 3) := by decide +kernel
theorem dX6_next_179 : decode cX6_next 179 = .ok (.aload_n 0, 1) := by decide +kernel
theorem dX6_next_180 : decode cX6_next 180 = .ok (.aload_n 0, 1) := by decide +kernel
theorem dX6_next_181 : decode cX6_next 181 = .ok (.getfield 26, 3) := by decide +kernel
theorem dX6_next_184 : decode cX6_next 184 = .ok (.aload_n 0, 1) := by decide +kernel
theorem dX6_next_185 : decode cX6_next 185 = .ok (.getfield 161, 3) := by decide +kernel
theorem dX6_next_188 : decode cX6_next 188 = .ok (.iaload, 1) := by decide +kernel
theorem dX6_next_189 : decode cX6_next 189 = .ok (.bipush 59, 2) := by decide +kernel
theorem dX6_next_191 : decode cX6_next 191 = .ok (.if_icmp .ne 7, 3) := by decide +kernel
theorem dX6_next_194 : decode cX6_next 194 = .ok (.iconst 3, 1) := by decide +kernel
theorem dX6_next_195 : decode cX6_next 195 = .ok (.goto 4, 3) := by decide +kernel
theorem dX6_next_198 : decode cX6_next 198 = .ok (.iconst 4, 1) := by decide +kernel
theorem dX6_next_199 : decode cX6_next 199 = .ok (.putfield 167, 3) := by decide +kernel
theorem dX6_next_202 : decode cX6_next 202 = .ok (.aload_n 0, 1) := by decide +kernel
theorem dX6_next_203 : decode cX6_next 203 = .ok (.dup, 1) := by decide +kernel
theorem dX6_next_204 : decode cX6_next 204 = .ok (.getfield 161, 3) := by decide +kernel
theorem dX6_next_207 : decode cX6_next 207 = .ok (.iconst 1, 1) := by decide +kernel
theorem dX6_next_208 : decode cX6_next 208 = .ok (.iadd, 1) := by decide +kernel
theorem dX6_next_209 : decode cX6_next 209 = .ok (.putfield 161, 3) := by decide +kernel
theorem dX6_next_212 : decode cX6_next 212 = .ok (.return_, 1) := by decide +kernel
theorem dX6_starts_0 : decode cX6_starts 0 = .ok (.aload_n 0, 1) := by decide +kernel
theorem dX6_starts_1 : decode cX6_starts 1 = .ok (.iconst 0, 1) := by decide +kernel
theorem dX6_starts_2 : decode cX6_starts 2 = .ok (.putfield 64, 3) := by decide +kernel
theorem dX6_starts_5 : decode cX6_starts 5 = .ok (.aload_n 0, 1) := by decide +kernel
theorem dX6_starts_6 : decode cX6_starts 6 = .ok (.iconst 0, 1) := by decide +kernel
theorem dX6_starts_7 : decode cX6_starts 7 = .ok (.putfield 161, 3) := by decide +kernel
theorem dX6_starts_10 : decode cX6_starts 10 = .ok (.aload_n 0, 1) := by decide +kernel
theorem dX6_starts_11 : decode cX6_starts 11 = .ok (.iconst 0, 1) := by decide +kernel
theorem dX6_starts_12 : decode cX6_starts 12 = .ok (.putfield 180, 3) := by decide +kernel
theorem dX6_starts_15 : decode cX6_starts 15 = .ok (.aload_n 0, 1) := by decide +kernel
theorem dX6_starts_16 : decode cX6_starts 16 = .ok (.iconst 0, 1) := by decide +kernel
theorem dX6_starts_17 : decode cX6_starts 17 = .ok (.putfield 184, 3) := by decide +kernel
theorem dX6_starts_20 : decode cX6_starts 20 = .ok (.aload_n 0, 1) := by decide +kernel
theorem dX6_starts_21 : decode cX6_starts 21 = .ok (.iconst (-1), 1) := by decide +kernel
theorem dX6_starts_22 : decode cX6_starts 22 = .ok (.putfield 32, 3) := by decide +kernel
theorem dX6_starts_25 : decode cX6_starts 25 = .ok (.aload_n 0, 1) := by decide +kernel
theorem dX6_starts_26 : decode cX6_starts 26 = .ok (.getfield 9, 3) := by decide +kernel
theorem dX6_starts_29 : decode cX6_starts 29 = .ok (.iconst 0, 1) := by decide +kernel
theorem dX6_starts_30 : decode cX6_starts 30 = .ok (.aload_n 0, 1) := by decide +kernel
theorem dX6_starts_31 : decode cX6_starts 31 = .ok (.getfield 19, 3) := by decide +kernel
theorem dX6_starts_34 : decode cX6_starts 34 = .ok (.iconst 0, 1) := by decide +kernel
theorem dX6_starts_35 : decode cX6_starts 35 = .ok (.invokestatic 73, 3) := by decide +kernel
theorem dX6_starts_38 : decode cX6_starts 38 = .ok (.aload_n 0, 1) := by decide +kernel
theorem dX6_starts_39 : decode cX6_starts 39 = .ok (.invokevirtual 187, 3) := by decide +kernel
theorem dX6_starts_42 : decode cX6_starts 42 = .ok (.return_, 1) := by decide +kernel
theorem dX6_is_0 : decode cX6_is 0 = .ok (.aload_n 0, 1) := by decide +kernel
theorem dX6_is_1 : decode cX6_is 1 = .ok (.getfield 167, 3) := by decide +kernel
theorem dX6_is_4 : decode cX6_is 4 = .ok (.iconst 1, 1) := by decide +kernel
theorem dX6_is_5 : decode cX6_is 5 = .ok (.if_icmp .ne 19, 3) := by decide +kernel
theorem dX6_is_8 : decode cX6_is 8 = .ok (.aload_n 0, 1) := by decide +kernel
theorem dX6_is_9 : decode cX6_is 9 = .ok (.getfield 161, 3) := by decide +kernel
theorem dX6_is_12 : decode cX6_is 12 = .ok (.aload_n 0, 1) := by decide +kernel
theorem dX6_is_13 : decode cX6_is 13 = .ok (.getfield 164, 3) := by decide +kernel
theorem dX6_is_16 : decode cX6_is 16 = .ok (.isub, 1) := by decide +kernel
theorem dX6_is_17 : decode cX6_is 17 = .ok (.aload_n 1, 1) := by decide +kernel
theorem dX6_is_18 : decode cX6_is 18 = .ok (.invokevirtual 45, 3) := by decide +kernel
theorem dX6_is_21 : decode cX6_is 21 = .ok (.if_icmp .eq 5, 3) := by decide +kernel
theorem dX6_is_24 : decode cX6_is 24 = .ok (.iconst 0, 1) := by decide +kernel
theorem dX6_is_25 : decode cX6_is 25 = .ok (.ireturn, 1) := by decide +kernel
theorem dX6_is_26 : decode cX6_is 26 = .ok (.iconst 0, 1) := by decide +kernel
theorem dX6_is_27 : decode cX6_is 27 = .ok (.istore_n 2, 1) := by decide +kernel
theorem dX6_is_28 : decode cX6_is 28 = .ok (.iload_n 2, 1) := by decide +kernel
theorem dX6_is_29 : decode cX6_is 29 = .ok (.aload_n 1, 1) := by decide +kernel
theorem dX6_is_30 : decode cX6_is 30 = .ok (.invokevirtual 45, 3) := by decide +kernel
theorem dX6_is_33 : decode cX6_is 33 = .ok (.if_icmp .ge 30, 3) := by decide +kernel
theorem dX6_is_36 : decode cX6_is 36 = .ok (.aload_n 0, 1) := by decide +kernel
theorem dX6_is_37 : decode cX6_is 37 = .ok (.getfield 26, 3) := by decide +kernel
theorem dX6_is_40 : decode cX6_is 40 = .ok (.aload_n 0, 1) := by decide +kernel
theorem dX6_is_41 : decode cX6_is 41 = .ok (.getfield 164, 3) := by decide +kernel
theorem dX6_is_44 : decode cX6_is 44 = .ok (.iload_n 2, 1) := by decide +kernel
theorem dX6_is_45 : decode cX6_is 45 = .ok (.iadd, 1) := by decide +kernel
theorem dX6_is_46 : decode cX6_is 46 = .ok (.iaload, 1) := by decide +kernel
theorem dX6_is_47 : decode cX6_is 47 = .ok (.aload_n 1, 1) := by decide +kernel
theorem dX6_is_48 : decode cX6_is 48 = .ok (.iload_n 2, 1) := by decide +kernel
theorem dX6_is_49 : decode cX6_is 49 = .ok (.invokevirtual 54, 3) := by decide +kernel
theorem dX6_is_52 : decode cX6_is 52 = .ok (.if_icmp .eq 5, 3) := by decide +kernel
theorem dX6_is_55 : decode cX6_is 55 = .ok (.iconst 0, 1) := by decide +kernel
theorem dX6_is_56 : decode cX6_is 56 = .ok (.ireturn, 1) := by decide +kernel
theorem dX6_is_57 : decode cX6_is 57 = .ok (.iinc 2 1, 3) := by decide +kernel
theorem dX6_is_60 : decode cX6_is 60 = .ok (.goto (-32), 3) := by decide +kernel
theorem dX6_is_63 : decode cX6_is 63 = .ok (.iconst 1, 1) := by decide +kernel
theorem dX6_is_64 : decode cX6_is 64 = .ok (.ireturn, 1) := by decide +kernel
theorem dX6_wrong_0 : decode cX6_wrong 0 = .ok (.aload_n 0, 1) := by decide +kernel
theorem dX6_wrong_1 : decode cX6_wrong 1 = .ok (.getfield 180, 3) := by decide +kernel
theorem dX6_wrong_4 : decode cX6_wrong 4 = .ok (.ifCond .ne 7, 3) := by decide +kernel
theorem dX6_wrong_7 : decode cX6_wrong 7 = .ok (.iload_n 1, 1) := by decide +kernel
theorem dX6_wrong_8 : decode cX6_wrong 8 = .ok (.ifCond .ne 4, 3) := by decide +kernel
theorem dX6_wrong_11 : decode cX6_wrong 11 = .ok (.return_, 1) := by decide +kernel
theorem dX6_wrong_12 : decode cX6_wrong 12 = .ok (.aload_n 0, 1) := by decide +kernel
theorem dX6_wrong_13 : decode cX6_wrong 13 = .ok (.iconst 1, 1) := by decide +kernel
theorem dX6_wrong_14 : decode cX6_wrong 14 = .ok (.putfield 180, 3) := by decide +kernel
theorem dX6_wrong_17 : decode cX6_wrong 17 = .ok (.aload_n 0, 1) := by decide +kernel
theorem dX6_wrong_18 : decode cX6_wrong 18 = .ok (.iload_n 2, 1) := by decide +kernel
theorem dX6_wrong_19 : decode cX6_wrong 19 = .ok (.putfield 184, 3) := by decide +kernel
theorem dX6_wrong_22 : decode cX6_wrong 22 = .ok (.aload_n 0, 1) := by decide +kernel
theorem dX6_wrong_23 : decode cX6_wrong 23 = .ok (.aload_n 0, 1) := by decide +kernel
theorem dX6_wrong_24 : decode cX6_wrong 24 = .ok (.getfield 164, 3) := by decide +kernel
theorem dX6_wrong_27 : decode cX6_wrong 27 = .ok (.putfield 32, 3) := by decide +kernel
theorem dX6_wrong_30 : decode cX6_wrong 30 = .ok (.return_, 1) := by decide +kernel
theorem dX6_go_0 : decode cX6_go 0 = .ok (.aload_n 0, 1) := by decide +kernel
theorem dX6_go_1 : decode cX6_go 1 = .ok (.getfield 180, 3) := by decide +kernel
theorem dX6_go_4 : decode cX6_go 4 = .ok (.ifCond .ne 7, 3) := by decide +kernel
theorem dX6_go_7 : decode cX6_go 7 = .ok (.aload_n 0, 1) := by decide +kernel
theorem dX6_go_8 : decode cX6_go 8 = .ok (.invokevirtual 187, 3) := by decide +kernel
theorem dX6_go_11 : decode cX6_go 11 = .ok (.return_, 1) := by decide +kernel
theorem dX6_here_0 : decode cX6_here 0 = .ok (.aload_n 0, 1) := by decide +kernel
theorem dX6_here_1 : decode cX6_here 1 = .ok (.aload_n 0, 1) := by decide +kernel
theorem dX6_here_2 : decode cX6_here 2 = .ok (.getfield 167, 3) := by decide +kernel
theorem dX6_here_5 : decode cX6_here 5 = .ok (.iconst 2, 1) := by decide +kernel
theorem dX6_here_6 : decode cX6_here 6 = .ok (.if_icmp .eq 7, 3) := by decide +kernel
theorem dX6_here_9 : decode cX6_here 9 = .ok (.iconst 1, 1) := by decide +kernel
theorem dX6_here_10 : decode cX6_here 10 = .ok (.goto 4, 3) := by decide +kernel
theorem dX6_here_13 : decode cX6_here 13 = .ok (.iconst 0, 1) := by decide +kernel
theorem dX6_here_14 : decode cX6_here 14 = .ok (.iconst 1, 1) := by decide +kernel
theorem dX6_here_15 : decode cX6_here 15 = .ok (.invokevirtual 190, 3) := by decide +kernel
theorem dX6_here_18 : decode cX6_here 18 = .ok (.aload_n 0, 1) := by decide +kernel
theorem dX6_here_19 : decode cX6_here 19 = .ok (.aload_n 0, 1) := by decide +kernel
theorem dX6_here_20 : decode cX6_here 20 = .ok (.getfield 180, 3) := by decide +kernel
theorem dX6_here_23 : decode cX6_here 23 = .ok (.ifCond .ne 19, 3) := by decide +kernel
theorem dX6_here_26 : decode cX6_here 26 = .ok (.aload_n 0, 1) := by decide +kernel
theorem dX6_here_27 : decode cX6_here 27 = .ok (.getfield 176, 3) := by decide +kernel
theorem dX6_here_30 : decode cX6_here 30 = .ok (.iload_n 1, 1) := by decide +kernel
theorem dX6_here_31 : decode cX6_here 31 = .ok (.iload_n 2, 1) := by decide +kernel
theorem dX6_here_32 : decode cX6_here 32 = .ok (.invokestatic 77, 3) := by decide +kernel
theorem dX6_here_35 : decode cX6_here 35 = .ok (.ifCond .ne 7, 3) := by decide +kernel
theorem dX6_here_38 : decode cX6_here 38 = .ok (.iconst 1, 1) := by decide +kernel
theorem dX6_here_39 : decode cX6_here 39 = .ok (.goto 4, 3) := by decide +kernel
theorem dX6_here_42 : decode cX6_here 42 = .ok (.iconst 0, 1) := by decide +kernel
theorem dX6_here_43 : decode cX6_here 43 = .ok (.iconst 2, 1) := by decide +kernel
theorem dX6_here_44 : decode cX6_here 44 = .ok (.invokevirtual 190, 3) := by decide +kernel
theorem dX6_here_47 : decode cX6_here 47 = .ok (.aload_n 0, 1) := by decide +kernel
theorem dX6_here_48 : decode cX6_here 48 = .ok (.getfield 180, 3) := by decide +kernel
theorem dX6_here_51 : decode cX6_here 51 = .ok (.ifCond .eq 7, 3) := by decide +kernel
theorem dX6_here_54 : decode cX6_here 54 = .ok (.iload_n 1, 1) := by decide +kernel
theorem dX6_here_55 : decode cX6_here 55 = .ok (.goto 7, 3) := by decide +kernel
theorem dX6_here_58 : decode cX6_here 58 = .ok (.aload_n 0, 1) := by decide +kernel
theorem dX6_here_59 : decode cX6_here 59 = .ok (.getfield 176, 3) := by decide +kernel
theorem dX6_here_62 : decode cX6_here 62 = .ok (.ireturn, 1) := by decide +kernel
theorem dX6_lineTold_0 : decode cX6_lineTold 0 = .ok (.aload_n 0, 1) := by decide +kernel
theorem dX6_lineTold_1 : decode cX6_lineTold 1 = .ok (.aload_n 0, 1) := by decide +kernel
theorem dX6_lineTold_2 : decode cX6_lineTold 2 = .ok (.ldc 216, 2) := by decide +kernel
theorem dX6_lineTold_4 : decode cX6_lineTold 4 = .ok (.invokevirtual 208, 3) := by decide +kernel
theorem dX6_lineTold_7 : decode cX6_lineTold 7 = .ok (.ifCond .ne 7, 3) := by decide +kernel
theorem dX6_lineTold_10 : decode cX6_lineTold 10 = .ok (.iconst 1, 1) := by decide +kernel
theorem dX6_lineTold_11 : decode cX6_lineTold 11 = .ok (.goto 4, 3) := by decide +kernel
theorem dX6_lineTold_14 : decode cX6_lineTold 14 = .ok (.iconst 0, 1) := by decide +kernel
theorem dX6_lineTold_15 : decode cX6_lineTold 15 = .ok (.iconst 1, 1) := by decide +kernel
theorem dX6_lineTold_16 : decode cX6_lineTold 16 = .ok (.invokevirtual 190, 3) := by decide +kernel
theorem dX6_lineTold_19 : decode cX6_lineTold 19 = .ok (.aload_n 0, 1) := by decide +kernel
theorem dX6_lineTold_20 : decode cX6_lineTold 20 = .ok (.invokevirtual 197, 3) := by decide +kernel
theorem dX6_lineTold_23 : decode cX6_lineTold 23 = .ok (.aload_n 0, 1) := by decide +kernel
theorem dX6_lineTold_24 : decode cX6_lineTold 24 = .ok (.getfield 180, 3) := by decide +kernel
theorem dX6_lineTold_27 : decode cX6_lineTold 27 = .ok (.ifCond .ne 89, 3) := by decide +kernel
theorem dX6_lineTold_30 : decode cX6_lineTold 30 = .ok (.aload_n 0, 1) := by decide +kernel
theorem dX6_lineTold_31 : decode cX6_lineTold 31 = .ok (.getfield 9, 3) := by decide +kernel
theorem dX6_lineTold_34 : decode cX6_lineTold 34 = .ok (.iconst 1, 1) := by decide +kernel
theorem dX6_lineTold_35 : decode cX6_lineTold 35 = .ok (.iaload, 1) := by decide +kernel
theorem dX6_lineTold_36 : decode cX6_lineTold 36 = .ok (.iconst 2, 1) := by decide +kernel
theorem dX6_lineTold_37 : decode cX6_lineTold 37 = .ok (.if_icmp .lt 11, 3) := by decide +kernel
theorem dX6_lineTold_40 : decode cX6_lineTold 40 = .ok (.aload_n 0, 1) := by decide +kernel
theorem dX6_lineTold_41 : decode cX6_lineTold 41 = .ok (.getfield 167, 3) := by decide +kernel
theorem dX6_lineTold_44 : decode cX6_lineTold 44 = .ok (.iconst 2, 1) := by decide +kernel
theorem dX6_lineTold_45 : decode cX6_lineTold 45 = .ok (.if_icmp .ne 71, 3) := by decide +kernel
theorem dX6_lineTold_48 : decode cX6_lineTold 48 = .ok (.aload_n 0, 1) := by decide +kernel
theorem dX6_lineTold_49 : decode cX6_lineTold 49 = .ok (.iconst 0, 1) := by decide +kernel
theorem dX6_lineTold_50 : decode cX6_lineTold 50 = .ok (.iconst 3, 1) := by decide +kernel
theorem dX6_lineTold_51 : decode cX6_lineTold 51 = .ok (.invokevirtual 194, 3) := by decide +kernel
theorem dX6_lineTold_54 : decode cX6_lineTold 54 = .ok (.istore_n 1, 1) := by decide +kernel
theorem dX6_lineTold_55 : decode cX6_lineTold 55 = .ok (.aload_n 0, 1) := by decide +kernel
theorem dX6_lineTold_56 : decode cX6_lineTold 56 = .ok (.aload_n 0, 1) := by decide +kernel
theorem dX6_lineTold_57 : decode cX6_lineTold 57 = .ok (.getfield 9, 3) := by decide +kernel
theorem dX6_lineTold_60 : decode cX6_lineTold 60 = .ok (.iconst 1, 1) := by decide +kernel
theorem dX6_lineTold_61 : decode cX6_lineTold 61 = .ok (.iaload, 1) := by decide +kernel
theorem dX6_lineTold_62 : decode cX6_lineTold 62 = .ok (.bipush 12, 2) := by decide +kernel
theorem dX6_lineTold_64 : decode cX6_lineTold 64 = .ok (.if_icmp .ne 7, 3) := by decide +kernel
theorem dX6_lineTold_67 : decode cX6_lineTold 67 = .ok (.iconst 1, 1) := by decide +kernel
theorem dX6_lineTold_68 : decode cX6_lineTold 68 = .ok (.goto 4, 3) := by decide +kernel
theorem dX6_lineTold_71 : decode cX6_lineTold 71 = .ok (.iconst 0, 1) := by decide +kernel
theorem dX6_lineTold_72 : decode cX6_lineTold 72 = .ok (.iconst 5, 1) := by decide +kernel
theorem dX6_lineTold_73 : decode cX6_lineTold 73 = .ok (.invokevirtual 190, 3) := by decide +kernel
theorem dX6_lineTold_76 : decode cX6_lineTold 76 = .ok (.aload_n 0, 1) := by decide +kernel
theorem dX6_lineTold_77 : decode cX6_lineTold 77 = .ok (.getfield 180, 3) := by decide +kernel
theorem dX6_lineTold_80 : decode cX6_lineTold 80 = .ok (.ifCond .eq 4, 3) := by decide +kernel
theorem dX6_lineTold_83 : decode cX6_lineTold 83 = .ok (.return_, 1) := by decide +kernel
theorem dX6_lineTold_84 : decode cX6_lineTold 84 = .ok (.aload_n 0, 1) := by decide +kernel
theorem dX6_lineTold_85 : decode cX6_lineTold 85 = .ok (.getfield 9, 3) := by decide +kernel
theorem dX6_lineTold_88 : decode cX6_lineTold 88 = .ok (.bipush 9, 2) := by decide +kernel
theorem dX6_lineTold_90 : decode cX6_lineTold 90 = .ok (.aload_n 0, 1) := by decide +kernel
theorem dX6_lineTold_91 : decode cX6_lineTold 91 = .ok (.getfield 9, 3) := by decide +kernel
theorem dX6_lineTold_94 : decode cX6_lineTold 94 = .ok (.iconst 1, 1) := by decide +kernel
theorem dX6_lineTold_95 : decode cX6_lineTold 95 = .ok (.iaload, 1) := by decide +kernel
theorem dX6_lineTold_96 : decode cX6_lineTold 96 = .ok (.iadd, 1) := by decide +kernel
theorem dX6_lineTold_97 : decode cX6_lineTold 97 = .ok (.iload_n 1, 1) := by decide +kernel
theorem dX6_lineTold_98 : decode cX6_lineTold 98 = .ok (.iastore, 1) := by decide +kernel
theorem dX6_lineTold_99 : decode cX6_lineTold 99 = .ok (.aload_n 0, 1) := by decide +kernel
theorem dX6_lineTold_100 : decode cX6_lineTold 100 = .ok (.getfield 9, 3) := by decide +kernel
theorem dX6_lineTold_103 : decode cX6_lineTold 103 = .ok (.iconst 1, 1) := by decide +kernel
theorem dX6_lineTold_104 : decode cX6_lineTold 104 = .ok (.dup2, 1) := by decide +kernel
theorem dX6_lineTold_105 : decode cX6_lineTold 105 = .ok (.iaload, 1) := by decide +kernel
theorem dX6_lineTold_106 : decode cX6_lineTold 106 = .ok (.iconst 1, 1) := by decide +kernel
theorem dX6_lineTold_107 : decode cX6_lineTold 107 = .ok (.iadd, 1) := by decide +kernel
theorem dX6_lineTold_108 : decode cX6_lineTold 108 = .ok (.iastore, 1) := by decide +kernel
theorem dX6_lineTold_109 : decode cX6_lineTold 109 = .ok (.aload_n 0, 1) := by decide +kernel
theorem dX6_lineTold_110 : decode cX6_lineTold 110 = .ok (.invokevirtual 197, 3) := by decide +kernel
theorem dX6_lineTold_113 : decode cX6_lineTold 113 = .ok (.goto (-90), 3) := by decide +kernel
theorem dX6_lineTold_116 : decode cX6_lineTold 116 = .ok (.aload_n 0, 1) := by decide +kernel
theorem dX6_lineTold_117 : decode cX6_lineTold 117 = .ok (.aload_n 0, 1) := by decide +kernel
theorem dX6_lineTold_118 : decode cX6_lineTold 118 = .ok (.getfield 167, 3) := by decide +kernel
theorem dX6_lineTold_121 : decode cX6_lineTold 121 = .ok (.iconst 3, 1) := by decide +kernel
theorem dX6_lineTold_122 : decode cX6_lineTold 122 = .ok (.if_icmp .eq 7, 3) := by decide +kernel
theorem dX6_lineTold_125 : decode cX6_lineTold 125 = .ok (.iconst 1, 1) := by decide +kernel
theorem dX6_lineTold_126 : decode cX6_lineTold 126 = .ok (.goto 4, 3) := by decide +kernel
theorem dX6_lineTold_129 : decode cX6_lineTold 129 = .ok (.iconst 0, 1) := by decide +kernel
theorem dX6_lineTold_130 : decode cX6_lineTold 130 = .ok (.iconst 1, 1) := by decide +kernel
theorem dX6_lineTold_131 : decode cX6_lineTold 131 = .ok (.invokevirtual 190, 3) := by decide +kernel
theorem dX6_lineTold_134 : decode cX6_lineTold 134 = .ok (.aload_n 0, 1) := by decide +kernel
theorem dX6_lineTold_135 : decode cX6_lineTold 135 = .ok (.invokevirtual 197, 3) := by decide +kernel
theorem dX6_lineTold_138 : decode cX6_lineTold 138 = .ok (.return_, 1) := by decide +kernel
theorem dX6_nameHere_0 : decode cX6_nameHere 0 = .ok (.aload_n 0, 1) := by decide +kernel
theorem dX6_nameHere_1 : decode cX6_nameHere 1 = .ok (.aload_n 0, 1) := by decide +kernel
theorem dX6_nameHere_2 : decode cX6_nameHere 2 = .ok (.getfield 167, 3) := by decide +kernel
theorem dX6_nameHere_5 : decode cX6_nameHere 5 = .ok (.iconst 1, 1) := by decide +kernel
theorem dX6_nameHere_6 : decode cX6_nameHere 6 = .ok (.if_icmp .ne 17, 3) := by decide +kernel
theorem dX6_nameHere_9 : decode cX6_nameHere 9 = .ok (.aload_n 0, 1) := by decide +kernel
theorem dX6_nameHere_10 : decode cX6_nameHere 10 = .ok (.getfield 161, 3) := by decide +kernel
theorem dX6_nameHere_13 : decode cX6_nameHere 13 = .ok (.aload_n 0, 1) := by decide +kernel
theorem dX6_nameHere_14 : decode cX6_nameHere 14 = .ok (.getfield 164, 3) := by decide +kernel
theorem dX6_nameHere_17 : decode cX6_nameHere 17 = .ok (.isub, 1) := by decide +kernel
theorem dX6_nameHere_18 : decode cX6_nameHere 18 = .ok (.bipush 6, 2) := by decide +kernel
theorem dX6_nameHere_20 : decode cX6_nameHere 20 = .ok (.if_icmp .le 7, 3) := by decide +kernel
theorem dX6_nameHere_23 : decode cX6_nameHere 23 = .ok (.iconst 1, 1) := by decide +kernel
theorem dX6_nameHere_24 : decode cX6_nameHere 24 = .ok (.goto 4, 3) := by decide +kernel
theorem dX6_nameHere_27 : decode cX6_nameHere 27 = .ok (.iconst 0, 1) := by decide +kernel
theorem dX6_nameHere_28 : decode cX6_nameHere 28 = .ok (.iconst 1, 1) := by decide +kernel
theorem dX6_nameHere_29 : decode cX6_nameHere 29 = .ok (.invokevirtual 190, 3) := by decide +kernel
theorem dX6_nameHere_32 : decode cX6_nameHere 32 = .ok (.aload_n 0, 1) := by decide +kernel
theorem dX6_nameHere_33 : decode cX6_nameHere 33 = .ok (.getfield 180, 3) := by decide +kernel
theorem dX6_nameHere_36 : decode cX6_nameHere 36 = .ok (.ifCond .eq 4, 3) := by decide +kernel
theorem dX6_nameHere_39 : decode cX6_nameHere 39 = .ok (.return_, 1) := by decide +kernel
theorem dX6_nameHere_40 : decode cX6_nameHere 40 = .ok (.aload_n 0, 1) := by decide +kernel
theorem dX6_nameHere_41 : decode cX6_nameHere 41 = .ok (.aload_n 0, 1) := by decide +kernel
theorem dX6_nameHere_42 : decode cX6_nameHere 42 = .ok (.getfield 161, 3) := by decide +kernel
theorem dX6_nameHere_45 : decode cX6_nameHere 45 = .ok (.aload_n 0, 1) := by decide +kernel
theorem dX6_nameHere_46 : decode cX6_nameHere 46 = .ok (.getfield 164, 3) := by decide +kernel
theorem dX6_nameHere_49 : decode cX6_nameHere 49 = .ok (.isub, 1) := by decide +kernel
theorem dX6_nameHere_50 : decode cX6_nameHere 50 = .ok (.putfield 150, 3) := by decide +kernel
theorem dX6_nameHere_53 : decode cX6_nameHere 53 = .ok (.iconst 0, 1) := by decide +kernel
theorem dX6_nameHere_54 : decode cX6_nameHere 54 = .ok (.istore_n 1, 1) := by decide +kernel
theorem dX6_nameHere_55 : decode cX6_nameHere 55 = .ok (.iload_n 1, 1) := by decide +kernel
theorem dX6_nameHere_56 : decode cX6_nameHere 56 = .ok (.aload_n 0, 1) := by decide +kernel
theorem dX6_nameHere_57 : decode cX6_nameHere 57 = .ok (.getfield 150, 3) := by decide +kernel
theorem dX6_nameHere_60 : decode cX6_nameHere 60 = .ok (.if_icmp .ge 26, 3) := by decide +kernel
theorem dX6_nameHere_63 : decode cX6_nameHere 63 = .ok (.aload_n 0, 1) := by decide +kernel
theorem dX6_nameHere_64 : decode cX6_nameHere 64 = .ok (.getfield 36, 3) := by decide +kernel
theorem dX6_nameHere_67 : decode cX6_nameHere 67 = .ok (.iload_n 1, 1) := by decide +kernel
theorem dX6_nameHere_68 : decode cX6_nameHere 68 = .ok (.aload_n 0, 1) := by decide +kernel
theorem dX6_nameHere_69 : decode cX6_nameHere 69 = .ok (.getfield 26, 3) := by decide +kernel
theorem dX6_nameHere_72 : decode cX6_nameHere 72 = .ok (.aload_n 0, 1) := by decide +kernel
theorem dX6_nameHere_73 : decode cX6_nameHere 73 = .ok (.getfield 164, 3) := by decide +kernel
theorem dX6_nameHere_76 : decode cX6_nameHere 76 = .ok (.iload_n 1, 1) := by decide +kernel
theorem dX6_nameHere_77 : decode cX6_nameHere 77 = .ok (.iadd, 1) := by decide +kernel
theorem dX6_nameHere_78 : decode cX6_nameHere 78 = .ok (.iaload, 1) := by decide +kernel
theorem dX6_nameHere_79 : decode cX6_nameHere 79 = .ok (.iastore, 1) := by decide +kernel
theorem dX6_nameHere_80 : decode cX6_nameHere 80 = .ok (.iinc 1 1, 3) := by decide +kernel
theorem dX6_nameHere_83 : decode cX6_nameHere 83 = .ok (.goto (-28), 3) := by decide +kernel
theorem dX6_nameHere_86 : decode cX6_nameHere 86 = .ok (.return_, 1) := by decide +kernel
theorem dX6_named_0 : decode cX6_named 0 = .ok (.iconst 0, 1) := by decide +kernel
theorem dX6_named_1 : decode cX6_named 1 = .ok (.istore_n 1, 1) := by decide +kernel
theorem dX6_named_2 : decode cX6_named 2 = .ok (.iload_n 1, 1) := by decide +kernel
theorem dX6_named_3 : decode cX6_named 3 = .ok (.aload_n 0, 1) := by decide +kernel
theorem dX6_named_4 : decode cX6_named 4 = .ok (.getfield 9, 3) := by decide +kernel
theorem dX6_named_7 : decode cX6_named 7 = .ok (.iconst 2, 1) := by decide +kernel
theorem dX6_named_8 : decode cX6_named 8 = .ok (.iaload, 1) := by decide +kernel
theorem dX6_named_9 : decode cX6_named 9 = .ok (.if_icmp .ge 94, 3) := by decide +kernel
theorem dX6_named_12 : decode cX6_named 12 = .ok (.bipush 21, 2) := by decide +kernel
theorem dX6_named_14 : decode cX6_named 14 = .ok (.bipush 13, 2) := by decide +kernel
theorem dX6_named_16 : decode cX6_named 16 = .ok (.iload_n 1, 1) := by decide +kernel
theorem dX6_named_17 : decode cX6_named 17 = .ok (.imul, 1) := by decide +kernel
theorem dX6_named_18 : decode cX6_named 18 = .ok (.iadd, 1) := by decide +kernel
theorem dX6_named_19 : decode cX6_named 19 = .ok (.bipush 6, 2) := by decide +kernel
theorem dX6_named_21 : decode cX6_named 21 = .ok (.iadd, 1) := by decide +kernel
theorem dX6_named_22 : decode cX6_named 22 = .ok (.istore_n 2, 1) := by decide +kernel
theorem dX6_named_23 : decode cX6_named 23 = .ok (.aload_n 0, 1) := by decide +kernel
theorem dX6_named_24 : decode cX6_named 24 = .ok (.getfield 9, 3) := by decide +kernel
theorem dX6_named_27 : decode cX6_named 27 = .ok (.iload_n 2, 1) := by decide +kernel
theorem dX6_named_28 : decode cX6_named 28 = .ok (.iaload, 1) := by decide +kernel
theorem dX6_named_29 : decode cX6_named 29 = .ok (.aload_n 0, 1) := by decide +kernel
theorem dX6_named_30 : decode cX6_named 30 = .ok (.getfield 150, 3) := by decide +kernel
theorem dX6_named_33 : decode cX6_named 33 = .ok (.if_icmp .ne 7, 3) := by decide +kernel
theorem dX6_named_36 : decode cX6_named 36 = .ok (.iconst 1, 1) := by decide +kernel
theorem dX6_named_37 : decode cX6_named 37 = .ok (.goto 4, 3) := by decide +kernel
theorem dX6_named_40 : decode cX6_named 40 = .ok (.iconst 0, 1) := by decide +kernel
theorem dX6_named_41 : decode cX6_named 41 = .ok (.istore_n 3, 1) := by decide +kernel
theorem dX6_named_42 : decode cX6_named 42 = .ok (.iconst 0, 1) := by decide +kernel
theorem dX6_named_43 : decode cX6_named 43 = .ok (.istore 4, 2) := by decide +kernel
theorem dX6_named_45 : decode cX6_named 45 = .ok (.iload_n 3, 1) := by decide +kernel
theorem dX6_named_46 : decode cX6_named 46 = .ok (.ifCond .eq 45, 3) := by decide +kernel
theorem dX6_named_49 : decode cX6_named 49 = .ok (.iload 4, 2) := by decide +kernel
theorem dX6_named_51 : decode cX6_named 51 = .ok (.aload_n 0, 1) := by decide +kernel
theorem dX6_named_52 : decode cX6_named 52 = .ok (.getfield 150, 3) := by decide +kernel
theorem dX6_named_55 : decode cX6_named 55 = .ok (.if_icmp .ge 36, 3) := by decide +kernel
theorem dX6_named_58 : decode cX6_named 58 = .ok (.aload_n 0, 1) := by decide +kernel
theorem dX6_named_59 : decode cX6_named 59 = .ok (.getfield 9, 3) := by decide +kernel
theorem dX6_named_62 : decode cX6_named 62 = .ok (.iload_n 2, 1) := by decide +kernel
theorem dX6_named_63 : decode cX6_named 63 = .ok (.iconst 1, 1) := by decide +kernel
theorem dX6_named_64 : decode cX6_named 64 = .ok (.iadd, 1) := by decide +kernel
theorem dX6_named_65 : decode cX6_named 65 = .ok (.iload 4, 2) := by decide +kernel
theorem dX6_named_67 : decode cX6_named 67 = .ok (.iadd, 1) := by decide +kernel
theorem dX6_named_68 : decode cX6_named 68 = .ok (.iaload, 1) := by decide +kernel
theorem dX6_named_69 : decode cX6_named 69 = .ok (.aload_n 0, 1) := by decide +kernel
theorem dX6_named_70 : decode cX6_named 70 = .ok (.getfield 36, 3) := by decide +kernel
theorem dX6_named_73 : decode cX6_named 73 = .ok (.iload 4, 2) := by decide +kernel
theorem dX6_named_75 : decode cX6_named 75 = .ok (.iaload, 1) := by decide +kernel
theorem dX6_named_76 : decode cX6_named 76 = .ok (.if_icmp .ne 7, 3) := by decide +kernel
theorem dX6_named_79 : decode cX6_named 79 = .ok (.iconst 1, 1) := by decide +kernel
theorem dX6_named_80 : decode cX6_named 80 = .ok (.goto 4, 3) := by decide +kernel
theorem dX6_named_83 : decode cX6_named 83 = .ok (.iconst 0, 1) := by decide +kernel
theorem dX6_named_84 : decode cX6_named 84 = .ok (.istore_n 3, 1) := by decide +kernel
theorem dX6_named_85 : decode cX6_named 85 = .ok (.iinc 4 1, 3) := by decide +kernel
theorem dX6_named_88 : decode cX6_named 88 = .ok (.goto (-43), 3) := by decide +kernel
theorem dX6_named_91 : decode cX6_named 91 = .ok (.iload_n 3, 1) := by decide +kernel
theorem dX6_named_92 : decode cX6_named 92 = .ok (.ifCond .eq 5, 3) := by decide +kernel
theorem dX6_named_95 : decode cX6_named 95 = .ok (.iload_n 1, 1) := by decide +kernel
theorem dX6_named_96 : decode cX6_named 96 = .ok (.ireturn, 1) := by decide +kernel
theorem dX6_named_97 : decode cX6_named 97 = .ok (.iinc 1 1, 3) := by decide +kernel
theorem dX6_named_100 : decode cX6_named 100 = .ok (.goto (-98), 3) := by decide +kernel
theorem dX6_named_103 : decode cX6_named 103 = .ok (.iconst (-1), 1) := by decide +kernel
theorem dX6_named_104 : decode cX6_named 104 = .ok (.ireturn, 1) := by decide +kernel
theorem dX6_number_0 : decode cX6_number 0 = .ok (.aload_n 0, 1) := by decide +kernel
theorem dX6_number_1 : decode cX6_number 1 = .ok (.iload_n 1, 1) := by decide +kernel
theorem dX6_number_2 : decode cX6_number 2 = .ok (.iload_n 2, 1) := by decide +kernel
theorem dX6_number_3 : decode cX6_number 3 = .ok (.invokevirtual 194, 3) := by decide +kernel
theorem dX6_number_6 : decode cX6_number 6 = .ok (.istore_n 3, 1) := by decide +kernel
theorem dX6_number_7 : decode cX6_number 7 = .ok (.aload_n 0, 1) := by decide +kernel
theorem dX6_number_8 : decode cX6_number 8 = .ok (.invokevirtual 197, 3) := by decide +kernel
theorem dX6_number_11 : decode cX6_number 11 = .ok (.iload_n 3, 1) := by decide +kernel
theorem dX6_number_12 : decode cX6_number 12 = .ok (.ireturn, 1) := by decide +kernel
theorem dX6_passengerTold_0 : decode cX6_passengerTold 0 = .ok (.aload_n 0, 1) := by decide +kernel
theorem dX6_passengerTold_1 : decode cX6_passengerTold 1 = .ok (.aload_n 0, 1) := by decide +kernel
theorem dX6_passengerTold_2 : decode cX6_passengerTold 2 = .ok (.ldc 206, 2) := by decide +kernel
theorem dX6_passengerTold_4 : decode cX6_passengerTold 4 = .ok (.invokevirtual 208, 3) := by decide +kernel
theorem dX6_passengerTold_7 : decode cX6_passengerTold 7 = .ok (.ifCond .ne 7, 3) := by decide +kernel
theorem dX6_passengerTold_10 : decode cX6_passengerTold 10 = .ok (.iconst 1, 1) := by decide +kernel
theorem dX6_passengerTold_11 : decode cX6_passengerTold 11 = .ok (.goto 4, 3) := by decide +kernel
theorem dX6_passengerTold_14 : decode cX6_passengerTold 14 = .ok (.iconst 0, 1) := by decide +kernel
theorem dX6_passengerTold_15 : decode cX6_passengerTold 15 = .ok (.iconst 1, 1) := by decide +kernel
theorem dX6_passengerTold_16 : decode cX6_passengerTold 16 = .ok (.invokevirtual 190, 3) := by decide +kernel
theorem dX6_passengerTold_19 : decode cX6_passengerTold 19 = .ok (.aload_n 0, 1) := by decide +kernel
theorem dX6_passengerTold_20 : decode cX6_passengerTold 20 = .ok (.aload_n 0, 1) := by decide +kernel
theorem dX6_passengerTold_21 : decode cX6_passengerTold 21 = .ok (.getfield 9, 3) := by decide +kernel
theorem dX6_passengerTold_24 : decode cX6_passengerTold 24 = .ok (.iconst 2, 1) := by decide +kernel
theorem dX6_passengerTold_25 : decode cX6_passengerTold 25 = .ok (.iaload, 1) := by decide +kernel
theorem dX6_passengerTold_26 : decode cX6_passengerTold 26 = .ok (.bipush 8, 2) := by decide +kernel
theorem dX6_passengerTold_28 : decode cX6_passengerTold 28 = .ok (.if_icmp .ne 7, 3) := by decide +kernel
theorem dX6_passengerTold_31 : decode cX6_passengerTold 31 = .ok (.iconst 1, 1) := by decide +kernel
theorem dX6_passengerTold_32 : decode cX6_passengerTold 32 = .ok (.goto 4, 3) := by decide +kernel
theorem dX6_passengerTold_35 : decode cX6_passengerTold 35 = .ok (.iconst 0, 1) := by decide +kernel
theorem dX6_passengerTold_36 : decode cX6_passengerTold 36 = .ok (.iconst 5, 1) := by decide +kernel
theorem dX6_passengerTold_37 : decode cX6_passengerTold 37 = .ok (.invokevirtual 190, 3) := by decide +kernel
theorem dX6_passengerTold_40 : decode cX6_passengerTold 40 = .ok (.aload_n 0, 1) := by decide +kernel
theorem dX6_passengerTold_41 : decode cX6_passengerTold 41 = .ok (.invokevirtual 197, 3) := by decide +kernel
theorem dX6_passengerTold_44 : decode cX6_passengerTold 44 = .ok (.aload_n 0, 1) := by decide +kernel
theorem dX6_passengerTold_45 : decode cX6_passengerTold 45 = .ok (.invokevirtual 200, 3) := by decide +kernel
theorem dX6_passengerTold_48 : decode cX6_passengerTold 48 = .ok (.aload_n 0, 1) := by decide +kernel
theorem dX6_passengerTold_49 : decode cX6_passengerTold 49 = .ok (.aload_n 0, 1) := by decide +kernel
theorem dX6_passengerTold_50 : decode cX6_passengerTold 50 = .ok (.getfield 180, 3) := by decide +kernel
theorem dX6_passengerTold_53 : decode cX6_passengerTold 53 = .ok (.ifCond .ne 15, 3) := by decide +kernel
theorem dX6_passengerTold_56 : decode cX6_passengerTold 56 = .ok (.aload_n 0, 1) := by decide +kernel
theorem dX6_passengerTold_57 : decode cX6_passengerTold 57 = .ok (.invokevirtual 203, 3) := by decide +kernel
theorem dX6_passengerTold_60 : decode cX6_passengerTold 60 = .ok (.iconst (-1), 1) := by decide +kernel
theorem dX6_passengerTold_61 : decode cX6_passengerTold 61 = .ok (.if_icmp .eq 7, 3) := by decide +kernel
theorem dX6_passengerTold_64 : decode cX6_passengerTold 64 = .ok (.iconst 1, 1) := by decide +kernel
theorem dX6_passengerTold_65 : decode cX6_passengerTold 65 = .ok (.goto 4, 3) := by decide +kernel
theorem dX6_passengerTold_68 : decode cX6_passengerTold 68 = .ok (.iconst 0, 1) := by decide +kernel
theorem dX6_passengerTold_69 : decode cX6_passengerTold 69 = .ok (.iconst 4, 1) := by decide +kernel
theorem dX6_passengerTold_70 : decode cX6_passengerTold 70 = .ok (.invokevirtual 190, 3) := by decide +kernel
theorem dX6_passengerTold_73 : decode cX6_passengerTold 73 = .ok (.aload_n 0, 1) := by decide +kernel
theorem dX6_passengerTold_74 : decode cX6_passengerTold 74 = .ok (.getfield 180, 3) := by decide +kernel
theorem dX6_passengerTold_77 : decode cX6_passengerTold 77 = .ok (.ifCond .eq 4, 3) := by decide +kernel
theorem dX6_passengerTold_80 : decode cX6_passengerTold 80 = .ok (.return_, 1) := by decide +kernel
theorem dX6_passengerTold_81 : decode cX6_passengerTold 81 = .ok (.bipush 21, 2) := by decide +kernel
theorem dX6_passengerTold_83 : decode cX6_passengerTold 83 = .ok (.aload_n 0, 1) := by decide +kernel
theorem dX6_passengerTold_84 : decode cX6_passengerTold 84 = .ok (.getfield 9, 3) := by decide +kernel
theorem dX6_passengerTold_87 : decode cX6_passengerTold 87 = .ok (.iconst 2, 1) := by decide +kernel
theorem dX6_passengerTold_88 : decode cX6_passengerTold 88 = .ok (.iaload, 1) := by decide +kernel
theorem dX6_passengerTold_89 : decode cX6_passengerTold 89 = .ok (.bipush 13, 2) := by decide +kernel
theorem dX6_passengerTold_91 : decode cX6_passengerTold 91 = .ok (.imul, 1) := by decide +kernel
theorem dX6_passengerTold_92 : decode cX6_passengerTold 92 = .ok (.iadd, 1) := by decide +kernel
theorem dX6_passengerTold_93 : decode cX6_passengerTold 93 = .ok (.istore_n 1, 1) := by decide +kernel
theorem dX6_passengerTold_94 : decode cX6_passengerTold 94 = .ok (.aload_n 0, 1) := by decide +kernel
theorem dX6_passengerTold_95 : decode cX6_passengerTold 95 = .ok (.getfield 9, 3) := by decide +kernel
theorem dX6_passengerTold_98 : decode cX6_passengerTold 98 = .ok (.iload_n 1, 1) := by decide +kernel
theorem dX6_passengerTold_99 : decode cX6_passengerTold 99 = .ok (.bipush 6, 2) := by decide +kernel
theorem dX6_passengerTold_101 : decode cX6_passengerTold 101 = .ok (.iadd, 1) := by decide +kernel
theorem dX6_passengerTold_102 : decode cX6_passengerTold 102 = .ok (.aload_n 0, 1) := by decide +kernel
theorem dX6_passengerTold_103 : decode cX6_passengerTold 103 = .ok (.getfield 150, 3) := by decide +kernel
theorem dX6_passengerTold_106 : decode cX6_passengerTold 106 = .ok (.iastore, 1) := by decide +kernel
theorem dX6_passengerTold_107 : decode cX6_passengerTold 107 = .ok (.iconst 0, 1) := by decide +kernel
theorem dX6_passengerTold_108 : decode cX6_passengerTold 108 = .ok (.istore_n 2, 1) := by decide +kernel
theorem dX6_passengerTold_109 : decode cX6_passengerTold 109 = .ok (.iload_n 2, 1) := by decide +kernel
theorem dX6_passengerTold_110 : decode cX6_passengerTold 110 = .ok (.aload_n 0, 1) := by decide +kernel
theorem dX6_passengerTold_111 : decode cX6_passengerTold 111 = .ok (.getfield 150, 3) := by decide +kernel
theorem dX6_passengerTold_114 : decode cX6_passengerTold 114 = .ok (.if_icmp .ge 28, 3) := by decide +kernel
theorem dX6_passengerTold_117 : decode cX6_passengerTold 117 = .ok (.aload_n 0, 1) := by decide +kernel
theorem dX6_passengerTold_118 : decode cX6_passengerTold 118 = .ok (.getfield 9, 3) := by decide +kernel
theorem dX6_passengerTold_121 : decode cX6_passengerTold 121 = .ok (.iload_n 1, 1) := by decide +kernel
theorem dX6_passengerTold_122 : decode cX6_passengerTold 122 = .ok (.bipush 6, 2) := by decide +kernel
theorem dX6_passengerTold_124 : decode cX6_passengerTold 124 = .ok (.iadd, 1) := by decide +kernel
theorem dX6_passengerTold_125 : decode cX6_passengerTold 125 = .ok (.iconst 1, 1) := by decide +kernel
theorem dX6_passengerTold_126 : decode cX6_passengerTold 126 = .ok (.iadd, 1) := by decide +kernel
theorem dX6_passengerTold_127 : decode cX6_passengerTold 127 = .ok (.iload_n 2, 1) := by decide +kernel
theorem dX6_passengerTold_128 : decode cX6_passengerTold 128 = .ok (.iadd, 1) := by decide +kernel
theorem dX6_passengerTold_129 : decode cX6_passengerTold 129 = .ok (.aload_n 0, 1) := by decide +kernel
theorem dX6_passengerTold_130 : decode cX6_passengerTold 130 = .ok (.getfield 36, 3) := by decide +kernel
theorem dX6_passengerTold_133 : decode cX6_passengerTold 133 = .ok (.iload_n 2, 1) := by decide +kernel
theorem dX6_passengerTold_134 : decode cX6_passengerTold 134 = .ok (.iaload, 1) := by decide +kernel
theorem dX6_passengerTold_135 : decode cX6_passengerTold 135 = .ok (.iastore, 1) := by decide +kernel
theorem dX6_passengerTold_136 : decode cX6_passengerTold 136 = .ok (.iinc 2 1, 3) := by decide +kernel
theorem dX6_passengerTold_139 : decode cX6_passengerTold 139 = .ok (.goto (-30), 3) := by decide +kernel
theorem dX6_passengerTold_142 : decode cX6_passengerTold 142 = .ok (.aload_n 0, 1) := by decide +kernel
theorem dX6_passengerTold_143 : decode cX6_passengerTold 143 = .ok (.invokevirtual 197, 3) := by decide +kernel
theorem dX6_passengerTold_146 : decode cX6_passengerTold 146 = .ok (.aload_n 0, 1) := by decide +kernel
theorem dX6_passengerTold_147 : decode cX6_passengerTold 147 = .ok (.getfield 9, 3) := by decide +kernel
theorem dX6_passengerTold_150 : decode cX6_passengerTold 150 = .ok (.iload_n 1, 1) := by decide +kernel
theorem dX6_passengerTold_151 : decode cX6_passengerTold 151 = .ok (.iconst 0, 1) := by decide +kernel
theorem dX6_passengerTold_152 : decode cX6_passengerTold 152 = .ok (.iadd, 1) := by decide +kernel
theorem dX6_passengerTold_153 : decode cX6_passengerTold 153 = .ok (.aload_n 0, 1) := by decide +kernel
theorem dX6_passengerTold_154 : decode cX6_passengerTold 154 = .ok (.iconst 0, 1) := by decide +kernel
theorem dX6_passengerTold_155 : decode cX6_passengerTold 155 = .ok (.ldc 212, 2) := by decide +kernel
theorem dX6_passengerTold_157 : decode cX6_passengerTold 157 = .ok (.invokevirtual 213, 3) := by decide +kernel
theorem dX6_passengerTold_160 : decode cX6_passengerTold 160 = .ok (.iastore, 1) := by decide +kernel
theorem dX6_passengerTold_161 : decode cX6_passengerTold 161 = .ok (.aload_n 0, 1) := by decide +kernel
theorem dX6_passengerTold_162 : decode cX6_passengerTold 162 = .ok (.getfield 9, 3) := by decide +kernel
theorem dX6_passengerTold_165 : decode cX6_passengerTold 165 = .ok (.iload_n 1, 1) := by decide +kernel
theorem dX6_passengerTold_166 : decode cX6_passengerTold 166 = .ok (.iconst 3, 1) := by decide +kernel
theorem dX6_passengerTold_167 : decode cX6_passengerTold 167 = .ok (.iadd, 1) := by decide +kernel
theorem dX6_passengerTold_168 : decode cX6_passengerTold 168 = .ok (.iconst (-1), 1) := by decide +kernel
theorem dX6_passengerTold_169 : decode cX6_passengerTold 169 = .ok (.iastore, 1) := by decide +kernel
theorem dX6_passengerTold_170 : decode cX6_passengerTold 170 = .ok (.aload_n 0, 1) := by decide +kernel
theorem dX6_passengerTold_171 : decode cX6_passengerTold 171 = .ok (.getfield 9, 3) := by decide +kernel
theorem dX6_passengerTold_174 : decode cX6_passengerTold 174 = .ok (.iload_n 1, 1) := by decide +kernel
theorem dX6_passengerTold_175 : decode cX6_passengerTold 175 = .ok (.iconst 4, 1) := by decide +kernel
theorem dX6_passengerTold_176 : decode cX6_passengerTold 176 = .ok (.iadd, 1) := by decide +kernel
theorem dX6_passengerTold_177 : decode cX6_passengerTold 177 = .ok (.iconst (-1), 1) := by decide +kernel
theorem dX6_passengerTold_178 : decode cX6_passengerTold 178 = .ok (.iastore, 1) := by decide +kernel
theorem dX6_passengerTold_179 : decode cX6_passengerTold 179 = .ok (.aload_n 0, 1) := by decide +kernel
theorem dX6_passengerTold_180 : decode cX6_passengerTold 180 = .ok (.aload_n 0, 1) := by decide +kernel
theorem dX6_passengerTold_181 : decode cX6_passengerTold 181 = .ok (.getfield 167, 3) := by decide +kernel
theorem dX6_passengerTold_184 : decode cX6_passengerTold 184 = .ok (.iconst 3, 1) := by decide +kernel
theorem dX6_passengerTold_185 : decode cX6_passengerTold 185 = .ok (.if_icmp .eq 7, 3) := by decide +kernel
theorem dX6_passengerTold_188 : decode cX6_passengerTold 188 = .ok (.iconst 1, 1) := by decide +kernel
theorem dX6_passengerTold_189 : decode cX6_passengerTold 189 = .ok (.goto 4, 3) := by decide +kernel
theorem dX6_passengerTold_192 : decode cX6_passengerTold 192 = .ok (.iconst 0, 1) := by decide +kernel
theorem dX6_passengerTold_193 : decode cX6_passengerTold 193 = .ok (.iconst 1, 1) := by decide +kernel
theorem dX6_passengerTold_194 : decode cX6_passengerTold 194 = .ok (.invokevirtual 190, 3) := by decide +kernel
theorem dX6_passengerTold_197 : decode cX6_passengerTold 197 = .ok (.aload_n 0, 1) := by decide +kernel
theorem dX6_passengerTold_198 : decode cX6_passengerTold 198 = .ok (.getfield 180, 3) := by decide +kernel
theorem dX6_passengerTold_201 : decode cX6_passengerTold 201 = .ok (.ifCond .eq 4, 3) := by decide +kernel
theorem dX6_passengerTold_204 : decode cX6_passengerTold 204 = .ok (.return_, 1) := by decide +kernel
theorem dX6_passengerTold_205 : decode cX6_passengerTold 205 = .ok (.aload_n 0, 1) := by decide +kernel
theorem dX6_passengerTold_206 : decode cX6_passengerTold 206 = .ok (.getfield 9, 3) := by decide +kernel
theorem dX6_passengerTold_209 : decode cX6_passengerTold 209 = .ok (.bipush 8, 2) := by decide +kernel
theorem dX6_passengerTold_211 : decode cX6_passengerTold 211 = .ok (.dup2, 1) := by decide +kernel
theorem dX6_passengerTold_212 : decode cX6_passengerTold 212 = .ok (.iaload, 1) := by decide +kernel
theorem dX6_passengerTold_213 : decode cX6_passengerTold 213 = .ok (.aload_n 0, 1) := by decide +kernel
theorem dX6_passengerTold_214 : decode cX6_passengerTold 214 = .ok (.getfield 9, 3) := by decide +kernel
theorem dX6_passengerTold_217 : decode cX6_passengerTold 217 = .ok (.iload_n 1, 1) := by decide +kernel
theorem dX6_passengerTold_218 : decode cX6_passengerTold 218 = .ok (.iconst 0, 1) := by decide +kernel
theorem dX6_passengerTold_219 : decode cX6_passengerTold 219 = .ok (.iadd, 1) := by decide +kernel
theorem dX6_passengerTold_220 : decode cX6_passengerTold 220 = .ok (.iaload, 1) := by decide +kernel
theorem dX6_passengerTold_221 : decode cX6_passengerTold 221 = .ok (.iadd, 1) := by decide +kernel
theorem dX6_passengerTold_222 : decode cX6_passengerTold 222 = .ok (.iastore, 1) := by decide +kernel
theorem dX6_passengerTold_223 : decode cX6_passengerTold 223 = .ok (.aload_n 0, 1) := by decide +kernel
theorem dX6_passengerTold_224 : decode cX6_passengerTold 224 = .ok (.getfield 9, 3) := by decide +kernel
theorem dX6_passengerTold_227 : decode cX6_passengerTold 227 = .ok (.iconst 2, 1) := by decide +kernel
theorem dX6_passengerTold_228 : decode cX6_passengerTold 228 = .ok (.dup2, 1) := by decide +kernel
theorem dX6_passengerTold_229 : decode cX6_passengerTold 229 = .ok (.iaload, 1) := by decide +kernel
theorem dX6_passengerTold_230 : decode cX6_passengerTold 230 = .ok (.iconst 1, 1) := by decide +kernel
theorem dX6_passengerTold_231 : decode cX6_passengerTold 231 = .ok (.iadd, 1) := by decide +kernel
theorem dX6_passengerTold_232 : decode cX6_passengerTold 232 = .ok (.iastore, 1) := by decide +kernel
theorem dX6_passengerTold_233 : decode cX6_passengerTold 233 = .ok (.aload_n 0, 1) := by decide +kernel
theorem dX6_passengerTold_234 : decode cX6_passengerTold 234 = .ok (.invokevirtual 197, 3) := by decide +kernel
theorem dX6_passengerTold_237 : decode cX6_passengerTold 237 = .ok (.return_, 1) := by decide +kernel
theorem dX6_passengerHere_0 : decode cX6_passengerHere 0 = .ok (.aload_n 0, 1) := by decide +kernel
theorem dX6_passengerHere_1 : decode cX6_passengerHere 1 = .ok (.invokevirtual 200, 3) := by decide +kernel
theorem dX6_passengerHere_4 : decode cX6_passengerHere 4 = .ok (.aload_n 0, 1) := by decide +kernel
theorem dX6_passengerHere_5 : decode cX6_passengerHere 5 = .ok (.getfield 180, 3) := by decide +kernel
theorem dX6_passengerHere_8 : decode cX6_passengerHere 8 = .ok (.ifCond .eq 7, 3) := by decide +kernel
theorem dX6_passengerHere_11 : decode cX6_passengerHere 11 = .ok (.iconst 0, 1) := by decide +kernel
theorem dX6_passengerHere_12 : decode cX6_passengerHere 12 = .ok (.goto 7, 3) := by decide +kernel
theorem dX6_passengerHere_15 : decode cX6_passengerHere 15 = .ok (.aload_n 0, 1) := by decide +kernel
theorem dX6_passengerHere_16 : decode cX6_passengerHere 16 = .ok (.invokevirtual 203, 3) := by decide +kernel
theorem dX6_passengerHere_19 : decode cX6_passengerHere 19 = .ok (.istore_n 1, 1) := by decide +kernel
theorem dX6_passengerHere_20 : decode cX6_passengerHere 20 = .ok (.aload_n 0, 1) := by decide +kernel
theorem dX6_passengerHere_21 : decode cX6_passengerHere 21 = .ok (.aload_n 0, 1) := by decide +kernel
theorem dX6_passengerHere_22 : decode cX6_passengerHere 22 = .ok (.getfield 180, 3) := by decide +kernel
theorem dX6_passengerHere_25 : decode cX6_passengerHere 25 = .ok (.ifCond .ne 12, 3) := by decide +kernel
theorem dX6_passengerHere_28 : decode cX6_passengerHere 28 = .ok (.iload_n 1, 1) := by decide +kernel
theorem dX6_passengerHere_29 : decode cX6_passengerHere 29 = .ok (.iconst (-1), 1) := by decide +kernel
theorem dX6_passengerHere_30 : decode cX6_passengerHere 30 = .ok (.if_icmp .ne 7, 3) := by decide +kernel
theorem dX6_passengerHere_33 : decode cX6_passengerHere 33 = .ok (.iconst 1, 1) := by decide +kernel
theorem dX6_passengerHere_34 : decode cX6_passengerHere 34 = .ok (.goto 4, 3) := by decide +kernel
theorem dX6_passengerHere_37 : decode cX6_passengerHere 37 = .ok (.iconst 0, 1) := by decide +kernel
theorem dX6_passengerHere_38 : decode cX6_passengerHere 38 = .ok (.iconst 3, 1) := by decide +kernel
theorem dX6_passengerHere_39 : decode cX6_passengerHere 39 = .ok (.invokevirtual 190, 3) := by decide +kernel
theorem dX6_passengerHere_42 : decode cX6_passengerHere 42 = .ok (.aload_n 0, 1) := by decide +kernel
theorem dX6_passengerHere_43 : decode cX6_passengerHere 43 = .ok (.invokevirtual 197, 3) := by decide +kernel
theorem dX6_passengerHere_46 : decode cX6_passengerHere 46 = .ok (.iload_n 1, 1) := by decide +kernel
theorem dX6_passengerHere_47 : decode cX6_passengerHere 47 = .ok (.ireturn, 1) := by decide +kernel
theorem dX6_price_0 : decode cX6_price 0 = .ok (.iload_n 0, 1) := by decide +kernel
theorem dX6_price_1 : decode cX6_price 1 = .ok (.iconst 2, 1) := by decide +kernel
theorem dX6_price_2 : decode cX6_price 2 = .ok (.if_icmp .ne 7, 3) := by decide +kernel
theorem dX6_price_5 : decode cX6_price 5 = .ok (.sipush 150, 3) := by decide +kernel
theorem dX6_price_8 : decode cX6_price 8 = .ok (.ireturn, 1) := by decide +kernel
theorem dX6_price_9 : decode cX6_price 9 = .ok (.iload_n 0, 1) := by decide +kernel
theorem dX6_price_10 : decode cX6_price 10 = .ok (.iconst 1, 1) := by decide +kernel
theorem dX6_price_11 : decode cX6_price 11 = .ok (.if_icmp .ne 9, 3) := by decide +kernel
theorem dX6_price_14 : decode cX6_price 14 = .ok (.sipush 500, 3) := by decide +kernel
theorem dX6_price_17 : decode cX6_price 17 = .ok (.goto 6, 3) := by decide +kernel
theorem dX6_price_20 : decode cX6_price 20 = .ok (.sipush 200, 3) := by decide +kernel
theorem dX6_price_23 : decode cX6_price 23 = .ok (.iload_n 1, 1) := by decide +kernel
theorem dX6_price_24 : decode cX6_price 24 = .ok (.invokestatic 90, 3) := by decide +kernel
theorem dX6_price_27 : decode cX6_price 27 = .ok (.imul, 1) := by decide +kernel
theorem dX6_price_28 : decode cX6_price 28 = .ok (.ireturn, 1) := by decide +kernel
theorem dX6_ofPassenger_0 : decode cX6_ofPassenger 0 = .ok (.aload_n 0, 1) := by decide +kernel
theorem dX6_ofPassenger_1 : decode cX6_ofPassenger 1 = .ok (.getfield 9, 3) := by decide +kernel
theorem dX6_ofPassenger_4 : decode cX6_ofPassenger 4 = .ok (.bipush 21, 2) := by decide +kernel
theorem dX6_ofPassenger_6 : decode cX6_ofPassenger 6 = .ok (.bipush 13, 2) := by decide +kernel
theorem dX6_ofPassenger_8 : decode cX6_ofPassenger 8 = .ok (.iload_n 1, 1) := by decide +kernel
theorem dX6_ofPassenger_9 : decode cX6_ofPassenger 9 = .ok (.imul, 1) := by decide +kernel
theorem dX6_ofPassenger_10 : decode cX6_ofPassenger 10 = .ok (.iadd, 1) := by decide +kernel
theorem dX6_ofPassenger_11 : decode cX6_ofPassenger 11 = .ok (.iload_n 2, 1) := by decide +kernel
theorem dX6_ofPassenger_12 : decode cX6_ofPassenger 12 = .ok (.iadd, 1) := by decide +kernel
theorem dX6_ofPassenger_13 : decode cX6_ofPassenger 13 = .ok (.iaload, 1) := by decide +kernel
theorem dX6_ofPassenger_14 : decode cX6_ofPassenger 14 = .ok (.ireturn, 1) := by decide +kernel
theorem dX6_mayBuy_0 : decode cX6_mayBuy 0 = .ok (.aload_n 0, 1) := by decide +kernel
theorem dX6_mayBuy_1 : decode cX6_mayBuy 1 = .ok (.getfield 9, 3) := by decide +kernel
theorem dX6_mayBuy_4 : decode cX6_mayBuy 4 = .ok (.iconst 3, 1) := by decide +kernel
theorem dX6_mayBuy_5 : decode cX6_mayBuy 5 = .ok (.iaload, 1) := by decide +kernel
theorem dX6_mayBuy_6 : decode cX6_mayBuy 6 = .ok (.bipush 30, 2) := by decide +kernel
theorem dX6_mayBuy_8 : decode cX6_mayBuy 8 = .ok (.if_icmp .ge 21, 3) := by decide +kernel
theorem dX6_mayBuy_11 : decode cX6_mayBuy 11 = .ok (.iload_n 2, 1) := by decide +kernel
theorem dX6_mayBuy_12 : decode cX6_mayBuy 12 = .ok (.iload_n 3, 1) := by decide +kernel
theorem dX6_mayBuy_13 : decode cX6_mayBuy 13 = .ok (.invokestatic 99, 3) := by decide +kernel
theorem dX6_mayBuy_16 : decode cX6_mayBuy 16 = .ok (.aload_n 0, 1) := by decide +kernel
theorem dX6_mayBuy_17 : decode cX6_mayBuy 17 = .ok (.iload_n 1, 1) := by decide +kernel
theorem dX6_mayBuy_18 : decode cX6_mayBuy 18 = .ok (.iconst 0, 1) := by decide +kernel
theorem dX6_mayBuy_19 : decode cX6_mayBuy 19 = .ok (.invokevirtual 102, 3) := by decide +kernel
theorem dX6_mayBuy_22 : decode cX6_mayBuy 22 = .ok (.if_icmp .gt 7, 3) := by decide +kernel
theorem dX6_mayBuy_25 : decode cX6_mayBuy 25 = .ok (.iconst 1, 1) := by decide +kernel
theorem dX6_mayBuy_26 : decode cX6_mayBuy 26 = .ok (.goto 4, 3) := by decide +kernel
theorem dX6_mayBuy_29 : decode cX6_mayBuy 29 = .ok (.iconst 0, 1) := by decide +kernel
theorem dX6_mayBuy_30 : decode cX6_mayBuy 30 = .ok (.ireturn, 1) := by decide +kernel
theorem dX6_ends_0 : decode cX6_ends 0 = .ok (.aload_n 0, 1) := by decide +kernel
theorem dX6_ends_1 : decode cX6_ends 1 = .ok (.aload_n 0, 1) := by decide +kernel
theorem dX6_ends_2 : decode cX6_ends 2 = .ok (.getfield 167, 3) := by decide +kernel
theorem dX6_ends_5 : decode cX6_ends 5 = .ok (.iconst 3, 1) := by decide +kernel
theorem dX6_ends_6 : decode cX6_ends 6 = .ok (.if_icmp .eq 7, 3) := by decide +kernel
theorem dX6_ends_9 : decode cX6_ends 9 = .ok (.iconst 1, 1) := by decide +kernel
theorem dX6_ends_10 : decode cX6_ends 10 = .ok (.goto 4, 3) := by decide +kernel
theorem dX6_ends_13 : decode cX6_ends 13 = .ok (.iconst 0, 1) := by decide +kernel
theorem dX6_ends_14 : decode cX6_ends 14 = .ok (.iconst 1, 1) := by decide +kernel
theorem dX6_ends_15 : decode cX6_ends 15 = .ok (.invokevirtual 190, 3) := by decide +kernel
theorem dX6_ends_18 : decode cX6_ends 18 = .ok (.aload_n 0, 1) := by decide +kernel
theorem dX6_ends_19 : decode cX6_ends 19 = .ok (.aload_n 0, 1) := by decide +kernel
theorem dX6_ends_20 : decode cX6_ends 20 = .ok (.getfield 180, 3) := by decide +kernel
theorem dX6_ends_23 : decode cX6_ends 23 = .ok (.ifCond .ne 11, 3) := by decide +kernel
theorem dX6_ends_26 : decode cX6_ends 26 = .ok (.iload_n 1, 1) := by decide +kernel
theorem dX6_ends_27 : decode cX6_ends 27 = .ok (.ifCond .ne 7, 3) := by decide +kernel
theorem dX6_ends_30 : decode cX6_ends 30 = .ok (.iconst 1, 1) := by decide +kernel
theorem dX6_ends_31 : decode cX6_ends 31 = .ok (.goto 4, 3) := by decide +kernel
theorem dX6_ends_34 : decode cX6_ends 34 = .ok (.iconst 0, 1) := by decide +kernel
theorem dX6_ends_35 : decode cX6_ends 35 = .ok (.bipush 6, 2) := by decide +kernel
theorem dX6_ends_37 : decode cX6_ends 37 = .ok (.invokevirtual 190, 3) := by decide +kernel
theorem dX6_ends_40 : decode cX6_ends 40 = .ok (.aload_n 0, 1) := by decide +kernel
theorem dX6_ends_41 : decode cX6_ends 41 = .ok (.getfield 180, 3) := by decide +kernel
theorem dX6_ends_44 : decode cX6_ends 44 = .ok (.ifCond .ne 7, 3) := by decide +kernel
theorem dX6_ends_47 : decode cX6_ends 47 = .ok (.iconst 1, 1) := by decide +kernel
theorem dX6_ends_48 : decode cX6_ends 48 = .ok (.goto 4, 3) := by decide +kernel
theorem dX6_ends_51 : decode cX6_ends 51 = .ok (.iconst 0, 1) := by decide +kernel
theorem dX6_ends_52 : decode cX6_ends 52 = .ok (.ireturn, 1) := by decide +kernel
theorem dX6_putTicket_0 : decode cX6_putTicket 0 = .ok (.aload_n 0, 1) := by decide +kernel
theorem dX6_putTicket_1 : decode cX6_putTicket 1 = .ok (.getfield 9, 3) := by decide +kernel
theorem dX6_putTicket_4 : decode cX6_putTicket 4 = .ok (.bipush 125, 2) := by decide +kernel
theorem dX6_putTicket_6 : decode cX6_putTicket 6 = .ok (.bipush 6, 2) := by decide +kernel
theorem dX6_putTicket_8 : decode cX6_putTicket 8 = .ok (.iload_n 1, 1) := by decide +kernel
theorem dX6_putTicket_9 : decode cX6_putTicket 9 = .ok (.imul, 1) := by decide +kernel
theorem dX6_putTicket_10 : decode cX6_putTicket 10 = .ok (.iadd, 1) := by decide +kernel
theorem dX6_putTicket_11 : decode cX6_putTicket 11 = .ok (.iload_n 2, 1) := by decide +kernel
theorem dX6_putTicket_12 : decode cX6_putTicket 12 = .ok (.iadd, 1) := by decide +kernel
theorem dX6_putTicket_13 : decode cX6_putTicket 13 = .ok (.iload_n 3, 1) := by decide +kernel
theorem dX6_putTicket_14 : decode cX6_putTicket 14 = .ok (.iastore, 1) := by decide +kernel
theorem dX6_putTicket_15 : decode cX6_putTicket 15 = .ok (.return_, 1) := by decide +kernel
theorem dX6_putPassenger_0 : decode cX6_putPassenger 0 = .ok (.aload_n 0, 1) := by decide +kernel
theorem dX6_putPassenger_1 : decode cX6_putPassenger 1 = .ok (.getfield 9, 3) := by decide +kernel
theorem dX6_putPassenger_4 : decode cX6_putPassenger 4 = .ok (.bipush 21, 2) := by decide +kernel
theorem dX6_putPassenger_6 : decode cX6_putPassenger 6 = .ok (.bipush 13, 2) := by decide +kernel
theorem dX6_putPassenger_8 : decode cX6_putPassenger 8 = .ok (.iload_n 1, 1) := by decide +kernel
theorem dX6_putPassenger_9 : decode cX6_putPassenger 9 = .ok (.imul, 1) := by decide +kernel
theorem dX6_putPassenger_10 : decode cX6_putPassenger 10 = .ok (.iadd, 1) := by decide +kernel
theorem dX6_putPassenger_11 : decode cX6_putPassenger 11 = .ok (.iload_n 2, 1) := by decide +kernel
theorem dX6_putPassenger_12 : decode cX6_putPassenger 12 = .ok (.iadd, 1) := by decide +kernel
theorem dX6_putPassenger_13 : decode cX6_putPassenger 13 = .ok (.iload_n 3, 1) := by decide +kernel
theorem dX6_putPassenger_14 : decode cX6_putPassenger 14 = .ok (.iastore, 1) := by decide +kernel
theorem dX6_putPassenger_15 : decode cX6_putPassenger 15 = .ok (.return_, 1) := by decide +kernel
theorem dX6_buys_0 : decode cX6_buys 0 = .ok (.aload_n 0, 1) := by decide +kernel
theorem dX6_buys_1 : decode cX6_buys 1 = .ok (.getfield 9, 3) := by decide +kernel
theorem dX6_buys_4 : decode cX6_buys 4 = .ok (.iconst 3, 1) := by decide +kernel
theorem dX6_buys_5 : decode cX6_buys 5 = .ok (.iaload, 1) := by decide +kernel
theorem dX6_buys_6 : decode cX6_buys 6 = .ok (.istore 4, 2) := by decide +kernel
theorem dX6_buys_8 : decode cX6_buys 8 = .ok (.iload_n 2, 1) := by decide +kernel
theorem dX6_buys_9 : decode cX6_buys 9 = .ok (.iload_n 3, 1) := by decide +kernel
theorem dX6_buys_10 : decode cX6_buys 10 = .ok (.invokestatic 99, 3) := by decide +kernel
theorem dX6_buys_13 : decode cX6_buys 13 = .ok (.istore 5, 2) := by decide +kernel
theorem dX6_buys_15 : decode cX6_buys 15 = .ok (.aload_n 0, 1) := by decide +kernel
theorem dX6_buys_16 : decode cX6_buys 16 = .ok (.iload 4, 2) := by decide +kernel
theorem dX6_buys_18 : decode cX6_buys 18 = .ok (.iconst 0, 1) := by decide +kernel
theorem dX6_buys_19 : decode cX6_buys 19 = .ok (.iload_n 1, 1) := by decide +kernel
theorem dX6_buys_20 : decode cX6_buys 20 = .ok (.invokevirtual 105, 3) := by decide +kernel
theorem dX6_buys_23 : decode cX6_buys 23 = .ok (.aload_n 0, 1) := by decide +kernel
theorem dX6_buys_24 : decode cX6_buys 24 = .ok (.iload 4, 2) := by decide +kernel
theorem dX6_buys_26 : decode cX6_buys 26 = .ok (.iconst 1, 1) := by decide +kernel
theorem dX6_buys_27 : decode cX6_buys 27 = .ok (.iload_n 2, 1) := by decide +kernel
theorem dX6_buys_28 : decode cX6_buys 28 = .ok (.invokevirtual 105, 3) := by decide +kernel
theorem dX6_buys_31 : decode cX6_buys 31 = .ok (.aload_n 0, 1) := by decide +kernel
theorem dX6_buys_32 : decode cX6_buys 32 = .ok (.iload 4, 2) := by decide +kernel
theorem dX6_buys_34 : decode cX6_buys 34 = .ok (.iconst 2, 1) := by decide +kernel
theorem dX6_buys_35 : decode cX6_buys 35 = .ok (.iload_n 3, 1) := by decide +kernel
theorem dX6_buys_36 : decode cX6_buys 36 = .ok (.invokevirtual 105, 3) := by decide +kernel
theorem dX6_buys_39 : decode cX6_buys 39 = .ok (.aload_n 0, 1) := by decide +kernel
theorem dX6_buys_40 : decode cX6_buys 40 = .ok (.iload 4, 2) := by decide +kernel
theorem dX6_buys_42 : decode cX6_buys 42 = .ok (.iconst 3, 1) := by decide +kernel
theorem dX6_buys_43 : decode cX6_buys 43 = .ok (.iconst (-1), 1) := by decide +kernel
theorem dX6_buys_44 : decode cX6_buys 44 = .ok (.invokevirtual 105, 3) := by decide +kernel
theorem dX6_buys_47 : decode cX6_buys 47 = .ok (.aload_n 0, 1) := by decide +kernel
theorem dX6_buys_48 : decode cX6_buys 48 = .ok (.iload 4, 2) := by decide +kernel
theorem dX6_buys_50 : decode cX6_buys 50 = .ok (.iconst 4, 1) := by decide +kernel
theorem dX6_buys_51 : decode cX6_buys 51 = .ok (.iconst (-1), 1) := by decide +kernel
theorem dX6_buys_52 : decode cX6_buys 52 = .ok (.invokevirtual 105, 3) := by decide +kernel
theorem dX6_buys_55 : decode cX6_buys 55 = .ok (.aload_n 0, 1) := by decide +kernel
theorem dX6_buys_56 : decode cX6_buys 56 = .ok (.iload 4, 2) := by decide +kernel
theorem dX6_buys_58 : decode cX6_buys 58 = .ok (.iconst 5, 1) := by decide +kernel
theorem dX6_buys_59 : decode cX6_buys 59 = .ok (.iconst 0, 1) := by decide +kernel
theorem dX6_buys_60 : decode cX6_buys 60 = .ok (.invokevirtual 105, 3) := by decide +kernel
theorem dX6_buys_63 : decode cX6_buys 63 = .ok (.aload_n 0, 1) := by decide +kernel
theorem dX6_buys_64 : decode cX6_buys 64 = .ok (.iload_n 1, 1) := by decide +kernel
theorem dX6_buys_65 : decode cX6_buys 65 = .ok (.iconst 0, 1) := by decide +kernel
theorem dX6_buys_66 : decode cX6_buys 66 = .ok (.aload_n 0, 1) := by decide +kernel
theorem dX6_buys_67 : decode cX6_buys 67 = .ok (.iload_n 1, 1) := by decide +kernel
theorem dX6_buys_68 : decode cX6_buys 68 = .ok (.iconst 0, 1) := by decide +kernel
theorem dX6_buys_69 : decode cX6_buys 69 = .ok (.invokevirtual 102, 3) := by decide +kernel
theorem dX6_buys_72 : decode cX6_buys 72 = .ok (.iload 5, 2) := by decide +kernel
theorem dX6_buys_74 : decode cX6_buys 74 = .ok (.isub, 1) := by decide +kernel
theorem dX6_buys_75 : decode cX6_buys 75 = .ok (.invokevirtual 109, 3) := by decide +kernel
theorem dX6_buys_78 : decode cX6_buys 78 = .ok (.aload_n 0, 1) := by decide +kernel
theorem dX6_buys_79 : decode cX6_buys 79 = .ok (.getfield 9, 3) := by decide +kernel
theorem dX6_buys_82 : decode cX6_buys 82 = .ok (.iconst 5, 1) := by decide +kernel
theorem dX6_buys_83 : decode cX6_buys 83 = .ok (.dup2, 1) := by decide +kernel
theorem dX6_buys_84 : decode cX6_buys 84 = .ok (.iaload, 1) := by decide +kernel
theorem dX6_buys_85 : decode cX6_buys 85 = .ok (.iload 5, 2) := by decide +kernel
theorem dX6_buys_87 : decode cX6_buys 87 = .ok (.iadd, 1) := by decide +kernel
theorem dX6_buys_88 : decode cX6_buys 88 = .ok (.iastore, 1) := by decide +kernel
theorem dX6_buys_89 : decode cX6_buys 89 = .ok (.aload_n 0, 1) := by decide +kernel
theorem dX6_buys_90 : decode cX6_buys 90 = .ok (.getfield 9, 3) := by decide +kernel
theorem dX6_buys_93 : decode cX6_buys 93 = .ok (.iconst 3, 1) := by decide +kernel
theorem dX6_buys_94 : decode cX6_buys 94 = .ok (.dup2, 1) := by decide +kernel
theorem dX6_buys_95 : decode cX6_buys 95 = .ok (.iaload, 1) := by decide +kernel
theorem dX6_buys_96 : decode cX6_buys 96 = .ok (.iconst 1, 1) := by decide +kernel
theorem dX6_buys_97 : decode cX6_buys 97 = .ok (.iadd, 1) := by decide +kernel
theorem dX6_buys_98 : decode cX6_buys 98 = .ok (.iastore, 1) := by decide +kernel
theorem dX6_buys_99 : decode cX6_buys 99 = .ok (.iload 4, 2) := by decide +kernel
theorem dX6_buys_101 : decode cX6_buys 101 = .ok (.ireturn, 1) := by decide +kernel
theorem dX6_buyTold_0 : decode cX6_buyTold 0 = .ok (.aload_n 0, 1) := by decide +kernel
theorem dX6_buyTold_1 : decode cX6_buyTold 1 = .ok (.invokevirtual 197, 3) := by decide +kernel
theorem dX6_buyTold_4 : decode cX6_buyTold 4 = .ok (.aload_n 0, 1) := by decide +kernel
theorem dX6_buyTold_5 : decode cX6_buyTold 5 = .ok (.invokevirtual 218, 3) := by decide +kernel
theorem dX6_buyTold_8 : decode cX6_buyTold 8 = .ok (.istore_n 1, 1) := by decide +kernel
theorem dX6_buyTold_9 : decode cX6_buyTold 9 = .ok (.aload_n 0, 1) := by decide +kernel
theorem dX6_buyTold_10 : decode cX6_buyTold 10 = .ok (.getfield 180, 3) := by decide +kernel
theorem dX6_buyTold_13 : decode cX6_buyTold 13 = .ok (.ifCond .eq 7, 3) := by decide +kernel
theorem dX6_buyTold_16 : decode cX6_buyTold 16 = .ok (.iconst 0, 1) := by decide +kernel
theorem dX6_buyTold_17 : decode cX6_buyTold 17 = .ok (.goto 43, 3) := by decide +kernel
theorem dX6_buyTold_20 : decode cX6_buyTold 20 = .ok (.aload_n 0, 1) := by decide +kernel
theorem dX6_buyTold_21 : decode cX6_buyTold 21 = .ok (.ldc 221, 2) := by decide +kernel
theorem dX6_buyTold_23 : decode cX6_buyTold 23 = .ok (.invokevirtual 208, 3) := by decide +kernel
theorem dX6_buyTold_26 : decode cX6_buyTold 26 = .ok (.ifCond .eq 7, 3) := by decide +kernel
theorem dX6_buyTold_29 : decode cX6_buyTold 29 = .ok (.iconst 0, 1) := by decide +kernel
theorem dX6_buyTold_30 : decode cX6_buyTold 30 = .ok (.goto 30, 3) := by decide +kernel
theorem dX6_buyTold_33 : decode cX6_buyTold 33 = .ok (.aload_n 0, 1) := by decide +kernel
theorem dX6_buyTold_34 : decode cX6_buyTold 34 = .ok (.ldc 223, 2) := by decide +kernel
theorem dX6_buyTold_36 : decode cX6_buyTold 36 = .ok (.invokevirtual 208, 3) := by decide +kernel
theorem dX6_buyTold_39 : decode cX6_buyTold 39 = .ok (.ifCond .eq 7, 3) := by decide +kernel
theorem dX6_buyTold_42 : decode cX6_buyTold 42 = .ok (.iconst 1, 1) := by decide +kernel
theorem dX6_buyTold_43 : decode cX6_buyTold 43 = .ok (.goto 17, 3) := by decide +kernel
theorem dX6_buyTold_46 : decode cX6_buyTold 46 = .ok (.aload_n 0, 1) := by decide +kernel
theorem dX6_buyTold_47 : decode cX6_buyTold 47 = .ok (.ldc 225, 2) := by decide +kernel
theorem dX6_buyTold_49 : decode cX6_buyTold 49 = .ok (.invokevirtual 208, 3) := by decide +kernel
theorem dX6_buyTold_52 : decode cX6_buyTold 52 = .ok (.ifCond .eq 7, 3) := by decide +kernel
theorem dX6_buyTold_55 : decode cX6_buyTold 55 = .ok (.iconst 2, 1) := by decide +kernel
theorem dX6_buyTold_56 : decode cX6_buyTold 56 = .ok (.goto 4, 3) := by decide +kernel
theorem dX6_buyTold_59 : decode cX6_buyTold 59 = .ok (.iconst (-1), 1) := by decide +kernel
theorem dX6_buyTold_60 : decode cX6_buyTold 60 = .ok (.istore_n 2, 1) := by decide +kernel
theorem dX6_buyTold_61 : decode cX6_buyTold 61 = .ok (.aload_n 0, 1) := by decide +kernel
theorem dX6_buyTold_62 : decode cX6_buyTold 62 = .ok (.iload_n 2, 1) := by decide +kernel
theorem dX6_buyTold_63 : decode cX6_buyTold 63 = .ok (.iconst (-1), 1) := by decide +kernel
theorem dX6_buyTold_64 : decode cX6_buyTold 64 = .ok (.if_icmp .ne 7, 3) := by decide +kernel
theorem dX6_buyTold_67 : decode cX6_buyTold 67 = .ok (.iconst 1, 1) := by decide +kernel
theorem dX6_buyTold_68 : decode cX6_buyTold 68 = .ok (.goto 4, 3) := by decide +kernel
theorem dX6_buyTold_71 : decode cX6_buyTold 71 = .ok (.iconst 0, 1) := by decide +kernel
theorem dX6_buyTold_72 : decode cX6_buyTold 72 = .ok (.iconst 1, 1) := by decide +kernel
theorem dX6_buyTold_73 : decode cX6_buyTold 73 = .ok (.invokevirtual 190, 3) := by decide +kernel
theorem dX6_buyTold_76 : decode cX6_buyTold 76 = .ok (.aload_n 0, 1) := by decide +kernel
theorem dX6_buyTold_77 : decode cX6_buyTold 77 = .ok (.invokevirtual 197, 3) := by decide +kernel
theorem dX6_buyTold_80 : decode cX6_buyTold 80 = .ok (.aload_n 0, 1) := by decide +kernel
theorem dX6_buyTold_81 : decode cX6_buyTold 81 = .ok (.iconst 1, 1) := by decide +kernel
theorem dX6_buyTold_82 : decode cX6_buyTold 82 = .ok (.bipush 15, 2) := by decide +kernel
theorem dX6_buyTold_84 : decode cX6_buyTold 84 = .ok (.invokevirtual 213, 3) := by decide +kernel
theorem dX6_buyTold_87 : decode cX6_buyTold 87 = .ok (.istore_n 3, 1) := by decide +kernel
theorem dX6_buyTold_88 : decode cX6_buyTold 88 = .ok (.aload_n 0, 1) := by decide +kernel
theorem dX6_buyTold_89 : decode cX6_buyTold 89 = .ok (.aload_n 0, 1) := by decide +kernel
theorem dX6_buyTold_90 : decode cX6_buyTold 90 = .ok (.getfield 180, 3) := by decide +kernel
theorem dX6_buyTold_93 : decode cX6_buyTold 93 = .ok (.ifCond .ne 13, 3) := by decide +kernel
theorem dX6_buyTold_96 : decode cX6_buyTold 96 = .ok (.aload_n 0, 1) := by decide +kernel
theorem dX6_buyTold_97 : decode cX6_buyTold 97 = .ok (.iload_n 1, 1) := by decide +kernel
theorem dX6_buyTold_98 : decode cX6_buyTold 98 = .ok (.iload_n 2, 1) := by decide +kernel
theorem dX6_buyTold_99 : decode cX6_buyTold 99 = .ok (.iload_n 3, 1) := by decide +kernel
theorem dX6_buyTold_100 : decode cX6_buyTold 100 = .ok (.invokevirtual 227, 3) := by decide +kernel
theorem dX6_buyTold_103 : decode cX6_buyTold 103 = .ok (.ifCond .eq 7, 3) := by decide +kernel
theorem dX6_buyTold_106 : decode cX6_buyTold 106 = .ok (.iconst 1, 1) := by decide +kernel
theorem dX6_buyTold_107 : decode cX6_buyTold 107 = .ok (.goto 4, 3) := by decide +kernel
theorem dX6_buyTold_110 : decode cX6_buyTold 110 = .ok (.iconst 0, 1) := by decide +kernel
theorem dX6_buyTold_111 : decode cX6_buyTold 111 = .ok (.invokevirtual 230, 3) := by decide +kernel
theorem dX6_buyTold_114 : decode cX6_buyTold 114 = .ok (.ifCond .eq 14, 3) := by decide +kernel
theorem dX6_buyTold_117 : decode cX6_buyTold 117 = .ok (.aload_n 0, 1) := by decide +kernel
theorem dX6_buyTold_118 : decode cX6_buyTold 118 = .ok (.aload_n 0, 1) := by decide +kernel
theorem dX6_buyTold_119 : decode cX6_buyTold 119 = .ok (.iload_n 1, 1) := by decide +kernel
theorem dX6_buyTold_120 : decode cX6_buyTold 120 = .ok (.iload_n 2, 1) := by decide +kernel
theorem dX6_buyTold_121 : decode cX6_buyTold 121 = .ok (.iload_n 3, 1) := by decide +kernel
theorem dX6_buyTold_122 : decode cX6_buyTold 122 = .ok (.invokevirtual 234, 3) := by decide +kernel
theorem dX6_buyTold_125 : decode cX6_buyTold 125 = .ok (.putfield 238, 3) := by decide +kernel
theorem dX6_buyTold_128 : decode cX6_buyTold 128 = .ok (.return_, 1) := by decide +kernel
theorem dX6_rides_0 : decode cX6_rides 0 = .ok (.aload_n 0, 1) := by decide +kernel
theorem dX6_rides_1 : decode cX6_rides 1 = .ok (.iload_n 1, 1) := by decide +kernel
theorem dX6_rides_2 : decode cX6_rides 2 = .ok (.iconst 3, 1) := by decide +kernel
theorem dX6_rides_3 : decode cX6_rides 3 = .ok (.invokevirtual 102, 3) := by decide +kernel
theorem dX6_rides_6 : decode cX6_rides 6 = .ok (.aload_n 0, 1) := by decide +kernel
theorem dX6_rides_7 : decode cX6_rides 7 = .ok (.getfield 9, 3) := by decide +kernel
theorem dX6_rides_10 : decode cX6_rides 10 = .ok (.iconst 0, 1) := by decide +kernel
theorem dX6_rides_11 : decode cX6_rides 11 = .ok (.iaload, 1) := by decide +kernel
theorem dX6_rides_12 : decode cX6_rides 12 = .ok (.if_icmp .le 7, 3) := by decide +kernel
theorem dX6_rides_15 : decode cX6_rides 15 = .ok (.iconst 1, 1) := by decide +kernel
theorem dX6_rides_16 : decode cX6_rides 16 = .ok (.goto 4, 3) := by decide +kernel
theorem dX6_rides_19 : decode cX6_rides 19 = .ok (.iconst 0, 1) := by decide +kernel
theorem dX6_rides_20 : decode cX6_rides 20 = .ok (.ireturn, 1) := by decide +kernel
theorem dX6_ofTicket_0 : decode cX6_ofTicket 0 = .ok (.aload_n 0, 1) := by decide +kernel
theorem dX6_ofTicket_1 : decode cX6_ofTicket 1 = .ok (.getfield 9, 3) := by decide +kernel
theorem dX6_ofTicket_4 : decode cX6_ofTicket 4 = .ok (.bipush 125, 2) := by decide +kernel
theorem dX6_ofTicket_6 : decode cX6_ofTicket 6 = .ok (.bipush 6, 2) := by decide +kernel
theorem dX6_ofTicket_8 : decode cX6_ofTicket 8 = .ok (.iload_n 1, 1) := by decide +kernel
theorem dX6_ofTicket_9 : decode cX6_ofTicket 9 = .ok (.imul, 1) := by decide +kernel
theorem dX6_ofTicket_10 : decode cX6_ofTicket 10 = .ok (.iadd, 1) := by decide +kernel
theorem dX6_ofTicket_11 : decode cX6_ofTicket 11 = .ok (.iload_n 2, 1) := by decide +kernel
theorem dX6_ofTicket_12 : decode cX6_ofTicket 12 = .ok (.iadd, 1) := by decide +kernel
theorem dX6_ofTicket_13 : decode cX6_ofTicket 13 = .ok (.iaload, 1) := by decide +kernel
theorem dX6_ofTicket_14 : decode cX6_ofTicket 14 = .ok (.ireturn, 1) := by decide +kernel
theorem dX6_mayRide_0 : decode cX6_mayRide 0 = .ok (.aload_n 0, 1) := by decide +kernel
theorem dX6_mayRide_1 : decode cX6_mayRide 1 = .ok (.iload_n 1, 1) := by decide +kernel
theorem dX6_mayRide_2 : decode cX6_mayRide 2 = .ok (.invokevirtual 112, 3) := by decide +kernel
theorem dX6_mayRide_5 : decode cX6_mayRide 5 = .ok (.ifCond .ne 22, 3) := by decide +kernel
theorem dX6_mayRide_8 : decode cX6_mayRide 8 = .ok (.iload_n 2, 1) := by decide +kernel
theorem dX6_mayRide_9 : decode cX6_mayRide 9 = .ok (.iconst (-1), 1) := by decide +kernel
theorem dX6_mayRide_10 : decode cX6_mayRide 10 = .ok (.if_icmp .eq 13, 3) := by decide +kernel
theorem dX6_mayRide_13 : decode cX6_mayRide 13 = .ok (.aload_n 0, 1) := by decide +kernel
theorem dX6_mayRide_14 : decode cX6_mayRide 14 = .ok (.iload_n 2, 1) := by decide +kernel
theorem dX6_mayRide_15 : decode cX6_mayRide 15 = .ok (.iconst 0, 1) := by decide +kernel
theorem dX6_mayRide_16 : decode cX6_mayRide 16 = .ok (.invokevirtual 96, 3) := by decide +kernel
theorem dX6_mayRide_19 : decode cX6_mayRide 19 = .ok (.iload_n 1, 1) := by decide +kernel
theorem dX6_mayRide_20 : decode cX6_mayRide 20 = .ok (.if_icmp .ne 7, 3) := by decide +kernel
theorem dX6_mayRide_23 : decode cX6_mayRide 23 = .ok (.iconst 1, 1) := by decide +kernel
theorem dX6_mayRide_24 : decode cX6_mayRide 24 = .ok (.goto 4, 3) := by decide +kernel
theorem dX6_mayRide_27 : decode cX6_mayRide 27 = .ok (.iconst 0, 1) := by decide +kernel
theorem dX6_mayRide_28 : decode cX6_mayRide 28 = .ok (.ireturn, 1) := by decide +kernel
theorem dX6_begins_0 : decode cX6_begins 0 = .ok (.aload_n 0, 1) := by decide +kernel
theorem dX6_begins_1 : decode cX6_begins 1 = .ok (.iload_n 1, 1) := by decide +kernel
theorem dX6_begins_2 : decode cX6_begins 2 = .ok (.iconst 1, 1) := by decide +kernel
theorem dX6_begins_3 : decode cX6_begins 3 = .ok (.iload_n 2, 1) := by decide +kernel
theorem dX6_begins_4 : decode cX6_begins 4 = .ok (.invokevirtual 109, 3) := by decide +kernel
theorem dX6_begins_7 : decode cX6_begins 7 = .ok (.aload_n 0, 1) := by decide +kernel
theorem dX6_begins_8 : decode cX6_begins 8 = .ok (.iload_n 1, 1) := by decide +kernel
theorem dX6_begins_9 : decode cX6_begins 9 = .ok (.iconst 2, 1) := by decide +kernel
theorem dX6_begins_10 : decode cX6_begins 10 = .ok (.iload_n 3, 1) := by decide +kernel
theorem dX6_begins_11 : decode cX6_begins 11 = .ok (.invokevirtual 109, 3) := by decide +kernel
theorem dX6_begins_14 : decode cX6_begins 14 = .ok (.aload_n 0, 1) := by decide +kernel
theorem dX6_begins_15 : decode cX6_begins 15 = .ok (.iload_n 1, 1) := by decide +kernel
theorem dX6_begins_16 : decode cX6_begins 16 = .ok (.iconst 3, 1) := by decide +kernel
theorem dX6_begins_17 : decode cX6_begins 17 = .ok (.aload_n 0, 1) := by decide +kernel
theorem dX6_begins_18 : decode cX6_begins 18 = .ok (.getfield 9, 3) := by decide +kernel
theorem dX6_begins_21 : decode cX6_begins 21 = .ok (.iconst 0, 1) := by decide +kernel
theorem dX6_begins_22 : decode cX6_begins 22 = .ok (.iaload, 1) := by decide +kernel
theorem dX6_begins_23 : decode cX6_begins 23 = .ok (.iconst 2, 1) := by decide +kernel
theorem dX6_begins_24 : decode cX6_begins 24 = .ok (.iload_n 3, 1) := by decide +kernel
theorem dX6_begins_25 : decode cX6_begins 25 = .ok (.iload_n 2, 1) := by decide +kernel
theorem dX6_begins_26 : decode cX6_begins 26 = .ok (.isub, 1) := by decide +kernel
theorem dX6_begins_27 : decode cX6_begins 27 = .ok (.invokestatic 116, 3) := by decide +kernel
theorem dX6_begins_30 : decode cX6_begins 30 = .ok (.imul, 1) := by decide +kernel
theorem dX6_begins_31 : decode cX6_begins 31 = .ok (.iadd, 1) := by decide +kernel
theorem dX6_begins_32 : decode cX6_begins 32 = .ok (.invokevirtual 109, 3) := by decide +kernel
theorem dX6_begins_35 : decode cX6_begins 35 = .ok (.aload_n 0, 1) := by decide +kernel
theorem dX6_begins_36 : decode cX6_begins 36 = .ok (.iload_n 1, 1) := by decide +kernel
theorem dX6_begins_37 : decode cX6_begins 37 = .ok (.iconst 4, 1) := by decide +kernel
theorem dX6_begins_38 : decode cX6_begins 38 = .ok (.iload 4, 2) := by decide +kernel
theorem dX6_begins_40 : decode cX6_begins 40 = .ok (.invokevirtual 109, 3) := by decide +kernel
theorem dX6_begins_43 : decode cX6_begins 43 = .ok (.aload_n 0, 1) := by decide +kernel
theorem dX6_begins_44 : decode cX6_begins 44 = .ok (.iload_n 1, 1) := by decide +kernel
theorem dX6_begins_45 : decode cX6_begins 45 = .ok (.iconst 5, 1) := by decide +kernel
theorem dX6_begins_46 : decode cX6_begins 46 = .ok (.iconst 0, 1) := by decide +kernel
theorem dX6_begins_47 : decode cX6_begins 47 = .ok (.invokevirtual 109, 3) := by decide +kernel
theorem dX6_begins_50 : decode cX6_begins 50 = .ok (.iload 4, 2) := by decide +kernel
theorem dX6_begins_52 : decode cX6_begins 52 = .ok (.iconst (-1), 1) := by decide +kernel
theorem dX6_begins_53 : decode cX6_begins 53 = .ok (.if_icmp .eq 51, 3) := by decide +kernel
theorem dX6_begins_56 : decode cX6_begins 56 = .ok (.aload_n 0, 1) := by decide +kernel
theorem dX6_begins_57 : decode cX6_begins 57 = .ok (.iload 4, 2) := by decide +kernel
theorem dX6_begins_59 : decode cX6_begins 59 = .ok (.iconst 5, 1) := by decide +kernel
theorem dX6_begins_60 : decode cX6_begins 60 = .ok (.aload_n 0, 1) := by decide +kernel
theorem dX6_begins_61 : decode cX6_begins 61 = .ok (.iload 4, 2) := by decide +kernel
theorem dX6_begins_63 : decode cX6_begins 63 = .ok (.iconst 5, 1) := by decide +kernel
theorem dX6_begins_64 : decode cX6_begins 64 = .ok (.invokevirtual 96, 3) := by decide +kernel
theorem dX6_begins_67 : decode cX6_begins 67 = .ok (.iconst 1, 1) := by decide +kernel
theorem dX6_begins_68 : decode cX6_begins 68 = .ok (.iadd, 1) := by decide +kernel
theorem dX6_begins_69 : decode cX6_begins 69 = .ok (.invokevirtual 105, 3) := by decide +kernel
theorem dX6_begins_72 : decode cX6_begins 72 = .ok (.aload_n 0, 1) := by decide +kernel
theorem dX6_begins_73 : decode cX6_begins 73 = .ok (.iload 4, 2) := by decide +kernel
theorem dX6_begins_75 : decode cX6_begins 75 = .ok (.iconst 3, 1) := by decide +kernel
theorem dX6_begins_76 : decode cX6_begins 76 = .ok (.invokevirtual 96, 3) := by decide +kernel
theorem dX6_begins_79 : decode cX6_begins 79 = .ok (.iconst (-1), 1) := by decide +kernel
theorem dX6_begins_80 : decode cX6_begins 80 = .ok (.if_icmp .ne 24, 3) := by decide +kernel
theorem dX6_begins_83 : decode cX6_begins 83 = .ok (.aload_n 0, 1) := by decide +kernel
theorem dX6_begins_84 : decode cX6_begins 84 = .ok (.iload 4, 2) := by decide +kernel
theorem dX6_begins_86 : decode cX6_begins 86 = .ok (.iconst 3, 1) := by decide +kernel
theorem dX6_begins_87 : decode cX6_begins 87 = .ok (.aload_n 0, 1) := by decide +kernel
theorem dX6_begins_88 : decode cX6_begins 88 = .ok (.getfield 9, 3) := by decide +kernel
theorem dX6_begins_91 : decode cX6_begins 91 = .ok (.iconst 0, 1) := by decide +kernel
theorem dX6_begins_92 : decode cX6_begins 92 = .ok (.iaload, 1) := by decide +kernel
theorem dX6_begins_93 : decode cX6_begins 93 = .ok (.invokevirtual 105, 3) := by decide +kernel
theorem dX6_begins_96 : decode cX6_begins 96 = .ok (.aload_n 0, 1) := by decide +kernel
theorem dX6_begins_97 : decode cX6_begins 97 = .ok (.iload 4, 2) := by decide +kernel
theorem dX6_begins_99 : decode cX6_begins 99 = .ok (.iconst 4, 1) := by decide +kernel
theorem dX6_begins_100 : decode cX6_begins 100 = .ok (.iload_n 2, 1) := by decide +kernel
theorem dX6_begins_101 : decode cX6_begins 101 = .ok (.invokevirtual 105, 3) := by decide +kernel
theorem dX6_begins_104 : decode cX6_begins 104 = .ok (.aload_n 0, 1) := by decide +kernel
theorem dX6_begins_105 : decode cX6_begins 105 = .ok (.iload_n 1, 1) := by decide +kernel
theorem dX6_begins_106 : decode cX6_begins 106 = .ok (.iconst 3, 1) := by decide +kernel
theorem dX6_begins_107 : decode cX6_begins 107 = .ok (.invokevirtual 102, 3) := by decide +kernel
theorem dX6_begins_110 : decode cX6_begins 110 = .ok (.ireturn, 1) := by decide +kernel
theorem dX6_rideTold_0 : decode cX6_rideTold 0 = .ok (.aload_n 0, 1) := by decide +kernel
theorem dX6_rideTold_1 : decode cX6_rideTold 1 = .ok (.invokevirtual 197, 3) := by decide +kernel
theorem dX6_rideTold_4 : decode cX6_rideTold 4 = .ok (.aload_n 0, 1) := by decide +kernel
theorem dX6_rideTold_5 : decode cX6_rideTold 5 = .ok (.invokevirtual 218, 3) := by decide +kernel
theorem dX6_rideTold_8 : decode cX6_rideTold 8 = .ok (.istore_n 1, 1) := by decide +kernel
theorem dX6_rideTold_9 : decode cX6_rideTold 9 = .ok (.aload_n 0, 1) := by decide +kernel
theorem dX6_rideTold_10 : decode cX6_rideTold 10 = .ok (.iconst 0, 1) := by decide +kernel
theorem dX6_rideTold_11 : decode cX6_rideTold 11 = .ok (.aload_n 0, 1) := by decide +kernel
theorem dX6_rideTold_12 : decode cX6_rideTold 12 = .ok (.getfield 9, 3) := by decide +kernel
theorem dX6_rideTold_15 : decode cX6_rideTold 15 = .ok (.iconst 1, 1) := by decide +kernel
theorem dX6_rideTold_16 : decode cX6_rideTold 16 = .ok (.iaload, 1) := by decide +kernel
theorem dX6_rideTold_17 : decode cX6_rideTold 17 = .ok (.iconst 1, 1) := by decide +kernel
theorem dX6_rideTold_18 : decode cX6_rideTold 18 = .ok (.isub, 1) := by decide +kernel
theorem dX6_rideTold_19 : decode cX6_rideTold 19 = .ok (.invokevirtual 213, 3) := by decide +kernel
theorem dX6_rideTold_22 : decode cX6_rideTold 22 = .ok (.istore_n 2, 1) := by decide +kernel
theorem dX6_rideTold_23 : decode cX6_rideTold 23 = .ok (.aload_n 0, 1) := by decide +kernel
theorem dX6_rideTold_24 : decode cX6_rideTold 24 = .ok (.iconst 0, 1) := by decide +kernel
theorem dX6_rideTold_25 : decode cX6_rideTold 25 = .ok (.aload_n 0, 1) := by decide +kernel
theorem dX6_rideTold_26 : decode cX6_rideTold 26 = .ok (.getfield 9, 3) := by decide +kernel
theorem dX6_rideTold_29 : decode cX6_rideTold 29 = .ok (.iconst 1, 1) := by decide +kernel
theorem dX6_rideTold_30 : decode cX6_rideTold 30 = .ok (.iaload, 1) := by decide +kernel
theorem dX6_rideTold_31 : decode cX6_rideTold 31 = .ok (.iconst 1, 1) := by decide +kernel
theorem dX6_rideTold_32 : decode cX6_rideTold 32 = .ok (.isub, 1) := by decide +kernel
theorem dX6_rideTold_33 : decode cX6_rideTold 33 = .ok (.invokevirtual 194, 3) := by decide +kernel
theorem dX6_rideTold_36 : decode cX6_rideTold 36 = .ok (.istore_n 3, 1) := by decide +kernel
theorem dX6_rideTold_37 : decode cX6_rideTold 37 = .ok (.aload_n 0, 1) := by decide +kernel
theorem dX6_rideTold_38 : decode cX6_rideTold 38 = .ok (.aload_n 0, 1) := by decide +kernel
theorem dX6_rideTold_39 : decode cX6_rideTold 39 = .ok (.getfield 180, 3) := by decide +kernel
theorem dX6_rideTold_42 : decode cX6_rideTold 42 = .ok (.ifCond .ne 12, 3) := by decide +kernel
theorem dX6_rideTold_45 : decode cX6_rideTold 45 = .ok (.iload_n 2, 1) := by decide +kernel
theorem dX6_rideTold_46 : decode cX6_rideTold 46 = .ok (.iload_n 3, 1) := by decide +kernel
theorem dX6_rideTold_47 : decode cX6_rideTold 47 = .ok (.if_icmp .ne 7, 3) := by decide +kernel
theorem dX6_rideTold_50 : decode cX6_rideTold 50 = .ok (.iconst 1, 1) := by decide +kernel
theorem dX6_rideTold_51 : decode cX6_rideTold 51 = .ok (.goto 4, 3) := by decide +kernel
theorem dX6_rideTold_54 : decode cX6_rideTold 54 = .ok (.iconst 0, 1) := by decide +kernel
theorem dX6_rideTold_55 : decode cX6_rideTold 55 = .ok (.iconst 2, 1) := by decide +kernel
theorem dX6_rideTold_56 : decode cX6_rideTold 56 = .ok (.invokevirtual 190, 3) := by decide +kernel
theorem dX6_rideTold_59 : decode cX6_rideTold 59 = .ok (.aload_n 0, 1) := by decide +kernel
theorem dX6_rideTold_60 : decode cX6_rideTold 60 = .ok (.invokevirtual 197, 3) := by decide +kernel
theorem dX6_rideTold_63 : decode cX6_rideTold 63 = .ok (.iconst (-1), 1) := by decide +kernel
theorem dX6_rideTold_64 : decode cX6_rideTold 64 = .ok (.istore 4, 2) := by decide +kernel
theorem dX6_rideTold_66 : decode cX6_rideTold 66 = .ok (.aload_n 0, 1) := by decide +kernel
theorem dX6_rideTold_67 : decode cX6_rideTold 67 = .ok (.getfield 180, 3) := by decide +kernel
theorem dX6_rideTold_70 : decode cX6_rideTold 70 = .ok (.ifCond .ne 31, 3) := by decide +kernel
theorem dX6_rideTold_73 : decode cX6_rideTold 73 = .ok (.aload_n 0, 1) := by decide +kernel
theorem dX6_rideTold_74 : decode cX6_rideTold 74 = .ok (.ldc 241, 2) := by decide +kernel
theorem dX6_rideTold_76 : decode cX6_rideTold 76 = .ok (.invokevirtual 208, 3) := by decide +kernel
theorem dX6_rideTold_79 : decode cX6_rideTold 79 = .ok (.ifCond .eq 22, 3) := by decide +kernel
theorem dX6_rideTold_82 : decode cX6_rideTold 82 = .ok (.aload_n 0, 1) := by decide +kernel
theorem dX6_rideTold_83 : decode cX6_rideTold 83 = .ok (.invokevirtual 197, 3) := by decide +kernel
theorem dX6_rideTold_86 : decode cX6_rideTold 86 = .ok (.aload_n 0, 1) := by decide +kernel
theorem dX6_rideTold_87 : decode cX6_rideTold 87 = .ok (.iconst 0, 1) := by decide +kernel
theorem dX6_rideTold_88 : decode cX6_rideTold 88 = .ok (.aload_n 0, 1) := by decide +kernel
theorem dX6_rideTold_89 : decode cX6_rideTold 89 = .ok (.getfield 9, 3) := by decide +kernel
theorem dX6_rideTold_92 : decode cX6_rideTold 92 = .ok (.iconst 3, 1) := by decide +kernel
theorem dX6_rideTold_93 : decode cX6_rideTold 93 = .ok (.iaload, 1) := by decide +kernel
theorem dX6_rideTold_94 : decode cX6_rideTold 94 = .ok (.iconst 1, 1) := by decide +kernel
theorem dX6_rideTold_95 : decode cX6_rideTold 95 = .ok (.isub, 1) := by decide +kernel
theorem dX6_rideTold_96 : decode cX6_rideTold 96 = .ok (.invokevirtual 213, 3) := by decide +kernel
theorem dX6_rideTold_99 : decode cX6_rideTold 99 = .ok (.istore 4, 2) := by decide +kernel
theorem dX6_rideTold_101 : decode cX6_rideTold 101 = .ok (.aload_n 0, 1) := by decide +kernel
theorem dX6_rideTold_102 : decode cX6_rideTold 102 = .ok (.aload_n 0, 1) := by decide +kernel
theorem dX6_rideTold_103 : decode cX6_rideTold 103 = .ok (.getfield 180, 3) := by decide +kernel
theorem dX6_rideTold_106 : decode cX6_rideTold 106 = .ok (.ifCond .ne 13, 3) := by decide +kernel
theorem dX6_rideTold_109 : decode cX6_rideTold 109 = .ok (.aload_n 0, 1) := by decide +kernel
theorem dX6_rideTold_110 : decode cX6_rideTold 110 = .ok (.iload_n 1, 1) := by decide +kernel
theorem dX6_rideTold_111 : decode cX6_rideTold 111 = .ok (.iload 4, 2) := by decide +kernel
theorem dX6_rideTold_113 : decode cX6_rideTold 113 = .ok (.invokevirtual 243, 3) := by decide +kernel
theorem dX6_rideTold_116 : decode cX6_rideTold 116 = .ok (.ifCond .eq 7, 3) := by decide +kernel
theorem dX6_rideTold_119 : decode cX6_rideTold 119 = .ok (.iconst 1, 1) := by decide +kernel
theorem dX6_rideTold_120 : decode cX6_rideTold 120 = .ok (.goto 4, 3) := by decide +kernel
theorem dX6_rideTold_123 : decode cX6_rideTold 123 = .ok (.iconst 0, 1) := by decide +kernel
theorem dX6_rideTold_124 : decode cX6_rideTold 124 = .ok (.invokevirtual 230, 3) := by decide +kernel
theorem dX6_rideTold_127 : decode cX6_rideTold 127 = .ok (.ifCond .eq 16, 3) := by decide +kernel
theorem dX6_rideTold_130 : decode cX6_rideTold 130 = .ok (.aload_n 0, 1) := by decide +kernel
theorem dX6_rideTold_131 : decode cX6_rideTold 131 = .ok (.aload_n 0, 1) := by decide +kernel
theorem dX6_rideTold_132 : decode cX6_rideTold 132 = .ok (.iload_n 1, 1) := by decide +kernel
theorem dX6_rideTold_133 : decode cX6_rideTold 133 = .ok (.iload_n 2, 1) := by decide +kernel
theorem dX6_rideTold_134 : decode cX6_rideTold 134 = .ok (.iload_n 3, 1) := by decide +kernel
theorem dX6_rideTold_135 : decode cX6_rideTold 135 = .ok (.iload 4, 2) := by decide +kernel
theorem dX6_rideTold_137 : decode cX6_rideTold 137 = .ok (.invokevirtual 246, 3) := by decide +kernel
theorem dX6_rideTold_140 : decode cX6_rideTold 140 = .ok (.putfield 238, 3) := by decide +kernel
theorem dX6_rideTold_143 : decode cX6_rideTold 143 = .ok (.return_, 1) := by decide +kernel
theorem dX6_ofCase_0 : decode cX6_ofCase 0 = .ok (.aload_n 0, 1) := by decide +kernel
theorem dX6_ofCase_1 : decode cX6_ofCase 1 = .ok (.getfield 9, 3) := by decide +kernel
theorem dX6_ofCase_4 : decode cX6_ofCase 4 = .ok (.sipush 305, 3) := by decide +kernel
theorem dX6_ofCase_7 : decode cX6_ofCase 7 = .ok (.bipush 7, 2) := by decide +kernel
theorem dX6_ofCase_9 : decode cX6_ofCase 9 = .ok (.iload_n 1, 1) := by decide +kernel
theorem dX6_ofCase_10 : decode cX6_ofCase 10 = .ok (.imul, 1) := by decide +kernel
theorem dX6_ofCase_11 : decode cX6_ofCase 11 = .ok (.iadd, 1) := by decide +kernel
theorem dX6_ofCase_12 : decode cX6_ofCase 12 = .ok (.iload_n 2, 1) := by decide +kernel
theorem dX6_ofCase_13 : decode cX6_ofCase 13 = .ok (.iadd, 1) := by decide +kernel
theorem dX6_ofCase_14 : decode cX6_ofCase 14 = .ok (.iaload, 1) := by decide +kernel
theorem dX6_ofCase_15 : decode cX6_ofCase 15 = .ok (.ireturn, 1) := by decide +kernel
theorem dX6_isLate_0 : decode cX6_isLate 0 = .ok (.aload_n 0, 1) := by decide +kernel
theorem dX6_isLate_1 : decode cX6_isLate 1 = .ok (.iload_n 1, 1) := by decide +kernel
theorem dX6_isLate_2 : decode cX6_isLate 2 = .ok (.iconst 2, 1) := by decide +kernel
theorem dX6_isLate_3 : decode cX6_isLate 3 = .ok (.invokevirtual 138, 3) := by decide +kernel
theorem dX6_isLate_6 : decode cX6_isLate 6 = .ok (.iconst 4, 1) := by decide +kernel
theorem dX6_isLate_7 : decode cX6_isLate 7 = .ok (.if_icmp .eq 26, 3) := by decide +kernel
theorem dX6_isLate_10 : decode cX6_isLate 10 = .ok (.aload_n 0, 1) := by decide +kernel
theorem dX6_isLate_11 : decode cX6_isLate 11 = .ok (.getfield 9, 3) := by decide +kernel
theorem dX6_isLate_14 : decode cX6_isLate 14 = .ok (.iconst 0, 1) := by decide +kernel
theorem dX6_isLate_15 : decode cX6_isLate 15 = .ok (.iaload, 1) := by decide +kernel
theorem dX6_isLate_16 : decode cX6_isLate 16 = .ok (.aload_n 0, 1) := by decide +kernel
theorem dX6_isLate_17 : decode cX6_isLate 17 = .ok (.iload_n 1, 1) := by decide +kernel
theorem dX6_isLate_18 : decode cX6_isLate 18 = .ok (.iconst 3, 1) := by decide +kernel
theorem dX6_isLate_19 : decode cX6_isLate 19 = .ok (.invokevirtual 138, 3) := by decide +kernel
theorem dX6_isLate_22 : decode cX6_isLate 22 = .ok (.sipush 20160, 3) := by decide +kernel
theorem dX6_isLate_25 : decode cX6_isLate 25 = .ok (.iadd, 1) := by decide +kernel
theorem dX6_isLate_26 : decode cX6_isLate 26 = .ok (.if_icmp .le 7, 3) := by decide +kernel
theorem dX6_isLate_29 : decode cX6_isLate 29 = .ok (.iconst 1, 1) := by decide +kernel
theorem dX6_isLate_30 : decode cX6_isLate 30 = .ok (.goto 4, 3) := by decide +kernel
theorem dX6_isLate_33 : decode cX6_isLate 33 = .ok (.iconst 0, 1) := by decide +kernel
theorem dX6_isLate_34 : decode cX6_isLate 34 = .ok (.ireturn, 1) := by decide +kernel
theorem dX6_mayAppeal_0 : decode cX6_mayAppeal 0 = .ok (.aload_n 0, 1) := by decide +kernel
theorem dX6_mayAppeal_1 : decode cX6_mayAppeal 1 = .ok (.iload_n 1, 1) := by decide +kernel
theorem dX6_mayAppeal_2 : decode cX6_mayAppeal 2 = .ok (.iconst 2, 1) := by decide +kernel
theorem dX6_mayAppeal_3 : decode cX6_mayAppeal 3 = .ok (.invokevirtual 138, 3) := by decide +kernel
theorem dX6_mayAppeal_6 : decode cX6_mayAppeal 6 = .ok (.ifCond .ne 15, 3) := by decide +kernel
theorem dX6_mayAppeal_9 : decode cX6_mayAppeal 9 = .ok (.aload_n 0, 1) := by decide +kernel
theorem dX6_mayAppeal_10 : decode cX6_mayAppeal 10 = .ok (.iload_n 1, 1) := by decide +kernel
theorem dX6_mayAppeal_11 : decode cX6_mayAppeal 11 = .ok (.invokevirtual 141, 3) := by decide +kernel
theorem dX6_mayAppeal_14 : decode cX6_mayAppeal 14 = .ok (.ifCond .ne 7, 3) := by decide +kernel
theorem dX6_mayAppeal_17 : decode cX6_mayAppeal 17 = .ok (.iconst 1, 1) := by decide +kernel
theorem dX6_mayAppeal_18 : decode cX6_mayAppeal 18 = .ok (.goto 4, 3) := by decide +kernel
theorem dX6_mayAppeal_21 : decode cX6_mayAppeal 21 = .ok (.iconst 0, 1) := by decide +kernel
theorem dX6_mayAppeal_22 : decode cX6_mayAppeal 22 = .ok (.ireturn, 1) := by decide +kernel
theorem dX6_putCase_0 : decode cX6_putCase 0 = .ok (.aload_n 0, 1) := by decide +kernel
theorem dX6_putCase_1 : decode cX6_putCase 1 = .ok (.getfield 9, 3) := by decide +kernel
theorem dX6_putCase_4 : decode cX6_putCase 4 = .ok (.sipush 305, 3) := by decide +kernel
theorem dX6_putCase_7 : decode cX6_putCase 7 = .ok (.bipush 7, 2) := by decide +kernel
theorem dX6_putCase_9 : decode cX6_putCase 9 = .ok (.iload_n 1, 1) := by decide +kernel
theorem dX6_putCase_10 : decode cX6_putCase 10 = .ok (.imul, 1) := by decide +kernel
theorem dX6_putCase_11 : decode cX6_putCase 11 = .ok (.iadd, 1) := by decide +kernel
theorem dX6_putCase_12 : decode cX6_putCase 12 = .ok (.iload_n 2, 1) := by decide +kernel
theorem dX6_putCase_13 : decode cX6_putCase 13 = .ok (.iadd, 1) := by decide +kernel
theorem dX6_putCase_14 : decode cX6_putCase 14 = .ok (.iload_n 3, 1) := by decide +kernel
theorem dX6_putCase_15 : decode cX6_putCase 15 = .ok (.iastore, 1) := by decide +kernel
theorem dX6_putCase_16 : decode cX6_putCase 16 = .ok (.return_, 1) := by decide +kernel
theorem dX6_appeals_0 : decode cX6_appeals 0 = .ok (.aload_n 0, 1) := by decide +kernel
theorem dX6_appeals_1 : decode cX6_appeals 1 = .ok (.iload_n 1, 1) := by decide +kernel
theorem dX6_appeals_2 : decode cX6_appeals 2 = .ok (.iconst 2, 1) := by decide +kernel
theorem dX6_appeals_3 : decode cX6_appeals 3 = .ok (.iconst 1, 1) := by decide +kernel
theorem dX6_appeals_4 : decode cX6_appeals 4 = .ok (.invokevirtual 135, 3) := by decide +kernel
theorem dX6_appeals_7 : decode cX6_appeals 7 = .ok (.aload_n 0, 1) := by decide +kernel
theorem dX6_appeals_8 : decode cX6_appeals 8 = .ok (.iload_n 1, 1) := by decide +kernel
theorem dX6_appeals_9 : decode cX6_appeals 9 = .ok (.iconst 5, 1) := by decide +kernel
theorem dX6_appeals_10 : decode cX6_appeals 10 = .ok (.iload_n 2, 1) := by decide +kernel
theorem dX6_appeals_11 : decode cX6_appeals 11 = .ok (.invokevirtual 135, 3) := by decide +kernel
theorem dX6_appeals_14 : decode cX6_appeals 14 = .ok (.iconst 0, 1) := by decide +kernel
theorem dX6_appeals_15 : decode cX6_appeals 15 = .ok (.istore_n 3, 1) := by decide +kernel
theorem dX6_appeals_16 : decode cX6_appeals 16 = .ok (.iconst 0, 1) := by decide +kernel
theorem dX6_appeals_17 : decode cX6_appeals 17 = .ok (.istore 4, 2) := by decide +kernel
theorem dX6_appeals_19 : decode cX6_appeals 19 = .ok (.iload 4, 2) := by decide +kernel
theorem dX6_appeals_21 : decode cX6_appeals 21 = .ok (.aload_n 0, 1) := by decide +kernel
theorem dX6_appeals_22 : decode cX6_appeals 22 = .ok (.getfield 9, 3) := by decide +kernel
theorem dX6_appeals_25 : decode cX6_appeals 25 = .ok (.iconst 4, 1) := by decide +kernel
theorem dX6_appeals_26 : decode cX6_appeals 26 = .ok (.iaload, 1) := by decide +kernel
theorem dX6_appeals_27 : decode cX6_appeals 27 = .ok (.if_icmp .ge 23, 3) := by decide +kernel
theorem dX6_appeals_30 : decode cX6_appeals 30 = .ok (.aload_n 0, 1) := by decide +kernel
theorem dX6_appeals_31 : decode cX6_appeals 31 = .ok (.iload 4, 2) := by decide +kernel
theorem dX6_appeals_33 : decode cX6_appeals 33 = .ok (.iconst 2, 1) := by decide +kernel
theorem dX6_appeals_34 : decode cX6_appeals 34 = .ok (.invokevirtual 138, 3) := by decide +kernel
theorem dX6_appeals_37 : decode cX6_appeals 37 = .ok (.iconst 1, 1) := by decide +kernel
theorem dX6_appeals_38 : decode cX6_appeals 38 = .ok (.if_icmp .ne 6, 3) := by decide +kernel
theorem dX6_appeals_41 : decode cX6_appeals 41 = .ok (.iinc 3 1, 3) := by decide +kernel
theorem dX6_appeals_44 : decode cX6_appeals 44 = .ok (.iinc 4 1, 3) := by decide +kernel
theorem dX6_appeals_47 : decode cX6_appeals 47 = .ok (.goto (-28), 3) := by decide +kernel
theorem dX6_appeals_50 : decode cX6_appeals 50 = .ok (.iload_n 3, 1) := by decide +kernel
theorem dX6_appeals_51 : decode cX6_appeals 51 = .ok (.ireturn, 1) := by decide +kernel
theorem dX6_appealTold_0 : decode cX6_appealTold 0 = .ok (.aload_n 0, 1) := by decide +kernel
theorem dX6_appealTold_1 : decode cX6_appealTold 1 = .ok (.invokevirtual 197, 3) := by decide +kernel
theorem dX6_appealTold_4 : decode cX6_appealTold 4 = .ok (.aload_n 0, 1) := by decide +kernel
theorem dX6_appealTold_5 : decode cX6_appealTold 5 = .ok (.iconst 0, 1) := by decide +kernel
theorem dX6_appealTold_6 : decode cX6_appealTold 6 = .ok (.aload_n 0, 1) := by decide +kernel
theorem dX6_appealTold_7 : decode cX6_appealTold 7 = .ok (.getfield 9, 3) := by decide +kernel
theorem dX6_appealTold_10 : decode cX6_appealTold 10 = .ok (.iconst 4, 1) := by decide +kernel
theorem dX6_appealTold_11 : decode cX6_appealTold 11 = .ok (.iaload, 1) := by decide +kernel
theorem dX6_appealTold_12 : decode cX6_appealTold 12 = .ok (.iconst 1, 1) := by decide +kernel
theorem dX6_appealTold_13 : decode cX6_appealTold 13 = .ok (.isub, 1) := by decide +kernel
theorem dX6_appealTold_14 : decode cX6_appealTold 14 = .ok (.invokevirtual 213, 3) := by decide +kernel
theorem dX6_appealTold_17 : decode cX6_appealTold 17 = .ok (.istore_n 1, 1) := by decide +kernel
theorem dX6_appealTold_18 : decode cX6_appealTold 18 = .ok (.aload_n 0, 1) := by decide +kernel
theorem dX6_appealTold_19 : decode cX6_appealTold 19 = .ok (.iconst 0, 1) := by decide +kernel
theorem dX6_appealTold_20 : decode cX6_appealTold 20 = .ok (.aload_n 0, 1) := by decide +kernel
theorem dX6_appealTold_21 : decode cX6_appealTold 21 = .ok (.getfield 9, 3) := by decide +kernel
theorem dX6_appealTold_24 : decode cX6_appealTold 24 = .ok (.iconst 3, 1) := by decide +kernel
theorem dX6_appealTold_25 : decode cX6_appealTold 25 = .ok (.iaload, 1) := by decide +kernel
theorem dX6_appealTold_26 : decode cX6_appealTold 26 = .ok (.iconst 1, 1) := by decide +kernel
theorem dX6_appealTold_27 : decode cX6_appealTold 27 = .ok (.isub, 1) := by decide +kernel
theorem dX6_appealTold_28 : decode cX6_appealTold 28 = .ok (.invokevirtual 213, 3) := by decide +kernel
theorem dX6_appealTold_31 : decode cX6_appealTold 31 = .ok (.istore_n 2, 1) := by decide +kernel
theorem dX6_appealTold_32 : decode cX6_appealTold 32 = .ok (.aload_n 0, 1) := by decide +kernel
theorem dX6_appealTold_33 : decode cX6_appealTold 33 = .ok (.aload_n 0, 1) := by decide +kernel
theorem dX6_appealTold_34 : decode cX6_appealTold 34 = .ok (.getfield 180, 3) := by decide +kernel
theorem dX6_appealTold_37 : decode cX6_appealTold 37 = .ok (.ifCond .ne 11, 3) := by decide +kernel
theorem dX6_appealTold_40 : decode cX6_appealTold 40 = .ok (.aload_n 0, 1) := by decide +kernel
theorem dX6_appealTold_41 : decode cX6_appealTold 41 = .ok (.iload_n 1, 1) := by decide +kernel
theorem dX6_appealTold_42 : decode cX6_appealTold 42 = .ok (.invokevirtual 250, 3) := by decide +kernel
theorem dX6_appealTold_45 : decode cX6_appealTold 45 = .ok (.ifCond .eq 7, 3) := by decide +kernel
theorem dX6_appealTold_48 : decode cX6_appealTold 48 = .ok (.iconst 1, 1) := by decide +kernel
theorem dX6_appealTold_49 : decode cX6_appealTold 49 = .ok (.goto 4, 3) := by decide +kernel
theorem dX6_appealTold_52 : decode cX6_appealTold 52 = .ok (.iconst 0, 1) := by decide +kernel
theorem dX6_appealTold_53 : decode cX6_appealTold 53 = .ok (.invokevirtual 230, 3) := by decide +kernel
theorem dX6_appealTold_56 : decode cX6_appealTold 56 = .ok (.ifCond .eq 13, 3) := by decide +kernel
theorem dX6_appealTold_59 : decode cX6_appealTold 59 = .ok (.aload_n 0, 1) := by decide +kernel
theorem dX6_appealTold_60 : decode cX6_appealTold 60 = .ok (.aload_n 0, 1) := by decide +kernel
theorem dX6_appealTold_61 : decode cX6_appealTold 61 = .ok (.iload_n 1, 1) := by decide +kernel
theorem dX6_appealTold_62 : decode cX6_appealTold 62 = .ok (.iload_n 2, 1) := by decide +kernel
theorem dX6_appealTold_63 : decode cX6_appealTold 63 = .ok (.invokevirtual 253, 3) := by decide +kernel
theorem dX6_appealTold_66 : decode cX6_appealTold 66 = .ok (.putfield 238, 3) := by decide +kernel
theorem dX6_appealTold_69 : decode cX6_appealTold 69 = .ok (.return_, 1) := by decide +kernel
theorem dX6_mayInspect_0 : decode cX6_mayInspect 0 = .ok (.aload_n 0, 1) := by decide +kernel
theorem dX6_mayInspect_1 : decode cX6_mayInspect 1 = .ok (.iload_n 1, 1) := by decide +kernel
theorem dX6_mayInspect_2 : decode cX6_mayInspect 2 = .ok (.invokevirtual 112, 3) := by decide +kernel
theorem dX6_mayInspect_5 : decode cX6_mayInspect 5 = .ok (.ifCond .eq 27, 3) := by decide +kernel
theorem dX6_mayInspect_8 : decode cX6_mayInspect 8 = .ok (.aload_n 0, 1) := by decide +kernel
theorem dX6_mayInspect_9 : decode cX6_mayInspect 9 = .ok (.iload_n 1, 1) := by decide +kernel
theorem dX6_mayInspect_10 : decode cX6_mayInspect 10 = .ok (.iconst 5, 1) := by decide +kernel
theorem dX6_mayInspect_11 : decode cX6_mayInspect 11 = .ok (.invokevirtual 102, 3) := by decide +kernel
theorem dX6_mayInspect_14 : decode cX6_mayInspect 14 = .ok (.ifCond .ne 18, 3) := by decide +kernel
theorem dX6_mayInspect_17 : decode cX6_mayInspect 17 = .ok (.aload_n 0, 1) := by decide +kernel
theorem dX6_mayInspect_18 : decode cX6_mayInspect 18 = .ok (.getfield 9, 3) := by decide +kernel
theorem dX6_mayInspect_21 : decode cX6_mayInspect 21 = .ok (.iconst 4, 1) := by decide +kernel
theorem dX6_mayInspect_22 : decode cX6_mayInspect 22 = .ok (.iaload, 1) := by decide +kernel
theorem dX6_mayInspect_23 : decode cX6_mayInspect 23 = .ok (.bipush 20, 2) := by decide +kernel
theorem dX6_mayInspect_25 : decode cX6_mayInspect 25 = .ok (.if_icmp .ge 7, 3) := by decide +kernel
theorem dX6_mayInspect_28 : decode cX6_mayInspect 28 = .ok (.iconst 1, 1) := by decide +kernel
theorem dX6_mayInspect_29 : decode cX6_mayInspect 29 = .ok (.goto 4, 3) := by decide +kernel
theorem dX6_mayInspect_32 : decode cX6_mayInspect 32 = .ok (.iconst 0, 1) := by decide +kernel
theorem dX6_mayInspect_33 : decode cX6_mayInspect 33 = .ok (.ireturn, 1) := by decide +kernel
theorem dX6_inTime_0 : decode cX6_inTime 0 = .ok (.aload_n 0, 1) := by decide +kernel
theorem dX6_inTime_1 : decode cX6_inTime 1 = .ok (.iload_n 1, 1) := by decide +kernel
theorem dX6_inTime_2 : decode cX6_inTime 2 = .ok (.iconst 3, 1) := by decide +kernel
theorem dX6_inTime_3 : decode cX6_inTime 3 = .ok (.invokevirtual 96, 3) := by decide +kernel
theorem dX6_inTime_6 : decode cX6_inTime 6 = .ok (.istore_n 2, 1) := by decide +kernel
theorem dX6_inTime_7 : decode cX6_inTime 7 = .ok (.iload_n 2, 1) := by decide +kernel
theorem dX6_inTime_8 : decode cX6_inTime 8 = .ok (.iconst (-1), 1) := by decide +kernel
theorem dX6_inTime_9 : decode cX6_inTime 9 = .ok (.if_icmp .ne 5, 3) := by decide +kernel
theorem dX6_inTime_12 : decode cX6_inTime 12 = .ok (.iconst 1, 1) := by decide +kernel
theorem dX6_inTime_13 : decode cX6_inTime 13 = .ok (.ireturn, 1) := by decide +kernel
theorem dX6_inTime_14 : decode cX6_inTime 14 = .ok (.aload_n 0, 1) := by decide +kernel
theorem dX6_inTime_15 : decode cX6_inTime 15 = .ok (.iload_n 1, 1) := by decide +kernel
theorem dX6_inTime_16 : decode cX6_inTime 16 = .ok (.iconst 1, 1) := by decide +kernel
theorem dX6_inTime_17 : decode cX6_inTime 17 = .ok (.invokevirtual 96, 3) := by decide +kernel
theorem dX6_inTime_20 : decode cX6_inTime 20 = .ok (.iconst 1, 1) := by decide +kernel
theorem dX6_inTime_21 : decode cX6_inTime 21 = .ok (.if_icmp .ne 27, 3) := by decide +kernel
theorem dX6_inTime_24 : decode cX6_inTime 24 = .ok (.aload_n 0, 1) := by decide +kernel
theorem dX6_inTime_25 : decode cX6_inTime 25 = .ok (.getfield 9, 3) := by decide +kernel
theorem dX6_inTime_28 : decode cX6_inTime 28 = .ok (.iconst 0, 1) := by decide +kernel
theorem dX6_inTime_29 : decode cX6_inTime 29 = .ok (.iaload, 1) := by decide +kernel
theorem dX6_inTime_30 : decode cX6_inTime 30 = .ok (.sipush 1440, 3) := by decide +kernel
theorem dX6_inTime_33 : decode cX6_inTime 33 = .ok (.idiv, 1) := by decide +kernel
theorem dX6_inTime_34 : decode cX6_inTime 34 = .ok (.iload_n 2, 1) := by decide +kernel
theorem dX6_inTime_35 : decode cX6_inTime 35 = .ok (.sipush 1440, 3) := by decide +kernel
theorem dX6_inTime_38 : decode cX6_inTime 38 = .ok (.idiv, 1) := by decide +kernel
theorem dX6_inTime_39 : decode cX6_inTime 39 = .ok (.if_icmp .ne 7, 3) := by decide +kernel
theorem dX6_inTime_42 : decode cX6_inTime 42 = .ok (.iconst 1, 1) := by decide +kernel
theorem dX6_inTime_43 : decode cX6_inTime 43 = .ok (.goto 4, 3) := by decide +kernel
theorem dX6_inTime_46 : decode cX6_inTime 46 = .ok (.iconst 0, 1) := by decide +kernel
theorem dX6_inTime_47 : decode cX6_inTime 47 = .ok (.ireturn, 1) := by decide +kernel
theorem dX6_inTime_48 : decode cX6_inTime 48 = .ok (.aload_n 0, 1) := by decide +kernel
theorem dX6_inTime_49 : decode cX6_inTime 49 = .ok (.getfield 9, 3) := by decide +kernel
theorem dX6_inTime_52 : decode cX6_inTime 52 = .ok (.iconst 0, 1) := by decide +kernel
theorem dX6_inTime_53 : decode cX6_inTime 53 = .ok (.iaload, 1) := by decide +kernel
theorem dX6_inTime_54 : decode cX6_inTime 54 = .ok (.iload_n 2, 1) := by decide +kernel
theorem dX6_inTime_55 : decode cX6_inTime 55 = .ok (.isub, 1) := by decide +kernel
theorem dX6_inTime_56 : decode cX6_inTime 56 = .ok (.aload_n 0, 1) := by decide +kernel
theorem dX6_inTime_57 : decode cX6_inTime 57 = .ok (.iload_n 1, 1) := by decide +kernel
theorem dX6_inTime_58 : decode cX6_inTime 58 = .ok (.iconst 1, 1) := by decide +kernel
theorem dX6_inTime_59 : decode cX6_inTime 59 = .ok (.invokevirtual 96, 3) := by decide +kernel
theorem dX6_inTime_62 : decode cX6_inTime 62 = .ok (.ifCond .ne 8, 3) := by decide +kernel
theorem dX6_inTime_65 : decode cX6_inTime 65 = .ok (.bipush 60, 2) := by decide +kernel
theorem dX6_inTime_67 : decode cX6_inTime 67 = .ok (.goto 5, 3) := by decide +kernel
theorem dX6_inTime_70 : decode cX6_inTime 70 = .ok (.bipush 30, 2) := by decide +kernel
theorem dX6_inTime_72 : decode cX6_inTime 72 = .ok (.if_icmp .ge 7, 3) := by decide +kernel
theorem dX6_inTime_75 : decode cX6_inTime 75 = .ok (.iconst 1, 1) := by decide +kernel
theorem dX6_inTime_76 : decode cX6_inTime 76 = .ok (.goto 4, 3) := by decide +kernel
theorem dX6_inTime_79 : decode cX6_inTime 79 = .ok (.iconst 0, 1) := by decide +kernel
theorem dX6_inTime_80 : decode cX6_inTime 80 = .ok (.ireturn, 1) := by decide +kernel
theorem dX6_zones_0 : decode cX6_zones 0 = .ok (.iconst 0, 1) := by decide +kernel
theorem dX6_zones_1 : decode cX6_zones 1 = .ok (.istore_n 3, 1) := by decide +kernel
theorem dX6_zones_2 : decode cX6_zones 2 = .ok (.iload_n 1, 1) := by decide +kernel
theorem dX6_zones_3 : decode cX6_zones 3 = .ok (.iload_n 2, 1) := by decide +kernel
theorem dX6_zones_4 : decode cX6_zones 4 = .ok (.invokestatic 81, 3) := by decide +kernel
theorem dX6_zones_7 : decode cX6_zones 7 = .ok (.istore 4, 2) := by decide +kernel
theorem dX6_zones_9 : decode cX6_zones 9 = .ok (.iload 4, 2) := by decide +kernel
theorem dX6_zones_11 : decode cX6_zones 11 = .ok (.iload_n 1, 1) := by decide +kernel
theorem dX6_zones_12 : decode cX6_zones 12 = .ok (.iload_n 2, 1) := by decide +kernel
theorem dX6_zones_13 : decode cX6_zones 13 = .ok (.invokestatic 87, 3) := by decide +kernel
theorem dX6_zones_16 : decode cX6_zones 16 = .ok (.if_icmp .gt 24, 3) := by decide +kernel
theorem dX6_zones_19 : decode cX6_zones 19 = .ok (.iload_n 3, 1) := by decide +kernel
theorem dX6_zones_20 : decode cX6_zones 20 = .ok (.iconst 1, 1) := by decide +kernel
theorem dX6_zones_21 : decode cX6_zones 21 = .ok (.aload_n 0, 1) := by decide +kernel
theorem dX6_zones_22 : decode cX6_zones 22 = .ok (.getfield 9, 3) := by decide +kernel
theorem dX6_zones_25 : decode cX6_zones 25 = .ok (.bipush 9, 2) := by decide +kernel
theorem dX6_zones_27 : decode cX6_zones 27 = .ok (.iload 4, 2) := by decide +kernel
theorem dX6_zones_29 : decode cX6_zones 29 = .ok (.iadd, 1) := by decide +kernel
theorem dX6_zones_30 : decode cX6_zones 30 = .ok (.iaload, 1) := by decide +kernel
theorem dX6_zones_31 : decode cX6_zones 31 = .ok (.ishl, 1) := by decide +kernel
theorem dX6_zones_32 : decode cX6_zones 32 = .ok (.ior, 1) := by decide +kernel
theorem dX6_zones_33 : decode cX6_zones 33 = .ok (.istore_n 3, 1) := by decide +kernel
theorem dX6_zones_34 : decode cX6_zones 34 = .ok (.iinc 4 1, 3) := by decide +kernel
theorem dX6_zones_37 : decode cX6_zones 37 = .ok (.goto (-28), 3) := by decide +kernel
theorem dX6_zones_40 : decode cX6_zones 40 = .ok (.iload_n 3, 1) := by decide +kernel
theorem dX6_zones_41 : decode cX6_zones 41 = .ok (.ireturn, 1) := by decide +kernel
theorem dX6_rideZones_0 : decode cX6_rideZones 0 = .ok (.aload_n 0, 1) := by decide +kernel
theorem dX6_rideZones_1 : decode cX6_rideZones 1 = .ok (.aload_n 0, 1) := by decide +kernel
theorem dX6_rideZones_2 : decode cX6_rideZones 2 = .ok (.iload_n 1, 1) := by decide +kernel
theorem dX6_rideZones_3 : decode cX6_rideZones 3 = .ok (.iconst 1, 1) := by decide +kernel
theorem dX6_rideZones_4 : decode cX6_rideZones 4 = .ok (.invokevirtual 102, 3) := by decide +kernel
theorem dX6_rideZones_7 : decode cX6_rideZones 7 = .ok (.aload_n 0, 1) := by decide +kernel
theorem dX6_rideZones_8 : decode cX6_rideZones 8 = .ok (.iload_n 1, 1) := by decide +kernel
theorem dX6_rideZones_9 : decode cX6_rideZones 9 = .ok (.iconst 2, 1) := by decide +kernel
theorem dX6_rideZones_10 : decode cX6_rideZones 10 = .ok (.invokevirtual 102, 3) := by decide +kernel
theorem dX6_rideZones_13 : decode cX6_rideZones 13 = .ok (.invokevirtual 119, 3) := by decide +kernel
theorem dX6_rideZones_16 : decode cX6_rideZones 16 = .ok (.ireturn, 1) := by decide +kernel
theorem dX6_covers_0 : decode cX6_covers 0 = .ok (.iload_n 1, 1) := by decide +kernel
theorem dX6_covers_1 : decode cX6_covers 1 = .ok (.iload_n 0, 1) := by decide +kernel
theorem dX6_covers_2 : decode cX6_covers 2 = .ok (.iconst (-1), 1) := by decide +kernel
theorem dX6_covers_3 : decode cX6_covers 3 = .ok (.ixor, 1) := by decide +kernel
theorem dX6_covers_4 : decode cX6_covers 4 = .ok (.iand, 1) := by decide +kernel
theorem dX6_covers_5 : decode cX6_covers 5 = .ok (.ifCond .ne 7, 3) := by decide +kernel
theorem dX6_covers_8 : decode cX6_covers 8 = .ok (.iconst 1, 1) := by decide +kernel
theorem dX6_covers_9 : decode cX6_covers 9 = .ok (.goto 4, 3) := by decide +kernel
theorem dX6_covers_12 : decode cX6_covers 12 = .ok (.iconst 0, 1) := by decide +kernel
theorem dX6_covers_13 : decode cX6_covers 13 = .ok (.ireturn, 1) := by decide +kernel
theorem dX6_fault_0 : decode cX6_fault 0 = .ok (.aload_n 0, 1) := by decide +kernel
theorem dX6_fault_1 : decode cX6_fault 1 = .ok (.iload_n 1, 1) := by decide +kernel
theorem dX6_fault_2 : decode cX6_fault 2 = .ok (.iconst 3, 1) := by decide +kernel
theorem dX6_fault_3 : decode cX6_fault 3 = .ok (.invokevirtual 102, 3) := by decide +kernel
theorem dX6_fault_6 : decode cX6_fault 6 = .ok (.iconst (-1), 1) := by decide +kernel
theorem dX6_fault_7 : decode cX6_fault 7 = .ok (.if_icmp .ne 5, 3) := by decide +kernel
theorem dX6_fault_10 : decode cX6_fault 10 = .ok (.iconst 0, 1) := by decide +kernel
theorem dX6_fault_11 : decode cX6_fault 11 = .ok (.ireturn, 1) := by decide +kernel
theorem dX6_fault_12 : decode cX6_fault 12 = .ok (.aload_n 0, 1) := by decide +kernel
theorem dX6_fault_13 : decode cX6_fault 13 = .ok (.iload_n 1, 1) := by decide +kernel
theorem dX6_fault_14 : decode cX6_fault 14 = .ok (.iconst 4, 1) := by decide +kernel
theorem dX6_fault_15 : decode cX6_fault 15 = .ok (.invokevirtual 102, 3) := by decide +kernel
theorem dX6_fault_18 : decode cX6_fault 18 = .ok (.istore_n 2, 1) := by decide +kernel
theorem dX6_fault_19 : decode cX6_fault 19 = .ok (.iload_n 2, 1) := by decide +kernel
theorem dX6_fault_20 : decode cX6_fault 20 = .ok (.iconst (-1), 1) := by decide +kernel
theorem dX6_fault_21 : decode cX6_fault 21 = .ok (.if_icmp .ne 5, 3) := by decide +kernel
theorem dX6_fault_24 : decode cX6_fault 24 = .ok (.iconst 1, 1) := by decide +kernel
theorem dX6_fault_25 : decode cX6_fault 25 = .ok (.ireturn, 1) := by decide +kernel
theorem dX6_fault_26 : decode cX6_fault 26 = .ok (.aload_n 0, 1) := by decide +kernel
theorem dX6_fault_27 : decode cX6_fault 27 = .ok (.iload_n 2, 1) := by decide +kernel
theorem dX6_fault_28 : decode cX6_fault 28 = .ok (.invokevirtual 122, 3) := by decide +kernel
theorem dX6_fault_31 : decode cX6_fault 31 = .ok (.ifCond .ne 5, 3) := by decide +kernel
theorem dX6_fault_34 : decode cX6_fault 34 = .ok (.iconst 2, 1) := by decide +kernel
theorem dX6_fault_35 : decode cX6_fault 35 = .ok (.ireturn, 1) := by decide +kernel
theorem dX6_fault_36 : decode cX6_fault 36 = .ok (.aload_n 0, 1) := by decide +kernel
theorem dX6_fault_37 : decode cX6_fault 37 = .ok (.iload_n 2, 1) := by decide +kernel
theorem dX6_fault_38 : decode cX6_fault 38 = .ok (.iconst 2, 1) := by decide +kernel
theorem dX6_fault_39 : decode cX6_fault 39 = .ok (.invokevirtual 96, 3) := by decide +kernel
theorem dX6_fault_42 : decode cX6_fault 42 = .ok (.aload_n 0, 1) := by decide +kernel
theorem dX6_fault_43 : decode cX6_fault 43 = .ok (.iload_n 1, 1) := by decide +kernel
theorem dX6_fault_44 : decode cX6_fault 44 = .ok (.invokevirtual 125, 3) := by decide +kernel
theorem dX6_fault_47 : decode cX6_fault 47 = .ok (.invokestatic 128, 3) := by decide +kernel
theorem dX6_fault_50 : decode cX6_fault 50 = .ok (.ifCond .ne 5, 3) := by decide +kernel
theorem dX6_fault_53 : decode cX6_fault 53 = .ok (.iconst 3, 1) := by decide +kernel
theorem dX6_fault_54 : decode cX6_fault 54 = .ok (.ireturn, 1) := by decide +kernel
theorem dX6_fault_55 : decode cX6_fault 55 = .ok (.aload_n 0, 1) := by decide +kernel
theorem dX6_fault_56 : decode cX6_fault 56 = .ok (.iload_n 2, 1) := by decide +kernel
theorem dX6_fault_57 : decode cX6_fault 57 = .ok (.iconst 1, 1) := by decide +kernel
theorem dX6_fault_58 : decode cX6_fault 58 = .ok (.invokevirtual 96, 3) := by decide +kernel
theorem dX6_fault_61 : decode cX6_fault 61 = .ok (.ifCond .ne 15, 3) := by decide +kernel
theorem dX6_fault_64 : decode cX6_fault 64 = .ok (.aload_n 0, 1) := by decide +kernel
theorem dX6_fault_65 : decode cX6_fault 65 = .ok (.iload_n 2, 1) := by decide +kernel
theorem dX6_fault_66 : decode cX6_fault 66 = .ok (.iconst 5, 1) := by decide +kernel
theorem dX6_fault_67 : decode cX6_fault 67 = .ok (.invokevirtual 96, 3) := by decide +kernel
theorem dX6_fault_70 : decode cX6_fault 70 = .ok (.iconst 3, 1) := by decide +kernel
theorem dX6_fault_71 : decode cX6_fault 71 = .ok (.if_icmp .le 5, 3) := by decide +kernel
theorem dX6_fault_74 : decode cX6_fault 74 = .ok (.iconst 4, 1) := by decide +kernel
theorem dX6_fault_75 : decode cX6_fault 75 = .ok (.ireturn, 1) := by decide +kernel
theorem dX6_fault_76 : decode cX6_fault 76 = .ok (.aload_n 0, 1) := by decide +kernel
theorem dX6_fault_77 : decode cX6_fault 77 = .ok (.iload_n 2, 1) := by decide +kernel
theorem dX6_fault_78 : decode cX6_fault 78 = .ok (.iconst 1, 1) := by decide +kernel
theorem dX6_fault_79 : decode cX6_fault 79 = .ok (.invokevirtual 96, 3) := by decide +kernel
theorem dX6_fault_82 : decode cX6_fault 82 = .ok (.iconst 2, 1) := by decide +kernel
theorem dX6_fault_83 : decode cX6_fault 83 = .ok (.if_icmp .ne 27, 3) := by decide +kernel
theorem dX6_fault_86 : decode cX6_fault 86 = .ok (.aload_n 0, 1) := by decide +kernel
theorem dX6_fault_87 : decode cX6_fault 87 = .ok (.iload_n 1, 1) := by decide +kernel
theorem dX6_fault_88 : decode cX6_fault 88 = .ok (.iconst 2, 1) := by decide +kernel
theorem dX6_fault_89 : decode cX6_fault 89 = .ok (.invokevirtual 102, 3) := by decide +kernel
theorem dX6_fault_92 : decode cX6_fault 92 = .ok (.aload_n 0, 1) := by decide +kernel
theorem dX6_fault_93 : decode cX6_fault 93 = .ok (.iload_n 2, 1) := by decide +kernel
theorem dX6_fault_94 : decode cX6_fault 94 = .ok (.iconst 4, 1) := by decide +kernel
theorem dX6_fault_95 : decode cX6_fault 95 = .ok (.invokevirtual 96, 3) := by decide +kernel
theorem dX6_fault_98 : decode cX6_fault 98 = .ok (.isub, 1) := by decide +kernel
theorem dX6_fault_99 : decode cX6_fault 99 = .ok (.invokestatic 116, 3) := by decide +kernel
theorem dX6_fault_102 : decode cX6_fault 102 = .ok (.iconst 4, 1) := by decide +kernel
theorem dX6_fault_103 : decode cX6_fault 103 = .ok (.if_icmp .le 7, 3) := by decide +kernel
theorem dX6_fault_106 : decode cX6_fault 106 = .ok (.iconst 5, 1) := by decide +kernel
theorem dX6_fault_107 : decode cX6_fault 107 = .ok (.goto 4, 3) := by decide +kernel
theorem dX6_fault_110 : decode cX6_fault 110 = .ok (.iconst 0, 1) := by decide +kernel
theorem dX6_fault_111 : decode cX6_fault 111 = .ok (.ireturn, 1) := by decide +kernel
theorem dX6_inspects_0 : decode cX6_inspects 0 = .ok (.aload_n 0, 1) := by decide +kernel
theorem dX6_inspects_1 : decode cX6_inspects 1 = .ok (.iload_n 1, 1) := by decide +kernel
theorem dX6_inspects_2 : decode cX6_inspects 2 = .ok (.invokevirtual 132, 3) := by decide +kernel
theorem dX6_inspects_5 : decode cX6_inspects 5 = .ok (.istore_n 2, 1) := by decide +kernel
theorem dX6_inspects_6 : decode cX6_inspects 6 = .ok (.aload_n 0, 1) := by decide +kernel
theorem dX6_inspects_7 : decode cX6_inspects 7 = .ok (.getfield 9, 3) := by decide +kernel
theorem dX6_inspects_10 : decode cX6_inspects 10 = .ok (.bipush 7, 2) := by decide +kernel
theorem dX6_inspects_12 : decode cX6_inspects 12 = .ok (.dup2, 1) := by decide +kernel
theorem dX6_inspects_13 : decode cX6_inspects 13 = .ok (.iaload, 1) := by decide +kernel
theorem dX6_inspects_14 : decode cX6_inspects 14 = .ok (.iconst 1, 1) := by decide +kernel
theorem dX6_inspects_15 : decode cX6_inspects 15 = .ok (.iadd, 1) := by decide +kernel
theorem dX6_inspects_16 : decode cX6_inspects 16 = .ok (.iastore, 1) := by decide +kernel
theorem dX6_inspects_17 : decode cX6_inspects 17 = .ok (.aload_n 0, 1) := by decide +kernel
theorem dX6_inspects_18 : decode cX6_inspects 18 = .ok (.iload_n 1, 1) := by decide +kernel
theorem dX6_inspects_19 : decode cX6_inspects 19 = .ok (.iconst 5, 1) := by decide +kernel
theorem dX6_inspects_20 : decode cX6_inspects 20 = .ok (.iconst 1, 1) := by decide +kernel
theorem dX6_inspects_21 : decode cX6_inspects 21 = .ok (.invokevirtual 109, 3) := by decide +kernel
theorem dX6_inspects_24 : decode cX6_inspects 24 = .ok (.iload_n 2, 1) := by decide +kernel
theorem dX6_inspects_25 : decode cX6_inspects 25 = .ok (.ifCond .ne 5, 3) := by decide +kernel
theorem dX6_inspects_28 : decode cX6_inspects 28 = .ok (.iconst 0, 1) := by decide +kernel
theorem dX6_inspects_29 : decode cX6_inspects 29 = .ok (.ireturn, 1) := by decide +kernel
theorem dX6_inspects_30 : decode cX6_inspects 30 = .ok (.aload_n 0, 1) := by decide +kernel
theorem dX6_inspects_31 : decode cX6_inspects 31 = .ok (.getfield 9, 3) := by decide +kernel
theorem dX6_inspects_34 : decode cX6_inspects 34 = .ok (.iconst 4, 1) := by decide +kernel
theorem dX6_inspects_35 : decode cX6_inspects 35 = .ok (.iaload, 1) := by decide +kernel
theorem dX6_inspects_36 : decode cX6_inspects 36 = .ok (.istore_n 3, 1) := by decide +kernel
theorem dX6_inspects_37 : decode cX6_inspects 37 = .ok (.aload_n 0, 1) := by decide +kernel
theorem dX6_inspects_38 : decode cX6_inspects 38 = .ok (.iload_n 3, 1) := by decide +kernel
theorem dX6_inspects_39 : decode cX6_inspects 39 = .ok (.iconst 0, 1) := by decide +kernel
theorem dX6_inspects_40 : decode cX6_inspects 40 = .ok (.iload_n 1, 1) := by decide +kernel
theorem dX6_inspects_41 : decode cX6_inspects 41 = .ok (.invokevirtual 135, 3) := by decide +kernel
theorem dX6_inspects_44 : decode cX6_inspects 44 = .ok (.aload_n 0, 1) := by decide +kernel
theorem dX6_inspects_45 : decode cX6_inspects 45 = .ok (.iload_n 3, 1) := by decide +kernel
theorem dX6_inspects_46 : decode cX6_inspects 46 = .ok (.iconst 1, 1) := by decide +kernel
theorem dX6_inspects_47 : decode cX6_inspects 47 = .ok (.iload_n 2, 1) := by decide +kernel
theorem dX6_inspects_48 : decode cX6_inspects 48 = .ok (.invokevirtual 135, 3) := by decide +kernel
theorem dX6_inspects_51 : decode cX6_inspects 51 = .ok (.aload_n 0, 1) := by decide +kernel
theorem dX6_inspects_52 : decode cX6_inspects 52 = .ok (.iload_n 3, 1) := by decide +kernel
theorem dX6_inspects_53 : decode cX6_inspects 53 = .ok (.iconst 2, 1) := by decide +kernel
theorem dX6_inspects_54 : decode cX6_inspects 54 = .ok (.iconst 0, 1) := by decide +kernel
theorem dX6_inspects_55 : decode cX6_inspects 55 = .ok (.invokevirtual 135, 3) := by decide +kernel
theorem dX6_inspects_58 : decode cX6_inspects 58 = .ok (.aload_n 0, 1) := by decide +kernel
theorem dX6_inspects_59 : decode cX6_inspects 59 = .ok (.iload_n 3, 1) := by decide +kernel
theorem dX6_inspects_60 : decode cX6_inspects 60 = .ok (.iconst 3, 1) := by decide +kernel
theorem dX6_inspects_61 : decode cX6_inspects 61 = .ok (.aload_n 0, 1) := by decide +kernel
theorem dX6_inspects_62 : decode cX6_inspects 62 = .ok (.getfield 9, 3) := by decide +kernel
theorem dX6_inspects_65 : decode cX6_inspects 65 = .ok (.iconst 0, 1) := by decide +kernel
theorem dX6_inspects_66 : decode cX6_inspects 66 = .ok (.iaload, 1) := by decide +kernel
theorem dX6_inspects_67 : decode cX6_inspects 67 = .ok (.invokevirtual 135, 3) := by decide +kernel
theorem dX6_inspects_70 : decode cX6_inspects 70 = .ok (.aload_n 0, 1) := by decide +kernel
theorem dX6_inspects_71 : decode cX6_inspects 71 = .ok (.iload_n 3, 1) := by decide +kernel
theorem dX6_inspects_72 : decode cX6_inspects 72 = .ok (.iconst 4, 1) := by decide +kernel
theorem dX6_inspects_73 : decode cX6_inspects 73 = .ok (.sipush 6000, 3) := by decide +kernel
theorem dX6_inspects_76 : decode cX6_inspects 76 = .ok (.invokevirtual 135, 3) := by decide +kernel
theorem dX6_inspects_79 : decode cX6_inspects 79 = .ok (.aload_n 0, 1) := by decide +kernel
theorem dX6_inspects_80 : decode cX6_inspects 80 = .ok (.iload_n 3, 1) := by decide +kernel
theorem dX6_inspects_81 : decode cX6_inspects 81 = .ok (.iconst 5, 1) := by decide +kernel
theorem dX6_inspects_82 : decode cX6_inspects 82 = .ok (.iconst (-1), 1) := by decide +kernel
theorem dX6_inspects_83 : decode cX6_inspects 83 = .ok (.invokevirtual 135, 3) := by decide +kernel
theorem dX6_inspects_86 : decode cX6_inspects 86 = .ok (.aload_n 0, 1) := by decide +kernel
theorem dX6_inspects_87 : decode cX6_inspects 87 = .ok (.iload_n 3, 1) := by decide +kernel
theorem dX6_inspects_88 : decode cX6_inspects 88 = .ok (.bipush 6, 2) := by decide +kernel
theorem dX6_inspects_90 : decode cX6_inspects 90 = .ok (.aload_n 0, 1) := by decide +kernel
theorem dX6_inspects_91 : decode cX6_inspects 91 = .ok (.iload_n 1, 1) := by decide +kernel
theorem dX6_inspects_92 : decode cX6_inspects 92 = .ok (.invokevirtual 125, 3) := by decide +kernel
theorem dX6_inspects_95 : decode cX6_inspects 95 = .ok (.invokevirtual 135, 3) := by decide +kernel
theorem dX6_inspects_98 : decode cX6_inspects 98 = .ok (.aload_n 0, 1) := by decide +kernel
theorem dX6_inspects_99 : decode cX6_inspects 99 = .ok (.getfield 9, 3) := by decide +kernel
theorem dX6_inspects_102 : decode cX6_inspects 102 = .ok (.iconst 4, 1) := by decide +kernel
theorem dX6_inspects_103 : decode cX6_inspects 103 = .ok (.dup2, 1) := by decide +kernel
theorem dX6_inspects_104 : decode cX6_inspects 104 = .ok (.iaload, 1) := by decide +kernel
theorem dX6_inspects_105 : decode cX6_inspects 105 = .ok (.iconst 1, 1) := by decide +kernel
theorem dX6_inspects_106 : decode cX6_inspects 106 = .ok (.iadd, 1) := by decide +kernel
theorem dX6_inspects_107 : decode cX6_inspects 107 = .ok (.iastore, 1) := by decide +kernel
theorem dX6_inspects_108 : decode cX6_inspects 108 = .ok (.iload_n 2, 1) := by decide +kernel
theorem dX6_inspects_109 : decode cX6_inspects 109 = .ok (.ireturn, 1) := by decide +kernel
theorem dX6_waits_0 : decode cX6_waits 0 = .ok (.aload_n 0, 1) := by decide +kernel
theorem dX6_waits_1 : decode cX6_waits 1 = .ok (.getfield 9, 3) := by decide +kernel
theorem dX6_waits_4 : decode cX6_waits 4 = .ok (.iconst 0, 1) := by decide +kernel
theorem dX6_waits_5 : decode cX6_waits 5 = .ok (.dup2, 1) := by decide +kernel
theorem dX6_waits_6 : decode cX6_waits 6 = .ok (.iaload, 1) := by decide +kernel
theorem dX6_waits_7 : decode cX6_waits 7 = .ok (.iload_n 1, 1) := by decide +kernel
theorem dX6_waits_8 : decode cX6_waits 8 = .ok (.iadd, 1) := by decide +kernel
theorem dX6_waits_9 : decode cX6_waits 9 = .ok (.iastore, 1) := by decide +kernel
theorem dX6_waits_10 : decode cX6_waits 10 = .ok (.aload_n 0, 1) := by decide +kernel
theorem dX6_waits_11 : decode cX6_waits 11 = .ok (.getfield 9, 3) := by decide +kernel
theorem dX6_waits_14 : decode cX6_waits 14 = .ok (.iconst 0, 1) := by decide +kernel
theorem dX6_waits_15 : decode cX6_waits 15 = .ok (.iaload, 1) := by decide +kernel
theorem dX6_waits_16 : decode cX6_waits 16 = .ok (.ireturn, 1) := by decide +kernel
theorem dX6_judged_0 : decode cX6_judged 0 = .ok (.aload_n 0, 1) := by decide +kernel
theorem dX6_judged_1 : decode cX6_judged 1 = .ok (.iload_n 2, 1) := by decide +kernel
theorem dX6_judged_2 : decode cX6_judged 2 = .ok (.iconst 3, 1) := by decide +kernel
theorem dX6_judged_3 : decode cX6_judged 3 = .ok (.invokevirtual 96, 3) := by decide +kernel
theorem dX6_judged_6 : decode cX6_judged 6 = .ok (.istore_n 3, 1) := by decide +kernel
theorem dX6_judged_7 : decode cX6_judged 7 = .ok (.aload_n 0, 1) := by decide +kernel
theorem dX6_judged_8 : decode cX6_judged 8 = .ok (.iload_n 2, 1) := by decide +kernel
theorem dX6_judged_9 : decode cX6_judged 9 = .ok (.iconst 0, 1) := by decide +kernel
theorem dX6_judged_10 : decode cX6_judged 10 = .ok (.invokevirtual 96, 3) := by decide +kernel
theorem dX6_judged_13 : decode cX6_judged 13 = .ok (.aload_n 0, 1) := by decide +kernel
theorem dX6_judged_14 : decode cX6_judged 14 = .ok (.iload_n 1, 1) := by decide +kernel
theorem dX6_judged_15 : decode cX6_judged 15 = .ok (.iconst 0, 1) := by decide +kernel
theorem dX6_judged_16 : decode cX6_judged 16 = .ok (.invokevirtual 138, 3) := by decide +kernel
theorem dX6_judged_19 : decode cX6_judged 19 = .ok (.if_icmp .ne 22, 3) := by decide +kernel
theorem dX6_judged_22 : decode cX6_judged 22 = .ok (.aload_n 0, 1) := by decide +kernel
theorem dX6_judged_23 : decode cX6_judged 23 = .ok (.iload_n 2, 1) := by decide +kernel
theorem dX6_judged_24 : decode cX6_judged 24 = .ok (.iconst 1, 1) := by decide +kernel
theorem dX6_judged_25 : decode cX6_judged 25 = .ok (.invokevirtual 96, 3) := by decide +kernel
theorem dX6_judged_28 : decode cX6_judged 28 = .ok (.iconst 1, 1) := by decide +kernel
theorem dX6_judged_29 : decode cX6_judged 29 = .ok (.if_icmp .ne 12, 3) := by decide +kernel
theorem dX6_judged_32 : decode cX6_judged 32 = .ok (.iload_n 3, 1) := by decide +kernel
theorem dX6_judged_33 : decode cX6_judged 33 = .ok (.iconst (-1), 1) := by decide +kernel
theorem dX6_judged_34 : decode cX6_judged 34 = .ok (.if_icmp .eq 7, 3) := by decide +kernel
theorem dX6_judged_37 : decode cX6_judged 37 = .ok (.iconst 1, 1) := by decide +kernel
theorem dX6_judged_38 : decode cX6_judged 38 = .ok (.goto 4, 3) := by decide +kernel
theorem dX6_judged_41 : decode cX6_judged 41 = .ok (.iconst 0, 1) := by decide +kernel
theorem dX6_judged_42 : decode cX6_judged 42 = .ok (.istore 4, 2) := by decide +kernel
theorem dX6_judged_44 : decode cX6_judged 44 = .ok (.iload_n 3, 1) := by decide +kernel
theorem dX6_judged_45 : decode cX6_judged 45 = .ok (.aload_n 0, 1) := by decide +kernel
theorem dX6_judged_46 : decode cX6_judged 46 = .ok (.iload_n 1, 1) := by decide +kernel
theorem dX6_judged_47 : decode cX6_judged 47 = .ok (.iconst 3, 1) := by decide +kernel
theorem dX6_judged_48 : decode cX6_judged 48 = .ok (.invokevirtual 138, 3) := by decide +kernel
theorem dX6_judged_51 : decode cX6_judged 51 = .ok (.if_icmp .gt 25, 3) := by decide +kernel
theorem dX6_judged_54 : decode cX6_judged 54 = .ok (.iload_n 3, 1) := by decide +kernel
theorem dX6_judged_55 : decode cX6_judged 55 = .ok (.sipush 1440, 3) := by decide +kernel
theorem dX6_judged_58 : decode cX6_judged 58 = .ok (.idiv, 1) := by decide +kernel
theorem dX6_judged_59 : decode cX6_judged 59 = .ok (.aload_n 0, 1) := by decide +kernel
theorem dX6_judged_60 : decode cX6_judged 60 = .ok (.iload_n 1, 1) := by decide +kernel
theorem dX6_judged_61 : decode cX6_judged 61 = .ok (.iconst 3, 1) := by decide +kernel
theorem dX6_judged_62 : decode cX6_judged 62 = .ok (.invokevirtual 138, 3) := by decide +kernel
theorem dX6_judged_65 : decode cX6_judged 65 = .ok (.sipush 1440, 3) := by decide +kernel
theorem dX6_judged_68 : decode cX6_judged 68 = .ok (.idiv, 1) := by decide +kernel
theorem dX6_judged_69 : decode cX6_judged 69 = .ok (.if_icmp .ne 7, 3) := by decide +kernel
theorem dX6_judged_72 : decode cX6_judged 72 = .ok (.iconst 1, 1) := by decide +kernel
theorem dX6_judged_73 : decode cX6_judged 73 = .ok (.goto 4, 3) := by decide +kernel
theorem dX6_judged_76 : decode cX6_judged 76 = .ok (.iconst 0, 1) := by decide +kernel
theorem dX6_judged_77 : decode cX6_judged 77 = .ok (.istore 5, 2) := by decide +kernel
theorem dX6_judged_79 : decode cX6_judged 79 = .ok (.iload 4, 2) := by decide +kernel
theorem dX6_judged_81 : decode cX6_judged 81 = .ok (.ifCond .eq 31, 3) := by decide +kernel
theorem dX6_judged_84 : decode cX6_judged 84 = .ok (.iload 5, 2) := by decide +kernel
theorem dX6_judged_86 : decode cX6_judged 86 = .ok (.ifCond .eq 26, 3) := by decide +kernel
theorem dX6_judged_89 : decode cX6_judged 89 = .ok (.aload_n 0, 1) := by decide +kernel
theorem dX6_judged_90 : decode cX6_judged 90 = .ok (.iload_n 2, 1) := by decide +kernel
theorem dX6_judged_91 : decode cX6_judged 91 = .ok (.iconst 2, 1) := by decide +kernel
theorem dX6_judged_92 : decode cX6_judged 92 = .ok (.invokevirtual 96, 3) := by decide +kernel
theorem dX6_judged_95 : decode cX6_judged 95 = .ok (.aload_n 0, 1) := by decide +kernel
theorem dX6_judged_96 : decode cX6_judged 96 = .ok (.iload_n 1, 1) := by decide +kernel
theorem dX6_judged_97 : decode cX6_judged 97 = .ok (.bipush 6, 2) := by decide +kernel
theorem dX6_judged_99 : decode cX6_judged 99 = .ok (.invokevirtual 138, 3) := by decide +kernel
theorem dX6_judged_102 : decode cX6_judged 102 = .ok (.invokestatic 128, 3) := by decide +kernel
theorem dX6_judged_105 : decode cX6_judged 105 = .ok (.ifCond .eq 7, 3) := by decide +kernel
theorem dX6_judged_108 : decode cX6_judged 108 = .ok (.iconst 2, 1) := by decide +kernel
theorem dX6_judged_109 : decode cX6_judged 109 = .ok (.goto 4, 3) := by decide +kernel
theorem dX6_judged_112 : decode cX6_judged 112 = .ok (.iconst 3, 1) := by decide +kernel
theorem dX6_judged_113 : decode cX6_judged 113 = .ok (.ireturn, 1) := by decide +kernel
theorem dX6_decides_0 : decode cX6_decides 0 = .ok (.aload_n 0, 1) := by decide +kernel
theorem dX6_decides_1 : decode cX6_decides 1 = .ok (.iload_n 1, 1) := by decide +kernel
theorem dX6_decides_2 : decode cX6_decides 2 = .ok (.aload_n 0, 1) := by decide +kernel
theorem dX6_decides_3 : decode cX6_decides 3 = .ok (.iload_n 1, 1) := by decide +kernel
theorem dX6_decides_4 : decode cX6_decides 4 = .ok (.iconst 5, 1) := by decide +kernel
theorem dX6_decides_5 : decode cX6_decides 5 = .ok (.invokevirtual 138, 3) := by decide +kernel
theorem dX6_decides_8 : decode cX6_decides 8 = .ok (.invokevirtual 144, 3) := by decide +kernel
theorem dX6_decides_11 : decode cX6_decides 11 = .ok (.istore_n 2, 1) := by decide +kernel
theorem dX6_decides_12 : decode cX6_decides 12 = .ok (.aload_n 0, 1) := by decide +kernel
theorem dX6_decides_13 : decode cX6_decides 13 = .ok (.iload_n 1, 1) := by decide +kernel
theorem dX6_decides_14 : decode cX6_decides 14 = .ok (.iconst 2, 1) := by decide +kernel
theorem dX6_decides_15 : decode cX6_decides 15 = .ok (.iload_n 2, 1) := by decide +kernel
theorem dX6_decides_16 : decode cX6_decides 16 = .ok (.invokevirtual 135, 3) := by decide +kernel
theorem dX6_decides_19 : decode cX6_decides 19 = .ok (.aload_n 0, 1) := by decide +kernel
theorem dX6_decides_20 : decode cX6_decides 20 = .ok (.iload_n 1, 1) := by decide +kernel
theorem dX6_decides_21 : decode cX6_decides 21 = .ok (.iconst 4, 1) := by decide +kernel
theorem dX6_decides_22 : decode cX6_decides 22 = .ok (.iload_n 2, 1) := by decide +kernel
theorem dX6_decides_23 : decode cX6_decides 23 = .ok (.iconst 2, 1) := by decide +kernel
theorem dX6_decides_24 : decode cX6_decides 24 = .ok (.if_icmp .ne 9, 3) := by decide +kernel
theorem dX6_decides_27 : decode cX6_decides 27 = .ok (.sipush 700, 3) := by decide +kernel
theorem dX6_decides_30 : decode cX6_decides 30 = .ok (.goto 13, 3) := by decide +kernel
theorem dX6_decides_33 : decode cX6_decides 33 = .ok (.aload_n 0, 1) := by decide +kernel
theorem dX6_decides_34 : decode cX6_decides 34 = .ok (.iload_n 1, 1) := by decide +kernel
theorem dX6_decides_35 : decode cX6_decides 35 = .ok (.iconst 4, 1) := by decide +kernel
theorem dX6_decides_36 : decode cX6_decides 36 = .ok (.invokevirtual 138, 3) := by decide +kernel
theorem dX6_decides_39 : decode cX6_decides 39 = .ok (.sipush 500, 3) := by decide +kernel
theorem dX6_decides_42 : decode cX6_decides 42 = .ok (.iadd, 1) := by decide +kernel
theorem dX6_decides_43 : decode cX6_decides 43 = .ok (.invokevirtual 135, 3) := by decide +kernel
theorem dX6_decides_46 : decode cX6_decides 46 = .ok (.iload_n 2, 1) := by decide +kernel
theorem dX6_decides_47 : decode cX6_decides 47 = .ok (.ireturn, 1) := by decide +kernel
theorem dX6_due_0 : decode cX6_due 0 = .ok (.aload_n 0, 1) := by decide +kernel
theorem dX6_due_1 : decode cX6_due 1 = .ok (.iload_n 1, 1) := by decide +kernel
theorem dX6_due_2 : decode cX6_due 2 = .ok (.iconst 2, 1) := by decide +kernel
theorem dX6_due_3 : decode cX6_due 3 = .ok (.invokevirtual 138, 3) := by decide +kernel
theorem dX6_due_6 : decode cX6_due 6 = .ok (.iconst 4, 1) := by decide +kernel
theorem dX6_due_7 : decode cX6_due 7 = .ok (.if_icmp .ne 5, 3) := by decide +kernel
theorem dX6_due_10 : decode cX6_due 10 = .ok (.iconst 0, 1) := by decide +kernel
theorem dX6_due_11 : decode cX6_due 11 = .ok (.ireturn, 1) := by decide +kernel
theorem dX6_due_12 : decode cX6_due 12 = .ok (.aload_n 0, 1) := by decide +kernel
theorem dX6_due_13 : decode cX6_due 13 = .ok (.iload_n 1, 1) := by decide +kernel
theorem dX6_due_14 : decode cX6_due 14 = .ok (.iconst 4, 1) := by decide +kernel
theorem dX6_due_15 : decode cX6_due 15 = .ok (.invokevirtual 138, 3) := by decide +kernel
theorem dX6_due_18 : decode cX6_due 18 = .ok (.aload_n 0, 1) := by decide +kernel
theorem dX6_due_19 : decode cX6_due 19 = .ok (.iload_n 1, 1) := by decide +kernel
theorem dX6_due_20 : decode cX6_due 20 = .ok (.invokevirtual 141, 3) := by decide +kernel
theorem dX6_due_23 : decode cX6_due 23 = .ok (.ifCond .eq 9, 3) := by decide +kernel
theorem dX6_due_26 : decode cX6_due 26 = .ok (.sipush 1500, 3) := by decide +kernel
theorem dX6_due_29 : decode cX6_due 29 = .ok (.goto 4, 3) := by decide +kernel
theorem dX6_due_32 : decode cX6_due 32 = .ok (.iconst 0, 1) := by decide +kernel
theorem dX6_due_33 : decode cX6_due 33 = .ok (.iadd, 1) := by decide +kernel
theorem dX6_due_34 : decode cX6_due 34 = .ok (.ireturn, 1) := by decide +kernel
theorem dX6_mayPay_0 : decode cX6_mayPay 0 = .ok (.aload_n 0, 1) := by decide +kernel
theorem dX6_mayPay_1 : decode cX6_mayPay 1 = .ok (.iload_n 1, 1) := by decide +kernel
theorem dX6_mayPay_2 : decode cX6_mayPay 2 = .ok (.iconst 2, 1) := by decide +kernel
theorem dX6_mayPay_3 : decode cX6_mayPay 3 = .ok (.invokevirtual 138, 3) := by decide +kernel
theorem dX6_mayPay_6 : decode cX6_mayPay 6 = .ok (.iconst 1, 1) := by decide +kernel
theorem dX6_mayPay_7 : decode cX6_mayPay 7 = .ok (.if_icmp .eq 36, 3) := by decide +kernel
theorem dX6_mayPay_10 : decode cX6_mayPay 10 = .ok (.aload_n 0, 1) := by decide +kernel
theorem dX6_mayPay_11 : decode cX6_mayPay 11 = .ok (.iload_n 1, 1) := by decide +kernel
theorem dX6_mayPay_12 : decode cX6_mayPay 12 = .ok (.iconst 2, 1) := by decide +kernel
theorem dX6_mayPay_13 : decode cX6_mayPay 13 = .ok (.invokevirtual 138, 3) := by decide +kernel
theorem dX6_mayPay_16 : decode cX6_mayPay 16 = .ok (.iconst 4, 1) := by decide +kernel
theorem dX6_mayPay_17 : decode cX6_mayPay 17 = .ok (.if_icmp .eq 26, 3) := by decide +kernel
theorem dX6_mayPay_20 : decode cX6_mayPay 20 = .ok (.aload_n 0, 1) := by decide +kernel
theorem dX6_mayPay_21 : decode cX6_mayPay 21 = .ok (.iload_n 1, 1) := by decide +kernel
theorem dX6_mayPay_22 : decode cX6_mayPay 22 = .ok (.invokevirtual 147, 3) := by decide +kernel
theorem dX6_mayPay_25 : decode cX6_mayPay 25 = .ok (.aload_n 0, 1) := by decide +kernel
theorem dX6_mayPay_26 : decode cX6_mayPay 26 = .ok (.aload_n 0, 1) := by decide +kernel
theorem dX6_mayPay_27 : decode cX6_mayPay 27 = .ok (.iload_n 1, 1) := by decide +kernel
theorem dX6_mayPay_28 : decode cX6_mayPay 28 = .ok (.iconst 0, 1) := by decide +kernel
theorem dX6_mayPay_29 : decode cX6_mayPay 29 = .ok (.invokevirtual 138, 3) := by decide +kernel
theorem dX6_mayPay_32 : decode cX6_mayPay 32 = .ok (.iconst 0, 1) := by decide +kernel
theorem dX6_mayPay_33 : decode cX6_mayPay 33 = .ok (.invokevirtual 102, 3) := by decide +kernel
theorem dX6_mayPay_36 : decode cX6_mayPay 36 = .ok (.if_icmp .gt 7, 3) := by decide +kernel
theorem dX6_mayPay_39 : decode cX6_mayPay 39 = .ok (.iconst 1, 1) := by decide +kernel
theorem dX6_mayPay_40 : decode cX6_mayPay 40 = .ok (.goto 4, 3) := by decide +kernel
theorem dX6_mayPay_43 : decode cX6_mayPay 43 = .ok (.iconst 0, 1) := by decide +kernel
theorem dX6_mayPay_44 : decode cX6_mayPay 44 = .ok (.ireturn, 1) := by decide +kernel
theorem dX6_pays_0 : decode cX6_pays 0 = .ok (.aload_n 0, 1) := by decide +kernel
theorem dX6_pays_1 : decode cX6_pays 1 = .ok (.iload_n 1, 1) := by decide +kernel
theorem dX6_pays_2 : decode cX6_pays 2 = .ok (.invokevirtual 147, 3) := by decide +kernel
theorem dX6_pays_5 : decode cX6_pays 5 = .ok (.istore_n 2, 1) := by decide +kernel
theorem dX6_pays_6 : decode cX6_pays 6 = .ok (.aload_n 0, 1) := by decide +kernel
theorem dX6_pays_7 : decode cX6_pays 7 = .ok (.iload_n 1, 1) := by decide +kernel
theorem dX6_pays_8 : decode cX6_pays 8 = .ok (.iconst 0, 1) := by decide +kernel
theorem dX6_pays_9 : decode cX6_pays 9 = .ok (.invokevirtual 138, 3) := by decide +kernel
theorem dX6_pays_12 : decode cX6_pays 12 = .ok (.istore_n 3, 1) := by decide +kernel
theorem dX6_pays_13 : decode cX6_pays 13 = .ok (.aload_n 0, 1) := by decide +kernel
theorem dX6_pays_14 : decode cX6_pays 14 = .ok (.iload_n 3, 1) := by decide +kernel
theorem dX6_pays_15 : decode cX6_pays 15 = .ok (.iconst 0, 1) := by decide +kernel
theorem dX6_pays_16 : decode cX6_pays 16 = .ok (.aload_n 0, 1) := by decide +kernel
theorem dX6_pays_17 : decode cX6_pays 17 = .ok (.iload_n 3, 1) := by decide +kernel
theorem dX6_pays_18 : decode cX6_pays 18 = .ok (.iconst 0, 1) := by decide +kernel
theorem dX6_pays_19 : decode cX6_pays 19 = .ok (.invokevirtual 102, 3) := by decide +kernel
theorem dX6_pays_22 : decode cX6_pays 22 = .ok (.iload_n 2, 1) := by decide +kernel
theorem dX6_pays_23 : decode cX6_pays 23 = .ok (.isub, 1) := by decide +kernel
theorem dX6_pays_24 : decode cX6_pays 24 = .ok (.invokevirtual 109, 3) := by decide +kernel
theorem dX6_pays_27 : decode cX6_pays 27 = .ok (.aload_n 0, 1) := by decide +kernel
theorem dX6_pays_28 : decode cX6_pays 28 = .ok (.iload_n 1, 1) := by decide +kernel
theorem dX6_pays_29 : decode cX6_pays 29 = .ok (.iconst 2, 1) := by decide +kernel
theorem dX6_pays_30 : decode cX6_pays 30 = .ok (.iconst 4, 1) := by decide +kernel
theorem dX6_pays_31 : decode cX6_pays 31 = .ok (.invokevirtual 135, 3) := by decide +kernel
theorem dX6_pays_34 : decode cX6_pays 34 = .ok (.aload_n 0, 1) := by decide +kernel
theorem dX6_pays_35 : decode cX6_pays 35 = .ok (.getfield 9, 3) := by decide +kernel
theorem dX6_pays_38 : decode cX6_pays 38 = .ok (.bipush 6, 2) := by decide +kernel
theorem dX6_pays_40 : decode cX6_pays 40 = .ok (.dup2, 1) := by decide +kernel
theorem dX6_pays_41 : decode cX6_pays 41 = .ok (.iaload, 1) := by decide +kernel
theorem dX6_pays_42 : decode cX6_pays 42 = .ok (.iload_n 2, 1) := by decide +kernel
theorem dX6_pays_43 : decode cX6_pays 43 = .ok (.iadd, 1) := by decide +kernel
theorem dX6_pays_44 : decode cX6_pays 44 = .ok (.iastore, 1) := by decide +kernel
theorem dX6_pays_45 : decode cX6_pays 45 = .ok (.iload_n 2, 1) := by decide +kernel
theorem dX6_pays_46 : decode cX6_pays 46 = .ok (.ireturn, 1) := by decide +kernel
theorem dX6_command_0 : decode cX6_command 0 = .ok (.aload_n 0, 1) := by decide +kernel
theorem dX6_command_1 : decode cX6_command 1 = .ok (.ldc_w 256, 3) := by decide +kernel
theorem dX6_command_4 : decode cX6_command 4 = .ok (.invokevirtual 208, 3) := by decide +kernel
theorem dX6_command_7 : decode cX6_command 7 = .ok (.ifCond .eq 10, 3) := by decide +kernel
theorem dX6_command_10 : decode cX6_command 10 = .ok (.aload_n 0, 1) := by decide +kernel
theorem dX6_command_11 : decode cX6_command 11 = .ok (.invokevirtual 258, 3) := by decide +kernel
theorem dX6_command_14 : decode cX6_command 14 = .ok (.goto 293, 3) := by decide +kernel
theorem dX6_command_17 : decode cX6_command 17 = .ok (.aload_n 0, 1) := by decide +kernel
theorem dX6_command_18 : decode cX6_command 18 = .ok (.ldc_w 261, 3) := by decide +kernel
theorem dX6_command_21 : decode cX6_command 21 = .ok (.invokevirtual 208, 3) := by decide +kernel
theorem dX6_command_24 : decode cX6_command 24 = .ok (.ifCond .eq 10, 3) := by decide +kernel
theorem dX6_command_27 : decode cX6_command 27 = .ok (.aload_n 0, 1) := by decide +kernel
theorem dX6_command_28 : decode cX6_command 28 = .ok (.invokevirtual 263, 3) := by decide +kernel
theorem dX6_command_31 : decode cX6_command 31 = .ok (.goto 276, 3) := by decide +kernel
theorem dX6_command_34 : decode cX6_command 34 = .ok (.aload_n 0, 1) := by decide +kernel
theorem dX6_command_35 : decode cX6_command 35 = .ok (.ldc_w 266, 3) := by decide +kernel
theorem dX6_command_38 : decode cX6_command 38 = .ok (.invokevirtual 208, 3) := by decide +kernel
theorem dX6_command_41 : decode cX6_command 41 = .ok (.ifCond .eq 10, 3) := by decide +kernel
theorem dX6_command_44 : decode cX6_command 44 = .ok (.aload_n 0, 1) := by decide +kernel
theorem dX6_command_45 : decode cX6_command 45 = .ok (.invokevirtual 268, 3) := by decide +kernel
theorem dX6_command_48 : decode cX6_command 48 = .ok (.goto 259, 3) := by decide +kernel
theorem dX6_command_51 : decode cX6_command 51 = .ok (.aload_n 0, 1) := by decide +kernel
theorem dX6_command_52 : decode cX6_command 52 = .ok (.ldc_w 271, 3) := by decide +kernel
theorem dX6_command_55 : decode cX6_command 55 = .ok (.invokevirtual 208, 3) := by decide +kernel
theorem dX6_command_58 : decode cX6_command 58 = .ok (.ifCond .eq 51, 3) := by decide +kernel
theorem dX6_command_61 : decode cX6_command 61 = .ok (.aload_n 0, 1) := by decide +kernel
theorem dX6_command_62 : decode cX6_command 62 = .ok (.invokevirtual 197, 3) := by decide +kernel
theorem dX6_command_65 : decode cX6_command 65 = .ok (.aload_n 0, 1) := by decide +kernel
theorem dX6_command_66 : decode cX6_command 66 = .ok (.invokevirtual 218, 3) := by decide +kernel
theorem dX6_command_69 : decode cX6_command 69 = .ok (.istore_n 1, 1) := by decide +kernel
theorem dX6_command_70 : decode cX6_command 70 = .ok (.aload_n 0, 1) := by decide +kernel
theorem dX6_command_71 : decode cX6_command 71 = .ok (.aload_n 0, 1) := by decide +kernel
theorem dX6_command_72 : decode cX6_command 72 = .ok (.getfield 180, 3) := by decide +kernel
theorem dX6_command_75 : decode cX6_command 75 = .ok (.ifCond .ne 11, 3) := by decide +kernel
theorem dX6_command_78 : decode cX6_command 78 = .ok (.aload_n 0, 1) := by decide +kernel
theorem dX6_command_79 : decode cX6_command 79 = .ok (.iload_n 1, 1) := by decide +kernel
theorem dX6_command_80 : decode cX6_command 80 = .ok (.invokevirtual 273, 3) := by decide +kernel
theorem dX6_command_83 : decode cX6_command 83 = .ok (.ifCond .eq 7, 3) := by decide +kernel
theorem dX6_command_86 : decode cX6_command 86 = .ok (.iconst 1, 1) := by decide +kernel
theorem dX6_command_87 : decode cX6_command 87 = .ok (.goto 4, 3) := by decide +kernel
theorem dX6_command_90 : decode cX6_command 90 = .ok (.iconst 0, 1) := by decide +kernel
theorem dX6_command_91 : decode cX6_command 91 = .ok (.invokevirtual 230, 3) := by decide +kernel
theorem dX6_command_94 : decode cX6_command 94 = .ok (.ifCond .eq 12, 3) := by decide +kernel
theorem dX6_command_97 : decode cX6_command 97 = .ok (.aload_n 0, 1) := by decide +kernel
theorem dX6_command_98 : decode cX6_command 98 = .ok (.aload_n 0, 1) := by decide +kernel
theorem dX6_command_99 : decode cX6_command 99 = .ok (.iload_n 1, 1) := by decide +kernel
theorem dX6_command_100 : decode cX6_command 100 = .ok (.invokevirtual 276, 3) := by decide +kernel
theorem dX6_command_103 : decode cX6_command 103 = .ok (.putfield 238, 3) := by decide +kernel
theorem dX6_command_106 : decode cX6_command 106 = .ok (.goto 201, 3) := by decide +kernel
theorem dX6_command_109 : decode cX6_command 109 = .ok (.aload_n 0, 1) := by decide +kernel
theorem dX6_command_110 : decode cX6_command 110 = .ok (.ldc_w 279, 3) := by decide +kernel
theorem dX6_command_113 : decode cX6_command 113 = .ok (.invokevirtual 208, 3) := by decide +kernel
theorem dX6_command_116 : decode cX6_command 116 = .ok (.ifCond .eq 48, 3) := by decide +kernel
theorem dX6_command_119 : decode cX6_command 119 = .ok (.aload_n 0, 1) := by decide +kernel
theorem dX6_command_120 : decode cX6_command 120 = .ok (.invokevirtual 197, 3) := by decide +kernel
theorem dX6_command_123 : decode cX6_command 123 = .ok (.aload_n 0, 1) := by decide +kernel
theorem dX6_command_124 : decode cX6_command 124 = .ok (.iconst 1, 1) := by decide +kernel
theorem dX6_command_125 : decode cX6_command 125 = .ok (.sipush 9999, 3) := by decide +kernel
theorem dX6_command_128 : decode cX6_command 128 = .ok (.ldc 212, 2) := by decide +kernel
theorem dX6_command_130 : decode cX6_command 130 = .ok (.aload_n 0, 1) := by decide +kernel
theorem dX6_command_131 : decode cX6_command 131 = .ok (.getfield 9, 3) := by decide +kernel
theorem dX6_command_134 : decode cX6_command 134 = .ok (.iconst 0, 1) := by decide +kernel
theorem dX6_command_135 : decode cX6_command 135 = .ok (.iaload, 1) := by decide +kernel
theorem dX6_command_136 : decode cX6_command 136 = .ok (.isub, 1) := by decide +kernel
theorem dX6_command_137 : decode cX6_command 137 = .ok (.invokestatic 81, 3) := by decide +kernel
theorem dX6_command_140 : decode cX6_command 140 = .ok (.invokevirtual 213, 3) := by decide +kernel
theorem dX6_command_143 : decode cX6_command 143 = .ok (.istore_n 1, 1) := by decide +kernel
theorem dX6_command_144 : decode cX6_command 144 = .ok (.aload_n 0, 1) := by decide +kernel
theorem dX6_command_145 : decode cX6_command 145 = .ok (.iconst 1, 1) := by decide +kernel
theorem dX6_command_146 : decode cX6_command 146 = .ok (.invokevirtual 230, 3) := by decide +kernel
theorem dX6_command_149 : decode cX6_command 149 = .ok (.ifCond .eq 12, 3) := by decide +kernel
theorem dX6_command_152 : decode cX6_command 152 = .ok (.aload_n 0, 1) := by decide +kernel
theorem dX6_command_153 : decode cX6_command 153 = .ok (.aload_n 0, 1) := by decide +kernel
theorem dX6_command_154 : decode cX6_command 154 = .ok (.iload_n 1, 1) := by decide +kernel
theorem dX6_command_155 : decode cX6_command 155 = .ok (.invokevirtual 281, 3) := by decide +kernel
theorem dX6_command_158 : decode cX6_command 158 = .ok (.putfield 238, 3) := by decide +kernel
theorem dX6_command_161 : decode cX6_command 161 = .ok (.goto 146, 3) := by decide +kernel
theorem dX6_command_164 : decode cX6_command 164 = .ok (.aload_n 0, 1) := by decide +kernel
theorem dX6_command_165 : decode cX6_command 165 = .ok (.ldc_w 284, 3) := by decide +kernel
theorem dX6_command_168 : decode cX6_command 168 = .ok (.invokevirtual 208, 3) := by decide +kernel
theorem dX6_command_171 : decode cX6_command 171 = .ok (.ifCond .eq 62, 3) := by decide +kernel
theorem dX6_command_174 : decode cX6_command 174 = .ok (.aload_n 0, 1) := by decide +kernel
theorem dX6_command_175 : decode cX6_command 175 = .ok (.invokevirtual 197, 3) := by decide +kernel
theorem dX6_command_178 : decode cX6_command 178 = .ok (.aload_n 0, 1) := by decide +kernel
theorem dX6_command_179 : decode cX6_command 179 = .ok (.iconst 0, 1) := by decide +kernel
theorem dX6_command_180 : decode cX6_command 180 = .ok (.aload_n 0, 1) := by decide +kernel
theorem dX6_command_181 : decode cX6_command 181 = .ok (.getfield 9, 3) := by decide +kernel
theorem dX6_command_184 : decode cX6_command 184 = .ok (.iconst 4, 1) := by decide +kernel
theorem dX6_command_185 : decode cX6_command 185 = .ok (.iaload, 1) := by decide +kernel
theorem dX6_command_186 : decode cX6_command 186 = .ok (.iconst 1, 1) := by decide +kernel
theorem dX6_command_187 : decode cX6_command 187 = .ok (.isub, 1) := by decide +kernel
theorem dX6_command_188 : decode cX6_command 188 = .ok (.invokevirtual 213, 3) := by decide +kernel
theorem dX6_command_191 : decode cX6_command 191 = .ok (.istore_n 1, 1) := by decide +kernel
theorem dX6_command_192 : decode cX6_command 192 = .ok (.aload_n 0, 1) := by decide +kernel
theorem dX6_command_193 : decode cX6_command 193 = .ok (.aload_n 0, 1) := by decide +kernel
theorem dX6_command_194 : decode cX6_command 194 = .ok (.getfield 180, 3) := by decide +kernel
theorem dX6_command_197 : decode cX6_command 197 = .ok (.ifCond .ne 13, 3) := by decide +kernel
theorem dX6_command_200 : decode cX6_command 200 = .ok (.aload_n 0, 1) := by decide +kernel
theorem dX6_command_201 : decode cX6_command 201 = .ok (.iload_n 1, 1) := by decide +kernel
theorem dX6_command_202 : decode cX6_command 202 = .ok (.iconst 2, 1) := by decide +kernel
theorem dX6_command_203 : decode cX6_command 203 = .ok (.invokevirtual 138, 3) := by decide +kernel
theorem dX6_command_206 : decode cX6_command 206 = .ok (.iconst 1, 1) := by decide +kernel
theorem dX6_command_207 : decode cX6_command 207 = .ok (.if_icmp .ne 7, 3) := by decide +kernel
theorem dX6_command_210 : decode cX6_command 210 = .ok (.iconst 1, 1) := by decide +kernel
theorem dX6_command_211 : decode cX6_command 211 = .ok (.goto 4, 3) := by decide +kernel
theorem dX6_command_214 : decode cX6_command 214 = .ok (.iconst 0, 1) := by decide +kernel
theorem dX6_command_215 : decode cX6_command 215 = .ok (.invokevirtual 230, 3) := by decide +kernel
theorem dX6_command_218 : decode cX6_command 218 = .ok (.ifCond .eq 12, 3) := by decide +kernel
theorem dX6_command_221 : decode cX6_command 221 = .ok (.aload_n 0, 1) := by decide +kernel
theorem dX6_command_222 : decode cX6_command 222 = .ok (.aload_n 0, 1) := by decide +kernel
theorem dX6_command_223 : decode cX6_command 223 = .ok (.iload_n 1, 1) := by decide +kernel
theorem dX6_command_224 : decode cX6_command 224 = .ok (.invokevirtual 286, 3) := by decide +kernel
theorem dX6_command_227 : decode cX6_command 227 = .ok (.putfield 238, 3) := by decide +kernel
theorem dX6_command_230 : decode cX6_command 230 = .ok (.goto 77, 3) := by decide +kernel
theorem dX6_command_233 : decode cX6_command 233 = .ok (.aload_n 0, 1) := by decide +kernel
theorem dX6_command_234 : decode cX6_command 234 = .ok (.aload_n 0, 1) := by decide +kernel
theorem dX6_command_235 : decode cX6_command 235 = .ok (.ldc_w 289, 3) := by decide +kernel
theorem dX6_command_238 : decode cX6_command 238 = .ok (.invokevirtual 208, 3) := by decide +kernel
theorem dX6_command_241 : decode cX6_command 241 = .ok (.ifCond .ne 7, 3) := by decide +kernel
theorem dX6_command_244 : decode cX6_command 244 = .ok (.iconst 1, 1) := by decide +kernel
theorem dX6_command_245 : decode cX6_command 245 = .ok (.goto 4, 3) := by decide +kernel
theorem dX6_command_248 : decode cX6_command 248 = .ok (.iconst 0, 1) := by decide +kernel
theorem dX6_command_249 : decode cX6_command 249 = .ok (.iconst 1, 1) := by decide +kernel
theorem dX6_command_250 : decode cX6_command 250 = .ok (.invokevirtual 190, 3) := by decide +kernel
theorem dX6_command_253 : decode cX6_command 253 = .ok (.aload_n 0, 1) := by decide +kernel
theorem dX6_command_254 : decode cX6_command 254 = .ok (.invokevirtual 197, 3) := by decide +kernel
theorem dX6_command_257 : decode cX6_command 257 = .ok (.aload_n 0, 1) := by decide +kernel
theorem dX6_command_258 : decode cX6_command 258 = .ok (.iconst 0, 1) := by decide +kernel
theorem dX6_command_259 : decode cX6_command 259 = .ok (.aload_n 0, 1) := by decide +kernel
theorem dX6_command_260 : decode cX6_command 260 = .ok (.getfield 9, 3) := by decide +kernel
theorem dX6_command_263 : decode cX6_command 263 = .ok (.iconst 4, 1) := by decide +kernel
theorem dX6_command_264 : decode cX6_command 264 = .ok (.iaload, 1) := by decide +kernel
theorem dX6_command_265 : decode cX6_command 265 = .ok (.iconst 1, 1) := by decide +kernel
theorem dX6_command_266 : decode cX6_command 266 = .ok (.isub, 1) := by decide +kernel
theorem dX6_command_267 : decode cX6_command 267 = .ok (.invokevirtual 213, 3) := by decide +kernel
theorem dX6_command_270 : decode cX6_command 270 = .ok (.istore_n 1, 1) := by decide +kernel
theorem dX6_command_271 : decode cX6_command 271 = .ok (.aload_n 0, 1) := by decide +kernel
theorem dX6_command_272 : decode cX6_command 272 = .ok (.aload_n 0, 1) := by decide +kernel
theorem dX6_command_273 : decode cX6_command 273 = .ok (.getfield 180, 3) := by decide +kernel
theorem dX6_command_276 : decode cX6_command 276 = .ok (.ifCond .ne 11, 3) := by decide +kernel
theorem dX6_command_279 : decode cX6_command 279 = .ok (.aload_n 0, 1) := by decide +kernel
theorem dX6_command_280 : decode cX6_command 280 = .ok (.iload_n 1, 1) := by decide +kernel
theorem dX6_command_281 : decode cX6_command 281 = .ok (.invokevirtual 291, 3) := by decide +kernel
theorem dX6_command_284 : decode cX6_command 284 = .ok (.ifCond .eq 7, 3) := by decide +kernel
theorem dX6_command_287 : decode cX6_command 287 = .ok (.iconst 1, 1) := by decide +kernel
theorem dX6_command_288 : decode cX6_command 288 = .ok (.goto 4, 3) := by decide +kernel
theorem dX6_command_291 : decode cX6_command 291 = .ok (.iconst 0, 1) := by decide +kernel
theorem dX6_command_292 : decode cX6_command 292 = .ok (.invokevirtual 230, 3) := by decide +kernel
theorem dX6_command_295 : decode cX6_command 295 = .ok (.ifCond .eq 12, 3) := by decide +kernel
theorem dX6_command_298 : decode cX6_command 298 = .ok (.aload_n 0, 1) := by decide +kernel
theorem dX6_command_299 : decode cX6_command 299 = .ok (.aload_n 0, 1) := by decide +kernel
theorem dX6_command_300 : decode cX6_command 300 = .ok (.iload_n 1, 1) := by decide +kernel
theorem dX6_command_301 : decode cX6_command 301 = .ok (.invokevirtual 294, 3) := by decide +kernel
theorem dX6_command_304 : decode cX6_command 304 = .ok (.putfield 238, 3) := by decide +kernel
theorem dX6_command_307 : decode cX6_command 307 = .ok (.aload_n 0, 1) := by decide +kernel
theorem dX6_command_308 : decode cX6_command 308 = .ok (.invokevirtual 197, 3) := by decide +kernel
theorem dX6_command_311 : decode cX6_command 311 = .ok (.return_, 1) := by decide +kernel
theorem dX6_remember_0 : decode cX6_remember 0 = .ok (.aload_n 0, 1) := by decide +kernel
theorem dX6_remember_1 : decode cX6_remember 1 = .ok (.getfield 61, 3) := by decide +kernel
theorem dX6_remember_4 : decode cX6_remember 4 = .ok (.bipush 8, 2) := by decide +kernel
theorem dX6_remember_6 : decode cX6_remember 6 = .ok (.if_icmp .ne 31, 3) := by decide +kernel
theorem dX6_remember_9 : decode cX6_remember 9 = .ok (.aload_n 0, 1) := by decide +kernel
theorem dX6_remember_10 : decode cX6_remember 10 = .ok (.getfield 13, 3) := by decide +kernel
theorem dX6_remember_13 : decode cX6_remember 13 = .ok (.sipush 445, 3) := by decide +kernel
theorem dX6_remember_16 : decode cX6_remember 16 = .ok (.aload_n 0, 1) := by decide +kernel
theorem dX6_remember_17 : decode cX6_remember 17 = .ok (.getfield 13, 3) := by decide +kernel
theorem dX6_remember_20 : decode cX6_remember 20 = .ok (.iconst 0, 1) := by decide +kernel
theorem dX6_remember_21 : decode cX6_remember 21 = .ok (.sipush 3115, 3) := by decide +kernel
theorem dX6_remember_24 : decode cX6_remember 24 = .ok (.invokestatic 67, 3) := by decide +kernel
theorem dX6_remember_27 : decode cX6_remember 27 = .ok (.aload_n 0, 1) := by decide +kernel
theorem dX6_remember_28 : decode cX6_remember 28 = .ok (.dup, 1) := by decide +kernel
theorem dX6_remember_29 : decode cX6_remember 29 = .ok (.getfield 61, 3) := by decide +kernel
theorem dX6_remember_32 : decode cX6_remember 32 = .ok (.iconst 1, 1) := by decide +kernel
theorem dX6_remember_33 : decode cX6_remember 33 = .ok (.isub, 1) := by decide +kernel
theorem dX6_remember_34 : decode cX6_remember 34 = .ok (.putfield 61, 3) := by decide +kernel
theorem dX6_remember_37 : decode cX6_remember 37 = .ok (.aload_n 1, 1) := by decide +kernel
theorem dX6_remember_38 : decode cX6_remember 38 = .ok (.iconst 0, 1) := by decide +kernel
theorem dX6_remember_39 : decode cX6_remember 39 = .ok (.aload_n 0, 1) := by decide +kernel
theorem dX6_remember_40 : decode cX6_remember 40 = .ok (.getfield 13, 3) := by decide +kernel
theorem dX6_remember_43 : decode cX6_remember 43 = .ok (.aload_n 0, 1) := by decide +kernel
theorem dX6_remember_44 : decode cX6_remember 44 = .ok (.getfield 61, 3) := by decide +kernel
theorem dX6_remember_47 : decode cX6_remember 47 = .ok (.sipush 445, 3) := by decide +kernel
theorem dX6_remember_50 : decode cX6_remember 50 = .ok (.imul, 1) := by decide +kernel
theorem dX6_remember_51 : decode cX6_remember 51 = .ok (.invokestatic 73, 3) := by decide +kernel
theorem dX6_remember_54 : decode cX6_remember 54 = .ok (.aload_n 0, 1) := by decide +kernel
theorem dX6_remember_55 : decode cX6_remember 55 = .ok (.dup, 1) := by decide +kernel
theorem dX6_remember_56 : decode cX6_remember 56 = .ok (.getfield 61, 3) := by decide +kernel
theorem dX6_remember_59 : decode cX6_remember 59 = .ok (.iconst 1, 1) := by decide +kernel
theorem dX6_remember_60 : decode cX6_remember 60 = .ok (.iadd, 1) := by decide +kernel
theorem dX6_remember_61 : decode cX6_remember 61 = .ok (.putfield 61, 3) := by decide +kernel
theorem dX6_remember_64 : decode cX6_remember 64 = .ok (.return_, 1) := by decide +kernel
theorem dX6_commands_0 : decode cX6_commands 0 = .ok (.iconst 0, 1) := by decide +kernel
theorem dX6_commands_1 : decode cX6_commands 1 = .ok (.istore_n 1, 1) := by decide +kernel
theorem dX6_commands_2 : decode cX6_commands 2 = .ok (.aload_n 0, 1) := by decide +kernel
theorem dX6_commands_3 : decode cX6_commands 3 = .ok (.getfield 180, 3) := by decide +kernel
theorem dX6_commands_6 : decode cX6_commands 6 = .ok (.ifCond .ne 20, 3) := by decide +kernel
theorem dX6_commands_9 : decode cX6_commands 9 = .ok (.aload_n 0, 1) := by decide +kernel
theorem dX6_commands_10 : decode cX6_commands 10 = .ok (.getfield 167, 3) := by decide +kernel
theorem dX6_commands_13 : decode cX6_commands 13 = .ok (.ifCond .eq 13, 3) := by decide +kernel
theorem dX6_commands_16 : decode cX6_commands 16 = .ok (.aload_n 0, 1) := by decide +kernel
theorem dX6_commands_17 : decode cX6_commands 17 = .ok (.invokevirtual 297, 3) := by decide +kernel
theorem dX6_commands_20 : decode cX6_commands 20 = .ok (.iinc 1 1, 3) := by decide +kernel
theorem dX6_commands_23 : decode cX6_commands 23 = .ok (.goto (-21), 3) := by decide +kernel
theorem dX6_commands_26 : decode cX6_commands 26 = .ok (.aload_n 0, 1) := by decide +kernel
theorem dX6_commands_27 : decode cX6_commands 27 = .ok (.iconst 0, 1) := by decide +kernel
theorem dX6_commands_28 : decode cX6_commands 28 = .ok (.putfield 51, 3) := by decide +kernel
theorem dX6_commands_31 : decode cX6_commands 31 = .ok (.aload_n 0, 1) := by decide +kernel
theorem dX6_commands_32 : decode cX6_commands 32 = .ok (.getfield 180, 3) := by decide +kernel
theorem dX6_commands_35 : decode cX6_commands 35 = .ok (.ifCond .eq 19, 3) := by decide +kernel
theorem dX6_commands_38 : decode cX6_commands 38 = .ok (.aload_n 0, 1) := by decide +kernel
theorem dX6_commands_39 : decode cX6_commands 39 = .ok (.getfield 19, 3) := by decide +kernel
theorem dX6_commands_42 : decode cX6_commands 42 = .ok (.iconst 0, 1) := by decide +kernel
theorem dX6_commands_43 : decode cX6_commands 43 = .ok (.aload_n 0, 1) := by decide +kernel
theorem dX6_commands_44 : decode cX6_commands 44 = .ok (.getfield 9, 3) := by decide +kernel
theorem dX6_commands_47 : decode cX6_commands 47 = .ok (.iconst 0, 1) := by decide +kernel
theorem dX6_commands_48 : decode cX6_commands 48 = .ok (.invokestatic 73, 3) := by decide +kernel
theorem dX6_commands_51 : decode cX6_commands 51 = .ok (.goto 11, 3) := by decide +kernel
theorem dX6_commands_54 : decode cX6_commands 54 = .ok (.aload_n 0, 1) := by decide +kernel
theorem dX6_commands_55 : decode cX6_commands 55 = .ok (.aload_n 0, 1) := by decide +kernel
theorem dX6_commands_56 : decode cX6_commands 56 = .ok (.getfield 19, 3) := by decide +kernel
theorem dX6_commands_59 : decode cX6_commands 59 = .ok (.invokevirtual 300, 3) := by decide +kernel
theorem dX6_commands_62 : decode cX6_commands 62 = .ok (.aload_n 0, 1) := by decide +kernel
theorem dX6_commands_63 : decode cX6_commands 63 = .ok (.getfield 180, 3) := by decide +kernel
theorem dX6_commands_66 : decode cX6_commands 66 = .ok (.ifCond .eq 7, 3) := by decide +kernel
theorem dX6_commands_69 : decode cX6_commands 69 = .ok (.iconst (-1), 1) := by decide +kernel
theorem dX6_commands_70 : decode cX6_commands 70 = .ok (.goto 4, 3) := by decide +kernel
theorem dX6_commands_73 : decode cX6_commands 73 = .ok (.iload_n 1, 1) := by decide +kernel
theorem dX6_commands_74 : decode cX6_commands 74 = .ok (.ireturn, 1) := by decide +kernel
theorem dX6_load_0 : decode cX6_load 0 = .ok (.aload_n 0, 1) := by decide +kernel
theorem dX6_load_1 : decode cX6_load 1 = .ok (.invokevirtual 304, 3) := by decide +kernel
theorem dX6_load_4 : decode cX6_load 4 = .ok (.iconst 0, 1) := by decide +kernel
theorem dX6_load_5 : decode cX6_load 5 = .ok (.istore_n 1, 1) := by decide +kernel
theorem dX6_load_6 : decode cX6_load 6 = .ok (.iload_n 1, 1) := by decide +kernel
theorem dX6_load_7 : decode cX6_load 7 = .ok (.sipush 445, 3) := by decide +kernel
theorem dX6_load_10 : decode cX6_load 10 = .ok (.if_icmp .ge 16, 3) := by decide +kernel
theorem dX6_load_13 : decode cX6_load 13 = .ok (.aload_n 0, 1) := by decide +kernel
theorem dX6_load_14 : decode cX6_load 14 = .ok (.getfield 9, 3) := by decide +kernel
theorem dX6_load_17 : decode cX6_load 17 = .ok (.iload_n 1, 1) := by decide +kernel
theorem dX6_load_18 : decode cX6_load 18 = .ok (.iconst 0, 1) := by decide +kernel
theorem dX6_load_19 : decode cX6_load 19 = .ok (.iastore, 1) := by decide +kernel
theorem dX6_load_20 : decode cX6_load 20 = .ok (.iinc 1 1, 3) := by decide +kernel
theorem dX6_load_23 : decode cX6_load 23 = .ok (.goto (-17), 3) := by decide +kernel
theorem dX6_load_26 : decode cX6_load 26 = .ok (.aload_n 0, 1) := by decide +kernel
theorem dX6_load_27 : decode cX6_load 27 = .ok (.invokevirtual 307, 3) := by decide +kernel
theorem dX6_load_30 : decode cX6_load 30 = .ok (.aload_n 0, 1) := by decide +kernel
theorem dX6_load_31 : decode cX6_load 31 = .ok (.getfield 180, 3) := by decide +kernel
theorem dX6_load_34 : decode cX6_load 34 = .ok (.ifCond .ne 7, 3) := by decide +kernel
theorem dX6_load_37 : decode cX6_load 37 = .ok (.aload_n 0, 1) := by decide +kernel
theorem dX6_load_38 : decode cX6_load 38 = .ok (.invokevirtual 310, 3) := by decide +kernel
theorem dX6_load_41 : decode cX6_load 41 = .ok (.aload_n 0, 1) := by decide +kernel
theorem dX6_load_42 : decode cX6_load 42 = .ok (.getfield 180, 3) := by decide +kernel
theorem dX6_load_45 : decode cX6_load 45 = .ok (.ifCond .ne 19, 3) := by decide +kernel
theorem dX6_load_48 : decode cX6_load 48 = .ok (.aload_n 0, 1) := by decide +kernel
theorem dX6_load_49 : decode cX6_load 49 = .ok (.ldc 206, 2) := by decide +kernel
theorem dX6_load_51 : decode cX6_load 51 = .ok (.invokevirtual 208, 3) := by decide +kernel
theorem dX6_load_54 : decode cX6_load 54 = .ok (.ifCond .eq 10, 3) := by decide +kernel
theorem dX6_load_57 : decode cX6_load 57 = .ok (.aload_n 0, 1) := by decide +kernel
theorem dX6_load_58 : decode cX6_load 58 = .ok (.invokevirtual 310, 3) := by decide +kernel
theorem dX6_load_61 : decode cX6_load 61 = .ok (.goto (-20), 3) := by decide +kernel
theorem dX6_load_64 : decode cX6_load 64 = .ok (.aload_n 0, 1) := by decide +kernel
theorem dX6_load_65 : decode cX6_load 65 = .ok (.invokevirtual 313, 3) := by decide +kernel
theorem dX6_load_68 : decode cX6_load 68 = .ok (.iconst (-1), 1) := by decide +kernel
theorem dX6_load_69 : decode cX6_load 69 = .ok (.if_icmp .ne 7, 3) := by decide +kernel
theorem dX6_load_72 : decode cX6_load 72 = .ok (.iconst (-1), 1) := by decide +kernel
theorem dX6_load_73 : decode cX6_load 73 = .ok (.goto 9, 3) := by decide +kernel
theorem dX6_load_76 : decode cX6_load 76 = .ok (.aload_n 0, 1) := by decide +kernel
theorem dX6_load_77 : decode cX6_load 77 = .ok (.getfield 9, 3) := by decide +kernel
theorem dX6_load_80 : decode cX6_load 80 = .ok (.iconst 2, 1) := by decide +kernel
theorem dX6_load_81 : decode cX6_load 81 = .ok (.iaload, 1) := by decide +kernel
theorem dX6_load_82 : decode cX6_load 82 = .ok (.ireturn, 1) := by decide +kernel
theorem dX6_lays_0 : decode cX6_lays 0 = .ok (.aload_n 0, 1) := by decide +kernel
theorem dX6_lays_1 : decode cX6_lays 1 = .ok (.aload_n 1, 1) := by decide +kernel
theorem dX6_lays_2 : decode cX6_lays 2 = .ok (.invokevirtual 45, 3) := by decide +kernel
theorem dX6_lays_5 : decode cX6_lays 5 = .ok (.putfield 51, 3) := by decide +kernel
theorem dX6_lays_8 : decode cX6_lays 8 = .ok (.iconst 0, 1) := by decide +kernel
theorem dX6_lays_9 : decode cX6_lays 9 = .ok (.istore_n 2, 1) := by decide +kernel
theorem dX6_lays_10 : decode cX6_lays 10 = .ok (.iload_n 2, 1) := by decide +kernel
theorem dX6_lays_11 : decode cX6_lays 11 = .ok (.aload_n 0, 1) := by decide +kernel
theorem dX6_lays_12 : decode cX6_lays 12 = .ok (.getfield 51, 3) := by decide +kernel
theorem dX6_lays_15 : decode cX6_lays 15 = .ok (.if_icmp .ge 20, 3) := by decide +kernel
theorem dX6_lays_18 : decode cX6_lays 18 = .ok (.aload_n 0, 1) := by decide +kernel
theorem dX6_lays_19 : decode cX6_lays 19 = .ok (.getfield 26, 3) := by decide +kernel
theorem dX6_lays_22 : decode cX6_lays 22 = .ok (.iload_n 2, 1) := by decide +kernel
theorem dX6_lays_23 : decode cX6_lays 23 = .ok (.aload_n 1, 1) := by decide +kernel
theorem dX6_lays_24 : decode cX6_lays 24 = .ok (.iload_n 2, 1) := by decide +kernel
theorem dX6_lays_25 : decode cX6_lays 25 = .ok (.invokevirtual 54, 3) := by decide +kernel
theorem dX6_lays_28 : decode cX6_lays 28 = .ok (.iastore, 1) := by decide +kernel
theorem dX6_lays_29 : decode cX6_lays 29 = .ok (.iinc 2 1, 3) := by decide +kernel
theorem dX6_lays_32 : decode cX6_lays 32 = .ok (.goto (-22), 3) := by decide +kernel
theorem dX6_lays_35 : decode cX6_lays 35 = .ok (.aload_n 0, 1) := by decide +kernel
theorem dX6_lays_36 : decode cX6_lays 36 = .ok (.invokevirtual 58, 3) := by decide +kernel
theorem dX6_lays_39 : decode cX6_lays 39 = .ok (.istore_n 2, 1) := by decide +kernel
theorem dX6_lays_40 : decode cX6_lays 40 = .ok (.aload_n 0, 1) := by decide +kernel
theorem dX6_lays_41 : decode cX6_lays 41 = .ok (.iconst 0, 1) := by decide +kernel
theorem dX6_lays_42 : decode cX6_lays 42 = .ok (.putfield 61, 3) := by decide +kernel
theorem dX6_lays_45 : decode cX6_lays 45 = .ok (.return_, 1) := by decide +kernel
theorem dX6_init_0 : decode cX6_init 0 = .ok (.aload_n 0, 1) := by decide +kernel
theorem dX6_init_1 : decode cX6_init 1 = .ok (.invokespecial 3, 3) := by decide +kernel
theorem dX6_init_4 : decode cX6_init 4 = .ok (.aload_n 0, 1) := by decide +kernel
theorem dX6_init_5 : decode cX6_init 5 = .ok (.sipush 445, 3) := by decide +kernel
theorem dX6_init_8 : decode cX6_init 8 = .ok (.newarray .int, 2) := by decide +kernel
theorem dX6_init_10 : decode cX6_init 10 = .ok (.putfield 9, 3) := by decide +kernel
theorem dX6_init_13 : decode cX6_init 13 = .ok (.aload_n 0, 1) := by decide +kernel
theorem dX6_init_14 : decode cX6_init 14 = .ok (.sipush 3560, 3) := by decide +kernel
theorem dX6_init_17 : decode cX6_init 17 = .ok (.newarray .int, 2) := by decide +kernel
theorem dX6_init_19 : decode cX6_init 19 = .ok (.putfield 13, 3) := by decide +kernel
theorem dX6_init_22 : decode cX6_init 22 = .ok (.aload_n 0, 1) := by decide +kernel
theorem dX6_init_23 : decode cX6_init 23 = .ok (.sipush 890, 3) := by decide +kernel
theorem dX6_init_26 : decode cX6_init 26 = .ok (.newarray .int, 2) := by decide +kernel
theorem dX6_init_28 : decode cX6_init 28 = .ok (.putfield 16, 3) := by decide +kernel
theorem dX6_init_31 : decode cX6_init 31 = .ok (.aload_n 0, 1) := by decide +kernel
theorem dX6_init_32 : decode cX6_init 32 = .ok (.sipush 445, 3) := by decide +kernel
theorem dX6_init_35 : decode cX6_init 35 = .ok (.newarray .int, 2) := by decide +kernel
theorem dX6_init_37 : decode cX6_init 37 = .ok (.putfield 19, 3) := by decide +kernel
theorem dX6_init_40 : decode cX6_init 40 = .ok (.aload_n 0, 1) := by decide +kernel
theorem dX6_init_41 : decode cX6_init 41 = .ok (.iconst 2, 1) := by decide +kernel
theorem dX6_init_42 : decode cX6_init 42 = .ok (.newarray .boolean, 2) := by decide +kernel
theorem dX6_init_44 : decode cX6_init 44 = .ok (.putfield 22, 3) := by decide +kernel
theorem dX6_init_47 : decode cX6_init 47 = .ok (.aload_n 0, 1) := by decide +kernel
theorem dX6_init_48 : decode cX6_init 48 = .ok (.sipush 700, 3) := by decide +kernel
theorem dX6_init_51 : decode cX6_init 51 = .ok (.newarray .int, 2) := by decide +kernel
theorem dX6_init_53 : decode cX6_init 53 = .ok (.putfield 26, 3) := by decide +kernel
theorem dX6_init_56 : decode cX6_init 56 = .ok (.aload_n 0, 1) := by decide +kernel
theorem dX6_init_57 : decode cX6_init 57 = .ok (.sipush 300, 3) := by decide +kernel
theorem dX6_init_60 : decode cX6_init 60 = .ok (.newarray .int, 2) := by decide +kernel
theorem dX6_init_62 : decode cX6_init 62 = .ok (.putfield 29, 3) := by decide +kernel
theorem dX6_init_65 : decode cX6_init 65 = .ok (.aload_n 0, 1) := by decide +kernel
theorem dX6_init_66 : decode cX6_init 66 = .ok (.iconst (-1), 1) := by decide +kernel
theorem dX6_init_67 : decode cX6_init 67 = .ok (.putfield 32, 3) := by decide +kernel
theorem dX6_init_70 : decode cX6_init 70 = .ok (.aload_n 0, 1) := by decide +kernel
theorem dX6_init_71 : decode cX6_init 71 = .ok (.bipush 6, 2) := by decide +kernel
theorem dX6_init_73 : decode cX6_init 73 = .ok (.newarray .int, 2) := by decide +kernel
theorem dX6_init_75 : decode cX6_init 75 = .ok (.putfield 36, 3) := by decide +kernel
theorem dX6_init_78 : decode cX6_init 78 = .ok (.aload_n 0, 1) := by decide +kernel
theorem dX6_init_79 : decode cX6_init 79 = .ok (.ldc 39, 2) := by decide +kernel
theorem dX6_init_81 : decode cX6_init 81 = .ok (.invokevirtual 41, 3) := by decide +kernel
theorem dX6_init_84 : decode cX6_init 84 = .ok (.return_, 1) := by decide +kernel
theorem dX6_thrown_0 : decode cX6_thrown 0 = .ok (.aload_n 0, 1) := by decide +kernel
theorem dX6_thrown_1 : decode cX6_thrown 1 = .ok (.getfield 64, 3) := by decide +kernel
theorem dX6_thrown_4 : decode cX6_thrown 4 = .ok (.ireturn, 1) := by decide +kernel
theorem dX6_fails_0 : decode cX6_fails 0 = .ok (.aload_n 0, 1) := by decide +kernel
theorem dX6_fails_1 : decode cX6_fails 1 = .ok (.iload_n 1, 1) := by decide +kernel
theorem dX6_fails_2 : decode cX6_fails 2 = .ok (.ifCond .eq 7, 3) := by decide +kernel
theorem dX6_fails_5 : decode cX6_fails 5 = .ok (.iconst 1, 1) := by decide +kernel
theorem dX6_fails_6 : decode cX6_fails 6 = .ok (.goto 20, 3) := by decide +kernel
theorem dX6_fails_9 : decode cX6_fails 9 = .ok (.iload_n 2, 1) := by decide +kernel
theorem dX6_fails_10 : decode cX6_fails 10 = .ok (.ifCond .eq 7, 3) := by decide +kernel
theorem dX6_fails_13 : decode cX6_fails 13 = .ok (.iconst 2, 1) := by decide +kernel
theorem dX6_fails_14 : decode cX6_fails 14 = .ok (.goto 12, 3) := by decide +kernel
theorem dX6_fails_17 : decode cX6_fails 17 = .ok (.iload_n 3, 1) := by decide +kernel
theorem dX6_fails_18 : decode cX6_fails 18 = .ok (.ifCond .eq 7, 3) := by decide +kernel
theorem dX6_fails_21 : decode cX6_fails 21 = .ok (.iconst 3, 1) := by decide +kernel
theorem dX6_fails_22 : decode cX6_fails 22 = .ok (.goto 4, 3) := by decide +kernel
theorem dX6_fails_25 : decode cX6_fails 25 = .ok (.iconst 0, 1) := by decide +kernel
theorem dX6_fails_26 : decode cX6_fails 26 = .ok (.putfield 64, 3) := by decide +kernel
theorem dX6_fails_29 : decode cX6_fails 29 = .ok (.aload_n 0, 1) := by decide +kernel
theorem dX6_fails_30 : decode cX6_fails 30 = .ok (.getfield 64, 3) := by decide +kernel
theorem dX6_fails_33 : decode cX6_fails 33 = .ok (.ifCond .le 7, 3) := by decide +kernel
theorem dX6_fails_36 : decode cX6_fails 36 = .ok (.iconst 1, 1) := by decide +kernel
theorem dX6_fails_37 : decode cX6_fails 37 = .ok (.goto 4, 3) := by decide +kernel
theorem dX6_fails_40 : decode cX6_fails 40 = .ok (.iconst 0, 1) := by decide +kernel
theorem dX6_fails_41 : decode cX6_fails 41 = .ok (.ireturn, 1) := by decide +kernel
theorem dX6_told_0 : decode cX6_told 0 = .ok (.aload_n 0, 1) := by decide +kernel
theorem dX6_told_1 : decode cX6_told 1 = .ok (.iconst 0, 1) := by decide +kernel
theorem dX6_told_2 : decode cX6_told 2 = .ok (.putfield 64, 3) := by decide +kernel
theorem dX6_told_5 : decode cX6_told 5 = .ok (.iload_n 1, 1) := by decide +kernel
theorem dX6_told_6 : decode cX6_told 6 = .ok (.ireturn, 1) := by decide +kernel
theorem dX6_noPassenger_0 : decode cX6_noPassenger 0 = .ok (.iload_n 1, 1) := by decide +kernel
theorem dX6_noPassenger_1 : decode cX6_noPassenger 1 = .ok (.iconst 0, 1) := by decide +kernel
theorem dX6_noPassenger_2 : decode cX6_noPassenger 2 = .ok (.aload_n 0, 1) := by decide +kernel
theorem dX6_noPassenger_3 : decode cX6_noPassenger 3 = .ok (.getfield 9, 3) := by decide +kernel
theorem dX6_noPassenger_6 : decode cX6_noPassenger 6 = .ok (.iconst 2, 1) := by decide +kernel
theorem dX6_noPassenger_7 : decode cX6_noPassenger 7 = .ok (.iaload, 1) := by decide +kernel
theorem dX6_noPassenger_8 : decode cX6_noPassenger 8 = .ok (.iconst 1, 1) := by decide +kernel
theorem dX6_noPassenger_9 : decode cX6_noPassenger 9 = .ok (.isub, 1) := by decide +kernel
theorem dX6_noPassenger_10 : decode cX6_noPassenger 10 = .ok (.invokestatic 77, 3) := by decide +kernel
theorem dX6_noPassenger_13 : decode cX6_noPassenger 13 = .ok (.ifCond .ne 7, 3) := by decide +kernel
theorem dX6_noPassenger_16 : decode cX6_noPassenger 16 = .ok (.iconst 1, 1) := by decide +kernel
theorem dX6_noPassenger_17 : decode cX6_noPassenger 17 = .ok (.goto 4, 3) := by decide +kernel
theorem dX6_noPassenger_20 : decode cX6_noPassenger 20 = .ok (.iconst 0, 1) := by decide +kernel
theorem dX6_noPassenger_21 : decode cX6_noPassenger 21 = .ok (.ireturn, 1) := by decide +kernel
theorem dX6_noStop_0 : decode cX6_noStop 0 = .ok (.iload_n 1, 1) := by decide +kernel
theorem dX6_noStop_1 : decode cX6_noStop 1 = .ok (.iconst 0, 1) := by decide +kernel
theorem dX6_noStop_2 : decode cX6_noStop 2 = .ok (.aload_n 0, 1) := by decide +kernel
theorem dX6_noStop_3 : decode cX6_noStop 3 = .ok (.getfield 9, 3) := by decide +kernel
theorem dX6_noStop_6 : decode cX6_noStop 6 = .ok (.iconst 1, 1) := by decide +kernel
theorem dX6_noStop_7 : decode cX6_noStop 7 = .ok (.iaload, 1) := by decide +kernel
theorem dX6_noStop_8 : decode cX6_noStop 8 = .ok (.iconst 1, 1) := by decide +kernel
theorem dX6_noStop_9 : decode cX6_noStop 9 = .ok (.isub, 1) := by decide +kernel
theorem dX6_noStop_10 : decode cX6_noStop 10 = .ok (.invokestatic 77, 3) := by decide +kernel
theorem dX6_noStop_13 : decode cX6_noStop 13 = .ok (.ifCond .ne 7, 3) := by decide +kernel
theorem dX6_noStop_16 : decode cX6_noStop 16 = .ok (.iconst 1, 1) := by decide +kernel
theorem dX6_noStop_17 : decode cX6_noStop 17 = .ok (.goto 4, 3) := by decide +kernel
theorem dX6_noStop_20 : decode cX6_noStop 20 = .ok (.iconst 0, 1) := by decide +kernel
theorem dX6_noStop_21 : decode cX6_noStop 21 = .ok (.ireturn, 1) := by decide +kernel
theorem dX6_noTicket_0 : decode cX6_noTicket 0 = .ok (.iload_n 1, 1) := by decide +kernel
theorem dX6_noTicket_1 : decode cX6_noTicket 1 = .ok (.iconst 0, 1) := by decide +kernel
theorem dX6_noTicket_2 : decode cX6_noTicket 2 = .ok (.aload_n 0, 1) := by decide +kernel
theorem dX6_noTicket_3 : decode cX6_noTicket 3 = .ok (.getfield 9, 3) := by decide +kernel
theorem dX6_noTicket_6 : decode cX6_noTicket 6 = .ok (.iconst 3, 1) := by decide +kernel
theorem dX6_noTicket_7 : decode cX6_noTicket 7 = .ok (.iaload, 1) := by decide +kernel
theorem dX6_noTicket_8 : decode cX6_noTicket 8 = .ok (.iconst 1, 1) := by decide +kernel
theorem dX6_noTicket_9 : decode cX6_noTicket 9 = .ok (.isub, 1) := by decide +kernel
theorem dX6_noTicket_10 : decode cX6_noTicket 10 = .ok (.invokestatic 77, 3) := by decide +kernel
theorem dX6_noTicket_13 : decode cX6_noTicket 13 = .ok (.ifCond .ne 7, 3) := by decide +kernel
theorem dX6_noTicket_16 : decode cX6_noTicket 16 = .ok (.iconst 1, 1) := by decide +kernel
theorem dX6_noTicket_17 : decode cX6_noTicket 17 = .ok (.goto 4, 3) := by decide +kernel
theorem dX6_noTicket_20 : decode cX6_noTicket 20 = .ok (.iconst 0, 1) := by decide +kernel
theorem dX6_noTicket_21 : decode cX6_noTicket 21 = .ok (.ireturn, 1) := by decide +kernel
theorem dX6_noCase_0 : decode cX6_noCase 0 = .ok (.iload_n 1, 1) := by decide +kernel
theorem dX6_noCase_1 : decode cX6_noCase 1 = .ok (.iconst 0, 1) := by decide +kernel
theorem dX6_noCase_2 : decode cX6_noCase 2 = .ok (.aload_n 0, 1) := by decide +kernel
theorem dX6_noCase_3 : decode cX6_noCase 3 = .ok (.getfield 9, 3) := by decide +kernel
theorem dX6_noCase_6 : decode cX6_noCase 6 = .ok (.iconst 4, 1) := by decide +kernel
theorem dX6_noCase_7 : decode cX6_noCase 7 = .ok (.iaload, 1) := by decide +kernel
theorem dX6_noCase_8 : decode cX6_noCase 8 = .ok (.iconst 1, 1) := by decide +kernel
theorem dX6_noCase_9 : decode cX6_noCase 9 = .ok (.isub, 1) := by decide +kernel
theorem dX6_noCase_10 : decode cX6_noCase 10 = .ok (.invokestatic 77, 3) := by decide +kernel
theorem dX6_noCase_13 : decode cX6_noCase 13 = .ok (.ifCond .ne 7, 3) := by decide +kernel
theorem dX6_noCase_16 : decode cX6_noCase 16 = .ok (.iconst 1, 1) := by decide +kernel
theorem dX6_noCase_17 : decode cX6_noCase 17 = .ok (.goto 4, 3) := by decide +kernel
theorem dX6_noCase_20 : decode cX6_noCase 20 = .ok (.iconst 0, 1) := by decide +kernel
theorem dX6_noCase_21 : decode cX6_noCase 21 = .ok (.ireturn, 1) := by decide +kernel
theorem dX6_four_0 : decode cX6_four 0 = .ok (.bipush 24, 2) := by decide +kernel
theorem dX6_four_2 : decode cX6_four 2 = .ok (.istore_n 2, 1) := by decide +kernel
theorem dX6_four_3 : decode cX6_four 3 = .ok (.iload_n 2, 1) := by decide +kernel
theorem dX6_four_4 : decode cX6_four 4 = .ok (.ifCond .lt 35, 3) := by decide +kernel
theorem dX6_four_7 : decode cX6_four 7 = .ok (.aload_n 0, 1) := by decide +kernel
theorem dX6_four_8 : decode cX6_four 8 = .ok (.getfield 26, 3) := by decide +kernel
theorem dX6_four_11 : decode cX6_four 11 = .ok (.aload_n 0, 1) := by decide +kernel
theorem dX6_four_12 : decode cX6_four 12 = .ok (.getfield 51, 3) := by decide +kernel
theorem dX6_four_15 : decode cX6_four 15 = .ok (.iload_n 1, 1) := by decide +kernel
theorem dX6_four_16 : decode cX6_four 16 = .ok (.iload_n 2, 1) := by decide +kernel
theorem dX6_four_17 : decode cX6_four 17 = .ok (.ishr, 1) := by decide +kernel
theorem dX6_four_18 : decode cX6_four 18 = .ok (.sipush 255, 3) := by decide +kernel
theorem dX6_four_21 : decode cX6_four 21 = .ok (.iand, 1) := by decide +kernel
theorem dX6_four_22 : decode cX6_four 22 = .ok (.iastore, 1) := by decide +kernel
theorem dX6_four_23 : decode cX6_four 23 = .ok (.aload_n 0, 1) := by decide +kernel
theorem dX6_four_24 : decode cX6_four 24 = .ok (.dup, 1) := by decide +kernel
theorem dX6_four_25 : decode cX6_four 25 = .ok (.getfield 51, 3) := by decide +kernel
theorem dX6_four_28 : decode cX6_four 28 = .ok (.iconst 1, 1) := by decide +kernel
theorem dX6_four_29 : decode cX6_four 29 = .ok (.iadd, 1) := by decide +kernel
theorem dX6_four_30 : decode cX6_four 30 = .ok (.putfield 51, 3) := by decide +kernel
theorem dX6_four_33 : decode cX6_four 33 = .ok (.iinc 2 (-8), 3) := by decide +kernel
theorem dX6_four_36 : decode cX6_four 36 = .ok (.goto (-33), 3) := by decide +kernel
theorem dX6_four_39 : decode cX6_four 39 = .ok (.return_, 1) := by decide +kernel
theorem dX6_append_0 : decode cX6_append 0 = .ok (.aload_n 0, 1) := by decide +kernel
theorem dX6_append_1 : decode cX6_append 1 = .ok (.iconst 0, 1) := by decide +kernel
theorem dX6_append_2 : decode cX6_append 2 = .ok (.putfield 64, 3) := by decide +kernel
theorem dX6_append_5 : decode cX6_append 5 = .ok (.aload_n 0, 1) := by decide +kernel
theorem dX6_append_6 : decode cX6_append 6 = .ok (.getfield 51, 3) := by decide +kernel
theorem dX6_append_9 : decode cX6_append 9 = .ok (.bipush 20, 2) := by decide +kernel
theorem dX6_append_11 : decode cX6_append 11 = .ok (.iadd, 1) := by decide +kernel
theorem dX6_append_12 : decode cX6_append 12 = .ok (.sipush 700, 3) := by decide +kernel
theorem dX6_append_15 : decode cX6_append 15 = .ok (.if_icmp .le 5, 3) := by decide +kernel
theorem dX6_append_18 : decode cX6_append 18 = .ok (.iconst (-1), 1) := by decide +kernel
theorem dX6_append_19 : decode cX6_append 19 = .ok (.ireturn, 1) := by decide +kernel
theorem dX6_append_20 : decode cX6_append 20 = .ok (.aload_n 0, 1) := by decide +kernel
theorem dX6_append_21 : decode cX6_append 21 = .ok (.iload_n 1, 1) := by decide +kernel
theorem dX6_append_22 : decode cX6_append 22 = .ok (.invokevirtual 153, 3) := by decide +kernel
theorem dX6_append_25 : decode cX6_append 25 = .ok (.aload_n 0, 1) := by decide +kernel
theorem dX6_append_26 : decode cX6_append 26 = .ok (.iload_n 2, 1) := by decide +kernel
theorem dX6_append_27 : decode cX6_append 27 = .ok (.invokevirtual 153, 3) := by decide +kernel
theorem dX6_append_30 : decode cX6_append 30 = .ok (.aload_n 0, 1) := by decide +kernel
theorem dX6_append_31 : decode cX6_append 31 = .ok (.iload_n 3, 1) := by decide +kernel
theorem dX6_append_32 : decode cX6_append 32 = .ok (.invokevirtual 153, 3) := by decide +kernel
theorem dX6_append_35 : decode cX6_append 35 = .ok (.aload_n 0, 1) := by decide +kernel
theorem dX6_append_36 : decode cX6_append 36 = .ok (.iload 4, 2) := by decide +kernel
theorem dX6_append_38 : decode cX6_append 38 = .ok (.invokevirtual 153, 3) := by decide +kernel
theorem dX6_append_41 : decode cX6_append 41 = .ok (.aload_n 0, 1) := by decide +kernel
theorem dX6_append_42 : decode cX6_append 42 = .ok (.iload 5, 2) := by decide +kernel
theorem dX6_append_44 : decode cX6_append 44 = .ok (.invokevirtual 153, 3) := by decide +kernel
theorem dX6_append_47 : decode cX6_append 47 = .ok (.aload_n 0, 1) := by decide +kernel
theorem dX6_append_48 : decode cX6_append 48 = .ok (.getfield 51, 3) := by decide +kernel
theorem dX6_append_51 : decode cX6_append 51 = .ok (.ireturn, 1) := by decide +kernel
theorem dX6_truncateInput_0 : decode cX6_truncateInput 0 = .ok (.aload_n 0, 1) := by decide +kernel
theorem dX6_truncateInput_1 : decode cX6_truncateInput 1 = .ok (.iload_n 1, 1) := by decide +kernel
theorem dX6_truncateInput_2 : decode cX6_truncateInput 2 = .ok (.iconst 0, 1) := by decide +kernel
theorem dX6_truncateInput_3 : decode cX6_truncateInput 3 = .ok (.aload_n 0, 1) := by decide +kernel
theorem dX6_truncateInput_4 : decode cX6_truncateInput 4 = .ok (.getfield 51, 3) := by decide +kernel
theorem dX6_truncateInput_7 : decode cX6_truncateInput 7 = .ok (.invokestatic 77, 3) := by decide +kernel
theorem dX6_truncateInput_10 : decode cX6_truncateInput 10 = .ok (.ifCond .ne 7, 3) := by decide +kernel
theorem dX6_truncateInput_13 : decode cX6_truncateInput 13 = .ok (.iconst 1, 1) := by decide +kernel
theorem dX6_truncateInput_14 : decode cX6_truncateInput 14 = .ok (.goto 4, 3) := by decide +kernel
theorem dX6_truncateInput_17 : decode cX6_truncateInput 17 = .ok (.iconst 0, 1) := by decide +kernel
theorem dX6_truncateInput_18 : decode cX6_truncateInput 18 = .ok (.iconst 0, 1) := by decide +kernel
theorem dX6_truncateInput_19 : decode cX6_truncateInput 19 = .ok (.iconst 0, 1) := by decide +kernel
theorem dX6_truncateInput_20 : decode cX6_truncateInput 20 = .ok (.invokevirtual 157, 3) := by decide +kernel
theorem dX6_truncateInput_23 : decode cX6_truncateInput 23 = .ok (.ifCond .eq 5, 3) := by decide +kernel
theorem dX6_truncateInput_26 : decode cX6_truncateInput 26 = .ok (.iconst 0, 1) := by decide +kernel
theorem dX6_truncateInput_27 : decode cX6_truncateInput 27 = .ok (.ireturn, 1) := by decide +kernel
theorem dX6_truncateInput_28 : decode cX6_truncateInput 28 = .ok (.aload_n 0, 1) := by decide +kernel
theorem dX6_truncateInput_29 : decode cX6_truncateInput 29 = .ok (.iload_n 1, 1) := by decide +kernel
theorem dX6_truncateInput_30 : decode cX6_truncateInput 30 = .ok (.putfield 51, 3) := by decide +kernel
theorem dX6_truncateInput_33 : decode cX6_truncateInput 33 = .ok (.iload_n 1, 1) := by decide +kernel
theorem dX6_truncateInput_34 : decode cX6_truncateInput 34 = .ok (.ireturn, 1) := by decide +kernel
theorem dX6_play_0 : decode cX6_play 0 = .ok (.aload_n 0, 1) := by decide +kernel
theorem dX6_play_1 : decode cX6_play 1 = .ok (.invokevirtual 304, 3) := by decide +kernel
theorem dX6_play_4 : decode cX6_play 4 = .ok (.aload_n 0, 1) := by decide +kernel
theorem dX6_play_5 : decode cX6_play 5 = .ok (.invokevirtual 313, 3) := by decide +kernel
theorem dX6_play_8 : decode cX6_play 8 = .ok (.ireturn, 1) := by decide +kernel
theorem dX6_errorCode_0 : decode cX6_errorCode 0 = .ok (.aload_n 0, 1) := by decide +kernel
theorem dX6_errorCode_1 : decode cX6_errorCode 1 = .ok (.aload_n 0, 1) := by decide +kernel
theorem dX6_errorCode_2 : decode cX6_errorCode 2 = .ok (.getfield 184, 3) := by decide +kernel
theorem dX6_errorCode_5 : decode cX6_errorCode 5 = .ok (.invokevirtual 316, 3) := by decide +kernel
theorem dX6_errorCode_8 : decode cX6_errorCode 8 = .ok (.ireturn, 1) := by decide +kernel
theorem dX6_errorOffset_0 : decode cX6_errorOffset 0 = .ok (.aload_n 0, 1) := by decide +kernel
theorem dX6_errorOffset_1 : decode cX6_errorOffset 1 = .ok (.aload_n 0, 1) := by decide +kernel
theorem dX6_errorOffset_2 : decode cX6_errorOffset 2 = .ok (.getfield 32, 3) := by decide +kernel
theorem dX6_errorOffset_5 : decode cX6_errorOffset 5 = .ok (.invokevirtual 316, 3) := by decide +kernel
theorem dX6_errorOffset_8 : decode cX6_errorOffset 8 = .ok (.ireturn, 1) := by decide +kernel
theorem dX6_buy_0 : decode cX6_buy 0 = .ok (.aload_n 0, 1) := by decide +kernel
theorem dX6_buy_1 : decode cX6_buy 1 = .ok (.iload_n 1, 1) := by decide +kernel
theorem dX6_buy_2 : decode cX6_buy 2 = .ok (.invokevirtual 319, 3) := by decide +kernel
theorem dX6_buy_5 : decode cX6_buy 5 = .ok (.istore 4, 2) := by decide +kernel
theorem dX6_buy_7 : decode cX6_buy 7 = .ok (.iload_n 2, 1) := by decide +kernel
theorem dX6_buy_8 : decode cX6_buy 8 = .ok (.iconst 0, 1) := by decide +kernel
theorem dX6_buy_9 : decode cX6_buy 9 = .ok (.iconst 2, 1) := by decide +kernel
theorem dX6_buy_10 : decode cX6_buy 10 = .ok (.invokestatic 77, 3) := by decide +kernel
theorem dX6_buy_13 : decode cX6_buy 13 = .ok (.ifCond .eq 13, 3) := by decide +kernel
theorem dX6_buy_16 : decode cX6_buy 16 = .ok (.iload_n 3, 1) := by decide +kernel
theorem dX6_buy_17 : decode cX6_buy 17 = .ok (.iconst 1, 1) := by decide +kernel
theorem dX6_buy_18 : decode cX6_buy 18 = .ok (.bipush 15, 2) := by decide +kernel
theorem dX6_buy_20 : decode cX6_buy 20 = .ok (.invokestatic 77, 3) := by decide +kernel
theorem dX6_buy_23 : decode cX6_buy 23 = .ok (.ifCond .ne 7, 3) := by decide +kernel
theorem dX6_buy_26 : decode cX6_buy 26 = .ok (.iconst 1, 1) := by decide +kernel
theorem dX6_buy_27 : decode cX6_buy 27 = .ok (.goto 4, 3) := by decide +kernel
theorem dX6_buy_30 : decode cX6_buy 30 = .ok (.iconst 0, 1) := by decide +kernel
theorem dX6_buy_31 : decode cX6_buy 31 = .ok (.istore 5, 2) := by decide +kernel
theorem dX6_buy_33 : decode cX6_buy 33 = .ok (.aload_n 0, 1) := by decide +kernel
theorem dX6_buy_34 : decode cX6_buy 34 = .ok (.iload 4, 2) := by decide +kernel
theorem dX6_buy_36 : decode cX6_buy 36 = .ok (.iload 5, 2) := by decide +kernel
theorem dX6_buy_38 : decode cX6_buy 38 = .ok (.iload 4, 2) := by decide +kernel
theorem dX6_buy_40 : decode cX6_buy 40 = .ok (.ifCond .ne 22, 3) := by decide +kernel
theorem dX6_buy_43 : decode cX6_buy 43 = .ok (.iload 5, 2) := by decide +kernel
theorem dX6_buy_45 : decode cX6_buy 45 = .ok (.ifCond .ne 17, 3) := by decide +kernel
theorem dX6_buy_48 : decode cX6_buy 48 = .ok (.aload_n 0, 1) := by decide +kernel
theorem dX6_buy_49 : decode cX6_buy 49 = .ok (.iload_n 1, 1) := by decide +kernel
theorem dX6_buy_50 : decode cX6_buy 50 = .ok (.iload_n 2, 1) := by decide +kernel
theorem dX6_buy_51 : decode cX6_buy 51 = .ok (.iload_n 3, 1) := by decide +kernel
theorem dX6_buy_52 : decode cX6_buy 52 = .ok (.invokevirtual 227, 3) := by decide +kernel
theorem dX6_buy_55 : decode cX6_buy 55 = .ok (.ifCond .ne 7, 3) := by decide +kernel
theorem dX6_buy_58 : decode cX6_buy 58 = .ok (.iconst 1, 1) := by decide +kernel
theorem dX6_buy_59 : decode cX6_buy 59 = .ok (.goto 4, 3) := by decide +kernel
theorem dX6_buy_62 : decode cX6_buy 62 = .ok (.iconst 0, 1) := by decide +kernel
theorem dX6_buy_63 : decode cX6_buy 63 = .ok (.invokevirtual 157, 3) := by decide +kernel
theorem dX6_buy_66 : decode cX6_buy 66 = .ok (.ifCond .eq 5, 3) := by decide +kernel
theorem dX6_buy_69 : decode cX6_buy 69 = .ok (.iconst 0, 1) := by decide +kernel
theorem dX6_buy_70 : decode cX6_buy 70 = .ok (.ireturn, 1) := by decide +kernel
theorem dX6_buy_71 : decode cX6_buy 71 = .ok (.aload_n 0, 1) := by decide +kernel
theorem dX6_buy_72 : decode cX6_buy 72 = .ok (.aload_n 0, 1) := by decide +kernel
theorem dX6_buy_73 : decode cX6_buy 73 = .ok (.getfield 9, 3) := by decide +kernel
theorem dX6_buy_76 : decode cX6_buy 76 = .ok (.invokevirtual 300, 3) := by decide +kernel
theorem dX6_buy_79 : decode cX6_buy 79 = .ok (.aload_n 0, 1) := by decide +kernel
theorem dX6_buy_80 : decode cX6_buy 80 = .ok (.iload_n 1, 1) := by decide +kernel
theorem dX6_buy_81 : decode cX6_buy 81 = .ok (.iload_n 2, 1) := by decide +kernel
theorem dX6_buy_82 : decode cX6_buy 82 = .ok (.iload_n 3, 1) := by decide +kernel
theorem dX6_buy_83 : decode cX6_buy 83 = .ok (.invokevirtual 234, 3) := by decide +kernel
theorem dX6_buy_86 : decode cX6_buy 86 = .ok (.ireturn, 1) := by decide +kernel
theorem dX6_ride_0 : decode cX6_ride 0 = .ok (.aload_n 0, 1) := by decide +kernel
theorem dX6_ride_1 : decode cX6_ride 1 = .ok (.iload_n 1, 1) := by decide +kernel
theorem dX6_ride_2 : decode cX6_ride 2 = .ok (.invokevirtual 319, 3) := by decide +kernel
theorem dX6_ride_5 : decode cX6_ride 5 = .ok (.ifCond .ne 34, 3) := by decide +kernel
theorem dX6_ride_8 : decode cX6_ride 8 = .ok (.aload_n 0, 1) := by decide +kernel
theorem dX6_ride_9 : decode cX6_ride 9 = .ok (.iload_n 2, 1) := by decide +kernel
theorem dX6_ride_10 : decode cX6_ride 10 = .ok (.invokevirtual 322, 3) := by decide +kernel
theorem dX6_ride_13 : decode cX6_ride 13 = .ok (.ifCond .ne 26, 3) := by decide +kernel
theorem dX6_ride_16 : decode cX6_ride 16 = .ok (.aload_n 0, 1) := by decide +kernel
theorem dX6_ride_17 : decode cX6_ride 17 = .ok (.iload_n 3, 1) := by decide +kernel
theorem dX6_ride_18 : decode cX6_ride 18 = .ok (.invokevirtual 322, 3) := by decide +kernel
theorem dX6_ride_21 : decode cX6_ride 21 = .ok (.ifCond .ne 18, 3) := by decide +kernel
theorem dX6_ride_24 : decode cX6_ride 24 = .ok (.iload 4, 2) := by decide +kernel
theorem dX6_ride_26 : decode cX6_ride 26 = .ok (.iconst (-1), 1) := by decide +kernel
theorem dX6_ride_27 : decode cX6_ride 27 = .ok (.if_icmp .eq 16, 3) := by decide +kernel
theorem dX6_ride_30 : decode cX6_ride 30 = .ok (.aload_n 0, 1) := by decide +kernel
theorem dX6_ride_31 : decode cX6_ride 31 = .ok (.iload 4, 2) := by decide +kernel
theorem dX6_ride_33 : decode cX6_ride 33 = .ok (.invokevirtual 325, 3) := by decide +kernel
theorem dX6_ride_36 : decode cX6_ride 36 = .ok (.ifCond .eq 7, 3) := by decide +kernel
theorem dX6_ride_39 : decode cX6_ride 39 = .ok (.iconst 1, 1) := by decide +kernel
theorem dX6_ride_40 : decode cX6_ride 40 = .ok (.goto 4, 3) := by decide +kernel
theorem dX6_ride_43 : decode cX6_ride 43 = .ok (.iconst 0, 1) := by decide +kernel
theorem dX6_ride_44 : decode cX6_ride 44 = .ok (.istore 5, 2) := by decide +kernel
theorem dX6_ride_46 : decode cX6_ride 46 = .ok (.aload_n 0, 1) := by decide +kernel
theorem dX6_ride_47 : decode cX6_ride 47 = .ok (.iload 5, 2) := by decide +kernel
theorem dX6_ride_49 : decode cX6_ride 49 = .ok (.iload_n 2, 1) := by decide +kernel
theorem dX6_ride_50 : decode cX6_ride 50 = .ok (.iload_n 3, 1) := by decide +kernel
theorem dX6_ride_51 : decode cX6_ride 51 = .ok (.if_icmp .ne 7, 3) := by decide +kernel
theorem dX6_ride_54 : decode cX6_ride 54 = .ok (.iconst 1, 1) := by decide +kernel
theorem dX6_ride_55 : decode cX6_ride 55 = .ok (.goto 4, 3) := by decide +kernel
theorem dX6_ride_58 : decode cX6_ride 58 = .ok (.iconst 0, 1) := by decide +kernel
theorem dX6_ride_59 : decode cX6_ride 59 = .ok (.iload 5, 2) := by decide +kernel
theorem dX6_ride_61 : decode cX6_ride 61 = .ok (.ifCond .ne 17, 3) := by decide +kernel
theorem dX6_ride_64 : decode cX6_ride 64 = .ok (.aload_n 0, 1) := by decide +kernel
theorem dX6_ride_65 : decode cX6_ride 65 = .ok (.iload_n 1, 1) := by decide +kernel
theorem dX6_ride_66 : decode cX6_ride 66 = .ok (.iload 4, 2) := by decide +kernel
theorem dX6_ride_68 : decode cX6_ride 68 = .ok (.invokevirtual 243, 3) := by decide +kernel
theorem dX6_ride_71 : decode cX6_ride 71 = .ok (.ifCond .ne 7, 3) := by decide +kernel
theorem dX6_ride_74 : decode cX6_ride 74 = .ok (.iconst 1, 1) := by decide +kernel
theorem dX6_ride_75 : decode cX6_ride 75 = .ok (.goto 4, 3) := by decide +kernel
theorem dX6_ride_78 : decode cX6_ride 78 = .ok (.iconst 0, 1) := by decide +kernel
theorem dX6_ride_79 : decode cX6_ride 79 = .ok (.invokevirtual 157, 3) := by decide +kernel
theorem dX6_ride_82 : decode cX6_ride 82 = .ok (.ifCond .eq 5, 3) := by decide +kernel
theorem dX6_ride_85 : decode cX6_ride 85 = .ok (.iconst 0, 1) := by decide +kernel
theorem dX6_ride_86 : decode cX6_ride 86 = .ok (.ireturn, 1) := by decide +kernel
theorem dX6_ride_87 : decode cX6_ride 87 = .ok (.aload_n 0, 1) := by decide +kernel
theorem dX6_ride_88 : decode cX6_ride 88 = .ok (.aload_n 0, 1) := by decide +kernel
theorem dX6_ride_89 : decode cX6_ride 89 = .ok (.getfield 9, 3) := by decide +kernel
theorem dX6_ride_92 : decode cX6_ride 92 = .ok (.invokevirtual 300, 3) := by decide +kernel
theorem dX6_ride_95 : decode cX6_ride 95 = .ok (.aload_n 0, 1) := by decide +kernel
theorem dX6_ride_96 : decode cX6_ride 96 = .ok (.iload_n 1, 1) := by decide +kernel
theorem dX6_ride_97 : decode cX6_ride 97 = .ok (.iload_n 2, 1) := by decide +kernel
theorem dX6_ride_98 : decode cX6_ride 98 = .ok (.iload_n 3, 1) := by decide +kernel
theorem dX6_ride_99 : decode cX6_ride 99 = .ok (.iload 4, 2) := by decide +kernel
theorem dX6_ride_101 : decode cX6_ride 101 = .ok (.invokevirtual 246, 3) := by decide +kernel
theorem dX6_ride_104 : decode cX6_ride 104 = .ok (.ireturn, 1) := by decide +kernel
theorem dX6_inspect_0 : decode cX6_inspect 0 = .ok (.aload_n 0, 1) := by decide +kernel
theorem dX6_inspect_1 : decode cX6_inspect 1 = .ok (.iload_n 1, 1) := by decide +kernel
theorem dX6_inspect_2 : decode cX6_inspect 2 = .ok (.invokevirtual 319, 3) := by decide +kernel
theorem dX6_inspect_5 : decode cX6_inspect 5 = .ok (.istore_n 2, 1) := by decide +kernel
theorem dX6_inspect_6 : decode cX6_inspect 6 = .ok (.aload_n 0, 1) := by decide +kernel
theorem dX6_inspect_7 : decode cX6_inspect 7 = .ok (.iload_n 2, 1) := by decide +kernel
theorem dX6_inspect_8 : decode cX6_inspect 8 = .ok (.iload_n 2, 1) := by decide +kernel
theorem dX6_inspect_9 : decode cX6_inspect 9 = .ok (.ifCond .ne 15, 3) := by decide +kernel
theorem dX6_inspect_12 : decode cX6_inspect 12 = .ok (.aload_n 0, 1) := by decide +kernel
theorem dX6_inspect_13 : decode cX6_inspect 13 = .ok (.iload_n 1, 1) := by decide +kernel
theorem dX6_inspect_14 : decode cX6_inspect 14 = .ok (.invokevirtual 273, 3) := by decide +kernel
theorem dX6_inspect_17 : decode cX6_inspect 17 = .ok (.ifCond .ne 7, 3) := by decide +kernel
theorem dX6_inspect_20 : decode cX6_inspect 20 = .ok (.iconst 1, 1) := by decide +kernel
theorem dX6_inspect_21 : decode cX6_inspect 21 = .ok (.goto 4, 3) := by decide +kernel
theorem dX6_inspect_24 : decode cX6_inspect 24 = .ok (.iconst 0, 1) := by decide +kernel
theorem dX6_inspect_25 : decode cX6_inspect 25 = .ok (.iconst 0, 1) := by decide +kernel
theorem dX6_inspect_26 : decode cX6_inspect 26 = .ok (.invokevirtual 157, 3) := by decide +kernel
theorem dX6_inspect_29 : decode cX6_inspect 29 = .ok (.ifCond .eq 5, 3) := by decide +kernel
theorem dX6_inspect_32 : decode cX6_inspect 32 = .ok (.iconst 0, 1) := by decide +kernel
theorem dX6_inspect_33 : decode cX6_inspect 33 = .ok (.ireturn, 1) := by decide +kernel
theorem dX6_inspect_34 : decode cX6_inspect 34 = .ok (.aload_n 0, 1) := by decide +kernel
theorem dX6_inspect_35 : decode cX6_inspect 35 = .ok (.aload_n 0, 1) := by decide +kernel
theorem dX6_inspect_36 : decode cX6_inspect 36 = .ok (.getfield 9, 3) := by decide +kernel
theorem dX6_inspect_39 : decode cX6_inspect 39 = .ok (.invokevirtual 300, 3) := by decide +kernel
theorem dX6_inspect_42 : decode cX6_inspect 42 = .ok (.aload_n 0, 1) := by decide +kernel
theorem dX6_inspect_43 : decode cX6_inspect 43 = .ok (.iload_n 1, 1) := by decide +kernel
theorem dX6_inspect_44 : decode cX6_inspect 44 = .ok (.invokevirtual 276, 3) := by decide +kernel
theorem dX6_inspect_47 : decode cX6_inspect 47 = .ok (.ireturn, 1) := by decide +kernel
theorem dX6_waitFor_0 : decode cX6_waitFor 0 = .ok (.iload_n 1, 1) := by decide +kernel
theorem dX6_waitFor_1 : decode cX6_waitFor 1 = .ok (.iconst 1, 1) := by decide +kernel
theorem dX6_waitFor_2 : decode cX6_waitFor 2 = .ok (.sipush 9999, 3) := by decide +kernel
theorem dX6_waitFor_5 : decode cX6_waitFor 5 = .ok (.invokestatic 77, 3) := by decide +kernel
theorem dX6_waitFor_8 : decode cX6_waitFor 8 = .ok (.ifCond .ne 7, 3) := by decide +kernel
theorem dX6_waitFor_11 : decode cX6_waitFor 11 = .ok (.iconst 1, 1) := by decide +kernel
theorem dX6_waitFor_12 : decode cX6_waitFor 12 = .ok (.goto 4, 3) := by decide +kernel
theorem dX6_waitFor_15 : decode cX6_waitFor 15 = .ok (.iconst 0, 1) := by decide +kernel
theorem dX6_waitFor_16 : decode cX6_waitFor 16 = .ok (.istore_n 2, 1) := by decide +kernel
theorem dX6_waitFor_17 : decode cX6_waitFor 17 = .ok (.aload_n 0, 1) := by decide +kernel
theorem dX6_waitFor_18 : decode cX6_waitFor 18 = .ok (.iload_n 2, 1) := by decide +kernel
theorem dX6_waitFor_19 : decode cX6_waitFor 19 = .ok (.iload_n 2, 1) := by decide +kernel
theorem dX6_waitFor_20 : decode cX6_waitFor 20 = .ok (.ifCond .ne 20, 3) := by decide +kernel
theorem dX6_waitFor_23 : decode cX6_waitFor 23 = .ok (.aload_n 0, 1) := by decide +kernel
theorem dX6_waitFor_24 : decode cX6_waitFor 24 = .ok (.getfield 9, 3) := by decide +kernel
theorem dX6_waitFor_27 : decode cX6_waitFor 27 = .ok (.iconst 0, 1) := by decide +kernel
theorem dX6_waitFor_28 : decode cX6_waitFor 28 = .ok (.iaload, 1) := by decide +kernel
theorem dX6_waitFor_29 : decode cX6_waitFor 29 = .ok (.iload_n 1, 1) := by decide +kernel
theorem dX6_waitFor_30 : decode cX6_waitFor 30 = .ok (.iadd, 1) := by decide +kernel
theorem dX6_waitFor_31 : decode cX6_waitFor 31 = .ok (.ldc 212, 2) := by decide +kernel
theorem dX6_waitFor_33 : decode cX6_waitFor 33 = .ok (.if_icmp .le 7, 3) := by decide +kernel
theorem dX6_waitFor_36 : decode cX6_waitFor 36 = .ok (.iconst 1, 1) := by decide +kernel
theorem dX6_waitFor_37 : decode cX6_waitFor 37 = .ok (.goto 4, 3) := by decide +kernel
theorem dX6_waitFor_40 : decode cX6_waitFor 40 = .ok (.iconst 0, 1) := by decide +kernel
theorem dX6_waitFor_41 : decode cX6_waitFor 41 = .ok (.iconst 0, 1) := by decide +kernel
theorem dX6_waitFor_42 : decode cX6_waitFor 42 = .ok (.invokevirtual 157, 3) := by decide +kernel
theorem dX6_waitFor_45 : decode cX6_waitFor 45 = .ok (.ifCond .eq 5, 3) := by decide +kernel
theorem dX6_waitFor_48 : decode cX6_waitFor 48 = .ok (.iconst 0, 1) := by decide +kernel
theorem dX6_waitFor_49 : decode cX6_waitFor 49 = .ok (.ireturn, 1) := by decide +kernel
theorem dX6_waitFor_50 : decode cX6_waitFor 50 = .ok (.aload_n 0, 1) := by decide +kernel
theorem dX6_waitFor_51 : decode cX6_waitFor 51 = .ok (.aload_n 0, 1) := by decide +kernel
theorem dX6_waitFor_52 : decode cX6_waitFor 52 = .ok (.getfield 9, 3) := by decide +kernel
theorem dX6_waitFor_55 : decode cX6_waitFor 55 = .ok (.invokevirtual 300, 3) := by decide +kernel
theorem dX6_waitFor_58 : decode cX6_waitFor 58 = .ok (.aload_n 0, 1) := by decide +kernel
theorem dX6_waitFor_59 : decode cX6_waitFor 59 = .ok (.iload_n 1, 1) := by decide +kernel
theorem dX6_waitFor_60 : decode cX6_waitFor 60 = .ok (.invokevirtual 281, 3) := by decide +kernel
theorem dX6_waitFor_63 : decode cX6_waitFor 63 = .ok (.ireturn, 1) := by decide +kernel
theorem dX6_appeal_0 : decode cX6_appeal 0 = .ok (.aload_n 0, 1) := by decide +kernel
theorem dX6_appeal_1 : decode cX6_appeal 1 = .ok (.iload_n 1, 1) := by decide +kernel
theorem dX6_appeal_2 : decode cX6_appeal 2 = .ok (.invokevirtual 328, 3) := by decide +kernel
theorem dX6_appeal_5 : decode cX6_appeal 5 = .ok (.ifCond .ne 11, 3) := by decide +kernel
theorem dX6_appeal_8 : decode cX6_appeal 8 = .ok (.aload_n 0, 1) := by decide +kernel
theorem dX6_appeal_9 : decode cX6_appeal 9 = .ok (.iload_n 2, 1) := by decide +kernel
theorem dX6_appeal_10 : decode cX6_appeal 10 = .ok (.invokevirtual 325, 3) := by decide +kernel
theorem dX6_appeal_13 : decode cX6_appeal 13 = .ok (.ifCond .eq 7, 3) := by decide +kernel
theorem dX6_appeal_16 : decode cX6_appeal 16 = .ok (.iconst 1, 1) := by decide +kernel
theorem dX6_appeal_17 : decode cX6_appeal 17 = .ok (.goto 4, 3) := by decide +kernel
theorem dX6_appeal_20 : decode cX6_appeal 20 = .ok (.iconst 0, 1) := by decide +kernel
theorem dX6_appeal_21 : decode cX6_appeal 21 = .ok (.istore_n 3, 1) := by decide +kernel
theorem dX6_appeal_22 : decode cX6_appeal 22 = .ok (.aload_n 0, 1) := by decide +kernel
theorem dX6_appeal_23 : decode cX6_appeal 23 = .ok (.iload_n 3, 1) := by decide +kernel
theorem dX6_appeal_24 : decode cX6_appeal 24 = .ok (.iload_n 3, 1) := by decide +kernel
theorem dX6_appeal_25 : decode cX6_appeal 25 = .ok (.ifCond .ne 15, 3) := by decide +kernel
theorem dX6_appeal_28 : decode cX6_appeal 28 = .ok (.aload_n 0, 1) := by decide +kernel
theorem dX6_appeal_29 : decode cX6_appeal 29 = .ok (.iload_n 1, 1) := by decide +kernel
theorem dX6_appeal_30 : decode cX6_appeal 30 = .ok (.invokevirtual 250, 3) := by decide +kernel
theorem dX6_appeal_33 : decode cX6_appeal 33 = .ok (.ifCond .ne 7, 3) := by decide +kernel
theorem dX6_appeal_36 : decode cX6_appeal 36 = .ok (.iconst 1, 1) := by decide +kernel
theorem dX6_appeal_37 : decode cX6_appeal 37 = .ok (.goto 4, 3) := by decide +kernel
theorem dX6_appeal_40 : decode cX6_appeal 40 = .ok (.iconst 0, 1) := by decide +kernel
theorem dX6_appeal_41 : decode cX6_appeal 41 = .ok (.iconst 0, 1) := by decide +kernel
theorem dX6_appeal_42 : decode cX6_appeal 42 = .ok (.invokevirtual 157, 3) := by decide +kernel
theorem dX6_appeal_45 : decode cX6_appeal 45 = .ok (.ifCond .eq 5, 3) := by decide +kernel
theorem dX6_appeal_48 : decode cX6_appeal 48 = .ok (.iconst 0, 1) := by decide +kernel
theorem dX6_appeal_49 : decode cX6_appeal 49 = .ok (.ireturn, 1) := by decide +kernel
theorem dX6_appeal_50 : decode cX6_appeal 50 = .ok (.aload_n 0, 1) := by decide +kernel
theorem dX6_appeal_51 : decode cX6_appeal 51 = .ok (.aload_n 0, 1) := by decide +kernel
theorem dX6_appeal_52 : decode cX6_appeal 52 = .ok (.getfield 9, 3) := by decide +kernel
theorem dX6_appeal_55 : decode cX6_appeal 55 = .ok (.invokevirtual 300, 3) := by decide +kernel
theorem dX6_appeal_58 : decode cX6_appeal 58 = .ok (.aload_n 0, 1) := by decide +kernel
theorem dX6_appeal_59 : decode cX6_appeal 59 = .ok (.iload_n 1, 1) := by decide +kernel
theorem dX6_appeal_60 : decode cX6_appeal 60 = .ok (.iload_n 2, 1) := by decide +kernel
theorem dX6_appeal_61 : decode cX6_appeal 61 = .ok (.invokevirtual 253, 3) := by decide +kernel
theorem dX6_appeal_64 : decode cX6_appeal 64 = .ok (.ireturn, 1) := by decide +kernel
theorem dX6_decide_0 : decode cX6_decide 0 = .ok (.aload_n 0, 1) := by decide +kernel
theorem dX6_decide_1 : decode cX6_decide 1 = .ok (.iload_n 1, 1) := by decide +kernel
theorem dX6_decide_2 : decode cX6_decide 2 = .ok (.invokevirtual 328, 3) := by decide +kernel
theorem dX6_decide_5 : decode cX6_decide 5 = .ok (.istore_n 2, 1) := by decide +kernel
theorem dX6_decide_6 : decode cX6_decide 6 = .ok (.aload_n 0, 1) := by decide +kernel
theorem dX6_decide_7 : decode cX6_decide 7 = .ok (.iload_n 2, 1) := by decide +kernel
theorem dX6_decide_8 : decode cX6_decide 8 = .ok (.iload_n 2, 1) := by decide +kernel
theorem dX6_decide_9 : decode cX6_decide 9 = .ok (.ifCond .ne 17, 3) := by decide +kernel
theorem dX6_decide_12 : decode cX6_decide 12 = .ok (.aload_n 0, 1) := by decide +kernel
theorem dX6_decide_13 : decode cX6_decide 13 = .ok (.iload_n 1, 1) := by decide +kernel
theorem dX6_decide_14 : decode cX6_decide 14 = .ok (.iconst 2, 1) := by decide +kernel
theorem dX6_decide_15 : decode cX6_decide 15 = .ok (.invokevirtual 138, 3) := by decide +kernel
theorem dX6_decide_18 : decode cX6_decide 18 = .ok (.iconst 1, 1) := by decide +kernel
theorem dX6_decide_19 : decode cX6_decide 19 = .ok (.if_icmp .eq 7, 3) := by decide +kernel
theorem dX6_decide_22 : decode cX6_decide 22 = .ok (.iconst 1, 1) := by decide +kernel
theorem dX6_decide_23 : decode cX6_decide 23 = .ok (.goto 4, 3) := by decide +kernel
theorem dX6_decide_26 : decode cX6_decide 26 = .ok (.iconst 0, 1) := by decide +kernel
theorem dX6_decide_27 : decode cX6_decide 27 = .ok (.iconst 0, 1) := by decide +kernel
theorem dX6_decide_28 : decode cX6_decide 28 = .ok (.invokevirtual 157, 3) := by decide +kernel
theorem dX6_decide_31 : decode cX6_decide 31 = .ok (.ifCond .eq 5, 3) := by decide +kernel
theorem dX6_decide_34 : decode cX6_decide 34 = .ok (.iconst 0, 1) := by decide +kernel
theorem dX6_decide_35 : decode cX6_decide 35 = .ok (.ireturn, 1) := by decide +kernel
theorem dX6_decide_36 : decode cX6_decide 36 = .ok (.aload_n 0, 1) := by decide +kernel
theorem dX6_decide_37 : decode cX6_decide 37 = .ok (.aload_n 0, 1) := by decide +kernel
theorem dX6_decide_38 : decode cX6_decide 38 = .ok (.getfield 9, 3) := by decide +kernel
theorem dX6_decide_41 : decode cX6_decide 41 = .ok (.invokevirtual 300, 3) := by decide +kernel
theorem dX6_decide_44 : decode cX6_decide 44 = .ok (.aload_n 0, 1) := by decide +kernel
theorem dX6_decide_45 : decode cX6_decide 45 = .ok (.iload_n 1, 1) := by decide +kernel
theorem dX6_decide_46 : decode cX6_decide 46 = .ok (.invokevirtual 286, 3) := by decide +kernel
theorem dX6_decide_49 : decode cX6_decide 49 = .ok (.ireturn, 1) := by decide +kernel
theorem dX6_pay_0 : decode cX6_pay 0 = .ok (.aload_n 0, 1) := by decide +kernel
theorem dX6_pay_1 : decode cX6_pay 1 = .ok (.iload_n 1, 1) := by decide +kernel
theorem dX6_pay_2 : decode cX6_pay 2 = .ok (.invokevirtual 328, 3) := by decide +kernel
theorem dX6_pay_5 : decode cX6_pay 5 = .ok (.istore_n 2, 1) := by decide +kernel
theorem dX6_pay_6 : decode cX6_pay 6 = .ok (.aload_n 0, 1) := by decide +kernel
theorem dX6_pay_7 : decode cX6_pay 7 = .ok (.iload_n 2, 1) := by decide +kernel
theorem dX6_pay_8 : decode cX6_pay 8 = .ok (.iload_n 2, 1) := by decide +kernel
theorem dX6_pay_9 : decode cX6_pay 9 = .ok (.ifCond .ne 15, 3) := by decide +kernel
theorem dX6_pay_12 : decode cX6_pay 12 = .ok (.aload_n 0, 1) := by decide +kernel
theorem dX6_pay_13 : decode cX6_pay 13 = .ok (.iload_n 1, 1) := by decide +kernel
theorem dX6_pay_14 : decode cX6_pay 14 = .ok (.invokevirtual 291, 3) := by decide +kernel
theorem dX6_pay_17 : decode cX6_pay 17 = .ok (.ifCond .ne 7, 3) := by decide +kernel
theorem dX6_pay_20 : decode cX6_pay 20 = .ok (.iconst 1, 1) := by decide +kernel
theorem dX6_pay_21 : decode cX6_pay 21 = .ok (.goto 4, 3) := by decide +kernel
theorem dX6_pay_24 : decode cX6_pay 24 = .ok (.iconst 0, 1) := by decide +kernel
theorem dX6_pay_25 : decode cX6_pay 25 = .ok (.iconst 0, 1) := by decide +kernel
theorem dX6_pay_26 : decode cX6_pay 26 = .ok (.invokevirtual 157, 3) := by decide +kernel
theorem dX6_pay_29 : decode cX6_pay 29 = .ok (.ifCond .eq 5, 3) := by decide +kernel
theorem dX6_pay_32 : decode cX6_pay 32 = .ok (.iconst 0, 1) := by decide +kernel
theorem dX6_pay_33 : decode cX6_pay 33 = .ok (.ireturn, 1) := by decide +kernel
theorem dX6_pay_34 : decode cX6_pay 34 = .ok (.aload_n 0, 1) := by decide +kernel
theorem dX6_pay_35 : decode cX6_pay 35 = .ok (.aload_n 0, 1) := by decide +kernel
theorem dX6_pay_36 : decode cX6_pay 36 = .ok (.getfield 9, 3) := by decide +kernel
theorem dX6_pay_39 : decode cX6_pay 39 = .ok (.invokevirtual 300, 3) := by decide +kernel
theorem dX6_pay_42 : decode cX6_pay 42 = .ok (.aload_n 0, 1) := by decide +kernel
theorem dX6_pay_43 : decode cX6_pay 43 = .ok (.iload_n 1, 1) := by decide +kernel
theorem dX6_pay_44 : decode cX6_pay 44 = .ok (.invokevirtual 294, 3) := by decide +kernel
theorem dX6_pay_47 : decode cX6_pay 47 = .ok (.ireturn, 1) := by decide +kernel
theorem dX6_undo_0 : decode cX6_undo 0 = .ok (.aload_n 0, 1) := by decide +kernel
theorem dX6_undo_1 : decode cX6_undo 1 = .ok (.aload_n 0, 1) := by decide +kernel
theorem dX6_undo_2 : decode cX6_undo 2 = .ok (.getfield 61, 3) := by decide +kernel
theorem dX6_undo_5 : decode cX6_undo 5 = .ok (.ifCond .ne 7, 3) := by decide +kernel
theorem dX6_undo_8 : decode cX6_undo 8 = .ok (.iconst 1, 1) := by decide +kernel
theorem dX6_undo_9 : decode cX6_undo 9 = .ok (.goto 4, 3) := by decide +kernel
theorem dX6_undo_12 : decode cX6_undo 12 = .ok (.iconst 0, 1) := by decide +kernel
theorem dX6_undo_13 : decode cX6_undo 13 = .ok (.iconst 0, 1) := by decide +kernel
theorem dX6_undo_14 : decode cX6_undo 14 = .ok (.iconst 0, 1) := by decide +kernel
theorem dX6_undo_15 : decode cX6_undo 15 = .ok (.invokevirtual 157, 3) := by decide +kernel
theorem dX6_undo_18 : decode cX6_undo 18 = .ok (.ifCond .eq 5, 3) := by decide +kernel
theorem dX6_undo_21 : decode cX6_undo 21 = .ok (.iconst 0, 1) := by decide +kernel
theorem dX6_undo_22 : decode cX6_undo 22 = .ok (.ireturn, 1) := by decide +kernel
theorem dX6_undo_23 : decode cX6_undo 23 = .ok (.aload_n 0, 1) := by decide +kernel
theorem dX6_undo_24 : decode cX6_undo 24 = .ok (.dup, 1) := by decide +kernel
theorem dX6_undo_25 : decode cX6_undo 25 = .ok (.getfield 61, 3) := by decide +kernel
theorem dX6_undo_28 : decode cX6_undo 28 = .ok (.iconst 1, 1) := by decide +kernel
theorem dX6_undo_29 : decode cX6_undo 29 = .ok (.isub, 1) := by decide +kernel
theorem dX6_undo_30 : decode cX6_undo 30 = .ok (.putfield 61, 3) := by decide +kernel
theorem dX6_undo_33 : decode cX6_undo 33 = .ok (.aload_n 0, 1) := by decide +kernel
theorem dX6_undo_34 : decode cX6_undo 34 = .ok (.getfield 13, 3) := by decide +kernel
theorem dX6_undo_37 : decode cX6_undo 37 = .ok (.aload_n 0, 1) := by decide +kernel
theorem dX6_undo_38 : decode cX6_undo 38 = .ok (.getfield 61, 3) := by decide +kernel
theorem dX6_undo_41 : decode cX6_undo 41 = .ok (.sipush 445, 3) := by decide +kernel
theorem dX6_undo_44 : decode cX6_undo 44 = .ok (.imul, 1) := by decide +kernel
theorem dX6_undo_45 : decode cX6_undo 45 = .ok (.aload_n 0, 1) := by decide +kernel
theorem dX6_undo_46 : decode cX6_undo 46 = .ok (.getfield 9, 3) := by decide +kernel
theorem dX6_undo_49 : decode cX6_undo 49 = .ok (.iconst 0, 1) := by decide +kernel
theorem dX6_undo_50 : decode cX6_undo 50 = .ok (.invokestatic 73, 3) := by decide +kernel
theorem dX6_undo_53 : decode cX6_undo 53 = .ok (.aload_n 0, 1) := by decide +kernel
theorem dX6_undo_54 : decode cX6_undo 54 = .ok (.getfield 61, 3) := by decide +kernel
theorem dX6_undo_57 : decode cX6_undo 57 = .ok (.ireturn, 1) := by decide +kernel
theorem dX6_save_0 : decode cX6_save 0 = .ok (.aload_n 0, 1) := by decide +kernel
theorem dX6_save_1 : decode cX6_save 1 = .ok (.iload_n 1, 1) := by decide +kernel
theorem dX6_save_2 : decode cX6_save 2 = .ok (.iconst 0, 1) := by decide +kernel
theorem dX6_save_3 : decode cX6_save 3 = .ok (.iconst 1, 1) := by decide +kernel
theorem dX6_save_4 : decode cX6_save 4 = .ok (.invokestatic 77, 3) := by decide +kernel
theorem dX6_save_7 : decode cX6_save 7 = .ok (.ifCond .ne 7, 3) := by decide +kernel
theorem dX6_save_10 : decode cX6_save 10 = .ok (.iconst 1, 1) := by decide +kernel
theorem dX6_save_11 : decode cX6_save 11 = .ok (.goto 4, 3) := by decide +kernel
theorem dX6_save_14 : decode cX6_save 14 = .ok (.iconst 0, 1) := by decide +kernel
theorem dX6_save_15 : decode cX6_save 15 = .ok (.iconst 0, 1) := by decide +kernel
theorem dX6_save_16 : decode cX6_save 16 = .ok (.iconst 0, 1) := by decide +kernel
theorem dX6_save_17 : decode cX6_save 17 = .ok (.invokevirtual 157, 3) := by decide +kernel
theorem dX6_save_20 : decode cX6_save 20 = .ok (.ifCond .eq 5, 3) := by decide +kernel
theorem dX6_save_23 : decode cX6_save 23 = .ok (.iconst 0, 1) := by decide +kernel
theorem dX6_save_24 : decode cX6_save 24 = .ok (.ireturn, 1) := by decide +kernel
theorem dX6_save_25 : decode cX6_save 25 = .ok (.aload_n 0, 1) := by decide +kernel
theorem dX6_save_26 : decode cX6_save 26 = .ok (.getfield 9, 3) := by decide +kernel
theorem dX6_save_29 : decode cX6_save 29 = .ok (.iconst 0, 1) := by decide +kernel
theorem dX6_save_30 : decode cX6_save 30 = .ok (.aload_n 0, 1) := by decide +kernel
theorem dX6_save_31 : decode cX6_save 31 = .ok (.getfield 16, 3) := by decide +kernel
theorem dX6_save_34 : decode cX6_save 34 = .ok (.iload_n 1, 1) := by decide +kernel
theorem dX6_save_35 : decode cX6_save 35 = .ok (.sipush 445, 3) := by decide +kernel
theorem dX6_save_38 : decode cX6_save 38 = .ok (.imul, 1) := by decide +kernel
theorem dX6_save_39 : decode cX6_save 39 = .ok (.invokestatic 73, 3) := by decide +kernel
theorem dX6_save_42 : decode cX6_save 42 = .ok (.aload_n 0, 1) := by decide +kernel
theorem dX6_save_43 : decode cX6_save 43 = .ok (.getfield 22, 3) := by decide +kernel
theorem dX6_save_46 : decode cX6_save 46 = .ok (.iload_n 1, 1) := by decide +kernel
theorem dX6_save_47 : decode cX6_save 47 = .ok (.iconst 1, 1) := by decide +kernel
theorem dX6_save_48 : decode cX6_save 48 = .ok (.bastore, 1) := by decide +kernel
theorem dX6_save_49 : decode cX6_save 49 = .ok (.aload_n 0, 1) := by decide +kernel
theorem dX6_save_50 : decode cX6_save 50 = .ok (.getfield 9, 3) := by decide +kernel
theorem dX6_save_53 : decode cX6_save 53 = .ok (.iconst 0, 1) := by decide +kernel
theorem dX6_save_54 : decode cX6_save 54 = .ok (.iaload, 1) := by decide +kernel
theorem dX6_save_55 : decode cX6_save 55 = .ok (.ireturn, 1) := by decide +kernel
theorem dX6_restore_0 : decode cX6_restore 0 = .ok (.iload_n 1, 1) := by decide +kernel
theorem dX6_restore_1 : decode cX6_restore 1 = .ok (.iconst 0, 1) := by decide +kernel
theorem dX6_restore_2 : decode cX6_restore 2 = .ok (.iconst 1, 1) := by decide +kernel
theorem dX6_restore_3 : decode cX6_restore 3 = .ok (.invokestatic 77, 3) := by decide +kernel
theorem dX6_restore_6 : decode cX6_restore 6 = .ok (.ifCond .ne 7, 3) := by decide +kernel
theorem dX6_restore_9 : decode cX6_restore 9 = .ok (.iconst 1, 1) := by decide +kernel
theorem dX6_restore_10 : decode cX6_restore 10 = .ok (.goto 4, 3) := by decide +kernel
theorem dX6_restore_13 : decode cX6_restore 13 = .ok (.iconst 0, 1) := by decide +kernel
theorem dX6_restore_14 : decode cX6_restore 14 = .ok (.istore_n 2, 1) := by decide +kernel
theorem dX6_restore_15 : decode cX6_restore 15 = .ok (.aload_n 0, 1) := by decide +kernel
theorem dX6_restore_16 : decode cX6_restore 16 = .ok (.iload_n 2, 1) := by decide +kernel
theorem dX6_restore_17 : decode cX6_restore 17 = .ok (.iload_n 2, 1) := by decide +kernel
theorem dX6_restore_18 : decode cX6_restore 18 = .ok (.ifCond .ne 16, 3) := by decide +kernel
theorem dX6_restore_21 : decode cX6_restore 21 = .ok (.aload_n 0, 1) := by decide +kernel
theorem dX6_restore_22 : decode cX6_restore 22 = .ok (.getfield 22, 3) := by decide +kernel
theorem dX6_restore_25 : decode cX6_restore 25 = .ok (.iload_n 1, 1) := by decide +kernel
theorem dX6_restore_26 : decode cX6_restore 26 = .ok (.baload, 1) := by decide +kernel
theorem dX6_restore_27 : decode cX6_restore 27 = .ok (.ifCond .ne 7, 3) := by decide +kernel
theorem dX6_restore_30 : decode cX6_restore 30 = .ok (.iconst 1, 1) := by decide +kernel
theorem dX6_restore_31 : decode cX6_restore 31 = .ok (.goto 4, 3) := by decide +kernel
theorem dX6_restore_34 : decode cX6_restore 34 = .ok (.iconst 0, 1) := by decide +kernel
theorem dX6_restore_35 : decode cX6_restore 35 = .ok (.iconst 0, 1) := by decide +kernel
theorem dX6_restore_36 : decode cX6_restore 36 = .ok (.invokevirtual 157, 3) := by decide +kernel
theorem dX6_restore_39 : decode cX6_restore 39 = .ok (.ifCond .eq 5, 3) := by decide +kernel
theorem dX6_restore_42 : decode cX6_restore 42 = .ok (.iconst 0, 1) := by decide +kernel
theorem dX6_restore_43 : decode cX6_restore 43 = .ok (.ireturn, 1) := by decide +kernel
theorem dX6_restore_44 : decode cX6_restore 44 = .ok (.aload_n 0, 1) := by decide +kernel
theorem dX6_restore_45 : decode cX6_restore 45 = .ok (.aload_n 0, 1) := by decide +kernel
theorem dX6_restore_46 : decode cX6_restore 46 = .ok (.getfield 9, 3) := by decide +kernel
theorem dX6_restore_49 : decode cX6_restore 49 = .ok (.invokevirtual 300, 3) := by decide +kernel
theorem dX6_restore_52 : decode cX6_restore 52 = .ok (.aload_n 0, 1) := by decide +kernel
theorem dX6_restore_53 : decode cX6_restore 53 = .ok (.getfield 16, 3) := by decide +kernel
theorem dX6_restore_56 : decode cX6_restore 56 = .ok (.iload_n 1, 1) := by decide +kernel
theorem dX6_restore_57 : decode cX6_restore 57 = .ok (.sipush 445, 3) := by decide +kernel
theorem dX6_restore_60 : decode cX6_restore 60 = .ok (.imul, 1) := by decide +kernel
theorem dX6_restore_61 : decode cX6_restore 61 = .ok (.aload_n 0, 1) := by decide +kernel
theorem dX6_restore_62 : decode cX6_restore 62 = .ok (.getfield 9, 3) := by decide +kernel
theorem dX6_restore_65 : decode cX6_restore 65 = .ok (.iconst 0, 1) := by decide +kernel
theorem dX6_restore_66 : decode cX6_restore 66 = .ok (.invokestatic 73, 3) := by decide +kernel
theorem dX6_restore_69 : decode cX6_restore 69 = .ok (.aload_n 0, 1) := by decide +kernel
theorem dX6_restore_70 : decode cX6_restore 70 = .ok (.getfield 9, 3) := by decide +kernel
theorem dX6_restore_73 : decode cX6_restore 73 = .ok (.iconst 0, 1) := by decide +kernel
theorem dX6_restore_74 : decode cX6_restore 74 = .ok (.iaload, 1) := by decide +kernel
theorem dX6_restore_75 : decode cX6_restore 75 = .ok (.ireturn, 1) := by decide +kernel
theorem dX6_clock_0 : decode cX6_clock 0 = .ok (.aload_n 0, 1) := by decide +kernel
theorem dX6_clock_1 : decode cX6_clock 1 = .ok (.aload_n 0, 1) := by decide +kernel
theorem dX6_clock_2 : decode cX6_clock 2 = .ok (.getfield 9, 3) := by decide +kernel
theorem dX6_clock_5 : decode cX6_clock 5 = .ok (.iconst 0, 1) := by decide +kernel
theorem dX6_clock_6 : decode cX6_clock 6 = .ok (.iaload, 1) := by decide +kernel
theorem dX6_clock_7 : decode cX6_clock 7 = .ok (.invokevirtual 316, 3) := by decide +kernel
theorem dX6_clock_10 : decode cX6_clock 10 = .ok (.ireturn, 1) := by decide +kernel
theorem dX6_day_0 : decode cX6_day 0 = .ok (.aload_n 0, 1) := by decide +kernel
theorem dX6_day_1 : decode cX6_day 1 = .ok (.aload_n 0, 1) := by decide +kernel
theorem dX6_day_2 : decode cX6_day 2 = .ok (.getfield 9, 3) := by decide +kernel
theorem dX6_day_5 : decode cX6_day 5 = .ok (.iconst 0, 1) := by decide +kernel
theorem dX6_day_6 : decode cX6_day 6 = .ok (.iaload, 1) := by decide +kernel
theorem dX6_day_7 : decode cX6_day 7 = .ok (.sipush 1440, 3) := by decide +kernel
theorem dX6_day_10 : decode cX6_day 10 = .ok (.idiv, 1) := by decide +kernel
theorem dX6_day_11 : decode cX6_day 11 = .ok (.invokevirtual 316, 3) := by decide +kernel
theorem dX6_day_14 : decode cX6_day 14 = .ok (.ireturn, 1) := by decide +kernel
theorem dX6_stopCount_0 : decode cX6_stopCount 0 = .ok (.aload_n 0, 1) := by decide +kernel
theorem dX6_stopCount_1 : decode cX6_stopCount 1 = .ok (.aload_n 0, 1) := by decide +kernel
theorem dX6_stopCount_2 : decode cX6_stopCount 2 = .ok (.getfield 9, 3) := by decide +kernel
theorem dX6_stopCount_5 : decode cX6_stopCount 5 = .ok (.iconst 1, 1) := by decide +kernel
theorem dX6_stopCount_6 : decode cX6_stopCount 6 = .ok (.iaload, 1) := by decide +kernel
theorem dX6_stopCount_7 : decode cX6_stopCount 7 = .ok (.invokevirtual 316, 3) := by decide +kernel
theorem dX6_stopCount_10 : decode cX6_stopCount 10 = .ok (.ireturn, 1) := by decide +kernel
theorem dX6_passengerCount_0 : decode cX6_passengerCount 0 = .ok (.aload_n 0, 1) := by decide +kernel
theorem dX6_passengerCount_1 : decode cX6_passengerCount 1 = .ok (.aload_n 0, 1) := by decide +kernel
theorem dX6_passengerCount_2 : decode cX6_passengerCount 2 = .ok (.getfield 9, 3) := by decide +kernel
theorem dX6_passengerCount_5 : decode cX6_passengerCount 5 = .ok (.iconst 2, 1) := by decide +kernel
theorem dX6_passengerCount_6 : decode cX6_passengerCount 6 = .ok (.iaload, 1) := by decide +kernel
theorem dX6_passengerCount_7 : decode cX6_passengerCount 7 = .ok (.invokevirtual 316, 3) := by decide +kernel
theorem dX6_passengerCount_10 : decode cX6_passengerCount 10 = .ok (.ireturn, 1) := by decide +kernel
theorem dX6_ticketCount_0 : decode cX6_ticketCount 0 = .ok (.aload_n 0, 1) := by decide +kernel
theorem dX6_ticketCount_1 : decode cX6_ticketCount 1 = .ok (.aload_n 0, 1) := by decide +kernel
theorem dX6_ticketCount_2 : decode cX6_ticketCount 2 = .ok (.getfield 9, 3) := by decide +kernel
theorem dX6_ticketCount_5 : decode cX6_ticketCount 5 = .ok (.iconst 3, 1) := by decide +kernel
theorem dX6_ticketCount_6 : decode cX6_ticketCount 6 = .ok (.iaload, 1) := by decide +kernel
theorem dX6_ticketCount_7 : decode cX6_ticketCount 7 = .ok (.invokevirtual 316, 3) := by decide +kernel
theorem dX6_ticketCount_10 : decode cX6_ticketCount 10 = .ok (.ireturn, 1) := by decide +kernel
theorem dX6_caseCount_0 : decode cX6_caseCount 0 = .ok (.aload_n 0, 1) := by decide +kernel
theorem dX6_caseCount_1 : decode cX6_caseCount 1 = .ok (.aload_n 0, 1) := by decide +kernel
theorem dX6_caseCount_2 : decode cX6_caseCount 2 = .ok (.getfield 9, 3) := by decide +kernel
theorem dX6_caseCount_5 : decode cX6_caseCount 5 = .ok (.iconst 4, 1) := by decide +kernel
theorem dX6_caseCount_6 : decode cX6_caseCount 6 = .ok (.iaload, 1) := by decide +kernel
theorem dX6_caseCount_7 : decode cX6_caseCount 7 = .ok (.invokevirtual 316, 3) := by decide +kernel
theorem dX6_caseCount_10 : decode cX6_caseCount 10 = .ok (.ireturn, 1) := by decide +kernel
theorem dX6_undoableChanges_0 : decode cX6_undoableChanges 0 = .ok (.aload_n 0, 1) := by decide +kernel
theorem dX6_undoableChanges_1 : decode cX6_undoableChanges 1 = .ok (.aload_n 0, 1) := by decide +kernel
theorem dX6_undoableChanges_2 : decode cX6_undoableChanges 2 = .ok (.getfield 61, 3) := by decide +kernel
theorem dX6_undoableChanges_5 : decode cX6_undoableChanges 5 = .ok (.invokevirtual 316, 3) := by decide +kernel
theorem dX6_undoableChanges_8 : decode cX6_undoableChanges 8 = .ok (.ireturn, 1) := by decide +kernel
theorem dX6_zone_0 : decode cX6_zone 0 = .ok (.aload_n 0, 1) := by decide +kernel
theorem dX6_zone_1 : decode cX6_zone 1 = .ok (.aload_n 0, 1) := by decide +kernel
theorem dX6_zone_2 : decode cX6_zone 2 = .ok (.iload_n 1, 1) := by decide +kernel
theorem dX6_zone_3 : decode cX6_zone 3 = .ok (.invokevirtual 322, 3) := by decide +kernel
theorem dX6_zone_6 : decode cX6_zone 6 = .ok (.iconst 0, 1) := by decide +kernel
theorem dX6_zone_7 : decode cX6_zone 7 = .ok (.iconst 0, 1) := by decide +kernel
theorem dX6_zone_8 : decode cX6_zone 8 = .ok (.invokevirtual 157, 3) := by decide +kernel
theorem dX6_zone_11 : decode cX6_zone 11 = .ok (.ifCond .eq 7, 3) := by decide +kernel
theorem dX6_zone_14 : decode cX6_zone 14 = .ok (.iconst 0, 1) := by decide +kernel
theorem dX6_zone_15 : decode cX6_zone 15 = .ok (.goto 12, 3) := by decide +kernel
theorem dX6_zone_18 : decode cX6_zone 18 = .ok (.aload_n 0, 1) := by decide +kernel
theorem dX6_zone_19 : decode cX6_zone 19 = .ok (.getfield 9, 3) := by decide +kernel
theorem dX6_zone_22 : decode cX6_zone 22 = .ok (.bipush 9, 2) := by decide +kernel
theorem dX6_zone_24 : decode cX6_zone 24 = .ok (.iload_n 1, 1) := by decide +kernel
theorem dX6_zone_25 : decode cX6_zone 25 = .ok (.iadd, 1) := by decide +kernel
theorem dX6_zone_26 : decode cX6_zone 26 = .ok (.iaload, 1) := by decide +kernel
theorem dX6_zone_27 : decode cX6_zone 27 = .ok (.ireturn, 1) := by decide +kernel
theorem dX6_zonesBetween_0 : decode cX6_zonesBetween 0 = .ok (.aload_n 0, 1) := by decide +kernel
theorem dX6_zonesBetween_1 : decode cX6_zonesBetween 1 = .ok (.aload_n 0, 1) := by decide +kernel
theorem dX6_zonesBetween_2 : decode cX6_zonesBetween 2 = .ok (.iload_n 1, 1) := by decide +kernel
theorem dX6_zonesBetween_3 : decode cX6_zonesBetween 3 = .ok (.invokevirtual 322, 3) := by decide +kernel
theorem dX6_zonesBetween_6 : decode cX6_zonesBetween 6 = .ok (.ifCond .ne 11, 3) := by decide +kernel
theorem dX6_zonesBetween_9 : decode cX6_zonesBetween 9 = .ok (.aload_n 0, 1) := by decide +kernel
theorem dX6_zonesBetween_10 : decode cX6_zonesBetween 10 = .ok (.iload_n 2, 1) := by decide +kernel
theorem dX6_zonesBetween_11 : decode cX6_zonesBetween 11 = .ok (.invokevirtual 322, 3) := by decide +kernel
theorem dX6_zonesBetween_14 : decode cX6_zonesBetween 14 = .ok (.ifCond .eq 7, 3) := by decide +kernel
theorem dX6_zonesBetween_17 : decode cX6_zonesBetween 17 = .ok (.iconst 1, 1) := by decide +kernel
theorem dX6_zonesBetween_18 : decode cX6_zonesBetween 18 = .ok (.goto 4, 3) := by decide +kernel
theorem dX6_zonesBetween_21 : decode cX6_zonesBetween 21 = .ok (.iconst 0, 1) := by decide +kernel
theorem dX6_zonesBetween_22 : decode cX6_zonesBetween 22 = .ok (.iconst 0, 1) := by decide +kernel
theorem dX6_zonesBetween_23 : decode cX6_zonesBetween 23 = .ok (.iconst 0, 1) := by decide +kernel
theorem dX6_zonesBetween_24 : decode cX6_zonesBetween 24 = .ok (.invokevirtual 157, 3) := by decide +kernel
theorem dX6_zonesBetween_27 : decode cX6_zonesBetween 27 = .ok (.ifCond .eq 7, 3) := by decide +kernel
theorem dX6_zonesBetween_30 : decode cX6_zonesBetween 30 = .ok (.iconst 0, 1) := by decide +kernel
theorem dX6_zonesBetween_31 : decode cX6_zonesBetween 31 = .ok (.goto 9, 3) := by decide +kernel
theorem dX6_zonesBetween_34 : decode cX6_zonesBetween 34 = .ok (.aload_n 0, 1) := by decide +kernel
theorem dX6_zonesBetween_35 : decode cX6_zonesBetween 35 = .ok (.iload_n 1, 1) := by decide +kernel
theorem dX6_zonesBetween_36 : decode cX6_zonesBetween 36 = .ok (.iload_n 2, 1) := by decide +kernel
theorem dX6_zonesBetween_37 : decode cX6_zonesBetween 37 = .ok (.invokevirtual 119, 3) := by decide +kernel
theorem dX6_zonesBetween_40 : decode cX6_zonesBetween 40 = .ok (.ireturn, 1) := by decide +kernel
theorem dX6_toldPassenger_0 : decode cX6_toldPassenger 0 = .ok (.aload_n 0, 1) := by decide +kernel
theorem dX6_toldPassenger_1 : decode cX6_toldPassenger 1 = .ok (.aload_n 0, 1) := by decide +kernel
theorem dX6_toldPassenger_2 : decode cX6_toldPassenger 2 = .ok (.iload_n 1, 1) := by decide +kernel
theorem dX6_toldPassenger_3 : decode cX6_toldPassenger 3 = .ok (.invokevirtual 319, 3) := by decide +kernel
theorem dX6_toldPassenger_6 : decode cX6_toldPassenger 6 = .ok (.iconst 0, 1) := by decide +kernel
theorem dX6_toldPassenger_7 : decode cX6_toldPassenger 7 = .ok (.iconst 0, 1) := by decide +kernel
theorem dX6_toldPassenger_8 : decode cX6_toldPassenger 8 = .ok (.invokevirtual 157, 3) := by decide +kernel
theorem dX6_toldPassenger_11 : decode cX6_toldPassenger 11 = .ok (.ifCond .eq 7, 3) := by decide +kernel
theorem dX6_toldPassenger_14 : decode cX6_toldPassenger 14 = .ok (.iconst 0, 1) := by decide +kernel
theorem dX6_toldPassenger_15 : decode cX6_toldPassenger 15 = .ok (.goto 9, 3) := by decide +kernel
theorem dX6_toldPassenger_18 : decode cX6_toldPassenger 18 = .ok (.aload_n 0, 1) := by decide +kernel
theorem dX6_toldPassenger_19 : decode cX6_toldPassenger 19 = .ok (.iload_n 1, 1) := by decide +kernel
theorem dX6_toldPassenger_20 : decode cX6_toldPassenger 20 = .ok (.iload_n 2, 1) := by decide +kernel
theorem dX6_toldPassenger_21 : decode cX6_toldPassenger 21 = .ok (.invokevirtual 102, 3) := by decide +kernel
theorem dX6_toldPassenger_24 : decode cX6_toldPassenger 24 = .ok (.ireturn, 1) := by decide +kernel
theorem dX6_money_0 : decode cX6_money 0 = .ok (.aload_n 0, 1) := by decide +kernel
theorem dX6_money_1 : decode cX6_money 1 = .ok (.iload_n 1, 1) := by decide +kernel
theorem dX6_money_2 : decode cX6_money 2 = .ok (.iconst 0, 1) := by decide +kernel
theorem dX6_money_3 : decode cX6_money 3 = .ok (.invokevirtual 331, 3) := by decide +kernel
theorem dX6_money_6 : decode cX6_money 6 = .ok (.ireturn, 1) := by decide +kernel
theorem dX6_isRiding_0 : decode cX6_isRiding 0 = .ok (.aload_n 0, 1) := by decide +kernel
theorem dX6_isRiding_1 : decode cX6_isRiding 1 = .ok (.aload_n 0, 1) := by decide +kernel
theorem dX6_isRiding_2 : decode cX6_isRiding 2 = .ok (.iload_n 1, 1) := by decide +kernel
theorem dX6_isRiding_3 : decode cX6_isRiding 3 = .ok (.invokevirtual 319, 3) := by decide +kernel
theorem dX6_isRiding_6 : decode cX6_isRiding 6 = .ok (.iconst 0, 1) := by decide +kernel
theorem dX6_isRiding_7 : decode cX6_isRiding 7 = .ok (.iconst 0, 1) := by decide +kernel
theorem dX6_isRiding_8 : decode cX6_isRiding 8 = .ok (.invokevirtual 157, 3) := by decide +kernel
theorem dX6_isRiding_11 : decode cX6_isRiding 11 = .ok (.ifCond .ne 15, 3) := by decide +kernel
theorem dX6_isRiding_14 : decode cX6_isRiding 14 = .ok (.aload_n 0, 1) := by decide +kernel
theorem dX6_isRiding_15 : decode cX6_isRiding 15 = .ok (.iload_n 1, 1) := by decide +kernel
theorem dX6_isRiding_16 : decode cX6_isRiding 16 = .ok (.invokevirtual 112, 3) := by decide +kernel
theorem dX6_isRiding_19 : decode cX6_isRiding 19 = .ok (.ifCond .eq 7, 3) := by decide +kernel
theorem dX6_isRiding_22 : decode cX6_isRiding 22 = .ok (.iconst 1, 1) := by decide +kernel
theorem dX6_isRiding_23 : decode cX6_isRiding 23 = .ok (.goto 4, 3) := by decide +kernel
theorem dX6_isRiding_26 : decode cX6_isRiding 26 = .ok (.iconst 0, 1) := by decide +kernel
theorem dX6_isRiding_27 : decode cX6_isRiding 27 = .ok (.ireturn, 1) := by decide +kernel
theorem dX6_rideEnd_0 : decode cX6_rideEnd 0 = .ok (.aload_n 0, 1) := by decide +kernel
theorem dX6_rideEnd_1 : decode cX6_rideEnd 1 = .ok (.iload_n 1, 1) := by decide +kernel
theorem dX6_rideEnd_2 : decode cX6_rideEnd 2 = .ok (.iconst 3, 1) := by decide +kernel
theorem dX6_rideEnd_3 : decode cX6_rideEnd 3 = .ok (.invokevirtual 331, 3) := by decide +kernel
theorem dX6_rideEnd_6 : decode cX6_rideEnd 6 = .ok (.ireturn, 1) := by decide +kernel
theorem dX6_rideTicket_0 : decode cX6_rideTicket 0 = .ok (.aload_n 0, 1) := by decide +kernel
theorem dX6_rideTicket_1 : decode cX6_rideTicket 1 = .ok (.iload_n 1, 1) := by decide +kernel
theorem dX6_rideTicket_2 : decode cX6_rideTicket 2 = .ok (.iconst 4, 1) := by decide +kernel
theorem dX6_rideTicket_3 : decode cX6_rideTicket 3 = .ok (.invokevirtual 331, 3) := by decide +kernel
theorem dX6_rideTicket_6 : decode cX6_rideTicket 6 = .ok (.ireturn, 1) := by decide +kernel
theorem dX6_faultNow_0 : decode cX6_faultNow 0 = .ok (.aload_n 0, 1) := by decide +kernel
theorem dX6_faultNow_1 : decode cX6_faultNow 1 = .ok (.aload_n 0, 1) := by decide +kernel
theorem dX6_faultNow_2 : decode cX6_faultNow 2 = .ok (.iload_n 1, 1) := by decide +kernel
theorem dX6_faultNow_3 : decode cX6_faultNow 3 = .ok (.invokevirtual 319, 3) := by decide +kernel
theorem dX6_faultNow_6 : decode cX6_faultNow 6 = .ok (.iconst 0, 1) := by decide +kernel
theorem dX6_faultNow_7 : decode cX6_faultNow 7 = .ok (.iconst 0, 1) := by decide +kernel
theorem dX6_faultNow_8 : decode cX6_faultNow 8 = .ok (.invokevirtual 157, 3) := by decide +kernel
theorem dX6_faultNow_11 : decode cX6_faultNow 11 = .ok (.ifCond .eq 7, 3) := by decide +kernel
theorem dX6_faultNow_14 : decode cX6_faultNow 14 = .ok (.iconst 0, 1) := by decide +kernel
theorem dX6_faultNow_15 : decode cX6_faultNow 15 = .ok (.goto 8, 3) := by decide +kernel
theorem dX6_faultNow_18 : decode cX6_faultNow 18 = .ok (.aload_n 0, 1) := by decide +kernel
theorem dX6_faultNow_19 : decode cX6_faultNow 19 = .ok (.iload_n 1, 1) := by decide +kernel
theorem dX6_faultNow_20 : decode cX6_faultNow 20 = .ok (.invokevirtual 132, 3) := by decide +kernel
theorem dX6_faultNow_23 : decode cX6_faultNow 23 = .ok (.ireturn, 1) := by decide +kernel
theorem dX6_debt_0 : decode cX6_debt 0 = .ok (.aload_n 0, 1) := by decide +kernel
theorem dX6_debt_1 : decode cX6_debt 1 = .ok (.aload_n 0, 1) := by decide +kernel
theorem dX6_debt_2 : decode cX6_debt 2 = .ok (.iload_n 1, 1) := by decide +kernel
theorem dX6_debt_3 : decode cX6_debt 3 = .ok (.invokevirtual 319, 3) := by decide +kernel
theorem dX6_debt_6 : decode cX6_debt 6 = .ok (.iconst 0, 1) := by decide +kernel
theorem dX6_debt_7 : decode cX6_debt 7 = .ok (.iconst 0, 1) := by decide +kernel
theorem dX6_debt_8 : decode cX6_debt 8 = .ok (.invokevirtual 157, 3) := by decide +kernel
theorem dX6_debt_11 : decode cX6_debt 11 = .ok (.ifCond .eq 5, 3) := by decide +kernel
theorem dX6_debt_14 : decode cX6_debt 14 = .ok (.iconst 0, 1) := by decide +kernel
theorem dX6_debt_15 : decode cX6_debt 15 = .ok (.ireturn, 1) := by decide +kernel
theorem dX6_debt_16 : decode cX6_debt 16 = .ok (.iconst 0, 1) := by decide +kernel
theorem dX6_debt_17 : decode cX6_debt 17 = .ok (.istore_n 2, 1) := by decide +kernel
theorem dX6_debt_18 : decode cX6_debt 18 = .ok (.iconst 0, 1) := by decide +kernel
theorem dX6_debt_19 : decode cX6_debt 19 = .ok (.istore_n 3, 1) := by decide +kernel
theorem dX6_debt_20 : decode cX6_debt 20 = .ok (.iload_n 3, 1) := by decide +kernel
theorem dX6_debt_21 : decode cX6_debt 21 = .ok (.aload_n 0, 1) := by decide +kernel
theorem dX6_debt_22 : decode cX6_debt 22 = .ok (.getfield 9, 3) := by decide +kernel
theorem dX6_debt_25 : decode cX6_debt 25 = .ok (.iconst 4, 1) := by decide +kernel
theorem dX6_debt_26 : decode cX6_debt 26 = .ok (.iaload, 1) := by decide +kernel
theorem dX6_debt_27 : decode cX6_debt 27 = .ok (.if_icmp .ge 27, 3) := by decide +kernel
theorem dX6_debt_30 : decode cX6_debt 30 = .ok (.aload_n 0, 1) := by decide +kernel
theorem dX6_debt_31 : decode cX6_debt 31 = .ok (.iload_n 3, 1) := by decide +kernel
theorem dX6_debt_32 : decode cX6_debt 32 = .ok (.iconst 0, 1) := by decide +kernel
theorem dX6_debt_33 : decode cX6_debt 33 = .ok (.invokevirtual 138, 3) := by decide +kernel
theorem dX6_debt_36 : decode cX6_debt 36 = .ok (.iload_n 1, 1) := by decide +kernel
theorem dX6_debt_37 : decode cX6_debt 37 = .ok (.if_icmp .ne 11, 3) := by decide +kernel
theorem dX6_debt_40 : decode cX6_debt 40 = .ok (.iload_n 2, 1) := by decide +kernel
theorem dX6_debt_41 : decode cX6_debt 41 = .ok (.aload_n 0, 1) := by decide +kernel
theorem dX6_debt_42 : decode cX6_debt 42 = .ok (.iload_n 3, 1) := by decide +kernel
theorem dX6_debt_43 : decode cX6_debt 43 = .ok (.invokevirtual 147, 3) := by decide +kernel
theorem dX6_debt_46 : decode cX6_debt 46 = .ok (.iadd, 1) := by decide +kernel
theorem dX6_debt_47 : decode cX6_debt 47 = .ok (.istore_n 2, 1) := by decide +kernel
theorem dX6_debt_48 : decode cX6_debt 48 = .ok (.iinc 3 1, 3) := by decide +kernel
theorem dX6_debt_51 : decode cX6_debt 51 = .ok (.goto (-31), 3) := by decide +kernel
theorem dX6_debt_54 : decode cX6_debt 54 = .ok (.iload_n 2, 1) := by decide +kernel
theorem dX6_debt_55 : decode cX6_debt 55 = .ok (.ireturn, 1) := by decide +kernel
theorem dX6_unpaidCases_0 : decode cX6_unpaidCases 0 = .ok (.aload_n 0, 1) := by decide +kernel
theorem dX6_unpaidCases_1 : decode cX6_unpaidCases 1 = .ok (.aload_n 0, 1) := by decide +kernel
theorem dX6_unpaidCases_2 : decode cX6_unpaidCases 2 = .ok (.iload_n 1, 1) := by decide +kernel
theorem dX6_unpaidCases_3 : decode cX6_unpaidCases 3 = .ok (.invokevirtual 319, 3) := by decide +kernel
theorem dX6_unpaidCases_6 : decode cX6_unpaidCases 6 = .ok (.iconst 0, 1) := by decide +kernel
theorem dX6_unpaidCases_7 : decode cX6_unpaidCases 7 = .ok (.iconst 0, 1) := by decide +kernel
theorem dX6_unpaidCases_8 : decode cX6_unpaidCases 8 = .ok (.invokevirtual 157, 3) := by decide +kernel
theorem dX6_unpaidCases_11 : decode cX6_unpaidCases 11 = .ok (.ifCond .eq 5, 3) := by decide +kernel
theorem dX6_unpaidCases_14 : decode cX6_unpaidCases 14 = .ok (.iconst 0, 1) := by decide +kernel
theorem dX6_unpaidCases_15 : decode cX6_unpaidCases 15 = .ok (.ireturn, 1) := by decide +kernel
theorem dX6_unpaidCases_16 : decode cX6_unpaidCases 16 = .ok (.iconst 0, 1) := by decide +kernel
theorem dX6_unpaidCases_17 : decode cX6_unpaidCases 17 = .ok (.istore_n 2, 1) := by decide +kernel
theorem dX6_unpaidCases_18 : decode cX6_unpaidCases 18 = .ok (.iconst 0, 1) := by decide +kernel
theorem dX6_unpaidCases_19 : decode cX6_unpaidCases 19 = .ok (.istore_n 3, 1) := by decide +kernel
theorem dX6_unpaidCases_20 : decode cX6_unpaidCases 20 = .ok (.iload_n 3, 1) := by decide +kernel
theorem dX6_unpaidCases_21 : decode cX6_unpaidCases 21 = .ok (.aload_n 0, 1) := by decide +kernel
theorem dX6_unpaidCases_22 : decode cX6_unpaidCases 22 = .ok (.getfield 9, 3) := by decide +kernel
theorem dX6_unpaidCases_25 : decode cX6_unpaidCases 25 = .ok (.iconst 4, 1) := by decide +kernel
theorem dX6_unpaidCases_26 : decode cX6_unpaidCases 26 = .ok (.iaload, 1) := by decide +kernel
theorem dX6_unpaidCases_27 : decode cX6_unpaidCases 27 = .ok (.if_icmp .ge 32, 3) := by decide +kernel
theorem dX6_unpaidCases_30 : decode cX6_unpaidCases 30 = .ok (.aload_n 0, 1) := by decide +kernel
theorem dX6_unpaidCases_31 : decode cX6_unpaidCases 31 = .ok (.iload_n 3, 1) := by decide +kernel
theorem dX6_unpaidCases_32 : decode cX6_unpaidCases 32 = .ok (.iconst 0, 1) := by decide +kernel
theorem dX6_unpaidCases_33 : decode cX6_unpaidCases 33 = .ok (.invokevirtual 138, 3) := by decide +kernel
theorem dX6_unpaidCases_36 : decode cX6_unpaidCases 36 = .ok (.iload_n 1, 1) := by decide +kernel
theorem dX6_unpaidCases_37 : decode cX6_unpaidCases 37 = .ok (.if_icmp .ne 16, 3) := by decide +kernel
theorem dX6_unpaidCases_40 : decode cX6_unpaidCases 40 = .ok (.aload_n 0, 1) := by decide +kernel
theorem dX6_unpaidCases_41 : decode cX6_unpaidCases 41 = .ok (.iload_n 3, 1) := by decide +kernel
theorem dX6_unpaidCases_42 : decode cX6_unpaidCases 42 = .ok (.iconst 2, 1) := by decide +kernel
theorem dX6_unpaidCases_43 : decode cX6_unpaidCases 43 = .ok (.invokevirtual 138, 3) := by decide +kernel
theorem dX6_unpaidCases_46 : decode cX6_unpaidCases 46 = .ok (.iconst 4, 1) := by decide +kernel
theorem dX6_unpaidCases_47 : decode cX6_unpaidCases 47 = .ok (.if_icmp .eq 6, 3) := by decide +kernel
theorem dX6_unpaidCases_50 : decode cX6_unpaidCases 50 = .ok (.iinc 2 1, 3) := by decide +kernel
theorem dX6_unpaidCases_53 : decode cX6_unpaidCases 53 = .ok (.iinc 3 1, 3) := by decide +kernel
theorem dX6_unpaidCases_56 : decode cX6_unpaidCases 56 = .ok (.goto (-36), 3) := by decide +kernel
theorem dX6_unpaidCases_59 : decode cX6_unpaidCases 59 = .ok (.iload_n 2, 1) := by decide +kernel
theorem dX6_unpaidCases_60 : decode cX6_unpaidCases 60 = .ok (.ireturn, 1) := by decide +kernel
theorem dX6_nameByte_0 : decode cX6_nameByte 0 = .ok (.aload_n 0, 1) := by decide +kernel
theorem dX6_nameByte_1 : decode cX6_nameByte 1 = .ok (.aload_n 0, 1) := by decide +kernel
theorem dX6_nameByte_2 : decode cX6_nameByte 2 = .ok (.iload_n 1, 1) := by decide +kernel
theorem dX6_nameByte_3 : decode cX6_nameByte 3 = .ok (.invokevirtual 319, 3) := by decide +kernel
theorem dX6_nameByte_6 : decode cX6_nameByte 6 = .ok (.iconst 0, 1) := by decide +kernel
theorem dX6_nameByte_7 : decode cX6_nameByte 7 = .ok (.iconst 0, 1) := by decide +kernel
theorem dX6_nameByte_8 : decode cX6_nameByte 8 = .ok (.invokevirtual 157, 3) := by decide +kernel
theorem dX6_nameByte_11 : decode cX6_nameByte 11 = .ok (.ifCond .eq 5, 3) := by decide +kernel
theorem dX6_nameByte_14 : decode cX6_nameByte 14 = .ok (.iconst 0, 1) := by decide +kernel
theorem dX6_nameByte_15 : decode cX6_nameByte 15 = .ok (.ireturn, 1) := by decide +kernel
theorem dX6_nameByte_16 : decode cX6_nameByte 16 = .ok (.iload_n 2, 1) := by decide +kernel
theorem dX6_nameByte_17 : decode cX6_nameByte 17 = .ok (.iconst 0, 1) := by decide +kernel
theorem dX6_nameByte_18 : decode cX6_nameByte 18 = .ok (.aload_n 0, 1) := by decide +kernel
theorem dX6_nameByte_19 : decode cX6_nameByte 19 = .ok (.iload_n 1, 1) := by decide +kernel
theorem dX6_nameByte_20 : decode cX6_nameByte 20 = .ok (.bipush 6, 2) := by decide +kernel
theorem dX6_nameByte_22 : decode cX6_nameByte 22 = .ok (.invokevirtual 102, 3) := by decide +kernel
theorem dX6_nameByte_25 : decode cX6_nameByte 25 = .ok (.iconst 1, 1) := by decide +kernel
theorem dX6_nameByte_26 : decode cX6_nameByte 26 = .ok (.isub, 1) := by decide +kernel
theorem dX6_nameByte_27 : decode cX6_nameByte 27 = .ok (.invokestatic 77, 3) := by decide +kernel
theorem dX6_nameByte_30 : decode cX6_nameByte 30 = .ok (.ifCond .eq 15, 3) := by decide +kernel
theorem dX6_nameByte_33 : decode cX6_nameByte 33 = .ok (.aload_n 0, 1) := by decide +kernel
theorem dX6_nameByte_34 : decode cX6_nameByte 34 = .ok (.iload_n 1, 1) := by decide +kernel
theorem dX6_nameByte_35 : decode cX6_nameByte 35 = .ok (.bipush 7, 2) := by decide +kernel
theorem dX6_nameByte_37 : decode cX6_nameByte 37 = .ok (.iload_n 2, 1) := by decide +kernel
theorem dX6_nameByte_38 : decode cX6_nameByte 38 = .ok (.iadd, 1) := by decide +kernel
theorem dX6_nameByte_39 : decode cX6_nameByte 39 = .ok (.invokevirtual 102, 3) := by decide +kernel
theorem dX6_nameByte_42 : decode cX6_nameByte 42 = .ok (.goto 4, 3) := by decide +kernel
theorem dX6_nameByte_45 : decode cX6_nameByte 45 = .ok (.iconst (-1), 1) := by decide +kernel
theorem dX6_nameByte_46 : decode cX6_nameByte 46 = .ok (.ireturn, 1) := by decide +kernel
theorem dX6_cheapestKind_0 : decode cX6_cheapestKind 0 = .ok (.aload_n 0, 1) := by decide +kernel
theorem dX6_cheapestKind_1 : decode cX6_cheapestKind 1 = .ok (.aload_n 0, 1) := by decide +kernel
theorem dX6_cheapestKind_2 : decode cX6_cheapestKind 2 = .ok (.iload_n 1, 1) := by decide +kernel
theorem dX6_cheapestKind_3 : decode cX6_cheapestKind 3 = .ok (.invokevirtual 322, 3) := by decide +kernel
theorem dX6_cheapestKind_6 : decode cX6_cheapestKind 6 = .ok (.ifCond .ne 11, 3) := by decide +kernel
theorem dX6_cheapestKind_9 : decode cX6_cheapestKind 9 = .ok (.aload_n 0, 1) := by decide +kernel
theorem dX6_cheapestKind_10 : decode cX6_cheapestKind 10 = .ok (.iload_n 2, 1) := by decide +kernel
theorem dX6_cheapestKind_11 : decode cX6_cheapestKind 11 = .ok (.invokevirtual 322, 3) := by decide +kernel
theorem dX6_cheapestKind_14 : decode cX6_cheapestKind 14 = .ok (.ifCond .eq 7, 3) := by decide +kernel
theorem dX6_cheapestKind_17 : decode cX6_cheapestKind 17 = .ok (.iconst 1, 1) := by decide +kernel
theorem dX6_cheapestKind_18 : decode cX6_cheapestKind 18 = .ok (.goto 4, 3) := by decide +kernel
theorem dX6_cheapestKind_21 : decode cX6_cheapestKind 21 = .ok (.iconst 0, 1) := by decide +kernel
theorem dX6_cheapestKind_22 : decode cX6_cheapestKind 22 = .ok (.iconst 0, 1) := by decide +kernel
theorem dX6_cheapestKind_23 : decode cX6_cheapestKind 23 = .ok (.iconst 0, 1) := by decide +kernel
theorem dX6_cheapestKind_24 : decode cX6_cheapestKind 24 = .ok (.invokevirtual 157, 3) := by decide +kernel
theorem dX6_cheapestKind_27 : decode cX6_cheapestKind 27 = .ok (.ifCond .eq 5, 3) := by decide +kernel
theorem dX6_cheapestKind_30 : decode cX6_cheapestKind 30 = .ok (.iconst 0, 1) := by decide +kernel
theorem dX6_cheapestKind_31 : decode cX6_cheapestKind 31 = .ok (.ireturn, 1) := by decide +kernel
theorem dX6_cheapestKind_32 : decode cX6_cheapestKind 32 = .ok (.aload_n 0, 1) := by decide +kernel
theorem dX6_cheapestKind_33 : decode cX6_cheapestKind 33 = .ok (.iload_n 1, 1) := by decide +kernel
theorem dX6_cheapestKind_34 : decode cX6_cheapestKind 34 = .ok (.iload_n 2, 1) := by decide +kernel
theorem dX6_cheapestKind_35 : decode cX6_cheapestKind 35 = .ok (.invokevirtual 119, 3) := by decide +kernel
theorem dX6_cheapestKind_38 : decode cX6_cheapestKind 38 = .ok (.istore_n 3, 1) := by decide +kernel
theorem dX6_cheapestKind_39 : decode cX6_cheapestKind 39 = .ok (.iload_n 2, 1) := by decide +kernel
theorem dX6_cheapestKind_40 : decode cX6_cheapestKind 40 = .ok (.iload_n 1, 1) := by decide +kernel
theorem dX6_cheapestKind_41 : decode cX6_cheapestKind 41 = .ok (.isub, 1) := by decide +kernel
theorem dX6_cheapestKind_42 : decode cX6_cheapestKind 42 = .ok (.invokestatic 116, 3) := by decide +kernel
theorem dX6_cheapestKind_45 : decode cX6_cheapestKind 45 = .ok (.iconst 4, 1) := by decide +kernel
theorem dX6_cheapestKind_46 : decode cX6_cheapestKind 46 = .ok (.if_icmp .gt 20, 3) := by decide +kernel
theorem dX6_cheapestKind_49 : decode cX6_cheapestKind 49 = .ok (.iconst 2, 1) := by decide +kernel
theorem dX6_cheapestKind_50 : decode cX6_cheapestKind 50 = .ok (.iload_n 3, 1) := by decide +kernel
theorem dX6_cheapestKind_51 : decode cX6_cheapestKind 51 = .ok (.invokestatic 99, 3) := by decide +kernel
theorem dX6_cheapestKind_54 : decode cX6_cheapestKind 54 = .ok (.iconst 0, 1) := by decide +kernel
theorem dX6_cheapestKind_55 : decode cX6_cheapestKind 55 = .ok (.iload_n 3, 1) := by decide +kernel
theorem dX6_cheapestKind_56 : decode cX6_cheapestKind 56 = .ok (.invokestatic 99, 3) := by decide +kernel
theorem dX6_cheapestKind_59 : decode cX6_cheapestKind 59 = .ok (.if_icmp .ge 7, 3) := by decide +kernel
theorem dX6_cheapestKind_62 : decode cX6_cheapestKind 62 = .ok (.iconst 2, 1) := by decide +kernel
theorem dX6_cheapestKind_63 : decode cX6_cheapestKind 63 = .ok (.goto 4, 3) := by decide +kernel
theorem dX6_cheapestKind_66 : decode cX6_cheapestKind 66 = .ok (.iconst 0, 1) := by decide +kernel
theorem dX6_cheapestKind_67 : decode cX6_cheapestKind 67 = .ok (.ireturn, 1) := by decide +kernel
theorem dX6_toldTicket_0 : decode cX6_toldTicket 0 = .ok (.aload_n 0, 1) := by decide +kernel
theorem dX6_toldTicket_1 : decode cX6_toldTicket 1 = .ok (.aload_n 0, 1) := by decide +kernel
theorem dX6_toldTicket_2 : decode cX6_toldTicket 2 = .ok (.iload_n 1, 1) := by decide +kernel
theorem dX6_toldTicket_3 : decode cX6_toldTicket 3 = .ok (.invokevirtual 325, 3) := by decide +kernel
theorem dX6_toldTicket_6 : decode cX6_toldTicket 6 = .ok (.iconst 0, 1) := by decide +kernel
theorem dX6_toldTicket_7 : decode cX6_toldTicket 7 = .ok (.iconst 0, 1) := by decide +kernel
theorem dX6_toldTicket_8 : decode cX6_toldTicket 8 = .ok (.invokevirtual 157, 3) := by decide +kernel
theorem dX6_toldTicket_11 : decode cX6_toldTicket 11 = .ok (.ifCond .eq 7, 3) := by decide +kernel
theorem dX6_toldTicket_14 : decode cX6_toldTicket 14 = .ok (.iconst 0, 1) := by decide +kernel
theorem dX6_toldTicket_15 : decode cX6_toldTicket 15 = .ok (.goto 9, 3) := by decide +kernel
theorem dX6_toldTicket_18 : decode cX6_toldTicket 18 = .ok (.aload_n 0, 1) := by decide +kernel
theorem dX6_toldTicket_19 : decode cX6_toldTicket 19 = .ok (.iload_n 1, 1) := by decide +kernel
theorem dX6_toldTicket_20 : decode cX6_toldTicket 20 = .ok (.iload_n 2, 1) := by decide +kernel
theorem dX6_toldTicket_21 : decode cX6_toldTicket 21 = .ok (.invokevirtual 96, 3) := by decide +kernel
theorem dX6_toldTicket_24 : decode cX6_toldTicket 24 = .ok (.ireturn, 1) := by decide +kernel
theorem dX6_ticketHolder_0 : decode cX6_ticketHolder 0 = .ok (.aload_n 0, 1) := by decide +kernel
theorem dX6_ticketHolder_1 : decode cX6_ticketHolder 1 = .ok (.iload_n 1, 1) := by decide +kernel
theorem dX6_ticketHolder_2 : decode cX6_ticketHolder 2 = .ok (.iconst 0, 1) := by decide +kernel
theorem dX6_ticketHolder_3 : decode cX6_ticketHolder 3 = .ok (.invokevirtual 334, 3) := by decide +kernel
theorem dX6_ticketHolder_6 : decode cX6_ticketHolder 6 = .ok (.ireturn, 1) := by decide +kernel
theorem dX6_ticketKind_0 : decode cX6_ticketKind 0 = .ok (.aload_n 0, 1) := by decide +kernel
theorem dX6_ticketKind_1 : decode cX6_ticketKind 1 = .ok (.iload_n 1, 1) := by decide +kernel
theorem dX6_ticketKind_2 : decode cX6_ticketKind 2 = .ok (.iconst 1, 1) := by decide +kernel
theorem dX6_ticketKind_3 : decode cX6_ticketKind 3 = .ok (.invokevirtual 334, 3) := by decide +kernel
theorem dX6_ticketKind_6 : decode cX6_ticketKind 6 = .ok (.ireturn, 1) := by decide +kernel
theorem dX6_ticketZones_0 : decode cX6_ticketZones 0 = .ok (.aload_n 0, 1) := by decide +kernel
theorem dX6_ticketZones_1 : decode cX6_ticketZones 1 = .ok (.iload_n 1, 1) := by decide +kernel
theorem dX6_ticketZones_2 : decode cX6_ticketZones 2 = .ok (.iconst 2, 1) := by decide +kernel
theorem dX6_ticketZones_3 : decode cX6_ticketZones 3 = .ok (.invokevirtual 334, 3) := by decide +kernel
theorem dX6_ticketZones_6 : decode cX6_ticketZones 6 = .ok (.ireturn, 1) := by decide +kernel
theorem dX6_ticketPrice_0 : decode cX6_ticketPrice 0 = .ok (.aload_n 0, 1) := by decide +kernel
theorem dX6_ticketPrice_1 : decode cX6_ticketPrice 1 = .ok (.aload_n 0, 1) := by decide +kernel
theorem dX6_ticketPrice_2 : decode cX6_ticketPrice 2 = .ok (.iload_n 1, 1) := by decide +kernel
theorem dX6_ticketPrice_3 : decode cX6_ticketPrice 3 = .ok (.invokevirtual 325, 3) := by decide +kernel
theorem dX6_ticketPrice_6 : decode cX6_ticketPrice 6 = .ok (.iconst 0, 1) := by decide +kernel
theorem dX6_ticketPrice_7 : decode cX6_ticketPrice 7 = .ok (.iconst 0, 1) := by decide +kernel
theorem dX6_ticketPrice_8 : decode cX6_ticketPrice 8 = .ok (.invokevirtual 157, 3) := by decide +kernel
theorem dX6_ticketPrice_11 : decode cX6_ticketPrice 11 = .ok (.ifCond .eq 7, 3) := by decide +kernel
theorem dX6_ticketPrice_14 : decode cX6_ticketPrice 14 = .ok (.iconst 0, 1) := by decide +kernel
theorem dX6_ticketPrice_15 : decode cX6_ticketPrice 15 = .ok (.goto 18, 3) := by decide +kernel
theorem dX6_ticketPrice_18 : decode cX6_ticketPrice 18 = .ok (.aload_n 0, 1) := by decide +kernel
theorem dX6_ticketPrice_19 : decode cX6_ticketPrice 19 = .ok (.iload_n 1, 1) := by decide +kernel
theorem dX6_ticketPrice_20 : decode cX6_ticketPrice 20 = .ok (.iconst 1, 1) := by decide +kernel
theorem dX6_ticketPrice_21 : decode cX6_ticketPrice 21 = .ok (.invokevirtual 96, 3) := by decide +kernel
theorem dX6_ticketPrice_24 : decode cX6_ticketPrice 24 = .ok (.aload_n 0, 1) := by decide +kernel
theorem dX6_ticketPrice_25 : decode cX6_ticketPrice 25 = .ok (.iload_n 1, 1) := by decide +kernel
theorem dX6_ticketPrice_26 : decode cX6_ticketPrice 26 = .ok (.iconst 2, 1) := by decide +kernel
theorem dX6_ticketPrice_27 : decode cX6_ticketPrice 27 = .ok (.invokevirtual 96, 3) := by decide +kernel
theorem dX6_ticketPrice_30 : decode cX6_ticketPrice 30 = .ok (.invokestatic 99, 3) := by decide +kernel
theorem dX6_ticketPrice_33 : decode cX6_ticketPrice 33 = .ok (.ireturn, 1) := by decide +kernel
theorem dX6_stampTime_0 : decode cX6_stampTime 0 = .ok (.aload_n 0, 1) := by decide +kernel
theorem dX6_stampTime_1 : decode cX6_stampTime 1 = .ok (.iload_n 1, 1) := by decide +kernel
theorem dX6_stampTime_2 : decode cX6_stampTime 2 = .ok (.iconst 3, 1) := by decide +kernel
theorem dX6_stampTime_3 : decode cX6_stampTime 3 = .ok (.invokevirtual 334, 3) := by decide +kernel
theorem dX6_stampTime_6 : decode cX6_stampTime 6 = .ok (.ireturn, 1) := by decide +kernel
theorem dX6_stampStop_0 : decode cX6_stampStop 0 = .ok (.aload_n 0, 1) := by decide +kernel
theorem dX6_stampStop_1 : decode cX6_stampStop 1 = .ok (.iload_n 1, 1) := by decide +kernel
theorem dX6_stampStop_2 : decode cX6_stampStop 2 = .ok (.iconst 4, 1) := by decide +kernel
theorem dX6_stampStop_3 : decode cX6_stampStop 3 = .ok (.invokevirtual 334, 3) := by decide +kernel
theorem dX6_stampStop_6 : decode cX6_stampStop 6 = .ok (.ireturn, 1) := by decide +kernel
theorem dX6_ticketRides_0 : decode cX6_ticketRides 0 = .ok (.aload_n 0, 1) := by decide +kernel
theorem dX6_ticketRides_1 : decode cX6_ticketRides 1 = .ok (.iload_n 1, 1) := by decide +kernel
theorem dX6_ticketRides_2 : decode cX6_ticketRides 2 = .ok (.iconst 5, 1) := by decide +kernel
theorem dX6_ticketRides_3 : decode cX6_ticketRides 3 = .ok (.invokevirtual 334, 3) := by decide +kernel
theorem dX6_ticketRides_6 : decode cX6_ticketRides 6 = .ok (.ireturn, 1) := by decide +kernel
theorem dX6_isInTime_0 : decode cX6_isInTime 0 = .ok (.aload_n 0, 1) := by decide +kernel
theorem dX6_isInTime_1 : decode cX6_isInTime 1 = .ok (.aload_n 0, 1) := by decide +kernel
theorem dX6_isInTime_2 : decode cX6_isInTime 2 = .ok (.iload_n 1, 1) := by decide +kernel
theorem dX6_isInTime_3 : decode cX6_isInTime 3 = .ok (.invokevirtual 325, 3) := by decide +kernel
theorem dX6_isInTime_6 : decode cX6_isInTime 6 = .ok (.iconst 0, 1) := by decide +kernel
theorem dX6_isInTime_7 : decode cX6_isInTime 7 = .ok (.iconst 0, 1) := by decide +kernel
theorem dX6_isInTime_8 : decode cX6_isInTime 8 = .ok (.invokevirtual 157, 3) := by decide +kernel
theorem dX6_isInTime_11 : decode cX6_isInTime 11 = .ok (.ifCond .ne 15, 3) := by decide +kernel
theorem dX6_isInTime_14 : decode cX6_isInTime 14 = .ok (.aload_n 0, 1) := by decide +kernel
theorem dX6_isInTime_15 : decode cX6_isInTime 15 = .ok (.iload_n 1, 1) := by decide +kernel
theorem dX6_isInTime_16 : decode cX6_isInTime 16 = .ok (.invokevirtual 122, 3) := by decide +kernel
theorem dX6_isInTime_19 : decode cX6_isInTime 19 = .ok (.ifCond .eq 7, 3) := by decide +kernel
theorem dX6_isInTime_22 : decode cX6_isInTime 22 = .ok (.iconst 1, 1) := by decide +kernel
theorem dX6_isInTime_23 : decode cX6_isInTime 23 = .ok (.goto 4, 3) := by decide +kernel
theorem dX6_isInTime_26 : decode cX6_isInTime 26 = .ok (.iconst 0, 1) := by decide +kernel
theorem dX6_isInTime_27 : decode cX6_isInTime 27 = .ok (.ireturn, 1) := by decide +kernel
theorem dX6_toldCase_0 : decode cX6_toldCase 0 = .ok (.aload_n 0, 1) := by decide +kernel
theorem dX6_toldCase_1 : decode cX6_toldCase 1 = .ok (.aload_n 0, 1) := by decide +kernel
theorem dX6_toldCase_2 : decode cX6_toldCase 2 = .ok (.iload_n 1, 1) := by decide +kernel
theorem dX6_toldCase_3 : decode cX6_toldCase 3 = .ok (.invokevirtual 328, 3) := by decide +kernel
theorem dX6_toldCase_6 : decode cX6_toldCase 6 = .ok (.iconst 0, 1) := by decide +kernel
theorem dX6_toldCase_7 : decode cX6_toldCase 7 = .ok (.iconst 0, 1) := by decide +kernel
theorem dX6_toldCase_8 : decode cX6_toldCase 8 = .ok (.invokevirtual 157, 3) := by decide +kernel
theorem dX6_toldCase_11 : decode cX6_toldCase 11 = .ok (.ifCond .eq 7, 3) := by decide +kernel
theorem dX6_toldCase_14 : decode cX6_toldCase 14 = .ok (.iconst 0, 1) := by decide +kernel
theorem dX6_toldCase_15 : decode cX6_toldCase 15 = .ok (.goto 9, 3) := by decide +kernel
theorem dX6_toldCase_18 : decode cX6_toldCase 18 = .ok (.aload_n 0, 1) := by decide +kernel
theorem dX6_toldCase_19 : decode cX6_toldCase 19 = .ok (.iload_n 1, 1) := by decide +kernel
theorem dX6_toldCase_20 : decode cX6_toldCase 20 = .ok (.iload_n 2, 1) := by decide +kernel
theorem dX6_toldCase_21 : decode cX6_toldCase 21 = .ok (.invokevirtual 138, 3) := by decide +kernel
theorem dX6_toldCase_24 : decode cX6_toldCase 24 = .ok (.ireturn, 1) := by decide +kernel
theorem dX6_casePassenger_0 : decode cX6_casePassenger 0 = .ok (.aload_n 0, 1) := by decide +kernel
theorem dX6_casePassenger_1 : decode cX6_casePassenger 1 = .ok (.iload_n 1, 1) := by decide +kernel
theorem dX6_casePassenger_2 : decode cX6_casePassenger 2 = .ok (.iconst 0, 1) := by decide +kernel
theorem dX6_casePassenger_3 : decode cX6_casePassenger 3 = .ok (.invokevirtual 337, 3) := by decide +kernel
theorem dX6_casePassenger_6 : decode cX6_casePassenger 6 = .ok (.ireturn, 1) := by decide +kernel
theorem dX6_caseFault_0 : decode cX6_caseFault 0 = .ok (.aload_n 0, 1) := by decide +kernel
theorem dX6_caseFault_1 : decode cX6_caseFault 1 = .ok (.iload_n 1, 1) := by decide +kernel
theorem dX6_caseFault_2 : decode cX6_caseFault 2 = .ok (.iconst 1, 1) := by decide +kernel
theorem dX6_caseFault_3 : decode cX6_caseFault 3 = .ok (.invokevirtual 337, 3) := by decide +kernel
theorem dX6_caseFault_6 : decode cX6_caseFault 6 = .ok (.ireturn, 1) := by decide +kernel
theorem dX6_caseState_0 : decode cX6_caseState 0 = .ok (.aload_n 0, 1) := by decide +kernel
theorem dX6_caseState_1 : decode cX6_caseState 1 = .ok (.iload_n 1, 1) := by decide +kernel
theorem dX6_caseState_2 : decode cX6_caseState 2 = .ok (.iconst 2, 1) := by decide +kernel
theorem dX6_caseState_3 : decode cX6_caseState 3 = .ok (.invokevirtual 337, 3) := by decide +kernel
theorem dX6_caseState_6 : decode cX6_caseState 6 = .ok (.ireturn, 1) := by decide +kernel
theorem dX6_caseTime_0 : decode cX6_caseTime 0 = .ok (.aload_n 0, 1) := by decide +kernel
theorem dX6_caseTime_1 : decode cX6_caseTime 1 = .ok (.iload_n 1, 1) := by decide +kernel
theorem dX6_caseTime_2 : decode cX6_caseTime 2 = .ok (.iconst 3, 1) := by decide +kernel
theorem dX6_caseTime_3 : decode cX6_caseTime 3 = .ok (.invokevirtual 337, 3) := by decide +kernel
theorem dX6_caseTime_6 : decode cX6_caseTime 6 = .ok (.ireturn, 1) := by decide +kernel
theorem dX6_amountDue_0 : decode cX6_amountDue 0 = .ok (.aload_n 0, 1) := by decide +kernel
theorem dX6_amountDue_1 : decode cX6_amountDue 1 = .ok (.aload_n 0, 1) := by decide +kernel
theorem dX6_amountDue_2 : decode cX6_amountDue 2 = .ok (.iload_n 1, 1) := by decide +kernel
theorem dX6_amountDue_3 : decode cX6_amountDue 3 = .ok (.invokevirtual 328, 3) := by decide +kernel
theorem dX6_amountDue_6 : decode cX6_amountDue 6 = .ok (.iconst 0, 1) := by decide +kernel
theorem dX6_amountDue_7 : decode cX6_amountDue 7 = .ok (.iconst 0, 1) := by decide +kernel
theorem dX6_amountDue_8 : decode cX6_amountDue 8 = .ok (.invokevirtual 157, 3) := by decide +kernel
theorem dX6_amountDue_11 : decode cX6_amountDue 11 = .ok (.ifCond .eq 7, 3) := by decide +kernel
theorem dX6_amountDue_14 : decode cX6_amountDue 14 = .ok (.iconst 0, 1) := by decide +kernel
theorem dX6_amountDue_15 : decode cX6_amountDue 15 = .ok (.goto 8, 3) := by decide +kernel
theorem dX6_amountDue_18 : decode cX6_amountDue 18 = .ok (.aload_n 0, 1) := by decide +kernel
theorem dX6_amountDue_19 : decode cX6_amountDue 19 = .ok (.iload_n 1, 1) := by decide +kernel
theorem dX6_amountDue_20 : decode cX6_amountDue 20 = .ok (.invokevirtual 147, 3) := by decide +kernel
theorem dX6_amountDue_23 : decode cX6_amountDue 23 = .ok (.ireturn, 1) := by decide +kernel
theorem dX6_caseTicket_0 : decode cX6_caseTicket 0 = .ok (.aload_n 0, 1) := by decide +kernel
theorem dX6_caseTicket_1 : decode cX6_caseTicket 1 = .ok (.iload_n 1, 1) := by decide +kernel
theorem dX6_caseTicket_2 : decode cX6_caseTicket 2 = .ok (.iconst 5, 1) := by decide +kernel
theorem dX6_caseTicket_3 : decode cX6_caseTicket 3 = .ok (.invokevirtual 337, 3) := by decide +kernel
theorem dX6_caseTicket_6 : decode cX6_caseTicket 6 = .ok (.ireturn, 1) := by decide +kernel
theorem dX6_isOverdue_0 : decode cX6_isOverdue 0 = .ok (.aload_n 0, 1) := by decide +kernel
theorem dX6_isOverdue_1 : decode cX6_isOverdue 1 = .ok (.aload_n 0, 1) := by decide +kernel
theorem dX6_isOverdue_2 : decode cX6_isOverdue 2 = .ok (.iload_n 1, 1) := by decide +kernel
theorem dX6_isOverdue_3 : decode cX6_isOverdue 3 = .ok (.invokevirtual 328, 3) := by decide +kernel
theorem dX6_isOverdue_6 : decode cX6_isOverdue 6 = .ok (.iconst 0, 1) := by decide +kernel
theorem dX6_isOverdue_7 : decode cX6_isOverdue 7 = .ok (.iconst 0, 1) := by decide +kernel
theorem dX6_isOverdue_8 : decode cX6_isOverdue 8 = .ok (.invokevirtual 157, 3) := by decide +kernel
theorem dX6_isOverdue_11 : decode cX6_isOverdue 11 = .ok (.ifCond .ne 15, 3) := by decide +kernel
theorem dX6_isOverdue_14 : decode cX6_isOverdue 14 = .ok (.aload_n 0, 1) := by decide +kernel
theorem dX6_isOverdue_15 : decode cX6_isOverdue 15 = .ok (.iload_n 1, 1) := by decide +kernel
theorem dX6_isOverdue_16 : decode cX6_isOverdue 16 = .ok (.invokevirtual 141, 3) := by decide +kernel
theorem dX6_isOverdue_19 : decode cX6_isOverdue 19 = .ok (.ifCond .eq 7, 3) := by decide +kernel
theorem dX6_isOverdue_22 : decode cX6_isOverdue 22 = .ok (.iconst 1, 1) := by decide +kernel
theorem dX6_isOverdue_23 : decode cX6_isOverdue 23 = .ok (.goto 4, 3) := by decide +kernel
theorem dX6_isOverdue_26 : decode cX6_isOverdue 26 = .ok (.iconst 0, 1) := by decide +kernel
theorem dX6_isOverdue_27 : decode cX6_isOverdue 27 = .ok (.ireturn, 1) := by decide +kernel
theorem dX6_outlook_0 : decode cX6_outlook 0 = .ok (.aload_n 0, 1) := by decide +kernel
theorem dX6_outlook_1 : decode cX6_outlook 1 = .ok (.aload_n 0, 1) := by decide +kernel
theorem dX6_outlook_2 : decode cX6_outlook 2 = .ok (.iload_n 1, 1) := by decide +kernel
theorem dX6_outlook_3 : decode cX6_outlook 3 = .ok (.invokevirtual 328, 3) := by decide +kernel
theorem dX6_outlook_6 : decode cX6_outlook 6 = .ok (.ifCond .ne 11, 3) := by decide +kernel
theorem dX6_outlook_9 : decode cX6_outlook 9 = .ok (.aload_n 0, 1) := by decide +kernel
theorem dX6_outlook_10 : decode cX6_outlook 10 = .ok (.iload_n 2, 1) := by decide +kernel
theorem dX6_outlook_11 : decode cX6_outlook 11 = .ok (.invokevirtual 325, 3) := by decide +kernel
theorem dX6_outlook_14 : decode cX6_outlook 14 = .ok (.ifCond .eq 7, 3) := by decide +kernel
theorem dX6_outlook_17 : decode cX6_outlook 17 = .ok (.iconst 1, 1) := by decide +kernel
theorem dX6_outlook_18 : decode cX6_outlook 18 = .ok (.goto 4, 3) := by decide +kernel
theorem dX6_outlook_21 : decode cX6_outlook 21 = .ok (.iconst 0, 1) := by decide +kernel
theorem dX6_outlook_22 : decode cX6_outlook 22 = .ok (.iconst 0, 1) := by decide +kernel
theorem dX6_outlook_23 : decode cX6_outlook 23 = .ok (.iconst 0, 1) := by decide +kernel
theorem dX6_outlook_24 : decode cX6_outlook 24 = .ok (.invokevirtual 157, 3) := by decide +kernel
theorem dX6_outlook_27 : decode cX6_outlook 27 = .ok (.ifCond .eq 7, 3) := by decide +kernel
theorem dX6_outlook_30 : decode cX6_outlook 30 = .ok (.iconst 0, 1) := by decide +kernel
theorem dX6_outlook_31 : decode cX6_outlook 31 = .ok (.goto 9, 3) := by decide +kernel
theorem dX6_outlook_34 : decode cX6_outlook 34 = .ok (.aload_n 0, 1) := by decide +kernel
theorem dX6_outlook_35 : decode cX6_outlook 35 = .ok (.iload_n 1, 1) := by decide +kernel
theorem dX6_outlook_36 : decode cX6_outlook 36 = .ok (.iload_n 2, 1) := by decide +kernel
theorem dX6_outlook_37 : decode cX6_outlook 37 = .ok (.invokevirtual 144, 3) := by decide +kernel
theorem dX6_outlook_40 : decode cX6_outlook 40 = .ok (.ireturn, 1) := by decide +kernel
theorem dX6_ticketSales_0 : decode cX6_ticketSales 0 = .ok (.aload_n 0, 1) := by decide +kernel
theorem dX6_ticketSales_1 : decode cX6_ticketSales 1 = .ok (.aload_n 0, 1) := by decide +kernel
theorem dX6_ticketSales_2 : decode cX6_ticketSales 2 = .ok (.getfield 9, 3) := by decide +kernel
theorem dX6_ticketSales_5 : decode cX6_ticketSales 5 = .ok (.iconst 5, 1) := by decide +kernel
theorem dX6_ticketSales_6 : decode cX6_ticketSales 6 = .ok (.iaload, 1) := by decide +kernel
theorem dX6_ticketSales_7 : decode cX6_ticketSales 7 = .ok (.invokevirtual 316, 3) := by decide +kernel
theorem dX6_ticketSales_10 : decode cX6_ticketSales 10 = .ok (.ireturn, 1) := by decide +kernel
theorem dX6_finesPaid_0 : decode cX6_finesPaid 0 = .ok (.aload_n 0, 1) := by decide +kernel
theorem dX6_finesPaid_1 : decode cX6_finesPaid 1 = .ok (.aload_n 0, 1) := by decide +kernel
theorem dX6_finesPaid_2 : decode cX6_finesPaid 2 = .ok (.getfield 9, 3) := by decide +kernel
theorem dX6_finesPaid_5 : decode cX6_finesPaid 5 = .ok (.bipush 6, 2) := by decide +kernel
theorem dX6_finesPaid_7 : decode cX6_finesPaid 7 = .ok (.iaload, 1) := by decide +kernel
theorem dX6_finesPaid_8 : decode cX6_finesPaid 8 = .ok (.invokevirtual 316, 3) := by decide +kernel
theorem dX6_finesPaid_11 : decode cX6_finesPaid 11 = .ok (.ireturn, 1) := by decide +kernel
theorem dX6_inspections_0 : decode cX6_inspections 0 = .ok (.aload_n 0, 1) := by decide +kernel
theorem dX6_inspections_1 : decode cX6_inspections 1 = .ok (.aload_n 0, 1) := by decide +kernel
theorem dX6_inspections_2 : decode cX6_inspections 2 = .ok (.getfield 9, 3) := by decide +kernel
theorem dX6_inspections_5 : decode cX6_inspections 5 = .ok (.bipush 7, 2) := by decide +kernel
theorem dX6_inspections_7 : decode cX6_inspections 7 = .ok (.iaload, 1) := by decide +kernel
theorem dX6_inspections_8 : decode cX6_inspections 8 = .ok (.invokevirtual 316, 3) := by decide +kernel
theorem dX6_inspections_11 : decode cX6_inspections 11 = .ok (.ireturn, 1) := by decide +kernel
theorem dX6_inconsistencies_0 : decode cX6_inconsistencies 0 = .ok (.aload_n 0, 1) := by decide +kernel
theorem dX6_inconsistencies_1 : decode cX6_inconsistencies 1 = .ok (.iconst 0, 1) := by decide +kernel
theorem dX6_inconsistencies_2 : decode cX6_inconsistencies 2 = .ok (.putfield 64, 3) := by decide +kernel
theorem dX6_inconsistencies_5 : decode cX6_inconsistencies 5 = .ok (.aload_n 0, 1) := by decide +kernel
theorem dX6_inconsistencies_6 : decode cX6_inconsistencies 6 = .ok (.getfield 9, 3) := by decide +kernel
theorem dX6_inconsistencies_9 : decode cX6_inconsistencies 9 = .ok (.bipush 8, 2) := by decide +kernel
theorem dX6_inconsistencies_11 : decode cX6_inconsistencies 11 = .ok (.iaload, 1) := by decide +kernel
theorem dX6_inconsistencies_12 : decode cX6_inconsistencies 12 = .ok (.aload_n 0, 1) := by decide +kernel
theorem dX6_inconsistencies_13 : decode cX6_inconsistencies 13 = .ok (.getfield 9, 3) := by decide +kernel
theorem dX6_inconsistencies_16 : decode cX6_inconsistencies 16 = .ok (.iconst 5, 1) := by decide +kernel
theorem dX6_inconsistencies_17 : decode cX6_inconsistencies 17 = .ok (.iaload, 1) := by decide +kernel
theorem dX6_inconsistencies_18 : decode cX6_inconsistencies 18 = .ok (.isub, 1) := by decide +kernel
theorem dX6_inconsistencies_19 : decode cX6_inconsistencies 19 = .ok (.aload_n 0, 1) := by decide +kernel
theorem dX6_inconsistencies_20 : decode cX6_inconsistencies 20 = .ok (.getfield 9, 3) := by decide +kernel
theorem dX6_inconsistencies_23 : decode cX6_inconsistencies 23 = .ok (.bipush 6, 2) := by decide +kernel
theorem dX6_inconsistencies_25 : decode cX6_inconsistencies 25 = .ok (.iaload, 1) := by decide +kernel
theorem dX6_inconsistencies_26 : decode cX6_inconsistencies 26 = .ok (.isub, 1) := by decide +kernel
theorem dX6_inconsistencies_27 : decode cX6_inconsistencies 27 = .ok (.istore_n 1, 1) := by decide +kernel
theorem dX6_inconsistencies_28 : decode cX6_inconsistencies 28 = .ok (.iconst 0, 1) := by decide +kernel
theorem dX6_inconsistencies_29 : decode cX6_inconsistencies 29 = .ok (.istore_n 2, 1) := by decide +kernel
theorem dX6_inconsistencies_30 : decode cX6_inconsistencies 30 = .ok (.iload_n 2, 1) := by decide +kernel
theorem dX6_inconsistencies_31 : decode cX6_inconsistencies 31 = .ok (.aload_n 0, 1) := by decide +kernel
theorem dX6_inconsistencies_32 : decode cX6_inconsistencies 32 = .ok (.getfield 9, 3) := by decide +kernel
theorem dX6_inconsistencies_35 : decode cX6_inconsistencies 35 = .ok (.iconst 2, 1) := by decide +kernel
theorem dX6_inconsistencies_36 : decode cX6_inconsistencies 36 = .ok (.iaload, 1) := by decide +kernel
theorem dX6_inconsistencies_37 : decode cX6_inconsistencies 37 = .ok (.if_icmp .ge 18, 3) := by decide +kernel
theorem dX6_inconsistencies_40 : decode cX6_inconsistencies 40 = .ok (.iload_n 1, 1) := by decide +kernel
theorem dX6_inconsistencies_41 : decode cX6_inconsistencies 41 = .ok (.aload_n 0, 1) := by decide +kernel
theorem dX6_inconsistencies_42 : decode cX6_inconsistencies 42 = .ok (.iload_n 2, 1) := by decide +kernel
theorem dX6_inconsistencies_43 : decode cX6_inconsistencies 43 = .ok (.iconst 0, 1) := by decide +kernel
theorem dX6_inconsistencies_44 : decode cX6_inconsistencies 44 = .ok (.invokevirtual 102, 3) := by decide +kernel
theorem dX6_inconsistencies_47 : decode cX6_inconsistencies 47 = .ok (.isub, 1) := by decide +kernel
theorem dX6_inconsistencies_48 : decode cX6_inconsistencies 48 = .ok (.istore_n 1, 1) := by decide +kernel
theorem dX6_inconsistencies_49 : decode cX6_inconsistencies 49 = .ok (.iinc 2 1, 3) := by decide +kernel
theorem dX6_inconsistencies_52 : decode cX6_inconsistencies 52 = .ok (.goto (-22), 3) := by decide +kernel
theorem dX6_inconsistencies_55 : decode cX6_inconsistencies 55 = .ok (.iload_n 1, 1) := by decide +kernel
theorem dX6_inconsistencies_56 : decode cX6_inconsistencies 56 = .ok (.invokestatic 116, 3) := by decide +kernel
theorem dX6_inconsistencies_59 : decode cX6_inconsistencies 59 = .ok (.istore_n 2, 1) := by decide +kernel
theorem dX6_inconsistencies_60 : decode cX6_inconsistencies 60 = .ok (.iconst 0, 1) := by decide +kernel
theorem dX6_inconsistencies_61 : decode cX6_inconsistencies 61 = .ok (.istore_n 3, 1) := by decide +kernel
theorem dX6_inconsistencies_62 : decode cX6_inconsistencies 62 = .ok (.iload_n 3, 1) := by decide +kernel
theorem dX6_inconsistencies_63 : decode cX6_inconsistencies 63 = .ok (.aload_n 0, 1) := by decide +kernel
theorem dX6_inconsistencies_64 : decode cX6_inconsistencies 64 = .ok (.getfield 9, 3) := by decide +kernel
theorem dX6_inconsistencies_67 : decode cX6_inconsistencies 67 = .ok (.iconst 3, 1) := by decide +kernel
theorem dX6_inconsistencies_68 : decode cX6_inconsistencies 68 = .ok (.iaload, 1) := by decide +kernel
theorem dX6_inconsistencies_69 : decode cX6_inconsistencies 69 = .ok (.if_icmp .ge 44, 3) := by decide +kernel
theorem dX6_inconsistencies_72 : decode cX6_inconsistencies 72 = .ok (.aload_n 0, 1) := by decide +kernel
theorem dX6_inconsistencies_73 : decode cX6_inconsistencies 73 = .ok (.iload_n 3, 1) := by decide +kernel
theorem dX6_inconsistencies_74 : decode cX6_inconsistencies 74 = .ok (.iconst 3, 1) := by decide +kernel
theorem dX6_inconsistencies_75 : decode cX6_inconsistencies 75 = .ok (.invokevirtual 96, 3) := by decide +kernel
theorem dX6_inconsistencies_78 : decode cX6_inconsistencies 78 = .ok (.iconst (-1), 1) := by decide +kernel
theorem dX6_inconsistencies_79 : decode cX6_inconsistencies 79 = .ok (.if_icmp .ne 7, 3) := by decide +kernel
theorem dX6_inconsistencies_82 : decode cX6_inconsistencies 82 = .ok (.iconst 1, 1) := by decide +kernel
theorem dX6_inconsistencies_83 : decode cX6_inconsistencies 83 = .ok (.goto 4, 3) := by decide +kernel
theorem dX6_inconsistencies_86 : decode cX6_inconsistencies 86 = .ok (.iconst 0, 1) := by decide +kernel
theorem dX6_inconsistencies_87 : decode cX6_inconsistencies 87 = .ok (.aload_n 0, 1) := by decide +kernel
theorem dX6_inconsistencies_88 : decode cX6_inconsistencies 88 = .ok (.iload_n 3, 1) := by decide +kernel
theorem dX6_inconsistencies_89 : decode cX6_inconsistencies 89 = .ok (.iconst 5, 1) := by decide +kernel
theorem dX6_inconsistencies_90 : decode cX6_inconsistencies 90 = .ok (.invokevirtual 96, 3) := by decide +kernel
theorem dX6_inconsistencies_93 : decode cX6_inconsistencies 93 = .ok (.ifCond .ne 7, 3) := by decide +kernel
theorem dX6_inconsistencies_96 : decode cX6_inconsistencies 96 = .ok (.iconst 1, 1) := by decide +kernel
theorem dX6_inconsistencies_97 : decode cX6_inconsistencies 97 = .ok (.goto 4, 3) := by decide +kernel
theorem dX6_inconsistencies_100 : decode cX6_inconsistencies 100 = .ok (.iconst 0, 1) := by decide +kernel
theorem dX6_inconsistencies_101 : decode cX6_inconsistencies 101 = .ok (.if_icmp .eq 6, 3) := by decide +kernel
theorem dX6_inconsistencies_104 : decode cX6_inconsistencies 104 = .ok (.iinc 2 1, 3) := by decide +kernel
theorem dX6_inconsistencies_107 : decode cX6_inconsistencies 107 = .ok (.iinc 3 1, 3) := by decide +kernel
theorem dX6_inconsistencies_110 : decode cX6_inconsistencies 110 = .ok (.goto (-48), 3) := by decide +kernel
theorem dX6_inconsistencies_113 : decode cX6_inconsistencies 113 = .ok (.iload_n 2, 1) := by decide +kernel
theorem dX6_inconsistencies_114 : decode cX6_inconsistencies 114 = .ok (.ireturn, 1) := by decide +kernel
theorem dX6_faultShare_0 : decode cX6_faultShare 0 = .ok (.aload_n 0, 1) := by decide +kernel
theorem dX6_faultShare_1 : decode cX6_faultShare 1 = .ok (.iconst 0, 1) := by decide +kernel
theorem dX6_faultShare_2 : decode cX6_faultShare 2 = .ok (.putfield 64, 3) := by decide +kernel
theorem dX6_faultShare_5 : decode cX6_faultShare 5 = .ok (.aload_n 0, 1) := by decide +kernel
theorem dX6_faultShare_6 : decode cX6_faultShare 6 = .ok (.getfield 9, 3) := by decide +kernel
theorem dX6_faultShare_9 : decode cX6_faultShare 9 = .ok (.bipush 7, 2) := by decide +kernel
theorem dX6_faultShare_11 : decode cX6_faultShare 11 = .ok (.iaload, 1) := by decide +kernel
theorem dX6_faultShare_12 : decode cX6_faultShare 12 = .ok (.ifCond .ne 7, 3) := by decide +kernel
theorem dX6_faultShare_15 : decode cX6_faultShare 15 = .ok (.dconst 0, 1) := by decide +kernel
theorem dX6_faultShare_16 : decode cX6_faultShare 16 = .ok (.goto 19, 3) := by decide +kernel
theorem dX6_faultShare_19 : decode cX6_faultShare 19 = .ok (.aload_n 0, 1) := by decide +kernel
theorem dX6_faultShare_20 : decode cX6_faultShare 20 = .ok (.getfield 9, 3) := by decide +kernel
theorem dX6_faultShare_23 : decode cX6_faultShare 23 = .ok (.iconst 4, 1) := by decide +kernel
theorem dX6_faultShare_24 : decode cX6_faultShare 24 = .ok (.iaload, 1) := by decide +kernel
theorem dX6_faultShare_25 : decode cX6_faultShare 25 = .ok (.i2d, 1) := by decide +kernel
theorem dX6_faultShare_26 : decode cX6_faultShare 26 = .ok (.aload_n 0, 1) := by decide +kernel
theorem dX6_faultShare_27 : decode cX6_faultShare 27 = .ok (.getfield 9, 3) := by decide +kernel
theorem dX6_faultShare_30 : decode cX6_faultShare 30 = .ok (.bipush 7, 2) := by decide +kernel
theorem dX6_faultShare_32 : decode cX6_faultShare 32 = .ok (.iaload, 1) := by decide +kernel
theorem dX6_faultShare_33 : decode cX6_faultShare 33 = .ok (.i2d, 1) := by decide +kernel
theorem dX6_faultShare_34 : decode cX6_faultShare 34 = .ok (.ddiv, 1) := by decide +kernel
theorem dX6_faultShare_35 : decode cX6_faultShare 35 = .ok (.dreturn, 1) := by decide +kernel
theorem dX6_meanPrice_0 : decode cX6_meanPrice 0 = .ok (.aload_n 0, 1) := by decide +kernel
theorem dX6_meanPrice_1 : decode cX6_meanPrice 1 = .ok (.iconst 0, 1) := by decide +kernel
theorem dX6_meanPrice_2 : decode cX6_meanPrice 2 = .ok (.putfield 64, 3) := by decide +kernel
theorem dX6_meanPrice_5 : decode cX6_meanPrice 5 = .ok (.aload_n 0, 1) := by decide +kernel
theorem dX6_meanPrice_6 : decode cX6_meanPrice 6 = .ok (.getfield 9, 3) := by decide +kernel
theorem dX6_meanPrice_9 : decode cX6_meanPrice 9 = .ok (.iconst 3, 1) := by decide +kernel
theorem dX6_meanPrice_10 : decode cX6_meanPrice 10 = .ok (.iaload, 1) := by decide +kernel
theorem dX6_meanPrice_11 : decode cX6_meanPrice 11 = .ok (.ifCond .ne 7, 3) := by decide +kernel
theorem dX6_meanPrice_14 : decode cX6_meanPrice 14 = .ok (.fconst 0, 1) := by decide +kernel
theorem dX6_meanPrice_15 : decode cX6_meanPrice 15 = .ok (.goto 18, 3) := by decide +kernel
theorem dX6_meanPrice_18 : decode cX6_meanPrice 18 = .ok (.aload_n 0, 1) := by decide +kernel
theorem dX6_meanPrice_19 : decode cX6_meanPrice 19 = .ok (.getfield 9, 3) := by decide +kernel
theorem dX6_meanPrice_22 : decode cX6_meanPrice 22 = .ok (.iconst 5, 1) := by decide +kernel
theorem dX6_meanPrice_23 : decode cX6_meanPrice 23 = .ok (.iaload, 1) := by decide +kernel
theorem dX6_meanPrice_24 : decode cX6_meanPrice 24 = .ok (.i2f, 1) := by decide +kernel
theorem dX6_meanPrice_25 : decode cX6_meanPrice 25 = .ok (.aload_n 0, 1) := by decide +kernel
theorem dX6_meanPrice_26 : decode cX6_meanPrice 26 = .ok (.getfield 9, 3) := by decide +kernel
theorem dX6_meanPrice_29 : decode cX6_meanPrice 29 = .ok (.iconst 3, 1) := by decide +kernel
theorem dX6_meanPrice_30 : decode cX6_meanPrice 30 = .ok (.iaload, 1) := by decide +kernel
theorem dX6_meanPrice_31 : decode cX6_meanPrice 31 = .ok (.i2f, 1) := by decide +kernel
theorem dX6_meanPrice_32 : decode cX6_meanPrice 32 = .ok (.fdiv, 1) := by decide +kernel
theorem dX6_meanPrice_33 : decode cX6_meanPrice 33 = .ok (.freturn, 1) := by decide +kernel
theorem dX6_out_0 : decode cX6_out 0 = .ok (.aload_n 0, 1) := by decide +kernel
theorem dX6_out_1 : decode cX6_out 1 = .ok (.getfield 29, 3) := by decide +kernel
theorem dX6_out_4 : decode cX6_out 4 = .ok (.aload_n 0, 1) := by decide +kernel
theorem dX6_out_5 : decode cX6_out 5 = .ok (.getfield 340, 3) := by decide +kernel
theorem dX6_out_8 : decode cX6_out 8 = .ok (.iload_n 1, 1) := by decide +kernel
theorem dX6_out_9 : decode cX6_out 9 = .ok (.iastore, 1) := by decide +kernel
theorem dX6_out_10 : decode cX6_out 10 = .ok (.aload_n 0, 1) := by decide +kernel
theorem dX6_out_11 : decode cX6_out 11 = .ok (.dup, 1) := by decide +kernel
theorem dX6_out_12 : decode cX6_out 12 = .ok (.getfield 340, 3) := by decide +kernel
theorem dX6_out_15 : decode cX6_out 15 = .ok (.iconst 1, 1) := by decide +kernel
theorem dX6_out_16 : decode cX6_out 16 = .ok (.iadd, 1) := by decide +kernel
theorem dX6_out_17 : decode cX6_out 17 = .ok (.putfield 340, 3) := by decide +kernel
theorem dX6_out_20 : decode cX6_out 20 = .ok (.return_, 1) := by decide +kernel
theorem dX6_outNumber_0 : decode cX6_outNumber 0 = .ok (.iconst 1, 1) := by decide +kernel
theorem dX6_outNumber_1 : decode cX6_outNumber 1 = .ok (.istore_n 2, 1) := by decide +kernel
theorem dX6_outNumber_2 : decode cX6_outNumber 2 = .ok (.iload_n 1, 1) := by decide +kernel
theorem dX6_outNumber_3 : decode cX6_outNumber 3 = .ok (.iload_n 2, 1) := by decide +kernel
theorem dX6_outNumber_4 : decode cX6_outNumber 4 = .ok (.idiv, 1) := by decide +kernel
theorem dX6_outNumber_5 : decode cX6_outNumber 5 = .ok (.bipush 9, 2) := by decide +kernel
theorem dX6_outNumber_7 : decode cX6_outNumber 7 = .ok (.if_icmp .le 11, 3) := by decide +kernel
theorem dX6_outNumber_10 : decode cX6_outNumber 10 = .ok (.iload_n 2, 1) := by decide +kernel
theorem dX6_outNumber_11 : decode cX6_outNumber 11 = .ok (.bipush 10, 2) := by decide +kernel
theorem dX6_outNumber_13 : decode cX6_outNumber 13 = .ok (.imul, 1) := by decide +kernel
theorem dX6_outNumber_14 : decode cX6_outNumber 14 = .ok (.istore_n 2, 1) := by decide +kernel
theorem dX6_outNumber_15 : decode cX6_outNumber 15 = .ok (.goto (-13), 3) := by decide +kernel
theorem dX6_outNumber_18 : decode cX6_outNumber 18 = .ok (.iload_n 2, 1) := by decide +kernel
theorem dX6_outNumber_19 : decode cX6_outNumber 19 = .ok (.ifCond .le 24, 3) := by decide +kernel
theorem dX6_outNumber_22 : decode cX6_outNumber 22 = .ok (.aload_n 0, 1) := by decide +kernel
theorem dX6_outNumber_23 : decode cX6_outNumber 23 = .ok (.bipush 48, 2) := by decide +kernel
theorem dX6_outNumber_25 : decode cX6_outNumber 25 = .ok (.iload_n 1, 1) := by decide +kernel
theorem dX6_outNumber_26 : decode cX6_outNumber 26 = .ok (.iload_n 2, 1) := by decide +kernel
theorem dX6_outNumber_27 : decode cX6_outNumber 27 = .ok (.idiv, 1) := by decide +kernel
theorem dX6_outNumber_28 : decode cX6_outNumber 28 = .ok (.bipush 10, 2) := by decide +kernel
theorem dX6_outNumber_30 : decode cX6_outNumber 30 = .ok (.irem, 1) := by decide +kernel
theorem dX6_outNumber_31 : decode cX6_outNumber 31 = .ok (.iadd, 1) := by decide +kernel
theorem dX6_outNumber_32 : decode cX6_outNumber 32 = .ok (.invokevirtual 343, 3) := by decide +kernel
theorem dX6_outNumber_35 : decode cX6_outNumber 35 = .ok (.iload_n 2, 1) := by decide +kernel
theorem dX6_outNumber_36 : decode cX6_outNumber 36 = .ok (.bipush 10, 2) := by decide +kernel
theorem dX6_outNumber_38 : decode cX6_outNumber 38 = .ok (.idiv, 1) := by decide +kernel
theorem dX6_outNumber_39 : decode cX6_outNumber 39 = .ok (.istore_n 2, 1) := by decide +kernel
theorem dX6_outNumber_40 : decode cX6_outNumber 40 = .ok (.goto (-22), 3) := by decide +kernel
theorem dX6_outNumber_43 : decode cX6_outNumber 43 = .ok (.return_, 1) := by decide +kernel
theorem dX6_writeCases_0 : decode cX6_writeCases 0 = .ok (.aload_n 0, 1) := by decide +kernel
theorem dX6_writeCases_1 : decode cX6_writeCases 1 = .ok (.iconst 0, 1) := by decide +kernel
theorem dX6_writeCases_2 : decode cX6_writeCases 2 = .ok (.putfield 64, 3) := by decide +kernel
theorem dX6_writeCases_5 : decode cX6_writeCases 5 = .ok (.aload_n 0, 1) := by decide +kernel
theorem dX6_writeCases_6 : decode cX6_writeCases 6 = .ok (.iconst 0, 1) := by decide +kernel
theorem dX6_writeCases_7 : decode cX6_writeCases 7 = .ok (.putfield 340, 3) := by decide +kernel
theorem dX6_writeCases_10 : decode cX6_writeCases 10 = .ok (.iconst 0, 1) := by decide +kernel
theorem dX6_writeCases_11 : decode cX6_writeCases 11 = .ok (.istore_n 1, 1) := by decide +kernel
theorem dX6_writeCases_12 : decode cX6_writeCases 12 = .ok (.iload_n 1, 1) := by decide +kernel
theorem dX6_writeCases_13 : decode cX6_writeCases 13 = .ok (.aload_n 0, 1) := by decide +kernel
theorem dX6_writeCases_14 : decode cX6_writeCases 14 = .ok (.getfield 9, 3) := by decide +kernel
theorem dX6_writeCases_17 : decode cX6_writeCases 17 = .ok (.iconst 4, 1) := by decide +kernel
theorem dX6_writeCases_18 : decode cX6_writeCases 18 = .ok (.iaload, 1) := by decide +kernel
theorem dX6_writeCases_19 : decode cX6_writeCases 19 = .ok (.if_icmp .ge 112, 3) := by decide +kernel
theorem dX6_writeCases_22 : decode cX6_writeCases 22 = .ok (.aload_n 0, 1) := by decide +kernel
theorem dX6_writeCases_23 : decode cX6_writeCases 23 = .ok (.iload_n 1, 1) := by decide +kernel
theorem dX6_writeCases_24 : decode cX6_writeCases 24 = .ok (.iconst 2, 1) := by decide +kernel
theorem dX6_writeCases_25 : decode cX6_writeCases 25 = .ok (.invokevirtual 138, 3) := by decide +kernel
theorem dX6_writeCases_28 : decode cX6_writeCases 28 = .ok (.iconst 4, 1) := by decide +kernel
theorem dX6_writeCases_29 : decode cX6_writeCases 29 = .ok (.if_icmp .ne 6, 3) := by decide +kernel
theorem dX6_writeCases_32 : decode cX6_writeCases 32 = .ok (.goto 93, 3) := by decide +kernel
theorem dX6_writeCases_35 : decode cX6_writeCases 35 = .ok (.aload_n 0, 1) := by decide +kernel
theorem dX6_writeCases_36 : decode cX6_writeCases 36 = .ok (.getfield 340, 3) := by decide +kernel
theorem dX6_writeCases_39 : decode cX6_writeCases 39 = .ok (.ifCond .le 9, 3) := by decide +kernel
theorem dX6_writeCases_42 : decode cX6_writeCases 42 = .ok (.aload_n 0, 1) := by decide +kernel
theorem dX6_writeCases_43 : decode cX6_writeCases 43 = .ok (.bipush 32, 2) := by decide +kernel
theorem dX6_writeCases_45 : decode cX6_writeCases 45 = .ok (.invokevirtual 343, 3) := by decide +kernel
theorem dX6_writeCases_48 : decode cX6_writeCases 48 = .ok (.bipush 21, 2) := by decide +kernel
theorem dX6_writeCases_50 : decode cX6_writeCases 50 = .ok (.bipush 13, 2) := by decide +kernel
theorem dX6_writeCases_52 : decode cX6_writeCases 52 = .ok (.aload_n 0, 1) := by decide +kernel
theorem dX6_writeCases_53 : decode cX6_writeCases 53 = .ok (.iload_n 1, 1) := by decide +kernel
theorem dX6_writeCases_54 : decode cX6_writeCases 54 = .ok (.iconst 0, 1) := by decide +kernel
theorem dX6_writeCases_55 : decode cX6_writeCases 55 = .ok (.invokevirtual 138, 3) := by decide +kernel
theorem dX6_writeCases_58 : decode cX6_writeCases 58 = .ok (.imul, 1) := by decide +kernel
theorem dX6_writeCases_59 : decode cX6_writeCases 59 = .ok (.iadd, 1) := by decide +kernel
theorem dX6_writeCases_60 : decode cX6_writeCases 60 = .ok (.bipush 6, 2) := by decide +kernel
theorem dX6_writeCases_62 : decode cX6_writeCases 62 = .ok (.iadd, 1) := by decide +kernel
theorem dX6_writeCases_63 : decode cX6_writeCases 63 = .ok (.istore_n 2, 1) := by decide +kernel
theorem dX6_writeCases_64 : decode cX6_writeCases 64 = .ok (.iconst 0, 1) := by decide +kernel
theorem dX6_writeCases_65 : decode cX6_writeCases 65 = .ok (.istore_n 3, 1) := by decide +kernel
theorem dX6_writeCases_66 : decode cX6_writeCases 66 = .ok (.iload_n 3, 1) := by decide +kernel
theorem dX6_writeCases_67 : decode cX6_writeCases 67 = .ok (.aload_n 0, 1) := by decide +kernel
theorem dX6_writeCases_68 : decode cX6_writeCases 68 = .ok (.getfield 9, 3) := by decide +kernel
theorem dX6_writeCases_71 : decode cX6_writeCases 71 = .ok (.iload_n 2, 1) := by decide +kernel
theorem dX6_writeCases_72 : decode cX6_writeCases 72 = .ok (.iaload, 1) := by decide +kernel
theorem dX6_writeCases_73 : decode cX6_writeCases 73 = .ok (.if_icmp .ge 23, 3) := by decide +kernel
theorem dX6_writeCases_76 : decode cX6_writeCases 76 = .ok (.aload_n 0, 1) := by decide +kernel
theorem dX6_writeCases_77 : decode cX6_writeCases 77 = .ok (.aload_n 0, 1) := by decide +kernel
theorem dX6_writeCases_78 : decode cX6_writeCases 78 = .ok (.getfield 9, 3) := by decide +kernel
theorem dX6_writeCases_81 : decode cX6_writeCases 81 = .ok (.iload_n 2, 1) := by decide +kernel
theorem dX6_writeCases_82 : decode cX6_writeCases 82 = .ok (.iconst 1, 1) := by decide +kernel
theorem dX6_writeCases_83 : decode cX6_writeCases 83 = .ok (.iadd, 1) := by decide +kernel
theorem dX6_writeCases_84 : decode cX6_writeCases 84 = .ok (.iload_n 3, 1) := by decide +kernel
theorem dX6_writeCases_85 : decode cX6_writeCases 85 = .ok (.iadd, 1) := by decide +kernel
theorem dX6_writeCases_86 : decode cX6_writeCases 86 = .ok (.iaload, 1) := by decide +kernel
theorem dX6_writeCases_87 : decode cX6_writeCases 87 = .ok (.invokevirtual 343, 3) := by decide +kernel
theorem dX6_writeCases_90 : decode cX6_writeCases 90 = .ok (.iinc 3 1, 3) := by decide +kernel
theorem dX6_writeCases_93 : decode cX6_writeCases 93 = .ok (.goto (-27), 3) := by decide +kernel
theorem dX6_writeCases_96 : decode cX6_writeCases 96 = .ok (.aload_n 0, 1) := by decide +kernel
theorem dX6_writeCases_97 : decode cX6_writeCases 97 = .ok (.bipush 58, 2) := by decide +kernel
theorem dX6_writeCases_99 : decode cX6_writeCases 99 = .ok (.invokevirtual 343, 3) := by decide +kernel
theorem dX6_writeCases_102 : decode cX6_writeCases 102 = .ok (.aload_n 0, 1) := by decide +kernel
theorem dX6_writeCases_103 : decode cX6_writeCases 103 = .ok (.aload_n 0, 1) := by decide +kernel
theorem dX6_writeCases_104 : decode cX6_writeCases 104 = .ok (.iload_n 1, 1) := by decide +kernel
theorem dX6_writeCases_105 : decode cX6_writeCases 105 = .ok (.invokevirtual 147, 3) := by decide +kernel
theorem dX6_writeCases_108 : decode cX6_writeCases 108 = .ok (.invokevirtual 346, 3) := by decide +kernel
theorem dX6_writeCases_111 : decode cX6_writeCases 111 = .ok (.aload_n 0, 1) := by decide +kernel
theorem dX6_writeCases_112 : decode cX6_writeCases 112 = .ok (.iload_n 1, 1) := by decide +kernel
theorem dX6_writeCases_113 : decode cX6_writeCases 113 = .ok (.invokevirtual 141, 3) := by decide +kernel
theorem dX6_writeCases_116 : decode cX6_writeCases 116 = .ok (.ifCond .eq 9, 3) := by decide +kernel
theorem dX6_writeCases_119 : decode cX6_writeCases 119 = .ok (.aload_n 0, 1) := by decide +kernel
theorem dX6_writeCases_120 : decode cX6_writeCases 120 = .ok (.bipush 33, 2) := by decide +kernel
theorem dX6_writeCases_122 : decode cX6_writeCases 122 = .ok (.invokevirtual 343, 3) := by decide +kernel
theorem dX6_writeCases_125 : decode cX6_writeCases 125 = .ok (.iinc 1 1, 3) := by decide +kernel
theorem dX6_writeCases_128 : decode cX6_writeCases 128 = .ok (.goto (-116), 3) := by decide +kernel
theorem dX6_writeCases_131 : decode cX6_writeCases 131 = .ok (.aload_n 0, 1) := by decide +kernel
theorem dX6_writeCases_132 : decode cX6_writeCases 132 = .ok (.getfield 340, 3) := by decide +kernel
theorem dX6_writeCases_135 : decode cX6_writeCases 135 = .ok (.ireturn, 1) := by decide +kernel
theorem dX6_outputByte_0 : decode cX6_outputByte 0 = .ok (.aload_n 0, 1) := by decide +kernel
theorem dX6_outputByte_1 : decode cX6_outputByte 1 = .ok (.iconst 0, 1) := by decide +kernel
theorem dX6_outputByte_2 : decode cX6_outputByte 2 = .ok (.putfield 64, 3) := by decide +kernel
theorem dX6_outputByte_5 : decode cX6_outputByte 5 = .ok (.iload_n 1, 1) := by decide +kernel
theorem dX6_outputByte_6 : decode cX6_outputByte 6 = .ok (.iconst 0, 1) := by decide +kernel
theorem dX6_outputByte_7 : decode cX6_outputByte 7 = .ok (.aload_n 0, 1) := by decide +kernel
theorem dX6_outputByte_8 : decode cX6_outputByte 8 = .ok (.getfield 340, 3) := by decide +kernel
theorem dX6_outputByte_11 : decode cX6_outputByte 11 = .ok (.iconst 1, 1) := by decide +kernel
theorem dX6_outputByte_12 : decode cX6_outputByte 12 = .ok (.isub, 1) := by decide +kernel
theorem dX6_outputByte_13 : decode cX6_outputByte 13 = .ok (.invokestatic 77, 3) := by decide +kernel
theorem dX6_outputByte_16 : decode cX6_outputByte 16 = .ok (.ifCond .eq 12, 3) := by decide +kernel
theorem dX6_outputByte_19 : decode cX6_outputByte 19 = .ok (.aload_n 0, 1) := by decide +kernel
theorem dX6_outputByte_20 : decode cX6_outputByte 20 = .ok (.getfield 29, 3) := by decide +kernel
theorem dX6_outputByte_23 : decode cX6_outputByte 23 = .ok (.iload_n 1, 1) := by decide +kernel
theorem dX6_outputByte_24 : decode cX6_outputByte 24 = .ok (.iaload, 1) := by decide +kernel
theorem dX6_outputByte_25 : decode cX6_outputByte 25 = .ok (.goto 4, 3) := by decide +kernel
theorem dX6_outputByte_28 : decode cX6_outputByte 28 = .ok (.iconst (-1), 1) := by decide +kernel
theorem dX6_outputByte_29 : decode cX6_outputByte 29 = .ok (.ireturn, 1) := by decide +kernel
