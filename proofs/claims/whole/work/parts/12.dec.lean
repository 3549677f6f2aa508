theorem dX0_init_0 : decode cX0_init 0 = .ok (.aload_n 0, 1) := by decide +kernel
theorem dX0_init_1 : decode cX0_init 1 = .ok (.invokespecial 3, 3) := by decide +kernel
theorem dX0_init_4 : decode cX0_init 4 = .ok (.return_, 1) := by decide +kernel
theorem dX0_open_0 : decode cX0_open 0 = .ok (.aload_n 0, 1) := by decide +kernel
theorem dX0_open_1 : decode cX0_open 1 = .ok (.iload_n 1, 1) := by decide +kernel
theorem dX0_open_2 : decode cX0_open 2 = .ok (.putfield 9, 3) := by decide +kernel
theorem dX0_open_5 : decode cX0_open 5 = .ok (.aload_n 0, 1) := by decide +kernel
theorem dX0_open_6 : decode cX0_open 6 = .ok (.iload_n 2, 1) := by decide +kernel
theorem dX0_open_7 : decode cX0_open 7 = .ok (.putfield 15, 3) := by decide +kernel
theorem dX0_open_10 : decode cX0_open 10 = .ok (.aload_n 0, 1) := by decide +kernel
theorem dX0_open_11 : decode cX0_open 11 = .ok (.iload_n 3, 1) := by decide +kernel
theorem dX0_open_12 : decode cX0_open 12 = .ok (.putfield 18, 3) := by decide +kernel
theorem dX0_open_15 : decode cX0_open 15 = .ok (.aload_n 0, 1) := by decide +kernel
theorem dX0_open_16 : decode cX0_open 16 = .ok (.iload 4, 2) := by decide +kernel
theorem dX0_open_18 : decode cX0_open 18 = .ok (.putfield 21, 3) := by decide +kernel
theorem dX0_open_21 : decode cX0_open 21 = .ok (.aload_n 0, 1) := by decide +kernel
theorem dX0_open_22 : decode cX0_open 22 = .ok (.iconst 0, 1) := by decide +kernel
theorem dX0_open_23 : decode cX0_open 23 = .ok (.putfield 24, 3) := by decide +kernel
theorem dX0_open_26 : decode cX0_open 26 = .ok (.aload_n 0, 1) := by decide +kernel
theorem dX0_open_27 : decode cX0_open 27 = .ok (.sipush 6000, 3) := by decide +kernel
theorem dX0_open_30 : decode cX0_open 30 = .ok (.putfield 27, 3) := by decide +kernel
theorem dX0_open_33 : decode cX0_open 33 = .ok (.aload_n 0, 1) := by decide +kernel
theorem dX0_open_34 : decode cX0_open 34 = .ok (.iconst (-1), 1) := by decide +kernel
theorem dX0_open_35 : decode cX0_open 35 = .ok (.putfield 30, 3) := by decide +kernel
theorem dX0_open_38 : decode cX0_open 38 = .ok (.return_, 1) := by decide +kernel
theorem dX0_overdueAt_0 : decode cX0_overdueAt 0 = .ok (.aload_n 0, 1) := by decide +kernel
theorem dX0_overdueAt_1 : decode cX0_overdueAt 1 = .ok (.getfield 24, 3) := by decide +kernel
theorem dX0_overdueAt_4 : decode cX0_overdueAt 4 = .ok (.iconst 4, 1) := by decide +kernel
theorem dX0_overdueAt_5 : decode cX0_overdueAt 5 = .ok (.if_icmp .eq 19, 3) := by decide +kernel
theorem dX0_overdueAt_8 : decode cX0_overdueAt 8 = .ok (.iload_n 1, 1) := by decide +kernel
theorem dX0_overdueAt_9 : decode cX0_overdueAt 9 = .ok (.aload_n 0, 1) := by decide +kernel
theorem dX0_overdueAt_10 : decode cX0_overdueAt 10 = .ok (.getfield 18, 3) := by decide +kernel
theorem dX0_overdueAt_13 : decode cX0_overdueAt 13 = .ok (.sipush 20160, 3) := by decide +kernel
theorem dX0_overdueAt_16 : decode cX0_overdueAt 16 = .ok (.iadd, 1) := by decide +kernel
theorem dX0_overdueAt_17 : decode cX0_overdueAt 17 = .ok (.if_icmp .le 7, 3) := by decide +kernel
theorem dX0_overdueAt_20 : decode cX0_overdueAt 20 = .ok (.iconst 1, 1) := by decide +kernel
theorem dX0_overdueAt_21 : decode cX0_overdueAt 21 = .ok (.goto 4, 3) := by decide +kernel
theorem dX0_overdueAt_24 : decode cX0_overdueAt 24 = .ok (.iconst 0, 1) := by decide +kernel
theorem dX0_overdueAt_25 : decode cX0_overdueAt 25 = .ok (.ireturn, 1) := by decide +kernel
theorem dX0_costAt_0 : decode cX0_costAt 0 = .ok (.aload_n 0, 1) := by decide +kernel
theorem dX0_costAt_1 : decode cX0_costAt 1 = .ok (.getfield 24, 3) := by decide +kernel
theorem dX0_costAt_4 : decode cX0_costAt 4 = .ok (.iconst 4, 1) := by decide +kernel
theorem dX0_costAt_5 : decode cX0_costAt 5 = .ok (.if_icmp .ne 5, 3) := by decide +kernel
theorem dX0_costAt_8 : decode cX0_costAt 8 = .ok (.iconst 0, 1) := by decide +kernel
theorem dX0_costAt_9 : decode cX0_costAt 9 = .ok (.ireturn, 1) := by decide +kernel
theorem dX0_costAt_10 : decode cX0_costAt 10 = .ok (.aload_n 0, 1) := by decide +kernel
theorem dX0_costAt_11 : decode cX0_costAt 11 = .ok (.iload_n 1, 1) := by decide +kernel
theorem dX0_costAt_12 : decode cX0_costAt 12 = .ok (.invokevirtual 33, 3) := by decide +kernel
theorem dX0_costAt_15 : decode cX0_costAt 15 = .ok (.ifCond .eq 14, 3) := by decide +kernel
theorem dX0_costAt_18 : decode cX0_costAt 18 = .ok (.aload_n 0, 1) := by decide +kernel
theorem dX0_costAt_19 : decode cX0_costAt 19 = .ok (.getfield 27, 3) := by decide +kernel
theorem dX0_costAt_22 : decode cX0_costAt 22 = .ok (.sipush 1500, 3) := by decide +kernel
theorem dX0_costAt_25 : decode cX0_costAt 25 = .ok (.iadd, 1) := by decide +kernel
theorem dX0_costAt_26 : decode cX0_costAt 26 = .ok (.goto 7, 3) := by decide +kernel
theorem dX0_costAt_29 : decode cX0_costAt 29 = .ok (.aload_n 0, 1) := by decide +kernel
theorem dX0_costAt_30 : decode cX0_costAt 30 = .ok (.getfield 27, 3) := by decide +kernel
theorem dX0_costAt_33 : decode cX0_costAt 33 = .ok (.ireturn, 1) := by decide +kernel
theorem dX4_isStamped_0 : decode cX4_isStamped 0 = .ok (.aload_n 0, 1) := by decide +kernel
theorem dX4_isStamped_1 : decode cX4_isStamped 1 = .ok (.getfield 21, 3) := by decide +kernel
theorem dX4_isStamped_4 : decode cX4_isStamped 4 = .ok (.iconst (-1), 1) := by decide +kernel
theorem dX4_isStamped_5 : decode cX4_isStamped 5 = .ok (.if_icmp .eq 7, 3) := by decide +kernel
theorem dX4_isStamped_8 : decode cX4_isStamped 8 = .ok (.iconst 1, 1) := by decide +kernel
theorem dX4_isStamped_9 : decode cX4_isStamped 9 = .ok (.goto 4, 3) := by decide +kernel
theorem dX4_isStamped_12 : decode cX4_isStamped 12 = .ok (.iconst 0, 1) := by decide +kernel
theorem dX4_isStamped_13 : decode cX4_isStamped 13 = .ok (.ireturn, 1) := by decide +kernel
theorem dX5_dayOf_0 : decode cX5_dayOf 0 = .ok (.iload_n 0, 1) := by decide +kernel
theorem dX5_dayOf_1 : decode cX5_dayOf 1 = .ok (.sipush 1440, 3) := by decide +kernel
theorem dX5_dayOf_4 : decode cX5_dayOf 4 = .ok (.idiv, 1) := by decide +kernel
theorem dX5_dayOf_5 : decode cX5_dayOf 5 = .ok (.ireturn, 1) := by decide +kernel
theorem dX4_hasZones_0 : decode cX4_hasZones 0 = .ok (.iload_n 1, 1) := by decide +kernel
theorem dX4_hasZones_1 : decode cX4_hasZones 1 = .ok (.aload_n 0, 1) := by decide +kernel
theorem dX4_hasZones_2 : decode cX4_hasZones 2 = .ok (.getfield 18, 3) := by decide +kernel
theorem dX4_hasZones_5 : decode cX4_hasZones 5 = .ok (.iconst (-1), 1) := by decide +kernel
theorem dX4_hasZones_6 : decode cX4_hasZones 6 = .ok (.ixor, 1) := by decide +kernel
theorem dX4_hasZones_7 : decode cX4_hasZones 7 = .ok (.iand, 1) := by decide +kernel
theorem dX4_hasZones_8 : decode cX4_hasZones 8 = .ok (.ifCond .ne 7, 3) := by decide +kernel
theorem dX4_hasZones_11 : decode cX4_hasZones 11 = .ok (.iconst 1, 1) := by decide +kernel
theorem dX4_hasZones_12 : decode cX4_hasZones 12 = .ok (.goto 4, 3) := by decide +kernel
theorem dX4_hasZones_15 : decode cX4_hasZones 15 = .ok (.iconst 0, 1) := by decide +kernel
theorem dX4_hasZones_16 : decode cX4_hasZones 16 = .ok (.ireturn, 1) := by decide +kernel
theorem dX0_isExcusedBy_0 : decode cX0_isExcusedBy 0 = .ok (.aload_n 1, 1) := by decide +kernel
theorem dX0_isExcusedBy_1 : decode cX0_isExcusedBy 1 = .ok (.getfield 37, 3) := by decide +kernel
theorem dX0_isExcusedBy_4 : decode cX0_isExcusedBy 4 = .ok (.aload_n 0, 1) := by decide +kernel
theorem dX0_isExcusedBy_5 : decode cX0_isExcusedBy 5 = .ok (.getfield 9, 3) := by decide +kernel
theorem dX0_isExcusedBy_8 : decode cX0_isExcusedBy 8 = .ok (.if_icmp .ne 61, 3) := by decide +kernel
theorem dX0_isExcusedBy_11 : decode cX0_isExcusedBy 11 = .ok (.aload_n 1, 1) := by decide +kernel
theorem dX0_isExcusedBy_12 : decode cX0_isExcusedBy 12 = .ok (.getfield 42, 3) := by decide +kernel
theorem dX0_isExcusedBy_15 : decode cX0_isExcusedBy 15 = .ok (.iconst 1, 1) := by decide +kernel
theorem dX0_isExcusedBy_16 : decode cX0_isExcusedBy 16 = .ok (.if_icmp .ne 53, 3) := by decide +kernel
theorem dX0_isExcusedBy_19 : decode cX0_isExcusedBy 19 = .ok (.aload_n 1, 1) := by decide +kernel
theorem dX0_isExcusedBy_20 : decode cX0_isExcusedBy 20 = .ok (.invokevirtual 45, 3) := by decide +kernel
theorem dX0_isExcusedBy_23 : decode cX0_isExcusedBy 23 = .ok (.ifCond .eq 46, 3) := by decide +kernel
theorem dX0_isExcusedBy_26 : decode cX0_isExcusedBy 26 = .ok (.aload_n 1, 1) := by decide +kernel
theorem dX0_isExcusedBy_27 : decode cX0_isExcusedBy 27 = .ok (.getfield 49, 3) := by decide +kernel
theorem dX0_isExcusedBy_30 : decode cX0_isExcusedBy 30 = .ok (.aload_n 0, 1) := by decide +kernel
theorem dX0_isExcusedBy_31 : decode cX0_isExcusedBy 31 = .ok (.getfield 18, 3) := by decide +kernel
theorem dX0_isExcusedBy_34 : decode cX0_isExcusedBy 34 = .ok (.if_icmp .gt 35, 3) := by decide +kernel
theorem dX0_isExcusedBy_37 : decode cX0_isExcusedBy 37 = .ok (.aload_n 1, 1) := by decide +kernel
theorem dX0_isExcusedBy_38 : decode cX0_isExcusedBy 38 = .ok (.getfield 49, 3) := by decide +kernel
theorem dX0_isExcusedBy_41 : decode cX0_isExcusedBy 41 = .ok (.invokestatic 52, 3) := by decide +kernel
theorem dX0_isExcusedBy_44 : decode cX0_isExcusedBy 44 = .ok (.aload_n 0, 1) := by decide +kernel
theorem dX0_isExcusedBy_45 : decode cX0_isExcusedBy 45 = .ok (.getfield 18, 3) := by decide +kernel
theorem dX0_isExcusedBy_48 : decode cX0_isExcusedBy 48 = .ok (.invokestatic 52, 3) := by decide +kernel
theorem dX0_isExcusedBy_51 : decode cX0_isExcusedBy 51 = .ok (.if_icmp .ne 18, 3) := by decide +kernel
theorem dX0_isExcusedBy_54 : decode cX0_isExcusedBy 54 = .ok (.aload_n 1, 1) := by decide +kernel
theorem dX0_isExcusedBy_55 : decode cX0_isExcusedBy 55 = .ok (.aload_n 0, 1) := by decide +kernel
theorem dX0_isExcusedBy_56 : decode cX0_isExcusedBy 56 = .ok (.getfield 21, 3) := by decide +kernel
theorem dX0_isExcusedBy_59 : decode cX0_isExcusedBy 59 = .ok (.invokevirtual 56, 3) := by decide +kernel
theorem dX0_isExcusedBy_62 : decode cX0_isExcusedBy 62 = .ok (.ifCond .eq 7, 3) := by decide +kernel
theorem dX0_isExcusedBy_65 : decode cX0_isExcusedBy 65 = .ok (.iconst 1, 1) := by decide +kernel
theorem dX0_isExcusedBy_66 : decode cX0_isExcusedBy 66 = .ok (.goto 4, 3) := by decide +kernel
theorem dX0_isExcusedBy_69 : decode cX0_isExcusedBy 69 = .ok (.iconst 0, 1) := by decide +kernel
theorem dX0_isExcusedBy_70 : decode cX0_isExcusedBy 70 = .ok (.ireturn, 1) := by decide +kernel
theorem dX0_copyFrom_0 : decode cX0_copyFrom 0 = .ok (.aload_n 0, 1) := by decide +kernel
theorem dX0_copyFrom_1 : decode cX0_copyFrom 1 = .ok (.aload_n 1, 1) := by decide +kernel
theorem dX0_copyFrom_2 : decode cX0_copyFrom 2 = .ok (.getfield 9, 3) := by decide +kernel
theorem dX0_copyFrom_5 : decode cX0_copyFrom 5 = .ok (.putfield 9, 3) := by decide +kernel
theorem dX0_copyFrom_8 : decode cX0_copyFrom 8 = .ok (.aload_n 0, 1) := by decide +kernel
theorem dX0_copyFrom_9 : decode cX0_copyFrom 9 = .ok (.aload_n 1, 1) := by decide +kernel
theorem dX0_copyFrom_10 : decode cX0_copyFrom 10 = .ok (.getfield 15, 3) := by decide +kernel
theorem dX0_copyFrom_13 : decode cX0_copyFrom 13 = .ok (.putfield 15, 3) := by decide +kernel
theorem dX0_copyFrom_16 : decode cX0_copyFrom 16 = .ok (.aload_n 0, 1) := by decide +kernel
theorem dX0_copyFrom_17 : decode cX0_copyFrom 17 = .ok (.aload_n 1, 1) := by decide +kernel
theorem dX0_copyFrom_18 : decode cX0_copyFrom 18 = .ok (.getfield 18, 3) := by decide +kernel
theorem dX0_copyFrom_21 : decode cX0_copyFrom 21 = .ok (.putfield 18, 3) := by decide +kernel
theorem dX0_copyFrom_24 : decode cX0_copyFrom 24 = .ok (.aload_n 0, 1) := by decide +kernel
theorem dX0_copyFrom_25 : decode cX0_copyFrom 25 = .ok (.aload_n 1, 1) := by decide +kernel
theorem dX0_copyFrom_26 : decode cX0_copyFrom 26 = .ok (.getfield 21, 3) := by decide +kernel
theorem dX0_copyFrom_29 : decode cX0_copyFrom 29 = .ok (.putfield 21, 3) := by decide +kernel
theorem dX0_copyFrom_32 : decode cX0_copyFrom 32 = .ok (.aload_n 0, 1) := by decide +kernel
theorem dX0_copyFrom_33 : decode cX0_copyFrom 33 = .ok (.aload_n 1, 1) := by decide +kernel
theorem dX0_copyFrom_34 : decode cX0_copyFrom 34 = .ok (.getfield 24, 3) := by decide +kernel
theorem dX0_copyFrom_37 : decode cX0_copyFrom 37 = .ok (.putfield 24, 3) := by decide +kernel
theorem dX0_copyFrom_40 : decode cX0_copyFrom 40 = .ok (.aload_n 0, 1) := by decide +kernel
theorem dX0_copyFrom_41 : decode cX0_copyFrom 41 = .ok (.aload_n 1, 1) := by decide +kernel
theorem dX0_copyFrom_42 : decode cX0_copyFrom 42 = .ok (.getfield 27, 3) := by decide +kernel
theorem dX0_copyFrom_45 : decode cX0_copyFrom 45 = .ok (.putfield 27, 3) := by decide +kernel
theorem dX0_copyFrom_48 : decode cX0_copyFrom 48 = .ok (.aload_n 0, 1) := by decide +kernel
theorem dX0_copyFrom_49 : decode cX0_copyFrom 49 = .ok (.aload_n 1, 1) := by decide +kernel
theorem dX0_copyFrom_50 : decode cX0_copyFrom 50 = .ok (.getfield 30, 3) := by decide +kernel
theorem dX0_copyFrom_53 : decode cX0_copyFrom 53 = .ok (.putfield 30, 3) := by decide +kernel
theorem dX0_copyFrom_56 : decode cX0_copyFrom 56 = .ok (.return_, 1) := by decide +kernel
theorem dX2_init_0 : decode cX2_init 0 = .ok (.aload_n 0, 1) := by decide +kernel
theorem dX2_init_1 : decode cX2_init 1 = .ok (.invokespecial 3, 3) := by decide +kernel
theorem dX2_init_4 : decode cX2_init 4 = .ok (.aload_n 0, 1) := by decide +kernel
theorem dX2_init_5 : decode cX2_init 5 = .ok (.ldc 9, 2) := by decide +kernel
theorem dX2_init_7 : decode cX2_init 7 = .ok (.putfield 11, 3) := by decide +kernel
theorem dX2_init_10 : decode cX2_init 10 = .ok (.aload_n 0, 1) := by decide +kernel
theorem dX2_init_11 : decode cX2_init 11 = .ok (.iconst (-1), 1) := by decide +kernel
theorem dX2_init_12 : decode cX2_init 12 = .ok (.putfield 17, 3) := by decide +kernel
theorem dX2_init_15 : decode cX2_init 15 = .ok (.aload_n 0, 1) := by decide +kernel
theorem dX2_init_16 : decode cX2_init 16 = .ok (.iconst (-1), 1) := by decide +kernel
theorem dX2_init_17 : decode cX2_init 17 = .ok (.putfield 21, 3) := by decide +kernel
theorem dX2_init_20 : decode cX2_init 20 = .ok (.aload_n 0, 1) := by decide +kernel
theorem dX2_init_21 : decode cX2_init 21 = .ok (.iconst (-1), 1) := by decide +kernel
theorem dX2_init_22 : decode cX2_init 22 = .ok (.putfield 24, 3) := by decide +kernel
theorem dX2_init_25 : decode cX2_init 25 = .ok (.aload_n 0, 1) := by decide +kernel
theorem dX2_init_26 : decode cX2_init 26 = .ok (.iconst (-1), 1) := by decide +kernel
theorem dX2_init_27 : decode cX2_init 27 = .ok (.putfield 27, 3) := by decide +kernel
theorem dX2_init_30 : decode cX2_init 30 = .ok (.return_, 1) := by decide +kernel
theorem dX2_takeRide_0 : decode cX2_takeRide 0 = .ok (.aload_n 0, 1) := by decide +kernel
theorem dX2_takeRide_1 : decode cX2_takeRide 1 = .ok (.iload_n 1, 1) := by decide +kernel
theorem dX2_takeRide_2 : decode cX2_takeRide 2 = .ok (.putfield 17, 3) := by decide +kernel
theorem dX2_takeRide_5 : decode cX2_takeRide 5 = .ok (.aload_n 0, 1) := by decide +kernel
theorem dX2_takeRide_6 : decode cX2_takeRide 6 = .ok (.iload_n 2, 1) := by decide +kernel
theorem dX2_takeRide_7 : decode cX2_takeRide 7 = .ok (.putfield 21, 3) := by decide +kernel
theorem dX2_takeRide_10 : decode cX2_takeRide 10 = .ok (.aload_n 0, 1) := by decide +kernel
theorem dX2_takeRide_11 : decode cX2_takeRide 11 = .ok (.iload_n 3, 1) := by decide +kernel
theorem dX2_takeRide_12 : decode cX2_takeRide 12 = .ok (.putfield 24, 3) := by decide +kernel
theorem dX2_takeRide_15 : decode cX2_takeRide 15 = .ok (.aload_n 0, 1) := by decide +kernel
theorem dX2_takeRide_16 : decode cX2_takeRide 16 = .ok (.iload 4, 2) := by decide +kernel
theorem dX2_takeRide_18 : decode cX2_takeRide 18 = .ok (.putfield 27, 3) := by decide +kernel
theorem dX2_takeRide_21 : decode cX2_takeRide 21 = .ok (.aload_n 0, 1) := by decide +kernel
theorem dX2_takeRide_22 : decode cX2_takeRide 22 = .ok (.iconst 0, 1) := by decide +kernel
theorem dX2_takeRide_23 : decode cX2_takeRide 23 = .ok (.putfield 37, 3) := by decide +kernel
theorem dX2_takeRide_26 : decode cX2_takeRide 26 = .ok (.return_, 1) := by decide +kernel
theorem dX2_enter_0 : decode cX2_enter 0 = .ok (.aload_n 0, 1) := by decide +kernel
theorem dX2_enter_1 : decode cX2_enter 1 = .ok (.aload_n 1, 1) := by decide +kernel
theorem dX2_enter_2 : decode cX2_enter 2 = .ok (.putfield 11, 3) := by decide +kernel
theorem dX2_enter_5 : decode cX2_enter 5 = .ok (.aload_n 0, 1) := by decide +kernel
theorem dX2_enter_6 : decode cX2_enter 6 = .ok (.iload_n 2, 1) := by decide +kernel
theorem dX2_enter_7 : decode cX2_enter 7 = .ok (.putfield 30, 3) := by decide +kernel
theorem dX2_enter_10 : decode cX2_enter 10 = .ok (.aload_n 0, 1) := by decide +kernel
theorem dX2_enter_11 : decode cX2_enter 11 = .ok (.iconst (-1), 1) := by decide +kernel
theorem dX2_enter_12 : decode cX2_enter 12 = .ok (.iconst (-1), 1) := by decide +kernel
theorem dX2_enter_13 : decode cX2_enter 13 = .ok (.iconst (-1), 1) := by decide +kernel
theorem dX2_enter_14 : decode cX2_enter 14 = .ok (.iconst (-1), 1) := by decide +kernel
theorem dX2_enter_15 : decode cX2_enter 15 = .ok (.invokevirtual 33, 3) := by decide +kernel
theorem dX2_enter_18 : decode cX2_enter 18 = .ok (.return_, 1) := by decide +kernel
theorem dX2_isOnTram_0 : decode cX2_isOnTram 0 = .ok (.iload_n 1, 1) := by decide +kernel
theorem dX2_isOnTram_1 : decode cX2_isOnTram 1 = .ok (.aload_n 0, 1) := by decide +kernel
theorem dX2_isOnTram_2 : decode cX2_isOnTram 2 = .ok (.getfield 24, 3) := by decide +kernel
theorem dX2_isOnTram_5 : decode cX2_isOnTram 5 = .ok (.if_icmp .ge 7, 3) := by decide +kernel
theorem dX2_isOnTram_8 : decode cX2_isOnTram 8 = .ok (.iconst 1, 1) := by decide +kernel
theorem dX2_isOnTram_9 : decode cX2_isOnTram 9 = .ok (.goto 4, 3) := by decide +kernel
theorem dX2_isOnTram_12 : decode cX2_isOnTram 12 = .ok (.iconst 0, 1) := by decide +kernel
theorem dX2_isOnTram_13 : decode cX2_isOnTram 13 = .ok (.ireturn, 1) := by decide +kernel
theorem dX2_copyFrom_0 : decode cX2_copyFrom 0 = .ok (.aload_n 0, 1) := by decide +kernel
theorem dX2_copyFrom_1 : decode cX2_copyFrom 1 = .ok (.aload_n 1, 1) := by decide +kernel
theorem dX2_copyFrom_2 : decode cX2_copyFrom 2 = .ok (.getfield 11, 3) := by decide +kernel
theorem dX2_copyFrom_5 : decode cX2_copyFrom 5 = .ok (.putfield 11, 3) := by decide +kernel
theorem dX2_copyFrom_8 : decode cX2_copyFrom 8 = .ok (.aload_n 0, 1) := by decide +kernel
theorem dX2_copyFrom_9 : decode cX2_copyFrom 9 = .ok (.aload_n 1, 1) := by decide +kernel
theorem dX2_copyFrom_10 : decode cX2_copyFrom 10 = .ok (.getfield 30, 3) := by decide +kernel
theorem dX2_copyFrom_13 : decode cX2_copyFrom 13 = .ok (.putfield 30, 3) := by decide +kernel
theorem dX2_copyFrom_16 : decode cX2_copyFrom 16 = .ok (.aload_n 0, 1) := by decide +kernel
theorem dX2_copyFrom_17 : decode cX2_copyFrom 17 = .ok (.aload_n 1, 1) := by decide +kernel
theorem dX2_copyFrom_18 : decode cX2_copyFrom 18 = .ok (.getfield 17, 3) := by decide +kernel
theorem dX2_copyFrom_21 : decode cX2_copyFrom 21 = .ok (.aload_n 1, 1) := by decide +kernel
theorem dX2_copyFrom_22 : decode cX2_copyFrom 22 = .ok (.getfield 21, 3) := by decide +kernel
theorem dX2_copyFrom_25 : decode cX2_copyFrom 25 = .ok (.aload_n 1, 1) := by decide +kernel
theorem dX2_copyFrom_26 : decode cX2_copyFrom 26 = .ok (.getfield 24, 3) := by decide +kernel
theorem dX2_copyFrom_29 : decode cX2_copyFrom 29 = .ok (.aload_n 1, 1) := by decide +kernel
theorem dX2_copyFrom_30 : decode cX2_copyFrom 30 = .ok (.getfield 27, 3) := by decide +kernel
theorem dX2_copyFrom_33 : decode cX2_copyFrom 33 = .ok (.invokevirtual 33, 3) := by decide +kernel
theorem dX2_copyFrom_36 : decode cX2_copyFrom 36 = .ok (.aload_n 0, 1) := by decide +kernel
theorem dX2_copyFrom_37 : decode cX2_copyFrom 37 = .ok (.aload_n 1, 1) := by decide +kernel
theorem dX2_copyFrom_38 : decode cX2_copyFrom 38 = .ok (.getfield 37, 3) := by decide +kernel
theorem dX2_copyFrom_41 : decode cX2_copyFrom 41 = .ok (.putfield 37, 3) := by decide +kernel
theorem dX2_copyFrom_44 : decode cX2_copyFrom 44 = .ok (.return_, 1) := by decide +kernel
theorem dX4_init_0 : decode cX4_init 0 = .ok (.aload_n 0, 1) := by decide +kernel
theorem dX4_init_1 : decode cX4_init 1 = .ok (.invokespecial 3, 3) := by decide +kernel
theorem dX4_init_4 : decode cX4_init 4 = .ok (.return_, 1) := by decide +kernel
theorem dX4_issue_0 : decode cX4_issue 0 = .ok (.aload_n 0, 1) := by decide +kernel
theorem dX4_issue_1 : decode cX4_issue 1 = .ok (.iload_n 1, 1) := by decide +kernel
theorem dX4_issue_2 : decode cX4_issue 2 = .ok (.putfield 9, 3) := by decide +kernel
theorem dX4_issue_5 : decode cX4_issue 5 = .ok (.aload_n 0, 1) := by decide +kernel
theorem dX4_issue_6 : decode cX4_issue 6 = .ok (.iload_n 2, 1) := by decide +kernel
theorem dX4_issue_7 : decode cX4_issue 7 = .ok (.putfield 15, 3) := by decide +kernel
theorem dX4_issue_10 : decode cX4_issue 10 = .ok (.aload_n 0, 1) := by decide +kernel
theorem dX4_issue_11 : decode cX4_issue 11 = .ok (.iload_n 3, 1) := by decide +kernel
theorem dX4_issue_12 : decode cX4_issue 12 = .ok (.putfield 18, 3) := by decide +kernel
theorem dX4_issue_15 : decode cX4_issue 15 = .ok (.aload_n 0, 1) := by decide +kernel
theorem dX4_issue_16 : decode cX4_issue 16 = .ok (.iconst (-1), 1) := by decide +kernel
theorem dX4_issue_17 : decode cX4_issue 17 = .ok (.putfield 21, 3) := by decide +kernel
theorem dX4_issue_20 : decode cX4_issue 20 = .ok (.aload_n 0, 1) := by decide +kernel
theorem dX4_issue_21 : decode cX4_issue 21 = .ok (.iconst (-1), 1) := by decide +kernel
theorem dX4_issue_22 : decode cX4_issue 22 = .ok (.putfield 24, 3) := by decide +kernel
theorem dX4_issue_25 : decode cX4_issue 25 = .ok (.aload_n 0, 1) := by decide +kernel
theorem dX4_issue_26 : decode cX4_issue 26 = .ok (.iconst 0, 1) := by decide +kernel
theorem dX4_issue_27 : decode cX4_issue 27 = .ok (.putfield 27, 3) := by decide +kernel
theorem dX4_issue_30 : decode cX4_issue 30 = .ok (.return_, 1) := by decide +kernel
theorem dX4_useForRide_0 : decode cX4_useForRide 0 = .ok (.aload_n 0, 1) := by decide +kernel
theorem dX4_useForRide_1 : decode cX4_useForRide 1 = .ok (.invokevirtual 30, 3) := by decide +kernel
theorem dX4_useForRide_4 : decode cX4_useForRide 4 = .ok (.ifCond .ne 13, 3) := by decide +kernel
theorem dX4_useForRide_7 : decode cX4_useForRide 7 = .ok (.aload_n 0, 1) := by decide +kernel
theorem dX4_useForRide_8 : decode cX4_useForRide 8 = .ok (.iload_n 1, 1) := by decide +kernel
theorem dX4_useForRide_9 : decode cX4_useForRide 9 = .ok (.putfield 21, 3) := by decide +kernel
theorem dX4_useForRide_12 : decode cX4_useForRide 12 = .ok (.aload_n 0, 1) := by decide +kernel
theorem dX4_useForRide_13 : decode cX4_useForRide 13 = .ok (.iload_n 2, 1) := by decide +kernel
theorem dX4_useForRide_14 : decode cX4_useForRide 14 = .ok (.putfield 24, 3) := by decide +kernel
theorem dX4_useForRide_17 : decode cX4_useForRide 17 = .ok (.aload_n 0, 1) := by decide +kernel
theorem dX4_useForRide_18 : decode cX4_useForRide 18 = .ok (.dup, 1) := by decide +kernel
theorem dX4_useForRide_19 : decode cX4_useForRide 19 = .ok (.getfield 27, 3) := by decide +kernel
theorem dX4_useForRide_22 : decode cX4_useForRide 22 = .ok (.iconst 1, 1) := by decide +kernel
theorem dX4_useForRide_23 : decode cX4_useForRide 23 = .ok (.iadd, 1) := by decide +kernel
theorem dX4_useForRide_24 : decode cX4_useForRide 24 = .ok (.putfield 27, 3) := by decide +kernel
theorem dX4_useForRide_27 : decode cX4_useForRide 27 = .ok (.return_, 1) := by decide +kernel
theorem dJ6_bitCount_0f7a4_0 : decode cJ6_bitCount_0f7a4 0 = .ok (.iload_n 0, 1) := by decide +kernel
theorem dJ6_bitCount_0f7a4_1 : decode cJ6_bitCount_0f7a4 1 = .ok (.iload_n 0, 1) := by decide +kernel
theorem dJ6_bitCount_0f7a4_2 : decode cJ6_bitCount_0f7a4 2 = .ok (.iconst 1, 1) := by decide +kernel
theorem dJ6_bitCount_0f7a4_3 : decode cJ6_bitCount_0f7a4 3 = .ok (.iushr, 1) := by decide +kernel
theorem dJ6_bitCount_0f7a4_4 : decode cJ6_bitCount_0f7a4 4 = .ok (.ldc_w 265, 3) := by decide +kernel
theorem dJ6_bitCount_0f7a4_7 : decode cJ6_bitCount_0f7a4 7 = .ok (.iand, 1) := by decide +kernel
theorem dJ6_bitCount_0f7a4_8 : decode cJ6_bitCount_0f7a4 8 = .ok (.isub, 1) := by decide +kernel
theorem dJ6_bitCount_0f7a4_9 : decode cJ6_bitCount_0f7a4 9 = .ok (.istore_n 0, 1) := by decide +kernel
theorem dJ6_bitCount_0f7a4_10 : decode cJ6_bitCount_0f7a4 10 = .ok (.iload_n 0, 1) := by decide +kernel
theorem dJ6_bitCount_0f7a4_11 : decode cJ6_bitCount_0f7a4 11 = .ok (.ldc_w 266, 3) := by decide +kernel
theorem dJ6_bitCount_0f7a4_14 : decode cJ6_bitCount_0f7a4 14 = .ok (.iand, 1) := by decide +kernel
theorem dJ6_bitCount_0f7a4_15 : decode cJ6_bitCount_0f7a4 15 = .ok (.iload_n 0, 1) := by decide +kernel
theorem dJ6_bitCount_0f7a4_16 : decode cJ6_bitCount_0f7a4 16 = .ok (.iconst 2, 1) := by decide +kernel
theorem dJ6_bitCount_0f7a4_17 : decode cJ6_bitCount_0f7a4 17 = .ok (.iushr, 1) := by decide +kernel
theorem dJ6_bitCount_0f7a4_18 : decode cJ6_bitCount_0f7a4 18 = .ok (.ldc_w 266, 3) := by decide +kernel
theorem dJ6_bitCount_0f7a4_21 : decode cJ6_bitCount_0f7a4 21 = .ok (.iand, 1) := by decide +kernel
theorem dJ6_bitCount_0f7a4_22 : decode cJ6_bitCount_0f7a4 22 = .ok (.iadd, 1) := by decide +kernel
theorem dJ6_bitCount_0f7a4_23 : decode cJ6_bitCount_0f7a4 23 = .ok (.istore_n 0, 1) := by decide +kernel
theorem dJ6_bitCount_0f7a4_24 : decode cJ6_bitCount_0f7a4 24 = .ok (.iload_n 0, 1) := by decide +kernel
theorem dJ6_bitCount_0f7a4_25 : decode cJ6_bitCount_0f7a4 25 = .ok (.iload_n 0, 1) := by decide +kernel
theorem dJ6_bitCount_0f7a4_26 : decode cJ6_bitCount_0f7a4 26 = .ok (.iconst 4, 1) := by decide +kernel
theorem dJ6_bitCount_0f7a4_27 : decode cJ6_bitCount_0f7a4 27 = .ok (.iushr, 1) := by decide +kernel
theorem dJ6_bitCount_0f7a4_28 : decode cJ6_bitCount_0f7a4 28 = .ok (.iadd, 1) := by decide +kernel
theorem dJ6_bitCount_0f7a4_29 : decode cJ6_bitCount_0f7a4 29 = .ok (.ldc_w 267, 3) := by decide +kernel
theorem dJ6_bitCount_0f7a4_32 : decode cJ6_bitCount_0f7a4 32 = .ok (.iand, 1) := by decide +kernel
theorem dJ6_bitCount_0f7a4_33 : decode cJ6_bitCount_0f7a4 33 = .ok (.istore_n 0, 1) := by decide +kernel
theorem dJ6_bitCount_0f7a4_34 : decode cJ6_bitCount_0f7a4 34 = .ok (.iload_n 0, 1) := by decide +kernel
theorem dJ6_bitCount_0f7a4_35 : decode cJ6_bitCount_0f7a4 35 = .ok (.iload_n 0, 1) := by decide +kernel
theorem dJ6_bitCount_0f7a4_36 : decode cJ6_bitCount_0f7a4 36 = .ok (.bipush 8, 2) := by decide +kernel
theorem dJ6_bitCount_0f7a4_38 : decode cJ6_bitCount_0f7a4 38 = .ok (.iushr, 1) := by decide +kernel
theorem dJ6_bitCount_0f7a4_39 : decode cJ6_bitCount_0f7a4 39 = .ok (.iadd, 1) := by decide +kernel
theorem dJ6_bitCount_0f7a4_40 : decode cJ6_bitCount_0f7a4 40 = .ok (.istore_n 0, 1) := by decide +kernel
theorem dJ6_bitCount_0f7a4_41 : decode cJ6_bitCount_0f7a4 41 = .ok (.iload_n 0, 1) := by decide +kernel
theorem dJ6_bitCount_0f7a4_42 : decode cJ6_bitCount_0f7a4 42 = .ok (.iload_n 0, 1) := by decide +kernel
theorem dJ6_bitCount_0f7a4_43 : decode cJ6_bitCount_0f7a4 43 = .ok (.bipush 16, 2) := by decide +kernel
theorem dJ6_bitCount_0f7a4_45 : decode cJ6_bitCount_0f7a4 45 = .ok (.iushr, 1) := by decide +kernel
theorem dJ6_bitCount_0f7a4_46 : decode cJ6_bitCount_0f7a4 46 = .ok (.iadd, 1) := by decide +kernel
theorem dJ6_bitCount_0f7a4_47 : decode cJ6_bitCount_0f7a4 47 = .ok (.istore_n 0, 1) := by decide +kernel
theorem dJ6_bitCount_0f7a4_48 : decode cJ6_bitCount_0f7a4 48 = .ok (.iload_n 0, 1) := by decide +kernel
theorem dJ6_bitCount_0f7a4_49 : decode cJ6_bitCount_0f7a4 49 = .ok (.bipush 63, 2) := by decide +kernel
theorem dJ6_bitCount_0f7a4_51 : decode cJ6_bitCount_0f7a4 51 = .ok (.iand, 1) := by decide +kernel
theorem dJ6_bitCount_0f7a4_52 : decode cJ6_bitCount_0f7a4 52 = .ok (.ireturn, 1) := by decide +kernel
theorem dX5_priceOf_0 : decode cX5_priceOf 0 = .ok (.iload_n 0, 1) := by decide +kernel
theorem dX5_priceOf_1 : decode cX5_priceOf 1 = .ok (.iconst 2, 1) := by decide +kernel
theorem dX5_priceOf_2 : decode cX5_priceOf 2 = .ok (.if_icmp .ne 7, 3) := by decide +kernel
theorem dX5_priceOf_5 : decode cX5_priceOf 5 = .ok (.sipush 150, 3) := by decide +kernel
theorem dX5_priceOf_8 : decode cX5_priceOf 8 = .ok (.ireturn, 1) := by decide +kernel
theorem dX5_priceOf_9 : decode cX5_priceOf 9 = .ok (.iload_n 1, 1) := by decide +kernel
theorem dX5_priceOf_10 : decode cX5_priceOf 10 = .ok (.invokestatic 380, 3) := by decide +kernel
theorem dX5_priceOf_13 : decode cX5_priceOf 13 = .ok (.iload_n 0, 1) := by decide +kernel
theorem dX5_priceOf_14 : decode cX5_priceOf 14 = .ok (.iconst 1, 1) := by decide +kernel
theorem dX5_priceOf_15 : decode cX5_priceOf 15 = .ok (.if_icmp .ne 9, 3) := by decide +kernel
theorem dX5_priceOf_18 : decode cX5_priceOf 18 = .ok (.sipush 500, 3) := by decide +kernel
theorem dX5_priceOf_21 : decode cX5_priceOf 21 = .ok (.goto 6, 3) := by decide +kernel
theorem dX5_priceOf_24 : decode cX5_priceOf 24 = .ok (.sipush 200, 3) := by decide +kernel
theorem dX5_priceOf_27 : decode cX5_priceOf 27 = .ok (.imul, 1) := by decide +kernel
theorem dX5_priceOf_28 : decode cX5_priceOf 28 = .ok (.ireturn, 1) := by decide +kernel
theorem dX4_price_0 : decode cX4_price 0 = .ok (.aload_n 0, 1) := by decide +kernel
theorem dX4_price_1 : decode cX4_price 1 = .ok (.getfield 15, 3) := by decide +kernel
theorem dX4_price_4 : decode cX4_price 4 = .ok (.aload_n 0, 1) := by decide +kernel
theorem dX4_price_5 : decode cX4_price 5 = .ok (.getfield 18, 3) := by decide +kernel
theorem dX4_price_8 : decode cX4_price 8 = .ok (.invokestatic 34, 3) := by decide +kernel
theorem dX4_price_11 : decode cX4_price 11 = .ok (.ireturn, 1) := by decide +kernel
theorem dX4_inTimeAt_0 : decode cX4_inTimeAt 0 = .ok (.aload_n 0, 1) := by decide +kernel
theorem dX4_inTimeAt_1 : decode cX4_inTimeAt 1 = .ok (.invokevirtual 30, 3) := by decide +kernel
theorem dX4_inTimeAt_4 : decode cX4_inTimeAt 4 = .ok (.ifCond .ne 5, 3) := by decide +kernel
theorem dX4_inTimeAt_7 : decode cX4_inTimeAt 7 = .ok (.iconst 1, 1) := by decide +kernel
theorem dX4_inTimeAt_8 : decode cX4_inTimeAt 8 = .ok (.ireturn, 1) := by decide +kernel
theorem dX4_inTimeAt_9 : decode cX4_inTimeAt 9 = .ok (.aload_n 0, 1) := by decide +kernel
theorem dX4_inTimeAt_10 : decode cX4_inTimeAt 10 = .ok (.getfield 15, 3) := by decide +kernel
theorem dX4_inTimeAt_13 : decode cX4_inTimeAt 13 = .ok (.iconst 1, 1) := by decide +kernel
theorem dX4_inTimeAt_14 : decode cX4_inTimeAt 14 = .ok (.if_icmp .ne 23, 3) := by decide +kernel
theorem dX4_inTimeAt_17 : decode cX4_inTimeAt 17 = .ok (.iload_n 1, 1) := by decide +kernel
theorem dX4_inTimeAt_18 : decode cX4_inTimeAt 18 = .ok (.invokestatic 38, 3) := by decide +kernel
theorem dX4_inTimeAt_21 : decode cX4_inTimeAt 21 = .ok (.aload_n 0, 1) := by decide +kernel
theorem dX4_inTimeAt_22 : decode cX4_inTimeAt 22 = .ok (.getfield 21, 3) := by decide +kernel
theorem dX4_inTimeAt_25 : decode cX4_inTimeAt 25 = .ok (.invokestatic 38, 3) := by decide +kernel
theorem dX4_inTimeAt_28 : decode cX4_inTimeAt 28 = .ok (.if_icmp .ne 7, 3) := by decide +kernel
theorem dX4_inTimeAt_31 : decode cX4_inTimeAt 31 = .ok (.iconst 1, 1) := by decide +kernel
theorem dX4_inTimeAt_32 : decode cX4_inTimeAt 32 = .ok (.goto 4, 3) := by decide +kernel
theorem dX4_inTimeAt_35 : decode cX4_inTimeAt 35 = .ok (.iconst 0, 1) := by decide +kernel
theorem dX4_inTimeAt_36 : decode cX4_inTimeAt 36 = .ok (.ireturn, 1) := by decide +kernel
theorem dX4_inTimeAt_37 : decode cX4_inTimeAt 37 = .ok (.iload_n 1, 1) := by decide +kernel
theorem dX4_inTimeAt_38 : decode cX4_inTimeAt 38 = .ok (.aload_n 0, 1) := by decide +kernel
theorem dX4_inTimeAt_39 : decode cX4_inTimeAt 39 = .ok (.getfield 21, 3) := by decide +kernel
theorem dX4_inTimeAt_42 : decode cX4_inTimeAt 42 = .ok (.isub, 1) := by decide +kernel
theorem dX4_inTimeAt_43 : decode cX4_inTimeAt 43 = .ok (.aload_n 0, 1) := by decide +kernel
theorem dX4_inTimeAt_44 : decode cX4_inTimeAt 44 = .ok (.getfield 15, 3) := by decide +kernel
theorem dX4_inTimeAt_47 : decode cX4_inTimeAt 47 = .ok (.iconst 2, 1) := by decide +kernel
theorem dX4_inTimeAt_48 : decode cX4_inTimeAt 48 = .ok (.if_icmp .ne 8, 3) := by decide +kernel
theorem dX4_inTimeAt_51 : decode cX4_inTimeAt 51 = .ok (.bipush 30, 2) := by decide +kernel
theorem dX4_inTimeAt_53 : decode cX4_inTimeAt 53 = .ok (.goto 5, 3) := by decide +kernel
theorem dX4_inTimeAt_56 : decode cX4_inTimeAt 56 = .ok (.bipush 60, 2) := by decide +kernel
theorem dX4_inTimeAt_58 : decode cX4_inTimeAt 58 = .ok (.if_icmp .ge 7, 3) := by decide +kernel
theorem dX4_inTimeAt_61 : decode cX4_inTimeAt 61 = .ok (.iconst 1, 1) := by decide +kernel
theorem dX4_inTimeAt_62 : decode cX4_inTimeAt 62 = .ok (.goto 4, 3) := by decide +kernel
theorem dX4_inTimeAt_65 : decode cX4_inTimeAt 65 = .ok (.iconst 0, 1) := by decide +kernel
theorem dX4_inTimeAt_66 : decode cX4_inTimeAt 66 = .ok (.ireturn, 1) := by decide +kernel
theorem dX4_copyFrom_0 : decode cX4_copyFrom 0 = .ok (.aload_n 0, 1) := by decide +kernel
theorem dX4_copyFrom_1 : decode cX4_copyFrom 1 = .ok (.aload_n 1, 1) := by decide +kernel
theorem dX4_copyFrom_2 : decode cX4_copyFrom 2 = .ok (.getfield 9, 3) := by decide +kernel
theorem dX4_copyFrom_5 : decode cX4_copyFrom 5 = .ok (.putfield 9, 3) := by decide +kernel
theorem dX4_copyFrom_8 : decode cX4_copyFrom 8 = .ok (.aload_n 0, 1) := by decide +kernel
theorem dX4_copyFrom_9 : decode cX4_copyFrom 9 = .ok (.aload_n 1, 1) := by decide +kernel
theorem dX4_copyFrom_10 : decode cX4_copyFrom 10 = .ok (.getfield 15, 3) := by decide +kernel
theorem dX4_copyFrom_13 : decode cX4_copyFrom 13 = .ok (.putfield 15, 3) := by decide +kernel
theorem dX4_copyFrom_16 : decode cX4_copyFrom 16 = .ok (.aload_n 0, 1) := by decide +kernel
theorem dX4_copyFrom_17 : decode cX4_copyFrom 17 = .ok (.aload_n 1, 1) := by decide +kernel
theorem dX4_copyFrom_18 : decode cX4_copyFrom 18 = .ok (.getfield 18, 3) := by decide +kernel
theorem dX4_copyFrom_21 : decode cX4_copyFrom 21 = .ok (.putfield 18, 3) := by decide +kernel
theorem dX4_copyFrom_24 : decode cX4_copyFrom 24 = .ok (.aload_n 0, 1) := by decide +kernel
theorem dX4_copyFrom_25 : decode cX4_copyFrom 25 = .ok (.aload_n 1, 1) := by decide +kernel
theorem dX4_copyFrom_26 : decode cX4_copyFrom 26 = .ok (.getfield 21, 3) := by decide +kernel
theorem dX4_copyFrom_29 : decode cX4_copyFrom 29 = .ok (.putfield 21, 3) := by decide +kernel
theorem dX4_copyFrom_32 : decode cX4_copyFrom 32 = .ok (.aload_n 0, 1) := by decide +kernel
theorem dX4_copyFrom_33 : decode cX4_copyFrom 33 = .ok (.aload_n 1, 1) := by decide +kernel
theorem dX4_copyFrom_34 : decode cX4_copyFrom 34 = .ok (.getfield 24, 3) := by decide +kernel
theorem dX4_copyFrom_37 : decode cX4_copyFrom 37 = .ok (.putfield 24, 3) := by decide +kernel
theorem dX4_copyFrom_40 : decode cX4_copyFrom 40 = .ok (.aload_n 0, 1) := by decide +kernel
theorem dX4_copyFrom_41 : decode cX4_copyFrom 41 = .ok (.aload_n 1, 1) := by decide +kernel
theorem dX4_copyFrom_42 : decode cX4_copyFrom 42 = .ok (.getfield 27, 3) := by decide +kernel
theorem dX4_copyFrom_45 : decode cX4_copyFrom 45 = .ok (.putfield 27, 3) := by decide +kernel
theorem dX4_copyFrom_48 : decode cX4_copyFrom 48 = .ok (.return_, 1) := by decide +kernel
