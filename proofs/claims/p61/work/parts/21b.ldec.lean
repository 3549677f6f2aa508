theorem dL_truncateInput_0 : decode cL_truncateInput 0 = .ok (.aload_n 0, 1) := by decide +kernel
theorem dL_truncateInput_1 : decode cL_truncateInput 1 = .ok (.iload_n 1, 1) := by decide +kernel
theorem dL_truncateInput_2 : decode cL_truncateInput 2 = .ok (.invokevirtual 7, 3) := by decide +kernel
theorem dL_truncateInput_5 : decode cL_truncateInput 5 = .ok (.ireturn, 1) := by decide +kernel
theorem dL_truncateInput_6 : decode cL_truncateInput 6 = .ok (.astore_n 2, 1) := by decide +kernel
theorem dL_truncateInput_7 : decode cL_truncateInput 7 = .ok (.bipush (-18), 2) := by decide +kernel
theorem dL_truncateInput_9 : decode cL_truncateInput 9 = .ok (.ireturn, 1) := by decide +kernel
theorem dL_buy_0 : decode cL_buy 0 = .ok (.aload_n 0, 1) := by decide +kernel
theorem dL_buy_1 : decode cL_buy 1 = .ok (.iload_n 1, 1) := by decide +kernel
theorem dL_buy_2 : decode cL_buy 2 = .ok (.iload_n 2, 1) := by decide +kernel
theorem dL_buy_3 : decode cL_buy 3 = .ok (.iload_n 3, 1) := by decide +kernel
theorem dL_buy_4 : decode cL_buy 4 = .ok (.invokevirtual 15, 3) := by decide +kernel
theorem dL_buy_7 : decode cL_buy 7 = .ok (.ireturn, 1) := by decide +kernel
theorem dL_buy_8 : decode cL_buy 8 = .ok (.astore 4, 2) := by decide +kernel
theorem dL_buy_10 : decode cL_buy 10 = .ok (.bipush (-17), 2) := by decide +kernel
theorem dL_buy_12 : decode cL_buy 12 = .ok (.ireturn, 1) := by decide +kernel
theorem dL_buy_13 : decode cL_buy 13 = .ok (.astore 4, 2) := by decide +kernel
theorem dL_buy_15 : decode cL_buy 15 = .ok (.bipush (-18), 2) := by decide +kernel
theorem dL_buy_17 : decode cL_buy 17 = .ok (.ireturn, 1) := by decide +kernel
theorem dL_buy_18 : decode cL_buy 18 = .ok (.astore 4, 2) := by decide +kernel
theorem dL_buy_20 : decode cL_buy 20 = .ok (.bipush (-19), 2) := by decide +kernel
theorem dL_buy_22 : decode cL_buy 22 = .ok (.ireturn, 1) := by decide +kernel
theorem dL_ride_0 : decode cL_ride 0 = .ok (.aload_n 0, 1) := by decide +kernel
theorem dL_ride_1 : decode cL_ride 1 = .ok (.iload_n 1, 1) := by decide +kernel
theorem dL_ride_2 : decode cL_ride 2 = .ok (.iload_n 2, 1) := by decide +kernel
theorem dL_ride_3 : decode cL_ride 3 = .ok (.iload_n 3, 1) := by decide +kernel
theorem dL_ride_4 : decode cL_ride 4 = .ok (.iload 4, 2) := by decide +kernel
theorem dL_ride_6 : decode cL_ride 6 = .ok (.invokevirtual 23, 3) := by decide +kernel
theorem dL_ride_9 : decode cL_ride 9 = .ok (.ireturn, 1) := by decide +kernel
theorem dL_ride_10 : decode cL_ride 10 = .ok (.astore 5, 2) := by decide +kernel
theorem dL_ride_12 : decode cL_ride 12 = .ok (.bipush (-17), 2) := by decide +kernel
theorem dL_ride_14 : decode cL_ride 14 = .ok (.ireturn, 1) := by decide +kernel
theorem dL_ride_15 : decode cL_ride 15 = .ok (.astore 5, 2) := by decide +kernel
theorem dL_ride_17 : decode cL_ride 17 = .ok (.bipush (-18), 2) := by decide +kernel
theorem dL_ride_19 : decode cL_ride 19 = .ok (.ireturn, 1) := by decide +kernel
theorem dL_ride_20 : decode cL_ride 20 = .ok (.astore 5, 2) := by decide +kernel
theorem dL_ride_22 : decode cL_ride 22 = .ok (.bipush (-19), 2) := by decide +kernel
theorem dL_ride_24 : decode cL_ride 24 = .ok (.ireturn, 1) := by decide +kernel
theorem dL_inspect_0 : decode cL_inspect 0 = .ok (.aload_n 0, 1) := by decide +kernel
theorem dL_inspect_1 : decode cL_inspect 1 = .ok (.iload_n 1, 1) := by decide +kernel
theorem dL_inspect_2 : decode cL_inspect 2 = .ok (.invokevirtual 27, 3) := by decide +kernel
theorem dL_inspect_5 : decode cL_inspect 5 = .ok (.ireturn, 1) := by decide +kernel
theorem dL_inspect_6 : decode cL_inspect 6 = .ok (.astore_n 2, 1) := by decide +kernel
theorem dL_inspect_7 : decode cL_inspect 7 = .ok (.bipush (-17), 2) := by decide +kernel
theorem dL_inspect_9 : decode cL_inspect 9 = .ok (.ireturn, 1) := by decide +kernel
theorem dL_inspect_10 : decode cL_inspect 10 = .ok (.astore_n 2, 1) := by decide +kernel
theorem dL_inspect_11 : decode cL_inspect 11 = .ok (.bipush (-19), 2) := by decide +kernel
theorem dL_inspect_13 : decode cL_inspect 13 = .ok (.ireturn, 1) := by decide +kernel
theorem dL_waitFor_0 : decode cL_waitFor 0 = .ok (.aload_n 0, 1) := by decide +kernel
theorem dL_waitFor_1 : decode cL_waitFor 1 = .ok (.iload_n 1, 1) := by decide +kernel
theorem dL_waitFor_2 : decode cL_waitFor 2 = .ok (.invokevirtual 30, 3) := by decide +kernel
theorem dL_waitFor_5 : decode cL_waitFor 5 = .ok (.ireturn, 1) := by decide +kernel
theorem dL_waitFor_6 : decode cL_waitFor 6 = .ok (.astore_n 2, 1) := by decide +kernel
theorem dL_waitFor_7 : decode cL_waitFor 7 = .ok (.bipush (-18), 2) := by decide +kernel
theorem dL_waitFor_9 : decode cL_waitFor 9 = .ok (.ireturn, 1) := by decide +kernel
theorem dL_waitFor_10 : decode cL_waitFor 10 = .ok (.astore_n 2, 1) := by decide +kernel
theorem dL_waitFor_11 : decode cL_waitFor 11 = .ok (.bipush (-19), 2) := by decide +kernel
theorem dL_waitFor_13 : decode cL_waitFor 13 = .ok (.ireturn, 1) := by decide +kernel
theorem dL_appeal_0 : decode cL_appeal 0 = .ok (.aload_n 0, 1) := by decide +kernel
theorem dL_appeal_1 : decode cL_appeal 1 = .ok (.iload_n 1, 1) := by decide +kernel
theorem dL_appeal_2 : decode cL_appeal 2 = .ok (.iload_n 2, 1) := by decide +kernel
theorem dL_appeal_3 : decode cL_appeal 3 = .ok (.invokevirtual 33, 3) := by decide +kernel
theorem dL_appeal_6 : decode cL_appeal 6 = .ok (.ireturn, 1) := by decide +kernel
theorem dL_appeal_7 : decode cL_appeal 7 = .ok (.astore_n 3, 1) := by decide +kernel
theorem dL_appeal_8 : decode cL_appeal 8 = .ok (.bipush (-17), 2) := by decide +kernel
theorem dL_appeal_10 : decode cL_appeal 10 = .ok (.ireturn, 1) := by decide +kernel
theorem dL_appeal_11 : decode cL_appeal 11 = .ok (.astore_n 3, 1) := by decide +kernel
theorem dL_appeal_12 : decode cL_appeal 12 = .ok (.bipush (-19), 2) := by decide +kernel
theorem dL_appeal_14 : decode cL_appeal 14 = .ok (.ireturn, 1) := by decide +kernel
theorem dL_decide_0 : decode cL_decide 0 = .ok (.aload_n 0, 1) := by decide +kernel
theorem dL_decide_1 : decode cL_decide 1 = .ok (.iload_n 1, 1) := by decide +kernel
theorem dL_decide_2 : decode cL_decide 2 = .ok (.invokevirtual 37, 3) := by decide +kernel
theorem dL_decide_5 : decode cL_decide 5 = .ok (.ireturn, 1) := by decide +kernel
theorem dL_decide_6 : decode cL_decide 6 = .ok (.astore_n 2, 1) := by decide +kernel
theorem dL_decide_7 : decode cL_decide 7 = .ok (.bipush (-17), 2) := by decide +kernel
theorem dL_decide_9 : decode cL_decide 9 = .ok (.ireturn, 1) := by decide +kernel
theorem dL_decide_10 : decode cL_decide 10 = .ok (.astore_n 2, 1) := by decide +kernel
theorem dL_decide_11 : decode cL_decide 11 = .ok (.bipush (-19), 2) := by decide +kernel
theorem dL_decide_13 : decode cL_decide 13 = .ok (.ireturn, 1) := by decide +kernel
theorem dL_pay_0 : decode cL_pay 0 = .ok (.aload_n 0, 1) := by decide +kernel
theorem dL_pay_1 : decode cL_pay 1 = .ok (.iload_n 1, 1) := by decide +kernel
theorem dL_pay_2 : decode cL_pay 2 = .ok (.invokevirtual 40, 3) := by decide +kernel
theorem dL_pay_5 : decode cL_pay 5 = .ok (.ireturn, 1) := by decide +kernel
theorem dL_pay_6 : decode cL_pay 6 = .ok (.astore_n 2, 1) := by decide +kernel
theorem dL_pay_7 : decode cL_pay 7 = .ok (.bipush (-17), 2) := by decide +kernel
theorem dL_pay_9 : decode cL_pay 9 = .ok (.ireturn, 1) := by decide +kernel
theorem dL_pay_10 : decode cL_pay 10 = .ok (.astore_n 2, 1) := by decide +kernel
theorem dL_pay_11 : decode cL_pay 11 = .ok (.bipush (-19), 2) := by decide +kernel
theorem dL_pay_13 : decode cL_pay 13 = .ok (.ireturn, 1) := by decide +kernel
theorem dL_undo_0 : decode cL_undo 0 = .ok (.aload_n 0, 1) := by decide +kernel
theorem dL_undo_1 : decode cL_undo 1 = .ok (.invokevirtual 43, 3) := by decide +kernel
theorem dL_undo_4 : decode cL_undo 4 = .ok (.ireturn, 1) := by decide +kernel
theorem dL_undo_5 : decode cL_undo 5 = .ok (.astore_n 1, 1) := by decide +kernel
theorem dL_undo_6 : decode cL_undo 6 = .ok (.bipush (-19), 2) := by decide +kernel
theorem dL_undo_8 : decode cL_undo 8 = .ok (.ireturn, 1) := by decide +kernel
theorem dL_zonesBetween_0 : decode cL_zonesBetween 0 = .ok (.aload_n 0, 1) := by decide +kernel
theorem dL_zonesBetween_1 : decode cL_zonesBetween 1 = .ok (.iload_n 1, 1) := by decide +kernel
theorem dL_zonesBetween_2 : decode cL_zonesBetween 2 = .ok (.iload_n 2, 1) := by decide +kernel
theorem dL_zonesBetween_3 : decode cL_zonesBetween 3 = .ok (.invokevirtual 47, 3) := by decide +kernel
theorem dL_zonesBetween_6 : decode cL_zonesBetween 6 = .ok (.ireturn, 1) := by decide +kernel
theorem dL_zonesBetween_7 : decode cL_zonesBetween 7 = .ok (.astore_n 3, 1) := by decide +kernel
theorem dL_zonesBetween_8 : decode cL_zonesBetween 8 = .ok (.bipush (-17), 2) := by decide +kernel
theorem dL_zonesBetween_10 : decode cL_zonesBetween 10 = .ok (.ireturn, 1) := by decide +kernel
theorem dL_money_0 : decode cL_money 0 = .ok (.aload_n 0, 1) := by decide +kernel
theorem dL_money_1 : decode cL_money 1 = .ok (.iload_n 1, 1) := by decide +kernel
theorem dL_money_2 : decode cL_money 2 = .ok (.invokevirtual 50, 3) := by decide +kernel
theorem dL_money_5 : decode cL_money 5 = .ok (.ireturn, 1) := by decide +kernel
theorem dL_money_6 : decode cL_money 6 = .ok (.astore_n 2, 1) := by decide +kernel
theorem dL_money_7 : decode cL_money 7 = .ok (.bipush (-17), 2) := by decide +kernel
theorem dL_money_9 : decode cL_money 9 = .ok (.ireturn, 1) := by decide +kernel
theorem dL_rideEnd_0 : decode cL_rideEnd 0 = .ok (.aload_n 0, 1) := by decide +kernel
theorem dL_rideEnd_1 : decode cL_rideEnd 1 = .ok (.iload_n 1, 1) := by decide +kernel
theorem dL_rideEnd_2 : decode cL_rideEnd 2 = .ok (.invokevirtual 53, 3) := by decide +kernel
theorem dL_rideEnd_5 : decode cL_rideEnd 5 = .ok (.ireturn, 1) := by decide +kernel
theorem dL_rideEnd_6 : decode cL_rideEnd 6 = .ok (.astore_n 2, 1) := by decide +kernel
theorem dL_rideEnd_7 : decode cL_rideEnd 7 = .ok (.bipush (-17), 2) := by decide +kernel
theorem dL_rideEnd_9 : decode cL_rideEnd 9 = .ok (.ireturn, 1) := by decide +kernel
theorem dL_rideTicket_0 : decode cL_rideTicket 0 = .ok (.aload_n 0, 1) := by decide +kernel
theorem dL_rideTicket_1 : decode cL_rideTicket 1 = .ok (.iload_n 1, 1) := by decide +kernel
theorem dL_rideTicket_2 : decode cL_rideTicket 2 = .ok (.invokevirtual 56, 3) := by decide +kernel
theorem dL_rideTicket_5 : decode cL_rideTicket 5 = .ok (.ireturn, 1) := by decide +kernel
theorem dL_rideTicket_6 : decode cL_rideTicket 6 = .ok (.astore_n 2, 1) := by decide +kernel
theorem dL_rideTicket_7 : decode cL_rideTicket 7 = .ok (.bipush (-17), 2) := by decide +kernel
theorem dL_rideTicket_9 : decode cL_rideTicket 9 = .ok (.ireturn, 1) := by decide +kernel
theorem dL_faultNow_0 : decode cL_faultNow 0 = .ok (.aload_n 0, 1) := by decide +kernel
theorem dL_faultNow_1 : decode cL_faultNow 1 = .ok (.iload_n 1, 1) := by decide +kernel
theorem dL_faultNow_2 : decode cL_faultNow 2 = .ok (.invokevirtual 59, 3) := by decide +kernel
theorem dL_faultNow_5 : decode cL_faultNow 5 = .ok (.ireturn, 1) := by decide +kernel
theorem dL_faultNow_6 : decode cL_faultNow 6 = .ok (.astore_n 2, 1) := by decide +kernel
theorem dL_faultNow_7 : decode cL_faultNow 7 = .ok (.bipush (-17), 2) := by decide +kernel
theorem dL_faultNow_9 : decode cL_faultNow 9 = .ok (.ireturn, 1) := by decide +kernel
theorem dL_debt_0 : decode cL_debt 0 = .ok (.aload_n 0, 1) := by decide +kernel
theorem dL_debt_1 : decode cL_debt 1 = .ok (.iload_n 1, 1) := by decide +kernel
theorem dL_debt_2 : decode cL_debt 2 = .ok (.invokevirtual 62, 3) := by decide +kernel
theorem dL_debt_5 : decode cL_debt 5 = .ok (.ireturn, 1) := by decide +kernel
theorem dL_debt_6 : decode cL_debt 6 = .ok (.astore_n 2, 1) := by decide +kernel
theorem dL_debt_7 : decode cL_debt 7 = .ok (.bipush (-17), 2) := by decide +kernel
theorem dL_debt_9 : decode cL_debt 9 = .ok (.ireturn, 1) := by decide +kernel
theorem dL_unpaidCases_0 : decode cL_unpaidCases 0 = .ok (.aload_n 0, 1) := by decide +kernel
theorem dL_unpaidCases_1 : decode cL_unpaidCases 1 = .ok (.iload_n 1, 1) := by decide +kernel
theorem dL_unpaidCases_2 : decode cL_unpaidCases 2 = .ok (.invokevirtual 65, 3) := by decide +kernel
theorem dL_unpaidCases_5 : decode cL_unpaidCases 5 = .ok (.ireturn, 1) := by decide +kernel
theorem dL_unpaidCases_6 : decode cL_unpaidCases 6 = .ok (.astore_n 2, 1) := by decide +kernel
theorem dL_unpaidCases_7 : decode cL_unpaidCases 7 = .ok (.bipush (-17), 2) := by decide +kernel
theorem dL_unpaidCases_9 : decode cL_unpaidCases 9 = .ok (.ireturn, 1) := by decide +kernel
theorem dL_isRiding_0 : decode cL_isRiding 0 = .ok (.aload_n 0, 1) := by decide +kernel
theorem dL_isRiding_1 : decode cL_isRiding 1 = .ok (.iload_n 1, 1) := by decide +kernel
theorem dL_isRiding_2 : decode cL_isRiding 2 = .ok (.invokevirtual 68, 3) := by decide +kernel
theorem dL_isRiding_5 : decode cL_isRiding 5 = .ok (.ifCond .eq 7, 3) := by decide +kernel
theorem dL_isRiding_8 : decode cL_isRiding 8 = .ok (.iconst 1, 1) := by decide +kernel
theorem dL_isRiding_9 : decode cL_isRiding 9 = .ok (.goto 4, 3) := by decide +kernel
theorem dL_isRiding_12 : decode cL_isRiding 12 = .ok (.iconst 0, 1) := by decide +kernel
theorem dL_isRiding_13 : decode cL_isRiding 13 = .ok (.ireturn, 1) := by decide +kernel
theorem dL_isRiding_14 : decode cL_isRiding 14 = .ok (.astore_n 2, 1) := by decide +kernel
theorem dL_isRiding_15 : decode cL_isRiding 15 = .ok (.bipush (-17), 2) := by decide +kernel
theorem dL_isRiding_17 : decode cL_isRiding 17 = .ok (.ireturn, 1) := by decide +kernel
theorem dL_ticketHolder_0 : decode cL_ticketHolder 0 = .ok (.aload_n 0, 1) := by decide +kernel
theorem dL_ticketHolder_1 : decode cL_ticketHolder 1 = .ok (.iload_n 1, 1) := by decide +kernel
theorem dL_ticketHolder_2 : decode cL_ticketHolder 2 = .ok (.invokevirtual 72, 3) := by decide +kernel
theorem dL_ticketHolder_5 : decode cL_ticketHolder 5 = .ok (.ireturn, 1) := by decide +kernel
theorem dL_ticketHolder_6 : decode cL_ticketHolder 6 = .ok (.astore_n 2, 1) := by decide +kernel
theorem dL_ticketHolder_7 : decode cL_ticketHolder 7 = .ok (.bipush (-17), 2) := by decide +kernel
theorem dL_ticketHolder_9 : decode cL_ticketHolder 9 = .ok (.ireturn, 1) := by decide +kernel
theorem dL_ticketKind_0 : decode cL_ticketKind 0 = .ok (.aload_n 0, 1) := by decide +kernel
theorem dL_ticketKind_1 : decode cL_ticketKind 1 = .ok (.iload_n 1, 1) := by decide +kernel
theorem dL_ticketKind_2 : decode cL_ticketKind 2 = .ok (.invokevirtual 75, 3) := by decide +kernel
theorem dL_ticketKind_5 : decode cL_ticketKind 5 = .ok (.ireturn, 1) := by decide +kernel
theorem dL_ticketKind_6 : decode cL_ticketKind 6 = .ok (.astore_n 2, 1) := by decide +kernel
theorem dL_ticketKind_7 : decode cL_ticketKind 7 = .ok (.bipush (-17), 2) := by decide +kernel
theorem dL_ticketKind_9 : decode cL_ticketKind 9 = .ok (.ireturn, 1) := by decide +kernel
theorem dL_ticketZones_0 : decode cL_ticketZones 0 = .ok (.aload_n 0, 1) := by decide +kernel
theorem dL_ticketZones_1 : decode cL_ticketZones 1 = .ok (.iload_n 1, 1) := by decide +kernel
theorem dL_ticketZones_2 : decode cL_ticketZones 2 = .ok (.invokevirtual 78, 3) := by decide +kernel
theorem dL_ticketZones_5 : decode cL_ticketZones 5 = .ok (.ireturn, 1) := by decide +kernel
theorem dL_ticketZones_6 : decode cL_ticketZones 6 = .ok (.astore_n 2, 1) := by decide +kernel
theorem dL_ticketZones_7 : decode cL_ticketZones 7 = .ok (.bipush (-17), 2) := by decide +kernel
theorem dL_ticketZones_9 : decode cL_ticketZones 9 = .ok (.ireturn, 1) := by decide +kernel
theorem dL_ticketPrice_0 : decode cL_ticketPrice 0 = .ok (.aload_n 0, 1) := by decide +kernel
theorem dL_ticketPrice_1 : decode cL_ticketPrice 1 = .ok (.iload_n 1, 1) := by decide +kernel
theorem dL_ticketPrice_2 : decode cL_ticketPrice 2 = .ok (.invokevirtual 81, 3) := by decide +kernel
theorem dL_ticketPrice_5 : decode cL_ticketPrice 5 = .ok (.ireturn, 1) := by decide +kernel
theorem dL_ticketPrice_6 : decode cL_ticketPrice 6 = .ok (.astore_n 2, 1) := by decide +kernel
theorem dL_ticketPrice_7 : decode cL_ticketPrice 7 = .ok (.bipush (-17), 2) := by decide +kernel
theorem dL_ticketPrice_9 : decode cL_ticketPrice 9 = .ok (.ireturn, 1) := by decide +kernel
theorem dL_stampTime_0 : decode cL_stampTime 0 = .ok (.aload_n 0, 1) := by decide +kernel
theorem dL_stampTime_1 : decode cL_stampTime 1 = .ok (.iload_n 1, 1) := by decide +kernel
theorem dL_stampTime_2 : decode cL_stampTime 2 = .ok (.invokevirtual 84, 3) := by decide +kernel
theorem dL_stampTime_5 : decode cL_stampTime 5 = .ok (.ireturn, 1) := by decide +kernel
theorem dL_stampTime_6 : decode cL_stampTime 6 = .ok (.astore_n 2, 1) := by decide +kernel
theorem dL_stampTime_7 : decode cL_stampTime 7 = .ok (.bipush (-17), 2) := by decide +kernel
theorem dL_stampTime_9 : decode cL_stampTime 9 = .ok (.ireturn, 1) := by decide +kernel
theorem dL_stampStop_0 : decode cL_stampStop 0 = .ok (.aload_n 0, 1) := by decide +kernel
theorem dL_stampStop_1 : decode cL_stampStop 1 = .ok (.iload_n 1, 1) := by decide +kernel
theorem dL_stampStop_2 : decode cL_stampStop 2 = .ok (.invokevirtual 87, 3) := by decide +kernel
theorem dL_stampStop_5 : decode cL_stampStop 5 = .ok (.ireturn, 1) := by decide +kernel
theorem dL_stampStop_6 : decode cL_stampStop 6 = .ok (.astore_n 2, 1) := by decide +kernel
theorem dL_stampStop_7 : decode cL_stampStop 7 = .ok (.bipush (-17), 2) := by decide +kernel
theorem dL_stampStop_9 : decode cL_stampStop 9 = .ok (.ireturn, 1) := by decide +kernel
theorem dL_ticketRides_0 : decode cL_ticketRides 0 = .ok (.aload_n 0, 1) := by decide +kernel
theorem dL_ticketRides_1 : decode cL_ticketRides 1 = .ok (.iload_n 1, 1) := by decide +kernel
theorem dL_ticketRides_2 : decode cL_ticketRides 2 = .ok (.invokevirtual 90, 3) := by decide +kernel
theorem dL_ticketRides_5 : decode cL_ticketRides 5 = .ok (.ireturn, 1) := by decide +kernel
theorem dL_ticketRides_6 : decode cL_ticketRides 6 = .ok (.astore_n 2, 1) := by decide +kernel
theorem dL_ticketRides_7 : decode cL_ticketRides 7 = .ok (.bipush (-17), 2) := by decide +kernel
theorem dL_ticketRides_9 : decode cL_ticketRides 9 = .ok (.ireturn, 1) := by decide +kernel
theorem dL_isInTime_0 : decode cL_isInTime 0 = .ok (.aload_n 0, 1) := by decide +kernel
theorem dL_isInTime_1 : decode cL_isInTime 1 = .ok (.iload_n 1, 1) := by decide +kernel
theorem dL_isInTime_2 : decode cL_isInTime 2 = .ok (.invokevirtual 93, 3) := by decide +kernel
theorem dL_isInTime_5 : decode cL_isInTime 5 = .ok (.ifCond .eq 7, 3) := by decide +kernel
theorem dL_isInTime_8 : decode cL_isInTime 8 = .ok (.iconst 1, 1) := by decide +kernel
theorem dL_isInTime_9 : decode cL_isInTime 9 = .ok (.goto 4, 3) := by decide +kernel
theorem dL_isInTime_12 : decode cL_isInTime 12 = .ok (.iconst 0, 1) := by decide +kernel
theorem dL_isInTime_13 : decode cL_isInTime 13 = .ok (.ireturn, 1) := by decide +kernel
theorem dL_isInTime_14 : decode cL_isInTime 14 = .ok (.astore_n 2, 1) := by decide +kernel
theorem dL_isInTime_15 : decode cL_isInTime 15 = .ok (.bipush (-17), 2) := by decide +kernel
theorem dL_isInTime_17 : decode cL_isInTime 17 = .ok (.ireturn, 1) := by decide +kernel
theorem dL_casePassenger_0 : decode cL_casePassenger 0 = .ok (.aload_n 0, 1) := by decide +kernel
theorem dL_casePassenger_1 : decode cL_casePassenger 1 = .ok (.iload_n 1, 1) := by decide +kernel
theorem dL_casePassenger_2 : decode cL_casePassenger 2 = .ok (.invokevirtual 96, 3) := by decide +kernel
theorem dL_casePassenger_5 : decode cL_casePassenger 5 = .ok (.ireturn, 1) := by decide +kernel
theorem dL_casePassenger_6 : decode cL_casePassenger 6 = .ok (.astore_n 2, 1) := by decide +kernel
theorem dL_casePassenger_7 : decode cL_casePassenger 7 = .ok (.bipush (-17), 2) := by decide +kernel
theorem dL_casePassenger_9 : decode cL_casePassenger 9 = .ok (.ireturn, 1) := by decide +kernel
theorem dL_caseFault_0 : decode cL_caseFault 0 = .ok (.aload_n 0, 1) := by decide +kernel
theorem dL_caseFault_1 : decode cL_caseFault 1 = .ok (.iload_n 1, 1) := by decide +kernel
theorem dL_caseFault_2 : decode cL_caseFault 2 = .ok (.invokevirtual 99, 3) := by decide +kernel
theorem dL_caseFault_5 : decode cL_caseFault 5 = .ok (.ireturn, 1) := by decide +kernel
theorem dL_caseFault_6 : decode cL_caseFault 6 = .ok (.astore_n 2, 1) := by decide +kernel
theorem dL_caseFault_7 : decode cL_caseFault 7 = .ok (.bipush (-17), 2) := by decide +kernel
theorem dL_caseFault_9 : decode cL_caseFault 9 = .ok (.ireturn, 1) := by decide +kernel
theorem dL_caseState_0 : decode cL_caseState 0 = .ok (.aload_n 0, 1) := by decide +kernel
theorem dL_caseState_1 : decode cL_caseState 1 = .ok (.iload_n 1, 1) := by decide +kernel
theorem dL_caseState_2 : decode cL_caseState 2 = .ok (.invokevirtual 102, 3) := by decide +kernel
theorem dL_caseState_5 : decode cL_caseState 5 = .ok (.ireturn, 1) := by decide +kernel
theorem dL_caseState_6 : decode cL_caseState 6 = .ok (.astore_n 2, 1) := by decide +kernel
theorem dL_caseState_7 : decode cL_caseState 7 = .ok (.bipush (-17), 2) := by decide +kernel
theorem dL_caseState_9 : decode cL_caseState 9 = .ok (.ireturn, 1) := by decide +kernel
theorem dL_caseTime_0 : decode cL_caseTime 0 = .ok (.aload_n 0, 1) := by decide +kernel
theorem dL_caseTime_1 : decode cL_caseTime 1 = .ok (.iload_n 1, 1) := by decide +kernel
theorem dL_caseTime_2 : decode cL_caseTime 2 = .ok (.invokevirtual 105, 3) := by decide +kernel
theorem dL_caseTime_5 : decode cL_caseTime 5 = .ok (.ireturn, 1) := by decide +kernel
theorem dL_caseTime_6 : decode cL_caseTime 6 = .ok (.astore_n 2, 1) := by decide +kernel
theorem dL_caseTime_7 : decode cL_caseTime 7 = .ok (.bipush (-17), 2) := by decide +kernel
theorem dL_caseTime_9 : decode cL_caseTime 9 = .ok (.ireturn, 1) := by decide +kernel
theorem dL_amountDue_0 : decode cL_amountDue 0 = .ok (.aload_n 0, 1) := by decide +kernel
theorem dL_amountDue_1 : decode cL_amountDue 1 = .ok (.iload_n 1, 1) := by decide +kernel
theorem dL_amountDue_2 : decode cL_amountDue 2 = .ok (.invokevirtual 108, 3) := by decide +kernel
theorem dL_amountDue_5 : decode cL_amountDue 5 = .ok (.ireturn, 1) := by decide +kernel
theorem dL_amountDue_6 : decode cL_amountDue 6 = .ok (.astore_n 2, 1) := by decide +kernel
theorem dL_amountDue_7 : decode cL_amountDue 7 = .ok (.bipush (-17), 2) := by decide +kernel
theorem dL_amountDue_9 : decode cL_amountDue 9 = .ok (.ireturn, 1) := by decide +kernel
theorem dL_caseTicket_0 : decode cL_caseTicket 0 = .ok (.aload_n 0, 1) := by decide +kernel
theorem dL_caseTicket_1 : decode cL_caseTicket 1 = .ok (.iload_n 1, 1) := by decide +kernel
theorem dL_caseTicket_2 : decode cL_caseTicket 2 = .ok (.invokevirtual 111, 3) := by decide +kernel
theorem dL_caseTicket_5 : decode cL_caseTicket 5 = .ok (.ireturn, 1) := by decide +kernel
theorem dL_caseTicket_6 : decode cL_caseTicket 6 = .ok (.astore_n 2, 1) := by decide +kernel
theorem dL_caseTicket_7 : decode cL_caseTicket 7 = .ok (.bipush (-17), 2) := by decide +kernel
theorem dL_caseTicket_9 : decode cL_caseTicket 9 = .ok (.ireturn, 1) := by decide +kernel
theorem dL_isOverdue_0 : decode cL_isOverdue 0 = .ok (.aload_n 0, 1) := by decide +kernel
theorem dL_isOverdue_1 : decode cL_isOverdue 1 = .ok (.iload_n 1, 1) := by decide +kernel
theorem dL_isOverdue_2 : decode cL_isOverdue 2 = .ok (.invokevirtual 114, 3) := by decide +kernel
theorem dL_isOverdue_5 : decode cL_isOverdue 5 = .ok (.ifCond .eq 7, 3) := by decide +kernel
theorem dL_isOverdue_8 : decode cL_isOverdue 8 = .ok (.iconst 1, 1) := by decide +kernel
theorem dL_isOverdue_9 : decode cL_isOverdue 9 = .ok (.goto 4, 3) := by decide +kernel
theorem dL_isOverdue_12 : decode cL_isOverdue 12 = .ok (.iconst 0, 1) := by decide +kernel
theorem dL_isOverdue_13 : decode cL_isOverdue 13 = .ok (.ireturn, 1) := by decide +kernel
theorem dL_isOverdue_14 : decode cL_isOverdue 14 = .ok (.astore_n 2, 1) := by decide +kernel
theorem dL_isOverdue_15 : decode cL_isOverdue 15 = .ok (.bipush (-17), 2) := by decide +kernel
theorem dL_isOverdue_17 : decode cL_isOverdue 17 = .ok (.ireturn, 1) := by decide +kernel
theorem dL_outlook_0 : decode cL_outlook 0 = .ok (.aload_n 0, 1) := by decide +kernel
theorem dL_outlook_1 : decode cL_outlook 1 = .ok (.iload_n 1, 1) := by decide +kernel
theorem dL_outlook_2 : decode cL_outlook 2 = .ok (.iload_n 2, 1) := by decide +kernel
theorem dL_outlook_3 : decode cL_outlook 3 = .ok (.invokevirtual 117, 3) := by decide +kernel
theorem dL_outlook_6 : decode cL_outlook 6 = .ok (.ireturn, 1) := by decide +kernel
theorem dL_outlook_7 : decode cL_outlook 7 = .ok (.astore_n 3, 1) := by decide +kernel
theorem dL_outlook_8 : decode cL_outlook 8 = .ok (.bipush (-17), 2) := by decide +kernel
theorem dL_outlook_10 : decode cL_outlook 10 = .ok (.ireturn, 1) := by decide +kernel
theorem dL_word_0 : decode cL_word 0 = .ok (.iconst 0, 1) := by decide +kernel
theorem dL_word_1 : decode cL_word 1 = .ok (.istore_n 2, 1) := by decide +kernel
theorem dL_word_2 : decode cL_word 2 = .ok (.iload_n 1, 1) := by decide +kernel
theorem dL_word_3 : decode cL_word 3 = .ok (.istore_n 3, 1) := by decide +kernel
theorem dL_word_4 : decode cL_word 4 = .ok (.iload_n 3, 1) := by decide +kernel
theorem dL_word_5 : decode cL_word 5 = .ok (.iload_n 1, 1) := by decide +kernel
theorem dL_word_6 : decode cL_word 6 = .ok (.iconst 4, 1) := by decide +kernel
theorem dL_word_7 : decode cL_word 7 = .ok (.iadd, 1) := by decide +kernel
theorem dL_word_8 : decode cL_word 8 = .ok (.if_icmp .ge 32, 3) := by decide +kernel
theorem dL_word_11 : decode cL_word 11 = .ok (.iload_n 2, 1) := by decide +kernel
theorem dL_word_12 : decode cL_word 12 = .ok (.bipush 8, 2) := by decide +kernel
theorem dL_word_14 : decode cL_word 14 = .ok (.ishl, 1) := by decide +kernel
theorem dL_word_15 : decode cL_word 15 = .ok (.iload_n 3, 1) := by decide +kernel
theorem dL_word_16 : decode cL_word 16 = .ok (.aload_n 0, 1) := by decide +kernel
theorem dL_word_17 : decode cL_word 17 = .ok (.invokevirtual 120, 3) := by decide +kernel
theorem dL_word_20 : decode cL_word 20 = .ok (.if_icmp .ge 11, 3) := by decide +kernel
theorem dL_word_23 : decode cL_word 23 = .ok (.aload_n 0, 1) := by decide +kernel
theorem dL_word_24 : decode cL_word 24 = .ok (.iload_n 3, 1) := by decide +kernel
theorem dL_word_25 : decode cL_word 25 = .ok (.invokevirtual 125, 3) := by decide +kernel
theorem dL_word_28 : decode cL_word 28 = .ok (.goto 4, 3) := by decide +kernel
theorem dL_word_31 : decode cL_word 31 = .ok (.iconst 0, 1) := by decide +kernel
theorem dL_word_32 : decode cL_word 32 = .ok (.ior, 1) := by decide +kernel
theorem dL_word_33 : decode cL_word 33 = .ok (.istore_n 2, 1) := by decide +kernel
theorem dL_word_34 : decode cL_word 34 = .ok (.iinc 3 1, 3) := by decide +kernel
theorem dL_word_37 : decode cL_word 37 = .ok (.goto (-33), 3) := by decide +kernel
theorem dL_word_40 : decode cL_word 40 = .ok (.iload_n 2, 1) := by decide +kernel
theorem dL_word_41 : decode cL_word 41 = .ok (.ireturn, 1) := by decide +kernel
theorem dL_write_0 : decode cL_write 0 = .ok (.aload_n 0, 1) := by decide +kernel
theorem dL_write_1 : decode cL_write 1 = .ok (.iconst 0, 1) := by decide +kernel
theorem dL_write_2 : decode cL_write 2 = .ok (.invokestatic 129, 3) := by decide +kernel
theorem dL_write_5 : decode cL_write 5 = .ok (.ifCond .eq 5, 3) := by decide +kernel
theorem dL_write_8 : decode cL_write 8 = .ok (.iconst 0, 1) := by decide +kernel
theorem dL_write_9 : decode cL_write 9 = .ok (.ireturn, 1) := by decide +kernel
theorem dL_write_10 : decode cL_write 10 = .ok (.iconst 0, 1) := by decide +kernel
theorem dL_write_11 : decode cL_write 11 = .ok (.istore_n 2, 1) := by decide +kernel
theorem dL_write_12 : decode cL_write 12 = .ok (.iload_n 2, 1) := by decide +kernel
theorem dL_write_13 : decode cL_write 13 = .ok (.aload_n 1, 1) := by decide +kernel
theorem dL_write_14 : decode cL_write 14 = .ok (.invokevirtual 120, 3) := by decide +kernel
theorem dL_write_17 : decode cL_write 17 = .ok (.if_icmp .ge 58, 3) := by decide +kernel
theorem dL_write_20 : decode cL_write 20 = .ok (.aload_n 0, 1) := by decide +kernel
theorem dL_write_21 : decode cL_write 21 = .ok (.aload_n 1, 1) := by decide +kernel
theorem dL_write_22 : decode cL_write 22 = .ok (.iload_n 2, 1) := by decide +kernel
theorem dL_write_23 : decode cL_write 23 = .ok (.invokestatic 134, 3) := by decide +kernel
theorem dL_write_26 : decode cL_write 26 = .ok (.aload_n 1, 1) := by decide +kernel
theorem dL_write_27 : decode cL_write 27 = .ok (.iload_n 2, 1) := by decide +kernel
theorem dL_write_28 : decode cL_write 28 = .ok (.iconst 4, 1) := by decide +kernel
theorem dL_write_29 : decode cL_write 29 = .ok (.iadd, 1) := by decide +kernel
theorem dL_write_30 : decode cL_write 30 = .ok (.invokestatic 134, 3) := by decide +kernel
theorem dL_write_33 : decode cL_write 33 = .ok (.aload_n 1, 1) := by decide +kernel
theorem dL_write_34 : decode cL_write 34 = .ok (.iload_n 2, 1) := by decide +kernel
theorem dL_write_35 : decode cL_write 35 = .ok (.bipush 8, 2) := by decide +kernel
theorem dL_write_37 : decode cL_write 37 = .ok (.iadd, 1) := by decide +kernel
theorem dL_write_38 : decode cL_write 38 = .ok (.invokestatic 134, 3) := by decide +kernel
theorem dL_write_41 : decode cL_write 41 = .ok (.aload_n 1, 1) := by decide +kernel
theorem dL_write_42 : decode cL_write 42 = .ok (.iload_n 2, 1) := by decide +kernel
theorem dL_write_43 : decode cL_write 43 = .ok (.bipush 12, 2) := by decide +kernel
theorem dL_write_45 : decode cL_write 45 = .ok (.iadd, 1) := by decide +kernel
theorem dL_write_46 : decode cL_write 46 = .ok (.invokestatic 134, 3) := by decide +kernel
theorem dL_write_49 : decode cL_write 49 = .ok (.aload_n 1, 1) := by decide +kernel
theorem dL_write_50 : decode cL_write 50 = .ok (.iload_n 2, 1) := by decide +kernel
theorem dL_write_51 : decode cL_write 51 = .ok (.bipush 16, 2) := by decide +kernel
theorem dL_write_53 : decode cL_write 53 = .ok (.iadd, 1) := by decide +kernel
theorem dL_write_54 : decode cL_write 54 = .ok (.invokestatic 134, 3) := by decide +kernel
theorem dL_write_57 : decode cL_write 57 = .ok (.invokevirtual 138, 3) := by decide +kernel
theorem dL_write_60 : decode cL_write 60 = .ok (.iload_n 2, 1) := by decide +kernel
theorem dL_write_61 : decode cL_write 61 = .ok (.bipush 20, 2) := by decide +kernel
theorem dL_write_63 : decode cL_write 63 = .ok (.iadd, 1) := by decide +kernel
theorem dL_write_64 : decode cL_write 64 = .ok (.if_icmp .eq 5, 3) := by decide +kernel
theorem dL_write_67 : decode cL_write 67 = .ok (.iconst 0, 1) := by decide +kernel
theorem dL_write_68 : decode cL_write 68 = .ok (.ireturn, 1) := by decide +kernel
theorem dL_write_69 : decode cL_write 69 = .ok (.iinc 2 20, 3) := by decide +kernel
theorem dL_write_72 : decode cL_write 72 = .ok (.goto (-60), 3) := by decide +kernel
theorem dL_write_75 : decode cL_write 75 = .ok (.aload_n 0, 1) := by decide +kernel
theorem dL_write_76 : decode cL_write 76 = .ok (.aload_n 1, 1) := by decide +kernel
theorem dL_write_77 : decode cL_write 77 = .ok (.invokevirtual 120, 3) := by decide +kernel
theorem dL_write_80 : decode cL_write 80 = .ok (.invokestatic 129, 3) := by decide +kernel
theorem dL_write_83 : decode cL_write 83 = .ok (.aload_n 1, 1) := by decide +kernel
theorem dL_write_84 : decode cL_write 84 = .ok (.invokevirtual 120, 3) := by decide +kernel
theorem dL_write_87 : decode cL_write 87 = .ok (.if_icmp .ne 7, 3) := by decide +kernel
theorem dL_write_90 : decode cL_write 90 = .ok (.iconst 1, 1) := by decide +kernel
theorem dL_write_91 : decode cL_write 91 = .ok (.goto 4, 3) := by decide +kernel
theorem dL_write_94 : decode cL_write 94 = .ok (.iconst 0, 1) := by decide +kernel
theorem dL_write_95 : decode cL_write 95 = .ok (.ireturn, 1) := by decide +kernel
theorem dL_draw_0 : decode cL_draw 0 = .ok (.aload_n 0, 1) := by decide +kernel
theorem dL_draw_1 : decode cL_draw 1 = .ok (.iconst 0, 1) := by decide +kernel
theorem dL_draw_2 : decode cL_draw 2 = .ok (.aload_n 0, 1) := by decide +kernel
theorem dL_draw_3 : decode cL_draw 3 = .ok (.iconst 0, 1) := by decide +kernel
theorem dL_draw_4 : decode cL_draw 4 = .ok (.iaload, 1) := by decide +kernel
theorem dL_draw_5 : decode cL_draw 5 = .ok (.ldc 142, 2) := by decide +kernel
theorem dL_draw_7 : decode cL_draw 7 = .ok (.imul, 1) := by decide +kernel
theorem dL_draw_8 : decode cL_draw 8 = .ok (.sipush 12345, 3) := by decide +kernel
theorem dL_draw_11 : decode cL_draw 11 = .ok (.iadd, 1) := by decide +kernel
theorem dL_draw_12 : decode cL_draw 12 = .ok (.iastore, 1) := by decide +kernel
theorem dL_draw_13 : decode cL_draw 13 = .ok (.aload_n 0, 1) := by decide +kernel
theorem dL_draw_14 : decode cL_draw 14 = .ok (.iconst 0, 1) := by decide +kernel
theorem dL_draw_15 : decode cL_draw 15 = .ok (.iaload, 1) := by decide +kernel
theorem dL_draw_16 : decode cL_draw 16 = .ok (.bipush 8, 2) := by decide +kernel
theorem dL_draw_18 : decode cL_draw 18 = .ok (.iushr, 1) := by decide +kernel
theorem dL_draw_19 : decode cL_draw 19 = .ok (.iload_n 1, 1) := by decide +kernel
theorem dL_draw_20 : decode cL_draw 20 = .ok (.irem, 1) := by decide +kernel
theorem dL_draw_21 : decode cL_draw 21 = .ok (.ireturn, 1) := by decide +kernel
theorem dL_isSound_0 : decode cL_isSound 0 = .ok (.iconst 0, 1) := by decide +kernel
theorem dL_isSound_1 : decode cL_isSound 1 = .ok (.istore_n 1, 1) := by decide +kernel
theorem dL_isSound_2 : decode cL_isSound 2 = .ok (.iconst 0, 1) := by decide +kernel
theorem dL_isSound_3 : decode cL_isSound 3 = .ok (.istore_n 2, 1) := by decide +kernel
theorem dL_isSound_4 : decode cL_isSound 4 = .ok (.iload_n 2, 1) := by decide +kernel
theorem dL_isSound_5 : decode cL_isSound 5 = .ok (.aload_n 0, 1) := by decide +kernel
theorem dL_isSound_6 : decode cL_isSound 6 = .ok (.invokevirtual 143, 3) := by decide +kernel
theorem dL_isSound_9 : decode cL_isSound 9 = .ok (.if_icmp .ge 245, 3) := by decide +kernel
theorem dL_isSound_12 : decode cL_isSound 12 = .ok (.iconst 0, 1) := by decide +kernel
theorem dL_isSound_13 : decode cL_isSound 13 = .ok (.istore_n 3, 1) := by decide +kernel
theorem dL_isSound_14 : decode cL_isSound 14 = .ok (.iconst 0, 1) := by decide +kernel
theorem dL_isSound_15 : decode cL_isSound 15 = .ok (.istore 4, 2) := by decide +kernel
theorem dL_isSound_17 : decode cL_isSound 17 = .ok (.iload 4, 2) := by decide +kernel
theorem dL_isSound_19 : decode cL_isSound 19 = .ok (.iconst 4, 1) := by decide +kernel
theorem dL_isSound_20 : decode cL_isSound 20 = .ok (.if_icmp .ge 22, 3) := by decide +kernel
theorem dL_isSound_23 : decode cL_isSound 23 = .ok (.iload_n 3, 1) := by decide +kernel
theorem dL_isSound_24 : decode cL_isSound 24 = .ok (.aload_n 0, 1) := by decide +kernel
theorem dL_isSound_25 : decode cL_isSound 25 = .ok (.iload_n 2, 1) := by decide +kernel
theorem dL_isSound_26 : decode cL_isSound 26 = .ok (.invokestatic 146, 3) := by decide +kernel
theorem dL_isSound_29 : decode cL_isSound 29 = .ok (.iload 4, 2) := by decide +kernel
theorem dL_isSound_31 : decode cL_isSound 31 = .ok (.ishr, 1) := by decide +kernel
theorem dL_isSound_32 : decode cL_isSound 32 = .ok (.iconst 1, 1) := by decide +kernel
theorem dL_isSound_33 : decode cL_isSound 33 = .ok (.iand, 1) := by decide +kernel
theorem dL_isSound_34 : decode cL_isSound 34 = .ok (.iadd, 1) := by decide +kernel
theorem dL_isSound_35 : decode cL_isSound 35 = .ok (.istore_n 3, 1) := by decide +kernel
theorem dL_isSound_36 : decode cL_isSound 36 = .ok (.iinc 4 1, 3) := by decide +kernel
theorem dL_isSound_39 : decode cL_isSound 39 = .ok (.goto (-22), 3) := by decide +kernel
theorem dL_isSound_42 : decode cL_isSound 42 = .ok (.aload_n 0, 1) := by decide +kernel
theorem dL_isSound_43 : decode cL_isSound 43 = .ok (.iload_n 2, 1) := by decide +kernel
theorem dL_isSound_44 : decode cL_isSound 44 = .ok (.invokestatic 148, 3) := by decide +kernel
theorem dL_isSound_47 : decode cL_isSound 47 = .ok (.iconst 2, 1) := by decide +kernel
theorem dL_isSound_48 : decode cL_isSound 48 = .ok (.if_icmp .ne 9, 3) := by decide +kernel
theorem dL_isSound_51 : decode cL_isSound 51 = .ok (.sipush 150, 3) := by decide +kernel
theorem dL_isSound_54 : decode cL_isSound 54 = .ok (.goto 23, 3) := by decide +kernel
theorem dL_isSound_57 : decode cL_isSound 57 = .ok (.aload_n 0, 1) := by decide +kernel
theorem dL_isSound_58 : decode cL_isSound 58 = .ok (.iload_n 2, 1) := by decide +kernel
theorem dL_isSound_59 : decode cL_isSound 59 = .ok (.invokestatic 148, 3) := by decide +kernel
theorem dL_isSound_62 : decode cL_isSound 62 = .ok (.iconst 1, 1) := by decide +kernel
theorem dL_isSound_63 : decode cL_isSound 63 = .ok (.if_icmp .ne 9, 3) := by decide +kernel
theorem dL_isSound_66 : decode cL_isSound 66 = .ok (.sipush 500, 3) := by decide +kernel
theorem dL_isSound_69 : decode cL_isSound 69 = .ok (.goto 6, 3) := by decide +kernel
theorem dL_isSound_72 : decode cL_isSound 72 = .ok (.sipush 200, 3) := by decide +kernel
theorem dL_isSound_75 : decode cL_isSound 75 = .ok (.iload_n 3, 1) := by decide +kernel
theorem dL_isSound_76 : decode cL_isSound 76 = .ok (.imul, 1) := by decide +kernel
theorem dL_isSound_77 : decode cL_isSound 77 = .ok (.istore 4, 2) := by decide +kernel
theorem dL_isSound_79 : decode cL_isSound 79 = .ok (.aload_n 0, 1) := by decide +kernel
theorem dL_isSound_80 : decode cL_isSound 80 = .ok (.iload_n 2, 1) := by decide +kernel
theorem dL_isSound_81 : decode cL_isSound 81 = .ok (.invokestatic 150, 3) := by decide +kernel
theorem dL_isSound_84 : decode cL_isSound 84 = .ok (.istore 5, 2) := by decide +kernel
theorem dL_isSound_86 : decode cL_isSound 86 = .ok (.aload_n 0, 1) := by decide +kernel
theorem dL_isSound_87 : decode cL_isSound 87 = .ok (.invokevirtual 152, 3) := by decide +kernel
theorem dL_isSound_90 : decode cL_isSound 90 = .ok (.iload 5, 2) := by decide +kernel
theorem dL_isSound_92 : decode cL_isSound 92 = .ok (.isub, 1) := by decide +kernel
theorem dL_isSound_93 : decode cL_isSound 93 = .ok (.istore 6, 2) := by decide +kernel
theorem dL_isSound_95 : decode cL_isSound 95 = .ok (.iload 5, 2) := by decide +kernel
theorem dL_isSound_97 : decode cL_isSound 97 = .ok (.iconst (-1), 1) := by decide +kernel
theorem dL_isSound_98 : decode cL_isSound 98 = .ok (.if_icmp .eq 52, 3) := by decide +kernel
theorem dL_isSound_101 : decode cL_isSound 101 = .ok (.aload_n 0, 1) := by decide +kernel
theorem dL_isSound_102 : decode cL_isSound 102 = .ok (.iload_n 2, 1) := by decide +kernel
theorem dL_isSound_103 : decode cL_isSound 103 = .ok (.invokestatic 148, 3) := by decide +kernel
theorem dL_isSound_106 : decode cL_isSound 106 = .ok (.iconst 1, 1) := by decide +kernel
theorem dL_isSound_107 : decode cL_isSound 107 = .ok (.if_icmp .ne 23, 3) := by decide +kernel
theorem dL_isSound_110 : decode cL_isSound 110 = .ok (.aload_n 0, 1) := by decide +kernel
theorem dL_isSound_111 : decode cL_isSound 111 = .ok (.invokevirtual 152, 3) := by decide +kernel
theorem dL_isSound_114 : decode cL_isSound 114 = .ok (.sipush 1440, 3) := by decide +kernel
theorem dL_isSound_117 : decode cL_isSound 117 = .ok (.idiv, 1) := by decide +kernel
theorem dL_isSound_118 : decode cL_isSound 118 = .ok (.iload 5, 2) := by decide +kernel
theorem dL_isSound_120 : decode cL_isSound 120 = .ok (.sipush 1440, 3) := by decide +kernel
theorem dL_isSound_123 : decode cL_isSound 123 = .ok (.idiv, 1) := by decide +kernel
theorem dL_isSound_124 : decode cL_isSound 124 = .ok (.if_icmp .ne 30, 3) := by decide +kernel
theorem dL_isSound_127 : decode cL_isSound 127 = .ok (.goto 23, 3) := by decide +kernel
theorem dL_isSound_130 : decode cL_isSound 130 = .ok (.iload 6, 2) := by decide +kernel
theorem dL_isSound_132 : decode cL_isSound 132 = .ok (.aload_n 0, 1) := by decide +kernel
theorem dL_isSound_133 : decode cL_isSound 133 = .ok (.iload_n 2, 1) := by decide +kernel
theorem dL_isSound_134 : decode cL_isSound 134 = .ok (.invokestatic 148, 3) := by decide +kernel
theorem dL_isSound_137 : decode cL_isSound 137 = .ok (.ifCond .ne 8, 3) := by decide +kernel
theorem dL_isSound_140 : decode cL_isSound 140 = .ok (.bipush 60, 2) := by decide +kernel
theorem dL_isSound_142 : decode cL_isSound 142 = .ok (.goto 5, 3) := by decide +kernel
theorem dL_isSound_145 : decode cL_isSound 145 = .ok (.bipush 30, 2) := by decide +kernel
theorem dL_isSound_147 : decode cL_isSound 147 = .ok (.if_icmp .ge 7, 3) := by decide +kernel
theorem dL_isSound_150 : decode cL_isSound 150 = .ok (.iconst 1, 1) := by decide +kernel
theorem dL_isSound_151 : decode cL_isSound 151 = .ok (.goto 4, 3) := by decide +kernel
theorem dL_isSound_154 : decode cL_isSound 154 = .ok (.iconst 0, 1) := by decide +kernel
theorem dL_isSound_155 : decode cL_isSound 155 = .ok (.istore 7, 2) := by decide +kernel
theorem dL_isSound_157 : decode cL_isSound 157 = .ok (.aload_n 0, 1) := by decide +kernel
theorem dL_isSound_158 : decode cL_isSound 158 = .ok (.iload_n 2, 1) := by decide +kernel
theorem dL_isSound_159 : decode cL_isSound 159 = .ok (.invokestatic 155, 3) := by decide +kernel
theorem dL_isSound_162 : decode cL_isSound 162 = .ok (.iload 4, 2) := by decide +kernel
theorem dL_isSound_164 : decode cL_isSound 164 = .ok (.if_icmp .ne 77, 3) := by decide +kernel
theorem dL_isSound_167 : decode cL_isSound 167 = .ok (.aload_n 0, 1) := by decide +kernel
theorem dL_isSound_168 : decode cL_isSound 168 = .ok (.iload_n 2, 1) := by decide +kernel
theorem dL_isSound_169 : decode cL_isSound 169 = .ok (.invokestatic 157, 3) := by decide +kernel
theorem dL_isSound_172 : decode cL_isSound 172 = .ok (.iconst 1, 1) := by decide +kernel
theorem dL_isSound_173 : decode cL_isSound 173 = .ok (.if_icmp .ne 7, 3) := by decide +kernel
theorem dL_isSound_176 : decode cL_isSound 176 = .ok (.iconst 1, 1) := by decide +kernel
theorem dL_isSound_177 : decode cL_isSound 177 = .ok (.goto 4, 3) := by decide +kernel
theorem dL_isSound_180 : decode cL_isSound 180 = .ok (.iconst 0, 1) := by decide +kernel
theorem dL_isSound_181 : decode cL_isSound 181 = .ok (.iload 7, 2) := by decide +kernel
theorem dL_isSound_183 : decode cL_isSound 183 = .ok (.if_icmp .ne 58, 3) := by decide +kernel
theorem dL_isSound_186 : decode cL_isSound 186 = .ok (.iload 5, 2) := by decide +kernel
theorem dL_isSound_188 : decode cL_isSound 188 = .ok (.iconst (-1), 1) := by decide +kernel
theorem dL_isSound_189 : decode cL_isSound 189 = .ok (.if_icmp .ne 7, 3) := by decide +kernel
theorem dL_isSound_192 : decode cL_isSound 192 = .ok (.iconst 1, 1) := by decide +kernel
theorem dL_isSound_193 : decode cL_isSound 193 = .ok (.goto 4, 3) := by decide +kernel
theorem dL_isSound_196 : decode cL_isSound 196 = .ok (.iconst 0, 1) := by decide +kernel
theorem dL_isSound_197 : decode cL_isSound 197 = .ok (.aload_n 0, 1) := by decide +kernel
theorem dL_isSound_198 : decode cL_isSound 198 = .ok (.iload_n 2, 1) := by decide +kernel
theorem dL_isSound_199 : decode cL_isSound 199 = .ok (.invokestatic 159, 3) := by decide +kernel
theorem dL_isSound_202 : decode cL_isSound 202 = .ok (.ifCond .ne 7, 3) := by decide +kernel
theorem dL_isSound_205 : decode cL_isSound 205 = .ok (.iconst 1, 1) := by decide +kernel
theorem dL_isSound_206 : decode cL_isSound 206 = .ok (.goto 4, 3) := by decide +kernel
theorem dL_isSound_209 : decode cL_isSound 209 = .ok (.iconst 0, 1) := by decide +kernel
theorem dL_isSound_210 : decode cL_isSound 210 = .ok (.if_icmp .ne 31, 3) := by decide +kernel
theorem dL_isSound_213 : decode cL_isSound 213 = .ok (.aload_n 0, 1) := by decide +kernel
theorem dL_isSound_214 : decode cL_isSound 214 = .ok (.iload_n 2, 1) := by decide +kernel
theorem dL_isSound_215 : decode cL_isSound 215 = .ok (.invokestatic 161, 3) := by decide +kernel
theorem dL_isSound_218 : decode cL_isSound 218 = .ok (.iconst (-1), 1) := by decide +kernel
theorem dL_isSound_219 : decode cL_isSound 219 = .ok (.if_icmp .ne 7, 3) := by decide +kernel
theorem dL_isSound_222 : decode cL_isSound 222 = .ok (.iconst 1, 1) := by decide +kernel
theorem dL_isSound_223 : decode cL_isSound 223 = .ok (.goto 4, 3) := by decide +kernel
theorem dL_isSound_226 : decode cL_isSound 226 = .ok (.iconst 0, 1) := by decide +kernel
theorem dL_isSound_227 : decode cL_isSound 227 = .ok (.iload 5, 2) := by decide +kernel
theorem dL_isSound_229 : decode cL_isSound 229 = .ok (.iconst (-1), 1) := by decide +kernel
theorem dL_isSound_230 : decode cL_isSound 230 = .ok (.if_icmp .ne 7, 3) := by decide +kernel
theorem dL_isSound_233 : decode cL_isSound 233 = .ok (.iconst 1, 1) := by decide +kernel
theorem dL_isSound_234 : decode cL_isSound 234 = .ok (.goto 4, 3) := by decide +kernel
theorem dL_isSound_237 : decode cL_isSound 237 = .ok (.iconst 0, 1) := by decide +kernel
theorem dL_isSound_238 : decode cL_isSound 238 = .ok (.if_icmp .eq 5, 3) := by decide +kernel
theorem dL_isSound_241 : decode cL_isSound 241 = .ok (.iconst 0, 1) := by decide +kernel
theorem dL_isSound_242 : decode cL_isSound 242 = .ok (.ireturn, 1) := by decide +kernel
theorem dL_isSound_243 : decode cL_isSound 243 = .ok (.iload_n 1, 1) := by decide +kernel
theorem dL_isSound_244 : decode cL_isSound 244 = .ok (.iload 4, 2) := by decide +kernel
theorem dL_isSound_246 : decode cL_isSound 246 = .ok (.iadd, 1) := by decide +kernel
theorem dL_isSound_247 : decode cL_isSound 247 = .ok (.istore_n 1, 1) := by decide +kernel
theorem dL_isSound_248 : decode cL_isSound 248 = .ok (.iinc 2 1, 3) := by decide +kernel
theorem dL_isSound_251 : decode cL_isSound 251 = .ok (.goto (-247), 3) := by decide +kernel
theorem dL_isSound_254 : decode cL_isSound 254 = .ok (.iconst 0, 1) := by decide +kernel
theorem dL_isSound_255 : decode cL_isSound 255 = .ok (.istore_n 2, 1) := by decide +kernel
theorem dL_isSound_256 : decode cL_isSound 256 = .ok (.iload_n 2, 1) := by decide +kernel
theorem dL_isSound_257 : decode cL_isSound 257 = .ok (.aload_n 0, 1) := by decide +kernel
theorem dL_isSound_258 : decode cL_isSound 258 = .ok (.invokevirtual 163, 3) := by decide +kernel
theorem dL_isSound_261 : decode cL_isSound 261 = .ok (.if_icmp .ge 151, 3) := by decide +kernel
theorem dL_isSound_264 : decode cL_isSound 264 = .ok (.iconst 0, 1) := by decide +kernel
theorem dL_isSound_265 : decode cL_isSound 265 = .ok (.istore_n 3, 1) := by decide +kernel
theorem dL_isSound_266 : decode cL_isSound 266 = .ok (.iconst 0, 1) := by decide +kernel
theorem dL_isSound_267 : decode cL_isSound 267 = .ok (.istore 4, 2) := by decide +kernel
theorem dL_isSound_269 : decode cL_isSound 269 = .ok (.iconst 0, 1) := by decide +kernel
theorem dL_isSound_270 : decode cL_isSound 270 = .ok (.istore 5, 2) := by decide +kernel
theorem dL_isSound_272 : decode cL_isSound 272 = .ok (.iload 5, 2) := by decide +kernel
theorem dL_isSound_274 : decode cL_isSound 274 = .ok (.aload_n 0, 1) := by decide +kernel
theorem dL_isSound_275 : decode cL_isSound 275 = .ok (.invokevirtual 166, 3) := by decide +kernel
theorem dL_isSound_278 : decode cL_isSound 278 = .ok (.if_icmp .ge 44, 3) := by decide +kernel
theorem dL_isSound_281 : decode cL_isSound 281 = .ok (.aload_n 0, 1) := by decide +kernel
theorem dL_isSound_282 : decode cL_isSound 282 = .ok (.iload 5, 2) := by decide +kernel
theorem dL_isSound_284 : decode cL_isSound 284 = .ok (.invokestatic 169, 3) := by decide +kernel
theorem dL_isSound_287 : decode cL_isSound 287 = .ok (.iload_n 2, 1) := by decide +kernel
theorem dL_isSound_288 : decode cL_isSound 288 = .ok (.if_icmp .eq 6, 3) := by decide +kernel
theorem dL_isSound_291 : decode cL_isSound 291 = .ok (.goto 25, 3) := by decide +kernel
theorem dL_isSound_294 : decode cL_isSound 294 = .ok (.iload_n 3, 1) := by decide +kernel
theorem dL_isSound_295 : decode cL_isSound 295 = .ok (.aload_n 0, 1) := by decide +kernel
theorem dL_isSound_296 : decode cL_isSound 296 = .ok (.iload 5, 2) := by decide +kernel
theorem dL_isSound_298 : decode cL_isSound 298 = .ok (.invokestatic 171, 3) := by decide +kernel
theorem dL_isSound_301 : decode cL_isSound 301 = .ok (.iadd, 1) := by decide +kernel
theorem dL_isSound_302 : decode cL_isSound 302 = .ok (.istore_n 3, 1) := by decide +kernel
theorem dL_isSound_303 : decode cL_isSound 303 = .ok (.aload_n 0, 1) := by decide +kernel
theorem dL_isSound_304 : decode cL_isSound 304 = .ok (.iload 5, 2) := by decide +kernel
theorem dL_isSound_306 : decode cL_isSound 306 = .ok (.invokestatic 173, 3) := by decide +kernel
theorem dL_isSound_309 : decode cL_isSound 309 = .ok (.iconst 4, 1) := by decide +kernel
theorem dL_isSound_310 : decode cL_isSound 310 = .ok (.if_icmp .eq 6, 3) := by decide +kernel
theorem dL_isSound_313 : decode cL_isSound 313 = .ok (.iinc 4 1, 3) := by decide +kernel
theorem dL_isSound_316 : decode cL_isSound 316 = .ok (.iinc 5 1, 3) := by decide +kernel
theorem dL_isSound_319 : decode cL_isSound 319 = .ok (.goto (-47), 3) := by decide +kernel
theorem dL_isSound_322 : decode cL_isSound 322 = .ok (.aload_n 0, 1) := by decide +kernel
theorem dL_isSound_323 : decode cL_isSound 323 = .ok (.iload_n 2, 1) := by decide +kernel
theorem dL_isSound_324 : decode cL_isSound 324 = .ok (.invokestatic 175, 3) := by decide +kernel
theorem dL_isSound_327 : decode cL_isSound 327 = .ok (.ifCond .lt 77, 3) := by decide +kernel
theorem dL_isSound_330 : decode cL_isSound 330 = .ok (.aload_n 0, 1) := by decide +kernel
theorem dL_isSound_331 : decode cL_isSound 331 = .ok (.iload_n 2, 1) := by decide +kernel
theorem dL_isSound_332 : decode cL_isSound 332 = .ok (.invokestatic 177, 3) := by decide +kernel
theorem dL_isSound_335 : decode cL_isSound 335 = .ok (.iload_n 3, 1) := by decide +kernel
theorem dL_isSound_336 : decode cL_isSound 336 = .ok (.if_icmp .ne 68, 3) := by decide +kernel
theorem dL_isSound_339 : decode cL_isSound 339 = .ok (.aload_n 0, 1) := by decide +kernel
theorem dL_isSound_340 : decode cL_isSound 340 = .ok (.iload_n 2, 1) := by decide +kernel
theorem dL_isSound_341 : decode cL_isSound 341 = .ok (.invokestatic 179, 3) := by decide +kernel
theorem dL_isSound_344 : decode cL_isSound 344 = .ok (.iload 4, 2) := by decide +kernel
theorem dL_isSound_346 : decode cL_isSound 346 = .ok (.if_icmp .ne 58, 3) := by decide +kernel
theorem dL_isSound_349 : decode cL_isSound 349 = .ok (.aload_n 0, 1) := by decide +kernel
theorem dL_isSound_350 : decode cL_isSound 350 = .ok (.iload_n 2, 1) := by decide +kernel
theorem dL_isSound_351 : decode cL_isSound 351 = .ok (.invokestatic 181, 3) := by decide +kernel
theorem dL_isSound_354 : decode cL_isSound 354 = .ok (.iconst 1, 1) := by decide +kernel
theorem dL_isSound_355 : decode cL_isSound 355 = .ok (.if_icmp .ne 7, 3) := by decide +kernel
theorem dL_isSound_358 : decode cL_isSound 358 = .ok (.iconst 1, 1) := by decide +kernel
theorem dL_isSound_359 : decode cL_isSound 359 = .ok (.goto 4, 3) := by decide +kernel
theorem dL_isSound_362 : decode cL_isSound 362 = .ok (.iconst 0, 1) := by decide +kernel
theorem dL_isSound_363 : decode cL_isSound 363 = .ok (.aload_n 0, 1) := by decide +kernel
theorem dL_isSound_364 : decode cL_isSound 364 = .ok (.iload_n 2, 1) := by decide +kernel
theorem dL_isSound_365 : decode cL_isSound 365 = .ok (.invokestatic 183, 3) := by decide +kernel
theorem dL_isSound_368 : decode cL_isSound 368 = .ok (.aload_n 0, 1) := by decide +kernel
theorem dL_isSound_369 : decode cL_isSound 369 = .ok (.invokevirtual 152, 3) := by decide +kernel
theorem dL_isSound_372 : decode cL_isSound 372 = .ok (.if_icmp .le 7, 3) := by decide +kernel
theorem dL_isSound_375 : decode cL_isSound 375 = .ok (.iconst 1, 1) := by decide +kernel
theorem dL_isSound_376 : decode cL_isSound 376 = .ok (.goto 4, 3) := by decide +kernel
theorem dL_isSound_379 : decode cL_isSound 379 = .ok (.iconst 0, 1) := by decide +kernel
theorem dL_isSound_380 : decode cL_isSound 380 = .ok (.if_icmp .ne 24, 3) := by decide +kernel
theorem dL_isSound_383 : decode cL_isSound 383 = .ok (.aload_n 0, 1) := by decide +kernel
theorem dL_isSound_384 : decode cL_isSound 384 = .ok (.iload_n 2, 1) := by decide +kernel
theorem dL_isSound_385 : decode cL_isSound 385 = .ok (.invokestatic 185, 3) := by decide +kernel
theorem dL_isSound_388 : decode cL_isSound 388 = .ok (.ifCond .lt 18, 3) := by decide +kernel
theorem dL_isSound_391 : decode cL_isSound 391 = .ok (.aload_n 0, 1) := by decide +kernel
theorem dL_isSound_392 : decode cL_isSound 392 = .ok (.aload_n 0, 1) := by decide +kernel
theorem dL_isSound_393 : decode cL_isSound 393 = .ok (.iload_n 2, 1) := by decide +kernel
theorem dL_isSound_394 : decode cL_isSound 394 = .ok (.invokestatic 185, 3) := by decide +kernel
theorem dL_isSound_397 : decode cL_isSound 397 = .ok (.invokestatic 187, 3) := by decide +kernel
theorem dL_isSound_400 : decode cL_isSound 400 = .ok (.iload_n 2, 1) := by decide +kernel
theorem dL_isSound_401 : decode cL_isSound 401 = .ok (.if_icmp .eq 5, 3) := by decide +kernel
theorem dL_isSound_404 : decode cL_isSound 404 = .ok (.iconst 0, 1) := by decide +kernel
theorem dL_isSound_405 : decode cL_isSound 405 = .ok (.ireturn, 1) := by decide +kernel
theorem dL_isSound_406 : decode cL_isSound 406 = .ok (.iinc 2 1, 3) := by decide +kernel
theorem dL_isSound_409 : decode cL_isSound 409 = .ok (.goto (-153), 3) := by decide +kernel
theorem dL_isSound_412 : decode cL_isSound 412 = .ok (.iconst 0, 1) := by decide +kernel
theorem dL_isSound_413 : decode cL_isSound 413 = .ok (.istore_n 2, 1) := by decide +kernel
theorem dL_isSound_414 : decode cL_isSound 414 = .ok (.iload_n 2, 1) := by decide +kernel
theorem dL_isSound_415 : decode cL_isSound 415 = .ok (.aload_n 0, 1) := by decide +kernel
theorem dL_isSound_416 : decode cL_isSound 416 = .ok (.invokevirtual 166, 3) := by decide +kernel
theorem dL_isSound_419 : decode cL_isSound 419 = .ok (.if_icmp .ge 158, 3) := by decide +kernel
theorem dL_isSound_422 : decode cL_isSound 422 = .ok (.aload_n 0, 1) := by decide +kernel
theorem dL_isSound_423 : decode cL_isSound 423 = .ok (.iload_n 2, 1) := by decide +kernel
theorem dL_isSound_424 : decode cL_isSound 424 = .ok (.invokestatic 173, 3) := by decide +kernel
theorem dL_isSound_427 : decode cL_isSound 427 = .ok (.istore_n 3, 1) := by decide +kernel
theorem dL_isSound_428 : decode cL_isSound 428 = .ok (.iload_n 3, 1) := by decide +kernel
theorem dL_isSound_429 : decode cL_isSound 429 = .ok (.iconst 4, 1) := by decide +kernel
theorem dL_isSound_430 : decode cL_isSound 430 = .ok (.if_icmp .eq 23, 3) := by decide +kernel
theorem dL_isSound_433 : decode cL_isSound 433 = .ok (.aload_n 0, 1) := by decide +kernel
theorem dL_isSound_434 : decode cL_isSound 434 = .ok (.invokevirtual 152, 3) := by decide +kernel
theorem dL_isSound_437 : decode cL_isSound 437 = .ok (.aload_n 0, 1) := by decide +kernel
theorem dL_isSound_438 : decode cL_isSound 438 = .ok (.iload_n 2, 1) := by decide +kernel
theorem dL_isSound_439 : decode cL_isSound 439 = .ok (.invokestatic 189, 3) := by decide +kernel
theorem dL_isSound_442 : decode cL_isSound 442 = .ok (.sipush 20160, 3) := by decide +kernel
theorem dL_isSound_445 : decode cL_isSound 445 = .ok (.iadd, 1) := by decide +kernel
theorem dL_isSound_446 : decode cL_isSound 446 = .ok (.if_icmp .le 7, 3) := by decide +kernel
theorem dL_isSound_449 : decode cL_isSound 449 = .ok (.iconst 1, 1) := by decide +kernel
theorem dL_isSound_450 : decode cL_isSound 450 = .ok (.goto 4, 3) := by decide +kernel
theorem dL_isSound_453 : decode cL_isSound 453 = .ok (.iconst 0, 1) := by decide +kernel
theorem dL_isSound_454 : decode cL_isSound 454 = .ok (.istore 4, 2) := by decide +kernel
theorem dL_isSound_456 : decode cL_isSound 456 = .ok (.iload_n 3, 1) := by decide +kernel
theorem dL_isSound_457 : decode cL_isSound 457 = .ok (.iconst 4, 1) := by decide +kernel
theorem dL_isSound_458 : decode cL_isSound 458 = .ok (.if_icmp .ne 7, 3) := by decide +kernel
theorem dL_isSound_461 : decode cL_isSound 461 = .ok (.iconst 0, 1) := by decide +kernel
theorem dL_isSound_462 : decode cL_isSound 462 = .ok (.goto 41, 3) := by decide +kernel
theorem dL_isSound_465 : decode cL_isSound 465 = .ok (.iload_n 3, 1) := by decide +kernel
theorem dL_isSound_466 : decode cL_isSound 466 = .ok (.iconst 2, 1) := by decide +kernel
theorem dL_isSound_467 : decode cL_isSound 467 = .ok (.if_icmp .ne 9, 3) := by decide +kernel
theorem dL_isSound_470 : decode cL_isSound 470 = .ok (.sipush 700, 3) := by decide +kernel
theorem dL_isSound_473 : decode cL_isSound 473 = .ok (.goto 17, 3) := by decide +kernel
theorem dL_isSound_476 : decode cL_isSound 476 = .ok (.iload_n 3, 1) := by decide +kernel
theorem dL_isSound_477 : decode cL_isSound 477 = .ok (.iconst 3, 1) := by decide +kernel
theorem dL_isSound_478 : decode cL_isSound 478 = .ok (.if_icmp .ne 9, 3) := by decide +kernel
theorem dL_isSound_481 : decode cL_isSound 481 = .ok (.sipush 6500, 3) := by decide +kernel
theorem dL_isSound_484 : decode cL_isSound 484 = .ok (.goto 6, 3) := by decide +kernel
theorem dL_isSound_487 : decode cL_isSound 487 = .ok (.sipush 6000, 3) := by decide +kernel
theorem dL_isSound_490 : decode cL_isSound 490 = .ok (.iload 4, 2) := by decide +kernel
theorem dL_isSound_492 : decode cL_isSound 492 = .ok (.ifCond .eq 9, 3) := by decide +kernel
theorem dL_isSound_495 : decode cL_isSound 495 = .ok (.sipush 1500, 3) := by decide +kernel
theorem dL_isSound_498 : decode cL_isSound 498 = .ok (.goto 4, 3) := by decide +kernel
theorem dL_isSound_501 : decode cL_isSound 501 = .ok (.iconst 0, 1) := by decide +kernel
theorem dL_isSound_502 : decode cL_isSound 502 = .ok (.iadd, 1) := by decide +kernel
theorem dL_isSound_503 : decode cL_isSound 503 = .ok (.istore 5, 2) := by decide +kernel
theorem dL_isSound_505 : decode cL_isSound 505 = .ok (.aload_n 0, 1) := by decide +kernel
theorem dL_isSound_506 : decode cL_isSound 506 = .ok (.iload_n 2, 1) := by decide +kernel
theorem dL_isSound_507 : decode cL_isSound 507 = .ok (.invokestatic 191, 3) := by decide +kernel
theorem dL_isSound_510 : decode cL_isSound 510 = .ok (.iconst 1, 1) := by decide +kernel
theorem dL_isSound_511 : decode cL_isSound 511 = .ok (.if_icmp .ne 7, 3) := by decide +kernel
theorem dL_isSound_514 : decode cL_isSound 514 = .ok (.iconst 1, 1) := by decide +kernel
theorem dL_isSound_515 : decode cL_isSound 515 = .ok (.goto 4, 3) := by decide +kernel
theorem dL_isSound_518 : decode cL_isSound 518 = .ok (.iconst 0, 1) := by decide +kernel
theorem dL_isSound_519 : decode cL_isSound 519 = .ok (.iload 4, 2) := by decide +kernel
theorem dL_isSound_521 : decode cL_isSound 521 = .ok (.if_icmp .ne 48, 3) := by decide +kernel
theorem dL_isSound_524 : decode cL_isSound 524 = .ok (.aload_n 0, 1) := by decide +kernel
theorem dL_isSound_525 : decode cL_isSound 525 = .ok (.iload_n 2, 1) := by decide +kernel
theorem dL_isSound_526 : decode cL_isSound 526 = .ok (.invokestatic 171, 3) := by decide +kernel
theorem dL_isSound_529 : decode cL_isSound 529 = .ok (.iload 5, 2) := by decide +kernel
theorem dL_isSound_531 : decode cL_isSound 531 = .ok (.if_icmp .ne 38, 3) := by decide +kernel
theorem dL_isSound_534 : decode cL_isSound 534 = .ok (.aload_n 0, 1) := by decide +kernel
theorem dL_isSound_535 : decode cL_isSound 535 = .ok (.iload_n 2, 1) := by decide +kernel
theorem dL_isSound_536 : decode cL_isSound 536 = .ok (.invokestatic 193, 3) := by decide +kernel
theorem dL_isSound_539 : decode cL_isSound 539 = .ok (.iconst 1, 1) := by decide +kernel
theorem dL_isSound_540 : decode cL_isSound 540 = .ok (.if_icmp .lt 29, 3) := by decide +kernel
theorem dL_isSound_543 : decode cL_isSound 543 = .ok (.aload_n 0, 1) := by decide +kernel
theorem dL_isSound_544 : decode cL_isSound 544 = .ok (.iload_n 2, 1) := by decide +kernel
theorem dL_isSound_545 : decode cL_isSound 545 = .ok (.invokestatic 193, 3) := by decide +kernel
theorem dL_isSound_548 : decode cL_isSound 548 = .ok (.iconst 5, 1) := by decide +kernel
theorem dL_isSound_549 : decode cL_isSound 549 = .ok (.if_icmp .gt 20, 3) := by decide +kernel
theorem dL_isSound_552 : decode cL_isSound 552 = .ok (.iload_n 3, 1) := by decide +kernel
theorem dL_isSound_553 : decode cL_isSound 553 = .ok (.ifCond .le 18, 3) := by decide +kernel
theorem dL_isSound_556 : decode cL_isSound 556 = .ok (.iload_n 3, 1) := by decide +kernel
theorem dL_isSound_557 : decode cL_isSound 557 = .ok (.iconst 4, 1) := by decide +kernel
theorem dL_isSound_558 : decode cL_isSound 558 = .ok (.if_icmp .ge 13, 3) := by decide +kernel
theorem dL_isSound_561 : decode cL_isSound 561 = .ok (.aload_n 0, 1) := by decide +kernel
theorem dL_isSound_562 : decode cL_isSound 562 = .ok (.iload_n 2, 1) := by decide +kernel
theorem dL_isSound_563 : decode cL_isSound 563 = .ok (.invokestatic 195, 3) := by decide +kernel
theorem dL_isSound_566 : decode cL_isSound 566 = .ok (.ifCond .ge 5, 3) := by decide +kernel
theorem dL_isSound_569 : decode cL_isSound 569 = .ok (.iconst 0, 1) := by decide +kernel
theorem dL_isSound_570 : decode cL_isSound 570 = .ok (.ireturn, 1) := by decide +kernel
theorem dL_isSound_571 : decode cL_isSound 571 = .ok (.iinc 2 1, 3) := by decide +kernel
theorem dL_isSound_574 : decode cL_isSound 574 = .ok (.goto (-160), 3) := by decide +kernel
theorem dL_isSound_577 : decode cL_isSound 577 = .ok (.iload_n 1, 1) := by decide +kernel
theorem dL_isSound_578 : decode cL_isSound 578 = .ok (.aload_n 0, 1) := by decide +kernel
theorem dL_isSound_579 : decode cL_isSound 579 = .ok (.invokevirtual 197, 3) := by decide +kernel
theorem dL_isSound_582 : decode cL_isSound 582 = .ok (.if_icmp .ne 25, 3) := by decide +kernel
theorem dL_isSound_585 : decode cL_isSound 585 = .ok (.aload_n 0, 1) := by decide +kernel
theorem dL_isSound_586 : decode cL_isSound 586 = .ok (.invokevirtual 166, 3) := by decide +kernel
theorem dL_isSound_589 : decode cL_isSound 589 = .ok (.aload_n 0, 1) := by decide +kernel
theorem dL_isSound_590 : decode cL_isSound 590 = .ok (.invokevirtual 200, 3) := by decide +kernel
theorem dL_isSound_593 : decode cL_isSound 593 = .ok (.if_icmp .gt 14, 3) := by decide +kernel
theorem dL_isSound_596 : decode cL_isSound 596 = .ok (.aload_n 0, 1) := by decide +kernel
theorem dL_isSound_597 : decode cL_isSound 597 = .ok (.invokevirtual 203, 3) := by decide +kernel
theorem dL_isSound_600 : decode cL_isSound 600 = .ok (.ifCond .ne 7, 3) := by decide +kernel
theorem dL_isSound_603 : decode cL_isSound 603 = .ok (.iconst 1, 1) := by decide +kernel
theorem dL_isSound_604 : decode cL_isSound 604 = .ok (.goto 4, 3) := by decide +kernel
theorem dL_isSound_607 : decode cL_isSound 607 = .ok (.iconst 0, 1) := by decide +kernel
theorem dL_isSound_608 : decode cL_isSound 608 = .ok (.ireturn, 1) := by decide +kernel
theorem dL_acts_0 : decode cL_acts 0 = .ok (.aload_n 1, 1) := by decide +kernel
theorem dL_acts_1 : decode cL_acts 1 = .ok (.aload_n 0, 1) := by decide +kernel
theorem dL_acts_2 : decode cL_acts 2 = .ok (.invokevirtual 163, 3) := by decide +kernel
theorem dL_acts_5 : decode cL_acts 5 = .ok (.invokestatic 206, 3) := by decide +kernel
theorem dL_acts_8 : decode cL_acts 8 = .ok (.istore_n 2, 1) := by decide +kernel
theorem dL_acts_9 : decode cL_acts 9 = .ok (.aload_n 0, 1) := by decide +kernel
theorem dL_acts_10 : decode cL_acts 10 = .ok (.invokevirtual 143, 3) := by decide +kernel
theorem dL_acts_13 : decode cL_acts 13 = .ok (.istore_n 3, 1) := by decide +kernel
theorem dL_acts_14 : decode cL_acts 14 = .ok (.aload_n 0, 1) := by decide +kernel
theorem dL_acts_15 : decode cL_acts 15 = .ok (.invokevirtual 166, 3) := by decide +kernel
theorem dL_acts_18 : decode cL_acts 18 = .ok (.istore 4, 2) := by decide +kernel
theorem dL_acts_20 : decode cL_acts 20 = .ok (.aload_n 1, 1) := by decide +kernel
theorem dL_acts_21 : decode cL_acts 21 = .ok (.bipush 9, 2) := by decide +kernel
theorem dL_acts_23 : decode cL_acts 23 = .ok (.invokestatic 206, 3) := by decide +kernel
theorem dL_acts_26 : decode cL_acts 26 = .ok (.tableswitch 960 0 7 #[46, 153, 153, 153, 450, 450, 622, 790], 46) := by decide +kernel
theorem dL_acts_72 : decode cL_acts 72 = .ok (.aload_n 1, 1) := by decide +kernel
theorem dL_acts_73 : decode cL_acts 73 = .ok (.iconst 3, 1) := by decide +kernel
theorem dL_acts_74 : decode cL_acts 74 = .ok (.invokestatic 206, 3) := by decide +kernel
theorem dL_acts_77 : decode cL_acts 77 = .ok (.istore 5, 2) := by decide +kernel
theorem dL_acts_79 : decode cL_acts 79 = .ok (.iconst 1, 1) := by decide +kernel
theorem dL_acts_80 : decode cL_acts 80 = .ok (.aload_n 1, 1) := by decide +kernel
theorem dL_acts_81 : decode cL_acts 81 = .ok (.bipush 15, 2) := by decide +kernel
theorem dL_acts_83 : decode cL_acts 83 = .ok (.invokestatic 206, 3) := by decide +kernel
theorem dL_acts_86 : decode cL_acts 86 = .ok (.iadd, 1) := by decide +kernel
theorem dL_acts_87 : decode cL_acts 87 = .ok (.istore 6, 2) := by decide +kernel
theorem dL_acts_89 : decode cL_acts 89 = .ok (.aload_n 0, 1) := by decide +kernel
theorem dL_acts_90 : decode cL_acts 90 = .ok (.iload_n 2, 1) := by decide +kernel
theorem dL_acts_91 : decode cL_acts 91 = .ok (.invokestatic 175, 3) := by decide +kernel
theorem dL_acts_94 : decode cL_acts 94 = .ok (.istore 7, 2) := by decide +kernel
theorem dL_acts_96 : decode cL_acts 96 = .ok (.aload_n 0, 1) := by decide +kernel
theorem dL_acts_97 : decode cL_acts 97 = .ok (.iload_n 2, 1) := by decide +kernel
theorem dL_acts_98 : decode cL_acts 98 = .ok (.iload 5, 2) := by decide +kernel
theorem dL_acts_100 : decode cL_acts 100 = .ok (.iload 6, 2) := by decide +kernel
theorem dL_acts_102 : decode cL_acts 102 = .ok (.invokestatic 210, 3) := by decide +kernel
theorem dL_acts_105 : decode cL_acts 105 = .ok (.istore 8, 2) := by decide +kernel
theorem dL_acts_107 : decode cL_acts 107 = .ok (.iload 8, 2) := by decide +kernel
theorem dL_acts_109 : decode cL_acts 109 = .ok (.bipush (-19), 2) := by decide +kernel
theorem dL_acts_111 : decode cL_acts 111 = .ok (.if_icmp .ne 19, 3) := by decide +kernel
theorem dL_acts_114 : decode cL_acts 114 = .ok (.aload_n 0, 1) := by decide +kernel
theorem dL_acts_115 : decode cL_acts 115 = .ok (.invokevirtual 143, 3) := by decide +kernel
theorem dL_acts_118 : decode cL_acts 118 = .ok (.iload_n 3, 1) := by decide +kernel
theorem dL_acts_119 : decode cL_acts 119 = .ok (.if_icmp .ne 7, 3) := by decide +kernel
theorem dL_acts_122 : decode cL_acts 122 = .ok (.iconst 1, 1) := by decide +kernel
theorem dL_acts_123 : decode cL_acts 123 = .ok (.goto 55, 3) := by decide +kernel
theorem dL_acts_126 : decode cL_acts 126 = .ok (.iconst 0, 1) := by decide +kernel
theorem dL_acts_127 : decode cL_acts 127 = .ok (.goto 51, 3) := by decide +kernel
theorem dL_acts_130 : decode cL_acts 130 = .ok (.iload 8, 2) := by decide +kernel
theorem dL_acts_132 : decode cL_acts 132 = .ok (.iload_n 3, 1) := by decide +kernel
theorem dL_acts_133 : decode cL_acts 133 = .ok (.if_icmp .ne 44, 3) := by decide +kernel
theorem dL_acts_136 : decode cL_acts 136 = .ok (.aload_n 0, 1) := by decide +kernel
theorem dL_acts_137 : decode cL_acts 137 = .ok (.iload_n 2, 1) := by decide +kernel
theorem dL_acts_138 : decode cL_acts 138 = .ok (.invokestatic 175, 3) := by decide +kernel
theorem dL_acts_141 : decode cL_acts 141 = .ok (.iload 7, 2) := by decide +kernel
theorem dL_acts_143 : decode cL_acts 143 = .ok (.aload_n 0, 1) := by decide +kernel
theorem dL_acts_144 : decode cL_acts 144 = .ok (.iload 8, 2) := by decide +kernel
theorem dL_acts_146 : decode cL_acts 146 = .ok (.invokestatic 155, 3) := by decide +kernel
theorem dL_acts_149 : decode cL_acts 149 = .ok (.isub, 1) := by decide +kernel
theorem dL_acts_150 : decode cL_acts 150 = .ok (.if_icmp .ne 27, 3) := by decide +kernel
theorem dL_acts_153 : decode cL_acts 153 = .ok (.aload_n 0, 1) := by decide +kernel
theorem dL_acts_154 : decode cL_acts 154 = .ok (.iload 8, 2) := by decide +kernel
theorem dL_acts_156 : decode cL_acts 156 = .ok (.invokestatic 150, 3) := by decide +kernel
theorem dL_acts_159 : decode cL_acts 159 = .ok (.iconst (-1), 1) := by decide +kernel
theorem dL_acts_160 : decode cL_acts 160 = .ok (.if_icmp .ne 17, 3) := by decide +kernel
theorem dL_acts_163 : decode cL_acts 163 = .ok (.aload_n 0, 1) := by decide +kernel
theorem dL_acts_164 : decode cL_acts 164 = .ok (.iload 8, 2) := by decide +kernel
theorem dL_acts_166 : decode cL_acts 166 = .ok (.invokestatic 187, 3) := by decide +kernel
theorem dL_acts_169 : decode cL_acts 169 = .ok (.iload_n 2, 1) := by decide +kernel
theorem dL_acts_170 : decode cL_acts 170 = .ok (.if_icmp .ne 7, 3) := by decide +kernel
theorem dL_acts_173 : decode cL_acts 173 = .ok (.iconst 1, 1) := by decide +kernel
theorem dL_acts_174 : decode cL_acts 174 = .ok (.goto 4, 3) := by decide +kernel
theorem dL_acts_177 : decode cL_acts 177 = .ok (.iconst 0, 1) := by decide +kernel
theorem dL_acts_178 : decode cL_acts 178 = .ok (.ireturn, 1) := by decide +kernel
theorem dL_acts_179 : decode cL_acts 179 = .ok (.aload_n 1, 1) := by decide +kernel
theorem dL_acts_180 : decode cL_acts 180 = .ok (.aload_n 0, 1) := by decide +kernel
theorem dL_acts_181 : decode cL_acts 181 = .ok (.invokevirtual 213, 3) := by decide +kernel
theorem dL_acts_184 : decode cL_acts 184 = .ok (.invokestatic 206, 3) := by decide +kernel
theorem dL_acts_187 : decode cL_acts 187 = .ok (.istore 5, 2) := by decide +kernel
theorem dL_acts_189 : decode cL_acts 189 = .ok (.aload_n 1, 1) := by decide +kernel
theorem dL_acts_190 : decode cL_acts 190 = .ok (.aload_n 0, 1) := by decide +kernel
theorem dL_acts_191 : decode cL_acts 191 = .ok (.invokevirtual 213, 3) := by decide +kernel
theorem dL_acts_194 : decode cL_acts 194 = .ok (.invokestatic 206, 3) := by decide +kernel
theorem dL_acts_197 : decode cL_acts 197 = .ok (.istore 6, 2) := by decide +kernel
theorem dL_acts_199 : decode cL_acts 199 = .ok (.iload_n 3, 1) := by decide +kernel
theorem dL_acts_200 : decode cL_acts 200 = .ok (.ifCond .eq 11, 3) := by decide +kernel
theorem dL_acts_203 : decode cL_acts 203 = .ok (.aload_n 1, 1) := by decide +kernel
theorem dL_acts_204 : decode cL_acts 204 = .ok (.iconst 4, 1) := by decide +kernel
theorem dL_acts_205 : decode cL_acts 205 = .ok (.invokestatic 206, 3) := by decide +kernel
theorem dL_acts_208 : decode cL_acts 208 = .ok (.ifCond .ne 7, 3) := by decide +kernel
theorem dL_acts_211 : decode cL_acts 211 = .ok (.iconst (-1), 1) := by decide +kernel
theorem dL_acts_212 : decode cL_acts 212 = .ok (.goto 8, 3) := by decide +kernel
theorem dL_acts_215 : decode cL_acts 215 = .ok (.aload_n 1, 1) := by decide +kernel
theorem dL_acts_216 : decode cL_acts 216 = .ok (.iload_n 3, 1) := by decide +kernel
theorem dL_acts_217 : decode cL_acts 217 = .ok (.invokestatic 206, 3) := by decide +kernel
theorem dL_acts_220 : decode cL_acts 220 = .ok (.istore 7, 2) := by decide +kernel
theorem dL_acts_222 : decode cL_acts 222 = .ok (.aload_n 0, 1) := by decide +kernel
theorem dL_acts_223 : decode cL_acts 223 = .ok (.iload_n 2, 1) := by decide +kernel
theorem dL_acts_224 : decode cL_acts 224 = .ok (.invokestatic 181, 3) := by decide +kernel
theorem dL_acts_227 : decode cL_acts 227 = .ok (.ifCond .ne 23, 3) := by decide +kernel
theorem dL_acts_230 : decode cL_acts 230 = .ok (.iload 7, 2) := by decide +kernel
theorem dL_acts_232 : decode cL_acts 232 = .ok (.iconst (-1), 1) := by decide +kernel
theorem dL_acts_233 : decode cL_acts 233 = .ok (.if_icmp .eq 13, 3) := by decide +kernel
theorem dL_acts_236 : decode cL_acts 236 = .ok (.aload_n 0, 1) := by decide +kernel
theorem dL_acts_237 : decode cL_acts 237 = .ok (.iload 7, 2) := by decide +kernel
theorem dL_acts_239 : decode cL_acts 239 = .ok (.invokestatic 187, 3) := by decide +kernel
theorem dL_acts_242 : decode cL_acts 242 = .ok (.iload_n 2, 1) := by decide +kernel
theorem dL_acts_243 : decode cL_acts 243 = .ok (.if_icmp .ne 7, 3) := by decide +kernel
theorem dL_acts_246 : decode cL_acts 246 = .ok (.iconst 1, 1) := by decide +kernel
theorem dL_acts_247 : decode cL_acts 247 = .ok (.goto 4, 3) := by decide +kernel
theorem dL_acts_250 : decode cL_acts 250 = .ok (.iconst 0, 1) := by decide +kernel
theorem dL_acts_251 : decode cL_acts 251 = .ok (.istore 8, 2) := by decide +kernel
theorem dL_acts_253 : decode cL_acts 253 = .ok (.iload 7, 2) := by decide +kernel
theorem dL_acts_255 : decode cL_acts 255 = .ok (.iconst (-1), 1) := by decide +kernel
