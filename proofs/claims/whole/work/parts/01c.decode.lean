theorem dX0_init_0 : decode cX0_init 0 = .ok (.aload_n 0, 1) := by decide +kernel
theorem dX0_init_1 : decode cX0_init 1 = .ok (.invokespecial 3, 3) := by decide +kernel
theorem dX0_init_4 : decode cX0_init 4 = .ok (.aload_n 0, 1) := by decide +kernel
theorem dX0_init_5 : decode cX0_init 5 = .ok (.iconst 0, 1) := by decide +kernel
theorem dX0_init_6 : decode cX0_init 6 = .ok (.putfield 9, 3) := by decide +kernel
theorem dX0_init_9 : decode cX0_init 9 = .ok (.aload_n 0, 1) := by decide +kernel
theorem dX0_init_10 : decode cX0_init 10 = .ok (.iconst 0, 1) := by decide +kernel
theorem dX0_init_11 : decode cX0_init 11 = .ok (.putfield 15, 3) := by decide +kernel
theorem dX0_init_14 : decode cX0_init 14 = .ok (.aload_n 0, 1) := by decide +kernel
theorem dX0_init_15 : decode cX0_init 15 = .ok (.iconst (-1), 1) := by decide +kernel
theorem dX0_init_16 : decode cX0_init 16 = .ok (.putfield 18, 3) := by decide +kernel
theorem dX0_init_19 : decode cX0_init 19 = .ok (.aload_n 0, 1) := by decide +kernel
theorem dX0_init_20 : decode cX0_init 20 = .ok (.iconst (-1), 1) := by decide +kernel
theorem dX0_init_21 : decode cX0_init 21 = .ok (.putfield 21, 3) := by decide +kernel
theorem dX0_init_24 : decode cX0_init 24 = .ok (.aload_n 0, 1) := by decide +kernel
theorem dX0_init_25 : decode cX0_init 25 = .ok (.iconst (-1), 1) := by decide +kernel
theorem dX0_init_26 : decode cX0_init 26 = .ok (.putfield 24, 3) := by decide +kernel
theorem dX0_init_29 : decode cX0_init 29 = .ok (.aload_n 0, 1) := by decide +kernel
theorem dX0_init_30 : decode cX0_init 30 = .ok (.aload_n 1, 1) := by decide +kernel
theorem dX0_init_31 : decode cX0_init 31 = .ok (.putfield 27, 3) := by decide +kernel
theorem dX0_init_34 : decode cX0_init 34 = .ok (.aload_n 0, 1) := by decide +kernel
theorem dX0_init_35 : decode cX0_init 35 = .ok (.iload_n 2, 1) := by decide +kernel
theorem dX0_init_36 : decode cX0_init 36 = .ok (.putfield 31, 3) := by decide +kernel
theorem dX0_init_39 : decode cX0_init 39 = .ok (.aload_n 0, 1) := by decide +kernel
theorem dX0_init_40 : decode cX0_init 40 = .ok (.iload_n 2, 1) := by decide +kernel
theorem dX0_init_41 : decode cX0_init 41 = .ok (.putfield 34, 3) := by decide +kernel
theorem dX0_init_44 : decode cX0_init 44 = .ok (.return_, 1) := by decide +kernel
theorem dX0_bring_0 : decode cX0_bring 0 = .ok (.aload_n 0, 1) := by decide +kernel
theorem dX0_bring_1 : decode cX0_bring 1 = .ok (.iload_n 1, 1) := by decide +kernel
theorem dX0_bring_2 : decode cX0_bring 2 = .ok (.putfield 9, 3) := by decide +kernel
theorem dX0_bring_5 : decode cX0_bring 5 = .ok (.aload_n 0, 1) := by decide +kernel
theorem dX0_bring_6 : decode cX0_bring 6 = .ok (.iload_n 2, 1) := by decide +kernel
theorem dX0_bring_7 : decode cX0_bring 7 = .ok (.putfield 34, 3) := by decide +kernel
theorem dX0_bring_10 : decode cX0_bring 10 = .ok (.return_, 1) := by decide +kernel
theorem dX0_isAt_0 : decode cX0_isAt 0 = .ok (.aload_n 0, 1) := by decide +kernel
theorem dX0_isAt_1 : decode cX0_isAt 1 = .ok (.getfield 9, 3) := by decide +kernel
theorem dX0_isAt_4 : decode cX0_isAt 4 = .ok (.iload_n 1, 1) := by decide +kernel
theorem dX0_isAt_5 : decode cX0_isAt 5 = .ok (.if_icmp .ne 15, 3) := by decide +kernel
theorem dX0_isAt_8 : decode cX0_isAt 8 = .ok (.aload_n 0, 1) := by decide +kernel
theorem dX0_isAt_9 : decode cX0_isAt 9 = .ok (.getfield 34, 3) := by decide +kernel
theorem dX0_isAt_12 : decode cX0_isAt 12 = .ok (.iload_n 2, 1) := by decide +kernel
theorem dX0_isAt_13 : decode cX0_isAt 13 = .ok (.if_icmp .ne 7, 3) := by decide +kernel
theorem dX0_isAt_16 : decode cX0_isAt 16 = .ok (.iconst 1, 1) := by decide +kernel
theorem dX0_isAt_17 : decode cX0_isAt 17 = .ok (.goto 4, 3) := by decide +kernel
theorem dX0_isAt_20 : decode cX0_isAt 20 = .ok (.iconst 0, 1) := by decide +kernel
theorem dX0_isAt_21 : decode cX0_isAt 21 = .ok (.ireturn, 1) := by decide +kernel
theorem dX0_isBooked_0 : decode cX0_isBooked 0 = .ok (.aload_n 0, 1) := by decide +kernel
theorem dX0_isBooked_1 : decode cX0_isBooked 1 = .ok (.getfield 24, 3) := by decide +kernel
theorem dX0_isBooked_4 : decode cX0_isBooked 4 = .ok (.iconst (-1), 1) := by decide +kernel
theorem dX0_isBooked_5 : decode cX0_isBooked 5 = .ok (.if_icmp .eq 7, 3) := by decide +kernel
theorem dX0_isBooked_8 : decode cX0_isBooked 8 = .ok (.iconst 1, 1) := by decide +kernel
theorem dX0_isBooked_9 : decode cX0_isBooked 9 = .ok (.goto 4, 3) := by decide +kernel
theorem dX0_isBooked_12 : decode cX0_isBooked 12 = .ok (.iconst 0, 1) := by decide +kernel
theorem dX0_isBooked_13 : decode cX0_isBooked 13 = .ok (.ireturn, 1) := by decide +kernel
theorem dX0_isBookedAt_0 : decode cX0_isBookedAt 0 = .ok (.aload_n 0, 1) := by decide +kernel
theorem dX0_isBookedAt_1 : decode cX0_isBookedAt 1 = .ok (.getfield 21, 3) := by decide +kernel
theorem dX0_isBookedAt_4 : decode cX0_isBookedAt 4 = .ok (.iload_n 1, 1) := by decide +kernel
theorem dX0_isBookedAt_5 : decode cX0_isBookedAt 5 = .ok (.if_icmp .ne 15, 3) := by decide +kernel
theorem dX0_isBookedAt_8 : decode cX0_isBookedAt 8 = .ok (.aload_n 0, 1) := by decide +kernel
theorem dX0_isBookedAt_9 : decode cX0_isBookedAt 9 = .ok (.getfield 24, 3) := by decide +kernel
theorem dX0_isBookedAt_12 : decode cX0_isBookedAt 12 = .ok (.iload_n 2, 1) := by decide +kernel
theorem dX0_isBookedAt_13 : decode cX0_isBookedAt 13 = .ok (.if_icmp .ne 7, 3) := by decide +kernel
theorem dX0_isBookedAt_16 : decode cX0_isBookedAt 16 = .ok (.iconst 1, 1) := by decide +kernel
theorem dX0_isBookedAt_17 : decode cX0_isBookedAt 17 = .ok (.goto 4, 3) := by decide +kernel
theorem dX0_isBookedAt_20 : decode cX0_isBookedAt 20 = .ok (.iconst 0, 1) := by decide +kernel
theorem dX0_isBookedAt_21 : decode cX0_isBookedAt 21 = .ok (.ireturn, 1) := by decide +kernel
theorem dX0_dropBooking_0 : decode cX0_dropBooking 0 = .ok (.aload_n 0, 1) := by decide +kernel
theorem dX0_dropBooking_1 : decode cX0_dropBooking 1 = .ok (.iconst (-1), 1) := by decide +kernel
theorem dX0_dropBooking_2 : decode cX0_dropBooking 2 = .ok (.putfield 21, 3) := by decide +kernel
theorem dX0_dropBooking_5 : decode cX0_dropBooking 5 = .ok (.aload_n 0, 1) := by decide +kernel
theorem dX0_dropBooking_6 : decode cX0_dropBooking 6 = .ok (.iconst (-1), 1) := by decide +kernel
theorem dX0_dropBooking_7 : decode cX0_dropBooking 7 = .ok (.putfield 24, 3) := by decide +kernel
theorem dX0_dropBooking_10 : decode cX0_dropBooking 10 = .ok (.return_, 1) := by decide +kernel
theorem dX1_init_0 : decode cX1_init 0 = .ok (.aload_n 0, 1) := by decide +kernel
theorem dX1_init_1 : decode cX1_init 1 = .ok (.iload_n 1, 1) := by decide +kernel
theorem dX1_init_2 : decode cX1_init 2 = .ok (.invokespecial 1, 3) := by decide +kernel
theorem dX1_init_5 : decode cX1_init 5 = .ok (.aload_n 0, 1) := by decide +kernel
theorem dX1_init_6 : decode cX1_init 6 = .ok (.iload_n 2, 1) := by decide +kernel
theorem dX1_init_7 : decode cX1_init 7 = .ok (.putfield 7, 3) := by decide +kernel
theorem dX1_init_10 : decode cX1_init 10 = .ok (.return_, 1) := by decide +kernel
theorem dX2_init_0 : decode cX2_init 0 = .ok (.aload_n 0, 1) := by decide +kernel
theorem dX2_init_1 : decode cX2_init 1 = .ok (.invokespecial 3, 3) := by decide +kernel
theorem dX2_init_4 : decode cX2_init 4 = .ok (.aload_n 0, 1) := by decide +kernel
theorem dX2_init_5 : decode cX2_init 5 = .ok (.iconst 0, 1) := by decide +kernel
theorem dX2_init_6 : decode cX2_init 6 = .ok (.putfield 9, 3) := by decide +kernel
theorem dX2_init_9 : decode cX2_init 9 = .ok (.aload_n 0, 1) := by decide +kernel
theorem dX2_init_10 : decode cX2_init 10 = .ok (.iconst (-1), 1) := by decide +kernel
theorem dX2_init_11 : decode cX2_init 11 = .ok (.putfield 15, 3) := by decide +kernel
theorem dX2_init_14 : decode cX2_init 14 = .ok (.aload_n 0, 1) := by decide +kernel
theorem dX2_init_15 : decode cX2_init 15 = .ok (.iconst 0, 1) := by decide +kernel
theorem dX2_init_16 : decode cX2_init 16 = .ok (.putfield 18, 3) := by decide +kernel
theorem dX2_init_19 : decode cX2_init 19 = .ok (.aload_n 0, 1) := by decide +kernel
theorem dX2_init_20 : decode cX2_init 20 = .ok (.iload_n 1, 1) := by decide +kernel
theorem dX2_init_21 : decode cX2_init 21 = .ok (.putfield 22, 3) := by decide +kernel
theorem dX2_init_24 : decode cX2_init 24 = .ok (.aload_n 0, 1) := by decide +kernel
theorem dX2_init_25 : decode cX2_init 25 = .ok (.iload_n 2, 1) := by decide +kernel
theorem dX2_init_26 : decode cX2_init 26 = .ok (.putfield 25, 3) := by decide +kernel
theorem dX2_init_29 : decode cX2_init 29 = .ok (.aload_n 0, 1) := by decide +kernel
theorem dX2_init_30 : decode cX2_init 30 = .ok (.aload_n 3, 1) := by decide +kernel
theorem dX2_init_31 : decode cX2_init 31 = .ok (.putfield 28, 3) := by decide +kernel
theorem dX2_init_34 : decode cX2_init 34 = .ok (.aload_n 0, 1) := by decide +kernel
theorem dX2_init_35 : decode cX2_init 35 = .ok (.iload 4, 2) := by decide +kernel
theorem dX2_init_37 : decode cX2_init 37 = .ok (.putfield 32, 3) := by decide +kernel
theorem dX2_init_40 : decode cX2_init 40 = .ok (.return_, 1) := by decide +kernel
theorem dX2_isMoveMade_0 : decode cX2_isMoveMade 0 = .ok (.aload_n 0, 1) := by decide +kernel
theorem dX2_isMoveMade_1 : decode cX2_isMoveMade 1 = .ok (.getfield 15, 3) := by decide +kernel
theorem dX2_isMoveMade_4 : decode cX2_isMoveMade 4 = .ok (.iconst (-1), 1) := by decide +kernel
theorem dX2_isMoveMade_5 : decode cX2_isMoveMade 5 = .ok (.if_icmp .eq 7, 3) := by decide +kernel
theorem dX2_isMoveMade_8 : decode cX2_isMoveMade 8 = .ok (.iconst 1, 1) := by decide +kernel
theorem dX2_isMoveMade_9 : decode cX2_isMoveMade 9 = .ok (.goto 4, 3) := by decide +kernel
theorem dX2_isMoveMade_12 : decode cX2_isMoveMade 12 = .ok (.iconst 0, 1) := by decide +kernel
theorem dX2_isMoveMade_13 : decode cX2_isMoveMade 13 = .ok (.ireturn, 1) := by decide +kernel
theorem dX3_init_0 : decode cX3_init 0 = .ok (.aload_n 0, 1) := by decide +kernel
theorem dX3_init_1 : decode cX3_init 1 = .ok (.invokespecial 1, 3) := by decide +kernel
theorem dX3_init_4 : decode cX3_init 4 = .ok (.aload_n 0, 1) := by decide +kernel
theorem dX3_init_5 : decode cX3_init 5 = .ok (.iconst 0, 1) := by decide +kernel
theorem dX3_init_6 : decode cX3_init 6 = .ok (.putfield 7, 3) := by decide +kernel
theorem dX3_init_9 : decode cX3_init 9 = .ok (.aload_n 0, 1) := by decide +kernel
theorem dX3_init_10 : decode cX3_init 10 = .ok (.iload_n 1, 1) := by decide +kernel
theorem dX3_init_11 : decode cX3_init 11 = .ok (.putfield 13, 3) := by decide +kernel
theorem dX3_init_14 : decode cX3_init 14 = .ok (.aload_n 0, 1) := by decide +kernel
theorem dX3_init_15 : decode cX3_init 15 = .ok (.iload_n 2, 1) := by decide +kernel
theorem dX3_init_16 : decode cX3_init 16 = .ok (.putfield 17, 3) := by decide +kernel
theorem dX3_init_19 : decode cX3_init 19 = .ok (.return_, 1) := by decide +kernel
theorem dX4_init_0 : decode cX4_init 0 = .ok (.aload_n 0, 1) := by decide +kernel
theorem dX4_init_1 : decode cX4_init 1 = .ok (.iload_n 1, 1) := by decide +kernel
theorem dX4_init_2 : decode cX4_init 2 = .ok (.invokespecial 1, 3) := by decide +kernel
theorem dX4_init_5 : decode cX4_init 5 = .ok (.aload_n 0, 1) := by decide +kernel
theorem dX4_init_6 : decode cX4_init 6 = .ok (.aconst_null, 1) := by decide +kernel
theorem dX4_init_7 : decode cX4_init 7 = .ok (.putfield 7, 3) := by decide +kernel
theorem dX4_init_10 : decode cX4_init 10 = .ok (.return_, 1) := by decide +kernel
theorem dX5_init_0 : decode cX5_init 0 = .ok (.aload_n 0, 1) := by decide +kernel
theorem dX5_init_1 : decode cX5_init 1 = .ok (.invokespecial 3, 3) := by decide +kernel
theorem dX5_init_4 : decode cX5_init 4 = .ok (.aload_n 0, 1) := by decide +kernel
theorem dX5_init_5 : decode cX5_init 5 = .ok (.new 9, 3) := by decide +kernel
theorem dX5_init_8 : decode cX5_init 8 = .ok (.dup, 1) := by decide +kernel
theorem dX5_init_9 : decode cX5_init 9 = .ok (.invokespecial 11, 3) := by decide +kernel
theorem dX5_init_12 : decode cX5_init 12 = .ok (.putfield 12, 3) := by decide +kernel
theorem dX5_init_15 : decode cX5_init 15 = .ok (.aload_n 0, 1) := by decide +kernel
theorem dX5_init_16 : decode cX5_init 16 = .ok (.new 9, 3) := by decide +kernel
theorem dX5_init_19 : decode cX5_init 19 = .ok (.dup, 1) := by decide +kernel
theorem dX5_init_20 : decode cX5_init 20 = .ok (.invokespecial 11, 3) := by decide +kernel
theorem dX5_init_23 : decode cX5_init 23 = .ok (.putfield 18, 3) := by decide +kernel
theorem dX5_init_26 : decode cX5_init 26 = .ok (.aload_n 0, 1) := by decide +kernel
theorem dX5_init_27 : decode cX5_init 27 = .ok (.iconst 0, 1) := by decide +kernel
theorem dX5_init_28 : decode cX5_init 28 = .ok (.putfield 21, 3) := by decide +kernel
theorem dX5_init_31 : decode cX5_init 31 = .ok (.aload_n 0, 1) := by decide +kernel
theorem dX5_init_32 : decode cX5_init 32 = .ok (.iconst 0, 1) := by decide +kernel
theorem dX5_init_33 : decode cX5_init 33 = .ok (.putfield 25, 3) := by decide +kernel
theorem dX5_init_36 : decode cX5_init 36 = .ok (.aload_n 0, 1) := by decide +kernel
theorem dX5_init_37 : decode cX5_init 37 = .ok (.iconst 0, 1) := by decide +kernel
theorem dX5_init_38 : decode cX5_init 38 = .ok (.putfield 28, 3) := by decide +kernel
theorem dX5_init_41 : decode cX5_init 41 = .ok (.aload_n 0, 1) := by decide +kernel
theorem dX5_init_42 : decode cX5_init 42 = .ok (.aconst_null, 1) := by decide +kernel
theorem dX5_init_43 : decode cX5_init 43 = .ok (.putfield 32, 3) := by decide +kernel
theorem dX5_init_46 : decode cX5_init 46 = .ok (.aload_n 0, 1) := by decide +kernel
theorem dX5_init_47 : decode cX5_init 47 = .ok (.iload_n 1, 1) := by decide +kernel
theorem dX5_init_48 : decode cX5_init 48 = .ok (.putfield 36, 3) := by decide +kernel
theorem dX5_init_51 : decode cX5_init 51 = .ok (.return_, 1) := by decide +kernel
theorem dX5_takeOut_0 : decode cX5_takeOut 0 = .ok (.aload_n 1, 1) := by decide +kernel
theorem dX5_takeOut_1 : decode cX5_takeOut 1 = .ok (.aload_n 0, 1) := by decide +kernel
theorem dX5_takeOut_2 : decode cX5_takeOut 2 = .ok (.getfield 12, 3) := by decide +kernel
theorem dX5_takeOut_5 : decode cX5_takeOut 5 = .ok (.invokestatic 39, 3) := by decide +kernel
theorem dX5_takeOut_8 : decode cX5_takeOut 8 = .ok (.istore_n 2, 1) := by decide +kernel
theorem dX5_takeOut_9 : decode cX5_takeOut 9 = .ok (.iload_n 2, 1) := by decide +kernel
theorem dX5_takeOut_10 : decode cX5_takeOut 10 = .ok (.iconst (-1), 1) := by decide +kernel
theorem dX5_takeOut_11 : decode cX5_takeOut 11 = .ok (.if_icmp .eq 12, 3) := by decide +kernel
theorem dX5_takeOut_14 : decode cX5_takeOut 14 = .ok (.aload_n 0, 1) := by decide +kernel
theorem dX5_takeOut_15 : decode cX5_takeOut 15 = .ok (.getfield 12, 3) := by decide +kernel
theorem dX5_takeOut_18 : decode cX5_takeOut 18 = .ok (.iload_n 2, 1) := by decide +kernel
theorem dX5_takeOut_19 : decode cX5_takeOut 19 = .ok (.invokevirtual 43, 3) := by decide +kernel
theorem dX5_takeOut_22 : decode cX5_takeOut 22 = .ok (.pop, 1) := by decide +kernel
theorem dX5_takeOut_23 : decode cX5_takeOut 23 = .ok (.return_, 1) := by decide +kernel
theorem dX5_putLast_0 : decode cX5_putLast 0 = .ok (.aload_n 0, 1) := by decide +kernel
theorem dX5_putLast_1 : decode cX5_putLast 1 = .ok (.aload_n 1, 1) := by decide +kernel
theorem dX5_putLast_2 : decode cX5_putLast 2 = .ok (.invokevirtual 47, 3) := by decide +kernel
theorem dX5_putLast_5 : decode cX5_putLast 5 = .ok (.aload_n 0, 1) := by decide +kernel
theorem dX5_putLast_6 : decode cX5_putLast 6 = .ok (.getfield 12, 3) := by decide +kernel
theorem dX5_putLast_9 : decode cX5_putLast 9 = .ok (.aload_n 1, 1) := by decide +kernel
theorem dX5_putLast_10 : decode cX5_putLast 10 = .ok (.invokevirtual 51, 3) := by decide +kernel
theorem dX5_putLast_13 : decode cX5_putLast 13 = .ok (.pop, 1) := by decide +kernel
theorem dX5_putLast_14 : decode cX5_putLast 14 = .ok (.return_, 1) := by decide +kernel
theorem dX6_init_0 : decode cX6_init 0 = .ok (.aload_n 0, 1) := by decide +kernel
theorem dX6_init_1 : decode cX6_init 1 = .ok (.invokespecial 3, 3) := by decide +kernel
theorem dX6_init_4 : decode cX6_init 4 = .ok (.aload_n 0, 1) := by decide +kernel
theorem dX6_init_5 : decode cX6_init 5 = .ok (.new 9, 3) := by decide +kernel
theorem dX6_init_8 : decode cX6_init 8 = .ok (.dup, 1) := by decide +kernel
theorem dX6_init_9 : decode cX6_init 9 = .ok (.invokespecial 11, 3) := by decide +kernel
theorem dX6_init_12 : decode cX6_init 12 = .ok (.putfield 12, 3) := by decide +kernel
theorem dX6_init_15 : decode cX6_init 15 = .ok (.aload_n 0, 1) := by decide +kernel
theorem dX6_init_16 : decode cX6_init 16 = .ok (.new 9, 3) := by decide +kernel
theorem dX6_init_19 : decode cX6_init 19 = .ok (.dup, 1) := by decide +kernel
theorem dX6_init_20 : decode cX6_init 20 = .ok (.invokespecial 11, 3) := by decide +kernel
theorem dX6_init_23 : decode cX6_init 23 = .ok (.putfield 16, 3) := by decide +kernel
theorem dX6_init_26 : decode cX6_init 26 = .ok (.aload_n 0, 1) := by decide +kernel
theorem dX6_init_27 : decode cX6_init 27 = .ok (.new 9, 3) := by decide +kernel
theorem dX6_init_30 : decode cX6_init 30 = .ok (.dup, 1) := by decide +kernel
theorem dX6_init_31 : decode cX6_init 31 = .ok (.invokespecial 11, 3) := by decide +kernel
theorem dX6_init_34 : decode cX6_init 34 = .ok (.putfield 19, 3) := by decide +kernel
theorem dX6_init_37 : decode cX6_init 37 = .ok (.aload_n 0, 1) := by decide +kernel
theorem dX6_init_38 : decode cX6_init 38 = .ok (.new 9, 3) := by decide +kernel
theorem dX6_init_41 : decode cX6_init 41 = .ok (.dup, 1) := by decide +kernel
theorem dX6_init_42 : decode cX6_init 42 = .ok (.invokespecial 11, 3) := by decide +kernel
theorem dX6_init_45 : decode cX6_init 45 = .ok (.putfield 22, 3) := by decide +kernel
theorem dX6_init_48 : decode cX6_init 48 = .ok (.aload_n 0, 1) := by decide +kernel
theorem dX6_init_49 : decode cX6_init 49 = .ok (.new 9, 3) := by decide +kernel
theorem dX6_init_52 : decode cX6_init 52 = .ok (.dup, 1) := by decide +kernel
theorem dX6_init_53 : decode cX6_init 53 = .ok (.invokespecial 11, 3) := by decide +kernel
theorem dX6_init_56 : decode cX6_init 56 = .ok (.putfield 25, 3) := by decide +kernel
theorem dX6_init_59 : decode cX6_init 59 = .ok (.aload_n 0, 1) := by decide +kernel
theorem dX6_init_60 : decode cX6_init 60 = .ok (.new 9, 3) := by decide +kernel
theorem dX6_init_63 : decode cX6_init 63 = .ok (.dup, 1) := by decide +kernel
theorem dX6_init_64 : decode cX6_init 64 = .ok (.invokespecial 11, 3) := by decide +kernel
theorem dX6_init_67 : decode cX6_init 67 = .ok (.putfield 28, 3) := by decide +kernel
theorem dX6_init_70 : decode cX6_init 70 = .ok (.aload_n 0, 1) := by decide +kernel
theorem dX6_init_71 : decode cX6_init 71 = .ok (.iconst 0, 1) := by decide +kernel
theorem dX6_init_72 : decode cX6_init 72 = .ok (.putfield 31, 3) := by decide +kernel
theorem dX6_init_75 : decode cX6_init 75 = .ok (.aload_n 0, 1) := by decide +kernel
theorem dX6_init_76 : decode cX6_init 76 = .ok (.iconst 0, 1) := by decide +kernel
theorem dX6_init_77 : decode cX6_init 77 = .ok (.putfield 35, 3) := by decide +kernel
theorem dX6_init_80 : decode cX6_init 80 = .ok (.iconst 0, 1) := by decide +kernel
theorem dX6_init_81 : decode cX6_init 81 = .ok (.istore_n 1, 1) := by decide +kernel
theorem dX6_init_82 : decode cX6_init 82 = .ok (.iload_n 1, 1) := by decide +kernel
theorem dX6_init_83 : decode cX6_init 83 = .ok (.iconst 4, 1) := by decide +kernel
theorem dX6_init_84 : decode cX6_init 84 = .ok (.if_icmp .ge 28, 3) := by decide +kernel
theorem dX6_init_87 : decode cX6_init 87 = .ok (.aload_n 0, 1) := by decide +kernel
theorem dX6_init_88 : decode cX6_init 88 = .ok (.getfield 25, 3) := by decide +kernel
theorem dX6_init_91 : decode cX6_init 91 = .ok (.new 38, 3) := by decide +kernel
theorem dX6_init_94 : decode cX6_init 94 = .ok (.dup, 1) := by decide +kernel
theorem dX6_init_95 : decode cX6_init 95 = .ok (.iload_n 1, 1) := by decide +kernel
theorem dX6_init_96 : decode cX6_init 96 = .ok (.iload_n 1, 1) := by decide +kernel
theorem dX6_init_97 : decode cX6_init 97 = .ok (.iconst 5, 1) := by decide +kernel
theorem dX6_init_98 : decode cX6_init 98 = .ok (.imul, 1) := by decide +kernel
theorem dX6_init_99 : decode cX6_init 99 = .ok (.invokespecial 40, 3) := by decide +kernel
theorem dX6_init_102 : decode cX6_init 102 = .ok (.invokevirtual 43, 3) := by decide +kernel
theorem dX6_init_105 : decode cX6_init 105 = .ok (.pop, 1) := by decide +kernel
theorem dX6_init_106 : decode cX6_init 106 = .ok (.iinc 1 1, 3) := by decide +kernel
theorem dX6_init_109 : decode cX6_init 109 = .ok (.goto (-27), 3) := by decide +kernel
theorem dX6_init_112 : decode cX6_init 112 = .ok (.iconst 0, 1) := by decide +kernel
theorem dX6_init_113 : decode cX6_init 113 = .ok (.istore_n 1, 1) := by decide +kernel
theorem dX6_init_114 : decode cX6_init 114 = .ok (.iload_n 1, 1) := by decide +kernel
theorem dX6_init_115 : decode cX6_init 115 = .ok (.iconst 4, 1) := by decide +kernel
theorem dX6_init_116 : decode cX6_init 116 = .ok (.if_icmp .ge 27, 3) := by decide +kernel
theorem dX6_init_119 : decode cX6_init 119 = .ok (.aload_n 0, 1) := by decide +kernel
theorem dX6_init_120 : decode cX6_init 120 = .ok (.getfield 28, 3) := by decide +kernel
theorem dX6_init_123 : decode cX6_init 123 = .ok (.new 47, 3) := by decide +kernel
theorem dX6_init_126 : decode cX6_init 126 = .ok (.dup, 1) := by decide +kernel
theorem dX6_init_127 : decode cX6_init 127 = .ok (.iconst 4, 1) := by decide +kernel
theorem dX6_init_128 : decode cX6_init 128 = .ok (.iload_n 1, 1) := by decide +kernel
theorem dX6_init_129 : decode cX6_init 129 = .ok (.iadd, 1) := by decide +kernel
theorem dX6_init_130 : decode cX6_init 130 = .ok (.invokespecial 49, 3) := by decide +kernel
theorem dX6_init_133 : decode cX6_init 133 = .ok (.invokevirtual 43, 3) := by decide +kernel
theorem dX6_init_136 : decode cX6_init 136 = .ok (.pop, 1) := by decide +kernel
theorem dX6_init_137 : decode cX6_init 137 = .ok (.iinc 1 1, 3) := by decide +kernel
theorem dX6_init_140 : decode cX6_init 140 = .ok (.goto (-26), 3) := by decide +kernel
theorem dX6_init_143 : decode cX6_init 143 = .ok (.return_, 1) := by decide +kernel
theorem dX6_berth_0 : decode cX6_berth 0 = .ok (.iload_n 1, 1) := by decide +kernel
theorem dX6_berth_1 : decode cX6_berth 1 = .ok (.bipush 16, 2) := by decide +kernel
theorem dX6_berth_3 : decode cX6_berth 3 = .ok (.invokestatic 52, 3) := by decide +kernel
theorem dX6_berth_6 : decode cX6_berth 6 = .ok (.iload_n 2, 1) := by decide +kernel
theorem dX6_berth_7 : decode cX6_berth 7 = .ok (.iconst 1, 1) := by decide +kernel
theorem dX6_berth_8 : decode cX6_berth 8 = .ok (.if_icmp .lt 17, 3) := by decide +kernel
theorem dX6_berth_11 : decode cX6_berth 11 = .ok (.iload_n 2, 1) := by decide +kernel
theorem dX6_berth_12 : decode cX6_berth 12 = .ok (.bipush 8, 2) := by decide +kernel
theorem dX6_berth_14 : decode cX6_berth 14 = .ok (.if_icmp .gt 11, 3) := by decide +kernel
theorem dX6_berth_17 : decode cX6_berth 17 = .ok (.iload_n 1, 1) := by decide +kernel
theorem dX6_berth_18 : decode cX6_berth 18 = .ok (.iload_n 2, 1) := by decide +kernel
theorem dX6_berth_19 : decode cX6_berth 19 = .ok (.iadd, 1) := by decide +kernel
theorem dX6_berth_20 : decode cX6_berth 20 = .ok (.bipush 16, 2) := by decide +kernel
theorem dX6_berth_22 : decode cX6_berth 22 = .ok (.if_icmp .le 13, 3) := by decide +kernel
theorem dX6_berth_25 : decode cX6_berth 25 = .ok (.new 55, 3) := by decide +kernel
theorem dX6_berth_28 : decode cX6_berth 28 = .ok (.dup, 1) := by decide +kernel
theorem dX6_berth_29 : decode cX6_berth 29 = .ok (.ldc 57, 2) := by decide +kernel
theorem dX6_berth_31 : decode cX6_berth 31 = .ok (.invokespecial 59, 3) := by decide +kernel
theorem dX6_berth_34 : decode cX6_berth 34 = .ok (.athrow, 1) := by decide +kernel
theorem dX6_berth_35 : decode cX6_berth 35 = .ok (.aload_n 0, 1) := by decide +kernel
theorem dX6_berth_36 : decode cX6_berth 36 = .ok (.getfield 12, 3) := by decide +kernel
theorem dX6_berth_39 : decode cX6_berth 39 = .ok (.invokevirtual 62, 3) := by decide +kernel
theorem dX6_berth_42 : decode cX6_berth 42 = .ok (.bipush 10, 2) := by decide +kernel
theorem dX6_berth_44 : decode cX6_berth 44 = .ok (.if_icmp .ge 14, 3) := by decide +kernel
theorem dX6_berth_47 : decode cX6_berth 47 = .ok (.aload_n 0, 1) := by decide +kernel
theorem dX6_berth_48 : decode cX6_berth 48 = .ok (.iload_n 1, 1) := by decide +kernel
theorem dX6_berth_49 : decode cX6_berth 49 = .ok (.iload_n 1, 1) := by decide +kernel
theorem dX6_berth_50 : decode cX6_berth 50 = .ok (.iload_n 2, 1) := by decide +kernel
theorem dX6_berth_51 : decode cX6_berth 51 = .ok (.iadd, 1) := by decide +kernel
theorem dX6_berth_52 : decode cX6_berth 52 = .ok (.invokevirtual 66, 3) := by decide +kernel
theorem dX6_berth_55 : decode cX6_berth 55 = .ok (.ifCond .eq 13, 3) := by decide +kernel
theorem dX6_berth_58 : decode cX6_berth 58 = .ok (.new 70, 3) := by decide +kernel
theorem dX6_berth_61 : decode cX6_berth 61 = .ok (.dup, 1) := by decide +kernel
theorem dX6_berth_62 : decode cX6_berth 62 = .ok (.ldc 72, 2) := by decide +kernel
theorem dX6_berth_64 : decode cX6_berth 64 = .ok (.invokespecial 74, 3) := by decide +kernel
theorem dX6_berth_67 : decode cX6_berth 67 = .ok (.athrow, 1) := by decide +kernel
theorem dX6_berth_68 : decode cX6_berth 68 = .ok (.aload_n 0, 1) := by decide +kernel
theorem dX6_berth_69 : decode cX6_berth 69 = .ok (.getfield 12, 3) := by decide +kernel
theorem dX6_berth_72 : decode cX6_berth 72 = .ok (.new 75, 3) := by decide +kernel
theorem dX6_berth_75 : decode cX6_berth 75 = .ok (.dup, 1) := by decide +kernel
theorem dX6_berth_76 : decode cX6_berth 76 = .ok (.iload_n 1, 1) := by decide +kernel
theorem dX6_berth_77 : decode cX6_berth 77 = .ok (.iload_n 1, 1) := by decide +kernel
theorem dX6_berth_78 : decode cX6_berth 78 = .ok (.iload_n 2, 1) := by decide +kernel
theorem dX6_berth_79 : decode cX6_berth 79 = .ok (.iadd, 1) := by decide +kernel
theorem dX6_berth_80 : decode cX6_berth 80 = .ok (.invokespecial 77, 3) := by decide +kernel
theorem dX6_berth_83 : decode cX6_berth 83 = .ok (.invokevirtual 43, 3) := by decide +kernel
theorem dX6_berth_86 : decode cX6_berth 86 = .ok (.pop, 1) := by decide +kernel
theorem dX6_berth_87 : decode cX6_berth 87 = .ok (.aload_n 0, 1) := by decide +kernel
theorem dX6_berth_88 : decode cX6_berth 88 = .ok (.getfield 12, 3) := by decide +kernel
theorem dX6_berth_91 : decode cX6_berth 91 = .ok (.invokevirtual 62, 3) := by decide +kernel
theorem dX6_berth_94 : decode cX6_berth 94 = .ok (.iconst 1, 1) := by decide +kernel
theorem dX6_berth_95 : decode cX6_berth 95 = .ok (.isub, 1) := by decide +kernel
theorem dX6_berth_96 : decode cX6_berth 96 = .ok (.ireturn, 1) := by decide +kernel
theorem dX6_box_0 : decode cX6_box 0 = .ok (.aload_n 0, 1) := by decide +kernel
theorem dX6_box_1 : decode cX6_box 1 = .ok (.iload_n 1, 1) := by decide +kernel
theorem dX6_box_2 : decode cX6_box 2 = .ok (.invokevirtual 78, 3) := by decide +kernel
theorem dX6_box_5 : decode cX6_box 5 = .ok (.astore_n 3, 1) := by decide +kernel
theorem dX6_box_6 : decode cX6_box 6 = .ok (.iload_n 2, 1) := by decide +kernel
theorem dX6_box_7 : decode cX6_box 7 = .ok (.aload_n 3, 1) := by decide +kernel
theorem dX6_box_8 : decode cX6_box 8 = .ok (.getfield 82, 3) := by decide +kernel
theorem dX6_box_11 : decode cX6_box 11 = .ok (.if_icmp .lt 11, 3) := by decide +kernel
theorem dX6_box_14 : decode cX6_box 14 = .ok (.iload_n 2, 1) := by decide +kernel
theorem dX6_box_15 : decode cX6_box 15 = .ok (.aload_n 3, 1) := by decide +kernel
theorem dX6_box_16 : decode cX6_box 16 = .ok (.getfield 85, 3) := by decide +kernel
theorem dX6_box_19 : decode cX6_box 19 = .ok (.if_icmp .lt 13, 3) := by decide +kernel
theorem dX6_box_22 : decode cX6_box 22 = .ok (.new 55, 3) := by decide +kernel
theorem dX6_box_25 : decode cX6_box 25 = .ok (.dup, 1) := by decide +kernel
theorem dX6_box_26 : decode cX6_box 26 = .ok (.ldc 88, 2) := by decide +kernel
theorem dX6_box_28 : decode cX6_box 28 = .ok (.invokespecial 59, 3) := by decide +kernel
theorem dX6_box_31 : decode cX6_box 31 = .ok (.athrow, 1) := by decide +kernel
theorem dX6_box_32 : decode cX6_box 32 = .ok (.aload_n 0, 1) := by decide +kernel
theorem dX6_box_33 : decode cX6_box 33 = .ok (.getfield 16, 3) := by decide +kernel
theorem dX6_box_36 : decode cX6_box 36 = .ok (.invokevirtual 62, 3) := by decide +kernel
theorem dX6_box_39 : decode cX6_box 39 = .ok (.bipush 24, 2) := by decide +kernel
theorem dX6_box_41 : decode cX6_box 41 = .ok (.if_icmp .lt 13, 3) := by decide +kernel
theorem dX6_box_44 : decode cX6_box 44 = .ok (.new 70, 3) := by decide +kernel
theorem dX6_box_47 : decode cX6_box 47 = .ok (.dup, 1) := by decide +kernel
theorem dX6_box_48 : decode cX6_box 48 = .ok (.ldc 90, 2) := by decide +kernel
theorem dX6_box_50 : decode cX6_box 50 = .ok (.invokespecial 74, 3) := by decide +kernel
theorem dX6_box_53 : decode cX6_box 53 = .ok (.athrow, 1) := by decide +kernel
theorem dX6_box_54 : decode cX6_box 54 = .ok (.aload_n 0, 1) := by decide +kernel
theorem dX6_box_55 : decode cX6_box 55 = .ok (.getfield 16, 3) := by decide +kernel
theorem dX6_box_58 : decode cX6_box 58 = .ok (.new 92, 3) := by decide +kernel
theorem dX6_box_61 : decode cX6_box 61 = .ok (.dup, 1) := by decide +kernel
theorem dX6_box_62 : decode cX6_box 62 = .ok (.aload_n 3, 1) := by decide +kernel
theorem dX6_box_63 : decode cX6_box 63 = .ok (.iload_n 2, 1) := by decide +kernel
theorem dX6_box_64 : decode cX6_box 64 = .ok (.invokespecial 94, 3) := by decide +kernel
theorem dX6_box_67 : decode cX6_box 67 = .ok (.invokevirtual 43, 3) := by decide +kernel
theorem dX6_box_70 : decode cX6_box 70 = .ok (.pop, 1) := by decide +kernel
theorem dX6_box_71 : decode cX6_box 71 = .ok (.aload_n 0, 1) := by decide +kernel
theorem dX6_box_72 : decode cX6_box 72 = .ok (.getfield 16, 3) := by decide +kernel
theorem dX6_box_75 : decode cX6_box 75 = .ok (.invokevirtual 62, 3) := by decide +kernel
theorem dX6_box_78 : decode cX6_box 78 = .ok (.iconst 1, 1) := by decide +kernel
theorem dX6_box_79 : decode cX6_box 79 = .ok (.isub, 1) := by decide +kernel
theorem dX6_box_80 : decode cX6_box 80 = .ok (.ireturn, 1) := by decide +kernel
theorem dX6_leave_0 : decode cX6_leave 0 = .ok (.aload_n 0, 1) := by decide +kernel
theorem dX6_leave_1 : decode cX6_leave 1 = .ok (.iload_n 1, 1) := by decide +kernel
theorem dX6_leave_2 : decode cX6_leave 2 = .ok (.invokevirtual 78, 3) := by decide +kernel
theorem dX6_leave_5 : decode cX6_leave 5 = .ok (.astore_n 2, 1) := by decide +kernel
theorem dX6_leave_6 : decode cX6_leave 6 = .ok (.iconst 0, 1) := by decide +kernel
theorem dX6_leave_7 : decode cX6_leave 7 = .ok (.istore_n 3, 1) := by decide +kernel
theorem dX6_leave_8 : decode cX6_leave 8 = .ok (.iconst 0, 1) := by decide +kernel
theorem dX6_leave_9 : decode cX6_leave 9 = .ok (.istore 4, 2) := by decide +kernel
theorem dX6_leave_11 : decode cX6_leave 11 = .ok (.iload 4, 2) := by decide +kernel
theorem dX6_leave_13 : decode cX6_leave 13 = .ok (.aload_n 0, 1) := by decide +kernel
theorem dX6_leave_14 : decode cX6_leave 14 = .ok (.getfield 16, 3) := by decide +kernel
theorem dX6_leave_17 : decode cX6_leave 17 = .ok (.invokevirtual 62, 3) := by decide +kernel
theorem dX6_leave_20 : decode cX6_leave 20 = .ok (.if_icmp .ge 53, 3) := by decide +kernel
theorem dX6_leave_23 : decode cX6_leave 23 = .ok (.aload_n 0, 1) := by decide +kernel
theorem dX6_leave_24 : decode cX6_leave 24 = .ok (.getfield 16, 3) := by decide +kernel
theorem dX6_leave_27 : decode cX6_leave 27 = .ok (.iload 4, 2) := by decide +kernel
theorem dX6_leave_29 : decode cX6_leave 29 = .ok (.invokevirtual 97, 3) := by decide +kernel
theorem dX6_leave_32 : decode cX6_leave 32 = .ok (.checkcast 92, 3) := by decide +kernel
theorem dX6_leave_35 : decode cX6_leave 35 = .ok (.astore 5, 2) := by decide +kernel
theorem dX6_leave_37 : decode cX6_leave 37 = .ok (.aload 5, 2) := by decide +kernel
theorem dX6_leave_39 : decode cX6_leave 39 = .ok (.getfield 101, 3) := by decide +kernel
theorem dX6_leave_42 : decode cX6_leave 42 = .ok (.aload_n 2, 1) := by decide +kernel
theorem dX6_leave_43 : decode cX6_leave 43 = .ok (.if_acmp .ne 24, 3) := by decide +kernel
theorem dX6_leave_46 : decode cX6_leave 46 = .ok (.aload 5, 2) := by decide +kernel
theorem dX6_leave_48 : decode cX6_leave 48 = .ok (.getfield 105, 3) := by decide +kernel
theorem dX6_leave_51 : decode cX6_leave 51 = .ok (.ifCond .ne 13, 3) := by decide +kernel
theorem dX6_leave_54 : decode cX6_leave 54 = .ok (.new 70, 3) := by decide +kernel
theorem dX6_leave_57 : decode cX6_leave 57 = .ok (.dup, 1) := by decide +kernel
theorem dX6_leave_58 : decode cX6_leave 58 = .ok (.ldc 108, 2) := by decide +kernel
theorem dX6_leave_60 : decode cX6_leave 60 = .ok (.invokespecial 74, 3) := by decide +kernel
theorem dX6_leave_63 : decode cX6_leave 63 = .ok (.athrow, 1) := by decide +kernel
theorem dX6_leave_64 : decode cX6_leave 64 = .ok (.iinc 3 1, 3) := by decide +kernel
theorem dX6_leave_67 : decode cX6_leave 67 = .ok (.iinc 4 1, 3) := by decide +kernel
theorem dX6_leave_70 : decode cX6_leave 70 = .ok (.goto (-59), 3) := by decide +kernel
theorem dX6_leave_73 : decode cX6_leave 73 = .ok (.aload_n 2, 1) := by decide +kernel
theorem dX6_leave_74 : decode cX6_leave 74 = .ok (.iconst 1, 1) := by decide +kernel
theorem dX6_leave_75 : decode cX6_leave 75 = .ok (.putfield 110, 3) := by decide +kernel
theorem dX6_leave_78 : decode cX6_leave 78 = .ok (.iload_n 3, 1) := by decide +kernel
theorem dX6_leave_79 : decode cX6_leave 79 = .ok (.ireturn, 1) := by decide +kernel
theorem dX6_isTaken_0 : decode cX6_isTaken 0 = .ok (.iconst 0, 1) := by decide +kernel
theorem dX6_isTaken_1 : decode cX6_isTaken 1 = .ok (.istore_n 3, 1) := by decide +kernel
theorem dX6_isTaken_2 : decode cX6_isTaken 2 = .ok (.iload_n 3, 1) := by decide +kernel
theorem dX6_isTaken_3 : decode cX6_isTaken 3 = .ok (.aload_n 0, 1) := by decide +kernel
theorem dX6_isTaken_4 : decode cX6_isTaken 4 = .ok (.getfield 12, 3) := by decide +kernel
theorem dX6_isTaken_7 : decode cX6_isTaken 7 = .ok (.invokevirtual 62, 3) := by decide +kernel
theorem dX6_isTaken_10 : decode cX6_isTaken 10 = .ok (.if_icmp .ge 50, 3) := by decide +kernel
theorem dX6_isTaken_13 : decode cX6_isTaken 13 = .ok (.aload_n 0, 1) := by decide +kernel
theorem dX6_isTaken_14 : decode cX6_isTaken 14 = .ok (.getfield 12, 3) := by decide +kernel
theorem dX6_isTaken_17 : decode cX6_isTaken 17 = .ok (.iload_n 3, 1) := by decide +kernel
theorem dX6_isTaken_18 : decode cX6_isTaken 18 = .ok (.invokevirtual 97, 3) := by decide +kernel
theorem dX6_isTaken_21 : decode cX6_isTaken 21 = .ok (.checkcast 75, 3) := by decide +kernel
theorem dX6_isTaken_24 : decode cX6_isTaken 24 = .ok (.astore 4, 2) := by decide +kernel
theorem dX6_isTaken_26 : decode cX6_isTaken 26 = .ok (.aload 4, 2) := by decide +kernel
theorem dX6_isTaken_28 : decode cX6_isTaken 28 = .ok (.getfield 110, 3) := by decide +kernel
theorem dX6_isTaken_31 : decode cX6_isTaken 31 = .ok (.ifCond .ne 23, 3) := by decide +kernel
theorem dX6_isTaken_34 : decode cX6_isTaken 34 = .ok (.aload 4, 2) := by decide +kernel
theorem dX6_isTaken_36 : decode cX6_isTaken 36 = .ok (.getfield 82, 3) := by decide +kernel
theorem dX6_isTaken_39 : decode cX6_isTaken 39 = .ok (.iload_n 2, 1) := by decide +kernel
theorem dX6_isTaken_40 : decode cX6_isTaken 40 = .ok (.if_icmp .ge 14, 3) := by decide +kernel
theorem dX6_isTaken_43 : decode cX6_isTaken 43 = .ok (.iload_n 1, 1) := by decide +kernel
theorem dX6_isTaken_44 : decode cX6_isTaken 44 = .ok (.aload 4, 2) := by decide +kernel
theorem dX6_isTaken_46 : decode cX6_isTaken 46 = .ok (.getfield 85, 3) := by decide +kernel
theorem dX6_isTaken_49 : decode cX6_isTaken 49 = .ok (.if_icmp .ge 5, 3) := by decide +kernel
theorem dX6_isTaken_52 : decode cX6_isTaken 52 = .ok (.iconst 1, 1) := by decide +kernel
theorem dX6_isTaken_53 : decode cX6_isTaken 53 = .ok (.ireturn, 1) := by decide +kernel
theorem dX6_isTaken_54 : decode cX6_isTaken 54 = .ok (.iinc 3 1, 3) := by decide +kernel
theorem dX6_isTaken_57 : decode cX6_isTaken 57 = .ok (.goto (-55), 3) := by decide +kernel
theorem dX6_isTaken_60 : decode cX6_isTaken 60 = .ok (.iconst 0, 1) := by decide +kernel
theorem dX6_isTaken_61 : decode cX6_isTaken 61 = .ok (.ireturn, 1) := by decide +kernel
theorem dX6_send_0 : decode cX6_send 0 = .ok (.iload_n 1, 1) := by decide +kernel
theorem dX6_send_1 : decode cX6_send 1 = .ok (.ifCond .lt 8, 3) := by decide +kernel
theorem dX6_send_4 : decode cX6_send 4 = .ok (.iload_n 1, 1) := by decide +kernel
theorem dX6_send_5 : decode cX6_send 5 = .ok (.iconst 2, 1) := by decide +kernel
theorem dX6_send_6 : decode cX6_send 6 = .ok (.if_icmp .le 13, 3) := by decide +kernel
theorem dX6_send_9 : decode cX6_send 9 = .ok (.new 55, 3) := by decide +kernel
theorem dX6_send_12 : decode cX6_send 12 = .ok (.dup, 1) := by decide +kernel
theorem dX6_send_13 : decode cX6_send 13 = .ok (.ldc 114, 2) := by decide +kernel
theorem dX6_send_15 : decode cX6_send 15 = .ok (.invokespecial 59, 3) := by decide +kernel
theorem dX6_send_18 : decode cX6_send 18 = .ok (.athrow, 1) := by decide +kernel
theorem dX6_send_19 : decode cX6_send 19 = .ok (.aload_n 0, 1) := by decide +kernel
theorem dX6_send_20 : decode cX6_send 20 = .ok (.iload_n 2, 1) := by decide +kernel
theorem dX6_send_21 : decode cX6_send 21 = .ok (.invokevirtual 116, 3) := by decide +kernel
theorem dX6_send_24 : decode cX6_send 24 = .ok (.astore 5, 2) := by decide +kernel
theorem dX6_send_26 : decode cX6_send 26 = .ok (.iload_n 3, 1) := by decide +kernel
theorem dX6_send_27 : decode cX6_send 27 = .ok (.iload_n 1, 1) := by decide +kernel
theorem dX6_send_28 : decode cX6_send 28 = .ok (.invokestatic 120, 3) := by decide +kernel
theorem dX6_send_31 : decode cX6_send 31 = .ok (.invokestatic 52, 3) := by decide +kernel
theorem dX6_send_34 : decode cX6_send 34 = .ok (.iload 4, 2) := by decide +kernel
theorem dX6_send_36 : decode cX6_send 36 = .ok (.iconst (-1), 1) := by decide +kernel
theorem dX6_send_37 : decode cX6_send 37 = .ok (.if_icmp .eq 22, 3) := by decide +kernel
theorem dX6_send_40 : decode cX6_send 40 = .ok (.iload_n 1, 1) := by decide +kernel
theorem dX6_send_41 : decode cX6_send 41 = .ok (.iload 4, 2) := by decide +kernel
theorem dX6_send_43 : decode cX6_send 43 = .ok (.invokestatic 124, 3) := by decide +kernel
theorem dX6_send_46 : decode cX6_send 46 = .ok (.ifCond .ne 13, 3) := by decide +kernel
theorem dX6_send_49 : decode cX6_send 49 = .ok (.new 127, 3) := by decide +kernel
theorem dX6_send_52 : decode cX6_send 52 = .ok (.dup, 1) := by decide +kernel
theorem dX6_send_53 : decode cX6_send 53 = .ok (.ldc 129, 2) := by decide +kernel
theorem dX6_send_55 : decode cX6_send 55 = .ok (.invokespecial 131, 3) := by decide +kernel
theorem dX6_send_58 : decode cX6_send 58 = .ok (.athrow, 1) := by decide +kernel
theorem dX6_send_59 : decode cX6_send 59 = .ok (.iload 4, 2) := by decide +kernel
theorem dX6_send_61 : decode cX6_send 61 = .ok (.iconst (-1), 1) := by decide +kernel
theorem dX6_send_62 : decode cX6_send 62 = .ok (.if_icmp .ne 11, 3) := by decide +kernel
theorem dX6_send_65 : decode cX6_send 65 = .ok (.aload_n 0, 1) := by decide +kernel
theorem dX6_send_66 : decode cX6_send 66 = .ok (.iload_n 1, 1) := by decide +kernel
theorem dX6_send_67 : decode cX6_send 67 = .ok (.invokevirtual 132, 3) := by decide +kernel
theorem dX6_send_70 : decode cX6_send 70 = .ok (.goto 9, 3) := by decide +kernel
theorem dX6_send_73 : decode cX6_send 73 = .ok (.aload_n 0, 1) := by decide +kernel
theorem dX6_send_74 : decode cX6_send 74 = .ok (.iload 4, 2) := by decide +kernel
theorem dX6_send_76 : decode cX6_send 76 = .ok (.invokevirtual 136, 3) := by decide +kernel
theorem dX6_send_79 : decode cX6_send 79 = .ok (.astore 6, 2) := by decide +kernel
theorem dX6_send_81 : decode cX6_send 81 = .ok (.aload_n 0, 1) := by decide +kernel
theorem dX6_send_82 : decode cX6_send 82 = .ok (.getfield 19, 3) := by decide +kernel
theorem dX6_send_85 : decode cX6_send 85 = .ok (.invokevirtual 62, 3) := by decide +kernel
theorem dX6_send_88 : decode cX6_send 88 = .ok (.bipush 80, 2) := by decide +kernel
theorem dX6_send_90 : decode cX6_send 90 = .ok (.if_icmp .ge 8, 3) := by decide +kernel
theorem dX6_send_93 : decode cX6_send 93 = .ok (.aload 6, 2) := by decide +kernel
theorem dX6_send_95 : decode cX6_send 95 = .ok (.ifnonnull 13, 3) := by decide +kernel
theorem dX6_send_98 : decode cX6_send 98 = .ok (.new 70, 3) := by decide +kernel
theorem dX6_send_101 : decode cX6_send 101 = .ok (.dup, 1) := by decide +kernel
theorem dX6_send_102 : decode cX6_send 102 = .ok (.ldc 139, 2) := by decide +kernel
theorem dX6_send_104 : decode cX6_send 104 = .ok (.invokespecial 74, 3) := by decide +kernel
theorem dX6_send_107 : decode cX6_send 107 = .ok (.athrow, 1) := by decide +kernel
theorem dX6_send_108 : decode cX6_send 108 = .ok (.new 141, 3) := by decide +kernel
theorem dX6_send_111 : decode cX6_send 111 = .ok (.dup, 1) := by decide +kernel
theorem dX6_send_112 : decode cX6_send 112 = .ok (.aload_n 0, 1) := by decide +kernel
theorem dX6_send_113 : decode cX6_send 113 = .ok (.getfield 19, 3) := by decide +kernel
theorem dX6_send_116 : decode cX6_send 116 = .ok (.invokevirtual 62, 3) := by decide +kernel
theorem dX6_send_119 : decode cX6_send 119 = .ok (.iload_n 1, 1) := by decide +kernel
theorem dX6_send_120 : decode cX6_send 120 = .ok (.aload 5, 2) := by decide +kernel
theorem dX6_send_122 : decode cX6_send 122 = .ok (.iload_n 3, 1) := by decide +kernel
theorem dX6_send_123 : decode cX6_send 123 = .ok (.invokespecial 143, 3) := by decide +kernel
theorem dX6_send_126 : decode cX6_send 126 = .ok (.astore 7, 2) := by decide +kernel
theorem dX6_send_128 : decode cX6_send 128 = .ok (.aload_n 0, 1) := by decide +kernel
theorem dX6_send_129 : decode cX6_send 129 = .ok (.getfield 19, 3) := by decide +kernel
theorem dX6_send_132 : decode cX6_send 132 = .ok (.aload 7, 2) := by decide +kernel
theorem dX6_send_134 : decode cX6_send 134 = .ok (.invokevirtual 43, 3) := by decide +kernel
theorem dX6_send_137 : decode cX6_send 137 = .ok (.pop, 1) := by decide +kernel
theorem dX6_send_138 : decode cX6_send 138 = .ok (.aload 6, 2) := by decide +kernel
theorem dX6_send_140 : decode cX6_send 140 = .ok (.getfield 146, 3) := by decide +kernel
theorem dX6_send_143 : decode cX6_send 143 = .ok (.aload 7, 2) := by decide +kernel
theorem dX6_send_145 : decode cX6_send 145 = .ok (.invokevirtual 43, 3) := by decide +kernel
theorem dX6_send_148 : decode cX6_send 148 = .ok (.pop, 1) := by decide +kernel
theorem dX6_send_149 : decode cX6_send 149 = .ok (.aload 7, 2) := by decide +kernel
theorem dX6_send_151 : decode cX6_send 151 = .ok (.getfield 151, 3) := by decide +kernel
theorem dX6_send_154 : decode cX6_send 154 = .ok (.ireturn, 1) := by decide +kernel
theorem dX6_deliver_0 : decode cX6_deliver 0 = .ok (.aload_n 0, 1) := by decide +kernel
theorem dX6_deliver_1 : decode cX6_deliver 1 = .ok (.iload_n 1, 1) := by decide +kernel
theorem dX6_deliver_2 : decode cX6_deliver 2 = .ok (.invokevirtual 136, 3) := by decide +kernel
theorem dX6_deliver_5 : decode cX6_deliver 5 = .ok (.astore_n 2, 1) := by decide +kernel
theorem dX6_deliver_6 : decode cX6_deliver 6 = .ok (.aload_n 2, 1) := by decide +kernel
theorem dX6_deliver_7 : decode cX6_deliver 7 = .ok (.getfield 146, 3) := by decide +kernel
theorem dX6_deliver_10 : decode cX6_deliver 10 = .ok (.invokevirtual 154, 3) := by decide +kernel
theorem dX6_deliver_13 : decode cX6_deliver 13 = .ok (.ifCond .eq 5, 3) := by decide +kernel
theorem dX6_deliver_16 : decode cX6_deliver 16 = .ok (.iconst 0, 1) := by decide +kernel
theorem dX6_deliver_17 : decode cX6_deliver 17 = .ok (.ireturn, 1) := by decide +kernel
theorem dX6_deliver_18 : decode cX6_deliver 18 = .ok (.aload_n 2, 1) := by decide +kernel
theorem dX6_deliver_19 : decode cX6_deliver 19 = .ok (.getfield 146, 3) := by decide +kernel
theorem dX6_deliver_22 : decode cX6_deliver 22 = .ok (.iconst 0, 1) := by decide +kernel
theorem dX6_deliver_23 : decode cX6_deliver 23 = .ok (.invokevirtual 97, 3) := by decide +kernel
theorem dX6_deliver_26 : decode cX6_deliver 26 = .ok (.checkcast 141, 3) := by decide +kernel
theorem dX6_deliver_29 : decode cX6_deliver 29 = .ok (.astore_n 3, 1) := by decide +kernel
theorem dX6_deliver_30 : decode cX6_deliver 30 = .ok (.aload_n 3, 1) := by decide +kernel
theorem dX6_deliver_31 : decode cX6_deliver 31 = .ok (.dup, 1) := by decide +kernel
theorem dX6_deliver_32 : decode cX6_deliver 32 = .ok (.getfield 158, 3) := by decide +kernel
theorem dX6_deliver_35 : decode cX6_deliver 35 = .ok (.iconst 1, 1) := by decide +kernel
theorem dX6_deliver_36 : decode cX6_deliver 36 = .ok (.iadd, 1) := by decide +kernel
theorem dX6_deliver_37 : decode cX6_deliver 37 = .ok (.putfield 158, 3) := by decide +kernel
theorem dX6_deliver_40 : decode cX6_deliver 40 = .ok (.aload_n 0, 1) := by decide +kernel
theorem dX6_deliver_41 : decode cX6_deliver 41 = .ok (.aload_n 2, 1) := by decide +kernel
theorem dX6_deliver_42 : decode cX6_deliver 42 = .ok (.aload_n 3, 1) := by decide +kernel
theorem dX6_deliver_43 : decode cX6_deliver 43 = .ok (.invokevirtual 161, 3) := by decide +kernel
theorem dX6_deliver_46 : decode cX6_deliver 46 = .ok (.istore 4, 2) := by decide +kernel
theorem dX6_deliver_48 : decode cX6_deliver 48 = .ok (.iload 4, 2) := by decide +kernel
theorem dX6_deliver_50 : decode cX6_deliver 50 = .ok (.iconst 4, 1) := by decide +kernel
theorem dX6_deliver_51 : decode cX6_deliver 51 = .ok (.if_icmp .eq 8, 3) := by decide +kernel
theorem dX6_deliver_54 : decode cX6_deliver 54 = .ok (.aload_n 2, 1) := by decide +kernel
theorem dX6_deliver_55 : decode cX6_deliver 55 = .ok (.aload_n 3, 1) := by decide +kernel
theorem dX6_deliver_56 : decode cX6_deliver 56 = .ok (.invokevirtual 165, 3) := by decide +kernel
theorem dX6_deliver_59 : decode cX6_deliver 59 = .ok (.iload 4, 2) := by decide +kernel
theorem dX6_deliver_61 : decode cX6_deliver 61 = .ok (.ireturn, 1) := by decide +kernel
theorem dX6_act_0 : decode cX6_act 0 = .ok (.aload_n 0, 1) := by decide +kernel
theorem dX6_act_1 : decode cX6_act 1 = .ok (.iload_n 1, 1) := by decide +kernel
theorem dX6_act_2 : decode cX6_act 2 = .ok (.invokevirtual 169, 3) := by decide +kernel
theorem dX6_act_5 : decode cX6_act 5 = .ok (.astore_n 2, 1) := by decide +kernel
theorem dX6_act_6 : decode cX6_act 6 = .ok (.aload_n 2, 1) := by decide +kernel
theorem dX6_act_7 : decode cX6_act 7 = .ok (.getfield 173, 3) := by decide +kernel
theorem dX6_act_10 : decode cX6_act 10 = .ok (.astore_n 3, 1) := by decide +kernel
theorem dX6_act_11 : decode cX6_act 11 = .ok (.aload_n 3, 1) := by decide +kernel
theorem dX6_act_12 : decode cX6_act 12 = .ok (.ifnonnull 5, 3) := by decide +kernel
theorem dX6_act_15 : decode cX6_act 15 = .ok (.iconst 0, 1) := by decide +kernel
theorem dX6_act_16 : decode cX6_act 16 = .ok (.ireturn, 1) := by decide +kernel
theorem dX6_act_17 : decode cX6_act 17 = .ok (.aload_n 3, 1) := by decide +kernel
theorem dX6_act_18 : decode cX6_act 18 = .ok (.invokestatic 177, 3) := by decide +kernel
theorem dX6_act_21 : decode cX6_act 21 = .ok (.ifCond .eq 10, 3) := by decide +kernel
theorem dX6_act_24 : decode cX6_act 24 = .ok (.aload_n 0, 1) := by decide +kernel
theorem dX6_act_25 : decode cX6_act 25 = .ok (.aload_n 2, 1) := by decide +kernel
theorem dX6_act_26 : decode cX6_act 26 = .ok (.aload_n 3, 1) := by decide +kernel
theorem dX6_act_27 : decode cX6_act 27 = .ok (.invokevirtual 181, 3) := by decide +kernel
theorem dX6_act_30 : decode cX6_act 30 = .ok (.ireturn, 1) := by decide +kernel
theorem dX6_act_31 : decode cX6_act 31 = .ok (.aload_n 3, 1) := by decide +kernel
theorem dX6_act_32 : decode cX6_act 32 = .ok (.getfield 185, 3) := by decide +kernel
theorem dX6_act_35 : decode cX6_act 35 = .ok (.iconst 2, 1) := by decide +kernel
theorem dX6_act_36 : decode cX6_act 36 = .ok (.iload_n 1, 1) := by decide +kernel
theorem dX6_act_37 : decode cX6_act 37 = .ok (.invokevirtual 189, 3) := by decide +kernel
theorem dX6_act_40 : decode cX6_act 40 = .ok (.ifCond .eq 25, 3) := by decide +kernel
theorem dX6_act_43 : decode cX6_act 43 = .ok (.aload_n 0, 1) := by decide +kernel
theorem dX6_act_44 : decode cX6_act 44 = .ok (.aload_n 3, 1) := by decide +kernel
theorem dX6_act_45 : decode cX6_act 45 = .ok (.invokevirtual 192, 3) := by decide +kernel
theorem dX6_act_48 : decode cX6_act 48 = .ok (.ifCond .ne 5, 3) := by decide +kernel
theorem dX6_act_51 : decode cX6_act 51 = .ok (.iconst 3, 1) := by decide +kernel
theorem dX6_act_52 : decode cX6_act 52 = .ok (.ireturn, 1) := by decide +kernel
theorem dX6_act_53 : decode cX6_act 53 = .ok (.aload_n 0, 1) := by decide +kernel
theorem dX6_act_54 : decode cX6_act 54 = .ok (.aload_n 3, 1) := by decide +kernel
theorem dX6_act_55 : decode cX6_act 55 = .ok (.invokevirtual 195, 3) := by decide +kernel
theorem dX6_act_58 : decode cX6_act 58 = .ok (.aload_n 0, 1) := by decide +kernel
theorem dX6_act_59 : decode cX6_act 59 = .ok (.aload_n 2, 1) := by decide +kernel
theorem dX6_act_60 : decode cX6_act 60 = .ok (.aload_n 3, 1) := by decide +kernel
theorem dX6_act_61 : decode cX6_act 61 = .ok (.invokevirtual 181, 3) := by decide +kernel
theorem dX6_act_64 : decode cX6_act 64 = .ok (.ireturn, 1) := by decide +kernel
theorem dX6_act_65 : decode cX6_act 65 = .ok (.aload_n 0, 1) := by decide +kernel
theorem dX6_act_66 : decode cX6_act 66 = .ok (.iload_n 1, 1) := by decide +kernel
theorem dX6_act_67 : decode cX6_act 67 = .ok (.aload_n 3, 1) := by decide +kernel
theorem dX6_act_68 : decode cX6_act 68 = .ok (.getfield 185, 3) := by decide +kernel
theorem dX6_act_71 : decode cX6_act 71 = .ok (.invokevirtual 198, 3) := by decide +kernel
theorem dX6_act_74 : decode cX6_act 74 = .ok (.ifCond .ne 5, 3) := by decide +kernel
theorem dX6_act_77 : decode cX6_act 77 = .ok (.iconst 3, 1) := by decide +kernel
theorem dX6_act_78 : decode cX6_act 78 = .ok (.ireturn, 1) := by decide +kernel
theorem dX6_act_79 : decode cX6_act 79 = .ok (.aload_n 3, 1) := by decide +kernel
theorem dX6_act_80 : decode cX6_act 80 = .ok (.getfield 185, 3) := by decide +kernel
theorem dX6_act_83 : decode cX6_act 83 = .ok (.iconst 2, 1) := by decide +kernel
theorem dX6_act_84 : decode cX6_act 84 = .ok (.iload_n 1, 1) := by decide +kernel
theorem dX6_act_85 : decode cX6_act 85 = .ok (.invokevirtual 202, 3) := by decide +kernel
theorem dX6_act_88 : decode cX6_act 88 = .ok (.bipush 7, 2) := by decide +kernel
theorem dX6_act_90 : decode cX6_act 90 = .ok (.ireturn, 1) := by decide +kernel
theorem dX6_lose_0 : decode cX6_lose 0 = .ok (.aload_n 0, 1) := by decide +kernel
theorem dX6_lose_1 : decode cX6_lose 1 = .ok (.iload_n 1, 1) := by decide +kernel
theorem dX6_lose_2 : decode cX6_lose 2 = .ok (.invokevirtual 136, 3) := by decide +kernel
theorem dX6_lose_5 : decode cX6_lose 5 = .ok (.astore 4, 2) := by decide +kernel
theorem dX6_lose_7 : decode cX6_lose 7 = .ok (.iload_n 2, 1) := by decide +kernel
theorem dX6_lose_8 : decode cX6_lose 8 = .ok (.iconst 1, 1) := by decide +kernel
theorem dX6_lose_9 : decode cX6_lose 9 = .ok (.if_icmp .lt 9, 3) := by decide +kernel
theorem dX6_lose_12 : decode cX6_lose 12 = .ok (.iload_n 2, 1) := by decide +kernel
theorem dX6_lose_13 : decode cX6_lose 13 = .ok (.bipush 9, 2) := by decide +kernel
theorem dX6_lose_15 : decode cX6_lose 15 = .ok (.if_icmp .le 13, 3) := by decide +kernel
theorem dX6_lose_18 : decode cX6_lose 18 = .ok (.new 55, 3) := by decide +kernel
theorem dX6_lose_21 : decode cX6_lose 21 = .ok (.dup, 1) := by decide +kernel
theorem dX6_lose_22 : decode cX6_lose 22 = .ok (.ldc 205, 2) := by decide +kernel
theorem dX6_lose_24 : decode cX6_lose 24 = .ok (.invokespecial 59, 3) := by decide +kernel
theorem dX6_lose_27 : decode cX6_lose 27 = .ok (.athrow, 1) := by decide +kernel
theorem dX6_lose_28 : decode cX6_lose 28 = .ok (.iload_n 3, 1) := by decide +kernel
theorem dX6_lose_29 : decode cX6_lose 29 = .ok (.ifCond .eq 20, 3) := by decide +kernel
theorem dX6_lose_32 : decode cX6_lose 32 = .ok (.aload 4, 2) := by decide +kernel
theorem dX6_lose_34 : decode cX6_lose 34 = .ok (.dup, 1) := by decide +kernel
theorem dX6_lose_35 : decode cX6_lose 35 = .ok (.getfield 207, 3) := by decide +kernel
theorem dX6_lose_38 : decode cX6_lose 38 = .ok (.iload_n 2, 1) := by decide +kernel
theorem dX6_lose_39 : decode cX6_lose 39 = .ok (.iadd, 1) := by decide +kernel
theorem dX6_lose_40 : decode cX6_lose 40 = .ok (.putfield 207, 3) := by decide +kernel
theorem dX6_lose_43 : decode cX6_lose 43 = .ok (.aload 4, 2) := by decide +kernel
theorem dX6_lose_45 : decode cX6_lose 45 = .ok (.getfield 207, 3) := by decide +kernel
theorem dX6_lose_48 : decode cX6_lose 48 = .ok (.ireturn, 1) := by decide +kernel
theorem dX6_lose_49 : decode cX6_lose 49 = .ok (.aload 4, 2) := by decide +kernel
theorem dX6_lose_51 : decode cX6_lose 51 = .ok (.dup, 1) := by decide +kernel
theorem dX6_lose_52 : decode cX6_lose 52 = .ok (.getfield 210, 3) := by decide +kernel
theorem dX6_lose_55 : decode cX6_lose 55 = .ok (.iload_n 2, 1) := by decide +kernel
theorem dX6_lose_56 : decode cX6_lose 56 = .ok (.iadd, 1) := by decide +kernel
theorem dX6_lose_57 : decode cX6_lose 57 = .ok (.putfield 210, 3) := by decide +kernel
theorem dX6_lose_60 : decode cX6_lose 60 = .ok (.aload 4, 2) := by decide +kernel
theorem dX6_lose_62 : decode cX6_lose 62 = .ok (.getfield 210, 3) := by decide +kernel
theorem dX6_lose_65 : decode cX6_lose 65 = .ok (.ireturn, 1) := by decide +kernel
theorem dX6_repeat_0 : decode cX6_repeat 0 = .ok (.aload_n 0, 1) := by decide +kernel
theorem dX6_repeat_1 : decode cX6_repeat 1 = .ok (.iload_n 1, 1) := by decide +kernel
theorem dX6_repeat_2 : decode cX6_repeat 2 = .ok (.invokevirtual 136, 3) := by decide +kernel
theorem dX6_repeat_5 : decode cX6_repeat 5 = .ok (.astore_n 2, 1) := by decide +kernel
theorem dX6_repeat_6 : decode cX6_repeat 6 = .ok (.aload_n 2, 1) := by decide +kernel
theorem dX6_repeat_7 : decode cX6_repeat 7 = .ok (.getfield 213, 3) := by decide +kernel
theorem dX6_repeat_10 : decode cX6_repeat 10 = .ok (.astore_n 3, 1) := by decide +kernel
theorem dX6_repeat_11 : decode cX6_repeat 11 = .ok (.aload_n 3, 1) := by decide +kernel
theorem dX6_repeat_12 : decode cX6_repeat 12 = .ok (.ifnull 11, 3) := by decide +kernel
theorem dX6_repeat_15 : decode cX6_repeat 15 = .ok (.aload_n 0, 1) := by decide +kernel
theorem dX6_repeat_16 : decode cX6_repeat 16 = .ok (.aload_n 3, 1) := by decide +kernel
theorem dX6_repeat_17 : decode cX6_repeat 17 = .ok (.invokevirtual 216, 3) := by decide +kernel
theorem dX6_repeat_20 : decode cX6_repeat 20 = .ok (.ifCond .eq 13, 3) := by decide +kernel
theorem dX6_repeat_23 : decode cX6_repeat 23 = .ok (.new 70, 3) := by decide +kernel
theorem dX6_repeat_26 : decode cX6_repeat 26 = .ok (.dup, 1) := by decide +kernel
theorem dX6_repeat_27 : decode cX6_repeat 27 = .ok (.ldc 219, 2) := by decide +kernel
theorem dX6_repeat_29 : decode cX6_repeat 29 = .ok (.invokespecial 74, 3) := by decide +kernel
theorem dX6_repeat_32 : decode cX6_repeat 32 = .ok (.athrow, 1) := by decide +kernel
theorem dX6_repeat_33 : decode cX6_repeat 33 = .ok (.aload_n 2, 1) := by decide +kernel
theorem dX6_repeat_34 : decode cX6_repeat 34 = .ok (.getfield 146, 3) := by decide +kernel
theorem dX6_repeat_37 : decode cX6_repeat 37 = .ok (.aload_n 3, 1) := by decide +kernel
theorem dX6_repeat_38 : decode cX6_repeat 38 = .ok (.invokevirtual 43, 3) := by decide +kernel
theorem dX6_repeat_41 : decode cX6_repeat 41 = .ok (.pop, 1) := by decide +kernel
theorem dX6_repeat_42 : decode cX6_repeat 42 = .ok (.aload_n 3, 1) := by decide +kernel
theorem dX6_repeat_43 : decode cX6_repeat 43 = .ok (.getfield 151, 3) := by decide +kernel
theorem dX6_repeat_46 : decode cX6_repeat 46 = .ok (.ireturn, 1) := by decide +kernel
theorem dX6_silence_0 : decode cX6_silence 0 = .ok (.aload_n 0, 1) := by decide +kernel
theorem dX6_silence_1 : decode cX6_silence 1 = .ok (.iload_n 1, 1) := by decide +kernel
theorem dX6_silence_2 : decode cX6_silence 2 = .ok (.invokevirtual 221, 3) := by decide +kernel
theorem dX6_silence_5 : decode cX6_silence 5 = .ok (.astore_n 3, 1) := by decide +kernel
theorem dX6_silence_6 : decode cX6_silence 6 = .ok (.aload_n 3, 1) := by decide +kernel
theorem dX6_silence_7 : decode cX6_silence 7 = .ok (.getfield 225, 3) := by decide +kernel
theorem dX6_silence_10 : decode cX6_silence 10 = .ok (.istore 4, 2) := by decide +kernel
theorem dX6_silence_12 : decode cX6_silence 12 = .ok (.aload_n 3, 1) := by decide +kernel
theorem dX6_silence_13 : decode cX6_silence 13 = .ok (.iload_n 2, 1) := by decide +kernel
theorem dX6_silence_14 : decode cX6_silence 14 = .ok (.putfield 225, 3) := by decide +kernel
theorem dX6_silence_17 : decode cX6_silence 17 = .ok (.iload 4, 2) := by decide +kernel
theorem dX6_silence_19 : decode cX6_silence 19 = .ok (.ireturn, 1) := by decide +kernel
theorem dX6_giveAway_0 : decode cX6_giveAway 0 = .ok (.aload_n 0, 1) := by decide +kernel
theorem dX6_giveAway_1 : decode cX6_giveAway 1 = .ok (.iload_n 1, 1) := by decide +kernel
theorem dX6_giveAway_2 : decode cX6_giveAway 2 = .ok (.invokevirtual 221, 3) := by decide +kernel
theorem dX6_giveAway_5 : decode cX6_giveAway 5 = .ok (.astore_n 3, 1) := by decide +kernel
theorem dX6_giveAway_6 : decode cX6_giveAway 6 = .ok (.aload_n 0, 1) := by decide +kernel
theorem dX6_giveAway_7 : decode cX6_giveAway 7 = .ok (.iload_n 2, 1) := by decide +kernel
theorem dX6_giveAway_8 : decode cX6_giveAway 8 = .ok (.invokevirtual 221, 3) := by decide +kernel
theorem dX6_giveAway_11 : decode cX6_giveAway 11 = .ok (.astore 4, 2) := by decide +kernel
theorem dX6_giveAway_13 : decode cX6_giveAway 13 = .ok (.aload_n 3, 1) := by decide +kernel
theorem dX6_giveAway_14 : decode cX6_giveAway 14 = .ok (.getfield 225, 3) := by decide +kernel
theorem dX6_giveAway_17 : decode cX6_giveAway 17 = .ok (.ifCond .eq 9, 3) := by decide +kernel
theorem dX6_giveAway_20 : decode cX6_giveAway 20 = .ok (.aload_n 3, 1) := by decide +kernel
theorem dX6_giveAway_21 : decode cX6_giveAway 21 = .ok (.aload 4, 2) := by decide +kernel
theorem dX6_giveAway_23 : decode cX6_giveAway 23 = .ok (.if_acmp .ne 13, 3) := by decide +kernel
theorem dX6_giveAway_26 : decode cX6_giveAway 26 = .ok (.new 70, 3) := by decide +kernel
theorem dX6_giveAway_29 : decode cX6_giveAway 29 = .ok (.dup, 1) := by decide +kernel
theorem dX6_giveAway_30 : decode cX6_giveAway 30 = .ok (.ldc 228, 2) := by decide +kernel
theorem dX6_giveAway_32 : decode cX6_giveAway 32 = .ok (.invokespecial 74, 3) := by decide +kernel
theorem dX6_giveAway_35 : decode cX6_giveAway 35 = .ok (.athrow, 1) := by decide +kernel
theorem dX6_giveAway_36 : decode cX6_giveAway 36 = .ok (.aload_n 3, 1) := by decide +kernel
theorem dX6_giveAway_37 : decode cX6_giveAway 37 = .ok (.getfield 230, 3) := by decide +kernel
theorem dX6_giveAway_40 : decode cX6_giveAway 40 = .ok (.invokevirtual 62, 3) := by decide +kernel
theorem dX6_giveAway_43 : decode cX6_giveAway 43 = .ok (.istore 5, 2) := by decide +kernel
theorem dX6_giveAway_45 : decode cX6_giveAway 45 = .ok (.iconst 0, 1) := by decide +kernel
theorem dX6_giveAway_46 : decode cX6_giveAway 46 = .ok (.istore 6, 2) := by decide +kernel
theorem dX6_giveAway_48 : decode cX6_giveAway 48 = .ok (.iload 6, 2) := by decide +kernel
theorem dX6_giveAway_50 : decode cX6_giveAway 50 = .ok (.iload 5, 2) := by decide +kernel
theorem dX6_giveAway_52 : decode cX6_giveAway 52 = .ok (.if_icmp .ge 30, 3) := by decide +kernel
theorem dX6_giveAway_55 : decode cX6_giveAway 55 = .ok (.aload 4, 2) := by decide +kernel
theorem dX6_giveAway_57 : decode cX6_giveAway 57 = .ok (.getfield 230, 3) := by decide +kernel
theorem dX6_giveAway_60 : decode cX6_giveAway 60 = .ok (.aload_n 3, 1) := by decide +kernel
theorem dX6_giveAway_61 : decode cX6_giveAway 61 = .ok (.getfield 230, 3) := by decide +kernel
theorem dX6_giveAway_64 : decode cX6_giveAway 64 = .ok (.iload 6, 2) := by decide +kernel
theorem dX6_giveAway_66 : decode cX6_giveAway 66 = .ok (.invokevirtual 97, 3) := by decide +kernel
theorem dX6_giveAway_69 : decode cX6_giveAway 69 = .ok (.checkcast 141, 3) := by decide +kernel
theorem dX6_giveAway_72 : decode cX6_giveAway 72 = .ok (.invokevirtual 43, 3) := by decide +kernel
theorem dX6_giveAway_75 : decode cX6_giveAway 75 = .ok (.pop, 1) := by decide +kernel
theorem dX6_giveAway_76 : decode cX6_giveAway 76 = .ok (.iinc 6 1, 3) := by decide +kernel
theorem dX6_giveAway_79 : decode cX6_giveAway 79 = .ok (.goto (-31), 3) := by decide +kernel
theorem dX6_giveAway_82 : decode cX6_giveAway 82 = .ok (.aload_n 3, 1) := by decide +kernel
theorem dX6_giveAway_83 : decode cX6_giveAway 83 = .ok (.getfield 230, 3) := by decide +kernel
theorem dX6_giveAway_86 : decode cX6_giveAway 86 = .ok (.invokevirtual 231, 3) := by decide +kernel
theorem dX6_giveAway_89 : decode cX6_giveAway 89 = .ok (.iload 5, 2) := by decide +kernel
theorem dX6_giveAway_91 : decode cX6_giveAway 91 = .ok (.ireturn, 1) := by decide +kernel
theorem dX6_park_0 : decode cX6_park 0 = .ok (.aload_n 0, 1) := by decide +kernel
theorem dX6_park_1 : decode cX6_park 1 = .ok (.iload_n 1, 1) := by decide +kernel
theorem dX6_park_2 : decode cX6_park 2 = .ok (.invokevirtual 221, 3) := by decide +kernel
theorem dX6_park_5 : decode cX6_park 5 = .ok (.astore_n 3, 1) := by decide +kernel
theorem dX6_park_6 : decode cX6_park 6 = .ok (.iload_n 2, 1) := by decide +kernel
theorem dX6_park_7 : decode cX6_park 7 = .ok (.bipush 16, 2) := by decide +kernel
theorem dX6_park_9 : decode cX6_park 9 = .ok (.invokestatic 52, 3) := by decide +kernel
theorem dX6_park_12 : decode cX6_park 12 = .ok (.aload_n 3, 1) := by decide +kernel
theorem dX6_park_13 : decode cX6_park 13 = .ok (.getfield 225, 3) := by decide +kernel
theorem dX6_park_16 : decode cX6_park 16 = .ok (.ifCond .ne 12, 3) := by decide +kernel
theorem dX6_park_19 : decode cX6_park 19 = .ok (.aload_n 0, 1) := by decide +kernel
theorem dX6_park_20 : decode cX6_park 20 = .ok (.iload_n 1, 1) := by decide +kernel
theorem dX6_park_21 : decode cX6_park 21 = .ok (.iload_n 2, 1) := by decide +kernel
theorem dX6_park_22 : decode cX6_park 22 = .ok (.invokevirtual 234, 3) := by decide +kernel
theorem dX6_park_25 : decode cX6_park 25 = .ok (.ifCond .ne 13, 3) := by decide +kernel
theorem dX6_park_28 : decode cX6_park 28 = .ok (.new 70, 3) := by decide +kernel
theorem dX6_park_31 : decode cX6_park 31 = .ok (.dup, 1) := by decide +kernel
theorem dX6_park_32 : decode cX6_park 32 = .ok (.ldc 237, 2) := by decide +kernel
theorem dX6_park_34 : decode cX6_park 34 = .ok (.invokespecial 74, 3) := by decide +kernel
theorem dX6_park_37 : decode cX6_park 37 = .ok (.athrow, 1) := by decide +kernel
theorem dX6_park_38 : decode cX6_park 38 = .ok (.aload_n 3, 1) := by decide +kernel
theorem dX6_park_39 : decode cX6_park 39 = .ok (.getfield 239, 3) := by decide +kernel
theorem dX6_park_42 : decode cX6_park 42 = .ok (.istore 4, 2) := by decide +kernel
theorem dX6_park_44 : decode cX6_park 44 = .ok (.aload_n 3, 1) := by decide +kernel
theorem dX6_park_45 : decode cX6_park 45 = .ok (.iload_n 2, 1) := by decide +kernel
theorem dX6_park_46 : decode cX6_park 46 = .ok (.putfield 239, 3) := by decide +kernel
theorem dX6_park_49 : decode cX6_park 49 = .ok (.iload 4, 2) := by decide +kernel
theorem dX6_park_51 : decode cX6_park 51 = .ok (.ireturn, 1) := by decide +kernel
theorem dX6_targetsOf_0 : decode cX6_targetsOf 0 = .ok (.iload_n 0, 1) := by decide +kernel
theorem dX6_targetsOf_1 : decode cX6_targetsOf 1 = .ok (.ifCond .ne 5, 3) := by decide +kernel
theorem dX6_targetsOf_4 : decode cX6_targetsOf 4 = .ok (.iconst 1, 1) := by decide +kernel
theorem dX6_targetsOf_5 : decode cX6_targetsOf 5 = .ok (.ireturn, 1) := by decide +kernel
theorem dX6_targetsOf_6 : decode cX6_targetsOf 6 = .ok (.iload_n 0, 1) := by decide +kernel
theorem dX6_targetsOf_7 : decode cX6_targetsOf 7 = .ok (.iconst 1, 1) := by decide +kernel
theorem dX6_targetsOf_8 : decode cX6_targetsOf 8 = .ok (.if_icmp .ne 8, 3) := by decide +kernel
theorem dX6_targetsOf_11 : decode cX6_targetsOf 11 = .ok (.bipush 6, 2) := by decide +kernel
theorem dX6_targetsOf_13 : decode cX6_targetsOf 13 = .ok (.goto 4, 3) := by decide +kernel
theorem dX6_targetsOf_16 : decode cX6_targetsOf 16 = .ok (.iconst 2, 1) := by decide +kernel
theorem dX6_targetsOf_17 : decode cX6_targetsOf 17 = .ok (.ireturn, 1) := by decide +kernel
theorem dX6_isFor_0 : decode cX6_isFor 0 = .ok (.iload_n 0, 1) := by decide +kernel
theorem dX6_isFor_1 : decode cX6_isFor 1 = .ok (.ifCond .ne 18, 3) := by decide +kernel
theorem dX6_isFor_4 : decode cX6_isFor 4 = .ok (.iload_n 1, 1) := by decide +kernel
theorem dX6_isFor_5 : decode cX6_isFor 5 = .ok (.ifCond .lt 12, 3) := by decide +kernel
theorem dX6_isFor_8 : decode cX6_isFor 8 = .ok (.iload_n 1, 1) := by decide +kernel
theorem dX6_isFor_9 : decode cX6_isFor 9 = .ok (.iconst 4, 1) := by decide +kernel
theorem dX6_isFor_10 : decode cX6_isFor 10 = .ok (.if_icmp .ge 7, 3) := by decide +kernel
theorem dX6_isFor_13 : decode cX6_isFor 13 = .ok (.iconst 1, 1) := by decide +kernel
theorem dX6_isFor_14 : decode cX6_isFor 14 = .ok (.goto 4, 3) := by decide +kernel
theorem dX6_isFor_17 : decode cX6_isFor 17 = .ok (.iconst 0, 1) := by decide +kernel
theorem dX6_isFor_18 : decode cX6_isFor 18 = .ok (.ireturn, 1) := by decide +kernel
theorem dX6_isFor_19 : decode cX6_isFor 19 = .ok (.iload_n 1, 1) := by decide +kernel
theorem dX6_isFor_20 : decode cX6_isFor 20 = .ok (.iconst 4, 1) := by decide +kernel
theorem dX6_isFor_21 : decode cX6_isFor 21 = .ok (.if_icmp .lt 13, 3) := by decide +kernel
theorem dX6_isFor_24 : decode cX6_isFor 24 = .ok (.iload_n 1, 1) := by decide +kernel
theorem dX6_isFor_25 : decode cX6_isFor 25 = .ok (.bipush 8, 2) := by decide +kernel
theorem dX6_isFor_27 : decode cX6_isFor 27 = .ok (.if_icmp .ge 7, 3) := by decide +kernel
theorem dX6_isFor_30 : decode cX6_isFor 30 = .ok (.iconst 1, 1) := by decide +kernel
theorem dX6_isFor_31 : decode cX6_isFor 31 = .ok (.goto 4, 3) := by decide +kernel
theorem dX6_isFor_34 : decode cX6_isFor 34 = .ok (.iconst 0, 1) := by decide +kernel
theorem dX6_isFor_35 : decode cX6_isFor 35 = .ok (.ireturn, 1) := by decide +kernel
theorem dX6_leastBusyFor_0 : decode cX6_leastBusyFor 0 = .ok (.aconst_null, 1) := by decide +kernel
theorem dX6_leastBusyFor_1 : decode cX6_leastBusyFor 1 = .ok (.astore_n 2, 1) := by decide +kernel
theorem dX6_leastBusyFor_2 : decode cX6_leastBusyFor 2 = .ok (.iconst 0, 1) := by decide +kernel
theorem dX6_leastBusyFor_3 : decode cX6_leastBusyFor 3 = .ok (.istore_n 3, 1) := by decide +kernel
theorem dX6_leastBusyFor_4 : decode cX6_leastBusyFor 4 = .ok (.iload_n 3, 1) := by decide +kernel
theorem dX6_leastBusyFor_5 : decode cX6_leastBusyFor 5 = .ok (.bipush 8, 2) := by decide +kernel
theorem dX6_leastBusyFor_7 : decode cX6_leastBusyFor 7 = .ok (.if_icmp .ge 57, 3) := by decide +kernel
theorem dX6_leastBusyFor_10 : decode cX6_leastBusyFor 10 = .ok (.aload_n 0, 1) := by decide +kernel
theorem dX6_leastBusyFor_11 : decode cX6_leastBusyFor 11 = .ok (.iload_n 3, 1) := by decide +kernel
theorem dX6_leastBusyFor_12 : decode cX6_leastBusyFor 12 = .ok (.invokevirtual 136, 3) := by decide +kernel
theorem dX6_leastBusyFor_15 : decode cX6_leastBusyFor 15 = .ok (.astore 4, 2) := by decide +kernel
theorem dX6_leastBusyFor_17 : decode cX6_leastBusyFor 17 = .ok (.iload_n 1, 1) := by decide +kernel
theorem dX6_leastBusyFor_18 : decode cX6_leastBusyFor 18 = .ok (.iload_n 3, 1) := by decide +kernel
theorem dX6_leastBusyFor_19 : decode cX6_leastBusyFor 19 = .ok (.invokestatic 124, 3) := by decide +kernel
theorem dX6_leastBusyFor_22 : decode cX6_leastBusyFor 22 = .ok (.ifCond .eq 36, 3) := by decide +kernel
theorem dX6_leastBusyFor_25 : decode cX6_leastBusyFor 25 = .ok (.aload 4, 2) := by decide +kernel
theorem dX6_leastBusyFor_27 : decode cX6_leastBusyFor 27 = .ok (.getfield 242, 3) := by decide +kernel
theorem dX6_leastBusyFor_30 : decode cX6_leastBusyFor 30 = .ok (.ifCond .ne 28, 3) := by decide +kernel
theorem dX6_leastBusyFor_33 : decode cX6_leastBusyFor 33 = .ok (.aload_n 2, 1) := by decide +kernel
theorem dX6_leastBusyFor_34 : decode cX6_leastBusyFor 34 = .ok (.ifnull 21, 3) := by decide +kernel
theorem dX6_leastBusyFor_37 : decode cX6_leastBusyFor 37 = .ok (.aload 4, 2) := by decide +kernel
theorem dX6_leastBusyFor_39 : decode cX6_leastBusyFor 39 = .ok (.getfield 146, 3) := by decide +kernel
theorem dX6_leastBusyFor_42 : decode cX6_leastBusyFor 42 = .ok (.invokevirtual 62, 3) := by decide +kernel
theorem dX6_leastBusyFor_45 : decode cX6_leastBusyFor 45 = .ok (.aload_n 2, 1) := by decide +kernel
theorem dX6_leastBusyFor_46 : decode cX6_leastBusyFor 46 = .ok (.getfield 146, 3) := by decide +kernel
theorem dX6_leastBusyFor_49 : decode cX6_leastBusyFor 49 = .ok (.invokevirtual 62, 3) := by decide +kernel
theorem dX6_leastBusyFor_52 : decode cX6_leastBusyFor 52 = .ok (.if_icmp .ge 6, 3) := by decide +kernel
theorem dX6_leastBusyFor_55 : decode cX6_leastBusyFor 55 = .ok (.aload 4, 2) := by decide +kernel
theorem dX6_leastBusyFor_57 : decode cX6_leastBusyFor 57 = .ok (.astore_n 2, 1) := by decide +kernel
theorem dX6_leastBusyFor_58 : decode cX6_leastBusyFor 58 = .ok (.iinc 3 1, 3) := by decide +kernel
theorem dX6_leastBusyFor_61 : decode cX6_leastBusyFor 61 = .ok (.goto (-57), 3) := by decide +kernel
theorem dX6_leastBusyFor_64 : decode cX6_leastBusyFor 64 = .ok (.aload_n 2, 1) := by decide +kernel
theorem dX6_leastBusyFor_65 : decode cX6_leastBusyFor 65 = .ok (.areturn, 1) := by decide +kernel
theorem dX6_isInAQueue_0 : decode cX6_isInAQueue 0 = .ok (.iconst 0, 1) := by decide +kernel
theorem dX6_isInAQueue_1 : decode cX6_isInAQueue 1 = .ok (.istore_n 2, 1) := by decide +kernel
theorem dX6_isInAQueue_2 : decode cX6_isInAQueue 2 = .ok (.iload_n 2, 1) := by decide +kernel
theorem dX6_isInAQueue_3 : decode cX6_isInAQueue 3 = .ok (.bipush 8, 2) := by decide +kernel
theorem dX6_isInAQueue_5 : decode cX6_isInAQueue 5 = .ok (.if_icmp .ge 27, 3) := by decide +kernel
theorem dX6_isInAQueue_8 : decode cX6_isInAQueue 8 = .ok (.aload_n 1, 1) := by decide +kernel
theorem dX6_isInAQueue_9 : decode cX6_isInAQueue 9 = .ok (.aload_n 0, 1) := by decide +kernel
theorem dX6_isInAQueue_10 : decode cX6_isInAQueue 10 = .ok (.iload_n 2, 1) := by decide +kernel
theorem dX6_isInAQueue_11 : decode cX6_isInAQueue 11 = .ok (.invokevirtual 136, 3) := by decide +kernel
theorem dX6_isInAQueue_14 : decode cX6_isInAQueue 14 = .ok (.getfield 146, 3) := by decide +kernel
theorem dX6_isInAQueue_17 : decode cX6_isInAQueue 17 = .ok (.invokestatic 243, 3) := by decide +kernel
theorem dX6_isInAQueue_20 : decode cX6_isInAQueue 20 = .ok (.iconst (-1), 1) := by decide +kernel
theorem dX6_isInAQueue_21 : decode cX6_isInAQueue 21 = .ok (.if_icmp .eq 5, 3) := by decide +kernel
theorem dX6_isInAQueue_24 : decode cX6_isInAQueue 24 = .ok (.iconst 1, 1) := by decide +kernel
theorem dX6_isInAQueue_25 : decode cX6_isInAQueue 25 = .ok (.ireturn, 1) := by decide +kernel
theorem dX6_isInAQueue_26 : decode cX6_isInAQueue 26 = .ok (.iinc 2 1, 3) := by decide +kernel
theorem dX6_isInAQueue_29 : decode cX6_isInAQueue 29 = .ok (.goto (-27), 3) := by decide +kernel
theorem dX6_isInAQueue_32 : decode cX6_isInAQueue 32 = .ok (.iconst 0, 1) := by decide +kernel
theorem dX6_isInAQueue_33 : decode cX6_isInAQueue 33 = .ok (.ireturn, 1) := by decide +kernel
theorem dX6_handOver_0 : decode cX6_handOver 0 = .ok (.aload_n 1, 1) := by decide +kernel
theorem dX6_handOver_1 : decode cX6_handOver 1 = .ok (.getfield 210, 3) := by decide +kernel
theorem dX6_handOver_4 : decode cX6_handOver 4 = .ok (.ifCond .le 15, 3) := by decide +kernel
theorem dX6_handOver_7 : decode cX6_handOver 7 = .ok (.aload_n 1, 1) := by decide +kernel
theorem dX6_handOver_8 : decode cX6_handOver 8 = .ok (.dup, 1) := by decide +kernel
theorem dX6_handOver_9 : decode cX6_handOver 9 = .ok (.getfield 210, 3) := by decide +kernel
theorem dX6_handOver_12 : decode cX6_handOver 12 = .ok (.iconst 1, 1) := by decide +kernel
theorem dX6_handOver_13 : decode cX6_handOver 13 = .ok (.isub, 1) := by decide +kernel
theorem dX6_handOver_14 : decode cX6_handOver 14 = .ok (.putfield 210, 3) := by decide +kernel
theorem dX6_handOver_17 : decode cX6_handOver 17 = .ok (.iconst 1, 1) := by decide +kernel
theorem dX6_handOver_18 : decode cX6_handOver 18 = .ok (.ireturn, 1) := by decide +kernel
theorem dX6_handOver_19 : decode cX6_handOver 19 = .ok (.aload_n 1, 1) := by decide +kernel
theorem dX6_handOver_20 : decode cX6_handOver 20 = .ok (.getfield 242, 3) := by decide +kernel
theorem dX6_handOver_23 : decode cX6_handOver 23 = .ok (.ifCond .eq 5, 3) := by decide +kernel
theorem dX6_handOver_26 : decode cX6_handOver 26 = .ok (.iconst 2, 1) := by decide +kernel
theorem dX6_handOver_27 : decode cX6_handOver 27 = .ok (.ireturn, 1) := by decide +kernel
theorem dX6_handOver_28 : decode cX6_handOver 28 = .ok (.aload_n 2, 1) := by decide +kernel
theorem dX6_handOver_29 : decode cX6_handOver 29 = .ok (.aload_n 1, 1) := by decide +kernel
theorem dX6_handOver_30 : decode cX6_handOver 30 = .ok (.getfield 247, 3) := by decide +kernel
theorem dX6_handOver_33 : decode cX6_handOver 33 = .ok (.invokestatic 243, 3) := by decide +kernel
theorem dX6_handOver_36 : decode cX6_handOver 36 = .ok (.iconst (-1), 1) := by decide +kernel
theorem dX6_handOver_37 : decode cX6_handOver 37 = .ok (.if_icmp .eq 10, 3) := by decide +kernel
theorem dX6_handOver_40 : decode cX6_handOver 40 = .ok (.aload_n 0, 1) := by decide +kernel
theorem dX6_handOver_41 : decode cX6_handOver 41 = .ok (.aload_n 1, 1) := by decide +kernel
theorem dX6_handOver_42 : decode cX6_handOver 42 = .ok (.aload_n 2, 1) := by decide +kernel
theorem dX6_handOver_43 : decode cX6_handOver 43 = .ok (.invokevirtual 250, 3) := by decide +kernel
theorem dX6_handOver_46 : decode cX6_handOver 46 = .ok (.ireturn, 1) := by decide +kernel
theorem dX6_handOver_47 : decode cX6_handOver 47 = .ok (.aload_n 1, 1) := by decide +kernel
theorem dX6_handOver_48 : decode cX6_handOver 48 = .ok (.getfield 253, 3) := by decide +kernel
theorem dX6_handOver_51 : decode cX6_handOver 51 = .ok (.iconst 4, 1) := by decide +kernel
theorem dX6_handOver_52 : decode cX6_handOver 52 = .ok (.if_icmp .ge 17, 3) := by decide +kernel
theorem dX6_handOver_55 : decode cX6_handOver 55 = .ok (.aload_n 0, 1) := by decide +kernel
theorem dX6_handOver_56 : decode cX6_handOver 56 = .ok (.aload_n 0, 1) := by decide +kernel
theorem dX6_handOver_57 : decode cX6_handOver 57 = .ok (.aload_n 1, 1) := by decide +kernel
theorem dX6_handOver_58 : decode cX6_handOver 58 = .ok (.getfield 253, 3) := by decide +kernel
theorem dX6_handOver_61 : decode cX6_handOver 61 = .ok (.invokevirtual 221, 3) := by decide +kernel
theorem dX6_handOver_64 : decode cX6_handOver 64 = .ok (.aload_n 2, 1) := by decide +kernel
theorem dX6_handOver_65 : decode cX6_handOver 65 = .ok (.invokevirtual 254, 3) := by decide +kernel
theorem dX6_handOver_68 : decode cX6_handOver 68 = .ok (.ireturn, 1) := by decide +kernel
theorem dX6_handOver_69 : decode cX6_handOver 69 = .ok (.aload_n 0, 1) := by decide +kernel
theorem dX6_handOver_70 : decode cX6_handOver 70 = .ok (.aload_n 1, 1) := by decide +kernel
theorem dX6_handOver_71 : decode cX6_handOver 71 = .ok (.getfield 253, 3) := by decide +kernel
theorem dX6_handOver_74 : decode cX6_handOver 74 = .ok (.invokevirtual 169, 3) := by decide +kernel
theorem dX6_handOver_77 : decode cX6_handOver 77 = .ok (.aload_n 2, 1) := by decide +kernel
theorem dX6_handOver_78 : decode cX6_handOver 78 = .ok (.putfield 173, 3) := by decide +kernel
theorem dX6_handOver_81 : decode cX6_handOver 81 = .ok (.bipush 6, 2) := by decide +kernel
theorem dX6_handOver_83 : decode cX6_handOver 83 = .ok (.ireturn, 1) := by decide +kernel
theorem dX6_lift_0 : decode cX6_lift 0 = .ok (.aload_n 2, 1) := by decide +kernel
theorem dX6_lift_1 : decode cX6_lift 1 = .ok (.getfield 185, 3) := by decide +kernel
theorem dX6_lift_4 : decode cX6_lift 4 = .ok (.astore_n 3, 1) := by decide +kernel
theorem dX6_lift_5 : decode cX6_lift 5 = .ok (.aload_n 3, 1) := by decide +kernel
theorem dX6_lift_6 : decode cX6_lift 6 = .ok (.getfield 105, 3) := by decide +kernel
theorem dX6_lift_9 : decode cX6_lift 9 = .ok (.ifCond .eq 10, 3) := by decide +kernel
theorem dX6_lift_12 : decode cX6_lift 12 = .ok (.aload_n 0, 1) := by decide +kernel
theorem dX6_lift_13 : decode cX6_lift 13 = .ok (.aload_n 1, 1) := by decide +kernel
theorem dX6_lift_14 : decode cX6_lift 14 = .ok (.aload_n 2, 1) := by decide +kernel
theorem dX6_lift_15 : decode cX6_lift 15 = .ok (.invokevirtual 250, 3) := by decide +kernel
theorem dX6_lift_18 : decode cX6_lift 18 = .ok (.ireturn, 1) := by decide +kernel
theorem dX6_lift_19 : decode cX6_lift 19 = .ok (.aload_n 0, 1) := by decide +kernel
theorem dX6_lift_20 : decode cX6_lift 20 = .ok (.aload_n 1, 1) := by decide +kernel
theorem dX6_lift_21 : decode cX6_lift 21 = .ok (.getfield 258, 3) := by decide +kernel
theorem dX6_lift_24 : decode cX6_lift 24 = .ok (.aload_n 3, 1) := by decide +kernel
theorem dX6_lift_25 : decode cX6_lift 25 = .ok (.getfield 259, 3) := by decide +kernel
theorem dX6_lift_28 : decode cX6_lift 28 = .ok (.invokevirtual 234, 3) := by decide +kernel
theorem dX6_lift_31 : decode cX6_lift 31 = .ok (.ifCond .eq 15, 3) := by decide +kernel
theorem dX6_lift_34 : decode cX6_lift 34 = .ok (.aload_n 0, 1) := by decide +kernel
theorem dX6_lift_35 : decode cX6_lift 35 = .ok (.iconst 1, 1) := by decide +kernel
theorem dX6_lift_36 : decode cX6_lift 36 = .ok (.aload_n 3, 1) := by decide +kernel
theorem dX6_lift_37 : decode cX6_lift 37 = .ok (.getfield 259, 3) := by decide +kernel
theorem dX6_lift_40 : decode cX6_lift 40 = .ok (.invokevirtual 260, 3) := by decide +kernel
theorem dX6_lift_43 : decode cX6_lift 43 = .ok (.ifCond .le 5, 3) := by decide +kernel
theorem dX6_lift_46 : decode cX6_lift 46 = .ok (.iconst 3, 1) := by decide +kernel
theorem dX6_lift_47 : decode cX6_lift 47 = .ok (.ireturn, 1) := by decide +kernel
theorem dX6_lift_48 : decode cX6_lift 48 = .ok (.aload_n 1, 1) := by decide +kernel
theorem dX6_lift_49 : decode cX6_lift 49 = .ok (.aload_n 3, 1) := by decide +kernel
theorem dX6_lift_50 : decode cX6_lift 50 = .ok (.getfield 259, 3) := by decide +kernel
theorem dX6_lift_53 : decode cX6_lift 53 = .ok (.putfield 239, 3) := by decide +kernel
theorem dX6_lift_56 : decode cX6_lift 56 = .ok (.aload_n 3, 1) := by decide +kernel
theorem dX6_lift_57 : decode cX6_lift 57 = .ok (.iconst 1, 1) := by decide +kernel
theorem dX6_lift_58 : decode cX6_lift 58 = .ok (.aload_n 3, 1) := by decide +kernel
theorem dX6_lift_59 : decode cX6_lift 59 = .ok (.getfield 259, 3) := by decide +kernel
theorem dX6_lift_62 : decode cX6_lift 62 = .ok (.invokevirtual 202, 3) := by decide +kernel
theorem dX6_lift_65 : decode cX6_lift 65 = .ok (.aload_n 3, 1) := by decide +kernel
theorem dX6_lift_66 : decode cX6_lift 66 = .ok (.aload_n 1, 1) := by decide +kernel
theorem dX6_lift_67 : decode cX6_lift 67 = .ok (.getfield 258, 3) := by decide +kernel
theorem dX6_lift_70 : decode cX6_lift 70 = .ok (.putfield 264, 3) := by decide +kernel
theorem dX6_lift_73 : decode cX6_lift 73 = .ok (.aload_n 0, 1) := by decide +kernel
theorem dX6_lift_74 : decode cX6_lift 74 = .ok (.aload_n 2, 1) := by decide +kernel
theorem dX6_lift_75 : decode cX6_lift 75 = .ok (.invokevirtual 267, 3) := by decide +kernel
theorem dX6_lift_78 : decode cX6_lift 78 = .ok (.aload_n 1, 1) := by decide +kernel
theorem dX6_lift_79 : decode cX6_lift 79 = .ok (.getfield 270, 3) := by decide +kernel
theorem dX6_lift_82 : decode cX6_lift 82 = .ok (.aload_n 2, 1) := by decide +kernel
theorem dX6_lift_83 : decode cX6_lift 83 = .ok (.invokevirtual 43, 3) := by decide +kernel
theorem dX6_lift_86 : decode cX6_lift 86 = .ok (.pop, 1) := by decide +kernel
theorem dX6_lift_87 : decode cX6_lift 87 = .ok (.aload_n 0, 1) := by decide +kernel
theorem dX6_lift_88 : decode cX6_lift 88 = .ok (.aload_n 1, 1) := by decide +kernel
theorem dX6_lift_89 : decode cX6_lift 89 = .ok (.aload_n 2, 1) := by decide +kernel
theorem dX6_lift_90 : decode cX6_lift 90 = .ok (.invokevirtual 250, 3) := by decide +kernel
theorem dX6_lift_93 : decode cX6_lift 93 = .ok (.ireturn, 1) := by decide +kernel
theorem dX6_canGo_0 : decode cX6_canGo 0 = .ok (.iload_n 1, 1) := by decide +kernel
theorem dX6_canGo_1 : decode cX6_canGo 1 = .ok (.iconst 1, 1) := by decide +kernel
theorem dX6_canGo_2 : decode cX6_canGo 2 = .ok (.if_icmp .lt 17, 3) := by decide +kernel
theorem dX6_canGo_5 : decode cX6_canGo 5 = .ok (.aload_n 0, 1) := by decide +kernel
theorem dX6_canGo_6 : decode cX6_canGo 6 = .ok (.iload_n 1, 1) := by decide +kernel
theorem dX6_canGo_7 : decode cX6_canGo 7 = .ok (.iconst 1, 1) := by decide +kernel
theorem dX6_canGo_8 : decode cX6_canGo 8 = .ok (.isub, 1) := by decide +kernel
theorem dX6_canGo_9 : decode cX6_canGo 9 = .ok (.invokevirtual 221, 3) := by decide +kernel
theorem dX6_canGo_12 : decode cX6_canGo 12 = .ok (.getfield 239, 3) := by decide +kernel
theorem dX6_canGo_15 : decode cX6_canGo 15 = .ok (.iload_n 2, 1) := by decide +kernel
theorem dX6_canGo_16 : decode cX6_canGo 16 = .ok (.if_icmp .ge 7, 3) := by decide +kernel
theorem dX6_canGo_19 : decode cX6_canGo 19 = .ok (.iconst 1, 1) := by decide +kernel
theorem dX6_canGo_20 : decode cX6_canGo 20 = .ok (.goto 4, 3) := by decide +kernel
theorem dX6_canGo_23 : decode cX6_canGo 23 = .ok (.iconst 0, 1) := by decide +kernel
theorem dX6_canGo_24 : decode cX6_canGo 24 = .ok (.istore_n 3, 1) := by decide +kernel
theorem dX6_canGo_25 : decode cX6_canGo 25 = .ok (.iload_n 1, 1) := by decide +kernel
theorem dX6_canGo_26 : decode cX6_canGo 26 = .ok (.iconst 2, 1) := by decide +kernel
theorem dX6_canGo_27 : decode cX6_canGo 27 = .ok (.if_icmp .gt 17, 3) := by decide +kernel
theorem dX6_canGo_30 : decode cX6_canGo 30 = .ok (.aload_n 0, 1) := by decide +kernel
theorem dX6_canGo_31 : decode cX6_canGo 31 = .ok (.iload_n 1, 1) := by decide +kernel
theorem dX6_canGo_32 : decode cX6_canGo 32 = .ok (.iconst 1, 1) := by decide +kernel
theorem dX6_canGo_33 : decode cX6_canGo 33 = .ok (.iadd, 1) := by decide +kernel
theorem dX6_canGo_34 : decode cX6_canGo 34 = .ok (.invokevirtual 221, 3) := by decide +kernel
theorem dX6_canGo_37 : decode cX6_canGo 37 = .ok (.getfield 239, 3) := by decide +kernel
theorem dX6_canGo_40 : decode cX6_canGo 40 = .ok (.iload_n 2, 1) := by decide +kernel
theorem dX6_canGo_41 : decode cX6_canGo 41 = .ok (.if_icmp .le 7, 3) := by decide +kernel
theorem dX6_canGo_44 : decode cX6_canGo 44 = .ok (.iconst 1, 1) := by decide +kernel
theorem dX6_canGo_45 : decode cX6_canGo 45 = .ok (.goto 4, 3) := by decide +kernel
theorem dX6_canGo_48 : decode cX6_canGo 48 = .ok (.iconst 0, 1) := by decide +kernel
theorem dX6_canGo_49 : decode cX6_canGo 49 = .ok (.istore 4, 2) := by decide +kernel
theorem dX6_canGo_51 : decode cX6_canGo 51 = .ok (.iload_n 3, 1) := by decide +kernel
theorem dX6_canGo_52 : decode cX6_canGo 52 = .ok (.ifCond .eq 12, 3) := by decide +kernel
theorem dX6_canGo_55 : decode cX6_canGo 55 = .ok (.iload 4, 2) := by decide +kernel
theorem dX6_canGo_57 : decode cX6_canGo 57 = .ok (.ifCond .eq 7, 3) := by decide +kernel
theorem dX6_canGo_60 : decode cX6_canGo 60 = .ok (.iconst 1, 1) := by decide +kernel
theorem dX6_canGo_61 : decode cX6_canGo 61 = .ok (.goto 4, 3) := by decide +kernel
theorem dX6_canGo_64 : decode cX6_canGo 64 = .ok (.iconst 0, 1) := by decide +kernel
theorem dX6_canGo_65 : decode cX6_canGo 65 = .ok (.ireturn, 1) := by decide +kernel
theorem dX6_isNothingToDo_0 : decode cX6_isNothingToDo 0 = .ok (.aload_n 0, 1) := by decide +kernel
theorem dX6_isNothingToDo_1 : decode cX6_isNothingToDo 1 = .ok (.getfield 185, 3) := by decide +kernel
theorem dX6_isNothingToDo_4 : decode cX6_isNothingToDo 4 = .ok (.astore_n 1, 1) := by decide +kernel
theorem dX6_isNothingToDo_5 : decode cX6_isNothingToDo 5 = .ok (.aload_n 1, 1) := by decide +kernel
theorem dX6_isNothingToDo_6 : decode cX6_isNothingToDo 6 = .ok (.getfield 105, 3) := by decide +kernel
theorem dX6_isNothingToDo_9 : decode cX6_isNothingToDo 9 = .ok (.iconst 4, 1) := by decide +kernel
theorem dX6_isNothingToDo_10 : decode cX6_isNothingToDo 10 = .ok (.if_icmp .eq 23, 3) := by decide +kernel
theorem dX6_isNothingToDo_13 : decode cX6_isNothingToDo 13 = .ok (.aload_n 0, 1) := by decide +kernel
theorem dX6_isNothingToDo_14 : decode cX6_isNothingToDo 14 = .ok (.getfield 271, 3) := by decide +kernel
theorem dX6_isNothingToDo_17 : decode cX6_isNothingToDo 17 = .ok (.iconst 1, 1) := by decide +kernel
theorem dX6_isNothingToDo_18 : decode cX6_isNothingToDo 18 = .ok (.if_icmp .ne 19, 3) := by decide +kernel
theorem dX6_isNothingToDo_21 : decode cX6_isNothingToDo 21 = .ok (.aload_n 1, 1) := by decide +kernel
theorem dX6_isNothingToDo_22 : decode cX6_isNothingToDo 22 = .ok (.iconst 3, 1) := by decide +kernel
theorem dX6_isNothingToDo_23 : decode cX6_isNothingToDo 23 = .ok (.aload_n 0, 1) := by decide +kernel
theorem dX6_isNothingToDo_24 : decode cX6_isNothingToDo 24 = .ok (.getfield 274, 3) := by decide +kernel
theorem dX6_isNothingToDo_27 : decode cX6_isNothingToDo 27 = .ok (.invokevirtual 189, 3) := by decide +kernel
theorem dX6_isNothingToDo_30 : decode cX6_isNothingToDo 30 = .ok (.ifCond .eq 7, 3) := by decide +kernel
theorem dX6_isNothingToDo_33 : decode cX6_isNothingToDo 33 = .ok (.iconst 1, 1) := by decide +kernel
theorem dX6_isNothingToDo_34 : decode cX6_isNothingToDo 34 = .ok (.goto 4, 3) := by decide +kernel
theorem dX6_isNothingToDo_37 : decode cX6_isNothingToDo 37 = .ok (.iconst 0, 1) := by decide +kernel
theorem dX6_isNothingToDo_38 : decode cX6_isNothingToDo 38 = .ok (.ireturn, 1) := by decide +kernel
theorem dX6_canTake_0 : decode cX6_canTake 0 = .ok (.aload_n 2, 1) := by decide +kernel
theorem dX6_canTake_1 : decode cX6_canTake 1 = .ok (.getfield 105, 3) := by decide +kernel
theorem dX6_canTake_4 : decode cX6_canTake 4 = .ok (.iconst 1, 1) := by decide +kernel
theorem dX6_canTake_5 : decode cX6_canTake 5 = .ok (.if_icmp .eq 19, 3) := by decide +kernel
theorem dX6_canTake_8 : decode cX6_canTake 8 = .ok (.aload_n 2, 1) := by decide +kernel
theorem dX6_canTake_9 : decode cX6_canTake 9 = .ok (.getfield 105, 3) := by decide +kernel
theorem dX6_canTake_12 : decode cX6_canTake 12 = .ok (.iconst 3, 1) := by decide +kernel
theorem dX6_canTake_13 : decode cX6_canTake 13 = .ok (.if_icmp .ne 15, 3) := by decide +kernel
theorem dX6_canTake_16 : decode cX6_canTake 16 = .ok (.aload_n 0, 1) := by decide +kernel
theorem dX6_canTake_17 : decode cX6_canTake 17 = .ok (.aload_n 2, 1) := by decide +kernel
theorem dX6_canTake_18 : decode cX6_canTake 18 = .ok (.invokevirtual 277, 3) := by decide +kernel
theorem dX6_canTake_21 : decode cX6_canTake 21 = .ok (.ifCond .eq 7, 3) := by decide +kernel
theorem dX6_canTake_24 : decode cX6_canTake 24 = .ok (.iconst 1, 1) := by decide +kernel
theorem dX6_canTake_25 : decode cX6_canTake 25 = .ok (.goto 4, 3) := by decide +kernel
theorem dX6_canTake_28 : decode cX6_canTake 28 = .ok (.iconst 0, 1) := by decide +kernel
theorem dX6_canTake_29 : decode cX6_canTake 29 = .ok (.istore_n 3, 1) := by decide +kernel
theorem dX6_canTake_30 : decode cX6_canTake 30 = .ok (.iload_n 3, 1) := by decide +kernel
theorem dX6_canTake_31 : decode cX6_canTake 31 = .ok (.ifCond .eq 16, 3) := by decide +kernel
theorem dX6_canTake_34 : decode cX6_canTake 34 = .ok (.aload_n 0, 1) := by decide +kernel
theorem dX6_canTake_35 : decode cX6_canTake 35 = .ok (.iconst 2, 1) := by decide +kernel
theorem dX6_canTake_36 : decode cX6_canTake 36 = .ok (.iload_n 1, 1) := by decide +kernel
theorem dX6_canTake_37 : decode cX6_canTake 37 = .ok (.invokevirtual 260, 3) := by decide +kernel
theorem dX6_canTake_40 : decode cX6_canTake 40 = .ok (.ifCond .ne 7, 3) := by decide +kernel
theorem dX6_canTake_43 : decode cX6_canTake 43 = .ok (.iconst 1, 1) := by decide +kernel
theorem dX6_canTake_44 : decode cX6_canTake 44 = .ok (.goto 4, 3) := by decide +kernel
theorem dX6_canTake_47 : decode cX6_canTake 47 = .ok (.iconst 0, 1) := by decide +kernel
theorem dX6_canTake_48 : decode cX6_canTake 48 = .ok (.ireturn, 1) := by decide +kernel
theorem dX6_isUppermost_0 : decode cX6_isUppermost 0 = .ok (.aload_n 1, 1) := by decide +kernel
theorem dX6_isUppermost_1 : decode cX6_isUppermost 1 = .ok (.getfield 281, 3) := by decide +kernel
theorem dX6_isUppermost_4 : decode cX6_isUppermost 4 = .ok (.aload_n 0, 1) := by decide +kernel
theorem dX6_isUppermost_5 : decode cX6_isUppermost 5 = .ok (.iconst 3, 1) := by decide +kernel
theorem dX6_isUppermost_6 : decode cX6_isUppermost 6 = .ok (.aload_n 1, 1) := by decide +kernel
theorem dX6_isUppermost_7 : decode cX6_isUppermost 7 = .ok (.getfield 284, 3) := by decide +kernel
theorem dX6_isUppermost_10 : decode cX6_isUppermost 10 = .ok (.invokevirtual 260, 3) := by decide +kernel
theorem dX6_isUppermost_13 : decode cX6_isUppermost 13 = .ok (.iconst 1, 1) := by decide +kernel
theorem dX6_isUppermost_14 : decode cX6_isUppermost 14 = .ok (.isub, 1) := by decide +kernel
theorem dX6_isUppermost_15 : decode cX6_isUppermost 15 = .ok (.if_icmp .ne 7, 3) := by decide +kernel
theorem dX6_isUppermost_18 : decode cX6_isUppermost 18 = .ok (.iconst 1, 1) := by decide +kernel
theorem dX6_isUppermost_19 : decode cX6_isUppermost 19 = .ok (.goto 4, 3) := by decide +kernel
theorem dX6_isUppermost_22 : decode cX6_isUppermost 22 = .ok (.iconst 0, 1) := by decide +kernel
theorem dX6_isUppermost_23 : decode cX6_isUppermost 23 = .ok (.ireturn, 1) := by decide +kernel
theorem dX6_canPutDown_0 : decode cX6_canPutDown 0 = .ok (.aload_n 1, 1) := by decide +kernel
theorem dX6_canPutDown_1 : decode cX6_canPutDown 1 = .ok (.getfield 271, 3) := by decide +kernel
theorem dX6_canPutDown_4 : decode cX6_canPutDown 4 = .ok (.iconst 1, 1) := by decide +kernel
theorem dX6_canPutDown_5 : decode cX6_canPutDown 5 = .ok (.if_icmp .ne 22, 3) := by decide +kernel
theorem dX6_canPutDown_8 : decode cX6_canPutDown 8 = .ok (.aload_n 0, 1) := by decide +kernel
theorem dX6_canPutDown_9 : decode cX6_canPutDown 9 = .ok (.iconst 3, 1) := by decide +kernel
theorem dX6_canPutDown_10 : decode cX6_canPutDown 10 = .ok (.aload_n 1, 1) := by decide +kernel
theorem dX6_canPutDown_11 : decode cX6_canPutDown 11 = .ok (.getfield 274, 3) := by decide +kernel
theorem dX6_canPutDown_14 : decode cX6_canPutDown 14 = .ok (.invokevirtual 260, 3) := by decide +kernel
theorem dX6_canPutDown_17 : decode cX6_canPutDown 17 = .ok (.iconst 4, 1) := by decide +kernel
theorem dX6_canPutDown_18 : decode cX6_canPutDown 18 = .ok (.if_icmp .ge 7, 3) := by decide +kernel
theorem dX6_canPutDown_21 : decode cX6_canPutDown 21 = .ok (.iconst 1, 1) := by decide +kernel
theorem dX6_canPutDown_22 : decode cX6_canPutDown 22 = .ok (.goto 4, 3) := by decide +kernel
theorem dX6_canPutDown_25 : decode cX6_canPutDown 25 = .ok (.iconst 0, 1) := by decide +kernel
theorem dX6_canPutDown_26 : decode cX6_canPutDown 26 = .ok (.ireturn, 1) := by decide +kernel
theorem dX6_canPutDown_27 : decode cX6_canPutDown 27 = .ok (.aload_n 1, 1) := by decide +kernel
theorem dX6_canPutDown_28 : decode cX6_canPutDown 28 = .ok (.getfield 185, 3) := by decide +kernel
theorem dX6_canPutDown_31 : decode cX6_canPutDown 31 = .ok (.aload_n 1, 1) := by decide +kernel
theorem dX6_canPutDown_32 : decode cX6_canPutDown 32 = .ok (.getfield 274, 3) := by decide +kernel
theorem dX6_canPutDown_35 : decode cX6_canPutDown 35 = .ok (.aload_n 0, 1) := by decide +kernel
theorem dX6_canPutDown_36 : decode cX6_canPutDown 36 = .ok (.getfield 31, 3) := by decide +kernel
theorem dX6_canPutDown_39 : decode cX6_canPutDown 39 = .ok (.invokevirtual 287, 3) := by decide +kernel
theorem dX6_canPutDown_42 : decode cX6_canPutDown 42 = .ok (.ireturn, 1) := by decide +kernel
theorem dX6_putDown_0 : decode cX6_putDown 0 = .ok (.aload_n 1, 1) := by decide +kernel
theorem dX6_putDown_1 : decode cX6_putDown 1 = .ok (.getfield 185, 3) := by decide +kernel
theorem dX6_putDown_4 : decode cX6_putDown 4 = .ok (.astore_n 2, 1) := by decide +kernel
theorem dX6_putDown_5 : decode cX6_putDown 5 = .ok (.aload_n 1, 1) := by decide +kernel
theorem dX6_putDown_6 : decode cX6_putDown 6 = .ok (.getfield 271, 3) := by decide +kernel
theorem dX6_putDown_9 : decode cX6_putDown 9 = .ok (.iconst 1, 1) := by decide +kernel
theorem dX6_putDown_10 : decode cX6_putDown 10 = .ok (.if_icmp .ne 28, 3) := by decide +kernel
theorem dX6_putDown_13 : decode cX6_putDown 13 = .ok (.aload_n 2, 1) := by decide +kernel
theorem dX6_putDown_14 : decode cX6_putDown 14 = .ok (.aload_n 0, 1) := by decide +kernel
theorem dX6_putDown_15 : decode cX6_putDown 15 = .ok (.iconst 3, 1) := by decide +kernel
theorem dX6_putDown_16 : decode cX6_putDown 16 = .ok (.aload_n 1, 1) := by decide +kernel
theorem dX6_putDown_17 : decode cX6_putDown 17 = .ok (.getfield 274, 3) := by decide +kernel
theorem dX6_putDown_20 : decode cX6_putDown 20 = .ok (.invokevirtual 260, 3) := by decide +kernel
theorem dX6_putDown_23 : decode cX6_putDown 23 = .ok (.putfield 281, 3) := by decide +kernel
theorem dX6_putDown_26 : decode cX6_putDown 26 = .ok (.aload_n 2, 1) := by decide +kernel
theorem dX6_putDown_27 : decode cX6_putDown 27 = .ok (.iconst 3, 1) := by decide +kernel
theorem dX6_putDown_28 : decode cX6_putDown 28 = .ok (.aload_n 1, 1) := by decide +kernel
theorem dX6_putDown_29 : decode cX6_putDown 29 = .ok (.getfield 274, 3) := by decide +kernel
theorem dX6_putDown_32 : decode cX6_putDown 32 = .ok (.invokevirtual 202, 3) := by decide +kernel
theorem dX6_putDown_35 : decode cX6_putDown 35 = .ok (.goto 16, 3) := by decide +kernel
theorem dX6_putDown_38 : decode cX6_putDown 38 = .ok (.aload_n 2, 1) := by decide +kernel
theorem dX6_putDown_39 : decode cX6_putDown 39 = .ok (.iconst 4, 1) := by decide +kernel
theorem dX6_putDown_40 : decode cX6_putDown 40 = .ok (.aload_n 1, 1) := by decide +kernel
theorem dX6_putDown_41 : decode cX6_putDown 41 = .ok (.getfield 274, 3) := by decide +kernel
theorem dX6_putDown_44 : decode cX6_putDown 44 = .ok (.invokevirtual 202, 3) := by decide +kernel
theorem dX6_putDown_47 : decode cX6_putDown 47 = .ok (.aload_n 2, 1) := by decide +kernel
theorem dX6_putDown_48 : decode cX6_putDown 48 = .ok (.invokevirtual 290, 3) := by decide +kernel
theorem dX6_putDown_51 : decode cX6_putDown 51 = .ok (.aload_n 0, 1) := by decide +kernel
theorem dX6_putDown_52 : decode cX6_putDown 52 = .ok (.aload_n 1, 1) := by decide +kernel
theorem dX6_putDown_53 : decode cX6_putDown 53 = .ok (.invokevirtual 267, 3) := by decide +kernel
theorem dX6_putDown_56 : decode cX6_putDown 56 = .ok (.return_, 1) := by decide +kernel
theorem dX6_noteMove_0 : decode cX6_noteMove 0 = .ok (.aload_n 1, 1) := by decide +kernel
theorem dX6_noteMove_1 : decode cX6_noteMove 1 = .ok (.aload_n 0, 1) := by decide +kernel
theorem dX6_noteMove_2 : decode cX6_noteMove 2 = .ok (.getfield 35, 3) := by decide +kernel
theorem dX6_noteMove_5 : decode cX6_noteMove 5 = .ok (.putfield 293, 3) := by decide +kernel
theorem dX6_noteMove_8 : decode cX6_noteMove 8 = .ok (.aload_n 0, 1) := by decide +kernel
theorem dX6_noteMove_9 : decode cX6_noteMove 9 = .ok (.dup, 1) := by decide +kernel
theorem dX6_noteMove_10 : decode cX6_noteMove 10 = .ok (.getfield 35, 3) := by decide +kernel
theorem dX6_noteMove_13 : decode cX6_noteMove 13 = .ok (.iconst 1, 1) := by decide +kernel
theorem dX6_noteMove_14 : decode cX6_noteMove 14 = .ok (.iadd, 1) := by decide +kernel
theorem dX6_noteMove_15 : decode cX6_noteMove 15 = .ok (.putfield 35, 3) := by decide +kernel
theorem dX6_noteMove_18 : decode cX6_noteMove 18 = .ok (.return_, 1) := by decide +kernel
theorem dX6_finish_0 : decode cX6_finish 0 = .ok (.aload_n 1, 1) := by decide +kernel
theorem dX6_finish_1 : decode cX6_finish 1 = .ok (.getfield 296, 3) := by decide +kernel
theorem dX6_finish_4 : decode cX6_finish 4 = .ok (.aload_n 2, 1) := by decide +kernel
theorem dX6_finish_5 : decode cX6_finish 5 = .ok (.invokevirtual 43, 3) := by decide +kernel
theorem dX6_finish_8 : decode cX6_finish 8 = .ok (.pop, 1) := by decide +kernel
theorem dX6_finish_9 : decode cX6_finish 9 = .ok (.aload_n 1, 1) := by decide +kernel
theorem dX6_finish_10 : decode cX6_finish 10 = .ok (.aconst_null, 1) := by decide +kernel
theorem dX6_finish_11 : decode cX6_finish 11 = .ok (.putfield 173, 3) := by decide +kernel
theorem dX6_finish_14 : decode cX6_finish 14 = .ok (.aload_n 0, 1) := by decide +kernel
theorem dX6_finish_15 : decode cX6_finish 15 = .ok (.aload_n 1, 1) := by decide +kernel
theorem dX6_finish_16 : decode cX6_finish 16 = .ok (.aload_n 2, 1) := by decide +kernel
theorem dX6_finish_17 : decode cX6_finish 17 = .ok (.invokevirtual 250, 3) := by decide +kernel
theorem dX6_finish_20 : decode cX6_finish 20 = .ok (.ireturn, 1) := by decide +kernel
theorem dX6_acknowledge_0 : decode cX6_acknowledge 0 = .ok (.aload_n 1, 1) := by decide +kernel
theorem dX6_acknowledge_1 : decode cX6_acknowledge 1 = .ok (.getfield 207, 3) := by decide +kernel
theorem dX6_acknowledge_4 : decode cX6_acknowledge 4 = .ok (.ifCond .le 15, 3) := by decide +kernel
theorem dX6_acknowledge_7 : decode cX6_acknowledge 7 = .ok (.aload_n 1, 1) := by decide +kernel
theorem dX6_acknowledge_8 : decode cX6_acknowledge 8 = .ok (.dup, 1) := by decide +kernel
theorem dX6_acknowledge_9 : decode cX6_acknowledge 9 = .ok (.getfield 207, 3) := by decide +kernel
theorem dX6_acknowledge_12 : decode cX6_acknowledge 12 = .ok (.iconst 1, 1) := by decide +kernel
theorem dX6_acknowledge_13 : decode cX6_acknowledge 13 = .ok (.isub, 1) := by decide +kernel
theorem dX6_acknowledge_14 : decode cX6_acknowledge 14 = .ok (.putfield 207, 3) := by decide +kernel
theorem dX6_acknowledge_17 : decode cX6_acknowledge 17 = .ok (.iconst 5, 1) := by decide +kernel
theorem dX6_acknowledge_18 : decode cX6_acknowledge 18 = .ok (.ireturn, 1) := by decide +kernel
theorem dX6_acknowledge_19 : decode cX6_acknowledge 19 = .ok (.aload_n 1, 1) := by decide +kernel
theorem dX6_acknowledge_20 : decode cX6_acknowledge 20 = .ok (.aload_n 2, 1) := by decide +kernel
theorem dX6_acknowledge_21 : decode cX6_acknowledge 21 = .ok (.invokevirtual 297, 3) := by decide +kernel
theorem dX6_acknowledge_24 : decode cX6_acknowledge 24 = .ok (.aload_n 1, 1) := by decide +kernel
theorem dX6_acknowledge_25 : decode cX6_acknowledge 25 = .ok (.aload_n 2, 1) := by decide +kernel
theorem dX6_acknowledge_26 : decode cX6_acknowledge 26 = .ok (.putfield 213, 3) := by decide +kernel
theorem dX6_acknowledge_29 : decode cX6_acknowledge 29 = .ok (.aload_n 2, 1) := by decide +kernel
theorem dX6_acknowledge_30 : decode cX6_acknowledge 30 = .ok (.invokevirtual 300, 3) := by decide +kernel
theorem dX6_acknowledge_33 : decode cX6_acknowledge 33 = .ok (.ifCond .eq 24, 3) := by decide +kernel
theorem dX6_acknowledge_36 : decode cX6_acknowledge 36 = .ok (.aload_n 2, 1) := by decide +kernel
theorem dX6_acknowledge_37 : decode cX6_acknowledge 37 = .ok (.getfield 303, 3) := by decide +kernel
theorem dX6_acknowledge_40 : decode cX6_acknowledge 40 = .ok (.ifCond .ne 17, 3) := by decide +kernel
theorem dX6_acknowledge_43 : decode cX6_acknowledge 43 = .ok (.aload_n 2, 1) := by decide +kernel
theorem dX6_acknowledge_44 : decode cX6_acknowledge 44 = .ok (.iconst 1, 1) := by decide +kernel
theorem dX6_acknowledge_45 : decode cX6_acknowledge 45 = .ok (.putfield 303, 3) := by decide +kernel
theorem dX6_acknowledge_48 : decode cX6_acknowledge 48 = .ok (.aload_n 0, 1) := by decide +kernel
theorem dX6_acknowledge_49 : decode cX6_acknowledge 49 = .ok (.getfield 22, 3) := by decide +kernel
theorem dX6_acknowledge_52 : decode cX6_acknowledge 52 = .ok (.aload_n 2, 1) := by decide +kernel
theorem dX6_acknowledge_53 : decode cX6_acknowledge 53 = .ok (.invokevirtual 43, 3) := by decide +kernel
theorem dX6_acknowledge_56 : decode cX6_acknowledge 56 = .ok (.pop, 1) := by decide +kernel
theorem dX6_acknowledge_57 : decode cX6_acknowledge 57 = .ok (.iconst 4, 1) := by decide +kernel
theorem dX6_acknowledge_58 : decode cX6_acknowledge 58 = .ok (.ireturn, 1) := by decide +kernel
theorem dX6_book_0 : decode cX6_book 0 = .ok (.iload_n 1, 1) := by decide +kernel
theorem dX6_book_1 : decode cX6_book 1 = .ok (.iconst 2, 1) := by decide +kernel
theorem dX6_book_2 : decode cX6_book 2 = .ok (.invokestatic 52, 3) := by decide +kernel
theorem dX6_book_5 : decode cX6_book 5 = .ok (.aload_n 0, 1) := by decide +kernel
theorem dX6_book_6 : decode cX6_book 6 = .ok (.iload_n 3, 1) := by decide +kernel
theorem dX6_book_7 : decode cX6_book 7 = .ok (.invokevirtual 116, 3) := by decide +kernel
theorem dX6_book_10 : decode cX6_book 10 = .ok (.astore 4, 2) := by decide +kernel
theorem dX6_book_12 : decode cX6_book 12 = .ok (.iload_n 2, 1) := by decide +kernel
theorem dX6_book_13 : decode cX6_book 13 = .ok (.aload_n 0, 1) := by decide +kernel
theorem dX6_book_14 : decode cX6_book 14 = .ok (.getfield 31, 3) := by decide +kernel
theorem dX6_book_17 : decode cX6_book 17 = .ok (.if_icmp .lt 14, 3) := by decide +kernel
theorem dX6_book_20 : decode cX6_book 20 = .ok (.iload_n 2, 1) := by decide +kernel
theorem dX6_book_21 : decode cX6_book 21 = .ok (.aload_n 0, 1) := by decide +kernel
theorem dX6_book_22 : decode cX6_book 22 = .ok (.getfield 31, 3) := by decide +kernel
theorem dX6_book_25 : decode cX6_book 25 = .ok (.bipush 24, 2) := by decide +kernel
theorem dX6_book_27 : decode cX6_book 27 = .ok (.iadd, 1) := by decide +kernel
theorem dX6_book_28 : decode cX6_book 28 = .ok (.if_icmp .le 14, 3) := by decide +kernel
theorem dX6_book_31 : decode cX6_book 31 = .ok (.new 55, 3) := by decide +kernel
theorem dX6_book_34 : decode cX6_book 34 = .ok (.dup, 1) := by decide +kernel
theorem dX6_book_35 : decode cX6_book 35 = .ok (.ldc_w 306, 3) := by decide +kernel
theorem dX6_book_38 : decode cX6_book 38 = .ok (.invokespecial 59, 3) := by decide +kernel
theorem dX6_book_41 : decode cX6_book 41 = .ok (.athrow, 1) := by decide +kernel
theorem dX6_book_42 : decode cX6_book 42 = .ok (.aload_n 0, 1) := by decide +kernel
theorem dX6_book_43 : decode cX6_book 43 = .ok (.iload_n 1, 1) := by decide +kernel
theorem dX6_book_44 : decode cX6_book 44 = .ok (.iload_n 2, 1) := by decide +kernel
theorem dX6_book_45 : decode cX6_book 45 = .ok (.invokevirtual 308, 3) := by decide +kernel
theorem dX6_book_48 : decode cX6_book 48 = .ok (.istore 5, 2) := by decide +kernel
theorem dX6_book_50 : decode cX6_book 50 = .ok (.aload 4, 2) := by decide +kernel
theorem dX6_book_52 : decode cX6_book 52 = .ok (.getfield 105, 3) := by decide +kernel
theorem dX6_book_55 : decode cX6_book 55 = .ok (.iconst 3, 1) := by decide +kernel
theorem dX6_book_56 : decode cX6_book 56 = .ok (.if_icmp .ne 27, 3) := by decide +kernel
theorem dX6_book_59 : decode cX6_book 59 = .ok (.aload 4, 2) := by decide +kernel
theorem dX6_book_61 : decode cX6_book 61 = .ok (.invokevirtual 311, 3) := by decide +kernel
theorem dX6_book_64 : decode cX6_book 64 = .ok (.ifCond .ne 19, 3) := by decide +kernel
theorem dX6_book_67 : decode cX6_book 67 = .ok (.iload 5, 2) := by decide +kernel
theorem dX6_book_69 : decode cX6_book 69 = .ok (.iconst 1, 1) := by decide +kernel
theorem dX6_book_70 : decode cX6_book 70 = .ok (.if_icmp .lt 13, 3) := by decide +kernel
theorem dX6_book_73 : decode cX6_book 73 = .ok (.aload_n 0, 1) := by decide +kernel
theorem dX6_book_74 : decode cX6_book 74 = .ok (.aload 4, 2) := by decide +kernel
theorem dX6_book_76 : decode cX6_book 76 = .ok (.iload_n 2, 1) := by decide +kernel
theorem dX6_book_77 : decode cX6_book 77 = .ok (.invokevirtual 314, 3) := by decide +kernel
theorem dX6_book_80 : decode cX6_book 80 = .ok (.ifCond .ne 14, 3) := by decide +kernel
theorem dX6_book_83 : decode cX6_book 83 = .ok (.new 70, 3) := by decide +kernel
theorem dX6_book_86 : decode cX6_book 86 = .ok (.dup, 1) := by decide +kernel
theorem dX6_book_87 : decode cX6_book 87 = .ok (.ldc_w 318, 3) := by decide +kernel
theorem dX6_book_90 : decode cX6_book 90 = .ok (.invokespecial 74, 3) := by decide +kernel
theorem dX6_book_93 : decode cX6_book 93 = .ok (.athrow, 1) := by decide +kernel
theorem dX6_book_94 : decode cX6_book 94 = .ok (.aload 4, 2) := by decide +kernel
theorem dX6_book_96 : decode cX6_book 96 = .ok (.iload_n 1, 1) := by decide +kernel
theorem dX6_book_97 : decode cX6_book 97 = .ok (.putfield 320, 3) := by decide +kernel
theorem dX6_book_100 : decode cX6_book 100 = .ok (.aload 4, 2) := by decide +kernel
theorem dX6_book_102 : decode cX6_book 102 = .ok (.iload_n 2, 1) := by decide +kernel
theorem dX6_book_103 : decode cX6_book 103 = .ok (.putfield 323, 3) := by decide +kernel
theorem dX6_book_106 : decode cX6_book 106 = .ok (.iload 5, 2) := by decide +kernel
theorem dX6_book_108 : decode cX6_book 108 = .ok (.iconst 1, 1) := by decide +kernel
theorem dX6_book_109 : decode cX6_book 109 = .ok (.isub, 1) := by decide +kernel
theorem dX6_book_110 : decode cX6_book 110 = .ok (.ireturn, 1) := by decide +kernel
theorem dX6_unbook_0 : decode cX6_unbook 0 = .ok (.aload_n 0, 1) := by decide +kernel
theorem dX6_unbook_1 : decode cX6_unbook 1 = .ok (.iload_n 1, 1) := by decide +kernel
theorem dX6_unbook_2 : decode cX6_unbook 2 = .ok (.invokevirtual 116, 3) := by decide +kernel
theorem dX6_unbook_5 : decode cX6_unbook 5 = .ok (.astore_n 2, 1) := by decide +kernel
theorem dX6_unbook_6 : decode cX6_unbook 6 = .ok (.aload_n 2, 1) := by decide +kernel
theorem dX6_unbook_7 : decode cX6_unbook 7 = .ok (.invokevirtual 311, 3) := by decide +kernel
theorem dX6_unbook_10 : decode cX6_unbook 10 = .ok (.ifCond .ne 14, 3) := by decide +kernel
theorem dX6_unbook_13 : decode cX6_unbook 13 = .ok (.new 70, 3) := by decide +kernel
theorem dX6_unbook_16 : decode cX6_unbook 16 = .ok (.dup, 1) := by decide +kernel
theorem dX6_unbook_17 : decode cX6_unbook 17 = .ok (.ldc_w 326, 3) := by decide +kernel
theorem dX6_unbook_20 : decode cX6_unbook 20 = .ok (.invokespecial 74, 3) := by decide +kernel
theorem dX6_unbook_23 : decode cX6_unbook 23 = .ok (.athrow, 1) := by decide +kernel
theorem dX6_unbook_24 : decode cX6_unbook 24 = .ok (.aload_n 2, 1) := by decide +kernel
theorem dX6_unbook_25 : decode cX6_unbook 25 = .ok (.getfield 323, 3) := by decide +kernel
theorem dX6_unbook_28 : decode cX6_unbook 28 = .ok (.istore_n 3, 1) := by decide +kernel
theorem dX6_unbook_29 : decode cX6_unbook 29 = .ok (.aload_n 2, 1) := by decide +kernel
theorem dX6_unbook_30 : decode cX6_unbook 30 = .ok (.invokevirtual 290, 3) := by decide +kernel
theorem dX6_unbook_33 : decode cX6_unbook 33 = .ok (.iload_n 3, 1) := by decide +kernel
theorem dX6_unbook_34 : decode cX6_unbook 34 = .ok (.ireturn, 1) := by decide +kernel
theorem dX6_advance_0 : decode cX6_advance 0 = .ok (.iload_n 1, 1) := by decide +kernel
theorem dX6_advance_1 : decode cX6_advance 1 = .ok (.iconst 1, 1) := by decide +kernel
theorem dX6_advance_2 : decode cX6_advance 2 = .ok (.if_icmp .lt 9, 3) := by decide +kernel
theorem dX6_advance_5 : decode cX6_advance 5 = .ok (.iload_n 1, 1) := by decide +kernel
theorem dX6_advance_6 : decode cX6_advance 6 = .ok (.bipush 48, 2) := by decide +kernel
theorem dX6_advance_8 : decode cX6_advance 8 = .ok (.if_icmp .le 14, 3) := by decide +kernel
theorem dX6_advance_11 : decode cX6_advance 11 = .ok (.new 55, 3) := by decide +kernel
theorem dX6_advance_14 : decode cX6_advance 14 = .ok (.dup, 1) := by decide +kernel
theorem dX6_advance_15 : decode cX6_advance 15 = .ok (.ldc_w 328, 3) := by decide +kernel
theorem dX6_advance_18 : decode cX6_advance 18 = .ok (.invokespecial 59, 3) := by decide +kernel
theorem dX6_advance_21 : decode cX6_advance 21 = .ok (.athrow, 1) := by decide +kernel
theorem dX6_advance_22 : decode cX6_advance 22 = .ok (.aload_n 0, 1) := by decide +kernel
theorem dX6_advance_23 : decode cX6_advance 23 = .ok (.getfield 31, 3) := by decide +kernel
theorem dX6_advance_26 : decode cX6_advance 26 = .ok (.iload_n 1, 1) := by decide +kernel
theorem dX6_advance_27 : decode cX6_advance 27 = .ok (.iadd, 1) := by decide +kernel
theorem dX6_advance_28 : decode cX6_advance 28 = .ok (.sipush 5000, 3) := by decide +kernel
theorem dX6_advance_31 : decode cX6_advance 31 = .ok (.if_icmp .le 14, 3) := by decide +kernel
theorem dX6_advance_34 : decode cX6_advance 34 = .ok (.new 70, 3) := by decide +kernel
theorem dX6_advance_37 : decode cX6_advance 37 = .ok (.dup, 1) := by decide +kernel
theorem dX6_advance_38 : decode cX6_advance 38 = .ok (.ldc_w 330, 3) := by decide +kernel
theorem dX6_advance_41 : decode cX6_advance 41 = .ok (.invokespecial 74, 3) := by decide +kernel
theorem dX6_advance_44 : decode cX6_advance 44 = .ok (.athrow, 1) := by decide +kernel
theorem dX6_advance_45 : decode cX6_advance 45 = .ok (.aload_n 0, 1) := by decide +kernel
theorem dX6_advance_46 : decode cX6_advance 46 = .ok (.dup, 1) := by decide +kernel
theorem dX6_advance_47 : decode cX6_advance 47 = .ok (.getfield 31, 3) := by decide +kernel
theorem dX6_advance_50 : decode cX6_advance 50 = .ok (.iload_n 1, 1) := by decide +kernel
theorem dX6_advance_51 : decode cX6_advance 51 = .ok (.iadd, 1) := by decide +kernel
theorem dX6_advance_52 : decode cX6_advance 52 = .ok (.putfield 31, 3) := by decide +kernel
theorem dX6_advance_55 : decode cX6_advance 55 = .ok (.iconst 0, 1) := by decide +kernel
theorem dX6_advance_56 : decode cX6_advance 56 = .ok (.istore_n 2, 1) := by decide +kernel
theorem dX6_advance_57 : decode cX6_advance 57 = .ok (.iconst 0, 1) := by decide +kernel
theorem dX6_advance_58 : decode cX6_advance 58 = .ok (.istore_n 3, 1) := by decide +kernel
theorem dX6_advance_59 : decode cX6_advance 59 = .ok (.iload_n 3, 1) := by decide +kernel
theorem dX6_advance_60 : decode cX6_advance 60 = .ok (.aload_n 0, 1) := by decide +kernel
theorem dX6_advance_61 : decode cX6_advance 61 = .ok (.getfield 16, 3) := by decide +kernel
theorem dX6_advance_64 : decode cX6_advance 64 = .ok (.invokevirtual 62, 3) := by decide +kernel
theorem dX6_advance_67 : decode cX6_advance 67 = .ok (.if_icmp .ge 50, 3) := by decide +kernel
theorem dX6_advance_70 : decode cX6_advance 70 = .ok (.aload_n 0, 1) := by decide +kernel
theorem dX6_advance_71 : decode cX6_advance 71 = .ok (.getfield 16, 3) := by decide +kernel
theorem dX6_advance_74 : decode cX6_advance 74 = .ok (.iload_n 3, 1) := by decide +kernel
theorem dX6_advance_75 : decode cX6_advance 75 = .ok (.invokevirtual 97, 3) := by decide +kernel
theorem dX6_advance_78 : decode cX6_advance 78 = .ok (.checkcast 92, 3) := by decide +kernel
theorem dX6_advance_81 : decode cX6_advance 81 = .ok (.astore 4, 2) := by decide +kernel
theorem dX6_advance_83 : decode cX6_advance 83 = .ok (.aload 4, 2) := by decide +kernel
theorem dX6_advance_85 : decode cX6_advance 85 = .ok (.invokevirtual 311, 3) := by decide +kernel
theorem dX6_advance_88 : decode cX6_advance 88 = .ok (.ifCond .eq 23, 3) := by decide +kernel
theorem dX6_advance_91 : decode cX6_advance 91 = .ok (.aload 4, 2) := by decide +kernel
theorem dX6_advance_93 : decode cX6_advance 93 = .ok (.getfield 323, 3) := by decide +kernel
theorem dX6_advance_96 : decode cX6_advance 96 = .ok (.aload_n 0, 1) := by decide +kernel
theorem dX6_advance_97 : decode cX6_advance 97 = .ok (.getfield 31, 3) := by decide +kernel
theorem dX6_advance_100 : decode cX6_advance 100 = .ok (.if_icmp .ge 11, 3) := by decide +kernel
theorem dX6_advance_103 : decode cX6_advance 103 = .ok (.aload 4, 2) := by decide +kernel
theorem dX6_advance_105 : decode cX6_advance 105 = .ok (.invokevirtual 290, 3) := by decide +kernel
theorem dX6_advance_108 : decode cX6_advance 108 = .ok (.iinc 2 1, 3) := by decide +kernel
theorem dX6_advance_111 : decode cX6_advance 111 = .ok (.iinc 3 1, 3) := by decide +kernel
theorem dX6_advance_114 : decode cX6_advance 114 = .ok (.goto (-55), 3) := by decide +kernel
theorem dX6_advance_117 : decode cX6_advance 117 = .ok (.iload_n 2, 1) := by decide +kernel
theorem dX6_advance_118 : decode cX6_advance 118 = .ok (.ireturn, 1) := by decide +kernel
theorem dX6_slotsLeft_0 : decode cX6_slotsLeft 0 = .ok (.iconst 2, 1) := by decide +kernel
theorem dX6_slotsLeft_1 : decode cX6_slotsLeft 1 = .ok (.istore_n 3, 1) := by decide +kernel
theorem dX6_slotsLeft_2 : decode cX6_slotsLeft 2 = .ok (.iconst 0, 1) := by decide +kernel
theorem dX6_slotsLeft_3 : decode cX6_slotsLeft 3 = .ok (.istore 4, 2) := by decide +kernel
theorem dX6_slotsLeft_5 : decode cX6_slotsLeft 5 = .ok (.iload 4, 2) := by decide +kernel
theorem dX6_slotsLeft_7 : decode cX6_slotsLeft 7 = .ok (.aload_n 0, 1) := by decide +kernel
theorem dX6_slotsLeft_8 : decode cX6_slotsLeft 8 = .ok (.getfield 16, 3) := by decide +kernel
theorem dX6_slotsLeft_11 : decode cX6_slotsLeft 11 = .ok (.invokevirtual 62, 3) := by decide +kernel
theorem dX6_slotsLeft_14 : decode cX6_slotsLeft 14 = .ok (.if_icmp .ge 32, 3) := by decide +kernel
theorem dX6_slotsLeft_17 : decode cX6_slotsLeft 17 = .ok (.aload_n 0, 1) := by decide +kernel
theorem dX6_slotsLeft_18 : decode cX6_slotsLeft 18 = .ok (.getfield 16, 3) := by decide +kernel
theorem dX6_slotsLeft_21 : decode cX6_slotsLeft 21 = .ok (.iload 4, 2) := by decide +kernel
theorem dX6_slotsLeft_23 : decode cX6_slotsLeft 23 = .ok (.invokevirtual 97, 3) := by decide +kernel
theorem dX6_slotsLeft_26 : decode cX6_slotsLeft 26 = .ok (.checkcast 92, 3) := by decide +kernel
theorem dX6_slotsLeft_29 : decode cX6_slotsLeft 29 = .ok (.iload_n 1, 1) := by decide +kernel
theorem dX6_slotsLeft_30 : decode cX6_slotsLeft 30 = .ok (.iload_n 2, 1) := by decide +kernel
theorem dX6_slotsLeft_31 : decode cX6_slotsLeft 31 = .ok (.invokevirtual 287, 3) := by decide +kernel
theorem dX6_slotsLeft_34 : decode cX6_slotsLeft 34 = .ok (.ifCond .eq 6, 3) := by decide +kernel
theorem dX6_slotsLeft_37 : decode cX6_slotsLeft 37 = .ok (.iinc 3 (-1), 3) := by decide +kernel
theorem dX6_slotsLeft_40 : decode cX6_slotsLeft 40 = .ok (.iinc 4 1, 3) := by decide +kernel
theorem dX6_slotsLeft_43 : decode cX6_slotsLeft 43 = .ok (.goto (-38), 3) := by decide +kernel
theorem dX6_slotsLeft_46 : decode cX6_slotsLeft 46 = .ok (.iload_n 3, 1) := by decide +kernel
theorem dX6_slotsLeft_47 : decode cX6_slotsLeft 47 = .ok (.ireturn, 1) := by decide +kernel
theorem dX6_canComeOut_0 : decode cX6_canComeOut 0 = .ok (.iconst 0, 1) := by decide +kernel
theorem dX6_canComeOut_1 : decode cX6_canComeOut 1 = .ok (.istore_n 3, 1) := by decide +kernel
theorem dX6_canComeOut_2 : decode cX6_canComeOut 2 = .ok (.iload_n 3, 1) := by decide +kernel
theorem dX6_canComeOut_3 : decode cX6_canComeOut 3 = .ok (.aload_n 0, 1) := by decide +kernel
theorem dX6_canComeOut_4 : decode cX6_canComeOut 4 = .ok (.getfield 16, 3) := by decide +kernel
theorem dX6_canComeOut_7 : decode cX6_canComeOut 7 = .ok (.invokevirtual 62, 3) := by decide +kernel
theorem dX6_canComeOut_10 : decode cX6_canComeOut 10 = .ok (.if_icmp .ge 97, 3) := by decide +kernel
theorem dX6_canComeOut_13 : decode cX6_canComeOut 13 = .ok (.aload_n 0, 1) := by decide +kernel
theorem dX6_canComeOut_14 : decode cX6_canComeOut 14 = .ok (.getfield 16, 3) := by decide +kernel
theorem dX6_canComeOut_17 : decode cX6_canComeOut 17 = .ok (.iload_n 3, 1) := by decide +kernel
theorem dX6_canComeOut_18 : decode cX6_canComeOut 18 = .ok (.invokevirtual 97, 3) := by decide +kernel
theorem dX6_canComeOut_21 : decode cX6_canComeOut 21 = .ok (.checkcast 92, 3) := by decide +kernel
theorem dX6_canComeOut_24 : decode cX6_canComeOut 24 = .ok (.astore 4, 2) := by decide +kernel
theorem dX6_canComeOut_26 : decode cX6_canComeOut 26 = .ok (.aload 4, 2) := by decide +kernel
theorem dX6_canComeOut_28 : decode cX6_canComeOut 28 = .ok (.iconst 3, 1) := by decide +kernel
theorem dX6_canComeOut_29 : decode cX6_canComeOut 29 = .ok (.aload_n 1, 1) := by decide +kernel
theorem dX6_canComeOut_30 : decode cX6_canComeOut 30 = .ok (.getfield 284, 3) := by decide +kernel
theorem dX6_canComeOut_33 : decode cX6_canComeOut 33 = .ok (.invokevirtual 189, 3) := by decide +kernel
theorem dX6_canComeOut_36 : decode cX6_canComeOut 36 = .ok (.ifCond .eq 65, 3) := by decide +kernel
theorem dX6_canComeOut_39 : decode cX6_canComeOut 39 = .ok (.aload 4, 2) := by decide +kernel
theorem dX6_canComeOut_41 : decode cX6_canComeOut 41 = .ok (.getfield 281, 3) := by decide +kernel
theorem dX6_canComeOut_44 : decode cX6_canComeOut 44 = .ok (.aload_n 1, 1) := by decide +kernel
theorem dX6_canComeOut_45 : decode cX6_canComeOut 45 = .ok (.getfield 281, 3) := by decide +kernel
theorem dX6_canComeOut_48 : decode cX6_canComeOut 48 = .ok (.if_icmp .le 22, 3) := by decide +kernel
theorem dX6_canComeOut_51 : decode cX6_canComeOut 51 = .ok (.aload 4, 2) := by decide +kernel
theorem dX6_canComeOut_53 : decode cX6_canComeOut 53 = .ok (.invokevirtual 311, 3) := by decide +kernel
theorem dX6_canComeOut_56 : decode cX6_canComeOut 56 = .ok (.ifCond .eq 12, 3) := by decide +kernel
theorem dX6_canComeOut_59 : decode cX6_canComeOut 59 = .ok (.aload 4, 2) := by decide +kernel
theorem dX6_canComeOut_61 : decode cX6_canComeOut 61 = .ok (.getfield 323, 3) := by decide +kernel
theorem dX6_canComeOut_64 : decode cX6_canComeOut 64 = .ok (.iload_n 2, 1) := by decide +kernel
theorem dX6_canComeOut_65 : decode cX6_canComeOut 65 = .ok (.if_icmp .le 5, 3) := by decide +kernel
theorem dX6_canComeOut_68 : decode cX6_canComeOut 68 = .ok (.iconst 0, 1) := by decide +kernel
theorem dX6_canComeOut_69 : decode cX6_canComeOut 69 = .ok (.ireturn, 1) := by decide +kernel
theorem dX6_canComeOut_70 : decode cX6_canComeOut 70 = .ok (.aload 4, 2) := by decide +kernel
theorem dX6_canComeOut_72 : decode cX6_canComeOut 72 = .ok (.getfield 281, 3) := by decide +kernel
theorem dX6_canComeOut_75 : decode cX6_canComeOut 75 = .ok (.aload_n 1, 1) := by decide +kernel
theorem dX6_canComeOut_76 : decode cX6_canComeOut 76 = .ok (.getfield 281, 3) := by decide +kernel
theorem dX6_canComeOut_79 : decode cX6_canComeOut 79 = .ok (.if_icmp .ge 22, 3) := by decide +kernel
theorem dX6_canComeOut_82 : decode cX6_canComeOut 82 = .ok (.aload 4, 2) := by decide +kernel
theorem dX6_canComeOut_84 : decode cX6_canComeOut 84 = .ok (.invokevirtual 311, 3) := by decide +kernel
theorem dX6_canComeOut_87 : decode cX6_canComeOut 87 = .ok (.ifCond .eq 14, 3) := by decide +kernel
theorem dX6_canComeOut_90 : decode cX6_canComeOut 90 = .ok (.aload 4, 2) := by decide +kernel
theorem dX6_canComeOut_92 : decode cX6_canComeOut 92 = .ok (.getfield 323, 3) := by decide +kernel
theorem dX6_canComeOut_95 : decode cX6_canComeOut 95 = .ok (.iload_n 2, 1) := by decide +kernel
theorem dX6_canComeOut_96 : decode cX6_canComeOut 96 = .ok (.if_icmp .ge 5, 3) := by decide +kernel
theorem dX6_canComeOut_99 : decode cX6_canComeOut 99 = .ok (.iconst 0, 1) := by decide +kernel
theorem dX6_canComeOut_100 : decode cX6_canComeOut 100 = .ok (.ireturn, 1) := by decide +kernel
theorem dX6_canComeOut_101 : decode cX6_canComeOut 101 = .ok (.iinc 3 1, 3) := by decide +kernel
theorem dX6_canComeOut_104 : decode cX6_canComeOut 104 = .ok (.goto (-102), 3) := by decide +kernel
theorem dX6_canComeOut_107 : decode cX6_canComeOut 107 = .ok (.iconst 1, 1) := by decide +kernel
theorem dX6_canComeOut_108 : decode cX6_canComeOut 108 = .ok (.ireturn, 1) := by decide +kernel
theorem dX6_hour_0 : decode cX6_hour 0 = .ok (.aload_n 0, 1) := by decide +kernel
theorem dX6_hour_1 : decode cX6_hour 1 = .ok (.getfield 31, 3) := by decide +kernel
theorem dX6_hour_4 : decode cX6_hour 4 = .ok (.ireturn, 1) := by decide +kernel
theorem dX6_boxes_0 : decode cX6_boxes 0 = .ok (.aload_n 0, 1) := by decide +kernel
theorem dX6_boxes_1 : decode cX6_boxes 1 = .ok (.getfield 16, 3) := by decide +kernel
theorem dX6_boxes_4 : decode cX6_boxes 4 = .ok (.invokevirtual 62, 3) := by decide +kernel
theorem dX6_boxes_7 : decode cX6_boxes 7 = .ok (.ireturn, 1) := by decide +kernel
theorem dX6_whereIs_0 : decode cX6_whereIs 0 = .ok (.aload_n 0, 1) := by decide +kernel
theorem dX6_whereIs_1 : decode cX6_whereIs 1 = .ok (.iload_n 1, 1) := by decide +kernel
theorem dX6_whereIs_2 : decode cX6_whereIs 2 = .ok (.invokevirtual 116, 3) := by decide +kernel
theorem dX6_whereIs_5 : decode cX6_whereIs 5 = .ok (.astore_n 2, 1) := by decide +kernel
theorem dX6_whereIs_6 : decode cX6_whereIs 6 = .ok (.aload_n 2, 1) := by decide +kernel
theorem dX6_whereIs_7 : decode cX6_whereIs 7 = .ok (.getfield 105, 3) := by decide +kernel
theorem dX6_whereIs_10 : decode cX6_whereIs 10 = .ok (.iconst 3, 1) := by decide +kernel
theorem dX6_whereIs_11 : decode cX6_whereIs 11 = .ok (.if_icmp .ne 20, 3) := by decide +kernel
theorem dX6_whereIs_14 : decode cX6_whereIs 14 = .ok (.sipush 300, 3) := by decide +kernel
theorem dX6_whereIs_17 : decode cX6_whereIs 17 = .ok (.bipush 10, 2) := by decide +kernel
theorem dX6_whereIs_19 : decode cX6_whereIs 19 = .ok (.aload_n 2, 1) := by decide +kernel
theorem dX6_whereIs_20 : decode cX6_whereIs 20 = .ok (.getfield 284, 3) := by decide +kernel
theorem dX6_whereIs_23 : decode cX6_whereIs 23 = .ok (.imul, 1) := by decide +kernel
theorem dX6_whereIs_24 : decode cX6_whereIs 24 = .ok (.iadd, 1) := by decide +kernel
theorem dX6_whereIs_25 : decode cX6_whereIs 25 = .ok (.aload_n 2, 1) := by decide +kernel
theorem dX6_whereIs_26 : decode cX6_whereIs 26 = .ok (.getfield 281, 3) := by decide +kernel
theorem dX6_whereIs_29 : decode cX6_whereIs 29 = .ok (.iadd, 1) := by decide +kernel
theorem dX6_whereIs_30 : decode cX6_whereIs 30 = .ok (.ireturn, 1) := by decide +kernel
theorem dX6_whereIs_31 : decode cX6_whereIs 31 = .ok (.bipush 100, 2) := by decide +kernel
theorem dX6_whereIs_33 : decode cX6_whereIs 33 = .ok (.aload_n 2, 1) := by decide +kernel
theorem dX6_whereIs_34 : decode cX6_whereIs 34 = .ok (.getfield 105, 3) := by decide +kernel
theorem dX6_whereIs_37 : decode cX6_whereIs 37 = .ok (.imul, 1) := by decide +kernel
theorem dX6_whereIs_38 : decode cX6_whereIs 38 = .ok (.aload_n 2, 1) := by decide +kernel
theorem dX6_whereIs_39 : decode cX6_whereIs 39 = .ok (.getfield 284, 3) := by decide +kernel
theorem dX6_whereIs_42 : decode cX6_whereIs 42 = .ok (.iadd, 1) := by decide +kernel
theorem dX6_whereIs_43 : decode cX6_whereIs 43 = .ok (.ireturn, 1) := by decide +kernel
theorem dX6_whereByLog_0 : decode cX6_whereByLog 0 = .ok (.aload_n 0, 1) := by decide +kernel
theorem dX6_whereByLog_1 : decode cX6_whereByLog 1 = .ok (.iload_n 1, 1) := by decide +kernel
theorem dX6_whereByLog_2 : decode cX6_whereByLog 2 = .ok (.invokevirtual 116, 3) := by decide +kernel
theorem dX6_whereByLog_5 : decode cX6_whereByLog 5 = .ok (.astore_n 2, 1) := by decide +kernel
theorem dX6_whereByLog_6 : decode cX6_whereByLog 6 = .ok (.aload_n 0, 1) := by decide +kernel
theorem dX6_whereByLog_7 : decode cX6_whereByLog 7 = .ok (.aload_n 2, 1) := by decide +kernel
theorem dX6_whereByLog_8 : decode cX6_whereByLog 8 = .ok (.invokevirtual 332, 3) := by decide +kernel
theorem dX6_whereByLog_11 : decode cX6_whereByLog 11 = .ok (.astore_n 3, 1) := by decide +kernel
theorem dX6_whereByLog_12 : decode cX6_whereByLog 12 = .ok (.aload_n 3, 1) := by decide +kernel
theorem dX6_whereByLog_13 : decode cX6_whereByLog 13 = .ok (.ifnonnull 10, 3) := by decide +kernel
theorem dX6_whereByLog_16 : decode cX6_whereByLog 16 = .ok (.iconst 0, 1) := by decide +kernel
theorem dX6_whereByLog_17 : decode cX6_whereByLog 17 = .ok (.aload_n 2, 1) := by decide +kernel
theorem dX6_whereByLog_18 : decode cX6_whereByLog 18 = .ok (.getfield 259, 3) := by decide +kernel
theorem dX6_whereByLog_21 : decode cX6_whereByLog 21 = .ok (.iadd, 1) := by decide +kernel
theorem dX6_whereByLog_22 : decode cX6_whereByLog 22 = .ok (.ireturn, 1) := by decide +kernel
theorem dX6_whereByLog_23 : decode cX6_whereByLog 23 = .ok (.aload_n 3, 1) := by decide +kernel
theorem dX6_whereByLog_24 : decode cX6_whereByLog 24 = .ok (.getfield 271, 3) := by decide +kernel
theorem dX6_whereByLog_27 : decode cX6_whereByLog 27 = .ok (.ifCond .ne 11, 3) := by decide +kernel
theorem dX6_whereByLog_30 : decode cX6_whereByLog 30 = .ok (.bipush 100, 2) := by decide +kernel
theorem dX6_whereByLog_32 : decode cX6_whereByLog 32 = .ok (.aload_n 2, 1) := by decide +kernel
theorem dX6_whereByLog_33 : decode cX6_whereByLog 33 = .ok (.getfield 259, 3) := by decide +kernel
theorem dX6_whereByLog_36 : decode cX6_whereByLog 36 = .ok (.iadd, 1) := by decide +kernel
theorem dX6_whereByLog_37 : decode cX6_whereByLog 37 = .ok (.ireturn, 1) := by decide +kernel
theorem dX6_whereByLog_38 : decode cX6_whereByLog 38 = .ok (.aload_n 3, 1) := by decide +kernel
theorem dX6_whereByLog_39 : decode cX6_whereByLog 39 = .ok (.getfield 271, 3) := by decide +kernel
theorem dX6_whereByLog_42 : decode cX6_whereByLog 42 = .ok (.iconst 1, 1) := by decide +kernel
theorem dX6_whereByLog_43 : decode cX6_whereByLog 43 = .ok (.if_icmp .ne 17, 3) := by decide +kernel
theorem dX6_whereByLog_46 : decode cX6_whereByLog 46 = .ok (.sipush 300, 3) := by decide +kernel
theorem dX6_whereByLog_49 : decode cX6_whereByLog 49 = .ok (.bipush 10, 2) := by decide +kernel
theorem dX6_whereByLog_51 : decode cX6_whereByLog 51 = .ok (.aload_n 3, 1) := by decide +kernel
theorem dX6_whereByLog_52 : decode cX6_whereByLog 52 = .ok (.getfield 274, 3) := by decide +kernel
theorem dX6_whereByLog_55 : decode cX6_whereByLog 55 = .ok (.imul, 1) := by decide +kernel
theorem dX6_whereByLog_56 : decode cX6_whereByLog 56 = .ok (.iadd, 1) := by decide +kernel
theorem dX6_whereByLog_57 : decode cX6_whereByLog 57 = .ok (.goto 11, 3) := by decide +kernel
theorem dX6_whereByLog_60 : decode cX6_whereByLog 60 = .ok (.sipush 400, 3) := by decide +kernel
theorem dX6_whereByLog_63 : decode cX6_whereByLog 63 = .ok (.aload_n 3, 1) := by decide +kernel
theorem dX6_whereByLog_64 : decode cX6_whereByLog 64 = .ok (.getfield 274, 3) := by decide +kernel
theorem dX6_whereByLog_67 : decode cX6_whereByLog 67 = .ok (.iadd, 1) := by decide +kernel
theorem dX6_whereByLog_68 : decode cX6_whereByLog 68 = .ok (.ireturn, 1) := by decide +kernel
theorem dX6_liftedBy_0 : decode cX6_liftedBy 0 = .ok (.aload_n 0, 1) := by decide +kernel
theorem dX6_liftedBy_1 : decode cX6_liftedBy 1 = .ok (.iload_n 1, 1) := by decide +kernel
theorem dX6_liftedBy_2 : decode cX6_liftedBy 2 = .ok (.invokevirtual 116, 3) := by decide +kernel
theorem dX6_liftedBy_5 : decode cX6_liftedBy 5 = .ok (.getfield 264, 3) := by decide +kernel
theorem dX6_liftedBy_8 : decode cX6_liftedBy 8 = .ok (.ireturn, 1) := by decide +kernel
theorem dX6_bookedFor_0 : decode cX6_bookedFor 0 = .ok (.aload_n 0, 1) := by decide +kernel
theorem dX6_bookedFor_1 : decode cX6_bookedFor 1 = .ok (.iload_n 1, 1) := by decide +kernel
theorem dX6_bookedFor_2 : decode cX6_bookedFor 2 = .ok (.invokevirtual 116, 3) := by decide +kernel
theorem dX6_bookedFor_5 : decode cX6_bookedFor 5 = .ok (.getfield 323, 3) := by decide +kernel
theorem dX6_bookedFor_8 : decode cX6_bookedFor 8 = .ok (.ireturn, 1) := by decide +kernel
theorem dX6_placeOf_0 : decode cX6_placeOf 0 = .ok (.aload_n 0, 1) := by decide +kernel
theorem dX6_placeOf_1 : decode cX6_placeOf 1 = .ok (.iload_n 1, 1) := by decide +kernel
theorem dX6_placeOf_2 : decode cX6_placeOf 2 = .ok (.invokevirtual 221, 3) := by decide +kernel
theorem dX6_placeOf_5 : decode cX6_placeOf 5 = .ok (.getfield 239, 3) := by decide +kernel
theorem dX6_placeOf_8 : decode cX6_placeOf 8 = .ok (.ireturn, 1) := by decide +kernel
theorem dX6_height_0 : decode cX6_height 0 = .ok (.iload_n 1, 1) := by decide +kernel
theorem dX6_height_1 : decode cX6_height 1 = .ok (.bipush 6, 2) := by decide +kernel
theorem dX6_height_3 : decode cX6_height 3 = .ok (.invokestatic 52, 3) := by decide +kernel
theorem dX6_height_6 : decode cX6_height 6 = .ok (.aload_n 0, 1) := by decide +kernel
theorem dX6_height_7 : decode cX6_height 7 = .ok (.iconst 3, 1) := by decide +kernel
theorem dX6_height_8 : decode cX6_height 8 = .ok (.iload_n 1, 1) := by decide +kernel
theorem dX6_height_9 : decode cX6_height 9 = .ok (.invokevirtual 260, 3) := by decide +kernel
theorem dX6_height_12 : decode cX6_height 12 = .ok (.ireturn, 1) := by decide +kernel
theorem dX6_queue_0 : decode cX6_queue 0 = .ok (.aload_n 0, 1) := by decide +kernel
theorem dX6_queue_1 : decode cX6_queue 1 = .ok (.iload_n 1, 1) := by decide +kernel
theorem dX6_queue_2 : decode cX6_queue 2 = .ok (.invokevirtual 136, 3) := by decide +kernel
theorem dX6_queue_5 : decode cX6_queue 5 = .ok (.getfield 146, 3) := by decide +kernel
theorem dX6_queue_8 : decode cX6_queue 8 = .ok (.invokevirtual 62, 3) := by decide +kernel
theorem dX6_queue_11 : decode cX6_queue 11 = .ok (.ireturn, 1) := by decide +kernel
theorem dX6_queued_0 : decode cX6_queued 0 = .ok (.aload_n 0, 1) := by decide +kernel
theorem dX6_queued_1 : decode cX6_queued 1 = .ok (.iload_n 1, 1) := by decide +kernel
theorem dX6_queued_2 : decode cX6_queued 2 = .ok (.invokevirtual 136, 3) := by decide +kernel
theorem dX6_queued_5 : decode cX6_queued 5 = .ok (.getfield 146, 3) := by decide +kernel
theorem dX6_queued_8 : decode cX6_queued 8 = .ok (.iload_n 2, 1) := by decide +kernel
theorem dX6_queued_9 : decode cX6_queued 9 = .ok (.invokestatic 336, 3) := by decide +kernel
theorem dX6_queued_12 : decode cX6_queued 12 = .ok (.getfield 151, 3) := by decide +kernel
theorem dX6_queued_15 : decode cX6_queued 15 = .ok (.ireturn, 1) := by decide +kernel
theorem dX6_seen_0 : decode cX6_seen 0 = .ok (.aload_n 0, 1) := by decide +kernel
theorem dX6_seen_1 : decode cX6_seen 1 = .ok (.iload_n 1, 1) := by decide +kernel
theorem dX6_seen_2 : decode cX6_seen 2 = .ok (.invokevirtual 169, 3) := by decide +kernel
theorem dX6_seen_5 : decode cX6_seen 5 = .ok (.getfield 173, 3) := by decide +kernel
theorem dX6_seen_8 : decode cX6_seen 8 = .ok (.astore_n 2, 1) := by decide +kernel
theorem dX6_seen_9 : decode cX6_seen 9 = .ok (.aload_n 2, 1) := by decide +kernel
theorem dX6_seen_10 : decode cX6_seen 10 = .ok (.ifnonnull 7, 3) := by decide +kernel
theorem dX6_seen_13 : decode cX6_seen 13 = .ok (.iconst (-1), 1) := by decide +kernel
theorem dX6_seen_14 : decode cX6_seen 14 = .ok (.goto 7, 3) := by decide +kernel
theorem dX6_seen_17 : decode cX6_seen 17 = .ok (.aload_n 2, 1) := by decide +kernel
theorem dX6_seen_18 : decode cX6_seen 18 = .ok (.getfield 151, 3) := by decide +kernel
theorem dX6_seen_21 : decode cX6_seen 21 = .ok (.ireturn, 1) := by decide +kernel
theorem dX6_handed_0 : decode cX6_handed 0 = .ok (.aload_n 0, 1) := by decide +kernel
theorem dX6_handed_1 : decode cX6_handed 1 = .ok (.getfield 19, 3) := by decide +kernel
theorem dX6_handed_4 : decode cX6_handed 4 = .ok (.iload_n 1, 1) := by decide +kernel
theorem dX6_handed_5 : decode cX6_handed 5 = .ok (.invokestatic 336, 3) := by decide +kernel
theorem dX6_handed_8 : decode cX6_handed 8 = .ok (.getfield 158, 3) := by decide +kernel
theorem dX6_handed_11 : decode cX6_handed 11 = .ok (.ireturn, 1) := by decide +kernel
theorem dX6_isDone_0 : decode cX6_isDone 0 = .ok (.aload_n 0, 1) := by decide +kernel
theorem dX6_isDone_1 : decode cX6_isDone 1 = .ok (.getfield 19, 3) := by decide +kernel
theorem dX6_isDone_4 : decode cX6_isDone 4 = .ok (.iload_n 1, 1) := by decide +kernel
theorem dX6_isDone_5 : decode cX6_isDone 5 = .ok (.invokestatic 336, 3) := by decide +kernel
theorem dX6_isDone_8 : decode cX6_isDone 8 = .ok (.invokevirtual 300, 3) := by decide +kernel
theorem dX6_isDone_11 : decode cX6_isDone 11 = .ok (.ireturn, 1) := by decide +kernel
theorem dX6_moves_0 : decode cX6_moves 0 = .ok (.aload_n 0, 1) := by decide +kernel
theorem dX6_moves_1 : decode cX6_moves 1 = .ok (.getfield 22, 3) := by decide +kernel
theorem dX6_moves_4 : decode cX6_moves 4 = .ok (.invokevirtual 62, 3) := by decide +kernel
theorem dX6_moves_7 : decode cX6_moves 7 = .ok (.ireturn, 1) := by decide +kernel
theorem dX6_moveAt_0 : decode cX6_moveAt 0 = .ok (.aload_n 0, 1) := by decide +kernel
theorem dX6_moveAt_1 : decode cX6_moveAt 1 = .ok (.getfield 22, 3) := by decide +kernel
theorem dX6_moveAt_4 : decode cX6_moveAt 4 = .ok (.iload_n 1, 1) := by decide +kernel
theorem dX6_moveAt_5 : decode cX6_moveAt 5 = .ok (.invokestatic 336, 3) := by decide +kernel
theorem dX6_moveAt_8 : decode cX6_moveAt 8 = .ok (.getfield 151, 3) := by decide +kernel
theorem dX6_moveAt_11 : decode cX6_moveAt 11 = .ok (.ireturn, 1) := by decide +kernel
theorem dX6_unheard_0 : decode cX6_unheard 0 = .ok (.aload_n 0, 1) := by decide +kernel
theorem dX6_unheard_1 : decode cX6_unheard 1 = .ok (.getfield 35, 3) := by decide +kernel
theorem dX6_unheard_4 : decode cX6_unheard 4 = .ok (.aload_n 0, 1) := by decide +kernel
theorem dX6_unheard_5 : decode cX6_unheard 5 = .ok (.getfield 22, 3) := by decide +kernel
theorem dX6_unheard_8 : decode cX6_unheard 8 = .ok (.invokevirtual 62, 3) := by decide +kernel
theorem dX6_unheard_11 : decode cX6_unheard 11 = .ok (.isub, 1) := by decide +kernel
theorem dX6_unheard_12 : decode cX6_unheard 12 = .ok (.ireturn, 1) := by decide +kernel
theorem dX6_lastLoggedMoveOf_0 : decode cX6_lastLoggedMoveOf 0 = .ok (.aconst_null, 1) := by decide +kernel
theorem dX6_lastLoggedMoveOf_1 : decode cX6_lastLoggedMoveOf 1 = .ok (.astore_n 2, 1) := by decide +kernel
theorem dX6_lastLoggedMoveOf_2 : decode cX6_lastLoggedMoveOf 2 = .ok (.iconst 0, 1) := by decide +kernel
theorem dX6_lastLoggedMoveOf_3 : decode cX6_lastLoggedMoveOf 3 = .ok (.istore_n 3, 1) := by decide +kernel
theorem dX6_lastLoggedMoveOf_4 : decode cX6_lastLoggedMoveOf 4 = .ok (.iload_n 3, 1) := by decide +kernel
theorem dX6_lastLoggedMoveOf_5 : decode cX6_lastLoggedMoveOf 5 = .ok (.aload_n 0, 1) := by decide +kernel
theorem dX6_lastLoggedMoveOf_6 : decode cX6_lastLoggedMoveOf 6 = .ok (.getfield 22, 3) := by decide +kernel
theorem dX6_lastLoggedMoveOf_9 : decode cX6_lastLoggedMoveOf 9 = .ok (.invokevirtual 62, 3) := by decide +kernel
theorem dX6_lastLoggedMoveOf_12 : decode cX6_lastLoggedMoveOf 12 = .ok (.if_icmp .ge 50, 3) := by decide +kernel
theorem dX6_lastLoggedMoveOf_15 : decode cX6_lastLoggedMoveOf 15 = .ok (.aload_n 0, 1) := by decide +kernel
theorem dX6_lastLoggedMoveOf_16 : decode cX6_lastLoggedMoveOf 16 = .ok (.getfield 22, 3) := by decide +kernel
theorem dX6_lastLoggedMoveOf_19 : decode cX6_lastLoggedMoveOf 19 = .ok (.iload_n 3, 1) := by decide +kernel
theorem dX6_lastLoggedMoveOf_20 : decode cX6_lastLoggedMoveOf 20 = .ok (.invokevirtual 97, 3) := by decide +kernel
theorem dX6_lastLoggedMoveOf_23 : decode cX6_lastLoggedMoveOf 23 = .ok (.checkcast 141, 3) := by decide +kernel
theorem dX6_lastLoggedMoveOf_26 : decode cX6_lastLoggedMoveOf 26 = .ok (.astore 4, 2) := by decide +kernel
theorem dX6_lastLoggedMoveOf_28 : decode cX6_lastLoggedMoveOf 28 = .ok (.aload 4, 2) := by decide +kernel
theorem dX6_lastLoggedMoveOf_30 : decode cX6_lastLoggedMoveOf 30 = .ok (.getfield 185, 3) := by decide +kernel
theorem dX6_lastLoggedMoveOf_33 : decode cX6_lastLoggedMoveOf 33 = .ok (.aload_n 1, 1) := by decide +kernel
theorem dX6_lastLoggedMoveOf_34 : decode cX6_lastLoggedMoveOf 34 = .ok (.if_acmp .ne 22, 3) := by decide +kernel
theorem dX6_lastLoggedMoveOf_37 : decode cX6_lastLoggedMoveOf 37 = .ok (.aload_n 2, 1) := by decide +kernel
theorem dX6_lastLoggedMoveOf_38 : decode cX6_lastLoggedMoveOf 38 = .ok (.ifnull 15, 3) := by decide +kernel
theorem dX6_lastLoggedMoveOf_41 : decode cX6_lastLoggedMoveOf 41 = .ok (.aload 4, 2) := by decide +kernel
theorem dX6_lastLoggedMoveOf_43 : decode cX6_lastLoggedMoveOf 43 = .ok (.getfield 293, 3) := by decide +kernel
theorem dX6_lastLoggedMoveOf_46 : decode cX6_lastLoggedMoveOf 46 = .ok (.aload_n 2, 1) := by decide +kernel
theorem dX6_lastLoggedMoveOf_47 : decode cX6_lastLoggedMoveOf 47 = .ok (.getfield 293, 3) := by decide +kernel
theorem dX6_lastLoggedMoveOf_50 : decode cX6_lastLoggedMoveOf 50 = .ok (.if_icmp .le 6, 3) := by decide +kernel
theorem dX6_lastLoggedMoveOf_53 : decode cX6_lastLoggedMoveOf 53 = .ok (.aload 4, 2) := by decide +kernel
theorem dX6_lastLoggedMoveOf_55 : decode cX6_lastLoggedMoveOf 55 = .ok (.astore_n 2, 1) := by decide +kernel
theorem dX6_lastLoggedMoveOf_56 : decode cX6_lastLoggedMoveOf 56 = .ok (.iinc 3 1, 3) := by decide +kernel
theorem dX6_lastLoggedMoveOf_59 : decode cX6_lastLoggedMoveOf 59 = .ok (.goto (-55), 3) := by decide +kernel
theorem dX6_lastLoggedMoveOf_62 : decode cX6_lastLoggedMoveOf 62 = .ok (.aload_n 2, 1) := by decide +kernel
theorem dX6_lastLoggedMoveOf_63 : decode cX6_lastLoggedMoveOf 63 = .ok (.areturn, 1) := by decide +kernel
theorem dX6_countAt_0 : decode cX6_countAt 0 = .ok (.iconst 0, 1) := by decide +kernel
theorem dX6_countAt_1 : decode cX6_countAt 1 = .ok (.istore_n 3, 1) := by decide +kernel
theorem dX6_countAt_2 : decode cX6_countAt 2 = .ok (.iconst 0, 1) := by decide +kernel
theorem dX6_countAt_3 : decode cX6_countAt 3 = .ok (.istore 4, 2) := by decide +kernel
theorem dX6_countAt_5 : decode cX6_countAt 5 = .ok (.iload 4, 2) := by decide +kernel
theorem dX6_countAt_7 : decode cX6_countAt 7 = .ok (.aload_n 0, 1) := by decide +kernel
theorem dX6_countAt_8 : decode cX6_countAt 8 = .ok (.getfield 16, 3) := by decide +kernel
theorem dX6_countAt_11 : decode cX6_countAt 11 = .ok (.invokevirtual 62, 3) := by decide +kernel
theorem dX6_countAt_14 : decode cX6_countAt 14 = .ok (.if_icmp .ge 32, 3) := by decide +kernel
theorem dX6_countAt_17 : decode cX6_countAt 17 = .ok (.aload_n 0, 1) := by decide +kernel
theorem dX6_countAt_18 : decode cX6_countAt 18 = .ok (.getfield 16, 3) := by decide +kernel
theorem dX6_countAt_21 : decode cX6_countAt 21 = .ok (.iload 4, 2) := by decide +kernel
theorem dX6_countAt_23 : decode cX6_countAt 23 = .ok (.invokevirtual 97, 3) := by decide +kernel
theorem dX6_countAt_26 : decode cX6_countAt 26 = .ok (.checkcast 92, 3) := by decide +kernel
theorem dX6_countAt_29 : decode cX6_countAt 29 = .ok (.iload_n 1, 1) := by decide +kernel
theorem dX6_countAt_30 : decode cX6_countAt 30 = .ok (.iload_n 2, 1) := by decide +kernel
theorem dX6_countAt_31 : decode cX6_countAt 31 = .ok (.invokevirtual 189, 3) := by decide +kernel
theorem dX6_countAt_34 : decode cX6_countAt 34 = .ok (.ifCond .eq 6, 3) := by decide +kernel
theorem dX6_countAt_37 : decode cX6_countAt 37 = .ok (.iinc 3 1, 3) := by decide +kernel
theorem dX6_countAt_40 : decode cX6_countAt 40 = .ok (.iinc 4 1, 3) := by decide +kernel
theorem dX6_countAt_43 : decode cX6_countAt 43 = .ok (.goto (-38), 3) := by decide +kernel
theorem dX6_countAt_46 : decode cX6_countAt 46 = .ok (.iload_n 3, 1) := by decide +kernel
theorem dX6_countAt_47 : decode cX6_countAt 47 = .ok (.ireturn, 1) := by decide +kernel
theorem dX6_indexOf_0 : decode cX6_indexOf 0 = .ok (.iconst 0, 1) := by decide +kernel
theorem dX6_indexOf_1 : decode cX6_indexOf 1 = .ok (.istore_n 2, 1) := by decide +kernel
theorem dX6_indexOf_2 : decode cX6_indexOf 2 = .ok (.iload_n 2, 1) := by decide +kernel
theorem dX6_indexOf_3 : decode cX6_indexOf 3 = .ok (.aload_n 1, 1) := by decide +kernel
theorem dX6_indexOf_4 : decode cX6_indexOf 4 = .ok (.invokevirtual 62, 3) := by decide +kernel
theorem dX6_indexOf_7 : decode cX6_indexOf 7 = .ok (.if_icmp .ge 20, 3) := by decide +kernel
theorem dX6_indexOf_10 : decode cX6_indexOf 10 = .ok (.aload_n 1, 1) := by decide +kernel
theorem dX6_indexOf_11 : decode cX6_indexOf 11 = .ok (.iload_n 2, 1) := by decide +kernel
theorem dX6_indexOf_12 : decode cX6_indexOf 12 = .ok (.invokevirtual 97, 3) := by decide +kernel
theorem dX6_indexOf_15 : decode cX6_indexOf 15 = .ok (.aload_n 0, 1) := by decide +kernel
theorem dX6_indexOf_16 : decode cX6_indexOf 16 = .ok (.if_acmp .ne 5, 3) := by decide +kernel
theorem dX6_indexOf_19 : decode cX6_indexOf 19 = .ok (.iload_n 2, 1) := by decide +kernel
theorem dX6_indexOf_20 : decode cX6_indexOf 20 = .ok (.ireturn, 1) := by decide +kernel
theorem dX6_indexOf_21 : decode cX6_indexOf 21 = .ok (.iinc 2 1, 3) := by decide +kernel
theorem dX6_indexOf_24 : decode cX6_indexOf 24 = .ok (.goto (-22), 3) := by decide +kernel
theorem dX6_indexOf_27 : decode cX6_indexOf 27 = .ok (.iconst (-1), 1) := by decide +kernel
theorem dX6_indexOf_28 : decode cX6_indexOf 28 = .ok (.ireturn, 1) := by decide +kernel
theorem dX6_requireOneOf_0 : decode cX6_requireOneOf 0 = .ok (.iload_n 0, 1) := by decide +kernel
theorem dX6_requireOneOf_1 : decode cX6_requireOneOf 1 = .ok (.ifCond .lt 8, 3) := by decide +kernel
theorem dX6_requireOneOf_4 : decode cX6_requireOneOf 4 = .ok (.iload_n 0, 1) := by decide +kernel
theorem dX6_requireOneOf_5 : decode cX6_requireOneOf 5 = .ok (.iload_n 1, 1) := by decide +kernel
theorem dX6_requireOneOf_6 : decode cX6_requireOneOf 6 = .ok (.if_icmp .lt 14, 3) := by decide +kernel
theorem dX6_requireOneOf_9 : decode cX6_requireOneOf 9 = .ok (.new 127, 3) := by decide +kernel
theorem dX6_requireOneOf_12 : decode cX6_requireOneOf 12 = .ok (.dup, 1) := by decide +kernel
theorem dX6_requireOneOf_13 : decode cX6_requireOneOf 13 = .ok (.ldc_w 340, 3) := by decide +kernel
theorem dX6_requireOneOf_16 : decode cX6_requireOneOf 16 = .ok (.invokespecial 131, 3) := by decide +kernel
theorem dX6_requireOneOf_19 : decode cX6_requireOneOf 19 = .ok (.athrow, 1) := by decide +kernel
theorem dX6_requireOneOf_20 : decode cX6_requireOneOf 20 = .ok (.return_, 1) := by decide +kernel
theorem dX6_elementOf_0 : decode cX6_elementOf 0 = .ok (.iload_n 1, 1) := by decide +kernel
theorem dX6_elementOf_1 : decode cX6_elementOf 1 = .ok (.aload_n 0, 1) := by decide +kernel
theorem dX6_elementOf_2 : decode cX6_elementOf 2 = .ok (.invokevirtual 62, 3) := by decide +kernel
theorem dX6_elementOf_5 : decode cX6_elementOf 5 = .ok (.invokestatic 52, 3) := by decide +kernel
theorem dX6_elementOf_8 : decode cX6_elementOf 8 = .ok (.aload_n 0, 1) := by decide +kernel
theorem dX6_elementOf_9 : decode cX6_elementOf 9 = .ok (.iload_n 1, 1) := by decide +kernel
theorem dX6_elementOf_10 : decode cX6_elementOf 10 = .ok (.invokevirtual 97, 3) := by decide +kernel
theorem dX6_elementOf_13 : decode cX6_elementOf 13 = .ok (.checkcast 141, 3) := by decide +kernel
theorem dX6_elementOf_16 : decode cX6_elementOf 16 = .ok (.areturn, 1) := by decide +kernel
theorem dX6_shipNumbered_0 : decode cX6_shipNumbered 0 = .ok (.iload_n 1, 1) := by decide +kernel
theorem dX6_shipNumbered_1 : decode cX6_shipNumbered 1 = .ok (.aload_n 0, 1) := by decide +kernel
theorem dX6_shipNumbered_2 : decode cX6_shipNumbered 2 = .ok (.getfield 12, 3) := by decide +kernel
theorem dX6_shipNumbered_5 : decode cX6_shipNumbered 5 = .ok (.invokevirtual 62, 3) := by decide +kernel
theorem dX6_shipNumbered_8 : decode cX6_shipNumbered 8 = .ok (.invokestatic 52, 3) := by decide +kernel
theorem dX6_shipNumbered_11 : decode cX6_shipNumbered 11 = .ok (.aload_n 0, 1) := by decide +kernel
theorem dX6_shipNumbered_12 : decode cX6_shipNumbered 12 = .ok (.getfield 12, 3) := by decide +kernel
theorem dX6_shipNumbered_15 : decode cX6_shipNumbered 15 = .ok (.iload_n 1, 1) := by decide +kernel
theorem dX6_shipNumbered_16 : decode cX6_shipNumbered 16 = .ok (.invokevirtual 97, 3) := by decide +kernel
theorem dX6_shipNumbered_19 : decode cX6_shipNumbered 19 = .ok (.checkcast 75, 3) := by decide +kernel
theorem dX6_shipNumbered_22 : decode cX6_shipNumbered 22 = .ok (.astore_n 2, 1) := by decide +kernel
theorem dX6_shipNumbered_23 : decode cX6_shipNumbered 23 = .ok (.aload_n 2, 1) := by decide +kernel
theorem dX6_shipNumbered_24 : decode cX6_shipNumbered 24 = .ok (.getfield 110, 3) := by decide +kernel
theorem dX6_shipNumbered_27 : decode cX6_shipNumbered 27 = .ok (.ifCond .eq 14, 3) := by decide +kernel
theorem dX6_shipNumbered_30 : decode cX6_shipNumbered 30 = .ok (.new 127, 3) := by decide +kernel
theorem dX6_shipNumbered_33 : decode cX6_shipNumbered 33 = .ok (.dup, 1) := by decide +kernel
theorem dX6_shipNumbered_34 : decode cX6_shipNumbered 34 = .ok (.ldc_w 342, 3) := by decide +kernel
theorem dX6_shipNumbered_37 : decode cX6_shipNumbered 37 = .ok (.invokespecial 131, 3) := by decide +kernel
theorem dX6_shipNumbered_40 : decode cX6_shipNumbered 40 = .ok (.athrow, 1) := by decide +kernel
theorem dX6_shipNumbered_41 : decode cX6_shipNumbered 41 = .ok (.aload_n 2, 1) := by decide +kernel
theorem dX6_shipNumbered_42 : decode cX6_shipNumbered 42 = .ok (.areturn, 1) := by decide +kernel
theorem dX6_boxNumbered_0 : decode cX6_boxNumbered 0 = .ok (.iload_n 1, 1) := by decide +kernel
theorem dX6_boxNumbered_1 : decode cX6_boxNumbered 1 = .ok (.aload_n 0, 1) := by decide +kernel
theorem dX6_boxNumbered_2 : decode cX6_boxNumbered 2 = .ok (.getfield 16, 3) := by decide +kernel
theorem dX6_boxNumbered_5 : decode cX6_boxNumbered 5 = .ok (.invokevirtual 62, 3) := by decide +kernel
theorem dX6_boxNumbered_8 : decode cX6_boxNumbered 8 = .ok (.invokestatic 52, 3) := by decide +kernel
theorem dX6_boxNumbered_11 : decode cX6_boxNumbered 11 = .ok (.aload_n 0, 1) := by decide +kernel
theorem dX6_boxNumbered_12 : decode cX6_boxNumbered 12 = .ok (.getfield 16, 3) := by decide +kernel
theorem dX6_boxNumbered_15 : decode cX6_boxNumbered 15 = .ok (.iload_n 1, 1) := by decide +kernel
theorem dX6_boxNumbered_16 : decode cX6_boxNumbered 16 = .ok (.invokevirtual 97, 3) := by decide +kernel
theorem dX6_boxNumbered_19 : decode cX6_boxNumbered 19 = .ok (.checkcast 92, 3) := by decide +kernel
theorem dX6_boxNumbered_22 : decode cX6_boxNumbered 22 = .ok (.areturn, 1) := by decide +kernel
theorem dX6_craneNumbered_0 : decode cX6_craneNumbered 0 = .ok (.iload_n 1, 1) := by decide +kernel
theorem dX6_craneNumbered_1 : decode cX6_craneNumbered 1 = .ok (.aload_n 0, 1) := by decide +kernel
theorem dX6_craneNumbered_2 : decode cX6_craneNumbered 2 = .ok (.getfield 25, 3) := by decide +kernel
theorem dX6_craneNumbered_5 : decode cX6_craneNumbered 5 = .ok (.invokevirtual 62, 3) := by decide +kernel
theorem dX6_craneNumbered_8 : decode cX6_craneNumbered 8 = .ok (.invokestatic 52, 3) := by decide +kernel
theorem dX6_craneNumbered_11 : decode cX6_craneNumbered 11 = .ok (.aload_n 0, 1) := by decide +kernel
theorem dX6_craneNumbered_12 : decode cX6_craneNumbered 12 = .ok (.getfield 25, 3) := by decide +kernel
theorem dX6_craneNumbered_15 : decode cX6_craneNumbered 15 = .ok (.iload_n 1, 1) := by decide +kernel
theorem dX6_craneNumbered_16 : decode cX6_craneNumbered 16 = .ok (.invokevirtual 97, 3) := by decide +kernel
theorem dX6_craneNumbered_19 : decode cX6_craneNumbered 19 = .ok (.checkcast 38, 3) := by decide +kernel
theorem dX6_craneNumbered_22 : decode cX6_craneNumbered 22 = .ok (.areturn, 1) := by decide +kernel
theorem dX6_truckNumbered_0 : decode cX6_truckNumbered 0 = .ok (.iload_n 1, 1) := by decide +kernel
theorem dX6_truckNumbered_1 : decode cX6_truckNumbered 1 = .ok (.iconst 4, 1) := by decide +kernel
theorem dX6_truckNumbered_2 : decode cX6_truckNumbered 2 = .ok (.if_icmp .lt 16, 3) := by decide +kernel
theorem dX6_truckNumbered_5 : decode cX6_truckNumbered 5 = .ok (.iload_n 1, 1) := by decide +kernel
theorem dX6_truckNumbered_6 : decode cX6_truckNumbered 6 = .ok (.iconst 4, 1) := by decide +kernel
theorem dX6_truckNumbered_7 : decode cX6_truckNumbered 7 = .ok (.isub, 1) := by decide +kernel
theorem dX6_truckNumbered_8 : decode cX6_truckNumbered 8 = .ok (.aload_n 0, 1) := by decide +kernel
theorem dX6_truckNumbered_9 : decode cX6_truckNumbered 9 = .ok (.getfield 28, 3) := by decide +kernel
theorem dX6_truckNumbered_12 : decode cX6_truckNumbered 12 = .ok (.invokevirtual 62, 3) := by decide +kernel
theorem dX6_truckNumbered_15 : decode cX6_truckNumbered 15 = .ok (.if_icmp .lt 14, 3) := by decide +kernel
theorem dX6_truckNumbered_18 : decode cX6_truckNumbered 18 = .ok (.new 127, 3) := by decide +kernel
theorem dX6_truckNumbered_21 : decode cX6_truckNumbered 21 = .ok (.dup, 1) := by decide +kernel
theorem dX6_truckNumbered_22 : decode cX6_truckNumbered 22 = .ok (.ldc_w 344, 3) := by decide +kernel
theorem dX6_truckNumbered_25 : decode cX6_truckNumbered 25 = .ok (.invokespecial 131, 3) := by decide +kernel
theorem dX6_truckNumbered_28 : decode cX6_truckNumbered 28 = .ok (.athrow, 1) := by decide +kernel
theorem dX6_truckNumbered_29 : decode cX6_truckNumbered 29 = .ok (.aload_n 0, 1) := by decide +kernel
theorem dX6_truckNumbered_30 : decode cX6_truckNumbered 30 = .ok (.getfield 28, 3) := by decide +kernel
theorem dX6_truckNumbered_33 : decode cX6_truckNumbered 33 = .ok (.iload_n 1, 1) := by decide +kernel
theorem dX6_truckNumbered_34 : decode cX6_truckNumbered 34 = .ok (.iconst 4, 1) := by decide +kernel
theorem dX6_truckNumbered_35 : decode cX6_truckNumbered 35 = .ok (.isub, 1) := by decide +kernel
theorem dX6_truckNumbered_36 : decode cX6_truckNumbered 36 = .ok (.invokevirtual 97, 3) := by decide +kernel
theorem dX6_truckNumbered_39 : decode cX6_truckNumbered 39 = .ok (.checkcast 47, 3) := by decide +kernel
theorem dX6_truckNumbered_42 : decode cX6_truckNumbered 42 = .ok (.areturn, 1) := by decide +kernel
theorem dX6_workerNumbered_0 : decode cX6_workerNumbered 0 = .ok (.iload_n 1, 1) := by decide +kernel
theorem dX6_workerNumbered_1 : decode cX6_workerNumbered 1 = .ok (.iconst 4, 1) := by decide +kernel
theorem dX6_workerNumbered_2 : decode cX6_workerNumbered 2 = .ok (.if_icmp .ge 11, 3) := by decide +kernel
theorem dX6_workerNumbered_5 : decode cX6_workerNumbered 5 = .ok (.aload_n 0, 1) := by decide +kernel
theorem dX6_workerNumbered_6 : decode cX6_workerNumbered 6 = .ok (.iload_n 1, 1) := by decide +kernel
theorem dX6_workerNumbered_7 : decode cX6_workerNumbered 7 = .ok (.invokevirtual 221, 3) := by decide +kernel
theorem dX6_workerNumbered_10 : decode cX6_workerNumbered 10 = .ok (.goto 8, 3) := by decide +kernel
theorem dX6_workerNumbered_13 : decode cX6_workerNumbered 13 = .ok (.aload_n 0, 1) := by decide +kernel
theorem dX6_workerNumbered_14 : decode cX6_workerNumbered 14 = .ok (.iload_n 1, 1) := by decide +kernel
theorem dX6_workerNumbered_15 : decode cX6_workerNumbered 15 = .ok (.invokevirtual 169, 3) := by decide +kernel
theorem dX6_workerNumbered_18 : decode cX6_workerNumbered 18 = .ok (.areturn, 1) := by decide +kernel
theorem dJ9_max_7cf53_0 : decode cJ9_max_7cf53 0 = .ok (.iload_n 0, 1) := by decide +kernel
theorem dJ9_max_7cf53_1 : decode cJ9_max_7cf53 1 = .ok (.iload_n 1, 1) := by decide +kernel
theorem dJ9_max_7cf53_2 : decode cJ9_max_7cf53 2 = .ok (.if_icmp .lt 7, 3) := by decide +kernel
theorem dJ9_max_7cf53_5 : decode cJ9_max_7cf53 5 = .ok (.iload_n 0, 1) := by decide +kernel
theorem dJ9_max_7cf53_6 : decode cJ9_max_7cf53 6 = .ok (.goto 4, 3) := by decide +kernel
theorem dJ9_max_7cf53_9 : decode cJ9_max_7cf53 9 = .ok (.iload_n 1, 1) := by decide +kernel
theorem dJ9_max_7cf53_10 : decode cJ9_max_7cf53 10 = .ok (.ireturn, 1) := by decide +kernel
theorem dJ9_min_7cf53_0 : decode cJ9_min_7cf53 0 = .ok (.iload_n 0, 1) := by decide +kernel
theorem dJ9_min_7cf53_1 : decode cJ9_min_7cf53 1 = .ok (.iload_n 1, 1) := by decide +kernel
theorem dJ9_min_7cf53_2 : decode cJ9_min_7cf53 2 = .ok (.if_icmp .gt 7, 3) := by decide +kernel
theorem dJ9_min_7cf53_5 : decode cJ9_min_7cf53 5 = .ok (.iload_n 0, 1) := by decide +kernel
theorem dJ9_min_7cf53_6 : decode cJ9_min_7cf53 6 = .ok (.goto 4, 3) := by decide +kernel
theorem dJ9_min_7cf53_9 : decode cJ9_min_7cf53 9 = .ok (.iload_n 1, 1) := by decide +kernel
theorem dJ9_min_7cf53_10 : decode cJ9_min_7cf53 10 = .ok (.ireturn, 1) := by decide +kernel
theorem dJxa1e45_init_da8c8_0 : decode cJxa1e45_init_da8c8 0 = .ok (.aload_n 0, 1) := by decide +kernel
theorem dJxa1e45_init_da8c8_1 : decode cJxa1e45_init_da8c8 1 = .ok (.invokespecial 1, 3) := by decide +kernel
theorem dJxa1e45_init_da8c8_4 : decode cJxa1e45_init_da8c8 4 = .ok (.return_, 1) := by decide +kernel
theorem dJxc12de_init_da8c8_0 : decode cJxc12de_init_da8c8 0 = .ok (.aload_n 0, 1) := by decide +kernel
theorem dJxc12de_init_da8c8_1 : decode cJxc12de_init_da8c8 1 = .ok (.invokespecial 1, 3) := by decide +kernel
theorem dJxc12de_init_da8c8_4 : decode cJxc12de_init_da8c8 4 = .ok (.aload_n 0, 1) := by decide +kernel
theorem dJxc12de_init_da8c8_5 : decode cJxc12de_init_da8c8 5 = .ok (.iconst 0, 1) := by decide +kernel
theorem dJxc12de_init_da8c8_6 : decode cJxc12de_init_da8c8 6 = .ok (.putfield 7, 3) := by decide +kernel
theorem dJxc12de_init_da8c8_9 : decode cJxc12de_init_da8c8 9 = .ok (.return_, 1) := by decide +kernel
theorem dJx4a65c_init_da8c8_0 : decode cJx4a65c_init_da8c8 0 = .ok (.aload_n 0, 1) := by decide +kernel
theorem dJx4a65c_init_da8c8_1 : decode cJx4a65c_init_da8c8 1 = .ok (.invokespecial 1, 3) := by decide +kernel
theorem dJx4a65c_init_da8c8_4 : decode cJx4a65c_init_da8c8 4 = .ok (.aload_n 0, 1) := by decide +kernel
theorem dJx4a65c_init_da8c8_5 : decode cJx4a65c_init_da8c8 5 = .ok (.getstatic 39, 3) := by decide +kernel
theorem dJx4a65c_init_da8c8_8 : decode cJx4a65c_init_da8c8 8 = .ok (.putfield 9, 3) := by decide +kernel
theorem dJx4a65c_init_da8c8_11 : decode cJx4a65c_init_da8c8 11 = .ok (.return_, 1) := by decide +kernel
theorem dJx4a65c_grow_92f84_0 : decode cJx4a65c_grow_92f84 0 = .ok (.aload_n 0, 1) := by decide +kernel
theorem dJx4a65c_grow_92f84_1 : decode cJx4a65c_grow_92f84 1 = .ok (.getfield 9, 3) := by decide +kernel
theorem dJx4a65c_grow_92f84_4 : decode cJx4a65c_grow_92f84 4 = .ok (.arraylength, 1) := by decide +kernel
theorem dJx4a65c_grow_92f84_5 : decode cJx4a65c_grow_92f84 5 = .ok (.istore_n 2, 1) := by decide +kernel
theorem dJx4a65c_grow_92f84_6 : decode cJx4a65c_grow_92f84 6 = .ok (.iload_n 2, 1) := by decide +kernel
theorem dJx4a65c_grow_92f84_7 : decode cJx4a65c_grow_92f84 7 = .ok (.ifCond .gt 13, 3) := by decide +kernel
theorem dJx4a65c_grow_92f84_10 : decode cJx4a65c_grow_92f84 10 = .ok (.aload_n 0, 1) := by decide +kernel
theorem dJx4a65c_grow_92f84_11 : decode cJx4a65c_grow_92f84 11 = .ok (.getfield 9, 3) := by decide +kernel
theorem dJx4a65c_grow_92f84_14 : decode cJx4a65c_grow_92f84 14 = .ok (.getstatic 39, 3) := by decide +kernel
theorem dJx4a65c_grow_92f84_17 : decode cJx4a65c_grow_92f84 17 = .ok (.if_acmp .eq 28, 3) := by decide +kernel
theorem dJx4a65c_grow_92f84_20 : decode cJx4a65c_grow_92f84 20 = .ok (.iload_n 2, 1) := by decide +kernel
theorem dJx4a65c_grow_92f84_21 : decode cJx4a65c_grow_92f84 21 = .ok (.iload_n 1, 1) := by decide +kernel
theorem dJx4a65c_grow_92f84_22 : decode cJx4a65c_grow_92f84 22 = .ok (.iload_n 2, 1) := by decide +kernel
theorem dJx4a65c_grow_92f84_23 : decode cJx4a65c_grow_92f84 23 = .ok (.isub, 1) := by decide +kernel
theorem dJx4a65c_grow_92f84_24 : decode cJx4a65c_grow_92f84 24 = .ok (.iload_n 2, 1) := by decide +kernel
theorem dJx4a65c_grow_92f84_25 : decode cJx4a65c_grow_92f84 25 = .ok (.iconst 1, 1) := by decide +kernel
theorem dJx4a65c_grow_92f84_26 : decode cJx4a65c_grow_92f84 26 = .ok (.ishr, 1) := by decide +kernel
theorem dJx4a65c_grow_92f84_27 : decode cJx4a65c_grow_92f84 27 = .ok (.invokestatic 73, 3) := by decide +kernel
theorem dJx4a65c_grow_92f84_30 : decode cJx4a65c_grow_92f84 30 = .ok (.istore_n 3, 1) := by decide +kernel
theorem dJx4a65c_grow_92f84_31 : decode cJx4a65c_grow_92f84 31 = .ok (.aload_n 0, 1) := by decide +kernel
theorem dJx4a65c_grow_92f84_32 : decode cJx4a65c_grow_92f84 32 = .ok (.aload_n 0, 1) := by decide +kernel
theorem dJx4a65c_grow_92f84_33 : decode cJx4a65c_grow_92f84 33 = .ok (.getfield 9, 3) := by decide +kernel
theorem dJx4a65c_grow_92f84_36 : decode cJx4a65c_grow_92f84 36 = .ok (.iload_n 3, 1) := by decide +kernel
theorem dJx4a65c_grow_92f84_37 : decode cJx4a65c_grow_92f84 37 = .ok (.invokestatic 66, 3) := by decide +kernel
theorem dJx4a65c_grow_92f84_40 : decode cJx4a65c_grow_92f84 40 = .ok (.dup_x1, 1) := by decide +kernel
theorem dJx4a65c_grow_92f84_41 : decode cJx4a65c_grow_92f84 41 = .ok (.putfield 9, 3) := by decide +kernel
theorem dJx4a65c_grow_92f84_44 : decode cJx4a65c_grow_92f84 44 = .ok (.areturn, 1) := by decide +kernel
theorem dJx4a65c_grow_92f84_45 : decode cJx4a65c_grow_92f84 45 = .ok (.aload_n 0, 1) := by decide +kernel
theorem dJx4a65c_grow_92f84_46 : decode cJx4a65c_grow_92f84 46 = .ok (.bipush 10, 2) := by decide +kernel
theorem dJx4a65c_grow_92f84_48 : decode cJx4a65c_grow_92f84 48 = .ok (.iload_n 1, 1) := by decide +kernel
theorem dJx4a65c_grow_92f84_49 : decode cJx4a65c_grow_92f84 49 = .ok (.invokestatic 79, 3) := by decide +kernel
theorem dJx4a65c_grow_92f84_52 : decode cJx4a65c_grow_92f84 52 = .ok (.anewarray 7, 3) := by decide +kernel
theorem dJx4a65c_grow_92f84_55 : decode cJx4a65c_grow_92f84 55 = .ok (.dup_x1, 1) := by decide +kernel
theorem dJx4a65c_grow_92f84_56 : decode cJx4a65c_grow_92f84 56 = .ok (.putfield 9, 3) := by decide +kernel
theorem dJx4a65c_grow_92f84_59 : decode cJx4a65c_grow_92f84 59 = .ok (.areturn, 1) := by decide +kernel
theorem dJx4a65c_grow_d5877_0 : decode cJx4a65c_grow_d5877 0 = .ok (.aload_n 0, 1) := by decide +kernel
theorem dJx4a65c_grow_d5877_1 : decode cJx4a65c_grow_d5877 1 = .ok (.aload_n 0, 1) := by decide +kernel
theorem dJx4a65c_grow_d5877_2 : decode cJx4a65c_grow_d5877 2 = .ok (.getfield 48, 3) := by decide +kernel
theorem dJx4a65c_grow_d5877_5 : decode cJx4a65c_grow_d5877 5 = .ok (.iconst 1, 1) := by decide +kernel
theorem dJx4a65c_grow_d5877_6 : decode cJx4a65c_grow_d5877 6 = .ok (.iadd, 1) := by decide +kernel
theorem dJx4a65c_grow_d5877_7 : decode cJx4a65c_grow_d5877 7 = .ok (.invokevirtual 69, 3) := by decide +kernel
theorem dJx4a65c_grow_d5877_10 : decode cJx4a65c_grow_d5877 10 = .ok (.areturn, 1) := by decide +kernel
theorem dJx4a65c_size_8abf5_0 : decode cJx4a65c_size_8abf5 0 = .ok (.aload_n 0, 1) := by decide +kernel
theorem dJx4a65c_size_8abf5_1 : decode cJx4a65c_size_8abf5 1 = .ok (.getfield 48, 3) := by decide +kernel
theorem dJx4a65c_size_8abf5_4 : decode cJx4a65c_size_8abf5 4 = .ok (.ireturn, 1) := by decide +kernel
theorem dJx4a65c_isEmpty_aae02_0 : decode cJx4a65c_isEmpty_aae02 0 = .ok (.aload_n 0, 1) := by decide +kernel
theorem dJx4a65c_isEmpty_aae02_1 : decode cJx4a65c_isEmpty_aae02 1 = .ok (.getfield 48, 3) := by decide +kernel
theorem dJx4a65c_isEmpty_aae02_4 : decode cJx4a65c_isEmpty_aae02 4 = .ok (.ifCond .ne 7, 3) := by decide +kernel
theorem dJx4a65c_isEmpty_aae02_7 : decode cJx4a65c_isEmpty_aae02 7 = .ok (.iconst 1, 1) := by decide +kernel
theorem dJx4a65c_isEmpty_aae02_8 : decode cJx4a65c_isEmpty_aae02 8 = .ok (.goto 4, 3) := by decide +kernel
theorem dJx4a65c_isEmpty_aae02_11 : decode cJx4a65c_isEmpty_aae02 11 = .ok (.iconst 0, 1) := by decide +kernel
theorem dJx4a65c_isEmpty_aae02_12 : decode cJx4a65c_isEmpty_aae02 12 = .ok (.ireturn, 1) := by decide +kernel
theorem dJx4a65c_elementData_915e3_0 : decode cJx4a65c_elementData_915e3 0 = .ok (.aload_n 0, 1) := by decide +kernel
theorem dJx4a65c_elementData_915e3_1 : decode cJx4a65c_elementData_915e3 1 = .ok (.getfield 9, 3) := by decide +kernel
theorem dJx4a65c_elementData_915e3_4 : decode cJx4a65c_elementData_915e3 4 = .ok (.iload_n 1, 1) := by decide +kernel
theorem dJx4a65c_elementData_915e3_5 : decode cJx4a65c_elementData_915e3 5 = .ok (.aaload, 1) := by decide +kernel
theorem dJx4a65c_elementData_915e3_6 : decode cJx4a65c_elementData_915e3 6 = .ok (.areturn, 1) := by decide +kernel
theorem dJx4a65c_get_915e3_0 : decode cJx4a65c_get_915e3 0 = .ok (.iload_n 1, 1) := by decide +kernel
theorem dJx4a65c_get_915e3_1 : decode cJx4a65c_get_915e3 1 = .ok (.aload_n 0, 1) := by decide +kernel
theorem dJx4a65c_get_915e3_2 : decode cJx4a65c_get_915e3 2 = .ok (.getfield 48, 3) := by decide +kernel
theorem dJx4a65c_get_915e3_5 : decode cJx4a65c_get_915e3 5 = .ok (.invokestatic 118, 3) := by decide +kernel
theorem dJx4a65c_get_915e3_8 : decode cJx4a65c_get_915e3 8 = .ok (.pop, 1) := by decide +kernel
theorem dJx4a65c_get_915e3_9 : decode cJx4a65c_get_915e3 9 = .ok (.aload_n 0, 1) := by decide +kernel
theorem dJx4a65c_get_915e3_10 : decode cJx4a65c_get_915e3 10 = .ok (.iload_n 1, 1) := by decide +kernel
theorem dJx4a65c_get_915e3_11 : decode cJx4a65c_get_915e3 11 = .ok (.invokevirtual 123, 3) := by decide +kernel
theorem dJx4a65c_get_915e3_14 : decode cJx4a65c_get_915e3 14 = .ok (.areturn, 1) := by decide +kernel
theorem dJx4a65c_add_72be8_0 : decode cJx4a65c_add_72be8 0 = .ok (.iload_n 3, 1) := by decide +kernel
theorem dJx4a65c_add_72be8_1 : decode cJx4a65c_add_72be8 1 = .ok (.aload_n 2, 1) := by decide +kernel
theorem dJx4a65c_add_72be8_2 : decode cJx4a65c_add_72be8 2 = .ok (.arraylength, 1) := by decide +kernel
theorem dJx4a65c_add_72be8_3 : decode cJx4a65c_add_72be8 3 = .ok (.if_icmp .ne 8, 3) := by decide +kernel
theorem dJx4a65c_add_72be8_6 : decode cJx4a65c_add_72be8 6 = .ok (.aload_n 0, 1) := by decide +kernel
theorem dJx4a65c_add_72be8_7 : decode cJx4a65c_add_72be8 7 = .ok (.invokevirtual 129, 3) := by decide +kernel
theorem dJx4a65c_add_72be8_10 : decode cJx4a65c_add_72be8 10 = .ok (.astore_n 2, 1) := by decide +kernel
theorem dJx4a65c_add_72be8_11 : decode cJx4a65c_add_72be8 11 = .ok (.aload_n 2, 1) := by decide +kernel
theorem dJx4a65c_add_72be8_12 : decode cJx4a65c_add_72be8 12 = .ok (.iload_n 3, 1) := by decide +kernel
theorem dJx4a65c_add_72be8_13 : decode cJx4a65c_add_72be8 13 = .ok (.aload_n 1, 1) := by decide +kernel
theorem dJx4a65c_add_72be8_14 : decode cJx4a65c_add_72be8 14 = .ok (.aastore, 1) := by decide +kernel
theorem dJx4a65c_add_72be8_15 : decode cJx4a65c_add_72be8 15 = .ok (.aload_n 0, 1) := by decide +kernel
theorem dJx4a65c_add_72be8_16 : decode cJx4a65c_add_72be8 16 = .ok (.iload_n 3, 1) := by decide +kernel
theorem dJx4a65c_add_72be8_17 : decode cJx4a65c_add_72be8 17 = .ok (.iconst 1, 1) := by decide +kernel
theorem dJx4a65c_add_72be8_18 : decode cJx4a65c_add_72be8 18 = .ok (.iadd, 1) := by decide +kernel
theorem dJx4a65c_add_72be8_19 : decode cJx4a65c_add_72be8 19 = .ok (.putfield 48, 3) := by decide +kernel
theorem dJx4a65c_add_72be8_22 : decode cJx4a65c_add_72be8 22 = .ok (.return_, 1) := by decide +kernel
theorem dJx4a65c_add_9ea2d_0 : decode cJx4a65c_add_9ea2d 0 = .ok (.aload_n 0, 1) := by decide +kernel
theorem dJx4a65c_add_9ea2d_1 : decode cJx4a65c_add_9ea2d 1 = .ok (.dup, 1) := by decide +kernel
theorem dJx4a65c_add_9ea2d_2 : decode cJx4a65c_add_9ea2d 2 = .ok (.getfield 63, 3) := by decide +kernel
theorem dJx4a65c_add_9ea2d_5 : decode cJx4a65c_add_9ea2d 5 = .ok (.iconst 1, 1) := by decide +kernel
theorem dJx4a65c_add_9ea2d_6 : decode cJx4a65c_add_9ea2d 6 = .ok (.iadd, 1) := by decide +kernel
theorem dJx4a65c_add_9ea2d_7 : decode cJx4a65c_add_9ea2d 7 = .ok (.putfield 63, 3) := by decide +kernel
theorem dJx4a65c_add_9ea2d_10 : decode cJx4a65c_add_9ea2d 10 = .ok (.aload_n 0, 1) := by decide +kernel
theorem dJx4a65c_add_9ea2d_11 : decode cJx4a65c_add_9ea2d 11 = .ok (.aload_n 1, 1) := by decide +kernel
theorem dJx4a65c_add_9ea2d_12 : decode cJx4a65c_add_9ea2d 12 = .ok (.aload_n 0, 1) := by decide +kernel
theorem dJx4a65c_add_9ea2d_13 : decode cJx4a65c_add_9ea2d 13 = .ok (.getfield 9, 3) := by decide +kernel
theorem dJx4a65c_add_9ea2d_16 : decode cJx4a65c_add_9ea2d 16 = .ok (.aload_n 0, 1) := by decide +kernel
theorem dJx4a65c_add_9ea2d_17 : decode cJx4a65c_add_9ea2d 17 = .ok (.getfield 48, 3) := by decide +kernel
theorem dJx4a65c_add_9ea2d_20 : decode cJx4a65c_add_9ea2d 20 = .ok (.invokevirtual 131, 3) := by decide +kernel
theorem dJx4a65c_add_9ea2d_23 : decode cJx4a65c_add_9ea2d 23 = .ok (.iconst 1, 1) := by decide +kernel
theorem dJx4a65c_add_9ea2d_24 : decode cJx4a65c_add_9ea2d 24 = .ok (.ireturn, 1) := by decide +kernel
theorem dJx4a65c_remove_915e3_0 : decode cJx4a65c_remove_915e3 0 = .ok (.iload_n 1, 1) := by decide +kernel
theorem dJx4a65c_remove_915e3_1 : decode cJx4a65c_remove_915e3 1 = .ok (.aload_n 0, 1) := by decide +kernel
theorem dJx4a65c_remove_915e3_2 : decode cJx4a65c_remove_915e3 2 = .ok (.getfield 48, 3) := by decide +kernel
theorem dJx4a65c_remove_915e3_5 : decode cJx4a65c_remove_915e3 5 = .ok (.invokestatic 118, 3) := by decide +kernel
theorem dJx4a65c_remove_915e3_8 : decode cJx4a65c_remove_915e3 8 = .ok (.pop, 1) := by decide +kernel
theorem dJx4a65c_remove_915e3_9 : decode cJx4a65c_remove_915e3 9 = .ok (.aload_n 0, 1) := by decide +kernel
theorem dJx4a65c_remove_915e3_10 : decode cJx4a65c_remove_915e3 10 = .ok (.getfield 9, 3) := by decide +kernel
theorem dJx4a65c_remove_915e3_13 : decode cJx4a65c_remove_915e3 13 = .ok (.astore_n 2, 1) := by decide +kernel
theorem dJx4a65c_remove_915e3_14 : decode cJx4a65c_remove_915e3 14 = .ok (.aload_n 2, 1) := by decide +kernel
theorem dJx4a65c_remove_915e3_15 : decode cJx4a65c_remove_915e3 15 = .ok (.iload_n 1, 1) := by decide +kernel
theorem dJx4a65c_remove_915e3_16 : decode cJx4a65c_remove_915e3 16 = .ok (.aaload, 1) := by decide +kernel
theorem dJx4a65c_remove_915e3_17 : decode cJx4a65c_remove_915e3 17 = .ok (.astore_n 3, 1) := by decide +kernel
theorem dJx4a65c_remove_915e3_18 : decode cJx4a65c_remove_915e3 18 = .ok (.aload_n 0, 1) := by decide +kernel
theorem dJx4a65c_remove_915e3_19 : decode cJx4a65c_remove_915e3 19 = .ok (.aload_n 2, 1) := by decide +kernel
theorem dJx4a65c_remove_915e3_20 : decode cJx4a65c_remove_915e3 20 = .ok (.iload_n 1, 1) := by decide +kernel
theorem dJx4a65c_remove_915e3_21 : decode cJx4a65c_remove_915e3 21 = .ok (.invokevirtual 144, 3) := by decide +kernel
theorem dJx4a65c_remove_915e3_24 : decode cJx4a65c_remove_915e3 24 = .ok (.aload_n 3, 1) := by decide +kernel
theorem dJx4a65c_remove_915e3_25 : decode cJx4a65c_remove_915e3 25 = .ok (.areturn, 1) := by decide +kernel
theorem dJx4a65c_fastRemove_b59b0_0 : decode cJx4a65c_fastRemove_b59b0 0 = .ok (.aload_n 0, 1) := by decide +kernel
theorem dJx4a65c_fastRemove_b59b0_1 : decode cJx4a65c_fastRemove_b59b0 1 = .ok (.dup, 1) := by decide +kernel
theorem dJx4a65c_fastRemove_b59b0_2 : decode cJx4a65c_fastRemove_b59b0 2 = .ok (.getfield 63, 3) := by decide +kernel
theorem dJx4a65c_fastRemove_b59b0_5 : decode cJx4a65c_fastRemove_b59b0 5 = .ok (.iconst 1, 1) := by decide +kernel
theorem dJx4a65c_fastRemove_b59b0_6 : decode cJx4a65c_fastRemove_b59b0 6 = .ok (.iadd, 1) := by decide +kernel
theorem dJx4a65c_fastRemove_b59b0_7 : decode cJx4a65c_fastRemove_b59b0 7 = .ok (.putfield 63, 3) := by decide +kernel
theorem dJx4a65c_fastRemove_b59b0_10 : decode cJx4a65c_fastRemove_b59b0 10 = .ok (.aload_n 0, 1) := by decide +kernel
theorem dJx4a65c_fastRemove_b59b0_11 : decode cJx4a65c_fastRemove_b59b0 11 = .ok (.getfield 48, 3) := by decide +kernel
theorem dJx4a65c_fastRemove_b59b0_14 : decode cJx4a65c_fastRemove_b59b0 14 = .ok (.iconst 1, 1) := by decide +kernel
theorem dJx4a65c_fastRemove_b59b0_15 : decode cJx4a65c_fastRemove_b59b0 15 = .ok (.isub, 1) := by decide +kernel
theorem dJx4a65c_fastRemove_b59b0_16 : decode cJx4a65c_fastRemove_b59b0 16 = .ok (.dup, 1) := by decide +kernel
theorem dJx4a65c_fastRemove_b59b0_17 : decode cJx4a65c_fastRemove_b59b0 17 = .ok (.istore_n 3, 1) := by decide +kernel
theorem dJx4a65c_fastRemove_b59b0_18 : decode cJx4a65c_fastRemove_b59b0 18 = .ok (.iload_n 2, 1) := by decide +kernel
theorem dJx4a65c_fastRemove_b59b0_19 : decode cJx4a65c_fastRemove_b59b0 19 = .ok (.if_icmp .le 15, 3) := by decide +kernel
theorem dJx4a65c_fastRemove_b59b0_22 : decode cJx4a65c_fastRemove_b59b0 22 = .ok (.aload_n 1, 1) := by decide +kernel
theorem dJx4a65c_fastRemove_b59b0_23 : decode cJx4a65c_fastRemove_b59b0 23 = .ok (.iload_n 2, 1) := by decide +kernel
theorem dJx4a65c_fastRemove_b59b0_24 : decode cJx4a65c_fastRemove_b59b0 24 = .ok (.iconst 1, 1) := by decide +kernel
theorem dJx4a65c_fastRemove_b59b0_25 : decode cJx4a65c_fastRemove_b59b0 25 = .ok (.iadd, 1) := by decide +kernel
theorem dJx4a65c_fastRemove_b59b0_26 : decode cJx4a65c_fastRemove_b59b0 26 = .ok (.aload_n 1, 1) := by decide +kernel
theorem dJx4a65c_fastRemove_b59b0_27 : decode cJx4a65c_fastRemove_b59b0 27 = .ok (.iload_n 2, 1) := by decide +kernel
theorem dJx4a65c_fastRemove_b59b0_28 : decode cJx4a65c_fastRemove_b59b0 28 = .ok (.iload_n 3, 1) := by decide +kernel
theorem dJx4a65c_fastRemove_b59b0_29 : decode cJx4a65c_fastRemove_b59b0 29 = .ok (.iload_n 2, 1) := by decide +kernel
theorem dJx4a65c_fastRemove_b59b0_30 : decode cJx4a65c_fastRemove_b59b0 30 = .ok (.isub, 1) := by decide +kernel
theorem dJx4a65c_fastRemove_b59b0_31 : decode cJx4a65c_fastRemove_b59b0 31 = .ok (.invokestatic 112, 3) := by decide +kernel
theorem dJx4a65c_fastRemove_b59b0_34 : decode cJx4a65c_fastRemove_b59b0 34 = .ok (.aload_n 1, 1) := by decide +kernel
theorem dJx4a65c_fastRemove_b59b0_35 : decode cJx4a65c_fastRemove_b59b0 35 = .ok (.aload_n 0, 1) := by decide +kernel
theorem dJx4a65c_fastRemove_b59b0_36 : decode cJx4a65c_fastRemove_b59b0 36 = .ok (.iload_n 3, 1) := by decide +kernel
theorem dJx4a65c_fastRemove_b59b0_37 : decode cJx4a65c_fastRemove_b59b0 37 = .ok (.dup_x1, 1) := by decide +kernel
theorem dJx4a65c_fastRemove_b59b0_38 : decode cJx4a65c_fastRemove_b59b0 38 = .ok (.putfield 48, 3) := by decide +kernel
theorem dJx4a65c_fastRemove_b59b0_41 : decode cJx4a65c_fastRemove_b59b0 41 = .ok (.aconst_null, 1) := by decide +kernel
theorem dJx4a65c_fastRemove_b59b0_42 : decode cJx4a65c_fastRemove_b59b0 42 = .ok (.aastore, 1) := by decide +kernel
theorem dJx4a65c_fastRemove_b59b0_43 : decode cJx4a65c_fastRemove_b59b0 43 = .ok (.return_, 1) := by decide +kernel
theorem dJx4a65c_clear_da8c8_0 : decode cJx4a65c_clear_da8c8 0 = .ok (.aload_n 0, 1) := by decide +kernel
theorem dJx4a65c_clear_da8c8_1 : decode cJx4a65c_clear_da8c8 1 = .ok (.dup, 1) := by decide +kernel
theorem dJx4a65c_clear_da8c8_2 : decode cJx4a65c_clear_da8c8 2 = .ok (.getfield 63, 3) := by decide +kernel
theorem dJx4a65c_clear_da8c8_5 : decode cJx4a65c_clear_da8c8 5 = .ok (.iconst 1, 1) := by decide +kernel
theorem dJx4a65c_clear_da8c8_6 : decode cJx4a65c_clear_da8c8 6 = .ok (.iadd, 1) := by decide +kernel
theorem dJx4a65c_clear_da8c8_7 : decode cJx4a65c_clear_da8c8 7 = .ok (.putfield 63, 3) := by decide +kernel
theorem dJx4a65c_clear_da8c8_10 : decode cJx4a65c_clear_da8c8 10 = .ok (.aload_n 0, 1) := by decide +kernel
theorem dJx4a65c_clear_da8c8_11 : decode cJx4a65c_clear_da8c8 11 = .ok (.getfield 9, 3) := by decide +kernel
theorem dJx4a65c_clear_da8c8_14 : decode cJx4a65c_clear_da8c8 14 = .ok (.astore_n 1, 1) := by decide +kernel
theorem dJx4a65c_clear_da8c8_15 : decode cJx4a65c_clear_da8c8 15 = .ok (.aload_n 0, 1) := by decide +kernel
theorem dJx4a65c_clear_da8c8_16 : decode cJx4a65c_clear_da8c8 16 = .ok (.getfield 48, 3) := by decide +kernel
theorem dJx4a65c_clear_da8c8_19 : decode cJx4a65c_clear_da8c8 19 = .ok (.istore_n 2, 1) := by decide +kernel
theorem dJx4a65c_clear_da8c8_20 : decode cJx4a65c_clear_da8c8 20 = .ok (.aload_n 0, 1) := by decide +kernel
theorem dJx4a65c_clear_da8c8_21 : decode cJx4a65c_clear_da8c8 21 = .ok (.iconst 0, 1) := by decide +kernel
theorem dJx4a65c_clear_da8c8_22 : decode cJx4a65c_clear_da8c8 22 = .ok (.dup_x1, 1) := by decide +kernel
theorem dJx4a65c_clear_da8c8_23 : decode cJx4a65c_clear_da8c8 23 = .ok (.putfield 48, 3) := by decide +kernel
theorem dJx4a65c_clear_da8c8_26 : decode cJx4a65c_clear_da8c8 26 = .ok (.istore_n 3, 1) := by decide +kernel
theorem dJx4a65c_clear_da8c8_27 : decode cJx4a65c_clear_da8c8 27 = .ok (.iload_n 3, 1) := by decide +kernel
theorem dJx4a65c_clear_da8c8_28 : decode cJx4a65c_clear_da8c8 28 = .ok (.iload_n 2, 1) := by decide +kernel
theorem dJx4a65c_clear_da8c8_29 : decode cJx4a65c_clear_da8c8 29 = .ok (.if_icmp .ge 13, 3) := by decide +kernel
theorem dJx4a65c_clear_da8c8_32 : decode cJx4a65c_clear_da8c8 32 = .ok (.aload_n 1, 1) := by decide +kernel
theorem dJx4a65c_clear_da8c8_33 : decode cJx4a65c_clear_da8c8 33 = .ok (.iload_n 3, 1) := by decide +kernel
theorem dJx4a65c_clear_da8c8_34 : decode cJx4a65c_clear_da8c8 34 = .ok (.aconst_null, 1) := by decide +kernel
theorem dJx4a65c_clear_da8c8_35 : decode cJx4a65c_clear_da8c8 35 = .ok (.aastore, 1) := by decide +kernel
theorem dJx4a65c_clear_da8c8_36 : decode cJx4a65c_clear_da8c8 36 = .ok (.iinc 3 1, 3) := by decide +kernel
theorem dJx4a65c_clear_da8c8_39 : decode cJx4a65c_clear_da8c8 39 = .ok (.goto (-12), 3) := by decide +kernel
theorem dJx4a65c_clear_da8c8_42 : decode cJx4a65c_clear_da8c8 42 = .ok (.return_, 1) := by decide +kernel
theorem dJ7_copyOf_1904c_0 : decode cJ7_copyOf_1904c 0 = .ok (.aload_n 0, 1) := by decide +kernel
theorem dJ7_copyOf_1904c_1 : decode cJ7_copyOf_1904c 1 = .ok (.iload_n 1, 1) := by decide +kernel
theorem dJ7_copyOf_1904c_2 : decode cJ7_copyOf_1904c 2 = .ok (.aload_n 0, 1) := by decide +kernel
theorem dJ7_copyOf_1904c_3 : decode cJ7_copyOf_1904c 3 = .ok (.invokevirtual 86, 3) := by decide +kernel
theorem dJ7_copyOf_1904c_6 : decode cJ7_copyOf_1904c 6 = .ok (.invokestatic 300, 3) := by decide +kernel
theorem dJ7_copyOf_1904c_9 : decode cJ7_copyOf_1904c 9 = .ok (.areturn, 1) := by decide +kernel
theorem dJ7_copyOf_6403c_0 : decode cJ7_copyOf_6403c 0 = .ok (.aload_n 2, 1) := by decide +kernel
theorem dJ7_copyOf_6403c_1 : decode cJ7_copyOf_6403c 1 = .ok (.ldc 110, 2) := by decide +kernel
theorem dJ7_copyOf_6403c_3 : decode cJ7_copyOf_6403c 3 = .ok (.if_acmp .ne 10, 3) := by decide +kernel
theorem dJ7_copyOf_6403c_6 : decode cJ7_copyOf_6403c 6 = .ok (.iload_n 1, 1) := by decide +kernel
theorem dJ7_copyOf_6403c_7 : decode cJ7_copyOf_6403c 7 = .ok (.anewarray 2, 3) := by decide +kernel
theorem dJ7_copyOf_6403c_10 : decode cJ7_copyOf_6403c 10 = .ok (.goto 14, 3) := by decide +kernel
theorem dJ7_copyOf_6403c_13 : decode cJ7_copyOf_6403c 13 = .ok (.aload_n 2, 1) := by decide +kernel
theorem dJ7_copyOf_6403c_14 : decode cJ7_copyOf_6403c 14 = .ok (.invokevirtual 90, 3) := by decide +kernel
theorem dJ7_copyOf_6403c_17 : decode cJ7_copyOf_6403c 17 = .ok (.iload_n 1, 1) := by decide +kernel
theorem dJ7_copyOf_6403c_18 : decode cJ7_copyOf_6403c 18 = .ok (.invokestatic 95, 3) := by decide +kernel
theorem dJ7_copyOf_6403c_21 : decode cJ7_copyOf_6403c 21 = .ok (.checkcast 110, 3) := by decide +kernel
theorem dJ7_copyOf_6403c_24 : decode cJ7_copyOf_6403c 24 = .ok (.astore_n 3, 1) := by decide +kernel
theorem dJ7_copyOf_6403c_25 : decode cJ7_copyOf_6403c 25 = .ok (.aload_n 0, 1) := by decide +kernel
theorem dJ7_copyOf_6403c_26 : decode cJ7_copyOf_6403c 26 = .ok (.iconst 0, 1) := by decide +kernel
theorem dJ7_copyOf_6403c_27 : decode cJ7_copyOf_6403c 27 = .ok (.aload_n 3, 1) := by decide +kernel
theorem dJ7_copyOf_6403c_28 : decode cJ7_copyOf_6403c 28 = .ok (.iconst 0, 1) := by decide +kernel
theorem dJ7_copyOf_6403c_29 : decode cJ7_copyOf_6403c 29 = .ok (.aload_n 0, 1) := by decide +kernel
theorem dJ7_copyOf_6403c_30 : decode cJ7_copyOf_6403c 30 = .ok (.arraylength, 1) := by decide +kernel
theorem dJ7_copyOf_6403c_31 : decode cJ7_copyOf_6403c 31 = .ok (.iload_n 1, 1) := by decide +kernel
theorem dJ7_copyOf_6403c_32 : decode cJ7_copyOf_6403c 32 = .ok (.invokestatic 304, 3) := by decide +kernel
theorem dJ7_copyOf_6403c_35 : decode cJ7_copyOf_6403c 35 = .ok (.invokestatic 150, 3) := by decide +kernel
theorem dJ7_copyOf_6403c_38 : decode cJ7_copyOf_6403c 38 = .ok (.aload_n 3, 1) := by decide +kernel
theorem dJ7_copyOf_6403c_39 : decode cJ7_copyOf_6403c 39 = .ok (.areturn, 1) := by decide +kernel
theorem dJ15_checkIndex_7cf53_0 : decode cJ15_checkIndex_7cf53 0 = .ok (.iload_n 0, 1) := by decide +kernel
theorem dJ15_checkIndex_7cf53_1 : decode cJ15_checkIndex_7cf53 1 = .ok (.iload_n 1, 1) := by decide +kernel
theorem dJ15_checkIndex_7cf53_2 : decode cJ15_checkIndex_7cf53 2 = .ok (.aconst_null, 1) := by decide +kernel
theorem dJ15_checkIndex_7cf53_3 : decode cJ15_checkIndex_7cf53 3 = .ok (.invokestatic 105, 3) := by decide +kernel
theorem dJ15_checkIndex_7cf53_6 : decode cJ15_checkIndex_7cf53 6 = .ok (.ireturn, 1) := by decide +kernel
theorem dJ8_newLength_cabcc_0 : decode cJ8_newLength_cabcc 0 = .ok (.iload_n 0, 1) := by decide +kernel
theorem dJ8_newLength_cabcc_1 : decode cJ8_newLength_cabcc 1 = .ok (.iload_n 1, 1) := by decide +kernel
theorem dJ8_newLength_cabcc_2 : decode cJ8_newLength_cabcc 2 = .ok (.iload_n 2, 1) := by decide +kernel
theorem dJ8_newLength_cabcc_3 : decode cJ8_newLength_cabcc 3 = .ok (.invokestatic 194, 3) := by decide +kernel
theorem dJ8_newLength_cabcc_6 : decode cJ8_newLength_cabcc 6 = .ok (.iadd, 1) := by decide +kernel
theorem dJ8_newLength_cabcc_7 : decode cJ8_newLength_cabcc 7 = .ok (.istore_n 3, 1) := by decide +kernel
theorem dJ8_newLength_cabcc_8 : decode cJ8_newLength_cabcc 8 = .ok (.iconst 0, 1) := by decide +kernel
theorem dJ8_newLength_cabcc_9 : decode cJ8_newLength_cabcc 9 = .ok (.iload_n 3, 1) := by decide +kernel
theorem dJ8_newLength_cabcc_10 : decode cJ8_newLength_cabcc 10 = .ok (.if_icmp .ge 11, 3) := by decide +kernel
theorem dJ8_newLength_cabcc_13 : decode cJ8_newLength_cabcc 13 = .ok (.iload_n 3, 1) := by decide +kernel
theorem dJ8_newLength_cabcc_14 : decode cJ8_newLength_cabcc 14 = .ok (.ldc 200, 2) := by decide +kernel
theorem dJ8_newLength_cabcc_16 : decode cJ8_newLength_cabcc 16 = .ok (.if_icmp .gt 5, 3) := by decide +kernel
theorem dJ8_newLength_cabcc_19 : decode cJ8_newLength_cabcc 19 = .ok (.iload_n 3, 1) := by decide +kernel
theorem dJ8_newLength_cabcc_20 : decode cJ8_newLength_cabcc 20 = .ok (.ireturn, 1) := by decide +kernel
theorem dJ8_newLength_cabcc_21 : decode cJ8_newLength_cabcc 21 = .ok (.iload_n 0, 1) := by decide +kernel
theorem dJ8_newLength_cabcc_22 : decode cJ8_newLength_cabcc 22 = .ok (.iload_n 1, 1) := by decide +kernel
theorem dJ8_newLength_cabcc_23 : decode cJ8_newLength_cabcc 23 = .ok (.invokestatic 201, 3) := by decide +kernel
theorem dJ8_newLength_cabcc_26 : decode cJ8_newLength_cabcc 26 = .ok (.ireturn, 1) := by decide +kernel
theorem dJ8_hugeLength_7cf53_0 : decode cJ8_hugeLength_7cf53 0 = .ok (.iload_n 0, 1) := by decide +kernel
theorem dJ8_hugeLength_7cf53_1 : decode cJ8_hugeLength_7cf53 1 = .ok (.iload_n 1, 1) := by decide +kernel
theorem dJ8_hugeLength_7cf53_2 : decode cJ8_hugeLength_7cf53 2 = .ok (.iadd, 1) := by decide +kernel
theorem dJ8_hugeLength_7cf53_3 : decode cJ8_hugeLength_7cf53 3 = .ok (.istore_n 2, 1) := by decide +kernel
theorem dJ8_hugeLength_7cf53_4 : decode cJ8_hugeLength_7cf53 4 = .ok (.iload_n 2, 1) := by decide +kernel
theorem dJ8_hugeLength_7cf53_5 : decode cJ8_hugeLength_7cf53 5 = .ok (.ifCond .ge 44, 3) := by decide +kernel
theorem dJ8_hugeLength_7cf53_8 : decode cJ8_hugeLength_7cf53 8 = .ok (.new 204, 3) := by decide +kernel
theorem dJ8_hugeLength_7cf53_11 : decode cJ8_hugeLength_7cf53 11 = .ok (.dup, 1) := by decide +kernel
theorem dJ8_hugeLength_7cf53_12 : decode cJ8_hugeLength_7cf53 12 = .ok (.new 89, 3) := by decide +kernel
theorem dJ8_hugeLength_7cf53_15 : decode cJ8_hugeLength_7cf53 15 = .ok (.dup, 1) := by decide +kernel
theorem dJ8_hugeLength_7cf53_16 : decode cJ8_hugeLength_7cf53 16 = .ok (.invokespecial 91, 3) := by decide +kernel
theorem dJ8_hugeLength_7cf53_19 : decode cJ8_hugeLength_7cf53 19 = .ok (.ldc 206, 2) := by decide +kernel
theorem dJ8_hugeLength_7cf53_21 : decode cJ8_hugeLength_7cf53 21 = .ok (.invokevirtual 94, 3) := by decide +kernel
theorem dJ8_hugeLength_7cf53_24 : decode cJ8_hugeLength_7cf53 24 = .ok (.iload_n 0, 1) := by decide +kernel
theorem dJ8_hugeLength_7cf53_25 : decode cJ8_hugeLength_7cf53 25 = .ok (.invokevirtual 98, 3) := by decide +kernel
theorem dJ8_hugeLength_7cf53_28 : decode cJ8_hugeLength_7cf53 28 = .ok (.ldc 208, 2) := by decide +kernel
theorem dJ8_hugeLength_7cf53_30 : decode cJ8_hugeLength_7cf53 30 = .ok (.invokevirtual 94, 3) := by decide +kernel
theorem dJ8_hugeLength_7cf53_33 : decode cJ8_hugeLength_7cf53 33 = .ok (.iload_n 1, 1) := by decide +kernel
theorem dJ8_hugeLength_7cf53_34 : decode cJ8_hugeLength_7cf53 34 = .ok (.invokevirtual 98, 3) := by decide +kernel
theorem dJ8_hugeLength_7cf53_37 : decode cJ8_hugeLength_7cf53 37 = .ok (.ldc 210, 2) := by decide +kernel
theorem dJ8_hugeLength_7cf53_39 : decode cJ8_hugeLength_7cf53 39 = .ok (.invokevirtual 94, 3) := by decide +kernel
theorem dJ8_hugeLength_7cf53_42 : decode cJ8_hugeLength_7cf53 42 = .ok (.invokevirtual 101, 3) := by decide +kernel
theorem dJ8_hugeLength_7cf53_45 : decode cJ8_hugeLength_7cf53 45 = .ok (.invokespecial 212, 3) := by decide +kernel
theorem dJ8_hugeLength_7cf53_48 : decode cJ8_hugeLength_7cf53 48 = .ok (.athrow, 1) := by decide +kernel
theorem dJ8_hugeLength_7cf53_49 : decode cJ8_hugeLength_7cf53 49 = .ok (.iload_n 2, 1) := by decide +kernel
theorem dJ8_hugeLength_7cf53_50 : decode cJ8_hugeLength_7cf53 50 = .ok (.ldc 200, 2) := by decide +kernel
theorem dJ8_hugeLength_7cf53_52 : decode cJ8_hugeLength_7cf53 52 = .ok (.if_icmp .gt 6, 3) := by decide +kernel
theorem dJ8_hugeLength_7cf53_55 : decode cJ8_hugeLength_7cf53 55 = .ok (.ldc 200, 2) := by decide +kernel
theorem dJ8_hugeLength_7cf53_57 : decode cJ8_hugeLength_7cf53 57 = .ok (.ireturn, 1) := by decide +kernel
theorem dJ8_hugeLength_7cf53_58 : decode cJ8_hugeLength_7cf53 58 = .ok (.iload_n 2, 1) := by decide +kernel
theorem dJ8_hugeLength_7cf53_59 : decode cJ8_hugeLength_7cf53 59 = .ok (.ireturn, 1) := by decide +kernel
theorem dJ3_checkIndex_8e157_0 : decode cJ3_checkIndex_8e157 0 = .ok (.iload_n 0, 1) := by decide +kernel
theorem dJ3_checkIndex_8e157_1 : decode cJ3_checkIndex_8e157 1 = .ok (.ifCond .lt 8, 3) := by decide +kernel
theorem dJ3_checkIndex_8e157_4 : decode cJ3_checkIndex_8e157 4 = .ok (.iload_n 0, 1) := by decide +kernel
theorem dJ3_checkIndex_8e157_5 : decode cJ3_checkIndex_8e157 5 = .ok (.iload_n 1, 1) := by decide +kernel
theorem dJ3_checkIndex_8e157_6 : decode cJ3_checkIndex_8e157 6 = .ok (.if_icmp .lt 10, 3) := by decide +kernel
theorem dJ3_checkIndex_8e157_9 : decode cJ3_checkIndex_8e157 9 = .ok (.aload_n 2, 1) := by decide +kernel
theorem dJ3_checkIndex_8e157_10 : decode cJ3_checkIndex_8e157 10 = .ok (.iload_n 0, 1) := by decide +kernel
theorem dJ3_checkIndex_8e157_11 : decode cJ3_checkIndex_8e157 11 = .ok (.iload_n 1, 1) := by decide +kernel
theorem dJ3_checkIndex_8e157_12 : decode cJ3_checkIndex_8e157 12 = .ok (.invokestatic 95, 3) := by decide +kernel
theorem dJ3_checkIndex_8e157_15 : decode cJ3_checkIndex_8e157 15 = .ok (.athrow, 1) := by decide +kernel
theorem dJ3_checkIndex_8e157_16 : decode cJ3_checkIndex_8e157 16 = .ok (.iload_n 0, 1) := by decide +kernel
theorem dJ3_checkIndex_8e157_17 : decode cJ3_checkIndex_8e157 17 = .ok (.ireturn, 1) := by decide +kernel
