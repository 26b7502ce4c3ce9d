theorem dX0_init_0 : decode cX0_init 0 = .ok (.aload_n 0, 1) := by decide +kernel
theorem dX0_init_1 : decode cX0_init 1 = .ok (.invokespecial 3, 3) := by decide +kernel
theorem dX0_init_4 : decode cX0_init 4 = .ok (.aload_n 0, 1) := by decide +kernel
theorem dX0_init_5 : decode cX0_init 5 = .ok (.bipush 8, 2) := by decide +kernel
theorem dX0_init_7 : decode cX0_init 7 = .ok (.newarray .long, 2) := by decide +kernel
theorem dX0_init_9 : decode cX0_init 9 = .ok (.putfield 11, 3) := by decide +kernel
theorem dX0_init_12 : decode cX0_init 12 = .ok (.aload_n 0, 1) := by decide +kernel
theorem dX0_init_13 : decode cX0_init 13 = .ok (.bipush 8, 2) := by decide +kernel
theorem dX0_init_15 : decode cX0_init 15 = .ok (.newarray .int, 2) := by decide +kernel
theorem dX0_init_17 : decode cX0_init 17 = .ok (.putfield 17, 3) := by decide +kernel
theorem dX0_init_20 : decode cX0_init 20 = .ok (.aload_n 0, 1) := by decide +kernel
theorem dX0_init_21 : decode cX0_init 21 = .ok (.getfield 17, 3) := by decide +kernel
theorem dX0_init_24 : decode cX0_init 24 = .ok (.iconst 1, 1) := by decide +kernel
theorem dX0_init_25 : decode cX0_init 25 = .ok (.iconst 1, 1) := by decide +kernel
theorem dX0_init_26 : decode cX0_init 26 = .ok (.iastore, 1) := by decide +kernel
theorem dX0_init_27 : decode cX0_init 27 = .ok (.aload_n 0, 1) := by decide +kernel
theorem dX0_init_28 : decode cX0_init 28 = .ok (.getfield 17, 3) := by decide +kernel
theorem dX0_init_31 : decode cX0_init 31 = .ok (.iconst 2, 1) := by decide +kernel
theorem dX0_init_32 : decode cX0_init 32 = .ok (.iconst 1, 1) := by decide +kernel
theorem dX0_init_33 : decode cX0_init 33 = .ok (.iastore, 1) := by decide +kernel
theorem dX0_init_34 : decode cX0_init 34 = .ok (.aload_n 0, 1) := by decide +kernel
theorem dX0_init_35 : decode cX0_init 35 = .ok (.getfield 11, 3) := by decide +kernel
theorem dX0_init_38 : decode cX0_init 38 = .ok (.iconst 2, 1) := by decide +kernel
theorem dX0_init_39 : decode cX0_init 39 = .ok (.lconst 1, 1) := by decide +kernel
theorem dX0_init_40 : decode cX0_init 40 = .ok (.lastore, 1) := by decide +kernel
theorem dX0_init_41 : decode cX0_init 41 = .ok (.return_, 1) := by decide +kernel
theorem dX0_empty_0 : decode cX0_empty 0 = .ok (.iconst 0, 1) := by decide +kernel
theorem dX0_empty_1 : decode cX0_empty 1 = .ok (.istore_n 1, 1) := by decide +kernel
theorem dX0_empty_2 : decode cX0_empty 2 = .ok (.iload_n 1, 1) := by decide +kernel
theorem dX0_empty_3 : decode cX0_empty 3 = .ok (.iconst 4, 1) := by decide +kernel
theorem dX0_empty_4 : decode cX0_empty 4 = .ok (.if_icmp .ge 19, 3) := by decide +kernel
theorem dX0_empty_7 : decode cX0_empty 7 = .ok (.aload_n 0, 1) := by decide +kernel
theorem dX0_empty_8 : decode cX0_empty 8 = .ok (.iload_n 1, 1) := by decide +kernel
theorem dX0_empty_9 : decode cX0_empty 9 = .ok (.invokestatic 21, 3) := by decide +kernel
theorem dX0_empty_12 : decode cX0_empty 12 = .ok (.lconst 0, 1) := by decide +kernel
theorem dX0_empty_13 : decode cX0_empty 13 = .ok (.iconst 0, 1) := by decide +kernel
theorem dX0_empty_14 : decode cX0_empty 14 = .ok (.invokevirtual 25, 3) := by decide +kernel
theorem dX0_empty_17 : decode cX0_empty 17 = .ok (.iinc 1 1, 3) := by decide +kernel
theorem dX0_empty_20 : decode cX0_empty 20 = .ok (.goto (-18), 3) := by decide +kernel
theorem dX0_empty_23 : decode cX0_empty 23 = .ok (.return_, 1) := by decide +kernel
theorem dX0_give_0 : decode cX0_give 0 = .ok (.iload_n 1, 1) := by decide +kernel
theorem dX0_give_1 : decode cX0_give 1 = .ok (.invokestatic 29, 3) := by decide +kernel
theorem dX0_give_4 : decode cX0_give 4 = .ok (.ifCond .eq 18, 3) := by decide +kernel
theorem dX0_give_7 : decode cX0_give 7 = .ok (.aload_n 0, 1) := by decide +kernel
theorem dX0_give_8 : decode cX0_give 8 = .ok (.getfield 11, 3) := by decide +kernel
theorem dX0_give_11 : decode cX0_give 11 = .ok (.iload_n 1, 1) := by decide +kernel
theorem dX0_give_12 : decode cX0_give 12 = .ok (.lload_n 2, 1) := by decide +kernel
theorem dX0_give_13 : decode cX0_give 13 = .ok (.lastore, 1) := by decide +kernel
theorem dX0_give_14 : decode cX0_give 14 = .ok (.aload_n 0, 1) := by decide +kernel
theorem dX0_give_15 : decode cX0_give 15 = .ok (.getfield 17, 3) := by decide +kernel
theorem dX0_give_18 : decode cX0_give 18 = .ok (.iload_n 1, 1) := by decide +kernel
theorem dX0_give_19 : decode cX0_give 19 = .ok (.iload 4, 2) := by decide +kernel
theorem dX0_give_21 : decode cX0_give 21 = .ok (.iastore, 1) := by decide +kernel
theorem dX0_give_22 : decode cX0_give 22 = .ok (.return_, 1) := by decide +kernel
theorem dX0_giveNumber_0 : decode cX0_giveNumber 0 = .ok (.iload_n 2, 1) := by decide +kernel
theorem dX0_giveNumber_1 : decode cX0_giveNumber 1 = .ok (.iconst 1, 1) := by decide +kernel
theorem dX0_giveNumber_2 : decode cX0_giveNumber 2 = .ok (.iadd, 1) := by decide +kernel
theorem dX0_giveNumber_3 : decode cX0_giveNumber 3 = .ok (.istore_n 3, 1) := by decide +kernel
theorem dX0_giveNumber_4 : decode cX0_giveNumber 4 = .ok (.iconst 0, 1) := by decide +kernel
theorem dX0_giveNumber_5 : decode cX0_giveNumber 5 = .ok (.istore 4, 2) := by decide +kernel
theorem dX0_giveNumber_7 : decode cX0_giveNumber 7 = .ok (.iload 4, 2) := by decide +kernel
theorem dX0_giveNumber_9 : decode cX0_giveNumber 9 = .ok (.iconst 5, 1) := by decide +kernel
theorem dX0_giveNumber_10 : decode cX0_giveNumber 10 = .ok (.if_icmp .ge 18, 3) := by decide +kernel
theorem dX0_giveNumber_13 : decode cX0_giveNumber 13 = .ok (.iload_n 3, 1) := by decide +kernel
theorem dX0_giveNumber_14 : decode cX0_giveNumber 14 = .ok (.iload 4, 2) := by decide +kernel
theorem dX0_giveNumber_16 : decode cX0_giveNumber 16 = .ok (.iconst 1, 1) := by decide +kernel
theorem dX0_giveNumber_17 : decode cX0_giveNumber 17 = .ok (.iadd, 1) := by decide +kernel
theorem dX0_giveNumber_18 : decode cX0_giveNumber 18 = .ok (.ishr, 1) := by decide +kernel
theorem dX0_giveNumber_19 : decode cX0_giveNumber 19 = .ok (.ifCond .eq 9, 3) := by decide +kernel
theorem dX0_giveNumber_22 : decode cX0_giveNumber 22 = .ok (.iinc 4 1, 3) := by decide +kernel
theorem dX0_giveNumber_25 : decode cX0_giveNumber 25 = .ok (.goto (-18), 3) := by decide +kernel
theorem dX0_giveNumber_28 : decode cX0_giveNumber 28 = .ok (.aload_n 0, 1) := by decide +kernel
theorem dX0_giveNumber_29 : decode cX0_giveNumber 29 = .ok (.iload_n 1, 1) := by decide +kernel
theorem dX0_giveNumber_30 : decode cX0_giveNumber 30 = .ok (.iload_n 3, 1) := by decide +kernel
theorem dX0_giveNumber_31 : decode cX0_giveNumber 31 = .ok (.iconst 1, 1) := by decide +kernel
theorem dX0_giveNumber_32 : decode cX0_giveNumber 32 = .ok (.iload 4, 2) := by decide +kernel
theorem dX0_giveNumber_34 : decode cX0_giveNumber 34 = .ok (.ishl, 1) := by decide +kernel
theorem dX0_giveNumber_35 : decode cX0_giveNumber 35 = .ok (.isub, 1) := by decide +kernel
theorem dX0_giveNumber_36 : decode cX0_giveNumber 36 = .ok (.i2l, 1) := by decide +kernel
theorem dX0_giveNumber_37 : decode cX0_giveNumber 37 = .ok (.iload 4, 2) := by decide +kernel
theorem dX0_giveNumber_39 : decode cX0_giveNumber 39 = .ok (.invokevirtual 25, 3) := by decide +kernel
theorem dX0_giveNumber_42 : decode cX0_giveNumber 42 = .ok (.return_, 1) := by decide +kernel
theorem dX0_numberOf_0 : decode cX0_numberOf 0 = .ok (.iload_n 1, 1) := by decide +kernel
theorem dX0_numberOf_1 : decode cX0_numberOf 1 = .ok (.bipush 7, 2) := by decide +kernel
theorem dX0_numberOf_3 : decode cX0_numberOf 3 = .ok (.iand, 1) := by decide +kernel
theorem dX0_numberOf_4 : decode cX0_numberOf 4 = .ok (.istore_n 2, 1) := by decide +kernel
theorem dX0_numberOf_5 : decode cX0_numberOf 5 = .ok (.lconst 1, 1) := by decide +kernel
theorem dX0_numberOf_6 : decode cX0_numberOf 6 = .ok (.aload_n 0, 1) := by decide +kernel
theorem dX0_numberOf_7 : decode cX0_numberOf 7 = .ok (.getfield 17, 3) := by decide +kernel
theorem dX0_numberOf_10 : decode cX0_numberOf 10 = .ok (.iload_n 2, 1) := by decide +kernel
theorem dX0_numberOf_11 : decode cX0_numberOf 11 = .ok (.iaload, 1) := by decide +kernel
theorem dX0_numberOf_12 : decode cX0_numberOf 12 = .ok (.lshl, 1) := by decide +kernel
theorem dX0_numberOf_13 : decode cX0_numberOf 13 = .ok (.aload_n 0, 1) := by decide +kernel
theorem dX0_numberOf_14 : decode cX0_numberOf 14 = .ok (.getfield 11, 3) := by decide +kernel
theorem dX0_numberOf_17 : decode cX0_numberOf 17 = .ok (.iload_n 2, 1) := by decide +kernel
theorem dX0_numberOf_18 : decode cX0_numberOf 18 = .ok (.laload, 1) := by decide +kernel
theorem dX0_numberOf_19 : decode cX0_numberOf 19 = .ok (.ladd, 1) := by decide +kernel
theorem dX0_numberOf_20 : decode cX0_numberOf 20 = .ok (.lconst 1, 1) := by decide +kernel
theorem dX0_numberOf_21 : decode cX0_numberOf 21 = .ok (.lsub, 1) := by decide +kernel
theorem dX0_numberOf_22 : decode cX0_numberOf 22 = .ok (.l2i, 1) := by decide +kernel
theorem dX0_numberOf_23 : decode cX0_numberOf 23 = .ok (.ireturn, 1) := by decide +kernel
theorem dX0_lengthOf_0 : decode cX0_lengthOf 0 = .ok (.aload_n 0, 1) := by decide +kernel
theorem dX0_lengthOf_1 : decode cX0_lengthOf 1 = .ok (.getfield 17, 3) := by decide +kernel
theorem dX0_lengthOf_4 : decode cX0_lengthOf 4 = .ok (.iload_n 1, 1) := by decide +kernel
theorem dX0_lengthOf_5 : decode cX0_lengthOf 5 = .ok (.bipush 7, 2) := by decide +kernel
theorem dX0_lengthOf_7 : decode cX0_lengthOf 7 = .ok (.iand, 1) := by decide +kernel
theorem dX0_lengthOf_8 : decode cX0_lengthOf 8 = .ok (.iaload, 1) := by decide +kernel
theorem dX0_lengthOf_9 : decode cX0_lengthOf 9 = .ok (.ireturn, 1) := by decide +kernel
theorem dX0_letterOf_0 : decode cX0_letterOf 0 = .ok (.aload_n 0, 1) := by decide +kernel
theorem dX0_letterOf_1 : decode cX0_letterOf 1 = .ok (.iload_n 1, 1) := by decide +kernel
theorem dX0_letterOf_2 : decode cX0_letterOf 2 = .ok (.invokevirtual 33, 3) := by decide +kernel
theorem dX0_letterOf_5 : decode cX0_letterOf 5 = .ok (.iconst 1, 1) := by decide +kernel
theorem dX0_letterOf_6 : decode cX0_letterOf 6 = .ok (.isub, 1) := by decide +kernel
theorem dX0_letterOf_7 : decode cX0_letterOf 7 = .ok (.iload_n 2, 1) := by decide +kernel
theorem dX0_letterOf_8 : decode cX0_letterOf 8 = .ok (.isub, 1) := by decide +kernel
theorem dX0_letterOf_9 : decode cX0_letterOf 9 = .ok (.istore_n 3, 1) := by decide +kernel
theorem dX0_letterOf_10 : decode cX0_letterOf 10 = .ok (.aload_n 0, 1) := by decide +kernel
theorem dX0_letterOf_11 : decode cX0_letterOf 11 = .ok (.getfield 11, 3) := by decide +kernel
theorem dX0_letterOf_14 : decode cX0_letterOf 14 = .ok (.iload_n 1, 1) := by decide +kernel
theorem dX0_letterOf_15 : decode cX0_letterOf 15 = .ok (.bipush 7, 2) := by decide +kernel
theorem dX0_letterOf_17 : decode cX0_letterOf 17 = .ok (.iand, 1) := by decide +kernel
theorem dX0_letterOf_18 : decode cX0_letterOf 18 = .ok (.laload, 1) := by decide +kernel
theorem dX0_letterOf_19 : decode cX0_letterOf 19 = .ok (.iload_n 3, 1) := by decide +kernel
theorem dX0_letterOf_20 : decode cX0_letterOf 20 = .ok (.lushr, 1) := by decide +kernel
theorem dX0_letterOf_21 : decode cX0_letterOf 21 = .ok (.lconst 1, 1) := by decide +kernel
theorem dX0_letterOf_22 : decode cX0_letterOf 22 = .ok (.land, 1) := by decide +kernel
theorem dX0_letterOf_23 : decode cX0_letterOf 23 = .ok (.lconst 0, 1) := by decide +kernel
theorem dX0_letterOf_24 : decode cX0_letterOf 24 = .ok (.lcmp, 1) := by decide +kernel
theorem dX0_letterOf_25 : decode cX0_letterOf 25 = .ok (.ifCond .ne 8, 3) := by decide +kernel
theorem dX0_letterOf_28 : decode cX0_letterOf 28 = .ok (.bipush 97, 2) := by decide +kernel
theorem dX0_letterOf_30 : decode cX0_letterOf 30 = .ok (.goto 5, 3) := by decide +kernel
theorem dX0_letterOf_33 : decode cX0_letterOf 33 = .ok (.bipush 98, 2) := by decide +kernel
theorem dX0_letterOf_35 : decode cX0_letterOf 35 = .ok (.ireturn, 1) := by decide +kernel
theorem dX0_equates_0 : decode cX0_equates 0 = .ok (.aload_n 0, 1) := by decide +kernel
theorem dX0_equates_1 : decode cX0_equates 1 = .ok (.lload_n 1, 1) := by decide +kernel
theorem dX0_equates_2 : decode cX0_equates 2 = .ok (.invokevirtual 36, 3) := by decide +kernel
theorem dX0_equates_5 : decode cX0_equates 5 = .ok (.aload_n 0, 1) := by decide +kernel
theorem dX0_equates_6 : decode cX0_equates 6 = .ok (.lload_n 3, 1) := by decide +kernel
theorem dX0_equates_7 : decode cX0_equates 7 = .ok (.invokevirtual 36, 3) := by decide +kernel
theorem dX0_equates_10 : decode cX0_equates 10 = .ok (.lcmp, 1) := by decide +kernel
theorem dX0_equates_11 : decode cX0_equates 11 = .ok (.ifCond .ne 7, 3) := by decide +kernel
theorem dX0_equates_14 : decode cX0_equates 14 = .ok (.iconst 1, 1) := by decide +kernel
theorem dX0_equates_15 : decode cX0_equates 15 = .ok (.goto 4, 3) := by decide +kernel
theorem dX0_equates_18 : decode cX0_equates 18 = .ok (.iconst 0, 1) := by decide +kernel
theorem dX0_equates_19 : decode cX0_equates 19 = .ok (.ireturn, 1) := by decide +kernel
theorem dX0_spelled_0 : decode cX0_spelled 0 = .ok (.lconst 1, 1) := by decide +kernel
theorem dX0_spelled_1 : decode cX0_spelled 1 = .ok (.lstore_n 3, 1) := by decide +kernel
theorem dX0_spelled_2 : decode cX0_spelled 2 = .ok (.lload_n 1, 1) := by decide +kernel
theorem dX0_spelled_3 : decode cX0_spelled 3 = .ok (.lstore 5, 2) := by decide +kernel
theorem dX0_spelled_5 : decode cX0_spelled 5 = .ok (.iconst 0, 1) := by decide +kernel
theorem dX0_spelled_6 : decode cX0_spelled 6 = .ok (.istore 7, 2) := by decide +kernel
theorem dX0_spelled_8 : decode cX0_spelled 8 = .ok (.iload 7, 2) := by decide +kernel
theorem dX0_spelled_10 : decode cX0_spelled 10 = .ok (.bipush 12, 2) := by decide +kernel
theorem dX0_spelled_12 : decode cX0_spelled 12 = .ok (.if_icmp .ge 48, 3) := by decide +kernel
theorem dX0_spelled_15 : decode cX0_spelled 15 = .ok (.lload 5, 2) := by decide +kernel
theorem dX0_spelled_17 : decode cX0_spelled 17 = .ok (.lconst 0, 1) := by decide +kernel
theorem dX0_spelled_18 : decode cX0_spelled 18 = .ok (.lcmp, 1) := by decide +kernel
theorem dX0_spelled_19 : decode cX0_spelled 19 = .ok (.ifCond .eq 41, 3) := by decide +kernel
theorem dX0_spelled_22 : decode cX0_spelled 22 = .ok (.lload 5, 2) := by decide +kernel
theorem dX0_spelled_24 : decode cX0_spelled 24 = .ok (.l2i, 1) := by decide +kernel
theorem dX0_spelled_25 : decode cX0_spelled 25 = .ok (.bipush 7, 2) := by decide +kernel
theorem dX0_spelled_27 : decode cX0_spelled 27 = .ok (.iand, 1) := by decide +kernel
theorem dX0_spelled_28 : decode cX0_spelled 28 = .ok (.istore 8, 2) := by decide +kernel
theorem dX0_spelled_30 : decode cX0_spelled 30 = .ok (.lload_n 3, 1) := by decide +kernel
theorem dX0_spelled_31 : decode cX0_spelled 31 = .ok (.aload_n 0, 1) := by decide +kernel
theorem dX0_spelled_32 : decode cX0_spelled 32 = .ok (.getfield 17, 3) := by decide +kernel
theorem dX0_spelled_35 : decode cX0_spelled 35 = .ok (.iload 8, 2) := by decide +kernel
theorem dX0_spelled_37 : decode cX0_spelled 37 = .ok (.iaload, 1) := by decide +kernel
theorem dX0_spelled_38 : decode cX0_spelled 38 = .ok (.lshl, 1) := by decide +kernel
theorem dX0_spelled_39 : decode cX0_spelled 39 = .ok (.aload_n 0, 1) := by decide +kernel
theorem dX0_spelled_40 : decode cX0_spelled 40 = .ok (.getfield 11, 3) := by decide +kernel
theorem dX0_spelled_43 : decode cX0_spelled 43 = .ok (.iload 8, 2) := by decide +kernel
theorem dX0_spelled_45 : decode cX0_spelled 45 = .ok (.laload, 1) := by decide +kernel
theorem dX0_spelled_46 : decode cX0_spelled 46 = .ok (.lor, 1) := by decide +kernel
theorem dX0_spelled_47 : decode cX0_spelled 47 = .ok (.lstore_n 3, 1) := by decide +kernel
theorem dX0_spelled_48 : decode cX0_spelled 48 = .ok (.lload 5, 2) := by decide +kernel
theorem dX0_spelled_50 : decode cX0_spelled 50 = .ok (.iconst 3, 1) := by decide +kernel
theorem dX0_spelled_51 : decode cX0_spelled 51 = .ok (.lushr, 1) := by decide +kernel
theorem dX0_spelled_52 : decode cX0_spelled 52 = .ok (.lstore 5, 2) := by decide +kernel
theorem dX0_spelled_54 : decode cX0_spelled 54 = .ok (.iinc 7 1, 3) := by decide +kernel
theorem dX0_spelled_57 : decode cX0_spelled 57 = .ok (.goto (-49), 3) := by decide +kernel
theorem dX0_spelled_60 : decode cX0_spelled 60 = .ok (.lload_n 3, 1) := by decide +kernel
theorem dX0_spelled_61 : decode cX0_spelled 61 = .ok (.lreturn, 1) := by decide +kernel
theorem dX0_prepend_0 : decode cX0_prepend 0 = .ok (.aload_n 0, 1) := by decide +kernel
theorem dX0_prepend_1 : decode cX0_prepend 1 = .ok (.iload_n 1, 1) := by decide +kernel
theorem dX0_prepend_2 : decode cX0_prepend 2 = .ok (.invokevirtual 33, 3) := by decide +kernel
theorem dX0_prepend_5 : decode cX0_prepend 5 = .ok (.istore_n 3, 1) := by decide +kernel
theorem dX0_prepend_6 : decode cX0_prepend 6 = .ok (.aload_n 0, 1) := by decide +kernel
theorem dX0_prepend_7 : decode cX0_prepend 7 = .ok (.iload_n 2, 1) := by decide +kernel
theorem dX0_prepend_8 : decode cX0_prepend 8 = .ok (.invokevirtual 33, 3) := by decide +kernel
theorem dX0_prepend_11 : decode cX0_prepend 11 = .ok (.iload_n 3, 1) := by decide +kernel
theorem dX0_prepend_12 : decode cX0_prepend 12 = .ok (.iadd, 1) := by decide +kernel
theorem dX0_prepend_13 : decode cX0_prepend 13 = .ok (.istore 4, 2) := by decide +kernel
theorem dX0_prepend_15 : decode cX0_prepend 15 = .ok (.iload 4, 2) := by decide +kernel
theorem dX0_prepend_17 : decode cX0_prepend 17 = .ok (.bipush 60, 2) := by decide +kernel
theorem dX0_prepend_19 : decode cX0_prepend 19 = .ok (.if_icmp .le 5, 3) := by decide +kernel
theorem dX0_prepend_22 : decode cX0_prepend 22 = .ok (.iconst 0, 1) := by decide +kernel
theorem dX0_prepend_23 : decode cX0_prepend 23 = .ok (.ireturn, 1) := by decide +kernel
theorem dX0_prepend_24 : decode cX0_prepend 24 = .ok (.aload_n 0, 1) := by decide +kernel
theorem dX0_prepend_25 : decode cX0_prepend 25 = .ok (.iload_n 1, 1) := by decide +kernel
theorem dX0_prepend_26 : decode cX0_prepend 26 = .ok (.aload_n 0, 1) := by decide +kernel
theorem dX0_prepend_27 : decode cX0_prepend 27 = .ok (.getfield 11, 3) := by decide +kernel
theorem dX0_prepend_30 : decode cX0_prepend 30 = .ok (.iload_n 2, 1) := by decide +kernel
theorem dX0_prepend_31 : decode cX0_prepend 31 = .ok (.bipush 7, 2) := by decide +kernel
theorem dX0_prepend_33 : decode cX0_prepend 33 = .ok (.iand, 1) := by decide +kernel
theorem dX0_prepend_34 : decode cX0_prepend 34 = .ok (.laload, 1) := by decide +kernel
theorem dX0_prepend_35 : decode cX0_prepend 35 = .ok (.iload_n 3, 1) := by decide +kernel
theorem dX0_prepend_36 : decode cX0_prepend 36 = .ok (.lshl, 1) := by decide +kernel
theorem dX0_prepend_37 : decode cX0_prepend 37 = .ok (.aload_n 0, 1) := by decide +kernel
theorem dX0_prepend_38 : decode cX0_prepend 38 = .ok (.getfield 11, 3) := by decide +kernel
theorem dX0_prepend_41 : decode cX0_prepend 41 = .ok (.iload_n 1, 1) := by decide +kernel
theorem dX0_prepend_42 : decode cX0_prepend 42 = .ok (.bipush 7, 2) := by decide +kernel
theorem dX0_prepend_44 : decode cX0_prepend 44 = .ok (.iand, 1) := by decide +kernel
theorem dX0_prepend_45 : decode cX0_prepend 45 = .ok (.laload, 1) := by decide +kernel
theorem dX0_prepend_46 : decode cX0_prepend 46 = .ok (.lor, 1) := by decide +kernel
theorem dX0_prepend_47 : decode cX0_prepend 47 = .ok (.iload 4, 2) := by decide +kernel
theorem dX0_prepend_49 : decode cX0_prepend 49 = .ok (.invokevirtual 25, 3) := by decide +kernel
theorem dX0_prepend_52 : decode cX0_prepend 52 = .ok (.iconst 1, 1) := by decide +kernel
theorem dX0_prepend_53 : decode cX0_prepend 53 = .ok (.ireturn, 1) := by decide +kernel
theorem dX1_init_0 : decode cX1_init 0 = .ok (.aload_n 0, 1) := by decide +kernel
theorem dX1_init_1 : decode cX1_init 1 = .ok (.invokespecial 3, 3) := by decide +kernel
theorem dX1_init_4 : decode cX1_init 4 = .ok (.aload_n 0, 1) := by decide +kernel
theorem dX1_init_5 : decode cX1_init 5 = .ok (.new 9, 3) := by decide +kernel
theorem dX1_init_8 : decode cX1_init 8 = .ok (.dup, 1) := by decide +kernel
theorem dX1_init_9 : decode cX1_init 9 = .ok (.invokespecial 11, 3) := by decide +kernel
theorem dX1_init_12 : decode cX1_init 12 = .ok (.putfield 12, 3) := by decide +kernel
theorem dX1_init_15 : decode cX1_init 15 = .ok (.aload_n 0, 1) := by decide +kernel
theorem dX1_init_16 : decode cX1_init 16 = .ok (.iconst 4, 1) := by decide +kernel
theorem dX1_init_17 : decode cX1_init 17 = .ok (.newarray .int, 2) := by decide +kernel
theorem dX1_init_19 : decode cX1_init 19 = .ok (.putfield 18, 3) := by decide +kernel
theorem dX1_init_22 : decode cX1_init 22 = .ok (.aload_n 0, 1) := by decide +kernel
theorem dX1_init_23 : decode cX1_init 23 = .ok (.aload_n 1, 1) := by decide +kernel
theorem dX1_init_24 : decode cX1_init 24 = .ok (.putfield 22, 3) := by decide +kernel
theorem dX1_init_27 : decode cX1_init 27 = .ok (.return_, 1) := by decide +kernel
theorem dX1_enumerate_0 : decode cX1_enumerate 0 = .ok (.aload_n 0, 1) := by decide +kernel
theorem dX1_enumerate_1 : decode cX1_enumerate 1 = .ok (.aload_n 1, 1) := by decide +kernel
theorem dX1_enumerate_2 : decode cX1_enumerate 2 = .ok (.getfield 26, 3) := by decide +kernel
theorem dX1_enumerate_5 : decode cX1_enumerate 5 = .ok (.putfield 32, 3) := by decide +kernel
theorem dX1_enumerate_8 : decode cX1_enumerate 8 = .ok (.aload_n 0, 1) := by decide +kernel
theorem dX1_enumerate_9 : decode cX1_enumerate 9 = .ok (.aload_n 1, 1) := by decide +kernel
theorem dX1_enumerate_10 : decode cX1_enumerate 10 = .ok (.getfield 33, 3) := by decide +kernel
theorem dX1_enumerate_13 : decode cX1_enumerate 13 = .ok (.putfield 36, 3) := by decide +kernel
theorem dX1_enumerate_16 : decode cX1_enumerate 16 = .ok (.aload_n 0, 1) := by decide +kernel
theorem dX1_enumerate_17 : decode cX1_enumerate 17 = .ok (.iconst 0, 1) := by decide +kernel
theorem dX1_enumerate_18 : decode cX1_enumerate 18 = .ok (.putfield 37, 3) := by decide +kernel
theorem dX1_enumerate_21 : decode cX1_enumerate 21 = .ok (.aload_n 0, 1) := by decide +kernel
theorem dX1_enumerate_22 : decode cX1_enumerate 22 = .ok (.iconst 0, 1) := by decide +kernel
theorem dX1_enumerate_23 : decode cX1_enumerate 23 = .ok (.putfield 41, 3) := by decide +kernel
theorem dX1_enumerate_26 : decode cX1_enumerate 26 = .ok (.aload_n 0, 1) := by decide +kernel
theorem dX1_enumerate_27 : decode cX1_enumerate 27 = .ok (.getfield 22, 3) := by decide +kernel
theorem dX1_enumerate_30 : decode cX1_enumerate 30 = .ok (.aload_n 1, 1) := by decide +kernel
theorem dX1_enumerate_31 : decode cX1_enumerate 31 = .ok (.iload_n 2, 1) := by decide +kernel
theorem dX1_enumerate_32 : decode cX1_enumerate 32 = .ok (.invokevirtual 44, 3) := by decide +kernel
theorem dX1_enumerate_35 : decode cX1_enumerate 35 = .ok (.aload_n 0, 1) := by decide +kernel
theorem dX1_enumerate_36 : decode cX1_enumerate 36 = .ok (.iconst 0, 1) := by decide +kernel
theorem dX1_enumerate_37 : decode cX1_enumerate 37 = .ok (.aload_n 0, 1) := by decide +kernel
theorem dX1_enumerate_38 : decode cX1_enumerate 38 = .ok (.getfield 22, 3) := by decide +kernel
theorem dX1_enumerate_41 : decode cX1_enumerate 41 = .ok (.invokevirtual 50, 3) := by decide +kernel
theorem dX1_enumerate_44 : decode cX1_enumerate 44 = .ok (.invokevirtual 54, 3) := by decide +kernel
theorem dX1_enumerate_47 : decode cX1_enumerate 47 = .ok (.aload_n 0, 1) := by decide +kernel
theorem dX1_enumerate_48 : decode cX1_enumerate 48 = .ok (.getfield 37, 3) := by decide +kernel
theorem dX1_enumerate_51 : decode cX1_enumerate 51 = .ok (.ireturn, 1) := by decide +kernel
theorem dX1_firstNumber_0 : decode cX1_firstNumber 0 = .ok (.iload_n 1, 1) := by decide +kernel
theorem dX1_firstNumber_1 : decode cX1_firstNumber 1 = .ok (.invokestatic 58, 3) := by decide +kernel
theorem dX1_firstNumber_4 : decode cX1_firstNumber 4 = .ok (.ifCond .eq 12, 3) := by decide +kernel
theorem dX1_firstNumber_7 : decode cX1_firstNumber 7 = .ok (.aload_n 0, 1) := by decide +kernel
theorem dX1_firstNumber_8 : decode cX1_firstNumber 8 = .ok (.getfield 18, 3) := by decide +kernel
theorem dX1_firstNumber_11 : decode cX1_firstNumber 11 = .ok (.iload_n 1, 1) := by decide +kernel
theorem dX1_firstNumber_12 : decode cX1_firstNumber 12 = .ok (.iaload, 1) := by decide +kernel
theorem dX1_firstNumber_13 : decode cX1_firstNumber 13 = .ok (.goto 5, 3) := by decide +kernel
theorem dX1_firstNumber_16 : decode cX1_firstNumber 16 = .ok (.bipush (-9), 2) := by decide +kernel
theorem dX1_firstNumber_18 : decode cX1_firstNumber 18 = .ok (.ireturn, 1) := by decide +kernel
theorem dX1_leastTotal_0 : decode cX1_leastTotal 0 = .ok (.aload_n 0, 1) := by decide +kernel
theorem dX1_leastTotal_1 : decode cX1_leastTotal 1 = .ok (.getfield 41, 3) := by decide +kernel
theorem dX1_leastTotal_4 : decode cX1_leastTotal 4 = .ok (.ireturn, 1) := by decide +kernel
theorem dX1_chooseWord_0 : decode cX1_chooseWord 0 = .ok (.iload_n 1, 1) := by decide +kernel
theorem dX1_chooseWord_1 : decode cX1_chooseWord 1 = .ok (.invokestatic 58, 3) := by decide +kernel
theorem dX1_chooseWord_4 : decode cX1_chooseWord 4 = .ok (.ifCond .ne 26, 3) := by decide +kernel
theorem dX1_chooseWord_7 : decode cX1_chooseWord 7 = .ok (.aload_n 0, 1) := by decide +kernel
theorem dX1_chooseWord_8 : decode cX1_chooseWord 8 = .ok (.getfield 12, 3) := by decide +kernel
theorem dX1_chooseWord_11 : decode cX1_chooseWord 11 = .ok (.aload_n 0, 1) := by decide +kernel
theorem dX1_chooseWord_12 : decode cX1_chooseWord 12 = .ok (.getfield 32, 3) := by decide +kernel
theorem dX1_chooseWord_15 : decode cX1_chooseWord 15 = .ok (.aload_n 0, 1) := by decide +kernel
theorem dX1_chooseWord_16 : decode cX1_chooseWord 16 = .ok (.getfield 36, 3) := by decide +kernel
theorem dX1_chooseWord_19 : decode cX1_chooseWord 19 = .ok (.invokevirtual 62, 3) := by decide +kernel
theorem dX1_chooseWord_22 : decode cX1_chooseWord 22 = .ok (.ifCond .eq 7, 3) := by decide +kernel
theorem dX1_chooseWord_25 : decode cX1_chooseWord 25 = .ok (.aload_n 0, 1) := by decide +kernel
theorem dX1_chooseWord_26 : decode cX1_chooseWord 26 = .ok (.invokevirtual 66, 3) := by decide +kernel
theorem dX1_chooseWord_29 : decode cX1_chooseWord 29 = .ok (.return_, 1) := by decide +kernel
theorem dX1_chooseWord_30 : decode cX1_chooseWord 30 = .ok (.iconst 0, 1) := by decide +kernel
theorem dX1_chooseWord_31 : decode cX1_chooseWord 31 = .ok (.istore_n 3, 1) := by decide +kernel
theorem dX1_chooseWord_32 : decode cX1_chooseWord 32 = .ok (.iload_n 3, 1) := by decide +kernel
theorem dX1_chooseWord_33 : decode cX1_chooseWord 33 = .ok (.iconst 3, 1) := by decide +kernel
theorem dX1_chooseWord_34 : decode cX1_chooseWord 34 = .ok (.if_icmp .gt 37, 3) := by decide +kernel
theorem dX1_chooseWord_37 : decode cX1_chooseWord 37 = .ok (.aload_n 0, 1) := by decide +kernel
theorem dX1_chooseWord_38 : decode cX1_chooseWord 38 = .ok (.getfield 22, 3) := by decide +kernel
theorem dX1_chooseWord_41 : decode cX1_chooseWord 41 = .ok (.iload_n 1, 1) := by decide +kernel
theorem dX1_chooseWord_42 : decode cX1_chooseWord 42 = .ok (.iload_n 3, 1) := by decide +kernel
theorem dX1_chooseWord_43 : decode cX1_chooseWord 43 = .ok (.invokevirtual 69, 3) := by decide +kernel
theorem dX1_chooseWord_46 : decode cX1_chooseWord 46 = .ok (.ifCond .eq 19, 3) := by decide +kernel
theorem dX1_chooseWord_49 : decode cX1_chooseWord 49 = .ok (.aload_n 0, 1) := by decide +kernel
theorem dX1_chooseWord_50 : decode cX1_chooseWord 50 = .ok (.iload_n 1, 1) := by decide +kernel
theorem dX1_chooseWord_51 : decode cX1_chooseWord 51 = .ok (.iload_n 3, 1) := by decide +kernel
theorem dX1_chooseWord_52 : decode cX1_chooseWord 52 = .ok (.aload_n 0, 1) := by decide +kernel
theorem dX1_chooseWord_53 : decode cX1_chooseWord 53 = .ok (.getfield 22, 3) := by decide +kernel
theorem dX1_chooseWord_56 : decode cX1_chooseWord 56 = .ok (.iload_n 1, 1) := by decide +kernel
theorem dX1_chooseWord_57 : decode cX1_chooseWord 57 = .ok (.iload_n 3, 1) := by decide +kernel
theorem dX1_chooseWord_58 : decode cX1_chooseWord 58 = .ok (.iload_n 2, 1) := by decide +kernel
theorem dX1_chooseWord_59 : decode cX1_chooseWord 59 = .ok (.invokevirtual 73, 3) := by decide +kernel
theorem dX1_chooseWord_62 : decode cX1_chooseWord 62 = .ok (.invokevirtual 77, 3) := by decide +kernel
theorem dX1_chooseWord_65 : decode cX1_chooseWord 65 = .ok (.iinc 3 1, 3) := by decide +kernel
theorem dX1_chooseWord_68 : decode cX1_chooseWord 68 = .ok (.goto (-36), 3) := by decide +kernel
theorem dX1_chooseWord_71 : decode cX1_chooseWord 71 = .ok (.return_, 1) := by decide +kernel
theorem dX1_chooseLetters_0 : decode cX1_chooseLetters 0 = .ok (.aload_n 0, 1) := by decide +kernel
theorem dX1_chooseLetters_1 : decode cX1_chooseLetters 1 = .ok (.getfield 22, 3) := by decide +kernel
theorem dX1_chooseLetters_4 : decode cX1_chooseLetters 4 = .ok (.iload_n 1, 1) := by decide +kernel
theorem dX1_chooseLetters_5 : decode cX1_chooseLetters 5 = .ok (.iconst 1, 1) := by decide +kernel
theorem dX1_chooseLetters_6 : decode cX1_chooseLetters 6 = .ok (.iadd, 1) := by decide +kernel
theorem dX1_chooseLetters_7 : decode cX1_chooseLetters 7 = .ok (.iload_n 3, 1) := by decide +kernel
theorem dX1_chooseLetters_8 : decode cX1_chooseLetters 8 = .ok (.invokevirtual 81, 3) := by decide +kernel
theorem dX1_chooseLetters_11 : decode cX1_chooseLetters 11 = .ok (.ifCond .ne 4, 3) := by decide +kernel
theorem dX1_chooseLetters_14 : decode cX1_chooseLetters 14 = .ok (.return_, 1) := by decide +kernel
theorem dX1_chooseLetters_15 : decode cX1_chooseLetters 15 = .ok (.iconst 0, 1) := by decide +kernel
theorem dX1_chooseLetters_16 : decode cX1_chooseLetters 16 = .ok (.istore 4, 2) := by decide +kernel
theorem dX1_chooseLetters_18 : decode cX1_chooseLetters 18 = .ok (.iload 4, 2) := by decide +kernel
theorem dX1_chooseLetters_20 : decode cX1_chooseLetters 20 = .ok (.iconst 1, 1) := by decide +kernel
theorem dX1_chooseLetters_21 : decode cX1_chooseLetters 21 = .ok (.iload_n 2, 1) := by decide +kernel
theorem dX1_chooseLetters_22 : decode cX1_chooseLetters 22 = .ok (.ishl, 1) := by decide +kernel
theorem dX1_chooseLetters_23 : decode cX1_chooseLetters 23 = .ok (.if_icmp .ge 32, 3) := by decide +kernel
theorem dX1_chooseLetters_26 : decode cX1_chooseLetters 26 = .ok (.aload_n 0, 1) := by decide +kernel
theorem dX1_chooseLetters_27 : decode cX1_chooseLetters 27 = .ok (.getfield 12, 3) := by decide +kernel
theorem dX1_chooseLetters_30 : decode cX1_chooseLetters 30 = .ok (.iload_n 1, 1) := by decide +kernel
theorem dX1_chooseLetters_31 : decode cX1_chooseLetters 31 = .ok (.invokestatic 84, 3) := by decide +kernel
theorem dX1_chooseLetters_34 : decode cX1_chooseLetters 34 = .ok (.iload 4, 2) := by decide +kernel
theorem dX1_chooseLetters_36 : decode cX1_chooseLetters 36 = .ok (.i2l, 1) := by decide +kernel
theorem dX1_chooseLetters_37 : decode cX1_chooseLetters 37 = .ok (.iload_n 2, 1) := by decide +kernel
theorem dX1_chooseLetters_38 : decode cX1_chooseLetters 38 = .ok (.invokevirtual 90, 3) := by decide +kernel
theorem dX1_chooseLetters_41 : decode cX1_chooseLetters 41 = .ok (.aload_n 0, 1) := by decide +kernel
theorem dX1_chooseLetters_42 : decode cX1_chooseLetters 42 = .ok (.iload_n 1, 1) := by decide +kernel
theorem dX1_chooseLetters_43 : decode cX1_chooseLetters 43 = .ok (.iconst 1, 1) := by decide +kernel
theorem dX1_chooseLetters_44 : decode cX1_chooseLetters 44 = .ok (.iadd, 1) := by decide +kernel
theorem dX1_chooseLetters_45 : decode cX1_chooseLetters 45 = .ok (.iload_n 3, 1) := by decide +kernel
theorem dX1_chooseLetters_46 : decode cX1_chooseLetters 46 = .ok (.invokevirtual 54, 3) := by decide +kernel
theorem dX1_chooseLetters_49 : decode cX1_chooseLetters 49 = .ok (.iinc 4 1, 3) := by decide +kernel
theorem dX1_chooseLetters_52 : decode cX1_chooseLetters 52 = .ok (.goto (-34), 3) := by decide +kernel
theorem dX1_chooseLetters_55 : decode cX1_chooseLetters 55 = .ok (.return_, 1) := by decide +kernel
theorem dX1_record_0 : decode cX1_record 0 = .ok (.iconst 0, 1) := by decide +kernel
theorem dX1_record_1 : decode cX1_record 1 = .ok (.istore_n 1, 1) := by decide +kernel
theorem dX1_record_2 : decode cX1_record 2 = .ok (.iconst 0, 1) := by decide +kernel
theorem dX1_record_3 : decode cX1_record 3 = .ok (.istore_n 2, 1) := by decide +kernel
theorem dX1_record_4 : decode cX1_record 4 = .ok (.iload_n 2, 1) := by decide +kernel
theorem dX1_record_5 : decode cX1_record 5 = .ok (.iconst 4, 1) := by decide +kernel
theorem dX1_record_6 : decode cX1_record 6 = .ok (.if_icmp .ge 46, 3) := by decide +kernel
theorem dX1_record_9 : decode cX1_record 9 = .ok (.iload_n 2, 1) := by decide +kernel
theorem dX1_record_10 : decode cX1_record 10 = .ok (.invokestatic 84, 3) := by decide +kernel
theorem dX1_record_13 : decode cX1_record 13 = .ok (.istore_n 3, 1) := by decide +kernel
theorem dX1_record_14 : decode cX1_record 14 = .ok (.iload_n 1, 1) := by decide +kernel
theorem dX1_record_15 : decode cX1_record 15 = .ok (.aload_n 0, 1) := by decide +kernel
theorem dX1_record_16 : decode cX1_record 16 = .ok (.getfield 12, 3) := by decide +kernel
theorem dX1_record_19 : decode cX1_record 19 = .ok (.iload_n 3, 1) := by decide +kernel
theorem dX1_record_20 : decode cX1_record 20 = .ok (.invokevirtual 94, 3) := by decide +kernel
theorem dX1_record_23 : decode cX1_record 23 = .ok (.iadd, 1) := by decide +kernel
theorem dX1_record_24 : decode cX1_record 24 = .ok (.istore_n 1, 1) := by decide +kernel
theorem dX1_record_25 : decode cX1_record 25 = .ok (.aload_n 0, 1) := by decide +kernel
theorem dX1_record_26 : decode cX1_record 26 = .ok (.getfield 37, 3) := by decide +kernel
theorem dX1_record_29 : decode cX1_record 29 = .ok (.ifCond .ne 17, 3) := by decide +kernel
theorem dX1_record_32 : decode cX1_record 32 = .ok (.aload_n 0, 1) := by decide +kernel
theorem dX1_record_33 : decode cX1_record 33 = .ok (.getfield 18, 3) := by decide +kernel
theorem dX1_record_36 : decode cX1_record 36 = .ok (.iload_n 2, 1) := by decide +kernel
theorem dX1_record_37 : decode cX1_record 37 = .ok (.aload_n 0, 1) := by decide +kernel
theorem dX1_record_38 : decode cX1_record 38 = .ok (.getfield 12, 3) := by decide +kernel
theorem dX1_record_41 : decode cX1_record 41 = .ok (.iload_n 3, 1) := by decide +kernel
theorem dX1_record_42 : decode cX1_record 42 = .ok (.invokevirtual 97, 3) := by decide +kernel
theorem dX1_record_45 : decode cX1_record 45 = .ok (.iastore, 1) := by decide +kernel
theorem dX1_record_46 : decode cX1_record 46 = .ok (.iinc 2 1, 3) := by decide +kernel
theorem dX1_record_49 : decode cX1_record 49 = .ok (.goto (-45), 3) := by decide +kernel
theorem dX1_record_52 : decode cX1_record 52 = .ok (.aload_n 0, 1) := by decide +kernel
theorem dX1_record_53 : decode cX1_record 53 = .ok (.aload_n 0, 1) := by decide +kernel
theorem dX1_record_54 : decode cX1_record 54 = .ok (.getfield 37, 3) := by decide +kernel
theorem dX1_record_57 : decode cX1_record 57 = .ok (.ifCond .ne 7, 3) := by decide +kernel
theorem dX1_record_60 : decode cX1_record 60 = .ok (.iload_n 1, 1) := by decide +kernel
theorem dX1_record_61 : decode cX1_record 61 = .ok (.goto 11, 3) := by decide +kernel
theorem dX1_record_64 : decode cX1_record 64 = .ok (.aload_n 0, 1) := by decide +kernel
theorem dX1_record_65 : decode cX1_record 65 = .ok (.getfield 41, 3) := by decide +kernel
theorem dX1_record_68 : decode cX1_record 68 = .ok (.iload_n 1, 1) := by decide +kernel
theorem dX1_record_69 : decode cX1_record 69 = .ok (.invokestatic 100, 3) := by decide +kernel
theorem dX1_record_72 : decode cX1_record 72 = .ok (.putfield 41, 3) := by decide +kernel
theorem dX1_record_75 : decode cX1_record 75 = .ok (.aload_n 0, 1) := by decide +kernel
theorem dX1_record_76 : decode cX1_record 76 = .ok (.dup, 1) := by decide +kernel
theorem dX1_record_77 : decode cX1_record 77 = .ok (.getfield 37, 3) := by decide +kernel
theorem dX1_record_80 : decode cX1_record 80 = .ok (.iconst 1, 1) := by decide +kernel
theorem dX1_record_81 : decode cX1_record 81 = .ok (.iadd, 1) := by decide +kernel
theorem dX1_record_82 : decode cX1_record 82 = .ok (.putfield 37, 3) := by decide +kernel
theorem dX1_record_85 : decode cX1_record 85 = .ok (.return_, 1) := by decide +kernel
theorem dX2_init_0 : decode cX2_init 0 = .ok (.aload_n 0, 1) := by decide +kernel
theorem dX2_init_1 : decode cX2_init 1 = .ok (.invokespecial 3, 3) := by decide +kernel
theorem dX2_init_4 : decode cX2_init 4 = .ok (.return_, 1) := by decide +kernel
theorem dX2_set_0 : decode cX2_set 0 = .ok (.aload_n 0, 1) := by decide +kernel
theorem dX2_set_1 : decode cX2_set 1 = .ok (.lload_n 1, 1) := by decide +kernel
theorem dX2_set_2 : decode cX2_set 2 = .ok (.putfield 9, 3) := by decide +kernel
theorem dX2_set_5 : decode cX2_set 5 = .ok (.aload_n 0, 1) := by decide +kernel
theorem dX2_set_6 : decode cX2_set 6 = .ok (.lload_n 3, 1) := by decide +kernel
theorem dX2_set_7 : decode cX2_set 7 = .ok (.putfield 15, 3) := by decide +kernel
theorem dX2_set_10 : decode cX2_set 10 = .ok (.return_, 1) := by decide +kernel
theorem dX2_side_0 : decode cX2_side 0 = .ok (.iload_n 1, 1) := by decide +kernel
theorem dX2_side_1 : decode cX2_side 1 = .ok (.ifCond .ne 10, 3) := by decide +kernel
theorem dX2_side_4 : decode cX2_side 4 = .ok (.aload_n 0, 1) := by decide +kernel
theorem dX2_side_5 : decode cX2_side 5 = .ok (.getfield 9, 3) := by decide +kernel
theorem dX2_side_8 : decode cX2_side 8 = .ok (.goto 7, 3) := by decide +kernel
theorem dX2_side_11 : decode cX2_side 11 = .ok (.aload_n 0, 1) := by decide +kernel
theorem dX2_side_12 : decode cX2_side 12 = .ok (.getfield 15, 3) := by decide +kernel
theorem dX2_side_15 : decode cX2_side 15 = .ok (.lreturn, 1) := by decide +kernel
theorem dX2_size_0 : decode cX2_size 0 = .ok (.aload_n 0, 1) := by decide +kernel
theorem dX2_size_1 : decode cX2_size 1 = .ok (.getfield 9, 3) := by decide +kernel
theorem dX2_size_4 : decode cX2_size 4 = .ok (.invokestatic 18, 3) := by decide +kernel
theorem dX2_size_7 : decode cX2_size 7 = .ok (.aload_n 0, 1) := by decide +kernel
theorem dX2_size_8 : decode cX2_size 8 = .ok (.getfield 15, 3) := by decide +kernel
theorem dX2_size_11 : decode cX2_size 11 = .ok (.invokestatic 18, 3) := by decide +kernel
theorem dX2_size_14 : decode cX2_size 14 = .ok (.iadd, 1) := by decide +kernel
theorem dX2_size_15 : decode cX2_size 15 = .ok (.ireturn, 1) := by decide +kernel
theorem dX2_total_0 : decode cX2_total 0 = .ok (.aload_n 0, 1) := by decide +kernel
theorem dX2_total_1 : decode cX2_total 1 = .ok (.getfield 9, 3) := by decide +kernel
theorem dX2_total_4 : decode cX2_total 4 = .ok (.iload_n 1, 1) := by decide +kernel
theorem dX2_total_5 : decode cX2_total 5 = .ok (.invokestatic 24, 3) := by decide +kernel
theorem dX2_total_8 : decode cX2_total 8 = .ok (.aload_n 0, 1) := by decide +kernel
theorem dX2_total_9 : decode cX2_total 9 = .ok (.getfield 15, 3) := by decide +kernel
theorem dX2_total_12 : decode cX2_total 12 = .ok (.iload_n 1, 1) := by decide +kernel
theorem dX2_total_13 : decode cX2_total 13 = .ok (.invokestatic 24, 3) := by decide +kernel
theorem dX2_total_16 : decode cX2_total 16 = .ok (.iadd, 1) := by decide +kernel
theorem dX2_total_17 : decode cX2_total 17 = .ok (.ireturn, 1) := by decide +kernel
theorem dX2_surplus_0 : decode cX2_surplus 0 = .ok (.aload_n 0, 1) := by decide +kernel
theorem dX2_surplus_1 : decode cX2_surplus 1 = .ok (.getfield 9, 3) := by decide +kernel
theorem dX2_surplus_4 : decode cX2_surplus 4 = .ok (.iload_n 1, 1) := by decide +kernel
theorem dX2_surplus_5 : decode cX2_surplus 5 = .ok (.invokestatic 24, 3) := by decide +kernel
theorem dX2_surplus_8 : decode cX2_surplus 8 = .ok (.aload_n 0, 1) := by decide +kernel
theorem dX2_surplus_9 : decode cX2_surplus 9 = .ok (.getfield 15, 3) := by decide +kernel
theorem dX2_surplus_12 : decode cX2_surplus 12 = .ok (.iload_n 1, 1) := by decide +kernel
theorem dX2_surplus_13 : decode cX2_surplus 13 = .ok (.invokestatic 24, 3) := by decide +kernel
theorem dX2_surplus_16 : decode cX2_surplus 16 = .ok (.isub, 1) := by decide +kernel
theorem dX2_surplus_17 : decode cX2_surplus 17 = .ok (.ireturn, 1) := by decide +kernel
theorem dX2_longestAfter_0 : decode cX2_longestAfter 0 = .ok (.aload_n 0, 1) := by decide +kernel
theorem dX2_longestAfter_1 : decode cX2_longestAfter 1 = .ok (.getfield 9, 3) := by decide +kernel
theorem dX2_longestAfter_4 : decode cX2_longestAfter 4 = .ok (.iload_n 1, 1) := by decide +kernel
theorem dX2_longestAfter_5 : decode cX2_longestAfter 5 = .ok (.iload_n 2, 1) := by decide +kernel
theorem dX2_longestAfter_6 : decode cX2_longestAfter 6 = .ok (.invokestatic 28, 3) := by decide +kernel
theorem dX2_longestAfter_9 : decode cX2_longestAfter 9 = .ok (.aload_n 0, 1) := by decide +kernel
theorem dX2_longestAfter_10 : decode cX2_longestAfter 10 = .ok (.getfield 15, 3) := by decide +kernel
theorem dX2_longestAfter_13 : decode cX2_longestAfter 13 = .ok (.iload_n 1, 1) := by decide +kernel
theorem dX2_longestAfter_14 : decode cX2_longestAfter 14 = .ok (.iload_n 2, 1) := by decide +kernel
theorem dX2_longestAfter_15 : decode cX2_longestAfter 15 = .ok (.invokestatic 28, 3) := by decide +kernel
theorem dX2_longestAfter_18 : decode cX2_longestAfter 18 = .ok (.invokestatic 32, 3) := by decide +kernel
theorem dX2_longestAfter_21 : decode cX2_longestAfter 21 = .ok (.ireturn, 1) := by decide +kernel
theorem dX2_swap_0 : decode cX2_swap 0 = .ok (.aload_n 0, 1) := by decide +kernel
theorem dX2_swap_1 : decode cX2_swap 1 = .ok (.aload_n 0, 1) := by decide +kernel
theorem dX2_swap_2 : decode cX2_swap 2 = .ok (.getfield 15, 3) := by decide +kernel
theorem dX2_swap_5 : decode cX2_swap 5 = .ok (.aload_n 0, 1) := by decide +kernel
theorem dX2_swap_6 : decode cX2_swap 6 = .ok (.getfield 9, 3) := by decide +kernel
theorem dX2_swap_9 : decode cX2_swap 9 = .ok (.invokevirtual 38, 3) := by decide +kernel
theorem dX2_swap_12 : decode cX2_swap 12 = .ok (.return_, 1) := by decide +kernel
theorem dX2_turn_0 : decode cX2_turn 0 = .ok (.aload_n 0, 1) := by decide +kernel
theorem dX2_turn_1 : decode cX2_turn 1 = .ok (.aload_n 0, 1) := by decide +kernel
theorem dX2_turn_2 : decode cX2_turn 2 = .ok (.getfield 9, 3) := by decide +kernel
theorem dX2_turn_5 : decode cX2_turn 5 = .ok (.invokestatic 42, 3) := by decide +kernel
theorem dX2_turn_8 : decode cX2_turn 8 = .ok (.aload_n 0, 1) := by decide +kernel
theorem dX2_turn_9 : decode cX2_turn 9 = .ok (.getfield 15, 3) := by decide +kernel
theorem dX2_turn_12 : decode cX2_turn 12 = .ok (.invokestatic 42, 3) := by decide +kernel
theorem dX2_turn_15 : decode cX2_turn 15 = .ok (.invokevirtual 38, 3) := by decide +kernel
theorem dX2_turn_18 : decode cX2_turn 18 = .ok (.return_, 1) := by decide +kernel
theorem dX2_exchange_0 : decode cX2_exchange 0 = .ok (.aload_n 0, 1) := by decide +kernel
theorem dX2_exchange_1 : decode cX2_exchange 1 = .ok (.aload_n 0, 1) := by decide +kernel
theorem dX2_exchange_2 : decode cX2_exchange 2 = .ok (.getfield 9, 3) := by decide +kernel
theorem dX2_exchange_5 : decode cX2_exchange 5 = .ok (.invokestatic 46, 3) := by decide +kernel
theorem dX2_exchange_8 : decode cX2_exchange 8 = .ok (.aload_n 0, 1) := by decide +kernel
theorem dX2_exchange_9 : decode cX2_exchange 9 = .ok (.getfield 15, 3) := by decide +kernel
theorem dX2_exchange_12 : decode cX2_exchange 12 = .ok (.invokestatic 46, 3) := by decide +kernel
theorem dX2_exchange_15 : decode cX2_exchange 15 = .ok (.invokevirtual 38, 3) := by decide +kernel
theorem dX2_exchange_18 : decode cX2_exchange 18 = .ok (.return_, 1) := by decide +kernel
theorem dX2_cancelEnds_0 : decode cX2_cancelEnds 0 = .ok (.aload_n 0, 1) := by decide +kernel
theorem dX2_cancelEnds_1 : decode cX2_cancelEnds 1 = .ok (.invokevirtual 49, 3) := by decide +kernel
theorem dX2_cancelEnds_4 : decode cX2_cancelEnds 4 = .ok (.istore_n 1, 1) := by decide +kernel
theorem dX2_cancelEnds_5 : decode cX2_cancelEnds 5 = .ok (.aload_n 0, 1) := by decide +kernel
theorem dX2_cancelEnds_6 : decode cX2_cancelEnds 6 = .ok (.invokevirtual 53, 3) := by decide +kernel
theorem dX2_cancelEnds_9 : decode cX2_cancelEnds 9 = .ok (.iload_n 1, 1) := by decide +kernel
theorem dX2_cancelEnds_10 : decode cX2_cancelEnds 10 = .ok (.aload_n 0, 1) := by decide +kernel
theorem dX2_cancelEnds_11 : decode cX2_cancelEnds 11 = .ok (.invokevirtual 49, 3) := by decide +kernel
theorem dX2_cancelEnds_14 : decode cX2_cancelEnds 14 = .ok (.iadd, 1) := by decide +kernel
theorem dX2_cancelEnds_15 : decode cX2_cancelEnds 15 = .ok (.istore_n 1, 1) := by decide +kernel
theorem dX2_cancelEnds_16 : decode cX2_cancelEnds 16 = .ok (.aload_n 0, 1) := by decide +kernel
theorem dX2_cancelEnds_17 : decode cX2_cancelEnds 17 = .ok (.invokevirtual 53, 3) := by decide +kernel
theorem dX2_cancelEnds_20 : decode cX2_cancelEnds 20 = .ok (.iload_n 1, 1) := by decide +kernel
theorem dX2_cancelEnds_21 : decode cX2_cancelEnds 21 = .ok (.ireturn, 1) := by decide +kernel
theorem dX2_cancelHeads_0 : decode cX2_cancelHeads 0 = .ok (.iconst 0, 1) := by decide +kernel
theorem dX2_cancelHeads_1 : decode cX2_cancelHeads 1 = .ok (.istore_n 1, 1) := by decide +kernel
theorem dX2_cancelHeads_2 : decode cX2_cancelHeads 2 = .ok (.iload_n 1, 1) := by decide +kernel
theorem dX2_cancelHeads_3 : decode cX2_cancelHeads 3 = .ok (.bipush 12, 2) := by decide +kernel
theorem dX2_cancelHeads_5 : decode cX2_cancelHeads 5 = .ok (.if_icmp .ge 53, 3) := by decide +kernel
theorem dX2_cancelHeads_8 : decode cX2_cancelHeads 8 = .ok (.aload_n 0, 1) := by decide +kernel
theorem dX2_cancelHeads_9 : decode cX2_cancelHeads 9 = .ok (.getfield 9, 3) := by decide +kernel
theorem dX2_cancelHeads_12 : decode cX2_cancelHeads 12 = .ok (.lconst 0, 1) := by decide +kernel
theorem dX2_cancelHeads_13 : decode cX2_cancelHeads 13 = .ok (.lcmp, 1) := by decide +kernel
theorem dX2_cancelHeads_14 : decode cX2_cancelHeads 14 = .ok (.ifCond .eq 44, 3) := by decide +kernel
theorem dX2_cancelHeads_17 : decode cX2_cancelHeads 17 = .ok (.aload_n 0, 1) := by decide +kernel
theorem dX2_cancelHeads_18 : decode cX2_cancelHeads 18 = .ok (.getfield 9, 3) := by decide +kernel
theorem dX2_cancelHeads_21 : decode cX2_cancelHeads 21 = .ok (.invokestatic 56, 3) := by decide +kernel
theorem dX2_cancelHeads_24 : decode cX2_cancelHeads 24 = .ok (.aload_n 0, 1) := by decide +kernel
theorem dX2_cancelHeads_25 : decode cX2_cancelHeads 25 = .ok (.getfield 15, 3) := by decide +kernel
theorem dX2_cancelHeads_28 : decode cX2_cancelHeads 28 = .ok (.invokestatic 56, 3) := by decide +kernel
theorem dX2_cancelHeads_31 : decode cX2_cancelHeads 31 = .ok (.if_icmp .ne 27, 3) := by decide +kernel
theorem dX2_cancelHeads_34 : decode cX2_cancelHeads 34 = .ok (.aload_n 0, 1) := by decide +kernel
theorem dX2_cancelHeads_35 : decode cX2_cancelHeads 35 = .ok (.aload_n 0, 1) := by decide +kernel
theorem dX2_cancelHeads_36 : decode cX2_cancelHeads 36 = .ok (.getfield 9, 3) := by decide +kernel
theorem dX2_cancelHeads_39 : decode cX2_cancelHeads 39 = .ok (.invokestatic 59, 3) := by decide +kernel
theorem dX2_cancelHeads_42 : decode cX2_cancelHeads 42 = .ok (.aload_n 0, 1) := by decide +kernel
theorem dX2_cancelHeads_43 : decode cX2_cancelHeads 43 = .ok (.getfield 15, 3) := by decide +kernel
theorem dX2_cancelHeads_46 : decode cX2_cancelHeads 46 = .ok (.invokestatic 59, 3) := by decide +kernel
theorem dX2_cancelHeads_49 : decode cX2_cancelHeads 49 = .ok (.invokevirtual 38, 3) := by decide +kernel
theorem dX2_cancelHeads_52 : decode cX2_cancelHeads 52 = .ok (.iinc 1 1, 3) := by decide +kernel
theorem dX2_cancelHeads_55 : decode cX2_cancelHeads 55 = .ok (.goto (-53), 3) := by decide +kernel
theorem dX2_cancelHeads_58 : decode cX2_cancelHeads 58 = .ok (.iload_n 1, 1) := by decide +kernel
theorem dX2_cancelHeads_59 : decode cX2_cancelHeads 59 = .ok (.ireturn, 1) := by decide +kernel
theorem dX2_replace_0 : decode cX2_replace 0 = .ok (.aload_n 0, 1) := by decide +kernel
theorem dX2_replace_1 : decode cX2_replace 1 = .ok (.iload_n 1, 1) := by decide +kernel
theorem dX2_replace_2 : decode cX2_replace 2 = .ok (.invokevirtual 62, 3) := by decide +kernel
theorem dX2_replace_5 : decode cX2_replace 5 = .ok (.istore 4, 2) := by decide +kernel
theorem dX2_replace_7 : decode cX2_replace 7 = .ok (.aload_n 0, 1) := by decide +kernel
theorem dX2_replace_8 : decode cX2_replace 8 = .ok (.aload_n 0, 1) := by decide +kernel
theorem dX2_replace_9 : decode cX2_replace 9 = .ok (.getfield 9, 3) := by decide +kernel
theorem dX2_replace_12 : decode cX2_replace 12 = .ok (.iload_n 1, 1) := by decide +kernel
theorem dX2_replace_13 : decode cX2_replace 13 = .ok (.lload_n 2, 1) := by decide +kernel
theorem dX2_replace_14 : decode cX2_replace 14 = .ok (.invokestatic 66, 3) := by decide +kernel
theorem dX2_replace_17 : decode cX2_replace 17 = .ok (.aload_n 0, 1) := by decide +kernel
theorem dX2_replace_18 : decode cX2_replace 18 = .ok (.getfield 15, 3) := by decide +kernel
theorem dX2_replace_21 : decode cX2_replace 21 = .ok (.iload_n 1, 1) := by decide +kernel
theorem dX2_replace_22 : decode cX2_replace 22 = .ok (.lload_n 2, 1) := by decide +kernel
theorem dX2_replace_23 : decode cX2_replace 23 = .ok (.invokestatic 66, 3) := by decide +kernel
theorem dX2_replace_26 : decode cX2_replace 26 = .ok (.invokevirtual 38, 3) := by decide +kernel
theorem dX2_replace_29 : decode cX2_replace 29 = .ok (.iload 4, 2) := by decide +kernel
theorem dX2_replace_31 : decode cX2_replace 31 = .ok (.ireturn, 1) := by decide +kernel
theorem dX3_init_0 : decode cX3_init 0 = .ok (.aload_n 0, 1) := by decide +kernel
theorem dX3_init_1 : decode cX3_init 1 = .ok (.invokespecial 3, 3) := by decide +kernel
theorem dX3_init_4 : decode cX3_init 4 = .ok (.aload_n 0, 1) := by decide +kernel
theorem dX3_init_5 : decode cX3_init 5 = .ok (.bipush 40, 2) := by decide +kernel
theorem dX3_init_7 : decode cX3_init 7 = .ok (.newarray .char, 2) := by decide +kernel
theorem dX3_init_9 : decode cX3_init 9 = .ok (.putfield 11, 3) := by decide +kernel
theorem dX3_init_12 : decode cX3_init 12 = .ok (.return_, 1) := by decide +kernel
theorem dX3_size_0 : decode cX3_size 0 = .ok (.aload_n 0, 1) := by decide +kernel
theorem dX3_size_1 : decode cX3_size 1 = .ok (.getfield 15, 3) := by decide +kernel
theorem dX3_size_4 : decode cX3_size 4 = .ok (.ireturn, 1) := by decide +kernel
theorem dX3_empty_0 : decode cX3_empty 0 = .ok (.aload_n 0, 1) := by decide +kernel
theorem dX3_empty_1 : decode cX3_empty 1 = .ok (.iconst 0, 1) := by decide +kernel
theorem dX3_empty_2 : decode cX3_empty 2 = .ok (.putfield 15, 3) := by decide +kernel
theorem dX3_empty_5 : decode cX3_empty 5 = .ok (.return_, 1) := by decide +kernel
theorem dX3_add_0 : decode cX3_add 0 = .ok (.aload_n 0, 1) := by decide +kernel
theorem dX3_add_1 : decode cX3_add 1 = .ok (.getfield 15, 3) := by decide +kernel
theorem dX3_add_4 : decode cX3_add 4 = .ok (.ifCond .lt 12, 3) := by decide +kernel
theorem dX3_add_7 : decode cX3_add 7 = .ok (.aload_n 0, 1) := by decide +kernel
theorem dX3_add_8 : decode cX3_add 8 = .ok (.getfield 15, 3) := by decide +kernel
theorem dX3_add_11 : decode cX3_add 11 = .ok (.bipush 40, 2) := by decide +kernel
theorem dX3_add_13 : decode cX3_add 13 = .ok (.if_icmp .lt 5, 3) := by decide +kernel
theorem dX3_add_16 : decode cX3_add 16 = .ok (.iconst 0, 1) := by decide +kernel
theorem dX3_add_17 : decode cX3_add 17 = .ok (.ireturn, 1) := by decide +kernel
theorem dX3_add_18 : decode cX3_add 18 = .ok (.aload_n 0, 1) := by decide +kernel
theorem dX3_add_19 : decode cX3_add 19 = .ok (.getfield 11, 3) := by decide +kernel
theorem dX3_add_22 : decode cX3_add 22 = .ok (.aload_n 0, 1) := by decide +kernel
theorem dX3_add_23 : decode cX3_add 23 = .ok (.getfield 15, 3) := by decide +kernel
theorem dX3_add_26 : decode cX3_add 26 = .ok (.iload_n 1, 1) := by decide +kernel
theorem dX3_add_27 : decode cX3_add 27 = .ok (.castore, 1) := by decide +kernel
theorem dX3_add_28 : decode cX3_add 28 = .ok (.aload_n 0, 1) := by decide +kernel
theorem dX3_add_29 : decode cX3_add 29 = .ok (.dup, 1) := by decide +kernel
theorem dX3_add_30 : decode cX3_add 30 = .ok (.getfield 15, 3) := by decide +kernel
theorem dX3_add_33 : decode cX3_add 33 = .ok (.iconst 1, 1) := by decide +kernel
theorem dX3_add_34 : decode cX3_add 34 = .ok (.iadd, 1) := by decide +kernel
theorem dX3_add_35 : decode cX3_add 35 = .ok (.putfield 15, 3) := by decide +kernel
theorem dX3_add_38 : decode cX3_add 38 = .ok (.iconst 1, 1) := by decide +kernel
theorem dX3_add_39 : decode cX3_add 39 = .ok (.ireturn, 1) := by decide +kernel
theorem dX3_at_0 : decode cX3_at 0 = .ok (.iload_n 1, 1) := by decide +kernel
theorem dX3_at_1 : decode cX3_at 1 = .ok (.ifCond .lt 17, 3) := by decide +kernel
theorem dX3_at_4 : decode cX3_at 4 = .ok (.iload_n 1, 1) := by decide +kernel
theorem dX3_at_5 : decode cX3_at 5 = .ok (.aload_n 0, 1) := by decide +kernel
theorem dX3_at_6 : decode cX3_at 6 = .ok (.getfield 15, 3) := by decide +kernel
theorem dX3_at_9 : decode cX3_at 9 = .ok (.if_icmp .ge 9, 3) := by decide +kernel
theorem dX3_at_12 : decode cX3_at 12 = .ok (.iload_n 1, 1) := by decide +kernel
theorem dX3_at_13 : decode cX3_at 13 = .ok (.bipush 40, 2) := by decide +kernel
theorem dX3_at_15 : decode cX3_at 15 = .ok (.if_icmp .lt 7, 3) := by decide +kernel
theorem dX3_at_18 : decode cX3_at 18 = .ok (.iconst 0, 1) := by decide +kernel
theorem dX3_at_19 : decode cX3_at 19 = .ok (.goto 9, 3) := by decide +kernel
theorem dX3_at_22 : decode cX3_at 22 = .ok (.aload_n 0, 1) := by decide +kernel
theorem dX3_at_23 : decode cX3_at 23 = .ok (.getfield 11, 3) := by decide +kernel
theorem dX3_at_26 : decode cX3_at 26 = .ok (.iload_n 1, 1) := by decide +kernel
theorem dX3_at_27 : decode cX3_at 27 = .ok (.caload, 1) := by decide +kernel
theorem dX3_at_28 : decode cX3_at 28 = .ok (.ireturn, 1) := by decide +kernel
theorem dX3_hasOnlySymbols_0 : decode cX3_hasOnlySymbols 0 = .ok (.iconst 0, 1) := by decide +kernel
theorem dX3_hasOnlySymbols_1 : decode cX3_hasOnlySymbols 1 = .ok (.istore_n 1, 1) := by decide +kernel
theorem dX3_hasOnlySymbols_2 : decode cX3_hasOnlySymbols 2 = .ok (.iload_n 1, 1) := by decide +kernel
theorem dX3_hasOnlySymbols_3 : decode cX3_hasOnlySymbols 3 = .ok (.aload_n 0, 1) := by decide +kernel
theorem dX3_hasOnlySymbols_4 : decode cX3_hasOnlySymbols 4 = .ok (.getfield 15, 3) := by decide +kernel
theorem dX3_hasOnlySymbols_7 : decode cX3_hasOnlySymbols 7 = .ok (.if_icmp .ge 22, 3) := by decide +kernel
theorem dX3_hasOnlySymbols_10 : decode cX3_hasOnlySymbols 10 = .ok (.aload_n 0, 1) := by decide +kernel
theorem dX3_hasOnlySymbols_11 : decode cX3_hasOnlySymbols 11 = .ok (.iload_n 1, 1) := by decide +kernel
theorem dX3_hasOnlySymbols_12 : decode cX3_hasOnlySymbols 12 = .ok (.invokevirtual 19, 3) := by decide +kernel
theorem dX3_hasOnlySymbols_15 : decode cX3_hasOnlySymbols 15 = .ok (.invokestatic 23, 3) := by decide +kernel
theorem dX3_hasOnlySymbols_18 : decode cX3_hasOnlySymbols 18 = .ok (.ifCond .ne 5, 3) := by decide +kernel
theorem dX3_hasOnlySymbols_21 : decode cX3_hasOnlySymbols 21 = .ok (.iconst 0, 1) := by decide +kernel
theorem dX3_hasOnlySymbols_22 : decode cX3_hasOnlySymbols 22 = .ok (.ireturn, 1) := by decide +kernel
theorem dX3_hasOnlySymbols_23 : decode cX3_hasOnlySymbols 23 = .ok (.iinc 1 1, 3) := by decide +kernel
theorem dX3_hasOnlySymbols_26 : decode cX3_hasOnlySymbols 26 = .ok (.goto (-24), 3) := by decide +kernel
theorem dX3_hasOnlySymbols_29 : decode cX3_hasOnlySymbols 29 = .ok (.iconst 1, 1) := by decide +kernel
theorem dX3_hasOnlySymbols_30 : decode cX3_hasOnlySymbols 30 = .ok (.ireturn, 1) := by decide +kernel
theorem dX3_packed_0 : decode cX3_packed 0 = .ok (.lconst 0, 1) := by decide +kernel
theorem dX3_packed_1 : decode cX3_packed 1 = .ok (.lstore_n 3, 1) := by decide +kernel
theorem dX3_packed_2 : decode cX3_packed 2 = .ok (.iconst 0, 1) := by decide +kernel
theorem dX3_packed_3 : decode cX3_packed 3 = .ok (.istore 5, 2) := by decide +kernel
theorem dX3_packed_5 : decode cX3_packed 5 = .ok (.iload 5, 2) := by decide +kernel
theorem dX3_packed_7 : decode cX3_packed 7 = .ok (.bipush 12, 2) := by decide +kernel
theorem dX3_packed_9 : decode cX3_packed 9 = .ok (.if_icmp .ge 36, 3) := by decide +kernel
theorem dX3_packed_12 : decode cX3_packed 12 = .ok (.iload_n 1, 1) := by decide +kernel
theorem dX3_packed_13 : decode cX3_packed 13 = .ok (.iload 5, 2) := by decide +kernel
theorem dX3_packed_15 : decode cX3_packed 15 = .ok (.iadd, 1) := by decide +kernel
theorem dX3_packed_16 : decode cX3_packed 16 = .ok (.iload_n 2, 1) := by decide +kernel
theorem dX3_packed_17 : decode cX3_packed 17 = .ok (.if_icmp .ge 28, 3) := by decide +kernel
theorem dX3_packed_20 : decode cX3_packed 20 = .ok (.lload_n 3, 1) := by decide +kernel
theorem dX3_packed_21 : decode cX3_packed 21 = .ok (.aload_n 0, 1) := by decide +kernel
theorem dX3_packed_22 : decode cX3_packed 22 = .ok (.iload_n 1, 1) := by decide +kernel
theorem dX3_packed_23 : decode cX3_packed 23 = .ok (.iload 5, 2) := by decide +kernel
theorem dX3_packed_25 : decode cX3_packed 25 = .ok (.iadd, 1) := by decide +kernel
theorem dX3_packed_26 : decode cX3_packed 26 = .ok (.invokevirtual 19, 3) := by decide +kernel
theorem dX3_packed_29 : decode cX3_packed 29 = .ok (.invokestatic 23, 3) := by decide +kernel
theorem dX3_packed_32 : decode cX3_packed 32 = .ok (.iload 5, 2) := by decide +kernel
theorem dX3_packed_34 : decode cX3_packed 34 = .ok (.invokestatic 29, 3) := by decide +kernel
theorem dX3_packed_37 : decode cX3_packed 37 = .ok (.lor, 1) := by decide +kernel
theorem dX3_packed_38 : decode cX3_packed 38 = .ok (.lstore_n 3, 1) := by decide +kernel
theorem dX3_packed_39 : decode cX3_packed 39 = .ok (.iinc 5 1, 3) := by decide +kernel
theorem dX3_packed_42 : decode cX3_packed 42 = .ok (.goto (-37), 3) := by decide +kernel
theorem dX3_packed_45 : decode cX3_packed 45 = .ok (.lload_n 3, 1) := by decide +kernel
theorem dX3_packed_46 : decode cX3_packed 46 = .ok (.lreturn, 1) := by decide +kernel
theorem dX3_firstError_0 : decode cX3_firstError 0 = .ok (.aload_n 0, 1) := by decide +kernel
theorem dX3_firstError_1 : decode cX3_firstError 1 = .ok (.iconst 0, 1) := by decide +kernel
theorem dX3_firstError_2 : decode cX3_firstError 2 = .ok (.invokevirtual 33, 3) := by decide +kernel
theorem dX3_firstError_5 : decode cX3_firstError 5 = .ok (.istore_n 1, 1) := by decide +kernel
theorem dX3_firstError_6 : decode cX3_firstError 6 = .ok (.aload_n 0, 1) := by decide +kernel
theorem dX3_firstError_7 : decode cX3_firstError 7 = .ok (.iload_n 1, 1) := by decide +kernel
theorem dX3_firstError_8 : decode cX3_firstError 8 = .ok (.invokevirtual 19, 3) := by decide +kernel
theorem dX3_firstError_11 : decode cX3_firstError 11 = .ok (.bipush 61, 2) := by decide +kernel
theorem dX3_firstError_13 : decode cX3_firstError 13 = .ok (.if_icmp .eq 5, 3) := by decide +kernel
theorem dX3_firstError_16 : decode cX3_firstError 16 = .ok (.iload_n 1, 1) := by decide +kernel
theorem dX3_firstError_17 : decode cX3_firstError 17 = .ok (.ireturn, 1) := by decide +kernel
theorem dX3_firstError_18 : decode cX3_firstError 18 = .ok (.aload_n 0, 1) := by decide +kernel
theorem dX3_firstError_19 : decode cX3_firstError 19 = .ok (.iload_n 1, 1) := by decide +kernel
theorem dX3_firstError_20 : decode cX3_firstError 20 = .ok (.iconst 1, 1) := by decide +kernel
theorem dX3_firstError_21 : decode cX3_firstError 21 = .ok (.iadd, 1) := by decide +kernel
theorem dX3_firstError_22 : decode cX3_firstError 22 = .ok (.invokevirtual 33, 3) := by decide +kernel
theorem dX3_firstError_25 : decode cX3_firstError 25 = .ok (.istore_n 2, 1) := by decide +kernel
theorem dX3_firstError_26 : decode cX3_firstError 26 = .ok (.iconst 0, 1) := by decide +kernel
theorem dX3_firstError_27 : decode cX3_firstError 27 = .ok (.istore_n 3, 1) := by decide +kernel
theorem dX3_firstError_28 : decode cX3_firstError 28 = .ok (.iload_n 3, 1) := by decide +kernel
theorem dX3_firstError_29 : decode cX3_firstError 29 = .ok (.iconst 4, 1) := by decide +kernel
theorem dX3_firstError_30 : decode cX3_firstError 30 = .ok (.if_icmp .ge 50, 3) := by decide +kernel
theorem dX3_firstError_33 : decode cX3_firstError 33 = .ok (.iload_n 2, 1) := by decide +kernel
theorem dX3_firstError_34 : decode cX3_firstError 34 = .ok (.aload_n 0, 1) := by decide +kernel
theorem dX3_firstError_35 : decode cX3_firstError 35 = .ok (.getfield 15, 3) := by decide +kernel
theorem dX3_firstError_38 : decode cX3_firstError 38 = .ok (.if_icmp .ge 42, 3) := by decide +kernel
theorem dX3_firstError_41 : decode cX3_firstError 41 = .ok (.iconst 0, 1) := by decide +kernel
theorem dX3_firstError_42 : decode cX3_firstError 42 = .ok (.istore 4, 2) := by decide +kernel
theorem dX3_firstError_44 : decode cX3_firstError 44 = .ok (.iload 4, 2) := by decide +kernel
theorem dX3_firstError_46 : decode cX3_firstError 46 = .ok (.iconst 4, 1) := by decide +kernel
theorem dX3_firstError_47 : decode cX3_firstError 47 = .ok (.if_icmp .ge 27, 3) := by decide +kernel
theorem dX3_firstError_50 : decode cX3_firstError 50 = .ok (.iload 4, 2) := by decide +kernel
theorem dX3_firstError_52 : decode cX3_firstError 52 = .ok (.aload_n 0, 1) := by decide +kernel
theorem dX3_firstError_53 : decode cX3_firstError 53 = .ok (.iload_n 2, 1) := by decide +kernel
theorem dX3_firstError_54 : decode cX3_firstError 54 = .ok (.invokevirtual 19, 3) := by decide +kernel
theorem dX3_firstError_57 : decode cX3_firstError 57 = .ok (.invokestatic 39, 3) := by decide +kernel
theorem dX3_firstError_60 : decode cX3_firstError 60 = .ok (.ifCond .ne 5, 3) := by decide +kernel
theorem dX3_firstError_63 : decode cX3_firstError 63 = .ok (.iload_n 2, 1) := by decide +kernel
theorem dX3_firstError_64 : decode cX3_firstError 64 = .ok (.ireturn, 1) := by decide +kernel
theorem dX3_firstError_65 : decode cX3_firstError 65 = .ok (.iinc 2 1, 3) := by decide +kernel
theorem dX3_firstError_68 : decode cX3_firstError 68 = .ok (.iinc 4 1, 3) := by decide +kernel
theorem dX3_firstError_71 : decode cX3_firstError 71 = .ok (.goto (-27), 3) := by decide +kernel
theorem dX3_firstError_74 : decode cX3_firstError 74 = .ok (.iinc 3 1, 3) := by decide +kernel
theorem dX3_firstError_77 : decode cX3_firstError 77 = .ok (.goto (-49), 3) := by decide +kernel
theorem dX3_firstError_80 : decode cX3_firstError 80 = .ok (.iload_n 2, 1) := by decide +kernel
theorem dX3_firstError_81 : decode cX3_firstError 81 = .ok (.aload_n 0, 1) := by decide +kernel
theorem dX3_firstError_82 : decode cX3_firstError 82 = .ok (.getfield 15, 3) := by decide +kernel
theorem dX3_firstError_85 : decode cX3_firstError 85 = .ok (.if_icmp .ne 8, 3) := by decide +kernel
theorem dX3_firstError_88 : decode cX3_firstError 88 = .ok (.bipush (-9), 2) := by decide +kernel
theorem dX3_firstError_90 : decode cX3_firstError 90 = .ok (.goto 4, 3) := by decide +kernel
theorem dX3_firstError_93 : decode cX3_firstError 93 = .ok (.iload_n 2, 1) := by decide +kernel
theorem dX3_firstError_94 : decode cX3_firstError 94 = .ok (.ireturn, 1) := by decide +kernel
theorem dX3_endOfSide_0 : decode cX3_endOfSide 0 = .ok (.iload_n 1, 1) := by decide +kernel
theorem dX3_endOfSide_1 : decode cX3_endOfSide 1 = .ok (.istore_n 2, 1) := by decide +kernel
theorem dX3_endOfSide_2 : decode cX3_endOfSide 2 = .ok (.iload_n 2, 1) := by decide +kernel
theorem dX3_endOfSide_3 : decode cX3_endOfSide 3 = .ok (.iload_n 1, 1) := by decide +kernel
theorem dX3_endOfSide_4 : decode cX3_endOfSide 4 = .ok (.bipush 8, 2) := by decide +kernel
theorem dX3_endOfSide_6 : decode cX3_endOfSide 6 = .ok (.iadd, 1) := by decide +kernel
theorem dX3_endOfSide_7 : decode cX3_endOfSide 7 = .ok (.if_icmp .ge 20, 3) := by decide +kernel
theorem dX3_endOfSide_10 : decode cX3_endOfSide 10 = .ok (.aload_n 0, 1) := by decide +kernel
theorem dX3_endOfSide_11 : decode cX3_endOfSide 11 = .ok (.iload_n 2, 1) := by decide +kernel
theorem dX3_endOfSide_12 : decode cX3_endOfSide 12 = .ok (.invokevirtual 19, 3) := by decide +kernel
theorem dX3_endOfSide_15 : decode cX3_endOfSide 15 = .ok (.invokestatic 23, 3) := by decide +kernel
theorem dX3_endOfSide_18 : decode cX3_endOfSide 18 = .ok (.ifCond .eq 9, 3) := by decide +kernel
theorem dX3_endOfSide_21 : decode cX3_endOfSide 21 = .ok (.iinc 2 1, 3) := by decide +kernel
theorem dX3_endOfSide_24 : decode cX3_endOfSide 24 = .ok (.goto (-22), 3) := by decide +kernel
theorem dX3_endOfSide_27 : decode cX3_endOfSide 27 = .ok (.iload_n 2, 1) := by decide +kernel
theorem dX3_endOfSide_28 : decode cX3_endOfSide 28 = .ok (.ireturn, 1) := by decide +kernel
theorem dX3_fits_0 : decode cX3_fits 0 = .ok (.iload_n 0, 1) := by decide +kernel
theorem dX3_fits_1 : decode cX3_fits 1 = .ok (.tableswitch 71 0 2 #[27, 39, 47], 27) := by decide +kernel
theorem dX3_fits_28 : decode cX3_fits 28 = .ok (.iload_n 1, 1) := by decide +kernel
theorem dX3_fits_29 : decode cX3_fits 29 = .ok (.bipush 59, 2) := by decide +kernel
theorem dX3_fits_31 : decode cX3_fits 31 = .ok (.if_icmp .ne 7, 3) := by decide +kernel
theorem dX3_fits_34 : decode cX3_fits 34 = .ok (.iconst 1, 1) := by decide +kernel
theorem dX3_fits_35 : decode cX3_fits 35 = .ok (.goto 4, 3) := by decide +kernel
theorem dX3_fits_38 : decode cX3_fits 38 = .ok (.iconst 0, 1) := by decide +kernel
theorem dX3_fits_39 : decode cX3_fits 39 = .ok (.ireturn, 1) := by decide +kernel
theorem dX3_fits_40 : decode cX3_fits 40 = .ok (.iload_n 1, 1) := by decide +kernel
theorem dX3_fits_41 : decode cX3_fits 41 = .ok (.invokestatic 23, 3) := by decide +kernel
theorem dX3_fits_44 : decode cX3_fits 44 = .ok (.invokestatic 43, 3) := by decide +kernel
theorem dX3_fits_47 : decode cX3_fits 47 = .ok (.ireturn, 1) := by decide +kernel
theorem dX3_fits_48 : decode cX3_fits 48 = .ok (.iload_n 1, 1) := by decide +kernel
theorem dX3_fits_49 : decode cX3_fits 49 = .ok (.bipush 60, 2) := by decide +kernel
theorem dX3_fits_51 : decode cX3_fits 51 = .ok (.if_icmp .eq 15, 3) := by decide +kernel
theorem dX3_fits_54 : decode cX3_fits 54 = .ok (.iload_n 1, 1) := by decide +kernel
theorem dX3_fits_55 : decode cX3_fits 55 = .ok (.bipush 61, 2) := by decide +kernel
theorem dX3_fits_57 : decode cX3_fits 57 = .ok (.if_icmp .eq 9, 3) := by decide +kernel
theorem dX3_fits_60 : decode cX3_fits 60 = .ok (.iload_n 1, 1) := by decide +kernel
theorem dX3_fits_61 : decode cX3_fits 61 = .ok (.bipush 62, 2) := by decide +kernel
theorem dX3_fits_63 : decode cX3_fits 63 = .ok (.if_icmp .ne 7, 3) := by decide +kernel
theorem dX3_fits_66 : decode cX3_fits 66 = .ok (.iconst 1, 1) := by decide +kernel
theorem dX3_fits_67 : decode cX3_fits 67 = .ok (.goto 4, 3) := by decide +kernel
theorem dX3_fits_70 : decode cX3_fits 70 = .ok (.iconst 0, 1) := by decide +kernel
theorem dX3_fits_71 : decode cX3_fits 71 = .ok (.ireturn, 1) := by decide +kernel
theorem dX3_fits_72 : decode cX3_fits 72 = .ok (.iload_n 1, 1) := by decide +kernel
theorem dX3_fits_73 : decode cX3_fits 73 = .ok (.bipush 48, 2) := by decide +kernel
theorem dX3_fits_75 : decode cX3_fits 75 = .ok (.if_icmp .lt 13, 3) := by decide +kernel
theorem dX3_fits_78 : decode cX3_fits 78 = .ok (.iload_n 1, 1) := by decide +kernel
theorem dX3_fits_79 : decode cX3_fits 79 = .ok (.bipush 57, 2) := by decide +kernel
theorem dX3_fits_81 : decode cX3_fits 81 = .ok (.if_icmp .gt 7, 3) := by decide +kernel
theorem dX3_fits_84 : decode cX3_fits 84 = .ok (.iconst 1, 1) := by decide +kernel
theorem dX3_fits_85 : decode cX3_fits 85 = .ok (.goto 4, 3) := by decide +kernel
theorem dX3_fits_88 : decode cX3_fits 88 = .ok (.iconst 0, 1) := by decide +kernel
theorem dX3_fits_89 : decode cX3_fits 89 = .ok (.ireturn, 1) := by decide +kernel
theorem dX3_readEquation_0 : decode cX3_readEquation 0 = .ok (.aload_n 0, 1) := by decide +kernel
theorem dX3_readEquation_1 : decode cX3_readEquation 1 = .ok (.iconst 0, 1) := by decide +kernel
theorem dX3_readEquation_2 : decode cX3_readEquation 2 = .ok (.invokevirtual 33, 3) := by decide +kernel
theorem dX3_readEquation_5 : decode cX3_readEquation 5 = .ok (.istore_n 2, 1) := by decide +kernel
theorem dX3_readEquation_6 : decode cX3_readEquation 6 = .ok (.aload_n 1, 1) := by decide +kernel
theorem dX3_readEquation_7 : decode cX3_readEquation 7 = .ok (.aload_n 0, 1) := by decide +kernel
theorem dX3_readEquation_8 : decode cX3_readEquation 8 = .ok (.iconst 0, 1) := by decide +kernel
theorem dX3_readEquation_9 : decode cX3_readEquation 9 = .ok (.iload_n 2, 1) := by decide +kernel
theorem dX3_readEquation_10 : decode cX3_readEquation 10 = .ok (.invokevirtual 47, 3) := by decide +kernel
theorem dX3_readEquation_13 : decode cX3_readEquation 13 = .ok (.aload_n 0, 1) := by decide +kernel
theorem dX3_readEquation_14 : decode cX3_readEquation 14 = .ok (.iload_n 2, 1) := by decide +kernel
theorem dX3_readEquation_15 : decode cX3_readEquation 15 = .ok (.iconst 1, 1) := by decide +kernel
theorem dX3_readEquation_16 : decode cX3_readEquation 16 = .ok (.iadd, 1) := by decide +kernel
theorem dX3_readEquation_17 : decode cX3_readEquation 17 = .ok (.aload_n 0, 1) := by decide +kernel
theorem dX3_readEquation_18 : decode cX3_readEquation 18 = .ok (.iload_n 2, 1) := by decide +kernel
theorem dX3_readEquation_19 : decode cX3_readEquation 19 = .ok (.iconst 1, 1) := by decide +kernel
theorem dX3_readEquation_20 : decode cX3_readEquation 20 = .ok (.iadd, 1) := by decide +kernel
theorem dX3_readEquation_21 : decode cX3_readEquation 21 = .ok (.invokevirtual 33, 3) := by decide +kernel
theorem dX3_readEquation_24 : decode cX3_readEquation 24 = .ok (.invokevirtual 47, 3) := by decide +kernel
theorem dX3_readEquation_27 : decode cX3_readEquation 27 = .ok (.invokevirtual 50, 3) := by decide +kernel
theorem dX3_readEquation_30 : decode cX3_readEquation 30 = .ok (.return_, 1) := by decide +kernel
theorem dX3_readConstraints_0 : decode cX3_readConstraints 0 = .ok (.aload_n 1, 1) := by decide +kernel
theorem dX3_readConstraints_1 : decode cX3_readConstraints 1 = .ok (.invokevirtual 56, 3) := by decide +kernel
theorem dX3_readConstraints_4 : decode cX3_readConstraints 4 = .ok (.aload_n 0, 1) := by decide +kernel
theorem dX3_readConstraints_5 : decode cX3_readConstraints 5 = .ok (.aload_n 0, 1) := by decide +kernel
theorem dX3_readConstraints_6 : decode cX3_readConstraints 6 = .ok (.iconst 0, 1) := by decide +kernel
theorem dX3_readConstraints_7 : decode cX3_readConstraints 7 = .ok (.invokevirtual 33, 3) := by decide +kernel
theorem dX3_readConstraints_10 : decode cX3_readConstraints 10 = .ok (.iconst 1, 1) := by decide +kernel
theorem dX3_readConstraints_11 : decode cX3_readConstraints 11 = .ok (.iadd, 1) := by decide +kernel
theorem dX3_readConstraints_12 : decode cX3_readConstraints 12 = .ok (.invokevirtual 33, 3) := by decide +kernel
theorem dX3_readConstraints_15 : decode cX3_readConstraints 15 = .ok (.istore_n 2, 1) := by decide +kernel
theorem dX3_readConstraints_16 : decode cX3_readConstraints 16 = .ok (.iconst 0, 1) := by decide +kernel
theorem dX3_readConstraints_17 : decode cX3_readConstraints 17 = .ok (.istore_n 3, 1) := by decide +kernel
theorem dX3_readConstraints_18 : decode cX3_readConstraints 18 = .ok (.iload_n 3, 1) := by decide +kernel
theorem dX3_readConstraints_19 : decode cX3_readConstraints 19 = .ok (.iconst 4, 1) := by decide +kernel
theorem dX3_readConstraints_20 : decode cX3_readConstraints 20 = .ok (.if_icmp .ge 57, 3) := by decide +kernel
theorem dX3_readConstraints_23 : decode cX3_readConstraints 23 = .ok (.iload_n 2, 1) := by decide +kernel
theorem dX3_readConstraints_24 : decode cX3_readConstraints 24 = .ok (.aload_n 0, 1) := by decide +kernel
theorem dX3_readConstraints_25 : decode cX3_readConstraints 25 = .ok (.getfield 15, 3) := by decide +kernel
theorem dX3_readConstraints_28 : decode cX3_readConstraints 28 = .ok (.if_icmp .ge 49, 3) := by decide +kernel
theorem dX3_readConstraints_31 : decode cX3_readConstraints 31 = .ok (.aload_n 0, 1) := by decide +kernel
theorem dX3_readConstraints_32 : decode cX3_readConstraints 32 = .ok (.iload_n 2, 1) := by decide +kernel
theorem dX3_readConstraints_33 : decode cX3_readConstraints 33 = .ok (.iconst 1, 1) := by decide +kernel
theorem dX3_readConstraints_34 : decode cX3_readConstraints 34 = .ok (.iadd, 1) := by decide +kernel
theorem dX3_readConstraints_35 : decode cX3_readConstraints 35 = .ok (.invokevirtual 19, 3) := by decide +kernel
theorem dX3_readConstraints_38 : decode cX3_readConstraints 38 = .ok (.invokestatic 23, 3) := by decide +kernel
theorem dX3_readConstraints_41 : decode cX3_readConstraints 41 = .ok (.iconst 3, 1) := by decide +kernel
theorem dX3_readConstraints_42 : decode cX3_readConstraints 42 = .ok (.isub, 1) := by decide +kernel
theorem dX3_readConstraints_43 : decode cX3_readConstraints 43 = .ok (.istore 4, 2) := by decide +kernel
theorem dX3_readConstraints_45 : decode cX3_readConstraints 45 = .ok (.aload_n 1, 1) := by decide +kernel
theorem dX3_readConstraints_46 : decode cX3_readConstraints 46 = .ok (.iload 4, 2) := by decide +kernel
theorem dX3_readConstraints_48 : decode cX3_readConstraints 48 = .ok (.aload_n 0, 1) := by decide +kernel
theorem dX3_readConstraints_49 : decode cX3_readConstraints 49 = .ok (.iload_n 2, 1) := by decide +kernel
theorem dX3_readConstraints_50 : decode cX3_readConstraints 50 = .ok (.iconst 2, 1) := by decide +kernel
theorem dX3_readConstraints_51 : decode cX3_readConstraints 51 = .ok (.iadd, 1) := by decide +kernel
theorem dX3_readConstraints_52 : decode cX3_readConstraints 52 = .ok (.invokevirtual 19, 3) := by decide +kernel
theorem dX3_readConstraints_55 : decode cX3_readConstraints 55 = .ok (.aload_n 0, 1) := by decide +kernel
theorem dX3_readConstraints_56 : decode cX3_readConstraints 56 = .ok (.iload_n 2, 1) := by decide +kernel
theorem dX3_readConstraints_57 : decode cX3_readConstraints 57 = .ok (.iconst 3, 1) := by decide +kernel
theorem dX3_readConstraints_58 : decode cX3_readConstraints 58 = .ok (.iadd, 1) := by decide +kernel
theorem dX3_readConstraints_59 : decode cX3_readConstraints 59 = .ok (.invokevirtual 19, 3) := by decide +kernel
theorem dX3_readConstraints_62 : decode cX3_readConstraints 62 = .ok (.bipush 48, 2) := by decide +kernel
theorem dX3_readConstraints_64 : decode cX3_readConstraints 64 = .ok (.isub, 1) := by decide +kernel
theorem dX3_readConstraints_65 : decode cX3_readConstraints 65 = .ok (.invokevirtual 59, 3) := by decide +kernel
theorem dX3_readConstraints_68 : decode cX3_readConstraints 68 = .ok (.iinc 2 4, 3) := by decide +kernel
theorem dX3_readConstraints_71 : decode cX3_readConstraints 71 = .ok (.iinc 3 1, 3) := by decide +kernel
theorem dX3_readConstraints_74 : decode cX3_readConstraints 74 = .ok (.goto (-56), 3) := by decide +kernel
theorem dX3_readConstraints_77 : decode cX3_readConstraints 77 = .ok (.return_, 1) := by decide +kernel
theorem dX4_init_0 : decode cX4_init 0 = .ok (.aload_n 0, 1) := by decide +kernel
theorem dX4_init_1 : decode cX4_init 1 = .ok (.invokespecial 1, 3) := by decide +kernel
theorem dX4_init_4 : decode cX4_init 4 = .ok (.aload_n 0, 1) := by decide +kernel
theorem dX4_init_5 : decode cX4_init 5 = .ok (.bipush 14, 2) := by decide +kernel
theorem dX4_init_7 : decode cX4_init 7 = .ok (.newarray .long, 2) := by decide +kernel
theorem dX4_init_9 : decode cX4_init 9 = .ok (.putfield 9, 3) := by decide +kernel
theorem dX4_init_12 : decode cX4_init 12 = .ok (.aload_n 0, 1) := by decide +kernel
theorem dX4_init_13 : decode cX4_init 13 = .ok (.bipush 14, 2) := by decide +kernel
theorem dX4_init_15 : decode cX4_init 15 = .ok (.newarray .long, 2) := by decide +kernel
theorem dX4_init_17 : decode cX4_init 17 = .ok (.putfield 13, 3) := by decide +kernel
theorem dX4_init_20 : decode cX4_init 20 = .ok (.return_, 1) := by decide +kernel
theorem dX4_size_0 : decode cX4_size 0 = .ok (.aload_n 0, 1) := by decide +kernel
theorem dX4_size_1 : decode cX4_size 1 = .ok (.getfield 16, 3) := by decide +kernel
theorem dX4_size_4 : decode cX4_size 4 = .ok (.ireturn, 1) := by decide +kernel
theorem dX4_forget_0 : decode cX4_forget 0 = .ok (.aload_n 0, 1) := by decide +kernel
theorem dX4_forget_1 : decode cX4_forget 1 = .ok (.iconst 0, 1) := by decide +kernel
theorem dX4_forget_2 : decode cX4_forget 2 = .ok (.putfield 16, 3) := by decide +kernel
theorem dX4_forget_5 : decode cX4_forget 5 = .ok (.return_, 1) := by decide +kernel
theorem dX4_remember_0 : decode cX4_remember 0 = .ok (.aload_n 0, 1) := by decide +kernel
theorem dX4_remember_1 : decode cX4_remember 1 = .ok (.getfield 16, 3) := by decide +kernel
theorem dX4_remember_4 : decode cX4_remember 4 = .ok (.ifCond .lt 12, 3) := by decide +kernel
theorem dX4_remember_7 : decode cX4_remember 7 = .ok (.aload_n 0, 1) := by decide +kernel
theorem dX4_remember_8 : decode cX4_remember 8 = .ok (.getfield 16, 3) := by decide +kernel
theorem dX4_remember_11 : decode cX4_remember 11 = .ok (.bipush 14, 2) := by decide +kernel
theorem dX4_remember_13 : decode cX4_remember 13 = .ok (.if_icmp .lt 7, 3) := by decide +kernel
theorem dX4_remember_16 : decode cX4_remember 16 = .ok (.aload_n 0, 1) := by decide +kernel
theorem dX4_remember_17 : decode cX4_remember 17 = .ok (.invokevirtual 20, 3) := by decide +kernel
theorem dX4_remember_20 : decode cX4_remember 20 = .ok (.aload_n 0, 1) := by decide +kernel
theorem dX4_remember_21 : decode cX4_remember 21 = .ok (.getfield 9, 3) := by decide +kernel
theorem dX4_remember_24 : decode cX4_remember 24 = .ok (.aload_n 0, 1) := by decide +kernel
theorem dX4_remember_25 : decode cX4_remember 25 = .ok (.getfield 16, 3) := by decide +kernel
theorem dX4_remember_28 : decode cX4_remember 28 = .ok (.aload_n 1, 1) := by decide +kernel
theorem dX4_remember_29 : decode cX4_remember 29 = .ok (.getfield 23, 3) := by decide +kernel
theorem dX4_remember_32 : decode cX4_remember 32 = .ok (.lastore, 1) := by decide +kernel
theorem dX4_remember_33 : decode cX4_remember 33 = .ok (.aload_n 0, 1) := by decide +kernel
theorem dX4_remember_34 : decode cX4_remember 34 = .ok (.getfield 13, 3) := by decide +kernel
theorem dX4_remember_37 : decode cX4_remember 37 = .ok (.aload_n 0, 1) := by decide +kernel
theorem dX4_remember_38 : decode cX4_remember 38 = .ok (.getfield 16, 3) := by decide +kernel
theorem dX4_remember_41 : decode cX4_remember 41 = .ok (.aload_n 1, 1) := by decide +kernel
theorem dX4_remember_42 : decode cX4_remember 42 = .ok (.getfield 29, 3) := by decide +kernel
theorem dX4_remember_45 : decode cX4_remember 45 = .ok (.lastore, 1) := by decide +kernel
theorem dX4_remember_46 : decode cX4_remember 46 = .ok (.aload_n 0, 1) := by decide +kernel
theorem dX4_remember_47 : decode cX4_remember 47 = .ok (.dup, 1) := by decide +kernel
theorem dX4_remember_48 : decode cX4_remember 48 = .ok (.getfield 16, 3) := by decide +kernel
theorem dX4_remember_51 : decode cX4_remember 51 = .ok (.iconst 1, 1) := by decide +kernel
theorem dX4_remember_52 : decode cX4_remember 52 = .ok (.iadd, 1) := by decide +kernel
theorem dX4_remember_53 : decode cX4_remember 53 = .ok (.putfield 16, 3) := by decide +kernel
theorem dX4_remember_56 : decode cX4_remember 56 = .ok (.return_, 1) := by decide +kernel
theorem dX4_forgetOldest_0 : decode cX4_forgetOldest 0 = .ok (.iconst 1, 1) := by decide +kernel
theorem dX4_forgetOldest_1 : decode cX4_forgetOldest 1 = .ok (.istore_n 1, 1) := by decide +kernel
theorem dX4_forgetOldest_2 : decode cX4_forgetOldest 2 = .ok (.iload_n 1, 1) := by decide +kernel
theorem dX4_forgetOldest_3 : decode cX4_forgetOldest 3 = .ok (.bipush 14, 2) := by decide +kernel
theorem dX4_forgetOldest_5 : decode cX4_forgetOldest 5 = .ok (.if_icmp .ge 37, 3) := by decide +kernel
theorem dX4_forgetOldest_8 : decode cX4_forgetOldest 8 = .ok (.aload_n 0, 1) := by decide +kernel
theorem dX4_forgetOldest_9 : decode cX4_forgetOldest 9 = .ok (.getfield 9, 3) := by decide +kernel
theorem dX4_forgetOldest_12 : decode cX4_forgetOldest 12 = .ok (.iload_n 1, 1) := by decide +kernel
theorem dX4_forgetOldest_13 : decode cX4_forgetOldest 13 = .ok (.iconst 1, 1) := by decide +kernel
theorem dX4_forgetOldest_14 : decode cX4_forgetOldest 14 = .ok (.isub, 1) := by decide +kernel
theorem dX4_forgetOldest_15 : decode cX4_forgetOldest 15 = .ok (.aload_n 0, 1) := by decide +kernel
theorem dX4_forgetOldest_16 : decode cX4_forgetOldest 16 = .ok (.getfield 9, 3) := by decide +kernel
theorem dX4_forgetOldest_19 : decode cX4_forgetOldest 19 = .ok (.iload_n 1, 1) := by decide +kernel
theorem dX4_forgetOldest_20 : decode cX4_forgetOldest 20 = .ok (.laload, 1) := by decide +kernel
theorem dX4_forgetOldest_21 : decode cX4_forgetOldest 21 = .ok (.lastore, 1) := by decide +kernel
theorem dX4_forgetOldest_22 : decode cX4_forgetOldest 22 = .ok (.aload_n 0, 1) := by decide +kernel
theorem dX4_forgetOldest_23 : decode cX4_forgetOldest 23 = .ok (.getfield 13, 3) := by decide +kernel
theorem dX4_forgetOldest_26 : decode cX4_forgetOldest 26 = .ok (.iload_n 1, 1) := by decide +kernel
theorem dX4_forgetOldest_27 : decode cX4_forgetOldest 27 = .ok (.iconst 1, 1) := by decide +kernel
theorem dX4_forgetOldest_28 : decode cX4_forgetOldest 28 = .ok (.isub, 1) := by decide +kernel
theorem dX4_forgetOldest_29 : decode cX4_forgetOldest 29 = .ok (.aload_n 0, 1) := by decide +kernel
theorem dX4_forgetOldest_30 : decode cX4_forgetOldest 30 = .ok (.getfield 13, 3) := by decide +kernel
theorem dX4_forgetOldest_33 : decode cX4_forgetOldest 33 = .ok (.iload_n 1, 1) := by decide +kernel
theorem dX4_forgetOldest_34 : decode cX4_forgetOldest 34 = .ok (.laload, 1) := by decide +kernel
theorem dX4_forgetOldest_35 : decode cX4_forgetOldest 35 = .ok (.lastore, 1) := by decide +kernel
theorem dX4_forgetOldest_36 : decode cX4_forgetOldest 36 = .ok (.iinc 1 1, 3) := by decide +kernel
theorem dX4_forgetOldest_39 : decode cX4_forgetOldest 39 = .ok (.goto (-37), 3) := by decide +kernel
theorem dX4_forgetOldest_42 : decode cX4_forgetOldest 42 = .ok (.aload_n 0, 1) := by decide +kernel
theorem dX4_forgetOldest_43 : decode cX4_forgetOldest 43 = .ok (.bipush 13, 2) := by decide +kernel
theorem dX4_forgetOldest_45 : decode cX4_forgetOldest 45 = .ok (.putfield 16, 3) := by decide +kernel
theorem dX4_forgetOldest_48 : decode cX4_forgetOldest 48 = .ok (.return_, 1) := by decide +kernel
theorem dX4_takeBack_0 : decode cX4_takeBack 0 = .ok (.aload_n 0, 1) := by decide +kernel
theorem dX4_takeBack_1 : decode cX4_takeBack 1 = .ok (.getfield 16, 3) := by decide +kernel
theorem dX4_takeBack_4 : decode cX4_takeBack 4 = .ok (.iconst 1, 1) := by decide +kernel
theorem dX4_takeBack_5 : decode cX4_takeBack 5 = .ok (.if_icmp .lt 12, 3) := by decide +kernel
theorem dX4_takeBack_8 : decode cX4_takeBack 8 = .ok (.aload_n 0, 1) := by decide +kernel
theorem dX4_takeBack_9 : decode cX4_takeBack 9 = .ok (.getfield 16, 3) := by decide +kernel
theorem dX4_takeBack_12 : decode cX4_takeBack 12 = .ok (.bipush 14, 2) := by decide +kernel
theorem dX4_takeBack_14 : decode cX4_takeBack 14 = .ok (.if_icmp .le 4, 3) := by decide +kernel
theorem dX4_takeBack_17 : decode cX4_takeBack 17 = .ok (.return_, 1) := by decide +kernel
theorem dX4_takeBack_18 : decode cX4_takeBack 18 = .ok (.aload_n 0, 1) := by decide +kernel
theorem dX4_takeBack_19 : decode cX4_takeBack 19 = .ok (.dup, 1) := by decide +kernel
theorem dX4_takeBack_20 : decode cX4_takeBack 20 = .ok (.getfield 16, 3) := by decide +kernel
theorem dX4_takeBack_23 : decode cX4_takeBack 23 = .ok (.iconst 1, 1) := by decide +kernel
theorem dX4_takeBack_24 : decode cX4_takeBack 24 = .ok (.isub, 1) := by decide +kernel
theorem dX4_takeBack_25 : decode cX4_takeBack 25 = .ok (.putfield 16, 3) := by decide +kernel
theorem dX4_takeBack_28 : decode cX4_takeBack 28 = .ok (.aload_n 1, 1) := by decide +kernel
theorem dX4_takeBack_29 : decode cX4_takeBack 29 = .ok (.aload_n 0, 1) := by decide +kernel
theorem dX4_takeBack_30 : decode cX4_takeBack 30 = .ok (.getfield 9, 3) := by decide +kernel
theorem dX4_takeBack_33 : decode cX4_takeBack 33 = .ok (.aload_n 0, 1) := by decide +kernel
theorem dX4_takeBack_34 : decode cX4_takeBack 34 = .ok (.getfield 16, 3) := by decide +kernel
theorem dX4_takeBack_37 : decode cX4_takeBack 37 = .ok (.laload, 1) := by decide +kernel
theorem dX4_takeBack_38 : decode cX4_takeBack 38 = .ok (.aload_n 0, 1) := by decide +kernel
theorem dX4_takeBack_39 : decode cX4_takeBack 39 = .ok (.getfield 13, 3) := by decide +kernel
theorem dX4_takeBack_42 : decode cX4_takeBack 42 = .ok (.aload_n 0, 1) := by decide +kernel
theorem dX4_takeBack_43 : decode cX4_takeBack 43 = .ok (.getfield 16, 3) := by decide +kernel
theorem dX4_takeBack_46 : decode cX4_takeBack 46 = .ok (.laload, 1) := by decide +kernel
theorem dX4_takeBack_47 : decode cX4_takeBack 47 = .ok (.invokevirtual 32, 3) := by decide +kernel
theorem dX4_takeBack_50 : decode cX4_takeBack 50 = .ok (.return_, 1) := by decide +kernel
theorem dX5_init_0 : decode cX5_init 0 = .ok (.aload_n 0, 1) := by decide +kernel
theorem dX5_init_1 : decode cX5_init 1 = .ok (.invokespecial 1, 3) := by decide +kernel
theorem dX5_init_4 : decode cX5_init 4 = .ok (.aload_n 0, 1) := by decide +kernel
theorem dX5_init_5 : decode cX5_init 5 = .ok (.iconst 4, 1) := by decide +kernel
theorem dX5_init_6 : decode cX5_init 6 = .ok (.newarray .int, 2) := by decide +kernel
theorem dX5_init_8 : decode cX5_init 8 = .ok (.putfield 9, 3) := by decide +kernel
theorem dX5_init_11 : decode cX5_init 11 = .ok (.aload_n 0, 1) := by decide +kernel
theorem dX5_init_12 : decode cX5_init 12 = .ok (.iconst 4, 1) := by decide +kernel
theorem dX5_init_13 : decode cX5_init 13 = .ok (.newarray .char, 2) := by decide +kernel
theorem dX5_init_15 : decode cX5_init 15 = .ok (.putfield 13, 3) := by decide +kernel
theorem dX5_init_18 : decode cX5_init 18 = .ok (.aload_n 0, 1) := by decide +kernel
theorem dX5_init_19 : decode cX5_init 19 = .ok (.iconst 4, 1) := by decide +kernel
theorem dX5_init_20 : decode cX5_init 20 = .ok (.newarray .int, 2) := by decide +kernel
theorem dX5_init_22 : decode cX5_init 22 = .ok (.putfield 17, 3) := by decide +kernel
theorem dX5_init_25 : decode cX5_init 25 = .ok (.return_, 1) := by decide +kernel
theorem dX5_size_0 : decode cX5_size 0 = .ok (.aload_n 0, 1) := by decide +kernel
theorem dX5_size_1 : decode cX5_size 1 = .ok (.getfield 20, 3) := by decide +kernel
theorem dX5_size_4 : decode cX5_size 4 = .ok (.ireturn, 1) := by decide +kernel
theorem dX5_empty_0 : decode cX5_empty 0 = .ok (.aload_n 0, 1) := by decide +kernel
theorem dX5_empty_1 : decode cX5_empty 1 = .ok (.iconst 0, 1) := by decide +kernel
theorem dX5_empty_2 : decode cX5_empty 2 = .ok (.putfield 20, 3) := by decide +kernel
theorem dX5_empty_5 : decode cX5_empty 5 = .ok (.return_, 1) := by decide +kernel
theorem dX5_add_0 : decode cX5_add 0 = .ok (.aload_n 0, 1) := by decide +kernel
theorem dX5_add_1 : decode cX5_add 1 = .ok (.getfield 20, 3) := by decide +kernel
theorem dX5_add_4 : decode cX5_add 4 = .ok (.ifCond .lt 11, 3) := by decide +kernel
theorem dX5_add_7 : decode cX5_add 7 = .ok (.aload_n 0, 1) := by decide +kernel
theorem dX5_add_8 : decode cX5_add 8 = .ok (.getfield 20, 3) := by decide +kernel
theorem dX5_add_11 : decode cX5_add 11 = .ok (.iconst 4, 1) := by decide +kernel
theorem dX5_add_12 : decode cX5_add 12 = .ok (.if_icmp .lt 4, 3) := by decide +kernel
theorem dX5_add_15 : decode cX5_add 15 = .ok (.return_, 1) := by decide +kernel
theorem dX5_add_16 : decode cX5_add 16 = .ok (.aload_n 0, 1) := by decide +kernel
theorem dX5_add_17 : decode cX5_add 17 = .ok (.getfield 9, 3) := by decide +kernel
theorem dX5_add_20 : decode cX5_add 20 = .ok (.aload_n 0, 1) := by decide +kernel
theorem dX5_add_21 : decode cX5_add 21 = .ok (.getfield 20, 3) := by decide +kernel
theorem dX5_add_24 : decode cX5_add 24 = .ok (.iload_n 1, 1) := by decide +kernel
theorem dX5_add_25 : decode cX5_add 25 = .ok (.iastore, 1) := by decide +kernel
theorem dX5_add_26 : decode cX5_add 26 = .ok (.aload_n 0, 1) := by decide +kernel
theorem dX5_add_27 : decode cX5_add 27 = .ok (.getfield 13, 3) := by decide +kernel
theorem dX5_add_30 : decode cX5_add 30 = .ok (.aload_n 0, 1) := by decide +kernel
theorem dX5_add_31 : decode cX5_add 31 = .ok (.getfield 20, 3) := by decide +kernel
theorem dX5_add_34 : decode cX5_add 34 = .ok (.iload_n 2, 1) := by decide +kernel
theorem dX5_add_35 : decode cX5_add 35 = .ok (.castore, 1) := by decide +kernel
theorem dX5_add_36 : decode cX5_add 36 = .ok (.aload_n 0, 1) := by decide +kernel
theorem dX5_add_37 : decode cX5_add 37 = .ok (.getfield 17, 3) := by decide +kernel
theorem dX5_add_40 : decode cX5_add 40 = .ok (.aload_n 0, 1) := by decide +kernel
theorem dX5_add_41 : decode cX5_add 41 = .ok (.getfield 20, 3) := by decide +kernel
theorem dX5_add_44 : decode cX5_add 44 = .ok (.iload_n 3, 1) := by decide +kernel
theorem dX5_add_45 : decode cX5_add 45 = .ok (.iastore, 1) := by decide +kernel
theorem dX5_add_46 : decode cX5_add 46 = .ok (.aload_n 0, 1) := by decide +kernel
theorem dX5_add_47 : decode cX5_add 47 = .ok (.dup, 1) := by decide +kernel
theorem dX5_add_48 : decode cX5_add 48 = .ok (.getfield 20, 3) := by decide +kernel
theorem dX5_add_51 : decode cX5_add 51 = .ok (.iconst 1, 1) := by decide +kernel
theorem dX5_add_52 : decode cX5_add 52 = .ok (.iadd, 1) := by decide +kernel
theorem dX5_add_53 : decode cX5_add 53 = .ok (.putfield 20, 3) := by decide +kernel
theorem dX5_add_56 : decode cX5_add 56 = .ok (.return_, 1) := by decide +kernel
theorem dX5_allow_0 : decode cX5_allow 0 = .ok (.iconst 0, 1) := by decide +kernel
theorem dX5_allow_1 : decode cX5_allow 1 = .ok (.istore_n 3, 1) := by decide +kernel
theorem dX5_allow_2 : decode cX5_allow 2 = .ok (.iload_n 3, 1) := by decide +kernel
theorem dX5_allow_3 : decode cX5_allow 3 = .ok (.aload_n 0, 1) := by decide +kernel
theorem dX5_allow_4 : decode cX5_allow 4 = .ok (.getfield 20, 3) := by decide +kernel
theorem dX5_allow_7 : decode cX5_allow 7 = .ok (.if_icmp .ge 45, 3) := by decide +kernel
theorem dX5_allow_10 : decode cX5_allow 10 = .ok (.iload_n 3, 1) := by decide +kernel
theorem dX5_allow_11 : decode cX5_allow 11 = .ok (.iconst 4, 1) := by decide +kernel
theorem dX5_allow_12 : decode cX5_allow 12 = .ok (.if_icmp .ge 40, 3) := by decide +kernel
theorem dX5_allow_15 : decode cX5_allow 15 = .ok (.aload_n 0, 1) := by decide +kernel
theorem dX5_allow_16 : decode cX5_allow 16 = .ok (.getfield 9, 3) := by decide +kernel
theorem dX5_allow_19 : decode cX5_allow 19 = .ok (.iload_n 3, 1) := by decide +kernel
theorem dX5_allow_20 : decode cX5_allow 20 = .ok (.iaload, 1) := by decide +kernel
theorem dX5_allow_21 : decode cX5_allow 21 = .ok (.iload_n 1, 1) := by decide +kernel
theorem dX5_allow_22 : decode cX5_allow 22 = .ok (.if_icmp .ne 24, 3) := by decide +kernel
theorem dX5_allow_25 : decode cX5_allow 25 = .ok (.iload_n 2, 1) := by decide +kernel
theorem dX5_allow_26 : decode cX5_allow 26 = .ok (.aload_n 0, 1) := by decide +kernel
theorem dX5_allow_27 : decode cX5_allow 27 = .ok (.getfield 13, 3) := by decide +kernel
theorem dX5_allow_30 : decode cX5_allow 30 = .ok (.iload_n 3, 1) := by decide +kernel
theorem dX5_allow_31 : decode cX5_allow 31 = .ok (.caload, 1) := by decide +kernel
theorem dX5_allow_32 : decode cX5_allow 32 = .ok (.aload_n 0, 1) := by decide +kernel
theorem dX5_allow_33 : decode cX5_allow 33 = .ok (.getfield 17, 3) := by decide +kernel
theorem dX5_allow_36 : decode cX5_allow 36 = .ok (.iload_n 3, 1) := by decide +kernel
theorem dX5_allow_37 : decode cX5_allow 37 = .ok (.iaload, 1) := by decide +kernel
theorem dX5_allow_38 : decode cX5_allow 38 = .ok (.invokestatic 24, 3) := by decide +kernel
theorem dX5_allow_41 : decode cX5_allow 41 = .ok (.ifCond .ne 5, 3) := by decide +kernel
theorem dX5_allow_44 : decode cX5_allow 44 = .ok (.iconst 0, 1) := by decide +kernel
theorem dX5_allow_45 : decode cX5_allow 45 = .ok (.ireturn, 1) := by decide +kernel
theorem dX5_allow_46 : decode cX5_allow 46 = .ok (.iinc 3 1, 3) := by decide +kernel
theorem dX5_allow_49 : decode cX5_allow 49 = .ok (.goto (-47), 3) := by decide +kernel
theorem dX5_allow_52 : decode cX5_allow 52 = .ok (.iconst 1, 1) := by decide +kernel
theorem dX5_allow_53 : decode cX5_allow 53 = .ok (.ireturn, 1) := by decide +kernel
theorem dX5_holds_0 : decode cX5_holds 0 = .ok (.iload_n 1, 1) := by decide +kernel
theorem dX5_holds_1 : decode cX5_holds 1 = .ok (.bipush 60, 2) := by decide +kernel
theorem dX5_holds_3 : decode cX5_holds 3 = .ok (.if_icmp .ne 14, 3) := by decide +kernel
theorem dX5_holds_6 : decode cX5_holds 6 = .ok (.iload_n 0, 1) := by decide +kernel
theorem dX5_holds_7 : decode cX5_holds 7 = .ok (.iload_n 2, 1) := by decide +kernel
theorem dX5_holds_8 : decode cX5_holds 8 = .ok (.if_icmp .ge 7, 3) := by decide +kernel
theorem dX5_holds_11 : decode cX5_holds 11 = .ok (.iconst 1, 1) := by decide +kernel
theorem dX5_holds_12 : decode cX5_holds 12 = .ok (.goto 4, 3) := by decide +kernel
theorem dX5_holds_15 : decode cX5_holds 15 = .ok (.iconst 0, 1) := by decide +kernel
theorem dX5_holds_16 : decode cX5_holds 16 = .ok (.ireturn, 1) := by decide +kernel
theorem dX5_holds_17 : decode cX5_holds 17 = .ok (.iload_n 1, 1) := by decide +kernel
theorem dX5_holds_18 : decode cX5_holds 18 = .ok (.bipush 62, 2) := by decide +kernel
theorem dX5_holds_20 : decode cX5_holds 20 = .ok (.if_icmp .ne 16, 3) := by decide +kernel
theorem dX5_holds_23 : decode cX5_holds 23 = .ok (.iload_n 0, 1) := by decide +kernel
theorem dX5_holds_24 : decode cX5_holds 24 = .ok (.iload_n 2, 1) := by decide +kernel
theorem dX5_holds_25 : decode cX5_holds 25 = .ok (.if_icmp .le 7, 3) := by decide +kernel
theorem dX5_holds_28 : decode cX5_holds 28 = .ok (.iconst 1, 1) := by decide +kernel
theorem dX5_holds_29 : decode cX5_holds 29 = .ok (.goto 17, 3) := by decide +kernel
theorem dX5_holds_32 : decode cX5_holds 32 = .ok (.iconst 0, 1) := by decide +kernel
theorem dX5_holds_33 : decode cX5_holds 33 = .ok (.goto 13, 3) := by decide +kernel
theorem dX5_holds_36 : decode cX5_holds 36 = .ok (.iload_n 0, 1) := by decide +kernel
theorem dX5_holds_37 : decode cX5_holds 37 = .ok (.iload_n 2, 1) := by decide +kernel
theorem dX5_holds_38 : decode cX5_holds 38 = .ok (.if_icmp .ne 7, 3) := by decide +kernel
theorem dX5_holds_41 : decode cX5_holds 41 = .ok (.iconst 1, 1) := by decide +kernel
theorem dX5_holds_42 : decode cX5_holds 42 = .ok (.goto 4, 3) := by decide +kernel
theorem dX5_holds_45 : decode cX5_holds 45 = .ok (.iconst 0, 1) := by decide +kernel
theorem dX5_holds_46 : decode cX5_holds 46 = .ok (.ireturn, 1) := by decide +kernel
theorem dX6_init_0 : decode cX6_init 0 = .ok (.aload_n 0, 1) := by decide +kernel
theorem dX6_init_1 : decode cX6_init 1 = .ok (.invokespecial 3, 3) := by decide +kernel
theorem dX6_init_4 : decode cX6_init 4 = .ok (.aload_n 0, 1) := by decide +kernel
theorem dX6_init_5 : decode cX6_init 5 = .ok (.iconst 4, 1) := by decide +kernel
theorem dX6_init_6 : decode cX6_init 6 = .ok (.newarray .int, 2) := by decide +kernel
theorem dX6_init_8 : decode cX6_init 8 = .ok (.putfield 9, 3) := by decide +kernel
theorem dX6_init_11 : decode cX6_init 11 = .ok (.aload_n 0, 1) := by decide +kernel
theorem dX6_init_12 : decode cX6_init 12 = .ok (.iconst 4, 1) := by decide +kernel
theorem dX6_init_13 : decode cX6_init 13 = .ok (.newarray .int, 2) := by decide +kernel
theorem dX6_init_15 : decode cX6_init 15 = .ok (.putfield 15, 3) := by decide +kernel
theorem dX6_init_18 : decode cX6_init 18 = .ok (.aload_n 0, 1) := by decide +kernel
theorem dX6_init_19 : decode cX6_init 19 = .ok (.aload_n 1, 1) := by decide +kernel
theorem dX6_init_20 : decode cX6_init 20 = .ok (.putfield 18, 3) := by decide +kernel
theorem dX6_init_23 : decode cX6_init 23 = .ok (.return_, 1) := by decide +kernel
theorem dX6_prepare_0 : decode cX6_prepare 0 = .ok (.aload_n 0, 1) := by decide +kernel
theorem dX6_prepare_1 : decode cX6_prepare 1 = .ok (.aload_n 1, 1) := by decide +kernel
theorem dX6_prepare_2 : decode cX6_prepare 2 = .ok (.iconst 1, 1) := by decide +kernel
theorem dX6_prepare_3 : decode cX6_prepare 3 = .ok (.invokevirtual 24, 3) := by decide +kernel
theorem dX6_prepare_6 : decode cX6_prepare 6 = .ok (.aload_n 1, 1) := by decide +kernel
theorem dX6_prepare_7 : decode cX6_prepare 7 = .ok (.iconst 2, 1) := by decide +kernel
theorem dX6_prepare_8 : decode cX6_prepare 8 = .ok (.invokevirtual 24, 3) := by decide +kernel
theorem dX6_prepare_11 : decode cX6_prepare 11 = .ok (.iadd, 1) := by decide +kernel
theorem dX6_prepare_12 : decode cX6_prepare 12 = .ok (.putfield 30, 3) := by decide +kernel
theorem dX6_prepare_15 : decode cX6_prepare 15 = .ok (.iconst 0, 1) := by decide +kernel
theorem dX6_prepare_16 : decode cX6_prepare 16 = .ok (.istore_n 3, 1) := by decide +kernel
theorem dX6_prepare_17 : decode cX6_prepare 17 = .ok (.iload_n 3, 1) := by decide +kernel
theorem dX6_prepare_18 : decode cX6_prepare 18 = .ok (.iconst 4, 1) := by decide +kernel
theorem dX6_prepare_19 : decode cX6_prepare 19 = .ok (.if_icmp .ge 52, 3) := by decide +kernel
theorem dX6_prepare_22 : decode cX6_prepare 22 = .ok (.iload_n 3, 1) := by decide +kernel
theorem dX6_prepare_23 : decode cX6_prepare 23 = .ok (.invokestatic 34, 3) := by decide +kernel
theorem dX6_prepare_26 : decode cX6_prepare 26 = .ok (.istore 4, 2) := by decide +kernel
theorem dX6_prepare_28 : decode cX6_prepare 28 = .ok (.aload_n 0, 1) := by decide +kernel
theorem dX6_prepare_29 : decode cX6_prepare 29 = .ok (.getfield 9, 3) := by decide +kernel
theorem dX6_prepare_32 : decode cX6_prepare 32 = .ok (.iload_n 3, 1) := by decide +kernel
theorem dX6_prepare_33 : decode cX6_prepare 33 = .ok (.aload_n 1, 1) := by decide +kernel
theorem dX6_prepare_34 : decode cX6_prepare 34 = .ok (.iload 4, 2) := by decide +kernel
theorem dX6_prepare_36 : decode cX6_prepare 36 = .ok (.invokevirtual 24, 3) := by decide +kernel
theorem dX6_prepare_39 : decode cX6_prepare 39 = .ok (.iastore, 1) := by decide +kernel
theorem dX6_prepare_40 : decode cX6_prepare 40 = .ok (.aload_n 0, 1) := by decide +kernel
theorem dX6_prepare_41 : decode cX6_prepare 41 = .ok (.getfield 15, 3) := by decide +kernel
theorem dX6_prepare_44 : decode cX6_prepare 44 = .ok (.iload_n 3, 1) := by decide +kernel
theorem dX6_prepare_45 : decode cX6_prepare 45 = .ok (.aload_n 0, 1) := by decide +kernel
theorem dX6_prepare_46 : decode cX6_prepare 46 = .ok (.aload_n 1, 1) := by decide +kernel
theorem dX6_prepare_47 : decode cX6_prepare 47 = .ok (.iload 4, 2) := by decide +kernel
theorem dX6_prepare_49 : decode cX6_prepare 49 = .ok (.invokevirtual 37, 3) := by decide +kernel
theorem dX6_prepare_52 : decode cX6_prepare 52 = .ok (.ifCond .ne 7, 3) := by decide +kernel
theorem dX6_prepare_55 : decode cX6_prepare 55 = .ok (.iconst 0, 1) := by decide +kernel
theorem dX6_prepare_56 : decode cX6_prepare 56 = .ok (.goto 4, 3) := by decide +kernel
theorem dX6_prepare_59 : decode cX6_prepare 59 = .ok (.iload_n 2, 1) := by decide +kernel
theorem dX6_prepare_60 : decode cX6_prepare 60 = .ok (.iload_n 3, 1) := by decide +kernel
theorem dX6_prepare_61 : decode cX6_prepare 61 = .ok (.invokevirtual 40, 3) := by decide +kernel
theorem dX6_prepare_64 : decode cX6_prepare 64 = .ok (.iastore, 1) := by decide +kernel
theorem dX6_prepare_65 : decode cX6_prepare 65 = .ok (.iinc 3 1, 3) := by decide +kernel
theorem dX6_prepare_68 : decode cX6_prepare 68 = .ok (.goto (-51), 3) := by decide +kernel
theorem dX6_prepare_71 : decode cX6_prepare 71 = .ok (.return_, 1) := by decide +kernel
theorem dX6_possibleUpTo_0 : decode cX6_possibleUpTo 0 = .ok (.iconst 0, 1) := by decide +kernel
theorem dX6_possibleUpTo_1 : decode cX6_possibleUpTo 1 = .ok (.istore_n 3, 1) := by decide +kernel
theorem dX6_possibleUpTo_2 : decode cX6_possibleUpTo 2 = .ok (.iconst 0, 1) := by decide +kernel
theorem dX6_possibleUpTo_3 : decode cX6_possibleUpTo 3 = .ok (.istore 4, 2) := by decide +kernel
theorem dX6_possibleUpTo_5 : decode cX6_possibleUpTo 5 = .ok (.iload 4, 2) := by decide +kernel
theorem dX6_possibleUpTo_7 : decode cX6_possibleUpTo 7 = .ok (.iload_n 1, 1) := by decide +kernel
theorem dX6_possibleUpTo_8 : decode cX6_possibleUpTo 8 = .ok (.if_icmp .gt 36, 3) := by decide +kernel
theorem dX6_possibleUpTo_11 : decode cX6_possibleUpTo 11 = .ok (.iload 4, 2) := by decide +kernel
theorem dX6_possibleUpTo_13 : decode cX6_possibleUpTo 13 = .ok (.bipush 9, 2) := by decide +kernel
theorem dX6_possibleUpTo_15 : decode cX6_possibleUpTo 15 = .ok (.if_icmp .gt 29, 3) := by decide +kernel
theorem dX6_possibleUpTo_18 : decode cX6_possibleUpTo 18 = .ok (.aload_n 0, 1) := by decide +kernel
theorem dX6_possibleUpTo_19 : decode cX6_possibleUpTo 19 = .ok (.getfield 18, 3) := by decide +kernel
theorem dX6_possibleUpTo_22 : decode cX6_possibleUpTo 22 = .ok (.iload_n 2, 1) := by decide +kernel
theorem dX6_possibleUpTo_23 : decode cX6_possibleUpTo 23 = .ok (.iload 4, 2) := by decide +kernel
theorem dX6_possibleUpTo_25 : decode cX6_possibleUpTo 25 = .ok (.invokevirtual 44, 3) := by decide +kernel
theorem dX6_possibleUpTo_28 : decode cX6_possibleUpTo 28 = .ok (.ifCond .eq 10, 3) := by decide +kernel
theorem dX6_possibleUpTo_31 : decode cX6_possibleUpTo 31 = .ok (.iload_n 3, 1) := by decide +kernel
theorem dX6_possibleUpTo_32 : decode cX6_possibleUpTo 32 = .ok (.iconst 1, 1) := by decide +kernel
theorem dX6_possibleUpTo_33 : decode cX6_possibleUpTo 33 = .ok (.iload 4, 2) := by decide +kernel
theorem dX6_possibleUpTo_35 : decode cX6_possibleUpTo 35 = .ok (.ishl, 1) := by decide +kernel
theorem dX6_possibleUpTo_36 : decode cX6_possibleUpTo 36 = .ok (.ior, 1) := by decide +kernel
theorem dX6_possibleUpTo_37 : decode cX6_possibleUpTo 37 = .ok (.istore_n 3, 1) := by decide +kernel
theorem dX6_possibleUpTo_38 : decode cX6_possibleUpTo 38 = .ok (.iinc 4 1, 3) := by decide +kernel
theorem dX6_possibleUpTo_41 : decode cX6_possibleUpTo 41 = .ok (.goto (-36), 3) := by decide +kernel
theorem dX6_possibleUpTo_44 : decode cX6_possibleUpTo 44 = .ok (.iload_n 3, 1) := by decide +kernel
theorem dX6_possibleUpTo_45 : decode cX6_possibleUpTo 45 = .ok (.ireturn, 1) := by decide +kernel
theorem dX6_letterSurplus_0 : decode cX6_letterSurplus 0 = .ok (.aload_n 0, 1) := by decide +kernel
theorem dX6_letterSurplus_1 : decode cX6_letterSurplus 1 = .ok (.getfield 30, 3) := by decide +kernel
theorem dX6_letterSurplus_4 : decode cX6_letterSurplus 4 = .ok (.ireturn, 1) := by decide +kernel
theorem dX6_solutions_0 : decode cX6_solutions 0 = .ok (.aload_n 0, 1) := by decide +kernel
theorem dX6_solutions_1 : decode cX6_solutions 1 = .ok (.iconst 0, 1) := by decide +kernel
theorem dX6_solutions_2 : decode cX6_solutions 2 = .ok (.aload_n 0, 1) := by decide +kernel
theorem dX6_solutions_3 : decode cX6_solutions 3 = .ok (.getfield 30, 3) := by decide +kernel
theorem dX6_solutions_6 : decode cX6_solutions 6 = .ok (.invokevirtual 50, 3) := by decide +kernel
theorem dX6_solutions_9 : decode cX6_solutions 9 = .ok (.ireturn, 1) := by decide +kernel
theorem dX6_canBalance_0 : decode cX6_canBalance 0 = .ok (.aload_n 0, 1) := by decide +kernel
theorem dX6_canBalance_1 : decode cX6_canBalance 1 = .ok (.iload_n 1, 1) := by decide +kernel
theorem dX6_canBalance_2 : decode cX6_canBalance 2 = .ok (.iload_n 2, 1) := by decide +kernel
theorem dX6_canBalance_3 : decode cX6_canBalance 3 = .ok (.invokevirtual 50, 3) := by decide +kernel
theorem dX6_canBalance_6 : decode cX6_canBalance 6 = .ok (.ifCond .le 7, 3) := by decide +kernel
theorem dX6_canBalance_9 : decode cX6_canBalance 9 = .ok (.iconst 1, 1) := by decide +kernel
theorem dX6_canBalance_10 : decode cX6_canBalance 10 = .ok (.goto 4, 3) := by decide +kernel
theorem dX6_canBalance_13 : decode cX6_canBalance 13 = .ok (.iconst 0, 1) := by decide +kernel
theorem dX6_canBalance_14 : decode cX6_canBalance 14 = .ok (.ireturn, 1) := by decide +kernel
theorem dX6_allows_0 : decode cX6_allows 0 = .ok (.iload_n 1, 1) := by decide +kernel
theorem dX6_allows_1 : decode cX6_allows 1 = .ok (.invokestatic 53, 3) := by decide +kernel
theorem dX6_allows_4 : decode cX6_allows 4 = .ok (.ifCond .eq 20, 3) := by decide +kernel
theorem dX6_allows_7 : decode cX6_allows 7 = .ok (.aload_n 0, 1) := by decide +kernel
theorem dX6_allows_8 : decode cX6_allows 8 = .ok (.getfield 15, 3) := by decide +kernel
theorem dX6_allows_11 : decode cX6_allows 11 = .ok (.iload_n 1, 1) := by decide +kernel
theorem dX6_allows_12 : decode cX6_allows 12 = .ok (.iaload, 1) := by decide +kernel
theorem dX6_allows_13 : decode cX6_allows 13 = .ok (.iload_n 2, 1) := by decide +kernel
theorem dX6_allows_14 : decode cX6_allows 14 = .ok (.ishr, 1) := by decide +kernel
theorem dX6_allows_15 : decode cX6_allows 15 = .ok (.iconst 1, 1) := by decide +kernel
theorem dX6_allows_16 : decode cX6_allows 16 = .ok (.iand, 1) := by decide +kernel
theorem dX6_allows_17 : decode cX6_allows 17 = .ok (.ifCond .eq 7, 3) := by decide +kernel
theorem dX6_allows_20 : decode cX6_allows 20 = .ok (.iconst 1, 1) := by decide +kernel
theorem dX6_allows_21 : decode cX6_allows 21 = .ok (.goto 4, 3) := by decide +kernel
theorem dX6_allows_24 : decode cX6_allows 24 = .ok (.iconst 0, 1) := by decide +kernel
theorem dX6_allows_25 : decode cX6_allows 25 = .ok (.ireturn, 1) := by decide +kernel
theorem dX6_surplusWith_0 : decode cX6_surplusWith 0 = .ok (.iload_n 1, 1) := by decide +kernel
theorem dX6_surplusWith_1 : decode cX6_surplusWith 1 = .ok (.invokestatic 53, 3) := by decide +kernel
theorem dX6_surplusWith_4 : decode cX6_surplusWith 4 = .ok (.ifCond .eq 16, 3) := by decide +kernel
theorem dX6_surplusWith_7 : decode cX6_surplusWith 7 = .ok (.iload_n 3, 1) := by decide +kernel
theorem dX6_surplusWith_8 : decode cX6_surplusWith 8 = .ok (.aload_n 0, 1) := by decide +kernel
theorem dX6_surplusWith_9 : decode cX6_surplusWith 9 = .ok (.getfield 9, 3) := by decide +kernel
theorem dX6_surplusWith_12 : decode cX6_surplusWith 12 = .ok (.iload_n 1, 1) := by decide +kernel
theorem dX6_surplusWith_13 : decode cX6_surplusWith 13 = .ok (.iaload, 1) := by decide +kernel
theorem dX6_surplusWith_14 : decode cX6_surplusWith 14 = .ok (.iload_n 2, 1) := by decide +kernel
theorem dX6_surplusWith_15 : decode cX6_surplusWith 15 = .ok (.imul, 1) := by decide +kernel
theorem dX6_surplusWith_16 : decode cX6_surplusWith 16 = .ok (.iadd, 1) := by decide +kernel
theorem dX6_surplusWith_17 : decode cX6_surplusWith 17 = .ok (.goto 4, 3) := by decide +kernel
theorem dX6_surplusWith_20 : decode cX6_surplusWith 20 = .ok (.iload_n 3, 1) := by decide +kernel
theorem dX6_surplusWith_21 : decode cX6_surplusWith 21 = .ok (.ireturn, 1) := by decide +kernel
theorem dX6_waysFrom_0 : decode cX6_waysFrom 0 = .ok (.iload_n 1, 1) := by decide +kernel
theorem dX6_waysFrom_1 : decode cX6_waysFrom 1 = .ok (.ifCond .lt 8, 3) := by decide +kernel
theorem dX6_waysFrom_4 : decode cX6_waysFrom 4 = .ok (.iload_n 1, 1) := by decide +kernel
theorem dX6_waysFrom_5 : decode cX6_waysFrom 5 = .ok (.iconst 4, 1) := by decide +kernel
theorem dX6_waysFrom_6 : decode cX6_waysFrom 6 = .ok (.if_icmp .lt 13, 3) := by decide +kernel
theorem dX6_waysFrom_9 : decode cX6_waysFrom 9 = .ok (.iload_n 2, 1) := by decide +kernel
theorem dX6_waysFrom_10 : decode cX6_waysFrom 10 = .ok (.ifCond .ne 7, 3) := by decide +kernel
theorem dX6_waysFrom_13 : decode cX6_waysFrom 13 = .ok (.iconst 1, 1) := by decide +kernel
theorem dX6_waysFrom_14 : decode cX6_waysFrom 14 = .ok (.goto 4, 3) := by decide +kernel
theorem dX6_waysFrom_17 : decode cX6_waysFrom 17 = .ok (.iconst 0, 1) := by decide +kernel
theorem dX6_waysFrom_18 : decode cX6_waysFrom 18 = .ok (.ireturn, 1) := by decide +kernel
theorem dX6_waysFrom_19 : decode cX6_waysFrom 19 = .ok (.iconst 0, 1) := by decide +kernel
theorem dX6_waysFrom_20 : decode cX6_waysFrom 20 = .ok (.istore_n 3, 1) := by decide +kernel
theorem dX6_waysFrom_21 : decode cX6_waysFrom 21 = .ok (.iconst 0, 1) := by decide +kernel
theorem dX6_waysFrom_22 : decode cX6_waysFrom 22 = .ok (.istore 4, 2) := by decide +kernel
theorem dX6_waysFrom_24 : decode cX6_waysFrom 24 = .ok (.iload 4, 2) := by decide +kernel
theorem dX6_waysFrom_26 : decode cX6_waysFrom 26 = .ok (.bipush 9, 2) := by decide +kernel
theorem dX6_waysFrom_28 : decode cX6_waysFrom 28 = .ok (.if_icmp .gt 44, 3) := by decide +kernel
theorem dX6_waysFrom_31 : decode cX6_waysFrom 31 = .ok (.aload_n 0, 1) := by decide +kernel
theorem dX6_waysFrom_32 : decode cX6_waysFrom 32 = .ok (.getfield 15, 3) := by decide +kernel
theorem dX6_waysFrom_35 : decode cX6_waysFrom 35 = .ok (.iload_n 1, 1) := by decide +kernel
theorem dX6_waysFrom_36 : decode cX6_waysFrom 36 = .ok (.iaload, 1) := by decide +kernel
theorem dX6_waysFrom_37 : decode cX6_waysFrom 37 = .ok (.iload 4, 2) := by decide +kernel
theorem dX6_waysFrom_39 : decode cX6_waysFrom 39 = .ok (.ishr, 1) := by decide +kernel
theorem dX6_waysFrom_40 : decode cX6_waysFrom 40 = .ok (.iconst 1, 1) := by decide +kernel
theorem dX6_waysFrom_41 : decode cX6_waysFrom 41 = .ok (.iand, 1) := by decide +kernel
theorem dX6_waysFrom_42 : decode cX6_waysFrom 42 = .ok (.ifCond .eq 24, 3) := by decide +kernel
theorem dX6_waysFrom_45 : decode cX6_waysFrom 45 = .ok (.iload_n 3, 1) := by decide +kernel
theorem dX6_waysFrom_46 : decode cX6_waysFrom 46 = .ok (.aload_n 0, 1) := by decide +kernel
theorem dX6_waysFrom_47 : decode cX6_waysFrom 47 = .ok (.iload_n 1, 1) := by decide +kernel
theorem dX6_waysFrom_48 : decode cX6_waysFrom 48 = .ok (.iconst 1, 1) := by decide +kernel
theorem dX6_waysFrom_49 : decode cX6_waysFrom 49 = .ok (.iadd, 1) := by decide +kernel
theorem dX6_waysFrom_50 : decode cX6_waysFrom 50 = .ok (.iload_n 2, 1) := by decide +kernel
theorem dX6_waysFrom_51 : decode cX6_waysFrom 51 = .ok (.aload_n 0, 1) := by decide +kernel
theorem dX6_waysFrom_52 : decode cX6_waysFrom 52 = .ok (.getfield 9, 3) := by decide +kernel
theorem dX6_waysFrom_55 : decode cX6_waysFrom 55 = .ok (.iload_n 1, 1) := by decide +kernel
theorem dX6_waysFrom_56 : decode cX6_waysFrom 56 = .ok (.iaload, 1) := by decide +kernel
theorem dX6_waysFrom_57 : decode cX6_waysFrom 57 = .ok (.iload 4, 2) := by decide +kernel
theorem dX6_waysFrom_59 : decode cX6_waysFrom 59 = .ok (.imul, 1) := by decide +kernel
theorem dX6_waysFrom_60 : decode cX6_waysFrom 60 = .ok (.iadd, 1) := by decide +kernel
theorem dX6_waysFrom_61 : decode cX6_waysFrom 61 = .ok (.invokevirtual 50, 3) := by decide +kernel
theorem dX6_waysFrom_64 : decode cX6_waysFrom 64 = .ok (.iadd, 1) := by decide +kernel
theorem dX6_waysFrom_65 : decode cX6_waysFrom 65 = .ok (.istore_n 3, 1) := by decide +kernel
theorem dX6_waysFrom_66 : decode cX6_waysFrom 66 = .ok (.iinc 4 1, 3) := by decide +kernel
theorem dX6_waysFrom_69 : decode cX6_waysFrom 69 = .ok (.goto (-45), 3) := by decide +kernel
theorem dX6_waysFrom_72 : decode cX6_waysFrom 72 = .ok (.iload_n 3, 1) := by decide +kernel
theorem dX6_waysFrom_73 : decode cX6_waysFrom 73 = .ok (.ireturn, 1) := by decide +kernel
theorem dX7_init_0 : decode cX7_init 0 = .ok (.aload_n 0, 1) := by decide +kernel
theorem dX7_init_1 : decode cX7_init 1 = .ok (.invokespecial 3, 3) := by decide +kernel
theorem dX7_init_4 : decode cX7_init 4 = .ok (.aload_n 0, 1) := by decide +kernel
theorem dX7_init_5 : decode cX7_init 5 = .ok (.sipush 200, 3) := by decide +kernel
theorem dX7_init_8 : decode cX7_init 8 = .ok (.newarray .long, 2) := by decide +kernel
theorem dX7_init_10 : decode cX7_init 10 = .ok (.putfield 11, 3) := by decide +kernel
theorem dX7_init_13 : decode cX7_init 13 = .ok (.aload_n 0, 1) := by decide +kernel
theorem dX7_init_14 : decode cX7_init 14 = .ok (.sipush 200, 3) := by decide +kernel
theorem dX7_init_17 : decode cX7_init 17 = .ok (.newarray .long, 2) := by decide +kernel
theorem dX7_init_19 : decode cX7_init 19 = .ok (.putfield 15, 3) := by decide +kernel
theorem dX7_init_22 : decode cX7_init 22 = .ok (.aload_n 0, 1) := by decide +kernel
theorem dX7_init_23 : decode cX7_init 23 = .ok (.sipush 200, 3) := by decide +kernel
theorem dX7_init_26 : decode cX7_init 26 = .ok (.newarray .int, 2) := by decide +kernel
theorem dX7_init_28 : decode cX7_init 28 = .ok (.putfield 18, 3) := by decide +kernel
theorem dX7_init_31 : decode cX7_init 31 = .ok (.aload_n 0, 1) := by decide +kernel
theorem dX7_init_32 : decode cX7_init 32 = .ok (.sipush 200, 3) := by decide +kernel
theorem dX7_init_35 : decode cX7_init 35 = .ok (.newarray .int, 2) := by decide +kernel
theorem dX7_init_37 : decode cX7_init 37 = .ok (.putfield 22, 3) := by decide +kernel
theorem dX7_init_40 : decode cX7_init 40 = .ok (.aload_n 0, 1) := by decide +kernel
theorem dX7_init_41 : decode cX7_init 41 = .ok (.sipush 200, 3) := by decide +kernel
theorem dX7_init_44 : decode cX7_init 44 = .ok (.newarray .int, 2) := by decide +kernel
theorem dX7_init_46 : decode cX7_init 46 = .ok (.putfield 25, 3) := by decide +kernel
theorem dX7_init_49 : decode cX7_init 49 = .ok (.return_, 1) := by decide +kernel
theorem dX7_answerFor_0 : decode cX7_answerFor 0 = .ok (.aload_n 0, 1) := by decide +kernel
theorem dX7_answerFor_1 : decode cX7_answerFor 1 = .ok (.iconst 0, 1) := by decide +kernel
theorem dX7_answerFor_2 : decode cX7_answerFor 2 = .ok (.putfield 28, 3) := by decide +kernel
theorem dX7_answerFor_5 : decode cX7_answerFor 5 = .ok (.aload_n 0, 1) := by decide +kernel
theorem dX7_answerFor_6 : decode cX7_answerFor 6 = .ok (.iconst (-1), 1) := by decide +kernel
theorem dX7_answerFor_7 : decode cX7_answerFor 7 = .ok (.putfield 32, 3) := by decide +kernel
theorem dX7_answerFor_10 : decode cX7_answerFor 10 = .ok (.aload_n 0, 1) := by decide +kernel
theorem dX7_answerFor_11 : decode cX7_answerFor 11 = .ok (.iconst 0, 1) := by decide +kernel
theorem dX7_answerFor_12 : decode cX7_answerFor 12 = .ok (.putfield 35, 3) := by decide +kernel
theorem dX7_answerFor_15 : decode cX7_answerFor 15 = .ok (.aload_n 0, 1) := by decide +kernel
theorem dX7_answerFor_16 : decode cX7_answerFor 16 = .ok (.iconst (-1), 1) := by decide +kernel
theorem dX7_answerFor_17 : decode cX7_answerFor 17 = .ok (.iconst 0, 1) := by decide +kernel
theorem dX7_answerFor_18 : decode cX7_answerFor 18 = .ok (.aload_n 1, 1) := by decide +kernel
theorem dX7_answerFor_19 : decode cX7_answerFor 19 = .ok (.getfield 39, 3) := by decide +kernel
theorem dX7_answerFor_22 : decode cX7_answerFor 22 = .ok (.aload_n 1, 1) := by decide +kernel
theorem dX7_answerFor_23 : decode cX7_answerFor 23 = .ok (.getfield 45, 3) := by decide +kernel
theorem dX7_answerFor_26 : decode cX7_answerFor 26 = .ok (.invokevirtual 48, 3) := by decide +kernel
theorem dX7_answerFor_29 : decode cX7_answerFor 29 = .ok (.iconst 0, 1) := by decide +kernel
theorem dX7_answerFor_30 : decode cX7_answerFor 30 = .ok (.istore_n 2, 1) := by decide +kernel
theorem dX7_answerFor_31 : decode cX7_answerFor 31 = .ok (.iload_n 2, 1) := by decide +kernel
theorem dX7_answerFor_32 : decode cX7_answerFor 32 = .ok (.sipush 200, 3) := by decide +kernel
theorem dX7_answerFor_35 : decode cX7_answerFor 35 = .ok (.if_icmp .ge 30, 3) := by decide +kernel
theorem dX7_answerFor_38 : decode cX7_answerFor 38 = .ok (.iload_n 2, 1) := by decide +kernel
theorem dX7_answerFor_39 : decode cX7_answerFor 39 = .ok (.aload_n 0, 1) := by decide +kernel
theorem dX7_answerFor_40 : decode cX7_answerFor 40 = .ok (.getfield 28, 3) := by decide +kernel
theorem dX7_answerFor_43 : decode cX7_answerFor 43 = .ok (.if_icmp .ge 22, 3) := by decide +kernel
theorem dX7_answerFor_46 : decode cX7_answerFor 46 = .ok (.aload_n 0, 1) := by decide +kernel
theorem dX7_answerFor_47 : decode cX7_answerFor 47 = .ok (.getfield 32, 3) := by decide +kernel
theorem dX7_answerFor_50 : decode cX7_answerFor 50 = .ok (.iconst (-1), 1) := by decide +kernel
theorem dX7_answerFor_51 : decode cX7_answerFor 51 = .ok (.if_icmp .ne 14, 3) := by decide +kernel
theorem dX7_answerFor_54 : decode cX7_answerFor 54 = .ok (.aload_n 0, 1) := by decide +kernel
theorem dX7_answerFor_55 : decode cX7_answerFor 55 = .ok (.iload_n 2, 1) := by decide +kernel
theorem dX7_answerFor_56 : decode cX7_answerFor 56 = .ok (.invokevirtual 52, 3) := by decide +kernel
theorem dX7_answerFor_59 : decode cX7_answerFor 59 = .ok (.iinc 2 1, 3) := by decide +kernel
theorem dX7_answerFor_62 : decode cX7_answerFor 62 = .ok (.goto (-31), 3) := by decide +kernel
theorem dX7_answerFor_65 : decode cX7_answerFor 65 = .ok (.aload_n 0, 1) := by decide +kernel
theorem dX7_answerFor_66 : decode cX7_answerFor 66 = .ok (.getfield 32, 3) := by decide +kernel
theorem dX7_answerFor_69 : decode cX7_answerFor 69 = .ok (.iconst (-1), 1) := by decide +kernel
theorem dX7_answerFor_70 : decode cX7_answerFor 70 = .ok (.if_icmp .eq 5, 3) := by decide +kernel
theorem dX7_answerFor_73 : decode cX7_answerFor 73 = .ok (.iconst 1, 1) := by decide +kernel
theorem dX7_answerFor_74 : decode cX7_answerFor 74 = .ok (.ireturn, 1) := by decide +kernel
theorem dX7_answerFor_75 : decode cX7_answerFor 75 = .ok (.aload_n 0, 1) := by decide +kernel
theorem dX7_answerFor_76 : decode cX7_answerFor 76 = .ok (.getfield 35, 3) := by decide +kernel
theorem dX7_answerFor_79 : decode cX7_answerFor 79 = .ok (.ifCond .eq 7, 3) := by decide +kernel
theorem dX7_answerFor_82 : decode cX7_answerFor 82 = .ok (.iconst 2, 1) := by decide +kernel
theorem dX7_answerFor_83 : decode cX7_answerFor 83 = .ok (.goto 4, 3) := by decide +kernel
theorem dX7_answerFor_86 : decode cX7_answerFor 86 = .ok (.iconst 0, 1) := by decide +kernel
theorem dX7_answerFor_87 : decode cX7_answerFor 87 = .ok (.ireturn, 1) := by decide +kernel
theorem dX7_size_0 : decode cX7_size 0 = .ok (.aload_n 0, 1) := by decide +kernel
theorem dX7_size_1 : decode cX7_size 1 = .ok (.getfield 28, 3) := by decide +kernel
theorem dX7_size_4 : decode cX7_size 4 = .ok (.ireturn, 1) := by decide +kernel
theorem dX7_proofSize_0 : decode cX7_proofSize 0 = .ok (.aload_n 0, 1) := by decide +kernel
theorem dX7_proofSize_1 : decode cX7_proofSize 1 = .ok (.aload_n 0, 1) := by decide +kernel
theorem dX7_proofSize_2 : decode cX7_proofSize 2 = .ok (.getfield 32, 3) := by decide +kernel
theorem dX7_proofSize_5 : decode cX7_proofSize 5 = .ok (.invokevirtual 56, 3) := by decide +kernel
theorem dX7_proofSize_8 : decode cX7_proofSize 8 = .ok (.ifCond .eq 15, 3) := by decide +kernel
theorem dX7_proofSize_11 : decode cX7_proofSize 11 = .ok (.aload_n 0, 1) := by decide +kernel
theorem dX7_proofSize_12 : decode cX7_proofSize 12 = .ok (.getfield 25, 3) := by decide +kernel
theorem dX7_proofSize_15 : decode cX7_proofSize 15 = .ok (.aload_n 0, 1) := by decide +kernel
theorem dX7_proofSize_16 : decode cX7_proofSize 16 = .ok (.getfield 32, 3) := by decide +kernel
theorem dX7_proofSize_19 : decode cX7_proofSize 19 = .ok (.iaload, 1) := by decide +kernel
theorem dX7_proofSize_20 : decode cX7_proofSize 20 = .ok (.goto 4, 3) := by decide +kernel
theorem dX7_proofSize_23 : decode cX7_proofSize 23 = .ok (.iconst 0, 1) := by decide +kernel
theorem dX7_proofSize_24 : decode cX7_proofSize 24 = .ok (.ireturn, 1) := by decide +kernel
theorem dX7_ruleOfProof_0 : decode cX7_ruleOfProof 0 = .ok (.aload_n 0, 1) := by decide +kernel
theorem dX7_ruleOfProof_1 : decode cX7_ruleOfProof 1 = .ok (.getfield 32, 3) := by decide +kernel
theorem dX7_ruleOfProof_4 : decode cX7_ruleOfProof 4 = .ok (.istore_n 2, 1) := by decide +kernel
theorem dX7_ruleOfProof_5 : decode cX7_ruleOfProof 5 = .ok (.aload_n 0, 1) := by decide +kernel
theorem dX7_ruleOfProof_6 : decode cX7_ruleOfProof 6 = .ok (.invokevirtual 60, 3) := by decide +kernel
theorem dX7_ruleOfProof_9 : decode cX7_ruleOfProof 9 = .ok (.istore_n 3, 1) := by decide +kernel
theorem dX7_ruleOfProof_10 : decode cX7_ruleOfProof 10 = .ok (.iload_n 3, 1) := by decide +kernel
theorem dX7_ruleOfProof_11 : decode cX7_ruleOfProof 11 = .ok (.iload_n 1, 1) := by decide +kernel
theorem dX7_ruleOfProof_12 : decode cX7_ruleOfProof 12 = .ok (.iconst 1, 1) := by decide +kernel
theorem dX7_ruleOfProof_13 : decode cX7_ruleOfProof 13 = .ok (.iadd, 1) := by decide +kernel
theorem dX7_ruleOfProof_14 : decode cX7_ruleOfProof 14 = .ok (.if_icmp .le 24, 3) := by decide +kernel
theorem dX7_ruleOfProof_17 : decode cX7_ruleOfProof 17 = .ok (.aload_n 0, 1) := by decide +kernel
theorem dX7_ruleOfProof_18 : decode cX7_ruleOfProof 18 = .ok (.iload_n 2, 1) := by decide +kernel
theorem dX7_ruleOfProof_19 : decode cX7_ruleOfProof 19 = .ok (.invokevirtual 56, 3) := by decide +kernel
theorem dX7_ruleOfProof_22 : decode cX7_ruleOfProof 22 = .ok (.ifCond .eq 16, 3) := by decide +kernel
theorem dX7_ruleOfProof_25 : decode cX7_ruleOfProof 25 = .ok (.aload_n 0, 1) := by decide +kernel
theorem dX7_ruleOfProof_26 : decode cX7_ruleOfProof 26 = .ok (.getfield 18, 3) := by decide +kernel
theorem dX7_ruleOfProof_29 : decode cX7_ruleOfProof 29 = .ok (.iload_n 2, 1) := by decide +kernel
theorem dX7_ruleOfProof_30 : decode cX7_ruleOfProof 30 = .ok (.iaload, 1) := by decide +kernel
theorem dX7_ruleOfProof_31 : decode cX7_ruleOfProof 31 = .ok (.istore_n 2, 1) := by decide +kernel
theorem dX7_ruleOfProof_32 : decode cX7_ruleOfProof 32 = .ok (.iinc 3 (-1), 3) := by decide +kernel
theorem dX7_ruleOfProof_35 : decode cX7_ruleOfProof 35 = .ok (.goto (-25), 3) := by decide +kernel
theorem dX7_ruleOfProof_38 : decode cX7_ruleOfProof 38 = .ok (.aload_n 0, 1) := by decide +kernel
theorem dX7_ruleOfProof_39 : decode cX7_ruleOfProof 39 = .ok (.iload_n 2, 1) := by decide +kernel
theorem dX7_ruleOfProof_40 : decode cX7_ruleOfProof 40 = .ok (.invokevirtual 56, 3) := by decide +kernel
theorem dX7_ruleOfProof_43 : decode cX7_ruleOfProof 43 = .ok (.ifCond .eq 12, 3) := by decide +kernel
theorem dX7_ruleOfProof_46 : decode cX7_ruleOfProof 46 = .ok (.aload_n 0, 1) := by decide +kernel
theorem dX7_ruleOfProof_47 : decode cX7_ruleOfProof 47 = .ok (.getfield 22, 3) := by decide +kernel
theorem dX7_ruleOfProof_50 : decode cX7_ruleOfProof 50 = .ok (.iload_n 2, 1) := by decide +kernel
theorem dX7_ruleOfProof_51 : decode cX7_ruleOfProof 51 = .ok (.iaload, 1) := by decide +kernel
theorem dX7_ruleOfProof_52 : decode cX7_ruleOfProof 52 = .ok (.goto 5, 3) := by decide +kernel
theorem dX7_ruleOfProof_55 : decode cX7_ruleOfProof 55 = .ok (.bipush (-9), 2) := by decide +kernel
theorem dX7_ruleOfProof_57 : decode cX7_ruleOfProof 57 = .ok (.ireturn, 1) := by decide +kernel
theorem dX7_buildWitness_0 : decode cX7_buildWitness 0 = .ok (.aload_n 1, 1) := by decide +kernel
theorem dX7_buildWitness_1 : decode cX7_buildWitness 1 = .ok (.invokevirtual 64, 3) := by decide +kernel
theorem dX7_buildWitness_4 : decode cX7_buildWitness 4 = .ok (.aload_n 0, 1) := by decide +kernel
theorem dX7_buildWitness_5 : decode cX7_buildWitness 5 = .ok (.getfield 32, 3) := by decide +kernel
theorem dX7_buildWitness_8 : decode cX7_buildWitness 8 = .ok (.istore_n 2, 1) := by decide +kernel
theorem dX7_buildWitness_9 : decode cX7_buildWitness 9 = .ok (.aload_n 0, 1) := by decide +kernel
theorem dX7_buildWitness_10 : decode cX7_buildWitness 10 = .ok (.invokevirtual 60, 3) := by decide +kernel
theorem dX7_buildWitness_13 : decode cX7_buildWitness 13 = .ok (.istore_n 3, 1) := by decide +kernel
theorem dX7_buildWitness_14 : decode cX7_buildWitness 14 = .ok (.iload_n 3, 1) := by decide +kernel
theorem dX7_buildWitness_15 : decode cX7_buildWitness 15 = .ok (.ifCond .le 35, 3) := by decide +kernel
theorem dX7_buildWitness_18 : decode cX7_buildWitness 18 = .ok (.aload_n 0, 1) := by decide +kernel
theorem dX7_buildWitness_19 : decode cX7_buildWitness 19 = .ok (.iload_n 2, 1) := by decide +kernel
theorem dX7_buildWitness_20 : decode cX7_buildWitness 20 = .ok (.invokevirtual 56, 3) := by decide +kernel
theorem dX7_buildWitness_23 : decode cX7_buildWitness 23 = .ok (.ifCond .eq 27, 3) := by decide +kernel
theorem dX7_buildWitness_26 : decode cX7_buildWitness 26 = .ok (.aload_n 0, 1) := by decide +kernel
theorem dX7_buildWitness_27 : decode cX7_buildWitness 27 = .ok (.iload_n 2, 1) := by decide +kernel
theorem dX7_buildWitness_28 : decode cX7_buildWitness 28 = .ok (.aload_n 1, 1) := by decide +kernel
theorem dX7_buildWitness_29 : decode cX7_buildWitness 29 = .ok (.invokevirtual 69, 3) := by decide +kernel
theorem dX7_buildWitness_32 : decode cX7_buildWitness 32 = .ok (.ifCond .ne 5, 3) := by decide +kernel
theorem dX7_buildWitness_35 : decode cX7_buildWitness 35 = .ok (.iconst 0, 1) := by decide +kernel
theorem dX7_buildWitness_36 : decode cX7_buildWitness 36 = .ok (.ireturn, 1) := by decide +kernel
theorem dX7_buildWitness_37 : decode cX7_buildWitness 37 = .ok (.aload_n 0, 1) := by decide +kernel
theorem dX7_buildWitness_38 : decode cX7_buildWitness 38 = .ok (.getfield 18, 3) := by decide +kernel
theorem dX7_buildWitness_41 : decode cX7_buildWitness 41 = .ok (.iload_n 2, 1) := by decide +kernel
theorem dX7_buildWitness_42 : decode cX7_buildWitness 42 = .ok (.iaload, 1) := by decide +kernel
theorem dX7_buildWitness_43 : decode cX7_buildWitness 43 = .ok (.istore_n 2, 1) := by decide +kernel
theorem dX7_buildWitness_44 : decode cX7_buildWitness 44 = .ok (.iinc 3 (-1), 3) := by decide +kernel
theorem dX7_buildWitness_47 : decode cX7_buildWitness 47 = .ok (.goto (-33), 3) := by decide +kernel
theorem dX7_buildWitness_50 : decode cX7_buildWitness 50 = .ok (.iconst 1, 1) := by decide +kernel
theorem dX7_buildWitness_51 : decode cX7_buildWitness 51 = .ok (.ireturn, 1) := by decide +kernel
theorem dX7_takeRuleBack_0 : decode cX7_takeRuleBack 0 = .ok (.aload_n 0, 1) := by decide +kernel
theorem dX7_takeRuleBack_1 : decode cX7_takeRuleBack 1 = .ok (.iload_n 1, 1) := by decide +kernel
theorem dX7_takeRuleBack_2 : decode cX7_takeRuleBack 2 = .ok (.invokevirtual 56, 3) := by decide +kernel
theorem dX7_takeRuleBack_5 : decode cX7_takeRuleBack 5 = .ok (.ifCond .eq 12, 3) := by decide +kernel
theorem dX7_takeRuleBack_8 : decode cX7_takeRuleBack 8 = .ok (.aload_n 0, 1) := by decide +kernel
theorem dX7_takeRuleBack_9 : decode cX7_takeRuleBack 9 = .ok (.getfield 18, 3) := by decide +kernel
theorem dX7_takeRuleBack_12 : decode cX7_takeRuleBack 12 = .ok (.iload_n 1, 1) := by decide +kernel
theorem dX7_takeRuleBack_13 : decode cX7_takeRuleBack 13 = .ok (.iaload, 1) := by decide +kernel
theorem dX7_takeRuleBack_14 : decode cX7_takeRuleBack 14 = .ok (.goto 4, 3) := by decide +kernel
theorem dX7_takeRuleBack_17 : decode cX7_takeRuleBack 17 = .ok (.iconst (-1), 1) := by decide +kernel
theorem dX7_takeRuleBack_18 : decode cX7_takeRuleBack 18 = .ok (.istore_n 3, 1) := by decide +kernel
theorem dX7_takeRuleBack_19 : decode cX7_takeRuleBack 19 = .ok (.aload_n 0, 1) := by decide +kernel
theorem dX7_takeRuleBack_20 : decode cX7_takeRuleBack 20 = .ok (.iload_n 3, 1) := by decide +kernel
theorem dX7_takeRuleBack_21 : decode cX7_takeRuleBack 21 = .ok (.invokevirtual 56, 3) := by decide +kernel
theorem dX7_takeRuleBack_24 : decode cX7_takeRuleBack 24 = .ok (.ifCond .ne 5, 3) := by decide +kernel
theorem dX7_takeRuleBack_27 : decode cX7_takeRuleBack 27 = .ok (.iconst 1, 1) := by decide +kernel
theorem dX7_takeRuleBack_28 : decode cX7_takeRuleBack 28 = .ok (.ireturn, 1) := by decide +kernel
theorem dX7_takeRuleBack_29 : decode cX7_takeRuleBack 29 = .ok (.aload_n 0, 1) := by decide +kernel
theorem dX7_takeRuleBack_30 : decode cX7_takeRuleBack 30 = .ok (.getfield 11, 3) := by decide +kernel
theorem dX7_takeRuleBack_33 : decode cX7_takeRuleBack 33 = .ok (.iload_n 3, 1) := by decide +kernel
theorem dX7_takeRuleBack_34 : decode cX7_takeRuleBack 34 = .ok (.laload, 1) := by decide +kernel
theorem dX7_takeRuleBack_35 : decode cX7_takeRuleBack 35 = .ok (.invokestatic 73, 3) := by decide +kernel
theorem dX7_takeRuleBack_38 : decode cX7_takeRuleBack 38 = .ok (.istore 4, 2) := by decide +kernel
theorem dX7_takeRuleBack_40 : decode cX7_takeRuleBack 40 = .ok (.aload_n 0, 1) := by decide +kernel
theorem dX7_takeRuleBack_41 : decode cX7_takeRuleBack 41 = .ok (.getfield 15, 3) := by decide +kernel
theorem dX7_takeRuleBack_44 : decode cX7_takeRuleBack 44 = .ok (.iload_n 3, 1) := by decide +kernel
theorem dX7_takeRuleBack_45 : decode cX7_takeRuleBack 45 = .ok (.laload, 1) := by decide +kernel
theorem dX7_takeRuleBack_46 : decode cX7_takeRuleBack 46 = .ok (.invokestatic 73, 3) := by decide +kernel
theorem dX7_takeRuleBack_49 : decode cX7_takeRuleBack 49 = .ok (.istore 5, 2) := by decide +kernel
theorem dX7_takeRuleBack_51 : decode cX7_takeRuleBack 51 = .ok (.aload_n 0, 1) := by decide +kernel
theorem dX7_takeRuleBack_52 : decode cX7_takeRuleBack 52 = .ok (.getfield 22, 3) := by decide +kernel
theorem dX7_takeRuleBack_55 : decode cX7_takeRuleBack 55 = .ok (.iload_n 1, 1) := by decide +kernel
theorem dX7_takeRuleBack_56 : decode cX7_takeRuleBack 56 = .ok (.iaload, 1) := by decide +kernel
theorem dX7_takeRuleBack_57 : decode cX7_takeRuleBack 57 = .ok (.tableswitch 69 1 4 #[31, 41, 51, 60], 31) := by decide +kernel
theorem dX7_takeRuleBack_88 : decode cX7_takeRuleBack 88 = .ok (.aload_n 2, 1) := by decide +kernel
theorem dX7_takeRuleBack_89 : decode cX7_takeRuleBack 89 = .ok (.iload 4, 2) := by decide +kernel
theorem dX7_takeRuleBack_91 : decode cX7_takeRuleBack 91 = .ok (.lconst 0, 1) := by decide +kernel
theorem dX7_takeRuleBack_92 : decode cX7_takeRuleBack 92 = .ok (.iconst 0, 1) := by decide +kernel
theorem dX7_takeRuleBack_93 : decode cX7_takeRuleBack 93 = .ok (.invokevirtual 79, 3) := by decide +kernel
theorem dX7_takeRuleBack_96 : decode cX7_takeRuleBack 96 = .ok (.iconst 1, 1) := by decide +kernel
theorem dX7_takeRuleBack_97 : decode cX7_takeRuleBack 97 = .ok (.ireturn, 1) := by decide +kernel
theorem dX7_takeRuleBack_98 : decode cX7_takeRuleBack 98 = .ok (.aload_n 2, 1) := by decide +kernel
theorem dX7_takeRuleBack_99 : decode cX7_takeRuleBack 99 = .ok (.iload 5, 2) := by decide +kernel
theorem dX7_takeRuleBack_101 : decode cX7_takeRuleBack 101 = .ok (.lconst 0, 1) := by decide +kernel
theorem dX7_takeRuleBack_102 : decode cX7_takeRuleBack 102 = .ok (.iconst 0, 1) := by decide +kernel
theorem dX7_takeRuleBack_103 : decode cX7_takeRuleBack 103 = .ok (.invokevirtual 79, 3) := by decide +kernel
