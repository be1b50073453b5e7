theorem dX0_init_0 : decode cX0_init 0 = .ok (.aload_n 0, 1) := by decide +kernel
theorem dX0_init_1 : decode cX0_init 1 = .ok (.invokespecial 1, 3) := by decide +kernel
theorem dX0_init_4 : decode cX0_init 4 = .ok (.aload_n 0, 1) := by decide +kernel
theorem dX0_init_5 : decode cX0_init 5 = .ok (.getstatic 7, 3) := by decide +kernel
theorem dX0_init_8 : decode cX0_init 8 = .ok (.putfield 13, 3) := by decide +kernel
theorem dX0_init_11 : decode cX0_init 11 = .ok (.return_, 1) := by decide +kernel
theorem dX0_start_0 : decode cX0_start 0 = .ok (.aload_n 0, 1) := by decide +kernel
theorem dX0_start_1 : decode cX0_start 1 = .ok (.iload_n 1, 1) := by decide +kernel
theorem dX0_start_2 : decode cX0_start 2 = .ok (.putfield 18, 3) := by decide +kernel
theorem dX0_start_5 : decode cX0_start 5 = .ok (.aload_n 0, 1) := by decide +kernel
theorem dX0_start_6 : decode cX0_start 6 = .ok (.iload_n 1, 1) := by decide +kernel
theorem dX0_start_7 : decode cX0_start 7 = .ok (.iload_n 2, 1) := by decide +kernel
theorem dX0_start_8 : decode cX0_start 8 = .ok (.invokestatic 22, 3) := by decide +kernel
theorem dX0_start_11 : decode cX0_start 11 = .ok (.putfield 26, 3) := by decide +kernel
theorem dX0_start_14 : decode cX0_start 14 = .ok (.aload_n 0, 1) := by decide +kernel
theorem dX0_start_15 : decode cX0_start 15 = .ok (.iload_n 2, 1) := by decide +kernel
theorem dX0_start_16 : decode cX0_start 16 = .ok (.putfield 29, 3) := by decide +kernel
theorem dX0_start_19 : decode cX0_start 19 = .ok (.aload_n 0, 1) := by decide +kernel
theorem dX0_start_20 : decode cX0_start 20 = .ok (.iload_n 3, 1) := by decide +kernel
theorem dX0_start_21 : decode cX0_start 21 = .ok (.putfield 32, 3) := by decide +kernel
theorem dX0_start_24 : decode cX0_start 24 = .ok (.aload_n 0, 1) := by decide +kernel
theorem dX0_start_25 : decode cX0_start 25 = .ok (.aload 4, 2) := by decide +kernel
theorem dX0_start_27 : decode cX0_start 27 = .ok (.putfield 13, 3) := by decide +kernel
theorem dX0_start_30 : decode cX0_start 30 = .ok (.return_, 1) := by decide +kernel
theorem dX0_answered_0 : decode cX0_answered 0 = .ok (.aload_n 0, 1) := by decide +kernel
theorem dX0_answered_1 : decode cX0_answered 1 = .ok (.aload_n 0, 1) := by decide +kernel
theorem dX0_answered_2 : decode cX0_answered 2 = .ok (.getfield 26, 3) := by decide +kernel
theorem dX0_answered_5 : decode cX0_answered 5 = .ok (.iload_n 1, 1) := by decide +kernel
theorem dX0_answered_6 : decode cX0_answered 6 = .ok (.invokestatic 22, 3) := by decide +kernel
theorem dX0_answered_9 : decode cX0_answered 9 = .ok (.putfield 26, 3) := by decide +kernel
theorem dX0_answered_12 : decode cX0_answered 12 = .ok (.return_, 1) := by decide +kernel
theorem dX0_weigh_0 : decode cX0_weigh 0 = .ok (.aload_n 0, 1) := by decide +kernel
theorem dX0_weigh_1 : decode cX0_weigh 1 = .ok (.iload_n 1, 1) := by decide +kernel
theorem dX0_weigh_2 : decode cX0_weigh 2 = .ok (.iload_n 2, 1) := by decide +kernel
theorem dX0_weigh_3 : decode cX0_weigh 3 = .ok (.aload_n 3, 1) := by decide +kernel
theorem dX0_weigh_4 : decode cX0_weigh 4 = .ok (.arraylength, 1) := by decide +kernel
theorem dX0_weigh_5 : decode cX0_weigh 5 = .ok (.invokevirtual 35, 3) := by decide +kernel
theorem dX0_weigh_8 : decode cX0_weigh 8 = .ok (.ifCond .eq 18, 3) := by decide +kernel
theorem dX0_weigh_11 : decode cX0_weigh 11 = .ok (.aload_n 0, 1) := by decide +kernel
theorem dX0_weigh_12 : decode cX0_weigh 12 = .ok (.iload_n 1, 1) := by decide +kernel
theorem dX0_weigh_13 : decode cX0_weigh 13 = .ok (.putfield 29, 3) := by decide +kernel
theorem dX0_weigh_16 : decode cX0_weigh 16 = .ok (.aload_n 0, 1) := by decide +kernel
theorem dX0_weigh_17 : decode cX0_weigh 17 = .ok (.iload_n 2, 1) := by decide +kernel
theorem dX0_weigh_18 : decode cX0_weigh 18 = .ok (.putfield 32, 3) := by decide +kernel
theorem dX0_weigh_21 : decode cX0_weigh 21 = .ok (.aload_n 0, 1) := by decide +kernel
theorem dX0_weigh_22 : decode cX0_weigh 22 = .ok (.aload_n 3, 1) := by decide +kernel
theorem dX0_weigh_23 : decode cX0_weigh 23 = .ok (.putfield 13, 3) := by decide +kernel
theorem dX0_weigh_26 : decode cX0_weigh 26 = .ok (.return_, 1) := by decide +kernel
theorem dX0_isBetter_0 : decode cX0_isBetter 0 = .ok (.iload_n 2, 1) := by decide +kernel
theorem dX0_isBetter_1 : decode cX0_isBetter 1 = .ok (.aload_n 0, 1) := by decide +kernel
theorem dX0_isBetter_2 : decode cX0_isBetter 2 = .ok (.getfield 32, 3) := by decide +kernel
theorem dX0_isBetter_5 : decode cX0_isBetter 5 = .ok (.if_icmp .eq 17, 3) := by decide +kernel
theorem dX0_isBetter_8 : decode cX0_isBetter 8 = .ok (.iload_n 2, 1) := by decide +kernel
theorem dX0_isBetter_9 : decode cX0_isBetter 9 = .ok (.aload_n 0, 1) := by decide +kernel
theorem dX0_isBetter_10 : decode cX0_isBetter 10 = .ok (.getfield 32, 3) := by decide +kernel
theorem dX0_isBetter_13 : decode cX0_isBetter 13 = .ok (.if_icmp .le 7, 3) := by decide +kernel
theorem dX0_isBetter_16 : decode cX0_isBetter 16 = .ok (.iconst 1, 1) := by decide +kernel
theorem dX0_isBetter_17 : decode cX0_isBetter 17 = .ok (.goto 4, 3) := by decide +kernel
theorem dX0_isBetter_20 : decode cX0_isBetter 20 = .ok (.iconst 0, 1) := by decide +kernel
theorem dX0_isBetter_21 : decode cX0_isBetter 21 = .ok (.ireturn, 1) := by decide +kernel
theorem dX0_isBetter_22 : decode cX0_isBetter 22 = .ok (.iload_n 3, 1) := by decide +kernel
theorem dX0_isBetter_23 : decode cX0_isBetter 23 = .ok (.aload_n 0, 1) := by decide +kernel
theorem dX0_isBetter_24 : decode cX0_isBetter 24 = .ok (.getfield 13, 3) := by decide +kernel
theorem dX0_isBetter_27 : decode cX0_isBetter 27 = .ok (.arraylength, 1) := by decide +kernel
theorem dX0_isBetter_28 : decode cX0_isBetter 28 = .ok (.if_icmp .eq 18, 3) := by decide +kernel
theorem dX0_isBetter_31 : decode cX0_isBetter 31 = .ok (.iload_n 3, 1) := by decide +kernel
theorem dX0_isBetter_32 : decode cX0_isBetter 32 = .ok (.aload_n 0, 1) := by decide +kernel
theorem dX0_isBetter_33 : decode cX0_isBetter 33 = .ok (.getfield 13, 3) := by decide +kernel
theorem dX0_isBetter_36 : decode cX0_isBetter 36 = .ok (.arraylength, 1) := by decide +kernel
theorem dX0_isBetter_37 : decode cX0_isBetter 37 = .ok (.if_icmp .le 7, 3) := by decide +kernel
theorem dX0_isBetter_40 : decode cX0_isBetter 40 = .ok (.iconst 1, 1) := by decide +kernel
theorem dX0_isBetter_41 : decode cX0_isBetter 41 = .ok (.goto 4, 3) := by decide +kernel
theorem dX0_isBetter_44 : decode cX0_isBetter 44 = .ok (.iconst 0, 1) := by decide +kernel
theorem dX0_isBetter_45 : decode cX0_isBetter 45 = .ok (.ireturn, 1) := by decide +kernel
theorem dX0_isBetter_46 : decode cX0_isBetter 46 = .ok (.iload_n 1, 1) := by decide +kernel
theorem dX0_isBetter_47 : decode cX0_isBetter 47 = .ok (.aload_n 0, 1) := by decide +kernel
theorem dX0_isBetter_48 : decode cX0_isBetter 48 = .ok (.getfield 29, 3) := by decide +kernel
theorem dX0_isBetter_51 : decode cX0_isBetter 51 = .ok (.if_icmp .ge 7, 3) := by decide +kernel
theorem dX0_isBetter_54 : decode cX0_isBetter 54 = .ok (.iconst 1, 1) := by decide +kernel
theorem dX0_isBetter_55 : decode cX0_isBetter 55 = .ok (.goto 4, 3) := by decide +kernel
theorem dX0_isBetter_58 : decode cX0_isBetter 58 = .ok (.iconst 0, 1) := by decide +kernel
theorem dX0_isBetter_59 : decode cX0_isBetter 59 = .ok (.ireturn, 1) := by decide +kernel
theorem dX1_init_0 : decode cX1_init 0 = .ok (.aload_n 0, 1) := by decide +kernel
theorem dX1_init_1 : decode cX1_init 1 = .ok (.invokespecial 1, 3) := by decide +kernel
theorem dX1_init_4 : decode cX1_init 4 = .ok (.return_, 1) := by decide +kernel
theorem dX1_put_0 : decode cX1_put 0 = .ok (.aload_n 0, 1) := by decide +kernel
theorem dX1_put_1 : decode cX1_put 1 = .ok (.getfield 7, 3) := by decide +kernel
theorem dX1_put_4 : decode cX1_put 4 = .ok (.ifnonnull 11, 3) := by decide +kernel
theorem dX1_put_7 : decode cX1_put 7 = .ok (.aload_n 0, 1) := by decide +kernel
theorem dX1_put_8 : decode cX1_put 8 = .ok (.aload_n 1, 1) := by decide +kernel
theorem dX1_put_9 : decode cX1_put 9 = .ok (.putfield 13, 3) := by decide +kernel
theorem dX1_put_12 : decode cX1_put 12 = .ok (.goto 11, 3) := by decide +kernel
theorem dX1_put_15 : decode cX1_put 15 = .ok (.aload_n 0, 1) := by decide +kernel
theorem dX1_put_16 : decode cX1_put 16 = .ok (.getfield 7, 3) := by decide +kernel
theorem dX1_put_19 : decode cX1_put 19 = .ok (.aload_n 1, 1) := by decide +kernel
theorem dX1_put_20 : decode cX1_put 20 = .ok (.putfield 16, 3) := by decide +kernel
theorem dX1_put_23 : decode cX1_put 23 = .ok (.aload_n 0, 1) := by decide +kernel
theorem dX1_put_24 : decode cX1_put 24 = .ok (.aload_n 1, 1) := by decide +kernel
theorem dX1_put_25 : decode cX1_put 25 = .ok (.putfield 7, 3) := by decide +kernel
theorem dX1_put_28 : decode cX1_put 28 = .ok (.aload_n 0, 1) := by decide +kernel
theorem dX1_put_29 : decode cX1_put 29 = .ok (.dup, 1) := by decide +kernel
theorem dX1_put_30 : decode cX1_put 30 = .ok (.getfield 21, 3) := by decide +kernel
theorem dX1_put_33 : decode cX1_put 33 = .ok (.iconst 1, 1) := by decide +kernel
theorem dX1_put_34 : decode cX1_put 34 = .ok (.iadd, 1) := by decide +kernel
theorem dX1_put_35 : decode cX1_put 35 = .ok (.putfield 21, 3) := by decide +kernel
theorem dX1_put_38 : decode cX1_put 38 = .ok (.return_, 1) := by decide +kernel
theorem dX1_take_0 : decode cX1_take 0 = .ok (.aload_n 0, 1) := by decide +kernel
theorem dX1_take_1 : decode cX1_take 1 = .ok (.getfield 13, 3) := by decide +kernel
theorem dX1_take_4 : decode cX1_take 4 = .ok (.astore_n 1, 1) := by decide +kernel
theorem dX1_take_5 : decode cX1_take 5 = .ok (.aload_n 1, 1) := by decide +kernel
theorem dX1_take_6 : decode cX1_take 6 = .ok (.ifnonnull 5, 3) := by decide +kernel
theorem dX1_take_9 : decode cX1_take 9 = .ok (.aconst_null, 1) := by decide +kernel
theorem dX1_take_10 : decode cX1_take 10 = .ok (.areturn, 1) := by decide +kernel
theorem dX1_take_11 : decode cX1_take 11 = .ok (.aload_n 0, 1) := by decide +kernel
theorem dX1_take_12 : decode cX1_take 12 = .ok (.aload_n 1, 1) := by decide +kernel
theorem dX1_take_13 : decode cX1_take 13 = .ok (.getfield 16, 3) := by decide +kernel
theorem dX1_take_16 : decode cX1_take 16 = .ok (.putfield 13, 3) := by decide +kernel
theorem dX1_take_19 : decode cX1_take 19 = .ok (.aload_n 0, 1) := by decide +kernel
theorem dX1_take_20 : decode cX1_take 20 = .ok (.getfield 13, 3) := by decide +kernel
theorem dX1_take_23 : decode cX1_take 23 = .ok (.ifnonnull 8, 3) := by decide +kernel
theorem dX1_take_26 : decode cX1_take 26 = .ok (.aload_n 0, 1) := by decide +kernel
theorem dX1_take_27 : decode cX1_take 27 = .ok (.aconst_null, 1) := by decide +kernel
theorem dX1_take_28 : decode cX1_take 28 = .ok (.putfield 7, 3) := by decide +kernel
theorem dX1_take_31 : decode cX1_take 31 = .ok (.aload_n 0, 1) := by decide +kernel
theorem dX1_take_32 : decode cX1_take 32 = .ok (.dup, 1) := by decide +kernel
theorem dX1_take_33 : decode cX1_take 33 = .ok (.getfield 21, 3) := by decide +kernel
theorem dX1_take_36 : decode cX1_take 36 = .ok (.iconst 1, 1) := by decide +kernel
theorem dX1_take_37 : decode cX1_take 37 = .ok (.isub, 1) := by decide +kernel
theorem dX1_take_38 : decode cX1_take 38 = .ok (.putfield 21, 3) := by decide +kernel
theorem dX1_take_41 : decode cX1_take 41 = .ok (.aload_n 1, 1) := by decide +kernel
theorem dX1_take_42 : decode cX1_take 42 = .ok (.areturn, 1) := by decide +kernel
theorem dX2_init_0 : decode cX2_init 0 = .ok (.aload_n 0, 1) := by decide +kernel
theorem dX2_init_1 : decode cX2_init 1 = .ok (.invokespecial 3, 3) := by decide +kernel
theorem dX2_init_4 : decode cX2_init 4 = .ok (.aload_n 0, 1) := by decide +kernel
theorem dX2_init_5 : decode cX2_init 5 = .ok (.iload_n 1, 1) := by decide +kernel
theorem dX2_init_6 : decode cX2_init 6 = .ok (.putfield 9, 3) := by decide +kernel
theorem dX2_init_9 : decode cX2_init 9 = .ok (.aload_n 0, 1) := by decide +kernel
theorem dX2_init_10 : decode cX2_init 10 = .ok (.iload_n 2, 1) := by decide +kernel
theorem dX2_init_11 : decode cX2_init 11 = .ok (.putfield 15, 3) := by decide +kernel
theorem dX2_init_14 : decode cX2_init 14 = .ok (.aload_n 0, 1) := by decide +kernel
theorem dX2_init_15 : decode cX2_init 15 = .ok (.iload_n 3, 1) := by decide +kernel
theorem dX2_init_16 : decode cX2_init 16 = .ok (.putfield 18, 3) := by decide +kernel
theorem dX2_init_19 : decode cX2_init 19 = .ok (.aload_n 0, 1) := by decide +kernel
theorem dX2_init_20 : decode cX2_init 20 = .ok (.aload 4, 2) := by decide +kernel
theorem dX2_init_22 : decode cX2_init 22 = .ok (.putfield 21, 3) := by decide +kernel
theorem dX2_init_25 : decode cX2_init 25 = .ok (.return_, 1) := by decide +kernel
theorem dX2_firstAct_0 : decode cX2_firstAct 0 = .ok (.aload_n 0, 1) := by decide +kernel
theorem dX2_firstAct_1 : decode cX2_firstAct 1 = .ok (.getfield 21, 3) := by decide +kernel
theorem dX2_firstAct_4 : decode cX2_firstAct 4 = .ok (.arraylength, 1) := by decide +kernel
theorem dX2_firstAct_5 : decode cX2_firstAct 5 = .ok (.ifCond .le 12, 3) := by decide +kernel
theorem dX2_firstAct_8 : decode cX2_firstAct 8 = .ok (.aload_n 0, 1) := by decide +kernel
theorem dX2_firstAct_9 : decode cX2_firstAct 9 = .ok (.getfield 21, 3) := by decide +kernel
theorem dX2_firstAct_12 : decode cX2_firstAct 12 = .ok (.iconst 0, 1) := by decide +kernel
theorem dX2_firstAct_13 : decode cX2_firstAct 13 = .ok (.iaload, 1) := by decide +kernel
theorem dX2_firstAct_14 : decode cX2_firstAct 14 = .ok (.goto 4, 3) := by decide +kernel
theorem dX2_firstAct_17 : decode cX2_firstAct 17 = .ok (.iconst 0, 1) := by decide +kernel
theorem dX2_firstAct_18 : decode cX2_firstAct 18 = .ok (.ireturn, 1) := by decide +kernel
theorem dX2_tell_0 : decode cX2_tell 0 = .ok (.iload_n 1, 1) := by decide +kernel
theorem dX2_tell_1 : decode cX2_tell 1 = .ok (.tableswitch 52 0 3 #[31, 36, 41, 46], 31) := by decide +kernel
theorem dX2_tell_32 : decode cX2_tell 32 = .ok (.aload_n 0, 1) := by decide +kernel
theorem dX2_tell_33 : decode cX2_tell 33 = .ok (.getfield 9, 3) := by decide +kernel
theorem dX2_tell_36 : decode cX2_tell 36 = .ok (.ireturn, 1) := by decide +kernel
theorem dX2_tell_37 : decode cX2_tell 37 = .ok (.aload_n 0, 1) := by decide +kernel
theorem dX2_tell_38 : decode cX2_tell 38 = .ok (.getfield 15, 3) := by decide +kernel
theorem dX2_tell_41 : decode cX2_tell 41 = .ok (.ireturn, 1) := by decide +kernel
theorem dX2_tell_42 : decode cX2_tell 42 = .ok (.aload_n 0, 1) := by decide +kernel
theorem dX2_tell_43 : decode cX2_tell 43 = .ok (.getfield 18, 3) := by decide +kernel
theorem dX2_tell_46 : decode cX2_tell 46 = .ok (.ireturn, 1) := by decide +kernel
theorem dX2_tell_47 : decode cX2_tell 47 = .ok (.aload_n 0, 1) := by decide +kernel
theorem dX2_tell_48 : decode cX2_tell 48 = .ok (.getfield 21, 3) := by decide +kernel
theorem dX2_tell_51 : decode cX2_tell 51 = .ok (.arraylength, 1) := by decide +kernel
theorem dX2_tell_52 : decode cX2_tell 52 = .ok (.ireturn, 1) := by decide +kernel
theorem dX2_tell_53 : decode cX2_tell 53 = .ok (.iconst (-1), 1) := by decide +kernel
theorem dX2_tell_54 : decode cX2_tell 54 = .ok (.ireturn, 1) := by decide +kernel
theorem dX3_init_0 : decode cX3_init 0 = .ok (.aload_n 0, 1) := by decide +kernel
theorem dX3_init_1 : decode cX3_init 1 = .ok (.invokespecial 3, 3) := by decide +kernel
theorem dX3_init_4 : decode cX3_init 4 = .ok (.aload_n 0, 1) := by decide +kernel
theorem dX3_init_5 : decode cX3_init 5 = .ok (.bipush 20, 2) := by decide +kernel
theorem dX3_init_7 : decode cX3_init 7 = .ok (.newarray .int, 2) := by decide +kernel
theorem dX3_init_9 : decode cX3_init 9 = .ok (.putfield 9, 3) := by decide +kernel
theorem dX3_init_12 : decode cX3_init 12 = .ok (.return_, 1) := by decide +kernel
theorem dX3_carryOut_0 : decode cX3_carryOut 0 = .ok (.iload_n 1, 1) := by decide +kernel
theorem dX3_carryOut_1 : decode cX3_carryOut 1 = .ok (.tableswitch 70 1 5 #[35, 42, 49, 56, 63], 35) := by decide +kernel
theorem dX3_carryOut_36 : decode cX3_carryOut 36 = .ok (.aload_n 0, 1) := by decide +kernel
theorem dX3_carryOut_37 : decode cX3_carryOut 37 = .ok (.invokevirtual 15, 3) := by decide +kernel
theorem dX3_carryOut_40 : decode cX3_carryOut 40 = .ok (.goto 39, 3) := by decide +kernel
theorem dX3_carryOut_43 : decode cX3_carryOut 43 = .ok (.aload_n 0, 1) := by decide +kernel
theorem dX3_carryOut_44 : decode cX3_carryOut 44 = .ok (.invokevirtual 18, 3) := by decide +kernel
theorem dX3_carryOut_47 : decode cX3_carryOut 47 = .ok (.goto 32, 3) := by decide +kernel
theorem dX3_carryOut_50 : decode cX3_carryOut 50 = .ok (.aload_n 0, 1) := by decide +kernel
theorem dX3_carryOut_51 : decode cX3_carryOut 51 = .ok (.invokevirtual 21, 3) := by decide +kernel
theorem dX3_carryOut_54 : decode cX3_carryOut 54 = .ok (.goto 25, 3) := by decide +kernel
theorem dX3_carryOut_57 : decode cX3_carryOut 57 = .ok (.aload_n 0, 1) := by decide +kernel
theorem dX3_carryOut_58 : decode cX3_carryOut 58 = .ok (.invokevirtual 24, 3) := by decide +kernel
theorem dX3_carryOut_61 : decode cX3_carryOut 61 = .ok (.goto 18, 3) := by decide +kernel
theorem dX3_carryOut_64 : decode cX3_carryOut 64 = .ok (.aload_n 0, 1) := by decide +kernel
theorem dX3_carryOut_65 : decode cX3_carryOut 65 = .ok (.invokevirtual 27, 3) := by decide +kernel
theorem dX3_carryOut_68 : decode cX3_carryOut 68 = .ok (.goto 11, 3) := by decide +kernel
theorem dX3_carryOut_71 : decode cX3_carryOut 71 = .ok (.aload_n 0, 1) := by decide +kernel
theorem dX3_carryOut_72 : decode cX3_carryOut 72 = .ok (.iload_n 1, 1) := by decide +kernel
theorem dX3_carryOut_73 : decode cX3_carryOut 73 = .ok (.bipush 8, 2) := by decide +kernel
theorem dX3_carryOut_75 : decode cX3_carryOut 75 = .ok (.idiv, 1) := by decide +kernel
theorem dX3_carryOut_76 : decode cX3_carryOut 76 = .ok (.invokevirtual 30, 3) := by decide +kernel
theorem dX3_carryOut_79 : decode cX3_carryOut 79 = .ok (.return_, 1) := by decide +kernel
theorem dX3_fromTop_0 : decode cX3_fromTop 0 = .ok (.iload_n 1, 1) := by decide +kernel
theorem dX3_fromTop_1 : decode cX3_fromTop 1 = .ok (.ifCond .lt 27, 3) := by decide +kernel
theorem dX3_fromTop_4 : decode cX3_fromTop 4 = .ok (.iload_n 1, 1) := by decide +kernel
theorem dX3_fromTop_5 : decode cX3_fromTop 5 = .ok (.aload_n 0, 1) := by decide +kernel
theorem dX3_fromTop_6 : decode cX3_fromTop 6 = .ok (.getfield 34, 3) := by decide +kernel
theorem dX3_fromTop_9 : decode cX3_fromTop 9 = .ok (.if_icmp .ge 19, 3) := by decide +kernel
theorem dX3_fromTop_12 : decode cX3_fromTop 12 = .ok (.aload_n 0, 1) := by decide +kernel
theorem dX3_fromTop_13 : decode cX3_fromTop 13 = .ok (.getfield 9, 3) := by decide +kernel
theorem dX3_fromTop_16 : decode cX3_fromTop 16 = .ok (.aload_n 0, 1) := by decide +kernel
theorem dX3_fromTop_17 : decode cX3_fromTop 17 = .ok (.getfield 34, 3) := by decide +kernel
theorem dX3_fromTop_20 : decode cX3_fromTop 20 = .ok (.iconst 1, 1) := by decide +kernel
theorem dX3_fromTop_21 : decode cX3_fromTop 21 = .ok (.isub, 1) := by decide +kernel
theorem dX3_fromTop_22 : decode cX3_fromTop 22 = .ok (.iload_n 1, 1) := by decide +kernel
theorem dX3_fromTop_23 : decode cX3_fromTop 23 = .ok (.isub, 1) := by decide +kernel
theorem dX3_fromTop_24 : decode cX3_fromTop 24 = .ok (.iaload, 1) := by decide +kernel
theorem dX3_fromTop_25 : decode cX3_fromTop 25 = .ok (.goto 4, 3) := by decide +kernel
theorem dX3_fromTop_28 : decode cX3_fromTop 28 = .ok (.iconst 0, 1) := by decide +kernel
theorem dX3_fromTop_29 : decode cX3_fromTop 29 = .ok (.ireturn, 1) := by decide +kernel
theorem dX3_push_0 : decode cX3_push 0 = .ok (.aload_n 0, 1) := by decide +kernel
theorem dX3_push_1 : decode cX3_push 1 = .ok (.getfield 34, 3) := by decide +kernel
theorem dX3_push_4 : decode cX3_push 4 = .ok (.bipush 20, 2) := by decide +kernel
theorem dX3_push_6 : decode cX3_push 6 = .ok (.if_icmp .ge 23, 3) := by decide +kernel
theorem dX3_push_9 : decode cX3_push 9 = .ok (.aload_n 0, 1) := by decide +kernel
theorem dX3_push_10 : decode cX3_push 10 = .ok (.getfield 9, 3) := by decide +kernel
theorem dX3_push_13 : decode cX3_push 13 = .ok (.aload_n 0, 1) := by decide +kernel
theorem dX3_push_14 : decode cX3_push 14 = .ok (.getfield 34, 3) := by decide +kernel
theorem dX3_push_17 : decode cX3_push 17 = .ok (.iload_n 1, 1) := by decide +kernel
theorem dX3_push_18 : decode cX3_push 18 = .ok (.iastore, 1) := by decide +kernel
theorem dX3_push_19 : decode cX3_push 19 = .ok (.aload_n 0, 1) := by decide +kernel
theorem dX3_push_20 : decode cX3_push 20 = .ok (.dup, 1) := by decide +kernel
theorem dX3_push_21 : decode cX3_push 21 = .ok (.getfield 34, 3) := by decide +kernel
theorem dX3_push_24 : decode cX3_push 24 = .ok (.iconst 1, 1) := by decide +kernel
theorem dX3_push_25 : decode cX3_push 25 = .ok (.iadd, 1) := by decide +kernel
theorem dX3_push_26 : decode cX3_push 26 = .ok (.putfield 34, 3) := by decide +kernel
theorem dX3_push_29 : decode cX3_push 29 = .ok (.return_, 1) := by decide +kernel
theorem dX3_add_0 : decode cX3_add 0 = .ok (.aload_n 0, 1) := by decide +kernel
theorem dX3_add_1 : decode cX3_add 1 = .ok (.getfield 34, 3) := by decide +kernel
theorem dX3_add_4 : decode cX3_add 4 = .ok (.iconst 2, 1) := by decide +kernel
theorem dX3_add_5 : decode cX3_add 5 = .ok (.if_icmp .lt 38, 3) := by decide +kernel
theorem dX3_add_8 : decode cX3_add 8 = .ok (.aload_n 0, 1) := by decide +kernel
theorem dX3_add_9 : decode cX3_add 9 = .ok (.getfield 9, 3) := by decide +kernel
theorem dX3_add_12 : decode cX3_add 12 = .ok (.aload_n 0, 1) := by decide +kernel
theorem dX3_add_13 : decode cX3_add 13 = .ok (.getfield 34, 3) := by decide +kernel
theorem dX3_add_16 : decode cX3_add 16 = .ok (.iconst 2, 1) := by decide +kernel
theorem dX3_add_17 : decode cX3_add 17 = .ok (.isub, 1) := by decide +kernel
theorem dX3_add_18 : decode cX3_add 18 = .ok (.dup2, 1) := by decide +kernel
theorem dX3_add_19 : decode cX3_add 19 = .ok (.iaload, 1) := by decide +kernel
theorem dX3_add_20 : decode cX3_add 20 = .ok (.aload_n 0, 1) := by decide +kernel
theorem dX3_add_21 : decode cX3_add 21 = .ok (.getfield 9, 3) := by decide +kernel
theorem dX3_add_24 : decode cX3_add 24 = .ok (.aload_n 0, 1) := by decide +kernel
theorem dX3_add_25 : decode cX3_add 25 = .ok (.getfield 34, 3) := by decide +kernel
theorem dX3_add_28 : decode cX3_add 28 = .ok (.iconst 1, 1) := by decide +kernel
theorem dX3_add_29 : decode cX3_add 29 = .ok (.isub, 1) := by decide +kernel
theorem dX3_add_30 : decode cX3_add 30 = .ok (.iaload, 1) := by decide +kernel
theorem dX3_add_31 : decode cX3_add 31 = .ok (.iadd, 1) := by decide +kernel
theorem dX3_add_32 : decode cX3_add 32 = .ok (.iastore, 1) := by decide +kernel
theorem dX3_add_33 : decode cX3_add 33 = .ok (.aload_n 0, 1) := by decide +kernel
theorem dX3_add_34 : decode cX3_add 34 = .ok (.dup, 1) := by decide +kernel
theorem dX3_add_35 : decode cX3_add 35 = .ok (.getfield 34, 3) := by decide +kernel
theorem dX3_add_38 : decode cX3_add 38 = .ok (.iconst 1, 1) := by decide +kernel
theorem dX3_add_39 : decode cX3_add 39 = .ok (.isub, 1) := by decide +kernel
theorem dX3_add_40 : decode cX3_add 40 = .ok (.putfield 34, 3) := by decide +kernel
theorem dX3_add_43 : decode cX3_add 43 = .ok (.return_, 1) := by decide +kernel
theorem dX3_multiply_0 : decode cX3_multiply 0 = .ok (.aload_n 0, 1) := by decide +kernel
theorem dX3_multiply_1 : decode cX3_multiply 1 = .ok (.getfield 34, 3) := by decide +kernel
theorem dX3_multiply_4 : decode cX3_multiply 4 = .ok (.iconst 2, 1) := by decide +kernel
theorem dX3_multiply_5 : decode cX3_multiply 5 = .ok (.if_icmp .lt 38, 3) := by decide +kernel
theorem dX3_multiply_8 : decode cX3_multiply 8 = .ok (.aload_n 0, 1) := by decide +kernel
theorem dX3_multiply_9 : decode cX3_multiply 9 = .ok (.getfield 9, 3) := by decide +kernel
theorem dX3_multiply_12 : decode cX3_multiply 12 = .ok (.aload_n 0, 1) := by decide +kernel
theorem dX3_multiply_13 : decode cX3_multiply 13 = .ok (.getfield 34, 3) := by decide +kernel
theorem dX3_multiply_16 : decode cX3_multiply 16 = .ok (.iconst 2, 1) := by decide +kernel
theorem dX3_multiply_17 : decode cX3_multiply 17 = .ok (.isub, 1) := by decide +kernel
theorem dX3_multiply_18 : decode cX3_multiply 18 = .ok (.dup2, 1) := by decide +kernel
theorem dX3_multiply_19 : decode cX3_multiply 19 = .ok (.iaload, 1) := by decide +kernel
theorem dX3_multiply_20 : decode cX3_multiply 20 = .ok (.aload_n 0, 1) := by decide +kernel
theorem dX3_multiply_21 : decode cX3_multiply 21 = .ok (.getfield 9, 3) := by decide +kernel
theorem dX3_multiply_24 : decode cX3_multiply 24 = .ok (.aload_n 0, 1) := by decide +kernel
theorem dX3_multiply_25 : decode cX3_multiply 25 = .ok (.getfield 34, 3) := by decide +kernel
theorem dX3_multiply_28 : decode cX3_multiply 28 = .ok (.iconst 1, 1) := by decide +kernel
theorem dX3_multiply_29 : decode cX3_multiply 29 = .ok (.isub, 1) := by decide +kernel
theorem dX3_multiply_30 : decode cX3_multiply 30 = .ok (.iaload, 1) := by decide +kernel
theorem dX3_multiply_31 : decode cX3_multiply 31 = .ok (.imul, 1) := by decide +kernel
theorem dX3_multiply_32 : decode cX3_multiply 32 = .ok (.iastore, 1) := by decide +kernel
theorem dX3_multiply_33 : decode cX3_multiply 33 = .ok (.aload_n 0, 1) := by decide +kernel
theorem dX3_multiply_34 : decode cX3_multiply 34 = .ok (.dup, 1) := by decide +kernel
theorem dX3_multiply_35 : decode cX3_multiply 35 = .ok (.getfield 34, 3) := by decide +kernel
theorem dX3_multiply_38 : decode cX3_multiply 38 = .ok (.iconst 1, 1) := by decide +kernel
theorem dX3_multiply_39 : decode cX3_multiply 39 = .ok (.isub, 1) := by decide +kernel
theorem dX3_multiply_40 : decode cX3_multiply 40 = .ok (.putfield 34, 3) := by decide +kernel
theorem dX3_multiply_43 : decode cX3_multiply 43 = .ok (.return_, 1) := by decide +kernel
theorem dX3_duplicate_0 : decode cX3_duplicate 0 = .ok (.aload_n 0, 1) := by decide +kernel
theorem dX3_duplicate_1 : decode cX3_duplicate 1 = .ok (.getfield 34, 3) := by decide +kernel
theorem dX3_duplicate_4 : decode cX3_duplicate 4 = .ok (.iconst 1, 1) := by decide +kernel
theorem dX3_duplicate_5 : decode cX3_duplicate 5 = .ok (.if_icmp .lt 42, 3) := by decide +kernel
theorem dX3_duplicate_8 : decode cX3_duplicate 8 = .ok (.aload_n 0, 1) := by decide +kernel
theorem dX3_duplicate_9 : decode cX3_duplicate 9 = .ok (.getfield 34, 3) := by decide +kernel
theorem dX3_duplicate_12 : decode cX3_duplicate 12 = .ok (.bipush 20, 2) := by decide +kernel
theorem dX3_duplicate_14 : decode cX3_duplicate 14 = .ok (.if_icmp .ge 33, 3) := by decide +kernel
theorem dX3_duplicate_17 : decode cX3_duplicate 17 = .ok (.aload_n 0, 1) := by decide +kernel
theorem dX3_duplicate_18 : decode cX3_duplicate 18 = .ok (.getfield 9, 3) := by decide +kernel
theorem dX3_duplicate_21 : decode cX3_duplicate 21 = .ok (.aload_n 0, 1) := by decide +kernel
theorem dX3_duplicate_22 : decode cX3_duplicate 22 = .ok (.getfield 34, 3) := by decide +kernel
theorem dX3_duplicate_25 : decode cX3_duplicate 25 = .ok (.aload_n 0, 1) := by decide +kernel
theorem dX3_duplicate_26 : decode cX3_duplicate 26 = .ok (.getfield 9, 3) := by decide +kernel
theorem dX3_duplicate_29 : decode cX3_duplicate 29 = .ok (.aload_n 0, 1) := by decide +kernel
theorem dX3_duplicate_30 : decode cX3_duplicate 30 = .ok (.getfield 34, 3) := by decide +kernel
theorem dX3_duplicate_33 : decode cX3_duplicate 33 = .ok (.iconst 1, 1) := by decide +kernel
theorem dX3_duplicate_34 : decode cX3_duplicate 34 = .ok (.isub, 1) := by decide +kernel
theorem dX3_duplicate_35 : decode cX3_duplicate 35 = .ok (.iaload, 1) := by decide +kernel
theorem dX3_duplicate_36 : decode cX3_duplicate 36 = .ok (.iastore, 1) := by decide +kernel
theorem dX3_duplicate_37 : decode cX3_duplicate 37 = .ok (.aload_n 0, 1) := by decide +kernel
theorem dX3_duplicate_38 : decode cX3_duplicate 38 = .ok (.dup, 1) := by decide +kernel
theorem dX3_duplicate_39 : decode cX3_duplicate 39 = .ok (.getfield 34, 3) := by decide +kernel
theorem dX3_duplicate_42 : decode cX3_duplicate 42 = .ok (.iconst 1, 1) := by decide +kernel
theorem dX3_duplicate_43 : decode cX3_duplicate 43 = .ok (.iadd, 1) := by decide +kernel
theorem dX3_duplicate_44 : decode cX3_duplicate 44 = .ok (.putfield 34, 3) := by decide +kernel
theorem dX3_duplicate_47 : decode cX3_duplicate 47 = .ok (.return_, 1) := by decide +kernel
theorem dX3_drop_0 : decode cX3_drop 0 = .ok (.aload_n 0, 1) := by decide +kernel
theorem dX3_drop_1 : decode cX3_drop 1 = .ok (.getfield 34, 3) := by decide +kernel
theorem dX3_drop_4 : decode cX3_drop 4 = .ok (.iconst 1, 1) := by decide +kernel
theorem dX3_drop_5 : decode cX3_drop 5 = .ok (.if_icmp .lt 13, 3) := by decide +kernel
theorem dX3_drop_8 : decode cX3_drop 8 = .ok (.aload_n 0, 1) := by decide +kernel
theorem dX3_drop_9 : decode cX3_drop 9 = .ok (.dup, 1) := by decide +kernel
theorem dX3_drop_10 : decode cX3_drop 10 = .ok (.getfield 34, 3) := by decide +kernel
theorem dX3_drop_13 : decode cX3_drop 13 = .ok (.iconst 1, 1) := by decide +kernel
theorem dX3_drop_14 : decode cX3_drop 14 = .ok (.isub, 1) := by decide +kernel
theorem dX3_drop_15 : decode cX3_drop 15 = .ok (.putfield 34, 3) := by decide +kernel
theorem dX3_drop_18 : decode cX3_drop 18 = .ok (.return_, 1) := by decide +kernel
theorem dX3_swap_0 : decode cX3_swap 0 = .ok (.aload_n 0, 1) := by decide +kernel
theorem dX3_swap_1 : decode cX3_swap 1 = .ok (.getfield 34, 3) := by decide +kernel
theorem dX3_swap_4 : decode cX3_swap 4 = .ok (.iconst 2, 1) := by decide +kernel
theorem dX3_swap_5 : decode cX3_swap 5 = .ok (.if_icmp .lt 49, 3) := by decide +kernel
theorem dX3_swap_8 : decode cX3_swap 8 = .ok (.aload_n 0, 1) := by decide +kernel
theorem dX3_swap_9 : decode cX3_swap 9 = .ok (.getfield 9, 3) := by decide +kernel
theorem dX3_swap_12 : decode cX3_swap 12 = .ok (.aload_n 0, 1) := by decide +kernel
theorem dX3_swap_13 : decode cX3_swap 13 = .ok (.getfield 34, 3) := by decide +kernel
theorem dX3_swap_16 : decode cX3_swap 16 = .ok (.iconst 1, 1) := by decide +kernel
theorem dX3_swap_17 : decode cX3_swap 17 = .ok (.isub, 1) := by decide +kernel
theorem dX3_swap_18 : decode cX3_swap 18 = .ok (.iaload, 1) := by decide +kernel
theorem dX3_swap_19 : decode cX3_swap 19 = .ok (.istore_n 1, 1) := by decide +kernel
theorem dX3_swap_20 : decode cX3_swap 20 = .ok (.aload_n 0, 1) := by decide +kernel
theorem dX3_swap_21 : decode cX3_swap 21 = .ok (.getfield 9, 3) := by decide +kernel
theorem dX3_swap_24 : decode cX3_swap 24 = .ok (.aload_n 0, 1) := by decide +kernel
theorem dX3_swap_25 : decode cX3_swap 25 = .ok (.getfield 34, 3) := by decide +kernel
theorem dX3_swap_28 : decode cX3_swap 28 = .ok (.iconst 1, 1) := by decide +kernel
theorem dX3_swap_29 : decode cX3_swap 29 = .ok (.isub, 1) := by decide +kernel
theorem dX3_swap_30 : decode cX3_swap 30 = .ok (.aload_n 0, 1) := by decide +kernel
theorem dX3_swap_31 : decode cX3_swap 31 = .ok (.getfield 9, 3) := by decide +kernel
theorem dX3_swap_34 : decode cX3_swap 34 = .ok (.aload_n 0, 1) := by decide +kernel
theorem dX3_swap_35 : decode cX3_swap 35 = .ok (.getfield 34, 3) := by decide +kernel
theorem dX3_swap_38 : decode cX3_swap 38 = .ok (.iconst 2, 1) := by decide +kernel
theorem dX3_swap_39 : decode cX3_swap 39 = .ok (.isub, 1) := by decide +kernel
theorem dX3_swap_40 : decode cX3_swap 40 = .ok (.iaload, 1) := by decide +kernel
theorem dX3_swap_41 : decode cX3_swap 41 = .ok (.iastore, 1) := by decide +kernel
theorem dX3_swap_42 : decode cX3_swap 42 = .ok (.aload_n 0, 1) := by decide +kernel
theorem dX3_swap_43 : decode cX3_swap 43 = .ok (.getfield 9, 3) := by decide +kernel
theorem dX3_swap_46 : decode cX3_swap 46 = .ok (.aload_n 0, 1) := by decide +kernel
theorem dX3_swap_47 : decode cX3_swap 47 = .ok (.getfield 34, 3) := by decide +kernel
theorem dX3_swap_50 : decode cX3_swap 50 = .ok (.iconst 2, 1) := by decide +kernel
theorem dX3_swap_51 : decode cX3_swap 51 = .ok (.isub, 1) := by decide +kernel
theorem dX3_swap_52 : decode cX3_swap 52 = .ok (.iload_n 1, 1) := by decide +kernel
theorem dX3_swap_53 : decode cX3_swap 53 = .ok (.iastore, 1) := by decide +kernel
theorem dX3_swap_54 : decode cX3_swap 54 = .ok (.return_, 1) := by decide +kernel
theorem dX4_init_0 : decode cX4_init 0 = .ok (.aload_n 0, 1) := by decide +kernel
theorem dX4_init_1 : decode cX4_init 1 = .ok (.invokespecial 3, 3) := by decide +kernel
theorem dX4_init_4 : decode cX4_init 4 = .ok (.aload_n 0, 1) := by decide +kernel
theorem dX4_init_5 : decode cX4_init 5 = .ok (.new 9, 3) := by decide +kernel
theorem dX4_init_8 : decode cX4_init 8 = .ok (.dup, 1) := by decide +kernel
theorem dX4_init_9 : decode cX4_init 9 = .ok (.invokespecial 11, 3) := by decide +kernel
theorem dX4_init_12 : decode cX4_init 12 = .ok (.putfield 12, 3) := by decide +kernel
theorem dX4_init_15 : decode cX4_init 15 = .ok (.aload_n 0, 1) := by decide +kernel
theorem dX4_init_16 : decode cX4_init 16 = .ok (.new 18, 3) := by decide +kernel
theorem dX4_init_19 : decode cX4_init 19 = .ok (.dup, 1) := by decide +kernel
theorem dX4_init_20 : decode cX4_init 20 = .ok (.invokespecial 20, 3) := by decide +kernel
theorem dX4_init_23 : decode cX4_init 23 = .ok (.putfield 21, 3) := by decide +kernel
theorem dX4_init_26 : decode cX4_init 26 = .ok (.aload_n 0, 1) := by decide +kernel
theorem dX4_init_27 : decode cX4_init 27 = .ok (.new 25, 3) := by decide +kernel
theorem dX4_init_30 : decode cX4_init 30 = .ok (.dup, 1) := by decide +kernel
theorem dX4_init_31 : decode cX4_init 31 = .ok (.invokespecial 27, 3) := by decide +kernel
theorem dX4_init_34 : decode cX4_init 34 = .ok (.putfield 28, 3) := by decide +kernel
theorem dX4_init_37 : decode cX4_init 37 = .ok (.aload_n 0, 1) := by decide +kernel
theorem dX4_init_38 : decode cX4_init 38 = .ok (.iconst 0, 1) := by decide +kernel
theorem dX4_init_39 : decode cX4_init 39 = .ok (.putfield 32, 3) := by decide +kernel
theorem dX4_init_42 : decode cX4_init 42 = .ok (.aload_n 0, 1) := by decide +kernel
theorem dX4_init_43 : decode cX4_init 43 = .ok (.iconst 0, 1) := by decide +kernel
theorem dX4_init_44 : decode cX4_init 44 = .ok (.putfield 36, 3) := by decide +kernel
theorem dX4_init_47 : decode cX4_init 47 = .ok (.aload_n 0, 1) := by decide +kernel
theorem dX4_init_48 : decode cX4_init 48 = .ok (.iconst (-1), 1) := by decide +kernel
theorem dX4_init_49 : decode cX4_init 49 = .ok (.putfield 39, 3) := by decide +kernel
theorem dX4_init_52 : decode cX4_init 52 = .ok (.aload_n 0, 1) := by decide +kernel
theorem dX4_init_53 : decode cX4_init 53 = .ok (.iload_n 1, 1) := by decide +kernel
theorem dX4_init_54 : decode cX4_init 54 = .ok (.putfield 42, 3) := by decide +kernel
theorem dX4_init_57 : decode cX4_init 57 = .ok (.aload_n 0, 1) := by decide +kernel
theorem dX4_init_58 : decode cX4_init 58 = .ok (.iload_n 2, 1) := by decide +kernel
theorem dX4_init_59 : decode cX4_init 59 = .ok (.putfield 45, 3) := by decide +kernel
theorem dX4_init_62 : decode cX4_init 62 = .ok (.aload_n 0, 1) := by decide +kernel
theorem dX4_init_63 : decode cX4_init 63 = .ok (.aload_n 3, 1) := by decide +kernel
theorem dX4_init_64 : decode cX4_init 64 = .ok (.putfield 48, 3) := by decide +kernel
theorem dX4_init_67 : decode cX4_init 67 = .ok (.aload_n 0, 1) := by decide +kernel
theorem dX4_init_68 : decode cX4_init 68 = .ok (.aload 4, 2) := by decide +kernel
theorem dX4_init_70 : decode cX4_init 70 = .ok (.putfield 52, 3) := by decide +kernel
theorem dX4_init_73 : decode cX4_init 73 = .ok (.aload_n 0, 1) := by decide +kernel
theorem dX4_init_74 : decode cX4_init 74 = .ok (.iload_n 2, 1) := by decide +kernel
theorem dX4_init_75 : decode cX4_init 75 = .ok (.newarray .int, 2) := by decide +kernel
theorem dX4_init_77 : decode cX4_init 77 = .ok (.putfield 56, 3) := by decide +kernel
theorem dX4_init_80 : decode cX4_init 80 = .ok (.aload_n 0, 1) := by decide +kernel
theorem dX4_init_81 : decode cX4_init 81 = .ok (.iconst 1, 1) := by decide +kernel
theorem dX4_init_82 : decode cX4_init 82 = .ok (.iload_n 2, 1) := by decide +kernel
theorem dX4_init_83 : decode cX4_init 83 = .ok (.ishl, 1) := by decide +kernel
theorem dX4_init_84 : decode cX4_init 84 = .ok (.iconst 1, 1) := by decide +kernel
theorem dX4_init_85 : decode cX4_init 85 = .ok (.isub, 1) := by decide +kernel
theorem dX4_init_86 : decode cX4_init 86 = .ok (.putfield 60, 3) := by decide +kernel
theorem dX4_init_89 : decode cX4_init 89 = .ok (.return_, 1) := by decide +kernel
theorem dX4_tell_0 : decode cX4_tell 0 = .ok (.iload_n 1, 1) := by decide +kernel
theorem dX4_tell_1 : decode cX4_tell 1 = .ok (.tableswitch 148 0 11 #[63, 68, 73, 78, 83, 88, 93, 98, 106, 111, 116, 129], 63) := by decide +kernel
theorem dX4_tell_64 : decode cX4_tell 64 = .ok (.aload_n 0, 1) := by decide +kernel
theorem dX4_tell_65 : decode cX4_tell 65 = .ok (.getfield 32, 3) := by decide +kernel
theorem dX4_tell_68 : decode cX4_tell 68 = .ok (.ireturn, 1) := by decide +kernel
theorem dX4_tell_69 : decode cX4_tell 69 = .ok (.aload_n 0, 1) := by decide +kernel
theorem dX4_tell_70 : decode cX4_tell 70 = .ok (.getfield 36, 3) := by decide +kernel
theorem dX4_tell_73 : decode cX4_tell 73 = .ok (.ireturn, 1) := by decide +kernel
theorem dX4_tell_74 : decode cX4_tell 74 = .ok (.aload_n 0, 1) := by decide +kernel
theorem dX4_tell_75 : decode cX4_tell 75 = .ok (.getfield 63, 3) := by decide +kernel
theorem dX4_tell_78 : decode cX4_tell 78 = .ok (.ireturn, 1) := by decide +kernel
theorem dX4_tell_79 : decode cX4_tell 79 = .ok (.aload_n 0, 1) := by decide +kernel
theorem dX4_tell_80 : decode cX4_tell 80 = .ok (.getfield 60, 3) := by decide +kernel
theorem dX4_tell_83 : decode cX4_tell 83 = .ok (.ireturn, 1) := by decide +kernel
theorem dX4_tell_84 : decode cX4_tell 84 = .ok (.aload_n 0, 1) := by decide +kernel
theorem dX4_tell_85 : decode cX4_tell 85 = .ok (.invokevirtual 66, 3) := by decide +kernel
theorem dX4_tell_88 : decode cX4_tell 88 = .ok (.ireturn, 1) := by decide +kernel
theorem dX4_tell_89 : decode cX4_tell 89 = .ok (.aload_n 0, 1) := by decide +kernel
theorem dX4_tell_90 : decode cX4_tell 90 = .ok (.getfield 70, 3) := by decide +kernel
theorem dX4_tell_93 : decode cX4_tell 93 = .ok (.ireturn, 1) := by decide +kernel
theorem dX4_tell_94 : decode cX4_tell 94 = .ok (.aload_n 0, 1) := by decide +kernel
theorem dX4_tell_95 : decode cX4_tell 95 = .ok (.getfield 73, 3) := by decide +kernel
theorem dX4_tell_98 : decode cX4_tell 98 = .ok (.ireturn, 1) := by decide +kernel
theorem dX4_tell_99 : decode cX4_tell 99 = .ok (.aload_n 0, 1) := by decide +kernel
theorem dX4_tell_100 : decode cX4_tell 100 = .ok (.getfield 12, 3) := by decide +kernel
theorem dX4_tell_103 : decode cX4_tell 103 = .ok (.getfield 76, 3) := by decide +kernel
theorem dX4_tell_106 : decode cX4_tell 106 = .ok (.ireturn, 1) := by decide +kernel
theorem dX4_tell_107 : decode cX4_tell 107 = .ok (.aload_n 0, 1) := by decide +kernel
theorem dX4_tell_108 : decode cX4_tell 108 = .ok (.getfield 79, 3) := by decide +kernel
theorem dX4_tell_111 : decode cX4_tell 111 = .ok (.ireturn, 1) := by decide +kernel
theorem dX4_tell_112 : decode cX4_tell 112 = .ok (.aload_n 0, 1) := by decide +kernel
theorem dX4_tell_113 : decode cX4_tell 113 = .ok (.getfield 82, 3) := by decide +kernel
theorem dX4_tell_116 : decode cX4_tell 116 = .ok (.ireturn, 1) := by decide +kernel
theorem dX4_tell_117 : decode cX4_tell 117 = .ok (.aload_n 0, 1) := by decide +kernel
theorem dX4_tell_118 : decode cX4_tell 118 = .ok (.invokevirtual 85, 3) := by decide +kernel
theorem dX4_tell_121 : decode cX4_tell 121 = .ok (.ifCond .eq 7, 3) := by decide +kernel
theorem dX4_tell_124 : decode cX4_tell 124 = .ok (.iconst 1, 1) := by decide +kernel
theorem dX4_tell_125 : decode cX4_tell 125 = .ok (.goto 4, 3) := by decide +kernel
theorem dX4_tell_128 : decode cX4_tell 128 = .ok (.iconst 0, 1) := by decide +kernel
theorem dX4_tell_129 : decode cX4_tell 129 = .ok (.ireturn, 1) := by decide +kernel
theorem dX4_tell_130 : decode cX4_tell 130 = .ok (.aload_n 0, 1) := by decide +kernel
theorem dX4_tell_131 : decode cX4_tell 131 = .ok (.invokevirtual 89, 3) := by decide +kernel
theorem dX4_tell_134 : decode cX4_tell 134 = .ok (.ifCond .eq 13, 3) := by decide +kernel
theorem dX4_tell_137 : decode cX4_tell 137 = .ok (.aload_n 0, 1) := by decide +kernel
theorem dX4_tell_138 : decode cX4_tell 138 = .ok (.getfield 28, 3) := by decide +kernel
theorem dX4_tell_141 : decode cX4_tell 141 = .ok (.getfield 92, 3) := by decide +kernel
theorem dX4_tell_144 : decode cX4_tell 144 = .ok (.goto 4, 3) := by decide +kernel
theorem dX4_tell_147 : decode cX4_tell 147 = .ok (.iconst 0, 1) := by decide +kernel
theorem dX4_tell_148 : decode cX4_tell 148 = .ok (.ireturn, 1) := by decide +kernel
theorem dX4_tell_149 : decode cX4_tell 149 = .ok (.iconst (-1), 1) := by decide +kernel
theorem dX4_tell_150 : decode cX4_tell 150 = .ok (.ireturn, 1) := by decide +kernel
theorem dX4_isLive_0 : decode cX4_isLive 0 = .ok (.aload_n 0, 1) := by decide +kernel
theorem dX4_isLive_1 : decode cX4_isLive 1 = .ok (.getfield 32, 3) := by decide +kernel
theorem dX4_isLive_4 : decode cX4_isLive 4 = .ok (.ifCond .ne 7, 3) := by decide +kernel
theorem dX4_isLive_7 : decode cX4_isLive 7 = .ok (.iconst 1, 1) := by decide +kernel
theorem dX4_isLive_8 : decode cX4_isLive 8 = .ok (.goto 4, 3) := by decide +kernel
theorem dX4_isLive_11 : decode cX4_isLive 11 = .ok (.iconst 0, 1) := by decide +kernel
theorem dX4_isLive_12 : decode cX4_isLive 12 = .ok (.ireturn, 1) := by decide +kernel
theorem dX4_isBlocked_0 : decode cX4_isBlocked 0 = .ok (.aload_n 0, 1) := by decide +kernel
theorem dX4_isBlocked_1 : decode cX4_isBlocked 1 = .ok (.getfield 70, 3) := by decide +kernel
theorem dX4_isBlocked_4 : decode cX4_isBlocked 4 = .ok (.aload_n 0, 1) := by decide +kernel
theorem dX4_isBlocked_5 : decode cX4_isBlocked 5 = .ok (.getfield 63, 3) := by decide +kernel
theorem dX4_isBlocked_8 : decode cX4_isBlocked 8 = .ok (.if_icmp .eq 7, 3) := by decide +kernel
theorem dX4_isBlocked_11 : decode cX4_isBlocked 11 = .ok (.iconst 1, 1) := by decide +kernel
theorem dX4_isBlocked_12 : decode cX4_isBlocked 12 = .ok (.goto 4, 3) := by decide +kernel
theorem dX4_isBlocked_15 : decode cX4_isBlocked 15 = .ok (.iconst 0, 1) := by decide +kernel
theorem dX4_isBlocked_16 : decode cX4_isBlocked 16 = .ok (.ireturn, 1) := by decide +kernel
theorem dX4_isChanging_0 : decode cX4_isChanging 0 = .ok (.aload_n 0, 1) := by decide +kernel
theorem dX4_isChanging_1 : decode cX4_isChanging 1 = .ok (.getfield 36, 3) := by decide +kernel
theorem dX4_isChanging_4 : decode cX4_isChanging 4 = .ok (.iconst 3, 1) := by decide +kernel
theorem dX4_isChanging_5 : decode cX4_isChanging 5 = .ok (.if_icmp .eq 11, 3) := by decide +kernel
theorem dX4_isChanging_8 : decode cX4_isChanging 8 = .ok (.aload_n 0, 1) := by decide +kernel
theorem dX4_isChanging_9 : decode cX4_isChanging 9 = .ok (.getfield 36, 3) := by decide +kernel
theorem dX4_isChanging_12 : decode cX4_isChanging 12 = .ok (.iconst 4, 1) := by decide +kernel
theorem dX4_isChanging_13 : decode cX4_isChanging 13 = .ok (.if_icmp .ne 7, 3) := by decide +kernel
theorem dX4_isChanging_16 : decode cX4_isChanging 16 = .ok (.iconst 1, 1) := by decide +kernel
theorem dX4_isChanging_17 : decode cX4_isChanging 17 = .ok (.goto 4, 3) := by decide +kernel
theorem dX4_isChanging_20 : decode cX4_isChanging 20 = .ok (.iconst 0, 1) := by decide +kernel
theorem dX4_isChanging_21 : decode cX4_isChanging 21 = .ok (.ireturn, 1) := by decide +kernel
theorem dX4_leader_0 : decode cX4_leader 0 = .ok (.aload_n 0, 1) := by decide +kernel
theorem dX4_leader_1 : decode cX4_leader 1 = .ok (.getfield 45, 3) := by decide +kernel
theorem dX4_leader_4 : decode cX4_leader 4 = .ok (.iconst 1, 1) := by decide +kernel
theorem dX4_leader_5 : decode cX4_leader 5 = .ok (.isub, 1) := by decide +kernel
theorem dX4_leader_6 : decode cX4_leader 6 = .ok (.istore_n 1, 1) := by decide +kernel
theorem dX4_leader_7 : decode cX4_leader 7 = .ok (.iload_n 1, 1) := by decide +kernel
theorem dX4_leader_8 : decode cX4_leader 8 = .ok (.ifCond .le 22, 3) := by decide +kernel
theorem dX4_leader_11 : decode cX4_leader 11 = .ok (.aload_n 0, 1) := by decide +kernel
theorem dX4_leader_12 : decode cX4_leader 12 = .ok (.getfield 60, 3) := by decide +kernel
theorem dX4_leader_15 : decode cX4_leader 15 = .ok (.iload_n 1, 1) := by decide +kernel
theorem dX4_leader_16 : decode cX4_leader 16 = .ok (.invokestatic 93, 3) := by decide +kernel
theorem dX4_leader_19 : decode cX4_leader 19 = .ok (.ifCond .eq 5, 3) := by decide +kernel
theorem dX4_leader_22 : decode cX4_leader 22 = .ok (.iload_n 1, 1) := by decide +kernel
theorem dX4_leader_23 : decode cX4_leader 23 = .ok (.ireturn, 1) := by decide +kernel
theorem dX4_leader_24 : decode cX4_leader 24 = .ok (.iinc 1 (-1), 3) := by decide +kernel
theorem dX4_leader_27 : decode cX4_leader 27 = .ok (.goto (-20), 3) := by decide +kernel
theorem dX4_leader_30 : decode cX4_leader 30 = .ok (.iconst 0, 1) := by decide +kernel
theorem dX4_leader_31 : decode cX4_leader 31 = .ok (.ireturn, 1) := by decide +kernel
theorem dX4_leadsUnblocked_0 : decode cX4_leadsUnblocked 0 = .ok (.aload_n 0, 1) := by decide +kernel
theorem dX4_leadsUnblocked_1 : decode cX4_leadsUnblocked 1 = .ok (.invokevirtual 66, 3) := by decide +kernel
theorem dX4_leadsUnblocked_4 : decode cX4_leadsUnblocked 4 = .ok (.aload_n 0, 1) := by decide +kernel
theorem dX4_leadsUnblocked_5 : decode cX4_leadsUnblocked 5 = .ok (.getfield 42, 3) := by decide +kernel
theorem dX4_leadsUnblocked_8 : decode cX4_leadsUnblocked 8 = .ok (.if_icmp .ne 14, 3) := by decide +kernel
theorem dX4_leadsUnblocked_11 : decode cX4_leadsUnblocked 11 = .ok (.aload_n 0, 1) := by decide +kernel
theorem dX4_leadsUnblocked_12 : decode cX4_leadsUnblocked 12 = .ok (.invokevirtual 85, 3) := by decide +kernel
theorem dX4_leadsUnblocked_15 : decode cX4_leadsUnblocked 15 = .ok (.ifCond .ne 7, 3) := by decide +kernel
theorem dX4_leadsUnblocked_18 : decode cX4_leadsUnblocked 18 = .ok (.iconst 1, 1) := by decide +kernel
theorem dX4_leadsUnblocked_19 : decode cX4_leadsUnblocked 19 = .ok (.goto 4, 3) := by decide +kernel
theorem dX4_leadsUnblocked_22 : decode cX4_leadsUnblocked 22 = .ok (.iconst 0, 1) := by decide +kernel
theorem dX4_leadsUnblocked_23 : decode cX4_leadsUnblocked 23 = .ok (.ireturn, 1) := by decide +kernel
theorem dX4_areMost_0 : decode cX4_areMost 0 = .ok (.iload_n 1, 1) := by decide +kernel
theorem dX4_areMost_1 : decode cX4_areMost 1 = .ok (.invokestatic 97, 3) := by decide +kernel
theorem dX4_areMost_4 : decode cX4_areMost 4 = .ok (.iconst 2, 1) := by decide +kernel
theorem dX4_areMost_5 : decode cX4_areMost 5 = .ok (.imul, 1) := by decide +kernel
theorem dX4_areMost_6 : decode cX4_areMost 6 = .ok (.aload_n 0, 1) := by decide +kernel
theorem dX4_areMost_7 : decode cX4_areMost 7 = .ok (.getfield 45, 3) := by decide +kernel
theorem dX4_areMost_10 : decode cX4_areMost 10 = .ok (.if_icmp .le 7, 3) := by decide +kernel
theorem dX4_areMost_13 : decode cX4_areMost 13 = .ok (.iconst 1, 1) := by decide +kernel
theorem dX4_areMost_14 : decode cX4_areMost 14 = .ok (.goto 4, 3) := by decide +kernel
theorem dX4_areMost_17 : decode cX4_areMost 17 = .ok (.iconst 0, 1) := by decide +kernel
theorem dX4_areMost_18 : decode cX4_areMost 18 = .ok (.ireturn, 1) := by decide +kernel
theorem dX4_others_0 : decode cX4_others 0 = .ok (.aload_n 0, 1) := by decide +kernel
theorem dX4_others_1 : decode cX4_others 1 = .ok (.getfield 60, 3) := by decide +kernel
theorem dX4_others_4 : decode cX4_others 4 = .ok (.aload_n 0, 1) := by decide +kernel
theorem dX4_others_5 : decode cX4_others 5 = .ok (.getfield 42, 3) := by decide +kernel
theorem dX4_others_8 : decode cX4_others 8 = .ok (.invokestatic 103, 3) := by decide +kernel
theorem dX4_others_11 : decode cX4_others 11 = .ok (.ireturn, 1) := by decide +kernel
theorem dX4_reply_0 : decode cX4_reply 0 = .ok (.aload_n 0, 1) := by decide +kernel
theorem dX4_reply_1 : decode cX4_reply 1 = .ok (.getfield 48, 3) := by decide +kernel
theorem dX4_reply_4 : decode cX4_reply 4 = .ok (.aload_n 0, 1) := by decide +kernel
theorem dX4_reply_5 : decode cX4_reply 5 = .ok (.getfield 42, 3) := by decide +kernel
theorem dX4_reply_8 : decode cX4_reply 8 = .ok (.iconst 1, 1) := by decide +kernel
theorem dX4_reply_9 : decode cX4_reply 9 = .ok (.iload_n 1, 1) := by decide +kernel
theorem dX4_reply_10 : decode cX4_reply 10 = .ok (.ishl, 1) := by decide +kernel
theorem dX4_reply_11 : decode cX4_reply 11 = .ok (.iload_n 2, 1) := by decide +kernel
theorem dX4_reply_12 : decode cX4_reply 12 = .ok (.iload_n 3, 1) := by decide +kernel
theorem dX4_reply_13 : decode cX4_reply 13 = .ok (.iload 4, 2) := by decide +kernel
theorem dX4_reply_15 : decode cX4_reply 15 = .ok (.getstatic 107, 3) := by decide +kernel
theorem dX4_reply_18 : decode cX4_reply 18 = .ok (.invokevirtual 110, 3) := by decide +kernel
theorem dX4_reply_21 : decode cX4_reply 21 = .ok (.return_, 1) := by decide +kernel
theorem dX4_accept_0 : decode cX4_accept 0 = .ok (.aload_n 0, 1) := by decide +kernel
theorem dX4_accept_1 : decode cX4_accept 1 = .ok (.invokevirtual 85, 3) := by decide +kernel
theorem dX4_accept_4 : decode cX4_accept 4 = .ok (.ifCond .eq 5, 3) := by decide +kernel
theorem dX4_accept_7 : decode cX4_accept 7 = .ok (.iconst 2, 1) := by decide +kernel
theorem dX4_accept_8 : decode cX4_accept 8 = .ok (.ireturn, 1) := by decide +kernel
theorem dX4_accept_9 : decode cX4_accept 9 = .ok (.aload_n 0, 1) := by decide +kernel
theorem dX4_accept_10 : decode cX4_accept 10 = .ok (.invokevirtual 66, 3) := by decide +kernel
theorem dX4_accept_13 : decode cX4_accept 13 = .ok (.aload_n 0, 1) := by decide +kernel
theorem dX4_accept_14 : decode cX4_accept 14 = .ok (.getfield 42, 3) := by decide +kernel
theorem dX4_accept_17 : decode cX4_accept 17 = .ok (.if_icmp .eq 32, 3) := by decide +kernel
theorem dX4_accept_20 : decode cX4_accept 20 = .ok (.aload_n 0, 1) := by decide +kernel
theorem dX4_accept_21 : decode cX4_accept 21 = .ok (.getfield 48, 3) := by decide +kernel
theorem dX4_accept_24 : decode cX4_accept 24 = .ok (.aload_n 0, 1) := by decide +kernel
theorem dX4_accept_25 : decode cX4_accept 25 = .ok (.getfield 42, 3) := by decide +kernel
theorem dX4_accept_28 : decode cX4_accept 28 = .ok (.iconst 1, 1) := by decide +kernel
theorem dX4_accept_29 : decode cX4_accept 29 = .ok (.aload_n 0, 1) := by decide +kernel
theorem dX4_accept_30 : decode cX4_accept 30 = .ok (.invokevirtual 66, 3) := by decide +kernel
theorem dX4_accept_33 : decode cX4_accept 33 = .ok (.ishl, 1) := by decide +kernel
theorem dX4_accept_34 : decode cX4_accept 34 = .ok (.iconst 1, 1) := by decide +kernel
theorem dX4_accept_35 : decode cX4_accept 35 = .ok (.iconst 0, 1) := by decide +kernel
theorem dX4_accept_36 : decode cX4_accept 36 = .ok (.iconst 0, 1) := by decide +kernel
theorem dX4_accept_37 : decode cX4_accept 37 = .ok (.iconst 1, 1) := by decide +kernel
theorem dX4_accept_38 : decode cX4_accept 38 = .ok (.newarray .int, 2) := by decide +kernel
theorem dX4_accept_40 : decode cX4_accept 40 = .ok (.dup, 1) := by decide +kernel
theorem dX4_accept_41 : decode cX4_accept 41 = .ok (.iconst 0, 1) := by decide +kernel
theorem dX4_accept_42 : decode cX4_accept 42 = .ok (.iload_n 1, 1) := by decide +kernel
theorem dX4_accept_43 : decode cX4_accept 43 = .ok (.iastore, 1) := by decide +kernel
theorem dX4_accept_44 : decode cX4_accept 44 = .ok (.invokevirtual 110, 3) := by decide +kernel
theorem dX4_accept_47 : decode cX4_accept 47 = .ok (.iconst 1, 1) := by decide +kernel
theorem dX4_accept_48 : decode cX4_accept 48 = .ok (.ireturn, 1) := by decide +kernel
theorem dX4_accept_49 : decode cX4_accept 49 = .ok (.aload_n 0, 1) := by decide +kernel
theorem dX4_accept_50 : decode cX4_accept 50 = .ok (.getfield 12, 3) := by decide +kernel
theorem dX4_accept_53 : decode cX4_accept 53 = .ok (.invokevirtual 116, 3) := by decide +kernel
theorem dX4_accept_56 : decode cX4_accept 56 = .ok (.ifCond .eq 5, 3) := by decide +kernel
theorem dX4_accept_59 : decode cX4_accept 59 = .ok (.iconst 3, 1) := by decide +kernel
theorem dX4_accept_60 : decode cX4_accept 60 = .ok (.ireturn, 1) := by decide +kernel
theorem dX4_accept_61 : decode cX4_accept 61 = .ok (.aload_n 0, 1) := by decide +kernel
theorem dX4_accept_62 : decode cX4_accept 62 = .ok (.iload_n 1, 1) := by decide +kernel
theorem dX4_accept_63 : decode cX4_accept 63 = .ok (.invokevirtual 119, 3) := by decide +kernel
theorem dX4_accept_66 : decode cX4_accept 66 = .ok (.aload_n 0, 1) := by decide +kernel
theorem dX4_accept_67 : decode cX4_accept 67 = .ok (.invokevirtual 123, 3) := by decide +kernel
theorem dX4_accept_70 : decode cX4_accept 70 = .ok (.iconst 1, 1) := by decide +kernel
theorem dX4_accept_71 : decode cX4_accept 71 = .ok (.ireturn, 1) := by decide +kernel
theorem dX4_putInOrder_0 : decode cX4_putInOrder 0 = .ok (.aload_n 0, 1) := by decide +kernel
theorem dX4_putInOrder_1 : decode cX4_putInOrder 1 = .ok (.getfield 12, 3) := by decide +kernel
theorem dX4_putInOrder_4 : decode cX4_putInOrder 4 = .ok (.getfield 76, 3) := by decide +kernel
theorem dX4_putInOrder_7 : decode cX4_putInOrder 7 = .ok (.istore_n 2, 1) := by decide +kernel
theorem dX4_putInOrder_8 : decode cX4_putInOrder 8 = .ok (.aload_n 0, 1) := by decide +kernel
theorem dX4_putInOrder_9 : decode cX4_putInOrder 9 = .ok (.getfield 12, 3) := by decide +kernel
theorem dX4_putInOrder_12 : decode cX4_putInOrder 12 = .ok (.iload_n 1, 1) := by decide +kernel
theorem dX4_putInOrder_13 : decode cX4_putInOrder 13 = .ok (.invokevirtual 126, 3) := by decide +kernel
theorem dX4_putInOrder_16 : decode cX4_putInOrder 16 = .ok (.aload_n 0, 1) := by decide +kernel
theorem dX4_putInOrder_17 : decode cX4_putInOrder 17 = .ok (.getfield 48, 3) := by decide +kernel
theorem dX4_putInOrder_20 : decode cX4_putInOrder 20 = .ok (.aload_n 0, 1) := by decide +kernel
theorem dX4_putInOrder_21 : decode cX4_putInOrder 21 = .ok (.getfield 42, 3) := by decide +kernel
theorem dX4_putInOrder_24 : decode cX4_putInOrder 24 = .ok (.aload_n 0, 1) := by decide +kernel
theorem dX4_putInOrder_25 : decode cX4_putInOrder 25 = .ok (.invokevirtual 129, 3) := by decide +kernel
theorem dX4_putInOrder_28 : decode cX4_putInOrder 28 = .ok (.iconst 2, 1) := by decide +kernel
theorem dX4_putInOrder_29 : decode cX4_putInOrder 29 = .ok (.aload_n 0, 1) := by decide +kernel
theorem dX4_putInOrder_30 : decode cX4_putInOrder 30 = .ok (.getfield 63, 3) := by decide +kernel
theorem dX4_putInOrder_33 : decode cX4_putInOrder 33 = .ok (.iload_n 2, 1) := by decide +kernel
theorem dX4_putInOrder_34 : decode cX4_putInOrder 34 = .ok (.iconst 1, 1) := by decide +kernel
theorem dX4_putInOrder_35 : decode cX4_putInOrder 35 = .ok (.newarray .int, 2) := by decide +kernel
theorem dX4_putInOrder_37 : decode cX4_putInOrder 37 = .ok (.dup, 1) := by decide +kernel
theorem dX4_putInOrder_38 : decode cX4_putInOrder 38 = .ok (.iconst 0, 1) := by decide +kernel
theorem dX4_putInOrder_39 : decode cX4_putInOrder 39 = .ok (.iload_n 1, 1) := by decide +kernel
theorem dX4_putInOrder_40 : decode cX4_putInOrder 40 = .ok (.iastore, 1) := by decide +kernel
theorem dX4_putInOrder_41 : decode cX4_putInOrder 41 = .ok (.invokevirtual 110, 3) := by decide +kernel
theorem dX4_putInOrder_44 : decode cX4_putInOrder 44 = .ok (.return_, 1) := by decide +kernel
theorem dX4_carryOutWhatMostHold_0 : decode cX4_carryOutWhatMostHold 0 = .ok (.aload_n 0, 1) := by decide +kernel
theorem dX4_carryOutWhatMostHold_1 : decode cX4_carryOutWhatMostHold 1 = .ok (.invokevirtual 132, 3) := by decide +kernel
theorem dX4_carryOutWhatMostHold_4 : decode cX4_carryOutWhatMostHold 4 = .ok (.istore_n 1, 1) := by decide +kernel
theorem dX4_carryOutWhatMostHold_5 : decode cX4_carryOutWhatMostHold 5 = .ok (.iload_n 1, 1) := by decide +kernel
theorem dX4_carryOutWhatMostHold_6 : decode cX4_carryOutWhatMostHold 6 = .ok (.aload_n 0, 1) := by decide +kernel
theorem dX4_carryOutWhatMostHold_7 : decode cX4_carryOutWhatMostHold 7 = .ok (.getfield 79, 3) := by decide +kernel
theorem dX4_carryOutWhatMostHold_10 : decode cX4_carryOutWhatMostHold 10 = .ok (.if_icmp .le 32, 3) := by decide +kernel
theorem dX4_carryOutWhatMostHold_13 : decode cX4_carryOutWhatMostHold 13 = .ok (.aload_n 0, 1) := by decide +kernel
theorem dX4_carryOutWhatMostHold_14 : decode cX4_carryOutWhatMostHold 14 = .ok (.iload_n 1, 1) := by decide +kernel
theorem dX4_carryOutWhatMostHold_15 : decode cX4_carryOutWhatMostHold 15 = .ok (.invokevirtual 135, 3) := by decide +kernel
theorem dX4_carryOutWhatMostHold_18 : decode cX4_carryOutWhatMostHold 18 = .ok (.aload_n 0, 1) := by decide +kernel
theorem dX4_carryOutWhatMostHold_19 : decode cX4_carryOutWhatMostHold 19 = .ok (.getfield 48, 3) := by decide +kernel
theorem dX4_carryOutWhatMostHold_22 : decode cX4_carryOutWhatMostHold 22 = .ok (.aload_n 0, 1) := by decide +kernel
theorem dX4_carryOutWhatMostHold_23 : decode cX4_carryOutWhatMostHold 23 = .ok (.getfield 42, 3) := by decide +kernel
theorem dX4_carryOutWhatMostHold_26 : decode cX4_carryOutWhatMostHold 26 = .ok (.aload_n 0, 1) := by decide +kernel
theorem dX4_carryOutWhatMostHold_27 : decode cX4_carryOutWhatMostHold 27 = .ok (.invokevirtual 129, 3) := by decide +kernel
theorem dX4_carryOutWhatMostHold_30 : decode cX4_carryOutWhatMostHold 30 = .ok (.iconst 4, 1) := by decide +kernel
theorem dX4_carryOutWhatMostHold_31 : decode cX4_carryOutWhatMostHold 31 = .ok (.aload_n 0, 1) := by decide +kernel
theorem dX4_carryOutWhatMostHold_32 : decode cX4_carryOutWhatMostHold 32 = .ok (.getfield 63, 3) := by decide +kernel
theorem dX4_carryOutWhatMostHold_35 : decode cX4_carryOutWhatMostHold 35 = .ok (.iload_n 1, 1) := by decide +kernel
theorem dX4_carryOutWhatMostHold_36 : decode cX4_carryOutWhatMostHold 36 = .ok (.getstatic 107, 3) := by decide +kernel
theorem dX4_carryOutWhatMostHold_39 : decode cX4_carryOutWhatMostHold 39 = .ok (.invokevirtual 110, 3) := by decide +kernel
theorem dX4_carryOutWhatMostHold_42 : decode cX4_carryOutWhatMostHold 42 = .ok (.return_, 1) := by decide +kernel
theorem dX4_heldByMost_0 : decode cX4_heldByMost 0 = .ok (.aload_n 0, 1) := by decide +kernel
theorem dX4_heldByMost_1 : decode cX4_heldByMost 1 = .ok (.getfield 12, 3) := by decide +kernel
theorem dX4_heldByMost_4 : decode cX4_heldByMost 4 = .ok (.getfield 76, 3) := by decide +kernel
theorem dX4_heldByMost_7 : decode cX4_heldByMost 7 = .ok (.istore_n 1, 1) := by decide +kernel
theorem dX4_heldByMost_8 : decode cX4_heldByMost 8 = .ok (.iload_n 1, 1) := by decide +kernel
theorem dX4_heldByMost_9 : decode cX4_heldByMost 9 = .ok (.ifCond .le 23, 3) := by decide +kernel
theorem dX4_heldByMost_12 : decode cX4_heldByMost 12 = .ok (.aload_n 0, 1) := by decide +kernel
theorem dX4_heldByMost_13 : decode cX4_heldByMost 13 = .ok (.aload_n 0, 1) := by decide +kernel
theorem dX4_heldByMost_14 : decode cX4_heldByMost 14 = .ok (.iload_n 1, 1) := by decide +kernel
theorem dX4_heldByMost_15 : decode cX4_heldByMost 15 = .ok (.invokevirtual 138, 3) := by decide +kernel
theorem dX4_heldByMost_18 : decode cX4_heldByMost 18 = .ok (.invokevirtual 141, 3) := by decide +kernel
theorem dX4_heldByMost_21 : decode cX4_heldByMost 21 = .ok (.ifCond .eq 5, 3) := by decide +kernel
theorem dX4_heldByMost_24 : decode cX4_heldByMost 24 = .ok (.iload_n 1, 1) := by decide +kernel
theorem dX4_heldByMost_25 : decode cX4_heldByMost 25 = .ok (.ireturn, 1) := by decide +kernel
theorem dX4_heldByMost_26 : decode cX4_heldByMost 26 = .ok (.iinc 1 (-1), 3) := by decide +kernel
theorem dX4_heldByMost_29 : decode cX4_heldByMost 29 = .ok (.goto (-21), 3) := by decide +kernel
theorem dX4_heldByMost_32 : decode cX4_heldByMost 32 = .ok (.iconst 0, 1) := by decide +kernel
theorem dX4_heldByMost_33 : decode cX4_heldByMost 33 = .ok (.ireturn, 1) := by decide +kernel
theorem dX4_holdersOf_0 : decode cX4_holdersOf 0 = .ok (.iconst 0, 1) := by decide +kernel
theorem dX4_holdersOf_1 : decode cX4_holdersOf 1 = .ok (.istore_n 2, 1) := by decide +kernel
theorem dX4_holdersOf_2 : decode cX4_holdersOf 2 = .ok (.iconst 0, 1) := by decide +kernel
theorem dX4_holdersOf_3 : decode cX4_holdersOf 3 = .ok (.istore_n 3, 1) := by decide +kernel
theorem dX4_holdersOf_4 : decode cX4_holdersOf 4 = .ok (.iload_n 3, 1) := by decide +kernel
theorem dX4_holdersOf_5 : decode cX4_holdersOf 5 = .ok (.aload_n 0, 1) := by decide +kernel
theorem dX4_holdersOf_6 : decode cX4_holdersOf 6 = .ok (.getfield 45, 3) := by decide +kernel
theorem dX4_holdersOf_9 : decode cX4_holdersOf 9 = .ok (.if_icmp .ge 58, 3) := by decide +kernel
theorem dX4_holdersOf_12 : decode cX4_holdersOf 12 = .ok (.iload_n 3, 1) := by decide +kernel
theorem dX4_holdersOf_13 : decode cX4_holdersOf 13 = .ok (.aload_n 0, 1) := by decide +kernel
theorem dX4_holdersOf_14 : decode cX4_holdersOf 14 = .ok (.getfield 42, 3) := by decide +kernel
theorem dX4_holdersOf_17 : decode cX4_holdersOf 17 = .ok (.if_icmp .ne 13, 3) := by decide +kernel
theorem dX4_holdersOf_20 : decode cX4_holdersOf 20 = .ok (.aload_n 0, 1) := by decide +kernel
theorem dX4_holdersOf_21 : decode cX4_holdersOf 21 = .ok (.getfield 12, 3) := by decide +kernel
theorem dX4_holdersOf_24 : decode cX4_holdersOf 24 = .ok (.getfield 76, 3) := by decide +kernel
theorem dX4_holdersOf_27 : decode cX4_holdersOf 27 = .ok (.goto 9, 3) := by decide +kernel
theorem dX4_holdersOf_30 : decode cX4_holdersOf 30 = .ok (.aload_n 0, 1) := by decide +kernel
theorem dX4_holdersOf_31 : decode cX4_holdersOf 31 = .ok (.getfield 56, 3) := by decide +kernel
theorem dX4_holdersOf_34 : decode cX4_holdersOf 34 = .ok (.iload_n 3, 1) := by decide +kernel
theorem dX4_holdersOf_35 : decode cX4_holdersOf 35 = .ok (.iaload, 1) := by decide +kernel
theorem dX4_holdersOf_36 : decode cX4_holdersOf 36 = .ok (.istore 4, 2) := by decide +kernel
theorem dX4_holdersOf_38 : decode cX4_holdersOf 38 = .ok (.aload_n 0, 1) := by decide +kernel
theorem dX4_holdersOf_39 : decode cX4_holdersOf 39 = .ok (.getfield 60, 3) := by decide +kernel
theorem dX4_holdersOf_42 : decode cX4_holdersOf 42 = .ok (.iload_n 3, 1) := by decide +kernel
theorem dX4_holdersOf_43 : decode cX4_holdersOf 43 = .ok (.invokestatic 93, 3) := by decide +kernel
theorem dX4_holdersOf_46 : decode cX4_holdersOf 46 = .ok (.ifCond .eq 15, 3) := by decide +kernel
theorem dX4_holdersOf_49 : decode cX4_holdersOf 49 = .ok (.iload 4, 2) := by decide +kernel
theorem dX4_holdersOf_51 : decode cX4_holdersOf 51 = .ok (.iload_n 1, 1) := by decide +kernel
theorem dX4_holdersOf_52 : decode cX4_holdersOf 52 = .ok (.if_icmp .lt 9, 3) := by decide +kernel
theorem dX4_holdersOf_55 : decode cX4_holdersOf 55 = .ok (.iload_n 2, 1) := by decide +kernel
theorem dX4_holdersOf_56 : decode cX4_holdersOf 56 = .ok (.iconst 1, 1) := by decide +kernel
theorem dX4_holdersOf_57 : decode cX4_holdersOf 57 = .ok (.iload_n 3, 1) := by decide +kernel
theorem dX4_holdersOf_58 : decode cX4_holdersOf 58 = .ok (.ishl, 1) := by decide +kernel
theorem dX4_holdersOf_59 : decode cX4_holdersOf 59 = .ok (.ior, 1) := by decide +kernel
theorem dX4_holdersOf_60 : decode cX4_holdersOf 60 = .ok (.istore_n 2, 1) := by decide +kernel
theorem dX4_holdersOf_61 : decode cX4_holdersOf 61 = .ok (.iinc 3 1, 3) := by decide +kernel
theorem dX4_holdersOf_64 : decode cX4_holdersOf 64 = .ok (.goto (-60), 3) := by decide +kernel
theorem dX4_holdersOf_67 : decode cX4_holdersOf 67 = .ok (.iload_n 2, 1) := by decide +kernel
theorem dX4_holdersOf_68 : decode cX4_holdersOf 68 = .ok (.ireturn, 1) := by decide +kernel
theorem dX4_carryOutUpTo_0 : decode cX4_carryOutUpTo 0 = .ok (.iload_n 1, 1) := by decide +kernel
theorem dX4_carryOutUpTo_1 : decode cX4_carryOutUpTo 1 = .ok (.aload_n 0, 1) := by decide +kernel
theorem dX4_carryOutUpTo_2 : decode cX4_carryOutUpTo 2 = .ok (.getfield 12, 3) := by decide +kernel
theorem dX4_carryOutUpTo_5 : decode cX4_carryOutUpTo 5 = .ok (.getfield 76, 3) := by decide +kernel
theorem dX4_carryOutUpTo_8 : decode cX4_carryOutUpTo 8 = .ok (.invokestatic 145, 3) := by decide +kernel
theorem dX4_carryOutUpTo_11 : decode cX4_carryOutUpTo 11 = .ok (.istore_n 2, 1) := by decide +kernel
theorem dX4_carryOutUpTo_12 : decode cX4_carryOutUpTo 12 = .ok (.aload_n 0, 1) := by decide +kernel
theorem dX4_carryOutUpTo_13 : decode cX4_carryOutUpTo 13 = .ok (.getfield 79, 3) := by decide +kernel
theorem dX4_carryOutUpTo_16 : decode cX4_carryOutUpTo 16 = .ok (.istore_n 3, 1) := by decide +kernel
theorem dX4_carryOutUpTo_17 : decode cX4_carryOutUpTo 17 = .ok (.iload_n 3, 1) := by decide +kernel
theorem dX4_carryOutUpTo_18 : decode cX4_carryOutUpTo 18 = .ok (.iload_n 2, 1) := by decide +kernel
theorem dX4_carryOutUpTo_19 : decode cX4_carryOutUpTo 19 = .ok (.if_icmp .ge 38, 3) := by decide +kernel
theorem dX4_carryOutUpTo_22 : decode cX4_carryOutUpTo 22 = .ok (.aload_n 0, 1) := by decide +kernel
theorem dX4_carryOutUpTo_23 : decode cX4_carryOutUpTo 23 = .ok (.getfield 21, 3) := by decide +kernel
theorem dX4_carryOutUpTo_26 : decode cX4_carryOutUpTo 26 = .ok (.aload_n 0, 1) := by decide +kernel
theorem dX4_carryOutUpTo_27 : decode cX4_carryOutUpTo 27 = .ok (.getfield 12, 3) := by decide +kernel
theorem dX4_carryOutUpTo_30 : decode cX4_carryOutUpTo 30 = .ok (.getfield 150, 3) := by decide +kernel
theorem dX4_carryOutUpTo_33 : decode cX4_carryOutUpTo 33 = .ok (.iload_n 3, 1) := by decide +kernel
theorem dX4_carryOutUpTo_34 : decode cX4_carryOutUpTo 34 = .ok (.iaload, 1) := by decide +kernel
theorem dX4_carryOutUpTo_35 : decode cX4_carryOutUpTo 35 = .ok (.invokevirtual 153, 3) := by decide +kernel
theorem dX4_carryOutUpTo_38 : decode cX4_carryOutUpTo 38 = .ok (.aload_n 0, 1) := by decide +kernel
theorem dX4_carryOutUpTo_39 : decode cX4_carryOutUpTo 39 = .ok (.getfield 52, 3) := by decide +kernel
theorem dX4_carryOutUpTo_42 : decode cX4_carryOutUpTo 42 = .ok (.dup, 1) := by decide +kernel
theorem dX4_carryOutUpTo_43 : decode cX4_carryOutUpTo 43 = .ok (.getfield 156, 3) := by decide +kernel
theorem dX4_carryOutUpTo_46 : decode cX4_carryOutUpTo 46 = .ok (.iconst 1, 1) := by decide +kernel
theorem dX4_carryOutUpTo_47 : decode cX4_carryOutUpTo 47 = .ok (.iadd, 1) := by decide +kernel
theorem dX4_carryOutUpTo_48 : decode cX4_carryOutUpTo 48 = .ok (.putfield 156, 3) := by decide +kernel
theorem dX4_carryOutUpTo_51 : decode cX4_carryOutUpTo 51 = .ok (.iinc 3 1, 3) := by decide +kernel
theorem dX4_carryOutUpTo_54 : decode cX4_carryOutUpTo 54 = .ok (.goto (-37), 3) := by decide +kernel
theorem dX4_carryOutUpTo_57 : decode cX4_carryOutUpTo 57 = .ok (.aload_n 0, 1) := by decide +kernel
theorem dX4_carryOutUpTo_58 : decode cX4_carryOutUpTo 58 = .ok (.aload_n 0, 1) := by decide +kernel
theorem dX4_carryOutUpTo_59 : decode cX4_carryOutUpTo 59 = .ok (.getfield 79, 3) := by decide +kernel
theorem dX4_carryOutUpTo_62 : decode cX4_carryOutUpTo 62 = .ok (.iload_n 2, 1) := by decide +kernel
theorem dX4_carryOutUpTo_63 : decode cX4_carryOutUpTo 63 = .ok (.invokestatic 159, 3) := by decide +kernel
theorem dX4_carryOutUpTo_66 : decode cX4_carryOutUpTo 66 = .ok (.putfield 79, 3) := by decide +kernel
theorem dX4_carryOutUpTo_69 : decode cX4_carryOutUpTo 69 = .ok (.return_, 1) := by decide +kernel
theorem dX4_receive_0 : decode cX4_receive 0 = .ok (.aload_n 2, 1) := by decide +kernel
theorem dX4_receive_1 : decode cX4_receive 1 = .ok (.getfield 162, 3) := by decide +kernel
theorem dX4_receive_4 : decode cX4_receive 4 = .ok (.tableswitch 165 1 12 #[64, 72, 81, 90, 98, 106, 113, 122, 131, 140, 149, 157], 64) := by decide +kernel
theorem dX4_receive_68 : decode cX4_receive 68 = .ok (.aload_n 0, 1) := by decide +kernel
theorem dX4_receive_69 : decode cX4_receive 69 = .ok (.aload_n 2, 1) := by decide +kernel
theorem dX4_receive_70 : decode cX4_receive 70 = .ok (.invokevirtual 167, 3) := by decide +kernel
theorem dX4_receive_73 : decode cX4_receive 73 = .ok (.goto 96, 3) := by decide +kernel
theorem dX4_receive_76 : decode cX4_receive 76 = .ok (.aload_n 0, 1) := by decide +kernel
theorem dX4_receive_77 : decode cX4_receive 77 = .ok (.iload_n 1, 1) := by decide +kernel
theorem dX4_receive_78 : decode cX4_receive 78 = .ok (.aload_n 2, 1) := by decide +kernel
theorem dX4_receive_79 : decode cX4_receive 79 = .ok (.invokevirtual 171, 3) := by decide +kernel
theorem dX4_receive_82 : decode cX4_receive 82 = .ok (.goto 87, 3) := by decide +kernel
theorem dX4_receive_85 : decode cX4_receive 85 = .ok (.aload_n 0, 1) := by decide +kernel
theorem dX4_receive_86 : decode cX4_receive 86 = .ok (.iload_n 1, 1) := by decide +kernel
theorem dX4_receive_87 : decode cX4_receive 87 = .ok (.aload_n 2, 1) := by decide +kernel
theorem dX4_receive_88 : decode cX4_receive 88 = .ok (.invokevirtual 175, 3) := by decide +kernel
theorem dX4_receive_91 : decode cX4_receive 91 = .ok (.goto 78, 3) := by decide +kernel
theorem dX4_receive_94 : decode cX4_receive 94 = .ok (.aload_n 0, 1) := by decide +kernel
theorem dX4_receive_95 : decode cX4_receive 95 = .ok (.aload_n 2, 1) := by decide +kernel
theorem dX4_receive_96 : decode cX4_receive 96 = .ok (.invokevirtual 178, 3) := by decide +kernel
theorem dX4_receive_99 : decode cX4_receive 99 = .ok (.goto 70, 3) := by decide +kernel
theorem dX4_receive_102 : decode cX4_receive 102 = .ok (.aload_n 0, 1) := by decide +kernel
theorem dX4_receive_103 : decode cX4_receive 103 = .ok (.iload_n 1, 1) := by decide +kernel
theorem dX4_receive_104 : decode cX4_receive 104 = .ok (.invokevirtual 181, 3) := by decide +kernel
theorem dX4_receive_107 : decode cX4_receive 107 = .ok (.goto 62, 3) := by decide +kernel
theorem dX4_receive_110 : decode cX4_receive 110 = .ok (.aload_n 0, 1) := by decide +kernel
theorem dX4_receive_111 : decode cX4_receive 111 = .ok (.invokevirtual 184, 3) := by decide +kernel
theorem dX4_receive_114 : decode cX4_receive 114 = .ok (.goto 55, 3) := by decide +kernel
theorem dX4_receive_117 : decode cX4_receive 117 = .ok (.aload_n 0, 1) := by decide +kernel
theorem dX4_receive_118 : decode cX4_receive 118 = .ok (.iload_n 1, 1) := by decide +kernel
theorem dX4_receive_119 : decode cX4_receive 119 = .ok (.aload_n 2, 1) := by decide +kernel
theorem dX4_receive_120 : decode cX4_receive 120 = .ok (.invokevirtual 187, 3) := by decide +kernel
theorem dX4_receive_123 : decode cX4_receive 123 = .ok (.goto 46, 3) := by decide +kernel
theorem dX4_receive_126 : decode cX4_receive 126 = .ok (.aload_n 0, 1) := by decide +kernel
theorem dX4_receive_127 : decode cX4_receive 127 = .ok (.iload_n 1, 1) := by decide +kernel
theorem dX4_receive_128 : decode cX4_receive 128 = .ok (.aload_n 2, 1) := by decide +kernel
theorem dX4_receive_129 : decode cX4_receive 129 = .ok (.invokevirtual 190, 3) := by decide +kernel
theorem dX4_receive_132 : decode cX4_receive 132 = .ok (.goto 37, 3) := by decide +kernel
theorem dX4_receive_135 : decode cX4_receive 135 = .ok (.aload_n 0, 1) := by decide +kernel
theorem dX4_receive_136 : decode cX4_receive 136 = .ok (.iload_n 1, 1) := by decide +kernel
theorem dX4_receive_137 : decode cX4_receive 137 = .ok (.aload_n 2, 1) := by decide +kernel
theorem dX4_receive_138 : decode cX4_receive 138 = .ok (.invokevirtual 193, 3) := by decide +kernel
theorem dX4_receive_141 : decode cX4_receive 141 = .ok (.goto 28, 3) := by decide +kernel
theorem dX4_receive_144 : decode cX4_receive 144 = .ok (.aload_n 0, 1) := by decide +kernel
theorem dX4_receive_145 : decode cX4_receive 145 = .ok (.iload_n 1, 1) := by decide +kernel
theorem dX4_receive_146 : decode cX4_receive 146 = .ok (.aload_n 2, 1) := by decide +kernel
theorem dX4_receive_147 : decode cX4_receive 147 = .ok (.invokevirtual 196, 3) := by decide +kernel
theorem dX4_receive_150 : decode cX4_receive 150 = .ok (.goto 19, 3) := by decide +kernel
theorem dX4_receive_153 : decode cX4_receive 153 = .ok (.aload_n 0, 1) := by decide +kernel
theorem dX4_receive_154 : decode cX4_receive 154 = .ok (.aload_n 2, 1) := by decide +kernel
theorem dX4_receive_155 : decode cX4_receive 155 = .ok (.invokevirtual 199, 3) := by decide +kernel
theorem dX4_receive_158 : decode cX4_receive 158 = .ok (.goto 11, 3) := by decide +kernel
theorem dX4_receive_161 : decode cX4_receive 161 = .ok (.aload_n 0, 1) := by decide +kernel
theorem dX4_receive_162 : decode cX4_receive 162 = .ok (.iconst 2, 1) := by decide +kernel
theorem dX4_receive_163 : decode cX4_receive 163 = .ok (.putfield 32, 3) := by decide +kernel
theorem dX4_receive_166 : decode cX4_receive 166 = .ok (.goto 3, 3) := by decide +kernel
theorem dX4_receive_169 : decode cX4_receive 169 = .ok (.return_, 1) := by decide +kernel
theorem dX4_onPass_0 : decode cX4_onPass 0 = .ok (.aload_n 0, 1) := by decide +kernel
theorem dX4_onPass_1 : decode cX4_onPass 1 = .ok (.invokevirtual 202, 3) := by decide +kernel
theorem dX4_onPass_4 : decode cX4_onPass 4 = .ok (.ifCond .eq 28, 3) := by decide +kernel
theorem dX4_onPass_7 : decode cX4_onPass 7 = .ok (.aload_n 0, 1) := by decide +kernel
theorem dX4_onPass_8 : decode cX4_onPass 8 = .ok (.getfield 12, 3) := by decide +kernel
theorem dX4_onPass_11 : decode cX4_onPass 11 = .ok (.invokevirtual 116, 3) := by decide +kernel
theorem dX4_onPass_14 : decode cX4_onPass 14 = .ok (.ifCond .ne 18, 3) := by decide +kernel
theorem dX4_onPass_17 : decode cX4_onPass 17 = .ok (.aload_n 0, 1) := by decide +kernel
theorem dX4_onPass_18 : decode cX4_onPass 18 = .ok (.aload_n 1, 1) := by decide +kernel
theorem dX4_onPass_19 : decode cX4_onPass 19 = .ok (.invokevirtual 205, 3) := by decide +kernel
theorem dX4_onPass_22 : decode cX4_onPass 22 = .ok (.invokevirtual 119, 3) := by decide +kernel
theorem dX4_onPass_25 : decode cX4_onPass 25 = .ok (.aload_n 0, 1) := by decide +kernel
theorem dX4_onPass_26 : decode cX4_onPass 26 = .ok (.invokevirtual 123, 3) := by decide +kernel
theorem dX4_onPass_29 : decode cX4_onPass 29 = .ok (.goto 16, 3) := by decide +kernel
theorem dX4_onPass_32 : decode cX4_onPass 32 = .ok (.aload_n 0, 1) := by decide +kernel
theorem dX4_onPass_33 : decode cX4_onPass 33 = .ok (.getfield 52, 3) := by decide +kernel
theorem dX4_onPass_36 : decode cX4_onPass 36 = .ok (.dup, 1) := by decide +kernel
theorem dX4_onPass_37 : decode cX4_onPass 37 = .ok (.getfield 208, 3) := by decide +kernel
theorem dX4_onPass_40 : decode cX4_onPass 40 = .ok (.iconst 1, 1) := by decide +kernel
theorem dX4_onPass_41 : decode cX4_onPass 41 = .ok (.iadd, 1) := by decide +kernel
theorem dX4_onPass_42 : decode cX4_onPass 42 = .ok (.putfield 208, 3) := by decide +kernel
theorem dX4_onPass_45 : decode cX4_onPass 45 = .ok (.return_, 1) := by decide +kernel
theorem dX4_onOrder_0 : decode cX4_onOrder 0 = .ok (.aload_n 0, 1) := by decide +kernel
theorem dX4_onOrder_1 : decode cX4_onOrder 1 = .ok (.getfield 12, 3) := by decide +kernel
theorem dX4_onOrder_4 : decode cX4_onOrder 4 = .ok (.getfield 76, 3) := by decide +kernel
theorem dX4_onOrder_7 : decode cX4_onOrder 7 = .ok (.aload_n 2, 1) := by decide +kernel
theorem dX4_onOrder_8 : decode cX4_onOrder 8 = .ok (.getfield 211, 3) := by decide +kernel
theorem dX4_onOrder_11 : decode cX4_onOrder 11 = .ok (.if_icmp .ne 17, 3) := by decide +kernel
theorem dX4_onOrder_14 : decode cX4_onOrder 14 = .ok (.aload_n 0, 1) := by decide +kernel
theorem dX4_onOrder_15 : decode cX4_onOrder 15 = .ok (.getfield 12, 3) := by decide +kernel
theorem dX4_onOrder_18 : decode cX4_onOrder 18 = .ok (.invokevirtual 116, 3) := by decide +kernel
theorem dX4_onOrder_21 : decode cX4_onOrder 21 = .ok (.ifCond .ne 7, 3) := by decide +kernel
theorem dX4_onOrder_24 : decode cX4_onOrder 24 = .ok (.iconst 1, 1) := by decide +kernel
theorem dX4_onOrder_25 : decode cX4_onOrder 25 = .ok (.goto 4, 3) := by decide +kernel
theorem dX4_onOrder_28 : decode cX4_onOrder 28 = .ok (.iconst 0, 1) := by decide +kernel
theorem dX4_onOrder_29 : decode cX4_onOrder 29 = .ok (.istore_n 3, 1) := by decide +kernel
theorem dX4_onOrder_30 : decode cX4_onOrder 30 = .ok (.aload_n 2, 1) := by decide +kernel
theorem dX4_onOrder_31 : decode cX4_onOrder 31 = .ok (.getfield 214, 3) := by decide +kernel
theorem dX4_onOrder_34 : decode cX4_onOrder 34 = .ok (.aload_n 0, 1) := by decide +kernel
theorem dX4_onOrder_35 : decode cX4_onOrder 35 = .ok (.getfield 63, 3) := by decide +kernel
theorem dX4_onOrder_38 : decode cX4_onOrder 38 = .ok (.if_icmp .ne 42, 3) := by decide +kernel
theorem dX4_onOrder_41 : decode cX4_onOrder 41 = .ok (.aload_n 0, 1) := by decide +kernel
theorem dX4_onOrder_42 : decode cX4_onOrder 42 = .ok (.invokevirtual 85, 3) := by decide +kernel
theorem dX4_onOrder_45 : decode cX4_onOrder 45 = .ok (.ifCond .ne 35, 3) := by decide +kernel
theorem dX4_onOrder_48 : decode cX4_onOrder 48 = .ok (.iload_n 3, 1) := by decide +kernel
theorem dX4_onOrder_49 : decode cX4_onOrder 49 = .ok (.ifCond .eq 31, 3) := by decide +kernel
theorem dX4_onOrder_52 : decode cX4_onOrder 52 = .ok (.aload_n 0, 1) := by decide +kernel
theorem dX4_onOrder_53 : decode cX4_onOrder 53 = .ok (.getfield 12, 3) := by decide +kernel
theorem dX4_onOrder_56 : decode cX4_onOrder 56 = .ok (.aload_n 2, 1) := by decide +kernel
theorem dX4_onOrder_57 : decode cX4_onOrder 57 = .ok (.invokevirtual 205, 3) := by decide +kernel
theorem dX4_onOrder_60 : decode cX4_onOrder 60 = .ok (.invokevirtual 126, 3) := by decide +kernel
theorem dX4_onOrder_63 : decode cX4_onOrder 63 = .ok (.aload_n 0, 1) := by decide +kernel
theorem dX4_onOrder_64 : decode cX4_onOrder 64 = .ok (.iload_n 1, 1) := by decide +kernel
theorem dX4_onOrder_65 : decode cX4_onOrder 65 = .ok (.iconst 3, 1) := by decide +kernel
theorem dX4_onOrder_66 : decode cX4_onOrder 66 = .ok (.aload_n 0, 1) := by decide +kernel
theorem dX4_onOrder_67 : decode cX4_onOrder 67 = .ok (.getfield 63, 3) := by decide +kernel
theorem dX4_onOrder_70 : decode cX4_onOrder 70 = .ok (.aload_n 0, 1) := by decide +kernel
theorem dX4_onOrder_71 : decode cX4_onOrder 71 = .ok (.getfield 12, 3) := by decide +kernel
theorem dX4_onOrder_74 : decode cX4_onOrder 74 = .ok (.getfield 76, 3) := by decide +kernel
theorem dX4_onOrder_77 : decode cX4_onOrder 77 = .ok (.invokevirtual 217, 3) := by decide +kernel
theorem dX4_onOrder_80 : decode cX4_onOrder 80 = .ok (.return_, 1) := by decide +kernel
theorem dX4_onHeld_0 : decode cX4_onHeld 0 = .ok (.iload_n 1, 1) := by decide +kernel
theorem dX4_onHeld_1 : decode cX4_onHeld 1 = .ok (.ifCond .lt 16, 3) := by decide +kernel
theorem dX4_onHeld_4 : decode cX4_onHeld 4 = .ok (.iload_n 1, 1) := by decide +kernel
theorem dX4_onHeld_5 : decode cX4_onHeld 5 = .ok (.aload_n 0, 1) := by decide +kernel
theorem dX4_onHeld_6 : decode cX4_onHeld 6 = .ok (.getfield 56, 3) := by decide +kernel
theorem dX4_onHeld_9 : decode cX4_onHeld 9 = .ok (.arraylength, 1) := by decide +kernel
theorem dX4_onHeld_10 : decode cX4_onHeld 10 = .ok (.if_icmp .ge 7, 3) := by decide +kernel
theorem dX4_onHeld_13 : decode cX4_onHeld 13 = .ok (.iconst 1, 1) := by decide +kernel
theorem dX4_onHeld_14 : decode cX4_onHeld 14 = .ok (.goto 4, 3) := by decide +kernel
theorem dX4_onHeld_17 : decode cX4_onHeld 17 = .ok (.iconst 0, 1) := by decide +kernel
theorem dX4_onHeld_18 : decode cX4_onHeld 18 = .ok (.istore_n 3, 1) := by decide +kernel
theorem dX4_onHeld_19 : decode cX4_onHeld 19 = .ok (.aload_n 2, 1) := by decide +kernel
theorem dX4_onHeld_20 : decode cX4_onHeld 20 = .ok (.getfield 214, 3) := by decide +kernel
theorem dX4_onHeld_23 : decode cX4_onHeld 23 = .ok (.aload_n 0, 1) := by decide +kernel
theorem dX4_onHeld_24 : decode cX4_onHeld 24 = .ok (.getfield 63, 3) := by decide +kernel
theorem dX4_onHeld_27 : decode cX4_onHeld 27 = .ok (.if_icmp .ne 37, 3) := by decide +kernel
theorem dX4_onHeld_30 : decode cX4_onHeld 30 = .ok (.aload_n 0, 1) := by decide +kernel
theorem dX4_onHeld_31 : decode cX4_onHeld 31 = .ok (.invokevirtual 202, 3) := by decide +kernel
theorem dX4_onHeld_34 : decode cX4_onHeld 34 = .ok (.ifCond .eq 30, 3) := by decide +kernel
theorem dX4_onHeld_37 : decode cX4_onHeld 37 = .ok (.iload_n 3, 1) := by decide +kernel
theorem dX4_onHeld_38 : decode cX4_onHeld 38 = .ok (.ifCond .eq 26, 3) := by decide +kernel
theorem dX4_onHeld_41 : decode cX4_onHeld 41 = .ok (.aload_n 0, 1) := by decide +kernel
theorem dX4_onHeld_42 : decode cX4_onHeld 42 = .ok (.getfield 56, 3) := by decide +kernel
theorem dX4_onHeld_45 : decode cX4_onHeld 45 = .ok (.iload_n 1, 1) := by decide +kernel
theorem dX4_onHeld_46 : decode cX4_onHeld 46 = .ok (.aload_n 0, 1) := by decide +kernel
theorem dX4_onHeld_47 : decode cX4_onHeld 47 = .ok (.getfield 56, 3) := by decide +kernel
theorem dX4_onHeld_50 : decode cX4_onHeld 50 = .ok (.iload_n 1, 1) := by decide +kernel
theorem dX4_onHeld_51 : decode cX4_onHeld 51 = .ok (.iaload, 1) := by decide +kernel
theorem dX4_onHeld_52 : decode cX4_onHeld 52 = .ok (.aload_n 2, 1) := by decide +kernel
theorem dX4_onHeld_53 : decode cX4_onHeld 53 = .ok (.getfield 211, 3) := by decide +kernel
theorem dX4_onHeld_56 : decode cX4_onHeld 56 = .ok (.invokestatic 159, 3) := by decide +kernel
theorem dX4_onHeld_59 : decode cX4_onHeld 59 = .ok (.iastore, 1) := by decide +kernel
theorem dX4_onHeld_60 : decode cX4_onHeld 60 = .ok (.aload_n 0, 1) := by decide +kernel
theorem dX4_onHeld_61 : decode cX4_onHeld 61 = .ok (.invokevirtual 123, 3) := by decide +kernel
theorem dX4_onHeld_64 : decode cX4_onHeld 64 = .ok (.return_, 1) := by decide +kernel
theorem dX4_onDo_0 : decode cX4_onDo 0 = .ok (.aload_n 1, 1) := by decide +kernel
theorem dX4_onDo_1 : decode cX4_onDo 1 = .ok (.getfield 214, 3) := by decide +kernel
theorem dX4_onDo_4 : decode cX4_onDo 4 = .ok (.aload_n 0, 1) := by decide +kernel
theorem dX4_onDo_5 : decode cX4_onDo 5 = .ok (.getfield 63, 3) := by decide +kernel
theorem dX4_onDo_8 : decode cX4_onDo 8 = .ok (.if_icmp .ne 18, 3) := by decide +kernel
theorem dX4_onDo_11 : decode cX4_onDo 11 = .ok (.aload_n 0, 1) := by decide +kernel
theorem dX4_onDo_12 : decode cX4_onDo 12 = .ok (.invokevirtual 85, 3) := by decide +kernel
theorem dX4_onDo_15 : decode cX4_onDo 15 = .ok (.ifCond .ne 11, 3) := by decide +kernel
theorem dX4_onDo_18 : decode cX4_onDo 18 = .ok (.aload_n 0, 1) := by decide +kernel
theorem dX4_onDo_19 : decode cX4_onDo 19 = .ok (.aload_n 1, 1) := by decide +kernel
theorem dX4_onDo_20 : decode cX4_onDo 20 = .ok (.getfield 211, 3) := by decide +kernel
theorem dX4_onDo_23 : decode cX4_onDo 23 = .ok (.invokevirtual 135, 3) := by decide +kernel
theorem dX4_onDo_26 : decode cX4_onDo 26 = .ok (.return_, 1) := by decide +kernel
theorem dX4_onElect_0 : decode cX4_onElect 0 = .ok (.iload_n 1, 1) := by decide +kernel
theorem dX4_onElect_1 : decode cX4_onElect 1 = .ok (.aload_n 0, 1) := by decide +kernel
theorem dX4_onElect_2 : decode cX4_onElect 2 = .ok (.getfield 42, 3) := by decide +kernel
theorem dX4_onElect_5 : decode cX4_onElect 5 = .ok (.if_icmp .ge 23, 3) := by decide +kernel
theorem dX4_onElect_8 : decode cX4_onElect 8 = .ok (.aload_n 0, 1) := by decide +kernel
theorem dX4_onElect_9 : decode cX4_onElect 9 = .ok (.iload_n 1, 1) := by decide +kernel
theorem dX4_onElect_10 : decode cX4_onElect 10 = .ok (.bipush 6, 2) := by decide +kernel
theorem dX4_onElect_12 : decode cX4_onElect 12 = .ok (.iconst 0, 1) := by decide +kernel
theorem dX4_onElect_13 : decode cX4_onElect 13 = .ok (.iconst 0, 1) := by decide +kernel
theorem dX4_onElect_14 : decode cX4_onElect 14 = .ok (.invokevirtual 217, 3) := by decide +kernel
theorem dX4_onElect_17 : decode cX4_onElect 17 = .ok (.aload_n 0, 1) := by decide +kernel
theorem dX4_onElect_18 : decode cX4_onElect 18 = .ok (.getfield 36, 3) := by decide +kernel
theorem dX4_onElect_21 : decode cX4_onElect 21 = .ok (.ifCond .ne 7, 3) := by decide +kernel
theorem dX4_onElect_24 : decode cX4_onElect 24 = .ok (.aload_n 0, 1) := by decide +kernel
theorem dX4_onElect_25 : decode cX4_onElect 25 = .ok (.invokevirtual 221, 3) := by decide +kernel
theorem dX4_onElect_28 : decode cX4_onElect 28 = .ok (.return_, 1) := by decide +kernel
theorem dX4_onWait_0 : decode cX4_onWait 0 = .ok (.aload_n 0, 1) := by decide +kernel
theorem dX4_onWait_1 : decode cX4_onWait 1 = .ok (.getfield 36, 3) := by decide +kernel
theorem dX4_onWait_4 : decode cX4_onWait 4 = .ok (.iconst 1, 1) := by decide +kernel
theorem dX4_onWait_5 : decode cX4_onWait 5 = .ok (.if_icmp .ne 8, 3) := by decide +kernel
theorem dX4_onWait_8 : decode cX4_onWait 8 = .ok (.aload_n 0, 1) := by decide +kernel
theorem dX4_onWait_9 : decode cX4_onWait 9 = .ok (.iconst 2, 1) := by decide +kernel
theorem dX4_onWait_10 : decode cX4_onWait 10 = .ok (.putfield 36, 3) := by decide +kernel
theorem dX4_onWait_13 : decode cX4_onWait 13 = .ok (.return_, 1) := by decide +kernel
theorem dX4_onFlush_0 : decode cX4_onFlush 0 = .ok (.aload_n 2, 1) := by decide +kernel
theorem dX4_onFlush_1 : decode cX4_onFlush 1 = .ok (.getfield 214, 3) := by decide +kernel
theorem dX4_onFlush_4 : decode cX4_onFlush 4 = .ok (.aload_n 0, 1) := by decide +kernel
theorem dX4_onFlush_5 : decode cX4_onFlush 5 = .ok (.getfield 70, 3) := by decide +kernel
theorem dX4_onFlush_8 : decode cX4_onFlush 8 = .ok (.if_icmp .le 52, 3) := by decide +kernel
theorem dX4_onFlush_11 : decode cX4_onFlush 11 = .ok (.aload_n 0, 1) := by decide +kernel
theorem dX4_onFlush_12 : decode cX4_onFlush 12 = .ok (.aload_n 2, 1) := by decide +kernel
theorem dX4_onFlush_13 : decode cX4_onFlush 13 = .ok (.getfield 214, 3) := by decide +kernel
theorem dX4_onFlush_16 : decode cX4_onFlush 16 = .ok (.putfield 70, 3) := by decide +kernel
theorem dX4_onFlush_19 : decode cX4_onFlush 19 = .ok (.aload_n 0, 1) := by decide +kernel
theorem dX4_onFlush_20 : decode cX4_onFlush 20 = .ok (.iload_n 1, 1) := by decide +kernel
theorem dX4_onFlush_21 : decode cX4_onFlush 21 = .ok (.putfield 39, 3) := by decide +kernel
theorem dX4_onFlush_24 : decode cX4_onFlush 24 = .ok (.aload_n 0, 1) := by decide +kernel
theorem dX4_onFlush_25 : decode cX4_onFlush 25 = .ok (.iconst 0, 1) := by decide +kernel
theorem dX4_onFlush_26 : decode cX4_onFlush 26 = .ok (.putfield 36, 3) := by decide +kernel
theorem dX4_onFlush_29 : decode cX4_onFlush 29 = .ok (.aload_n 0, 1) := by decide +kernel
theorem dX4_onFlush_30 : decode cX4_onFlush 30 = .ok (.getfield 48, 3) := by decide +kernel
theorem dX4_onFlush_33 : decode cX4_onFlush 33 = .ok (.aload_n 0, 1) := by decide +kernel
theorem dX4_onFlush_34 : decode cX4_onFlush 34 = .ok (.getfield 42, 3) := by decide +kernel
theorem dX4_onFlush_37 : decode cX4_onFlush 37 = .ok (.iconst 1, 1) := by decide +kernel
theorem dX4_onFlush_38 : decode cX4_onFlush 38 = .ok (.iload_n 1, 1) := by decide +kernel
theorem dX4_onFlush_39 : decode cX4_onFlush 39 = .ok (.ishl, 1) := by decide +kernel
theorem dX4_onFlush_40 : decode cX4_onFlush 40 = .ok (.bipush 8, 2) := by decide +kernel
theorem dX4_onFlush_42 : decode cX4_onFlush 42 = .ok (.aload_n 0, 1) := by decide +kernel
theorem dX4_onFlush_43 : decode cX4_onFlush 43 = .ok (.getfield 70, 3) := by decide +kernel
theorem dX4_onFlush_46 : decode cX4_onFlush 46 = .ok (.aload_n 0, 1) := by decide +kernel
theorem dX4_onFlush_47 : decode cX4_onFlush 47 = .ok (.getfield 82, 3) := by decide +kernel
theorem dX4_onFlush_50 : decode cX4_onFlush 50 = .ok (.aload_n 0, 1) := by decide +kernel
theorem dX4_onFlush_51 : decode cX4_onFlush 51 = .ok (.getfield 12, 3) := by decide +kernel
theorem dX4_onFlush_54 : decode cX4_onFlush 54 = .ok (.invokevirtual 224, 3) := by decide +kernel
theorem dX4_onFlush_57 : decode cX4_onFlush 57 = .ok (.invokevirtual 110, 3) := by decide +kernel
theorem dX4_onFlush_60 : decode cX4_onFlush 60 = .ok (.return_, 1) := by decide +kernel
theorem dX4_onFlushed_0 : decode cX4_onFlushed 0 = .ok (.aload_n 0, 1) := by decide +kernel
theorem dX4_onFlushed_1 : decode cX4_onFlushed 1 = .ok (.getfield 36, 3) := by decide +kernel
theorem dX4_onFlushed_4 : decode cX4_onFlushed 4 = .ok (.iconst 3, 1) := by decide +kernel
theorem dX4_onFlushed_5 : decode cX4_onFlushed 5 = .ok (.if_icmp .ne 38, 3) := by decide +kernel
theorem dX4_onFlushed_8 : decode cX4_onFlushed 8 = .ok (.aload_n 2, 1) := by decide +kernel
theorem dX4_onFlushed_9 : decode cX4_onFlushed 9 = .ok (.getfield 214, 3) := by decide +kernel
theorem dX4_onFlushed_12 : decode cX4_onFlushed 12 = .ok (.aload_n 0, 1) := by decide +kernel
theorem dX4_onFlushed_13 : decode cX4_onFlushed 13 = .ok (.getfield 70, 3) := by decide +kernel
theorem dX4_onFlushed_16 : decode cX4_onFlushed 16 = .ok (.if_icmp .ne 27, 3) := by decide +kernel
theorem dX4_onFlushed_19 : decode cX4_onFlushed 19 = .ok (.aload_n 0, 1) := by decide +kernel
theorem dX4_onFlushed_20 : decode cX4_onFlushed 20 = .ok (.getfield 28, 3) := by decide +kernel
theorem dX4_onFlushed_23 : decode cX4_onFlushed 23 = .ok (.iload_n 1, 1) := by decide +kernel
theorem dX4_onFlushed_24 : decode cX4_onFlushed 24 = .ok (.aload_n 2, 1) := by decide +kernel
theorem dX4_onFlushed_25 : decode cX4_onFlushed 25 = .ok (.getfield 211, 3) := by decide +kernel
theorem dX4_onFlushed_28 : decode cX4_onFlushed 28 = .ok (.aload_n 2, 1) := by decide +kernel
theorem dX4_onFlushed_29 : decode cX4_onFlushed 29 = .ok (.getfield 228, 3) := by decide +kernel
theorem dX4_onFlushed_32 : decode cX4_onFlushed 32 = .ok (.invokevirtual 229, 3) := by decide +kernel
theorem dX4_onFlushed_35 : decode cX4_onFlushed 35 = .ok (.aload_n 0, 1) := by decide +kernel
theorem dX4_onFlushed_36 : decode cX4_onFlushed 36 = .ok (.getfield 28, 3) := by decide +kernel
theorem dX4_onFlushed_39 : decode cX4_onFlushed 39 = .ok (.iload_n 1, 1) := by decide +kernel
theorem dX4_onFlushed_40 : decode cX4_onFlushed 40 = .ok (.invokevirtual 233, 3) := by decide +kernel
theorem dX4_onFlushed_43 : decode cX4_onFlushed 43 = .ok (.return_, 1) := by decide +kernel
theorem dX4_onSync_0 : decode cX4_onSync 0 = .ok (.aload_n 2, 1) := by decide +kernel
theorem dX4_onSync_1 : decode cX4_onSync 1 = .ok (.getfield 214, 3) := by decide +kernel
theorem dX4_onSync_4 : decode cX4_onSync 4 = .ok (.aload_n 0, 1) := by decide +kernel
theorem dX4_onSync_5 : decode cX4_onSync 5 = .ok (.getfield 70, 3) := by decide +kernel
theorem dX4_onSync_8 : decode cX4_onSync 8 = .ok (.if_icmp .ne 34, 3) := by decide +kernel
theorem dX4_onSync_11 : decode cX4_onSync 11 = .ok (.aload_n 0, 1) := by decide +kernel
theorem dX4_onSync_12 : decode cX4_onSync 12 = .ok (.getfield 12, 3) := by decide +kernel
theorem dX4_onSync_15 : decode cX4_onSync 15 = .ok (.aload_n 2, 1) := by decide +kernel
theorem dX4_onSync_16 : decode cX4_onSync 16 = .ok (.getfield 228, 3) := by decide +kernel
theorem dX4_onSync_19 : decode cX4_onSync 19 = .ok (.invokevirtual 236, 3) := by decide +kernel
theorem dX4_onSync_22 : decode cX4_onSync 22 = .ok (.aload_n 0, 1) := by decide +kernel
theorem dX4_onSync_23 : decode cX4_onSync 23 = .ok (.aload_n 0, 1) := by decide +kernel
theorem dX4_onSync_24 : decode cX4_onSync 24 = .ok (.getfield 70, 3) := by decide +kernel
theorem dX4_onSync_27 : decode cX4_onSync 27 = .ok (.putfield 82, 3) := by decide +kernel
theorem dX4_onSync_30 : decode cX4_onSync 30 = .ok (.aload_n 0, 1) := by decide +kernel
theorem dX4_onSync_31 : decode cX4_onSync 31 = .ok (.iload_n 1, 1) := by decide +kernel
theorem dX4_onSync_32 : decode cX4_onSync 32 = .ok (.bipush 10, 2) := by decide +kernel
theorem dX4_onSync_34 : decode cX4_onSync 34 = .ok (.aload_n 0, 1) := by decide +kernel
theorem dX4_onSync_35 : decode cX4_onSync 35 = .ok (.getfield 70, 3) := by decide +kernel
theorem dX4_onSync_38 : decode cX4_onSync 38 = .ok (.iconst 0, 1) := by decide +kernel
theorem dX4_onSync_39 : decode cX4_onSync 39 = .ok (.invokevirtual 217, 3) := by decide +kernel
theorem dX4_onSync_42 : decode cX4_onSync 42 = .ok (.return_, 1) := by decide +kernel
theorem dX4_onSynced_0 : decode cX4_onSynced 0 = .ok (.aload_n 0, 1) := by decide +kernel
theorem dX4_onSynced_1 : decode cX4_onSynced 1 = .ok (.getfield 36, 3) := by decide +kernel
theorem dX4_onSynced_4 : decode cX4_onSynced 4 = .ok (.iconst 4, 1) := by decide +kernel
theorem dX4_onSynced_5 : decode cX4_onSynced 5 = .ok (.if_icmp .ne 22, 3) := by decide +kernel
theorem dX4_onSynced_8 : decode cX4_onSynced 8 = .ok (.aload_n 2, 1) := by decide +kernel
theorem dX4_onSynced_9 : decode cX4_onSynced 9 = .ok (.getfield 214, 3) := by decide +kernel
theorem dX4_onSynced_12 : decode cX4_onSynced 12 = .ok (.aload_n 0, 1) := by decide +kernel
theorem dX4_onSynced_13 : decode cX4_onSynced 13 = .ok (.getfield 70, 3) := by decide +kernel
theorem dX4_onSynced_16 : decode cX4_onSynced 16 = .ok (.if_icmp .ne 11, 3) := by decide +kernel
theorem dX4_onSynced_19 : decode cX4_onSynced 19 = .ok (.aload_n 0, 1) := by decide +kernel
theorem dX4_onSynced_20 : decode cX4_onSynced 20 = .ok (.getfield 28, 3) := by decide +kernel
theorem dX4_onSynced_23 : decode cX4_onSynced 23 = .ok (.iload_n 1, 1) := by decide +kernel
theorem dX4_onSynced_24 : decode cX4_onSynced 24 = .ok (.invokevirtual 233, 3) := by decide +kernel
theorem dX4_onSynced_27 : decode cX4_onSynced 27 = .ok (.return_, 1) := by decide +kernel
theorem dX4_onBegin_0 : decode cX4_onBegin 0 = .ok (.aload_n 1, 1) := by decide +kernel
theorem dX4_onBegin_1 : decode cX4_onBegin 1 = .ok (.getfield 214, 3) := by decide +kernel
theorem dX4_onBegin_4 : decode cX4_onBegin 4 = .ok (.aload_n 0, 1) := by decide +kernel
theorem dX4_onBegin_5 : decode cX4_onBegin 5 = .ok (.getfield 70, 3) := by decide +kernel
theorem dX4_onBegin_8 : decode cX4_onBegin 8 = .ok (.if_icmp .ne 11, 3) := by decide +kernel
theorem dX4_onBegin_11 : decode cX4_onBegin 11 = .ok (.aload_n 0, 1) := by decide +kernel
theorem dX4_onBegin_12 : decode cX4_onBegin 12 = .ok (.aload_n 1, 1) := by decide +kernel
theorem dX4_onBegin_13 : decode cX4_onBegin 13 = .ok (.getfield 211, 3) := by decide +kernel
theorem dX4_onBegin_16 : decode cX4_onBegin 16 = .ok (.invokevirtual 240, 3) := by decide +kernel
theorem dX4_onBegin_19 : decode cX4_onBegin 19 = .ok (.return_, 1) := by decide +kernel
theorem dX4_goOn_0 : decode cX4_goOn 0 = .ok (.aload_n 0, 1) := by decide +kernel
theorem dX4_goOn_1 : decode cX4_goOn 1 = .ok (.getfield 36, 3) := by decide +kernel
theorem dX4_goOn_4 : decode cX4_goOn 4 = .ok (.iconst 3, 1) := by decide +kernel
theorem dX4_goOn_5 : decode cX4_goOn 5 = .ok (.if_icmp .ne 17, 3) := by decide +kernel
theorem dX4_goOn_8 : decode cX4_goOn 8 = .ok (.aload_n 0, 1) := by decide +kernel
theorem dX4_goOn_9 : decode cX4_goOn 9 = .ok (.getfield 28, 3) := by decide +kernel
theorem dX4_goOn_12 : decode cX4_goOn 12 = .ok (.getfield 243, 3) := by decide +kernel
theorem dX4_goOn_15 : decode cX4_goOn 15 = .ok (.ifCond .ne 7, 3) := by decide +kernel
theorem dX4_goOn_18 : decode cX4_goOn 18 = .ok (.aload_n 0, 1) := by decide +kernel
theorem dX4_goOn_19 : decode cX4_goOn 19 = .ok (.invokevirtual 246, 3) := by decide +kernel
theorem dX4_goOn_22 : decode cX4_goOn 22 = .ok (.aload_n 0, 1) := by decide +kernel
theorem dX4_goOn_23 : decode cX4_goOn 23 = .ok (.getfield 36, 3) := by decide +kernel
theorem dX4_goOn_26 : decode cX4_goOn 26 = .ok (.iconst 4, 1) := by decide +kernel
theorem dX4_goOn_27 : decode cX4_goOn 27 = .ok (.if_icmp .ne 17, 3) := by decide +kernel
theorem dX4_goOn_30 : decode cX4_goOn 30 = .ok (.aload_n 0, 1) := by decide +kernel
theorem dX4_goOn_31 : decode cX4_goOn 31 = .ok (.getfield 28, 3) := by decide +kernel
theorem dX4_goOn_34 : decode cX4_goOn 34 = .ok (.getfield 243, 3) := by decide +kernel
theorem dX4_goOn_37 : decode cX4_goOn 37 = .ok (.ifCond .ne 7, 3) := by decide +kernel
theorem dX4_goOn_40 : decode cX4_goOn 40 = .ok (.aload_n 0, 1) := by decide +kernel
theorem dX4_goOn_41 : decode cX4_goOn 41 = .ok (.invokevirtual 249, 3) := by decide +kernel
theorem dX4_goOn_44 : decode cX4_goOn 44 = .ok (.return_, 1) := by decide +kernel
theorem dX4_giveBest_0 : decode cX4_giveBest 0 = .ok (.aload_n 0, 1) := by decide +kernel
theorem dX4_giveBest_1 : decode cX4_giveBest 1 = .ok (.getfield 12, 3) := by decide +kernel
theorem dX4_giveBest_4 : decode cX4_giveBest 4 = .ok (.aload_n 0, 1) := by decide +kernel
theorem dX4_giveBest_5 : decode cX4_giveBest 5 = .ok (.getfield 28, 3) := by decide +kernel
theorem dX4_giveBest_8 : decode cX4_giveBest 8 = .ok (.getfield 252, 3) := by decide +kernel
theorem dX4_giveBest_11 : decode cX4_giveBest 11 = .ok (.invokevirtual 236, 3) := by decide +kernel
theorem dX4_giveBest_14 : decode cX4_giveBest 14 = .ok (.aload_n 0, 1) := by decide +kernel
theorem dX4_giveBest_15 : decode cX4_giveBest 15 = .ok (.aload_n 0, 1) := by decide +kernel
theorem dX4_giveBest_16 : decode cX4_giveBest 16 = .ok (.getfield 70, 3) := by decide +kernel
theorem dX4_giveBest_19 : decode cX4_giveBest 19 = .ok (.putfield 82, 3) := by decide +kernel
theorem dX4_giveBest_22 : decode cX4_giveBest 22 = .ok (.aload_n 0, 1) := by decide +kernel
theorem dX4_giveBest_23 : decode cX4_giveBest 23 = .ok (.iconst 4, 1) := by decide +kernel
theorem dX4_giveBest_24 : decode cX4_giveBest 24 = .ok (.putfield 36, 3) := by decide +kernel
theorem dX4_giveBest_27 : decode cX4_giveBest 27 = .ok (.aload_n 0, 1) := by decide +kernel
theorem dX4_giveBest_28 : decode cX4_giveBest 28 = .ok (.getfield 28, 3) := by decide +kernel
theorem dX4_giveBest_31 : decode cX4_giveBest 31 = .ok (.aload_n 0, 1) := by decide +kernel
theorem dX4_giveBest_32 : decode cX4_giveBest 32 = .ok (.getfield 28, 3) := by decide +kernel
theorem dX4_giveBest_35 : decode cX4_giveBest 35 = .ok (.getfield 92, 3) := by decide +kernel
theorem dX4_giveBest_38 : decode cX4_giveBest 38 = .ok (.aload_n 0, 1) := by decide +kernel
theorem dX4_giveBest_39 : decode cX4_giveBest 39 = .ok (.getfield 42, 3) := by decide +kernel
theorem dX4_giveBest_42 : decode cX4_giveBest 42 = .ok (.invokestatic 103, 3) := by decide +kernel
theorem dX4_giveBest_45 : decode cX4_giveBest 45 = .ok (.putfield 243, 3) := by decide +kernel
theorem dX4_giveBest_48 : decode cX4_giveBest 48 = .ok (.aload_n 0, 1) := by decide +kernel
theorem dX4_giveBest_49 : decode cX4_giveBest 49 = .ok (.getfield 48, 3) := by decide +kernel
theorem dX4_giveBest_52 : decode cX4_giveBest 52 = .ok (.aload_n 0, 1) := by decide +kernel
theorem dX4_giveBest_53 : decode cX4_giveBest 53 = .ok (.getfield 42, 3) := by decide +kernel
theorem dX4_giveBest_56 : decode cX4_giveBest 56 = .ok (.aload_n 0, 1) := by decide +kernel
theorem dX4_giveBest_57 : decode cX4_giveBest 57 = .ok (.getfield 28, 3) := by decide +kernel
theorem dX4_giveBest_60 : decode cX4_giveBest 60 = .ok (.getfield 243, 3) := by decide +kernel
theorem dX4_giveBest_63 : decode cX4_giveBest 63 = .ok (.bipush 9, 2) := by decide +kernel
theorem dX4_giveBest_65 : decode cX4_giveBest 65 = .ok (.aload_n 0, 1) := by decide +kernel
theorem dX4_giveBest_66 : decode cX4_giveBest 66 = .ok (.getfield 70, 3) := by decide +kernel
theorem dX4_giveBest_69 : decode cX4_giveBest 69 = .ok (.iconst 0, 1) := by decide +kernel
theorem dX4_giveBest_70 : decode cX4_giveBest 70 = .ok (.aload_n 0, 1) := by decide +kernel
theorem dX4_giveBest_71 : decode cX4_giveBest 71 = .ok (.getfield 28, 3) := by decide +kernel
theorem dX4_giveBest_74 : decode cX4_giveBest 74 = .ok (.getfield 252, 3) := by decide +kernel
theorem dX4_giveBest_77 : decode cX4_giveBest 77 = .ok (.invokevirtual 110, 3) := by decide +kernel
theorem dX4_giveBest_80 : decode cX4_giveBest 80 = .ok (.return_, 1) := by decide +kernel
theorem dX4_beginAnew_0 : decode cX4_beginAnew 0 = .ok (.aload_n 0, 1) := by decide +kernel
theorem dX4_beginAnew_1 : decode cX4_beginAnew 1 = .ok (.getfield 48, 3) := by decide +kernel
theorem dX4_beginAnew_4 : decode cX4_beginAnew 4 = .ok (.aload_n 0, 1) := by decide +kernel
theorem dX4_beginAnew_5 : decode cX4_beginAnew 5 = .ok (.getfield 42, 3) := by decide +kernel
theorem dX4_beginAnew_8 : decode cX4_beginAnew 8 = .ok (.aload_n 0, 1) := by decide +kernel
theorem dX4_beginAnew_9 : decode cX4_beginAnew 9 = .ok (.getfield 28, 3) := by decide +kernel
theorem dX4_beginAnew_12 : decode cX4_beginAnew 12 = .ok (.getfield 92, 3) := by decide +kernel
theorem dX4_beginAnew_15 : decode cX4_beginAnew 15 = .ok (.aload_n 0, 1) := by decide +kernel
theorem dX4_beginAnew_16 : decode cX4_beginAnew 16 = .ok (.getfield 42, 3) := by decide +kernel
theorem dX4_beginAnew_19 : decode cX4_beginAnew 19 = .ok (.invokestatic 103, 3) := by decide +kernel
theorem dX4_beginAnew_22 : decode cX4_beginAnew 22 = .ok (.bipush 11, 2) := by decide +kernel
theorem dX4_beginAnew_24 : decode cX4_beginAnew 24 = .ok (.aload_n 0, 1) := by decide +kernel
theorem dX4_beginAnew_25 : decode cX4_beginAnew 25 = .ok (.getfield 70, 3) := by decide +kernel
theorem dX4_beginAnew_28 : decode cX4_beginAnew 28 = .ok (.aload_n 0, 1) := by decide +kernel
theorem dX4_beginAnew_29 : decode cX4_beginAnew 29 = .ok (.getfield 28, 3) := by decide +kernel
theorem dX4_beginAnew_32 : decode cX4_beginAnew 32 = .ok (.getfield 92, 3) := by decide +kernel
theorem dX4_beginAnew_35 : decode cX4_beginAnew 35 = .ok (.getstatic 107, 3) := by decide +kernel
theorem dX4_beginAnew_38 : decode cX4_beginAnew 38 = .ok (.invokevirtual 110, 3) := by decide +kernel
theorem dX4_beginAnew_41 : decode cX4_beginAnew 41 = .ok (.aload_n 0, 1) := by decide +kernel
theorem dX4_beginAnew_42 : decode cX4_beginAnew 42 = .ok (.getfield 48, 3) := by decide +kernel
theorem dX4_beginAnew_45 : decode cX4_beginAnew 45 = .ok (.aload_n 0, 1) := by decide +kernel
theorem dX4_beginAnew_46 : decode cX4_beginAnew 46 = .ok (.getfield 42, 3) := by decide +kernel
theorem dX4_beginAnew_49 : decode cX4_beginAnew 49 = .ok (.aload_n 0, 1) := by decide +kernel
theorem dX4_beginAnew_50 : decode cX4_beginAnew 50 = .ok (.getfield 60, 3) := by decide +kernel
theorem dX4_beginAnew_53 : decode cX4_beginAnew 53 = .ok (.aload_n 0, 1) := by decide +kernel
theorem dX4_beginAnew_54 : decode cX4_beginAnew 54 = .ok (.getfield 28, 3) := by decide +kernel
theorem dX4_beginAnew_57 : decode cX4_beginAnew 57 = .ok (.getfield 92, 3) := by decide +kernel
theorem dX4_beginAnew_60 : decode cX4_beginAnew 60 = .ok (.iconst (-1), 1) := by decide +kernel
theorem dX4_beginAnew_61 : decode cX4_beginAnew 61 = .ok (.ixor, 1) := by decide +kernel
theorem dX4_beginAnew_62 : decode cX4_beginAnew 62 = .ok (.iand, 1) := by decide +kernel
theorem dX4_beginAnew_63 : decode cX4_beginAnew 63 = .ok (.bipush 12, 2) := by decide +kernel
theorem dX4_beginAnew_65 : decode cX4_beginAnew 65 = .ok (.iconst 0, 1) := by decide +kernel
theorem dX4_beginAnew_66 : decode cX4_beginAnew 66 = .ok (.iconst 0, 1) := by decide +kernel
theorem dX4_beginAnew_67 : decode cX4_beginAnew 67 = .ok (.getstatic 107, 3) := by decide +kernel
theorem dX4_beginAnew_70 : decode cX4_beginAnew 70 = .ok (.invokevirtual 110, 3) := by decide +kernel
theorem dX4_beginAnew_73 : decode cX4_beginAnew 73 = .ok (.aload_n 0, 1) := by decide +kernel
theorem dX4_beginAnew_74 : decode cX4_beginAnew 74 = .ok (.aload_n 0, 1) := by decide +kernel
theorem dX4_beginAnew_75 : decode cX4_beginAnew 75 = .ok (.getfield 28, 3) := by decide +kernel
theorem dX4_beginAnew_78 : decode cX4_beginAnew 78 = .ok (.getfield 92, 3) := by decide +kernel
theorem dX4_beginAnew_81 : decode cX4_beginAnew 81 = .ok (.invokevirtual 240, 3) := by decide +kernel
theorem dX4_beginAnew_84 : decode cX4_beginAnew 84 = .ok (.return_, 1) := by decide +kernel
theorem dX4_begin_0 : decode cX4_begin 0 = .ok (.aload_n 0, 1) := by decide +kernel
theorem dX4_begin_1 : decode cX4_begin 1 = .ok (.aload_n 0, 1) := by decide +kernel
theorem dX4_begin_2 : decode cX4_begin 2 = .ok (.getfield 70, 3) := by decide +kernel
theorem dX4_begin_5 : decode cX4_begin 5 = .ok (.putfield 63, 3) := by decide +kernel
theorem dX4_begin_8 : decode cX4_begin 8 = .ok (.aload_n 0, 1) := by decide +kernel
theorem dX4_begin_9 : decode cX4_begin 9 = .ok (.iload_n 1, 1) := by decide +kernel
theorem dX4_begin_10 : decode cX4_begin 10 = .ok (.putfield 60, 3) := by decide +kernel
theorem dX4_begin_13 : decode cX4_begin 13 = .ok (.aload_n 0, 1) := by decide +kernel
theorem dX4_begin_14 : decode cX4_begin 14 = .ok (.iconst 0, 1) := by decide +kernel
theorem dX4_begin_15 : decode cX4_begin 15 = .ok (.putfield 36, 3) := by decide +kernel
theorem dX4_begin_18 : decode cX4_begin 18 = .ok (.aload_n 0, 1) := by decide +kernel
theorem dX4_begin_19 : decode cX4_begin 19 = .ok (.getfield 56, 3) := by decide +kernel
theorem dX4_begin_22 : decode cX4_begin 22 = .ok (.aload_n 0, 1) := by decide +kernel
theorem dX4_begin_23 : decode cX4_begin 23 = .ok (.getfield 12, 3) := by decide +kernel
theorem dX4_begin_26 : decode cX4_begin 26 = .ok (.getfield 76, 3) := by decide +kernel
theorem dX4_begin_29 : decode cX4_begin 29 = .ok (.invokestatic 255, 3) := by decide +kernel
theorem dX4_begin_32 : decode cX4_begin 32 = .ok (.aload_n 0, 1) := by decide +kernel
theorem dX4_begin_33 : decode cX4_begin 33 = .ok (.aload_n 0, 1) := by decide +kernel
theorem dX4_begin_34 : decode cX4_begin 34 = .ok (.getfield 12, 3) := by decide +kernel
theorem dX4_begin_37 : decode cX4_begin 37 = .ok (.getfield 76, 3) := by decide +kernel
theorem dX4_begin_40 : decode cX4_begin 40 = .ok (.invokevirtual 135, 3) := by decide +kernel
theorem dX4_begin_43 : decode cX4_begin 43 = .ok (.aload_n 0, 1) := by decide +kernel
theorem dX4_begin_44 : decode cX4_begin 44 = .ok (.getfield 52, 3) := by decide +kernel
theorem dX4_begin_47 : decode cX4_begin 47 = .ok (.dup, 1) := by decide +kernel
theorem dX4_begin_48 : decode cX4_begin 48 = .ok (.getfield 261, 3) := by decide +kernel
theorem dX4_begin_51 : decode cX4_begin 51 = .ok (.iconst 1, 1) := by decide +kernel
theorem dX4_begin_52 : decode cX4_begin 52 = .ok (.iadd, 1) := by decide +kernel
theorem dX4_begin_53 : decode cX4_begin 53 = .ok (.putfield 261, 3) := by decide +kernel
theorem dX4_begin_56 : decode cX4_begin 56 = .ok (.return_, 1) := by decide +kernel
theorem dX4_ask_0 : decode cX4_ask 0 = .ok (.aload_n 0, 1) := by decide +kernel
theorem dX4_ask_1 : decode cX4_ask 1 = .ok (.iconst 1, 1) := by decide +kernel
theorem dX4_ask_2 : decode cX4_ask 2 = .ok (.putfield 36, 3) := by decide +kernel
theorem dX4_ask_5 : decode cX4_ask 5 = .ok (.aload_n 0, 1) := by decide +kernel
theorem dX4_ask_6 : decode cX4_ask 6 = .ok (.getfield 60, 3) := by decide +kernel
theorem dX4_ask_9 : decode cX4_ask 9 = .ok (.aload_n 0, 1) := by decide +kernel
theorem dX4_ask_10 : decode cX4_ask 10 = .ok (.getfield 73, 3) := by decide +kernel
theorem dX4_ask_13 : decode cX4_ask 13 = .ok (.iconst (-1), 1) := by decide +kernel
theorem dX4_ask_14 : decode cX4_ask 14 = .ok (.ixor, 1) := by decide +kernel
theorem dX4_ask_15 : decode cX4_ask 15 = .ok (.iand, 1) := by decide +kernel
theorem dX4_ask_16 : decode cX4_ask 16 = .ok (.aload_n 0, 1) := by decide +kernel
theorem dX4_ask_17 : decode cX4_ask 17 = .ok (.getfield 42, 3) := by decide +kernel
theorem dX4_ask_20 : decode cX4_ask 20 = .ok (.invokestatic 264, 3) := by decide +kernel
theorem dX4_ask_23 : decode cX4_ask 23 = .ok (.istore_n 1, 1) := by decide +kernel
theorem dX4_ask_24 : decode cX4_ask 24 = .ok (.iload_n 1, 1) := by decide +kernel
theorem dX4_ask_25 : decode cX4_ask 25 = .ok (.ifCond .ne 10, 3) := by decide +kernel
theorem dX4_ask_28 : decode cX4_ask 28 = .ok (.aload_n 0, 1) := by decide +kernel
theorem dX4_ask_29 : decode cX4_ask 29 = .ok (.invokevirtual 267, 3) := by decide +kernel
theorem dX4_ask_32 : decode cX4_ask 32 = .ok (.goto 21, 3) := by decide +kernel
theorem dX4_ask_35 : decode cX4_ask 35 = .ok (.aload_n 0, 1) := by decide +kernel
theorem dX4_ask_36 : decode cX4_ask 36 = .ok (.getfield 48, 3) := by decide +kernel
theorem dX4_ask_39 : decode cX4_ask 39 = .ok (.aload_n 0, 1) := by decide +kernel
theorem dX4_ask_40 : decode cX4_ask 40 = .ok (.getfield 42, 3) := by decide +kernel
theorem dX4_ask_43 : decode cX4_ask 43 = .ok (.iload_n 1, 1) := by decide +kernel
theorem dX4_ask_44 : decode cX4_ask 44 = .ok (.iconst 5, 1) := by decide +kernel
theorem dX4_ask_45 : decode cX4_ask 45 = .ok (.iconst 0, 1) := by decide +kernel
theorem dX4_ask_46 : decode cX4_ask 46 = .ok (.iconst 0, 1) := by decide +kernel
theorem dX4_ask_47 : decode cX4_ask 47 = .ok (.getstatic 107, 3) := by decide +kernel
theorem dX4_ask_50 : decode cX4_ask 50 = .ok (.invokevirtual 110, 3) := by decide +kernel
theorem dX4_ask_53 : decode cX4_ask 53 = .ok (.return_, 1) := by decide +kernel
theorem dX4_flush_0 : decode cX4_flush 0 = .ok (.aload_n 0, 1) := by decide +kernel
theorem dX4_flush_1 : decode cX4_flush 1 = .ok (.getfield 60, 3) := by decide +kernel
theorem dX4_flush_4 : decode cX4_flush 4 = .ok (.aload_n 0, 1) := by decide +kernel
theorem dX4_flush_5 : decode cX4_flush 5 = .ok (.getfield 73, 3) := by decide +kernel
theorem dX4_flush_8 : decode cX4_flush 8 = .ok (.iconst (-1), 1) := by decide +kernel
theorem dX4_flush_9 : decode cX4_flush 9 = .ok (.ixor, 1) := by decide +kernel
theorem dX4_flush_10 : decode cX4_flush 10 = .ok (.iand, 1) := by decide +kernel
theorem dX4_flush_11 : decode cX4_flush 11 = .ok (.istore_n 1, 1) := by decide +kernel
theorem dX4_flush_12 : decode cX4_flush 12 = .ok (.aload_n 0, 1) := by decide +kernel
theorem dX4_flush_13 : decode cX4_flush 13 = .ok (.iload_n 1, 1) := by decide +kernel
theorem dX4_flush_14 : decode cX4_flush 14 = .ok (.invokevirtual 141, 3) := by decide +kernel
theorem dX4_flush_17 : decode cX4_flush 17 = .ok (.ifCond .ne 9, 3) := by decide +kernel
theorem dX4_flush_20 : decode cX4_flush 20 = .ok (.aload_n 0, 1) := by decide +kernel
theorem dX4_flush_21 : decode cX4_flush 21 = .ok (.iconst 0, 1) := by decide +kernel
theorem dX4_flush_22 : decode cX4_flush 22 = .ok (.putfield 36, 3) := by decide +kernel
theorem dX4_flush_25 : decode cX4_flush 25 = .ok (.return_, 1) := by decide +kernel
theorem dX4_flush_26 : decode cX4_flush 26 = .ok (.aload_n 0, 1) := by decide +kernel
theorem dX4_flush_27 : decode cX4_flush 27 = .ok (.aload_n 0, 1) := by decide +kernel
theorem dX4_flush_28 : decode cX4_flush 28 = .ok (.invokevirtual 270, 3) := by decide +kernel
theorem dX4_flush_31 : decode cX4_flush 31 = .ok (.putfield 70, 3) := by decide +kernel
theorem dX4_flush_34 : decode cX4_flush 34 = .ok (.aload_n 0, 1) := by decide +kernel
theorem dX4_flush_35 : decode cX4_flush 35 = .ok (.iconst 3, 1) := by decide +kernel
theorem dX4_flush_36 : decode cX4_flush 36 = .ok (.putfield 36, 3) := by decide +kernel
theorem dX4_flush_39 : decode cX4_flush 39 = .ok (.aload_n 0, 1) := by decide +kernel
theorem dX4_flush_40 : decode cX4_flush 40 = .ok (.getfield 52, 3) := by decide +kernel
theorem dX4_flush_43 : decode cX4_flush 43 = .ok (.dup, 1) := by decide +kernel
theorem dX4_flush_44 : decode cX4_flush 44 = .ok (.getfield 273, 3) := by decide +kernel
theorem dX4_flush_47 : decode cX4_flush 47 = .ok (.iconst 1, 1) := by decide +kernel
theorem dX4_flush_48 : decode cX4_flush 48 = .ok (.iadd, 1) := by decide +kernel
theorem dX4_flush_49 : decode cX4_flush 49 = .ok (.putfield 273, 3) := by decide +kernel
theorem dX4_flush_52 : decode cX4_flush 52 = .ok (.aload_n 0, 1) := by decide +kernel
theorem dX4_flush_53 : decode cX4_flush 53 = .ok (.getfield 28, 3) := by decide +kernel
theorem dX4_flush_56 : decode cX4_flush 56 = .ok (.iload_n 1, 1) := by decide +kernel
theorem dX4_flush_57 : decode cX4_flush 57 = .ok (.aload_n 0, 1) := by decide +kernel
theorem dX4_flush_58 : decode cX4_flush 58 = .ok (.getfield 42, 3) := by decide +kernel
theorem dX4_flush_61 : decode cX4_flush 61 = .ok (.aload_n 0, 1) := by decide +kernel
theorem dX4_flush_62 : decode cX4_flush 62 = .ok (.getfield 82, 3) := by decide +kernel
theorem dX4_flush_65 : decode cX4_flush 65 = .ok (.aload_n 0, 1) := by decide +kernel
theorem dX4_flush_66 : decode cX4_flush 66 = .ok (.getfield 12, 3) := by decide +kernel
theorem dX4_flush_69 : decode cX4_flush 69 = .ok (.invokevirtual 224, 3) := by decide +kernel
theorem dX4_flush_72 : decode cX4_flush 72 = .ok (.invokevirtual 276, 3) := by decide +kernel
theorem dX4_flush_75 : decode cX4_flush 75 = .ok (.aload_n 0, 1) := by decide +kernel
theorem dX4_flush_76 : decode cX4_flush 76 = .ok (.getfield 48, 3) := by decide +kernel
theorem dX4_flush_79 : decode cX4_flush 79 = .ok (.aload_n 0, 1) := by decide +kernel
theorem dX4_flush_80 : decode cX4_flush 80 = .ok (.getfield 42, 3) := by decide +kernel
theorem dX4_flush_83 : decode cX4_flush 83 = .ok (.aload_n 0, 1) := by decide +kernel
theorem dX4_flush_84 : decode cX4_flush 84 = .ok (.getfield 28, 3) := by decide +kernel
theorem dX4_flush_87 : decode cX4_flush 87 = .ok (.getfield 243, 3) := by decide +kernel
theorem dX4_flush_90 : decode cX4_flush 90 = .ok (.bipush 7, 2) := by decide +kernel
theorem dX4_flush_92 : decode cX4_flush 92 = .ok (.aload_n 0, 1) := by decide +kernel
theorem dX4_flush_93 : decode cX4_flush 93 = .ok (.getfield 70, 3) := by decide +kernel
theorem dX4_flush_96 : decode cX4_flush 96 = .ok (.iload_n 1, 1) := by decide +kernel
theorem dX4_flush_97 : decode cX4_flush 97 = .ok (.getstatic 107, 3) := by decide +kernel
theorem dX4_flush_100 : decode cX4_flush 100 = .ok (.invokevirtual 110, 3) := by decide +kernel
theorem dX4_flush_103 : decode cX4_flush 103 = .ok (.return_, 1) := by decide +kernel
theorem dX4_nextOwnNumber_0 : decode cX4_nextOwnNumber 0 = .ok (.aload_n 0, 1) := by decide +kernel
theorem dX4_nextOwnNumber_1 : decode cX4_nextOwnNumber 1 = .ok (.getfield 70, 3) := by decide +kernel
theorem dX4_nextOwnNumber_4 : decode cX4_nextOwnNumber 4 = .ok (.iconst 1, 1) := by decide +kernel
theorem dX4_nextOwnNumber_5 : decode cX4_nextOwnNumber 5 = .ok (.iadd, 1) := by decide +kernel
theorem dX4_nextOwnNumber_6 : decode cX4_nextOwnNumber 6 = .ok (.istore_n 1, 1) := by decide +kernel
theorem dX4_nextOwnNumber_7 : decode cX4_nextOwnNumber 7 = .ok (.iload_n 1, 1) := by decide +kernel
theorem dX4_nextOwnNumber_8 : decode cX4_nextOwnNumber 8 = .ok (.aload_n 0, 1) := by decide +kernel
theorem dX4_nextOwnNumber_9 : decode cX4_nextOwnNumber 9 = .ok (.getfield 42, 3) := by decide +kernel
theorem dX4_nextOwnNumber_12 : decode cX4_nextOwnNumber 12 = .ok (.iload_n 1, 1) := by decide +kernel
theorem dX4_nextOwnNumber_13 : decode cX4_nextOwnNumber 13 = .ok (.isub, 1) := by decide +kernel
theorem dX4_nextOwnNumber_14 : decode cX4_nextOwnNumber 14 = .ok (.aload_n 0, 1) := by decide +kernel
theorem dX4_nextOwnNumber_15 : decode cX4_nextOwnNumber 15 = .ok (.getfield 45, 3) := by decide +kernel
theorem dX4_nextOwnNumber_18 : decode cX4_nextOwnNumber 18 = .ok (.invokestatic 280, 3) := by decide +kernel
theorem dX4_nextOwnNumber_21 : decode cX4_nextOwnNumber 21 = .ok (.iadd, 1) := by decide +kernel
theorem dX4_nextOwnNumber_22 : decode cX4_nextOwnNumber 22 = .ok (.ireturn, 1) := by decide +kernel
theorem dX4_turnAgainst_0 : decode cX4_turnAgainst 0 = .ok (.aload_n 0, 1) := by decide +kernel
theorem dX4_turnAgainst_1 : decode cX4_turnAgainst 1 = .ok (.dup, 1) := by decide +kernel
theorem dX4_turnAgainst_2 : decode cX4_turnAgainst 2 = .ok (.getfield 73, 3) := by decide +kernel
theorem dX4_turnAgainst_5 : decode cX4_turnAgainst 5 = .ok (.iconst 1, 1) := by decide +kernel
theorem dX4_turnAgainst_6 : decode cX4_turnAgainst 6 = .ok (.iload_n 1, 1) := by decide +kernel
theorem dX4_turnAgainst_7 : decode cX4_turnAgainst 7 = .ok (.ishl, 1) := by decide +kernel
theorem dX4_turnAgainst_8 : decode cX4_turnAgainst 8 = .ok (.ior, 1) := by decide +kernel
theorem dX4_turnAgainst_9 : decode cX4_turnAgainst 9 = .ok (.putfield 73, 3) := by decide +kernel
theorem dX4_turnAgainst_12 : decode cX4_turnAgainst 12 = .ok (.aload_n 0, 1) := by decide +kernel
theorem dX4_turnAgainst_13 : decode cX4_turnAgainst 13 = .ok (.invokevirtual 89, 3) := by decide +kernel
theorem dX4_turnAgainst_16 : decode cX4_turnAgainst 16 = .ok (.ifCond .eq 21, 3) := by decide +kernel
theorem dX4_turnAgainst_19 : decode cX4_turnAgainst 19 = .ok (.aload_n 0, 1) := by decide +kernel
theorem dX4_turnAgainst_20 : decode cX4_turnAgainst 20 = .ok (.getfield 28, 3) := by decide +kernel
theorem dX4_turnAgainst_23 : decode cX4_turnAgainst 23 = .ok (.getfield 92, 3) := by decide +kernel
theorem dX4_turnAgainst_26 : decode cX4_turnAgainst 26 = .ok (.iload_n 1, 1) := by decide +kernel
theorem dX4_turnAgainst_27 : decode cX4_turnAgainst 27 = .ok (.invokestatic 93, 3) := by decide +kernel
theorem dX4_turnAgainst_30 : decode cX4_turnAgainst 30 = .ok (.ifCond .eq 7, 3) := by decide +kernel
theorem dX4_turnAgainst_33 : decode cX4_turnAgainst 33 = .ok (.iconst 1, 1) := by decide +kernel
theorem dX4_turnAgainst_34 : decode cX4_turnAgainst 34 = .ok (.goto 4, 3) := by decide +kernel
theorem dX4_turnAgainst_37 : decode cX4_turnAgainst 37 = .ok (.iconst 0, 1) := by decide +kernel
theorem dX4_turnAgainst_38 : decode cX4_turnAgainst 38 = .ok (.istore_n 2, 1) := by decide +kernel
theorem dX4_turnAgainst_39 : decode cX4_turnAgainst 39 = .ok (.iload_n 2, 1) := by decide +kernel
theorem dX4_turnAgainst_40 : decode cX4_turnAgainst 40 = .ok (.ifCond .ne 21, 3) := by decide +kernel
theorem dX4_turnAgainst_43 : decode cX4_turnAgainst 43 = .ok (.aload_n 0, 1) := by decide +kernel
theorem dX4_turnAgainst_44 : decode cX4_turnAgainst 44 = .ok (.invokevirtual 202, 3) := by decide +kernel
theorem dX4_turnAgainst_47 : decode cX4_turnAgainst 47 = .ok (.ifCond .eq 21, 3) := by decide +kernel
theorem dX4_turnAgainst_50 : decode cX4_turnAgainst 50 = .ok (.aload_n 0, 1) := by decide +kernel
theorem dX4_turnAgainst_51 : decode cX4_turnAgainst 51 = .ok (.getfield 60, 3) := by decide +kernel
theorem dX4_turnAgainst_54 : decode cX4_turnAgainst 54 = .ok (.iload_n 1, 1) := by decide +kernel
theorem dX4_turnAgainst_55 : decode cX4_turnAgainst 55 = .ok (.invokestatic 93, 3) := by decide +kernel
theorem dX4_turnAgainst_58 : decode cX4_turnAgainst 58 = .ok (.ifCond .eq 10, 3) := by decide +kernel
theorem dX4_turnAgainst_61 : decode cX4_turnAgainst 61 = .ok (.aload_n 0, 1) := by decide +kernel
theorem dX4_turnAgainst_62 : decode cX4_turnAgainst 62 = .ok (.invokevirtual 267, 3) := by decide +kernel
theorem dX4_turnAgainst_65 : decode cX4_turnAgainst 65 = .ok (.goto 30, 3) := by decide +kernel
theorem dX4_turnAgainst_68 : decode cX4_turnAgainst 68 = .ok (.aload_n 0, 1) := by decide +kernel
theorem dX4_turnAgainst_69 : decode cX4_turnAgainst 69 = .ok (.getfield 36, 3) := by decide +kernel
theorem dX4_turnAgainst_72 : decode cX4_turnAgainst 72 = .ok (.ifCond .ne 23, 3) := by decide +kernel
theorem dX4_turnAgainst_75 : decode cX4_turnAgainst 75 = .ok (.iload_n 1, 1) := by decide +kernel
theorem dX4_turnAgainst_76 : decode cX4_turnAgainst 76 = .ok (.aload_n 0, 1) := by decide +kernel
theorem dX4_turnAgainst_77 : decode cX4_turnAgainst 77 = .ok (.invokevirtual 66, 3) := by decide +kernel
theorem dX4_turnAgainst_80 : decode cX4_turnAgainst 80 = .ok (.if_icmp .eq 11, 3) := by decide +kernel
theorem dX4_turnAgainst_83 : decode cX4_turnAgainst 83 = .ok (.iload_n 1, 1) := by decide +kernel
theorem dX4_turnAgainst_84 : decode cX4_turnAgainst 84 = .ok (.aload_n 0, 1) := by decide +kernel
theorem dX4_turnAgainst_85 : decode cX4_turnAgainst 85 = .ok (.getfield 39, 3) := by decide +kernel
theorem dX4_turnAgainst_88 : decode cX4_turnAgainst 88 = .ok (.if_icmp .ne 7, 3) := by decide +kernel
theorem dX4_turnAgainst_91 : decode cX4_turnAgainst 91 = .ok (.aload_n 0, 1) := by decide +kernel
theorem dX4_turnAgainst_92 : decode cX4_turnAgainst 92 = .ok (.invokevirtual 221, 3) := by decide +kernel
theorem dX4_turnAgainst_95 : decode cX4_turnAgainst 95 = .ok (.return_, 1) := by decide +kernel
theorem dX4_losePatience_0 : decode cX4_losePatience 0 = .ok (.aload_n 0, 1) := by decide +kernel
theorem dX4_losePatience_1 : decode cX4_losePatience 1 = .ok (.getfield 36, 3) := by decide +kernel
theorem dX4_losePatience_4 : decode cX4_losePatience 4 = .ok (.iconst 2, 1) := by decide +kernel
theorem dX4_losePatience_5 : decode cX4_losePatience 5 = .ok (.if_icmp .ne 10, 3) := by decide +kernel
theorem dX4_losePatience_8 : decode cX4_losePatience 8 = .ok (.aload_n 0, 1) := by decide +kernel
theorem dX4_losePatience_9 : decode cX4_losePatience 9 = .ok (.invokevirtual 221, 3) := by decide +kernel
theorem dX4_losePatience_12 : decode cX4_losePatience 12 = .ok (.goto 14, 3) := by decide +kernel
theorem dX4_losePatience_15 : decode cX4_losePatience 15 = .ok (.aload_n 0, 1) := by decide +kernel
theorem dX4_losePatience_16 : decode cX4_losePatience 16 = .ok (.getfield 36, 3) := by decide +kernel
theorem dX4_losePatience_19 : decode cX4_losePatience 19 = .ok (.ifCond .eq 7, 3) := by decide +kernel
theorem dX4_losePatience_22 : decode cX4_losePatience 22 = .ok (.aload_n 0, 1) := by decide +kernel
theorem dX4_losePatience_23 : decode cX4_losePatience 23 = .ok (.invokevirtual 267, 3) := by decide +kernel
theorem dX4_losePatience_26 : decode cX4_losePatience 26 = .ok (.return_, 1) := by decide +kernel
theorem dX5_init_0 : decode cX5_init 0 = .ok (.aload_n 0, 1) := by decide +kernel
theorem dX5_init_1 : decode cX5_init 1 = .ok (.invokespecial 3, 3) := by decide +kernel
theorem dX5_init_4 : decode cX5_init 4 = .ok (.aload_n 0, 1) := by decide +kernel
theorem dX5_init_5 : decode cX5_init 5 = .ok (.iload_n 1, 1) := by decide +kernel
theorem dX5_init_6 : decode cX5_init 6 = .ok (.putfield 9, 3) := by decide +kernel
theorem dX5_init_9 : decode cX5_init 9 = .ok (.aload_n 0, 1) := by decide +kernel
theorem dX5_init_10 : decode cX5_init 10 = .ok (.aload_n 2, 1) := by decide +kernel
theorem dX5_init_11 : decode cX5_init 11 = .ok (.putfield 15, 3) := by decide +kernel
theorem dX5_init_14 : decode cX5_init 14 = .ok (.aload_n 0, 1) := by decide +kernel
theorem dX5_init_15 : decode cX5_init 15 = .ok (.iload_n 1, 1) := by decide +kernel
theorem dX5_init_16 : decode cX5_init 16 = .ok (.iload_n 1, 1) := by decide +kernel
theorem dX5_init_17 : decode cX5_init 17 = .ok (.imul, 1) := by decide +kernel
theorem dX5_init_18 : decode cX5_init 18 = .ok (.anewarray 19, 3) := by decide +kernel
theorem dX5_init_21 : decode cX5_init 21 = .ok (.putfield 21, 3) := by decide +kernel
theorem dX5_init_24 : decode cX5_init 24 = .ok (.iconst 0, 1) := by decide +kernel
theorem dX5_init_25 : decode cX5_init 25 = .ok (.istore_n 3, 1) := by decide +kernel
theorem dX5_init_26 : decode cX5_init 26 = .ok (.iload_n 3, 1) := by decide +kernel
theorem dX5_init_27 : decode cX5_init 27 = .ok (.aload_n 0, 1) := by decide +kernel
theorem dX5_init_28 : decode cX5_init 28 = .ok (.getfield 21, 3) := by decide +kernel
theorem dX5_init_31 : decode cX5_init 31 = .ok (.arraylength, 1) := by decide +kernel
theorem dX5_init_32 : decode cX5_init 32 = .ok (.if_icmp .ge 22, 3) := by decide +kernel
theorem dX5_init_35 : decode cX5_init 35 = .ok (.aload_n 0, 1) := by decide +kernel
theorem dX5_init_36 : decode cX5_init 36 = .ok (.getfield 21, 3) := by decide +kernel
theorem dX5_init_39 : decode cX5_init 39 = .ok (.iload_n 3, 1) := by decide +kernel
theorem dX5_init_40 : decode cX5_init 40 = .ok (.new 19, 3) := by decide +kernel
theorem dX5_init_43 : decode cX5_init 43 = .ok (.dup, 1) := by decide +kernel
theorem dX5_init_44 : decode cX5_init 44 = .ok (.invokespecial 25, 3) := by decide +kernel
theorem dX5_init_47 : decode cX5_init 47 = .ok (.aastore, 1) := by decide +kernel
theorem dX5_init_48 : decode cX5_init 48 = .ok (.iinc 3 1, 3) := by decide +kernel
theorem dX5_init_51 : decode cX5_init 51 = .ok (.goto (-25), 3) := by decide +kernel
theorem dX5_init_54 : decode cX5_init 54 = .ok (.return_, 1) := by decide +kernel
theorem dX5_between_0 : decode cX5_between 0 = .ok (.iload_n 1, 1) := by decide +kernel
theorem dX5_between_1 : decode cX5_between 1 = .ok (.ifCond .lt 27, 3) := by decide +kernel
theorem dX5_between_4 : decode cX5_between 4 = .ok (.iload_n 1, 1) := by decide +kernel
theorem dX5_between_5 : decode cX5_between 5 = .ok (.aload_n 0, 1) := by decide +kernel
theorem dX5_between_6 : decode cX5_between 6 = .ok (.getfield 9, 3) := by decide +kernel
theorem dX5_between_9 : decode cX5_between 9 = .ok (.if_icmp .ge 19, 3) := by decide +kernel
theorem dX5_between_12 : decode cX5_between 12 = .ok (.iload_n 2, 1) := by decide +kernel
theorem dX5_between_13 : decode cX5_between 13 = .ok (.ifCond .lt 15, 3) := by decide +kernel
theorem dX5_between_16 : decode cX5_between 16 = .ok (.iload_n 2, 1) := by decide +kernel
theorem dX5_between_17 : decode cX5_between 17 = .ok (.aload_n 0, 1) := by decide +kernel
theorem dX5_between_18 : decode cX5_between 18 = .ok (.getfield 9, 3) := by decide +kernel
theorem dX5_between_21 : decode cX5_between 21 = .ok (.if_icmp .ge 7, 3) := by decide +kernel
theorem dX5_between_24 : decode cX5_between 24 = .ok (.iconst 1, 1) := by decide +kernel
theorem dX5_between_25 : decode cX5_between 25 = .ok (.goto 4, 3) := by decide +kernel
theorem dX5_between_28 : decode cX5_between 28 = .ok (.iconst 0, 1) := by decide +kernel
theorem dX5_between_29 : decode cX5_between 29 = .ok (.istore_n 3, 1) := by decide +kernel
theorem dX5_between_30 : decode cX5_between 30 = .ok (.iload_n 3, 1) := by decide +kernel
theorem dX5_between_31 : decode cX5_between 31 = .ok (.ifCond .eq 19, 3) := by decide +kernel
theorem dX5_between_34 : decode cX5_between 34 = .ok (.aload_n 0, 1) := by decide +kernel
theorem dX5_between_35 : decode cX5_between 35 = .ok (.getfield 21, 3) := by decide +kernel
theorem dX5_between_38 : decode cX5_between 38 = .ok (.iload_n 1, 1) := by decide +kernel
theorem dX5_between_39 : decode cX5_between 39 = .ok (.aload_n 0, 1) := by decide +kernel
theorem dX5_between_40 : decode cX5_between 40 = .ok (.getfield 9, 3) := by decide +kernel
theorem dX5_between_43 : decode cX5_between 43 = .ok (.imul, 1) := by decide +kernel
theorem dX5_between_44 : decode cX5_between 44 = .ok (.iload_n 2, 1) := by decide +kernel
theorem dX5_between_45 : decode cX5_between 45 = .ok (.iadd, 1) := by decide +kernel
theorem dX5_between_46 : decode cX5_between 46 = .ok (.aaload, 1) := by decide +kernel
theorem dX5_between_47 : decode cX5_between 47 = .ok (.goto 4, 3) := by decide +kernel
theorem dX5_between_50 : decode cX5_between 50 = .ok (.aconst_null, 1) := by decide +kernel
theorem dX5_between_51 : decode cX5_between 51 = .ok (.areturn, 1) := by decide +kernel
theorem dX5_takeOldest_0 : decode cX5_takeOldest 0 = .ok (.aload_n 1, 1) := by decide +kernel
theorem dX5_takeOldest_1 : decode cX5_takeOldest 1 = .ok (.invokevirtual 26, 3) := by decide +kernel
theorem dX5_takeOldest_4 : decode cX5_takeOldest 4 = .ok (.astore_n 2, 1) := by decide +kernel
theorem dX5_takeOldest_5 : decode cX5_takeOldest 5 = .ok (.aload_n 2, 1) := by decide +kernel
theorem dX5_takeOldest_6 : decode cX5_takeOldest 6 = .ok (.ifnull 13, 3) := by decide +kernel
theorem dX5_takeOldest_9 : decode cX5_takeOldest 9 = .ok (.aload_n 0, 1) := by decide +kernel
theorem dX5_takeOldest_10 : decode cX5_takeOldest 10 = .ok (.dup, 1) := by decide +kernel
theorem dX5_takeOldest_11 : decode cX5_takeOldest 11 = .ok (.getfield 30, 3) := by decide +kernel
theorem dX5_takeOldest_14 : decode cX5_takeOldest 14 = .ok (.iconst 1, 1) := by decide +kernel
theorem dX5_takeOldest_15 : decode cX5_takeOldest 15 = .ok (.isub, 1) := by decide +kernel
theorem dX5_takeOldest_16 : decode cX5_takeOldest 16 = .ok (.putfield 30, 3) := by decide +kernel
theorem dX5_takeOldest_19 : decode cX5_takeOldest 19 = .ok (.aload_n 2, 1) := by decide +kernel
theorem dX5_takeOldest_20 : decode cX5_takeOldest 20 = .ok (.areturn, 1) := by decide +kernel
theorem dX5_send_0 : decode cX5_send 0 = .ok (.iconst 0, 1) := by decide +kernel
theorem dX5_send_1 : decode cX5_send 1 = .ok (.istore 7, 2) := by decide +kernel
theorem dX5_send_3 : decode cX5_send 3 = .ok (.iload 7, 2) := by decide +kernel
theorem dX5_send_5 : decode cX5_send 5 = .ok (.aload_n 0, 1) := by decide +kernel
theorem dX5_send_6 : decode cX5_send 6 = .ok (.getfield 9, 3) := by decide +kernel
theorem dX5_send_9 : decode cX5_send 9 = .ok (.if_icmp .ge 103, 3) := by decide +kernel
theorem dX5_send_12 : decode cX5_send 12 = .ok (.iload_n 2, 1) := by decide +kernel
theorem dX5_send_13 : decode cX5_send 13 = .ok (.iload 7, 2) := by decide +kernel
theorem dX5_send_15 : decode cX5_send 15 = .ok (.invokestatic 33, 3) := by decide +kernel
theorem dX5_send_18 : decode cX5_send 18 = .ok (.ifCond .ne 6, 3) := by decide +kernel
theorem dX5_send_21 : decode cX5_send 21 = .ok (.goto 85, 3) := by decide +kernel
theorem dX5_send_24 : decode cX5_send 24 = .ok (.aload_n 0, 1) := by decide +kernel
theorem dX5_send_25 : decode cX5_send 25 = .ok (.getfield 15, 3) := by decide +kernel
theorem dX5_send_28 : decode cX5_send 28 = .ok (.dup, 1) := by decide +kernel
theorem dX5_send_29 : decode cX5_send 29 = .ok (.getfield 37, 3) := by decide +kernel
theorem dX5_send_32 : decode cX5_send 32 = .ok (.iconst 1, 1) := by decide +kernel
theorem dX5_send_33 : decode cX5_send 33 = .ok (.iadd, 1) := by decide +kernel
theorem dX5_send_34 : decode cX5_send 34 = .ok (.putfield 37, 3) := by decide +kernel
theorem dX5_send_37 : decode cX5_send 37 = .ok (.aload_n 0, 1) := by decide +kernel
theorem dX5_send_38 : decode cX5_send 38 = .ok (.iload_n 1, 1) := by decide +kernel
theorem dX5_send_39 : decode cX5_send 39 = .ok (.iload 7, 2) := by decide +kernel
theorem dX5_send_41 : decode cX5_send 41 = .ok (.invokevirtual 42, 3) := by decide +kernel
theorem dX5_send_44 : decode cX5_send 44 = .ok (.astore 8, 2) := by decide +kernel
theorem dX5_send_46 : decode cX5_send 46 = .ok (.aload 8, 2) := by decide +kernel
theorem dX5_send_48 : decode cX5_send 48 = .ok (.ifnull 13, 3) := by decide +kernel
theorem dX5_send_51 : decode cX5_send 51 = .ok (.aload_n 0, 1) := by decide +kernel
theorem dX5_send_52 : decode cX5_send 52 = .ok (.getfield 30, 3) := by decide +kernel
theorem dX5_send_55 : decode cX5_send 55 = .ok (.sipush 500, 3) := by decide +kernel
theorem dX5_send_58 : decode cX5_send 58 = .ok (.if_icmp .lt 19, 3) := by decide +kernel
theorem dX5_send_61 : decode cX5_send 61 = .ok (.aload_n 0, 1) := by decide +kernel
theorem dX5_send_62 : decode cX5_send 62 = .ok (.getfield 15, 3) := by decide +kernel
theorem dX5_send_65 : decode cX5_send 65 = .ok (.dup, 1) := by decide +kernel
theorem dX5_send_66 : decode cX5_send 66 = .ok (.getfield 46, 3) := by decide +kernel
theorem dX5_send_69 : decode cX5_send 69 = .ok (.iconst 1, 1) := by decide +kernel
theorem dX5_send_70 : decode cX5_send 70 = .ok (.iadd, 1) := by decide +kernel
theorem dX5_send_71 : decode cX5_send 71 = .ok (.putfield 46, 3) := by decide +kernel
theorem dX5_send_74 : decode cX5_send 74 = .ok (.goto 32, 3) := by decide +kernel
theorem dX5_send_77 : decode cX5_send 77 = .ok (.aload 8, 2) := by decide +kernel
theorem dX5_send_79 : decode cX5_send 79 = .ok (.new 49, 3) := by decide +kernel
theorem dX5_send_82 : decode cX5_send 82 = .ok (.dup, 1) := by decide +kernel
theorem dX5_send_83 : decode cX5_send 83 = .ok (.iload_n 3, 1) := by decide +kernel
theorem dX5_send_84 : decode cX5_send 84 = .ok (.iload 4, 2) := by decide +kernel
theorem dX5_send_86 : decode cX5_send 86 = .ok (.iload 5, 2) := by decide +kernel
theorem dX5_send_88 : decode cX5_send 88 = .ok (.aload 6, 2) := by decide +kernel
theorem dX5_send_90 : decode cX5_send 90 = .ok (.invokespecial 51, 3) := by decide +kernel
theorem dX5_send_93 : decode cX5_send 93 = .ok (.invokevirtual 54, 3) := by decide +kernel
theorem dX5_send_96 : decode cX5_send 96 = .ok (.aload_n 0, 1) := by decide +kernel
theorem dX5_send_97 : decode cX5_send 97 = .ok (.dup, 1) := by decide +kernel
theorem dX5_send_98 : decode cX5_send 98 = .ok (.getfield 30, 3) := by decide +kernel
theorem dX5_send_101 : decode cX5_send 101 = .ok (.iconst 1, 1) := by decide +kernel
theorem dX5_send_102 : decode cX5_send 102 = .ok (.iadd, 1) := by decide +kernel
theorem dX5_send_103 : decode cX5_send 103 = .ok (.putfield 30, 3) := by decide +kernel
theorem dX5_send_106 : decode cX5_send 106 = .ok (.iinc 7 1, 3) := by decide +kernel
theorem dX5_send_109 : decode cX5_send 109 = .ok (.goto (-106), 3) := by decide +kernel
theorem dX5_send_112 : decode cX5_send 112 = .ok (.return_, 1) := by decide +kernel
theorem dX6_init_0 : decode cX6_init 0 = .ok (.aload_n 0, 1) := by decide +kernel
theorem dX6_init_1 : decode cX6_init 1 = .ok (.invokespecial 3, 3) := by decide +kernel
theorem dX6_init_4 : decode cX6_init 4 = .ok (.aload_n 0, 1) := by decide +kernel
theorem dX6_init_5 : decode cX6_init 5 = .ok (.bipush 60, 2) := by decide +kernel
theorem dX6_init_7 : decode cX6_init 7 = .ok (.newarray .int, 2) := by decide +kernel
theorem dX6_init_9 : decode cX6_init 9 = .ok (.putfield 9, 3) := by decide +kernel
theorem dX6_init_12 : decode cX6_init 12 = .ok (.return_, 1) := by decide +kernel
theorem dX6_isFull_0 : decode cX6_isFull 0 = .ok (.aload_n 0, 1) := by decide +kernel
theorem dX6_isFull_1 : decode cX6_isFull 1 = .ok (.getfield 15, 3) := by decide +kernel
theorem dX6_isFull_4 : decode cX6_isFull 4 = .ok (.bipush 60, 2) := by decide +kernel
theorem dX6_isFull_6 : decode cX6_isFull 6 = .ok (.if_icmp .lt 7, 3) := by decide +kernel
theorem dX6_isFull_9 : decode cX6_isFull 9 = .ok (.iconst 1, 1) := by decide +kernel
theorem dX6_isFull_10 : decode cX6_isFull 10 = .ok (.goto 4, 3) := by decide +kernel
theorem dX6_isFull_13 : decode cX6_isFull 13 = .ok (.iconst 0, 1) := by decide +kernel
theorem dX6_isFull_14 : decode cX6_isFull 14 = .ok (.ireturn, 1) := by decide +kernel
theorem dX6_add_0 : decode cX6_add 0 = .ok (.aload_n 0, 1) := by decide +kernel
theorem dX6_add_1 : decode cX6_add 1 = .ok (.invokevirtual 19, 3) := by decide +kernel
theorem dX6_add_4 : decode cX6_add 4 = .ok (.ifCond .ne 23, 3) := by decide +kernel
theorem dX6_add_7 : decode cX6_add 7 = .ok (.aload_n 0, 1) := by decide +kernel
theorem dX6_add_8 : decode cX6_add 8 = .ok (.getfield 9, 3) := by decide +kernel
theorem dX6_add_11 : decode cX6_add 11 = .ok (.aload_n 0, 1) := by decide +kernel
theorem dX6_add_12 : decode cX6_add 12 = .ok (.getfield 15, 3) := by decide +kernel
theorem dX6_add_15 : decode cX6_add 15 = .ok (.iload_n 1, 1) := by decide +kernel
theorem dX6_add_16 : decode cX6_add 16 = .ok (.iastore, 1) := by decide +kernel
theorem dX6_add_17 : decode cX6_add 17 = .ok (.aload_n 0, 1) := by decide +kernel
theorem dX6_add_18 : decode cX6_add 18 = .ok (.dup, 1) := by decide +kernel
theorem dX6_add_19 : decode cX6_add 19 = .ok (.getfield 15, 3) := by decide +kernel
theorem dX6_add_22 : decode cX6_add 22 = .ok (.iconst 1, 1) := by decide +kernel
theorem dX6_add_23 : decode cX6_add 23 = .ok (.iadd, 1) := by decide +kernel
theorem dX6_add_24 : decode cX6_add 24 = .ok (.putfield 15, 3) := by decide +kernel
theorem dX6_add_27 : decode cX6_add 27 = .ok (.return_, 1) := by decide +kernel
theorem dX6_copy_0 : decode cX6_copy 0 = .ok (.aload_n 0, 1) := by decide +kernel
theorem dX6_copy_1 : decode cX6_copy 1 = .ok (.getfield 9, 3) := by decide +kernel
theorem dX6_copy_4 : decode cX6_copy 4 = .ok (.aload_n 0, 1) := by decide +kernel
theorem dX6_copy_5 : decode cX6_copy 5 = .ok (.getfield 15, 3) := by decide +kernel
theorem dX6_copy_8 : decode cX6_copy 8 = .ok (.invokestatic 23, 3) := by decide +kernel
theorem dX6_copy_11 : decode cX6_copy 11 = .ok (.areturn, 1) := by decide +kernel
theorem dX6_become_0 : decode cX6_become 0 = .ok (.aload_n 0, 1) := by decide +kernel
theorem dX6_become_1 : decode cX6_become 1 = .ok (.aload_n 1, 1) := by decide +kernel
theorem dX6_become_2 : decode cX6_become 2 = .ok (.arraylength, 1) := by decide +kernel
theorem dX6_become_3 : decode cX6_become 3 = .ok (.bipush 60, 2) := by decide +kernel
theorem dX6_become_5 : decode cX6_become 5 = .ok (.invokestatic 29, 3) := by decide +kernel
theorem dX6_become_8 : decode cX6_become 8 = .ok (.putfield 15, 3) := by decide +kernel
theorem dX6_become_11 : decode cX6_become 11 = .ok (.aload_n 1, 1) := by decide +kernel
theorem dX6_become_12 : decode cX6_become 12 = .ok (.iconst 0, 1) := by decide +kernel
theorem dX6_become_13 : decode cX6_become 13 = .ok (.aload_n 0, 1) := by decide +kernel
theorem dX6_become_14 : decode cX6_become 14 = .ok (.getfield 9, 3) := by decide +kernel
theorem dX6_become_17 : decode cX6_become 17 = .ok (.iconst 0, 1) := by decide +kernel
theorem dX6_become_18 : decode cX6_become 18 = .ok (.aload_n 0, 1) := by decide +kernel
