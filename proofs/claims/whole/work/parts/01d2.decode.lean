theorem dX6_become_19 : decode cX6_become 19 = .ok (.getfield 15, 3) := by decide +kernel
theorem dX6_become_22 : decode cX6_become 22 = .ok (.invokestatic 35, 3) := by decide +kernel
theorem dX6_become_25 : decode cX6_become 25 = .ok (.return_, 1) := by decide +kernel
theorem dX7_init_0 : decode cX7_init 0 = .ok (.aload_n 0, 1) := by decide +kernel
theorem dX7_init_1 : decode cX7_init 1 = .ok (.invokespecial 3, 3) := by decide +kernel
theorem dX7_init_4 : decode cX7_init 4 = .ok (.return_, 1) := by decide +kernel
theorem dX7_tell_0 : decode cX7_tell 0 = .ok (.iload_n 1, 1) := by decide +kernel
theorem dX7_tell_1 : decode cX7_tell 1 = .ok (.tableswitch 60 0 4 #[35, 40, 45, 50, 55], 35) := by decide +kernel
theorem dX7_tell_36 : decode cX7_tell 36 = .ok (.aload_n 0, 1) := by decide +kernel
theorem dX7_tell_37 : decode cX7_tell 37 = .ok (.getfield 9, 3) := by decide +kernel
theorem dX7_tell_40 : decode cX7_tell 40 = .ok (.ireturn, 1) := by decide +kernel
theorem dX7_tell_41 : decode cX7_tell 41 = .ok (.aload_n 0, 1) := by decide +kernel
theorem dX7_tell_42 : decode cX7_tell 42 = .ok (.getfield 15, 3) := by decide +kernel
theorem dX7_tell_45 : decode cX7_tell 45 = .ok (.ireturn, 1) := by decide +kernel
theorem dX7_tell_46 : decode cX7_tell 46 = .ok (.aload_n 0, 1) := by decide +kernel
theorem dX7_tell_47 : decode cX7_tell 47 = .ok (.getfield 18, 3) := by decide +kernel
theorem dX7_tell_50 : decode cX7_tell 50 = .ok (.ireturn, 1) := by decide +kernel
theorem dX7_tell_51 : decode cX7_tell 51 = .ok (.aload_n 0, 1) := by decide +kernel
theorem dX7_tell_52 : decode cX7_tell 52 = .ok (.getfield 21, 3) := by decide +kernel
theorem dX7_tell_55 : decode cX7_tell 55 = .ok (.ireturn, 1) := by decide +kernel
theorem dX7_tell_56 : decode cX7_tell 56 = .ok (.aload_n 0, 1) := by decide +kernel
theorem dX7_tell_57 : decode cX7_tell 57 = .ok (.getfield 24, 3) := by decide +kernel
theorem dX7_tell_60 : decode cX7_tell 60 = .ok (.ireturn, 1) := by decide +kernel
theorem dX7_tell_61 : decode cX7_tell 61 = .ok (.iconst (-1), 1) := by decide +kernel
theorem dX7_tell_62 : decode cX7_tell 62 = .ok (.ireturn, 1) := by decide +kernel
theorem dX8_init_0 : decode cX8_init 0 = .ok (.aload_n 0, 1) := by decide +kernel
theorem dX8_init_1 : decode cX8_init 1 = .ok (.invokespecial 3, 3) := by decide +kernel
theorem dX8_init_4 : decode cX8_init 4 = .ok (.iload_n 1, 1) := by decide +kernel
theorem dX8_init_5 : decode cX8_init 5 = .ok (.iconst 2, 1) := by decide +kernel
theorem dX8_init_6 : decode cX8_init 6 = .ok (.if_icmp .lt 13, 3) := by decide +kernel
theorem dX8_init_9 : decode cX8_init 9 = .ok (.iload_n 1, 1) := by decide +kernel
theorem dX8_init_10 : decode cX8_init 10 = .ok (.bipush 7, 2) := by decide +kernel
theorem dX8_init_12 : decode cX8_init 12 = .ok (.if_icmp .gt 7, 3) := by decide +kernel
theorem dX8_init_15 : decode cX8_init 15 = .ok (.iload_n 1, 1) := by decide +kernel
theorem dX8_init_16 : decode cX8_init 16 = .ok (.goto 4, 3) := by decide +kernel
theorem dX8_init_19 : decode cX8_init 19 = .ok (.iconst 3, 1) := by decide +kernel
theorem dX8_init_20 : decode cX8_init 20 = .ok (.istore_n 2, 1) := by decide +kernel
theorem dX8_init_21 : decode cX8_init 21 = .ok (.aload_n 0, 1) := by decide +kernel
theorem dX8_init_22 : decode cX8_init 22 = .ok (.new 9, 3) := by decide +kernel
theorem dX8_init_25 : decode cX8_init 25 = .ok (.dup, 1) := by decide +kernel
theorem dX8_init_26 : decode cX8_init 26 = .ok (.invokespecial 11, 3) := by decide +kernel
theorem dX8_init_29 : decode cX8_init 29 = .ok (.putfield 12, 3) := by decide +kernel
theorem dX8_init_32 : decode cX8_init 32 = .ok (.aload_n 0, 1) := by decide +kernel
theorem dX8_init_33 : decode cX8_init 33 = .ok (.new 16, 3) := by decide +kernel
theorem dX8_init_36 : decode cX8_init 36 = .ok (.dup, 1) := by decide +kernel
theorem dX8_init_37 : decode cX8_init 37 = .ok (.iload_n 2, 1) := by decide +kernel
theorem dX8_init_38 : decode cX8_init 38 = .ok (.aload_n 0, 1) := by decide +kernel
theorem dX8_init_39 : decode cX8_init 39 = .ok (.getfield 12, 3) := by decide +kernel
theorem dX8_init_42 : decode cX8_init 42 = .ok (.invokespecial 18, 3) := by decide +kernel
theorem dX8_init_45 : decode cX8_init 45 = .ok (.putfield 21, 3) := by decide +kernel
theorem dX8_init_48 : decode cX8_init 48 = .ok (.aload_n 0, 1) := by decide +kernel
theorem dX8_init_49 : decode cX8_init 49 = .ok (.iload_n 2, 1) := by decide +kernel
theorem dX8_init_50 : decode cX8_init 50 = .ok (.anewarray 25, 3) := by decide +kernel
theorem dX8_init_53 : decode cX8_init 53 = .ok (.putfield 27, 3) := by decide +kernel
theorem dX8_init_56 : decode cX8_init 56 = .ok (.iconst 0, 1) := by decide +kernel
theorem dX8_init_57 : decode cX8_init 57 = .ok (.istore_n 3, 1) := by decide +kernel
theorem dX8_init_58 : decode cX8_init 58 = .ok (.iload_n 3, 1) := by decide +kernel
theorem dX8_init_59 : decode cX8_init 59 = .ok (.iload_n 2, 1) := by decide +kernel
theorem dX8_init_60 : decode cX8_init 60 = .ok (.if_icmp .ge 32, 3) := by decide +kernel
theorem dX8_init_63 : decode cX8_init 63 = .ok (.aload_n 0, 1) := by decide +kernel
theorem dX8_init_64 : decode cX8_init 64 = .ok (.getfield 27, 3) := by decide +kernel
theorem dX8_init_67 : decode cX8_init 67 = .ok (.iload_n 3, 1) := by decide +kernel
theorem dX8_init_68 : decode cX8_init 68 = .ok (.new 25, 3) := by decide +kernel
theorem dX8_init_71 : decode cX8_init 71 = .ok (.dup, 1) := by decide +kernel
theorem dX8_init_72 : decode cX8_init 72 = .ok (.iload_n 3, 1) := by decide +kernel
theorem dX8_init_73 : decode cX8_init 73 = .ok (.iload_n 2, 1) := by decide +kernel
theorem dX8_init_74 : decode cX8_init 74 = .ok (.aload_n 0, 1) := by decide +kernel
theorem dX8_init_75 : decode cX8_init 75 = .ok (.getfield 21, 3) := by decide +kernel
theorem dX8_init_78 : decode cX8_init 78 = .ok (.aload_n 0, 1) := by decide +kernel
theorem dX8_init_79 : decode cX8_init 79 = .ok (.getfield 12, 3) := by decide +kernel
theorem dX8_init_82 : decode cX8_init 82 = .ok (.invokespecial 31, 3) := by decide +kernel
theorem dX8_init_85 : decode cX8_init 85 = .ok (.aastore, 1) := by decide +kernel
theorem dX8_init_86 : decode cX8_init 86 = .ok (.iinc 3 1, 3) := by decide +kernel
theorem dX8_init_89 : decode cX8_init 89 = .ok (.goto (-31), 3) := by decide +kernel
theorem dX8_init_92 : decode cX8_init 92 = .ok (.return_, 1) := by decide +kernel
theorem dX8_submit_0 : decode cX8_submit 0 = .ok (.aload_n 0, 1) := by decide +kernel
theorem dX8_submit_1 : decode cX8_submit 1 = .ok (.iload_n 1, 1) := by decide +kernel
theorem dX8_submit_2 : decode cX8_submit 2 = .ok (.invokevirtual 34, 3) := by decide +kernel
theorem dX8_submit_5 : decode cX8_submit 5 = .ok (.astore_n 3, 1) := by decide +kernel
theorem dX8_submit_6 : decode cX8_submit 6 = .ok (.aload_n 3, 1) := by decide +kernel
theorem dX8_submit_7 : decode cX8_submit 7 = .ok (.ifnull 10, 3) := by decide +kernel
theorem dX8_submit_10 : decode cX8_submit 10 = .ok (.iload_n 2, 1) := by decide +kernel
theorem dX8_submit_11 : decode cX8_submit 11 = .ok (.invokestatic 38, 3) := by decide +kernel
theorem dX8_submit_14 : decode cX8_submit 14 = .ok (.ifCond .ne 5, 3) := by decide +kernel
theorem dX8_submit_17 : decode cX8_submit 17 = .ok (.iconst (-1), 1) := by decide +kernel
theorem dX8_submit_18 : decode cX8_submit 18 = .ok (.ireturn, 1) := by decide +kernel
theorem dX8_submit_19 : decode cX8_submit 19 = .ok (.aload_n 3, 1) := by decide +kernel
theorem dX8_submit_20 : decode cX8_submit 20 = .ok (.invokevirtual 42, 3) := by decide +kernel
theorem dX8_submit_23 : decode cX8_submit 23 = .ok (.ifCond .eq 11, 3) := by decide +kernel
theorem dX8_submit_26 : decode cX8_submit 26 = .ok (.aload_n 3, 1) := by decide +kernel
theorem dX8_submit_27 : decode cX8_submit 27 = .ok (.iload_n 2, 1) := by decide +kernel
theorem dX8_submit_28 : decode cX8_submit 28 = .ok (.invokevirtual 46, 3) := by decide +kernel
theorem dX8_submit_31 : decode cX8_submit 31 = .ok (.goto 4, 3) := by decide +kernel
theorem dX8_submit_34 : decode cX8_submit 34 = .ok (.iconst 0, 1) := by decide +kernel
theorem dX8_submit_35 : decode cX8_submit 35 = .ok (.ireturn, 1) := by decide +kernel
theorem dX8_deliver_0 : decode cX8_deliver 0 = .ok (.aload_n 0, 1) := by decide +kernel
theorem dX8_deliver_1 : decode cX8_deliver 1 = .ok (.iload_n 2, 1) := by decide +kernel
theorem dX8_deliver_2 : decode cX8_deliver 2 = .ok (.invokevirtual 34, 3) := by decide +kernel
theorem dX8_deliver_5 : decode cX8_deliver 5 = .ok (.astore_n 3, 1) := by decide +kernel
theorem dX8_deliver_6 : decode cX8_deliver 6 = .ok (.aload_n 0, 1) := by decide +kernel
theorem dX8_deliver_7 : decode cX8_deliver 7 = .ok (.getfield 21, 3) := by decide +kernel
theorem dX8_deliver_10 : decode cX8_deliver 10 = .ok (.iload_n 1, 1) := by decide +kernel
theorem dX8_deliver_11 : decode cX8_deliver 11 = .ok (.iload_n 2, 1) := by decide +kernel
theorem dX8_deliver_12 : decode cX8_deliver 12 = .ok (.invokevirtual 50, 3) := by decide +kernel
theorem dX8_deliver_15 : decode cX8_deliver 15 = .ok (.astore 4, 2) := by decide +kernel
theorem dX8_deliver_17 : decode cX8_deliver 17 = .ok (.aload_n 3, 1) := by decide +kernel
theorem dX8_deliver_18 : decode cX8_deliver 18 = .ok (.ifnull 8, 3) := by decide +kernel
theorem dX8_deliver_21 : decode cX8_deliver 21 = .ok (.aload 4, 2) := by decide +kernel
theorem dX8_deliver_23 : decode cX8_deliver 23 = .ok (.ifnonnull 5, 3) := by decide +kernel
theorem dX8_deliver_26 : decode cX8_deliver 26 = .ok (.iconst (-1), 1) := by decide +kernel
theorem dX8_deliver_27 : decode cX8_deliver 27 = .ok (.ireturn, 1) := by decide +kernel
theorem dX8_deliver_28 : decode cX8_deliver 28 = .ok (.aload_n 0, 1) := by decide +kernel
theorem dX8_deliver_29 : decode cX8_deliver 29 = .ok (.getfield 21, 3) := by decide +kernel
theorem dX8_deliver_32 : decode cX8_deliver 32 = .ok (.aload 4, 2) := by decide +kernel
theorem dX8_deliver_34 : decode cX8_deliver 34 = .ok (.invokevirtual 54, 3) := by decide +kernel
theorem dX8_deliver_37 : decode cX8_deliver 37 = .ok (.astore 5, 2) := by decide +kernel
theorem dX8_deliver_39 : decode cX8_deliver 39 = .ok (.aload 5, 2) := by decide +kernel
theorem dX8_deliver_41 : decode cX8_deliver 41 = .ok (.ifnonnull 5, 3) := by decide +kernel
theorem dX8_deliver_44 : decode cX8_deliver 44 = .ok (.iconst 0, 1) := by decide +kernel
theorem dX8_deliver_45 : decode cX8_deliver 45 = .ok (.ireturn, 1) := by decide +kernel
theorem dX8_deliver_46 : decode cX8_deliver 46 = .ok (.aload_n 3, 1) := by decide +kernel
theorem dX8_deliver_47 : decode cX8_deliver 47 = .ok (.invokevirtual 42, 3) := by decide +kernel
theorem dX8_deliver_50 : decode cX8_deliver 50 = .ok (.ifCond .ne 25, 3) := by decide +kernel
theorem dX8_deliver_53 : decode cX8_deliver 53 = .ok (.aload_n 0, 1) := by decide +kernel
theorem dX8_deliver_54 : decode cX8_deliver 54 = .ok (.getfield 12, 3) := by decide +kernel
theorem dX8_deliver_57 : decode cX8_deliver 57 = .ok (.dup, 1) := by decide +kernel
theorem dX8_deliver_58 : decode cX8_deliver 58 = .ok (.getfield 58, 3) := by decide +kernel
theorem dX8_deliver_61 : decode cX8_deliver 61 = .ok (.iconst 1, 1) := by decide +kernel
theorem dX8_deliver_62 : decode cX8_deliver 62 = .ok (.iadd, 1) := by decide +kernel
theorem dX8_deliver_63 : decode cX8_deliver 63 = .ok (.putfield 58, 3) := by decide +kernel
theorem dX8_deliver_66 : decode cX8_deliver 66 = .ok (.bipush 20, 2) := by decide +kernel
theorem dX8_deliver_68 : decode cX8_deliver 68 = .ok (.aload 5, 2) := by decide +kernel
theorem dX8_deliver_70 : decode cX8_deliver 70 = .ok (.getfield 62, 3) := by decide +kernel
theorem dX8_deliver_73 : decode cX8_deliver 73 = .ok (.iadd, 1) := by decide +kernel
theorem dX8_deliver_74 : decode cX8_deliver 74 = .ok (.ireturn, 1) := by decide +kernel
theorem dX8_deliver_75 : decode cX8_deliver 75 = .ok (.aload_n 3, 1) := by decide +kernel
theorem dX8_deliver_76 : decode cX8_deliver 76 = .ok (.iload_n 1, 1) := by decide +kernel
theorem dX8_deliver_77 : decode cX8_deliver 77 = .ok (.aload 5, 2) := by decide +kernel
theorem dX8_deliver_79 : decode cX8_deliver 79 = .ok (.invokevirtual 67, 3) := by decide +kernel
theorem dX8_deliver_82 : decode cX8_deliver 82 = .ok (.aload_n 3, 1) := by decide +kernel
theorem dX8_deliver_83 : decode cX8_deliver 83 = .ok (.invokevirtual 71, 3) := by decide +kernel
theorem dX8_deliver_86 : decode cX8_deliver 86 = .ok (.aload 5, 2) := by decide +kernel
theorem dX8_deliver_88 : decode cX8_deliver 88 = .ok (.getfield 62, 3) := by decide +kernel
theorem dX8_deliver_91 : decode cX8_deliver 91 = .ok (.ireturn, 1) := by decide +kernel
theorem dX8_suspect_0 : decode cX8_suspect 0 = .ok (.aload_n 0, 1) := by decide +kernel
theorem dX8_suspect_1 : decode cX8_suspect 1 = .ok (.iload_n 1, 1) := by decide +kernel
theorem dX8_suspect_2 : decode cX8_suspect 2 = .ok (.invokevirtual 34, 3) := by decide +kernel
theorem dX8_suspect_5 : decode cX8_suspect 5 = .ok (.astore_n 3, 1) := by decide +kernel
theorem dX8_suspect_6 : decode cX8_suspect 6 = .ok (.aload_n 3, 1) := by decide +kernel
theorem dX8_suspect_7 : decode cX8_suspect 7 = .ok (.ifnull 11, 3) := by decide +kernel
theorem dX8_suspect_10 : decode cX8_suspect 10 = .ok (.aload_n 0, 1) := by decide +kernel
theorem dX8_suspect_11 : decode cX8_suspect 11 = .ok (.iload_n 2, 1) := by decide +kernel
theorem dX8_suspect_12 : decode cX8_suspect 12 = .ok (.invokevirtual 34, 3) := by decide +kernel
theorem dX8_suspect_15 : decode cX8_suspect 15 = .ok (.ifnonnull 5, 3) := by decide +kernel
theorem dX8_suspect_18 : decode cX8_suspect 18 = .ok (.iconst (-1), 1) := by decide +kernel
theorem dX8_suspect_19 : decode cX8_suspect 19 = .ok (.ireturn, 1) := by decide +kernel
theorem dX8_suspect_20 : decode cX8_suspect 20 = .ok (.iload_n 1, 1) := by decide +kernel
theorem dX8_suspect_21 : decode cX8_suspect 21 = .ok (.iload_n 2, 1) := by decide +kernel
theorem dX8_suspect_22 : decode cX8_suspect 22 = .ok (.if_icmp .eq 21, 3) := by decide +kernel
theorem dX8_suspect_25 : decode cX8_suspect 25 = .ok (.aload_n 3, 1) := by decide +kernel
theorem dX8_suspect_26 : decode cX8_suspect 26 = .ok (.invokevirtual 42, 3) := by decide +kernel
theorem dX8_suspect_29 : decode cX8_suspect 29 = .ok (.ifCond .eq 14, 3) := by decide +kernel
theorem dX8_suspect_32 : decode cX8_suspect 32 = .ok (.aload_n 3, 1) := by decide +kernel
theorem dX8_suspect_33 : decode cX8_suspect 33 = .ok (.getfield 74, 3) := by decide +kernel
theorem dX8_suspect_36 : decode cX8_suspect 36 = .ok (.iload_n 2, 1) := by decide +kernel
theorem dX8_suspect_37 : decode cX8_suspect 37 = .ok (.invokestatic 77, 3) := by decide +kernel
theorem dX8_suspect_40 : decode cX8_suspect 40 = .ok (.ifCond .eq 5, 3) := by decide +kernel
theorem dX8_suspect_43 : decode cX8_suspect 43 = .ok (.iconst 0, 1) := by decide +kernel
theorem dX8_suspect_44 : decode cX8_suspect 44 = .ok (.ireturn, 1) := by decide +kernel
theorem dX8_suspect_45 : decode cX8_suspect 45 = .ok (.aload_n 3, 1) := by decide +kernel
theorem dX8_suspect_46 : decode cX8_suspect 46 = .ok (.iload_n 2, 1) := by decide +kernel
theorem dX8_suspect_47 : decode cX8_suspect 47 = .ok (.invokevirtual 81, 3) := by decide +kernel
theorem dX8_suspect_50 : decode cX8_suspect 50 = .ok (.aload_n 3, 1) := by decide +kernel
theorem dX8_suspect_51 : decode cX8_suspect 51 = .ok (.invokevirtual 71, 3) := by decide +kernel
theorem dX8_suspect_54 : decode cX8_suspect 54 = .ok (.iconst 1, 1) := by decide +kernel
theorem dX8_suspect_55 : decode cX8_suspect 55 = .ok (.ireturn, 1) := by decide +kernel
theorem dX8_crash_0 : decode cX8_crash 0 = .ok (.aload_n 0, 1) := by decide +kernel
theorem dX8_crash_1 : decode cX8_crash 1 = .ok (.iload_n 1, 1) := by decide +kernel
theorem dX8_crash_2 : decode cX8_crash 2 = .ok (.invokevirtual 34, 3) := by decide +kernel
theorem dX8_crash_5 : decode cX8_crash 5 = .ok (.astore_n 2, 1) := by decide +kernel
theorem dX8_crash_6 : decode cX8_crash 6 = .ok (.aload_n 2, 1) := by decide +kernel
theorem dX8_crash_7 : decode cX8_crash 7 = .ok (.ifnull 10, 3) := by decide +kernel
theorem dX8_crash_10 : decode cX8_crash 10 = .ok (.aload_n 2, 1) := by decide +kernel
theorem dX8_crash_11 : decode cX8_crash 11 = .ok (.invokevirtual 42, 3) := by decide +kernel
theorem dX8_crash_14 : decode cX8_crash 14 = .ok (.ifCond .ne 5, 3) := by decide +kernel
theorem dX8_crash_17 : decode cX8_crash 17 = .ok (.iconst 0, 1) := by decide +kernel
theorem dX8_crash_18 : decode cX8_crash 18 = .ok (.ireturn, 1) := by decide +kernel
theorem dX8_crash_19 : decode cX8_crash 19 = .ok (.aload_n 2, 1) := by decide +kernel
theorem dX8_crash_20 : decode cX8_crash 20 = .ok (.iconst 1, 1) := by decide +kernel
theorem dX8_crash_21 : decode cX8_crash 21 = .ok (.putfield 85, 3) := by decide +kernel
theorem dX8_crash_24 : decode cX8_crash 24 = .ok (.iconst 1, 1) := by decide +kernel
theorem dX8_crash_25 : decode cX8_crash 25 = .ok (.ireturn, 1) := by decide +kernel
theorem dX8_timeout_0 : decode cX8_timeout 0 = .ok (.aload_n 0, 1) := by decide +kernel
theorem dX8_timeout_1 : decode cX8_timeout 1 = .ok (.iload_n 1, 1) := by decide +kernel
theorem dX8_timeout_2 : decode cX8_timeout 2 = .ok (.invokevirtual 34, 3) := by decide +kernel
theorem dX8_timeout_5 : decode cX8_timeout 5 = .ok (.astore_n 2, 1) := by decide +kernel
theorem dX8_timeout_6 : decode cX8_timeout 6 = .ok (.aload_n 2, 1) := by decide +kernel
theorem dX8_timeout_7 : decode cX8_timeout 7 = .ok (.ifnonnull 5, 3) := by decide +kernel
theorem dX8_timeout_10 : decode cX8_timeout 10 = .ok (.iconst (-1), 1) := by decide +kernel
theorem dX8_timeout_11 : decode cX8_timeout 11 = .ok (.ireturn, 1) := by decide +kernel
theorem dX8_timeout_12 : decode cX8_timeout 12 = .ok (.aload_n 2, 1) := by decide +kernel
theorem dX8_timeout_13 : decode cX8_timeout 13 = .ok (.invokevirtual 42, 3) := by decide +kernel
theorem dX8_timeout_16 : decode cX8_timeout 16 = .ok (.ifCond .eq 10, 3) := by decide +kernel
theorem dX8_timeout_19 : decode cX8_timeout 19 = .ok (.aload_n 2, 1) := by decide +kernel
theorem dX8_timeout_20 : decode cX8_timeout 20 = .ok (.getfield 88, 3) := by decide +kernel
theorem dX8_timeout_23 : decode cX8_timeout 23 = .ok (.ifCond .ne 5, 3) := by decide +kernel
theorem dX8_timeout_26 : decode cX8_timeout 26 = .ok (.iconst 0, 1) := by decide +kernel
theorem dX8_timeout_27 : decode cX8_timeout 27 = .ok (.ireturn, 1) := by decide +kernel
theorem dX8_timeout_28 : decode cX8_timeout 28 = .ok (.aload_n 2, 1) := by decide +kernel
theorem dX8_timeout_29 : decode cX8_timeout 29 = .ok (.invokevirtual 91, 3) := by decide +kernel
theorem dX8_timeout_32 : decode cX8_timeout 32 = .ok (.aload_n 2, 1) := by decide +kernel
theorem dX8_timeout_33 : decode cX8_timeout 33 = .ok (.invokevirtual 71, 3) := by decide +kernel
theorem dX8_timeout_36 : decode cX8_timeout 36 = .ok (.iconst 1, 1) := by decide +kernel
theorem dX8_timeout_37 : decode cX8_timeout 37 = .ok (.ireturn, 1) := by decide +kernel
theorem dX8_node_0 : decode cX8_node 0 = .ok (.aload_n 0, 1) := by decide +kernel
theorem dX8_node_1 : decode cX8_node 1 = .ok (.iload_n 1, 1) := by decide +kernel
theorem dX8_node_2 : decode cX8_node 2 = .ok (.invokevirtual 34, 3) := by decide +kernel
theorem dX8_node_5 : decode cX8_node 5 = .ok (.astore_n 3, 1) := by decide +kernel
theorem dX8_node_6 : decode cX8_node 6 = .ok (.aload_n 3, 1) := by decide +kernel
theorem dX8_node_7 : decode cX8_node 7 = .ok (.ifnonnull 7, 3) := by decide +kernel
theorem dX8_node_10 : decode cX8_node 10 = .ok (.iconst (-1), 1) := by decide +kernel
theorem dX8_node_11 : decode cX8_node 11 = .ok (.goto 8, 3) := by decide +kernel
theorem dX8_node_14 : decode cX8_node 14 = .ok (.aload_n 3, 1) := by decide +kernel
theorem dX8_node_15 : decode cX8_node 15 = .ok (.iload_n 2, 1) := by decide +kernel
theorem dX8_node_16 : decode cX8_node 16 = .ok (.invokevirtual 94, 3) := by decide +kernel
theorem dX8_node_19 : decode cX8_node 19 = .ok (.ireturn, 1) := by decide +kernel
theorem dX8_held_0 : decode cX8_held 0 = .ok (.aload_n 0, 1) := by decide +kernel
theorem dX8_held_1 : decode cX8_held 1 = .ok (.iload_n 1, 1) := by decide +kernel
theorem dX8_held_2 : decode cX8_held 2 = .ok (.invokevirtual 34, 3) := by decide +kernel
theorem dX8_held_5 : decode cX8_held 5 = .ok (.astore_n 3, 1) := by decide +kernel
theorem dX8_held_6 : decode cX8_held 6 = .ok (.aload_n 3, 1) := by decide +kernel
theorem dX8_held_7 : decode cX8_held 7 = .ok (.ifnull 18, 3) := by decide +kernel
theorem dX8_held_10 : decode cX8_held 10 = .ok (.iload_n 2, 1) := by decide +kernel
theorem dX8_held_11 : decode cX8_held 11 = .ok (.ifCond .lt 14, 3) := by decide +kernel
theorem dX8_held_14 : decode cX8_held 14 = .ok (.iload_n 2, 1) := by decide +kernel
theorem dX8_held_15 : decode cX8_held 15 = .ok (.aload_n 3, 1) := by decide +kernel
theorem dX8_held_16 : decode cX8_held 16 = .ok (.getfield 97, 3) := by decide +kernel
theorem dX8_held_19 : decode cX8_held 19 = .ok (.getfield 101, 3) := by decide +kernel
theorem dX8_held_22 : decode cX8_held 22 = .ok (.if_icmp .lt 6, 3) := by decide +kernel
theorem dX8_held_25 : decode cX8_held 25 = .ok (.ldc 106, 2) := by decide +kernel
theorem dX8_held_27 : decode cX8_held 27 = .ok (.ireturn, 1) := by decide +kernel
theorem dX8_held_28 : decode cX8_held 28 = .ok (.aload_n 3, 1) := by decide +kernel
theorem dX8_held_29 : decode cX8_held 29 = .ok (.getfield 97, 3) := by decide +kernel
theorem dX8_held_32 : decode cX8_held 32 = .ok (.getfield 107, 3) := by decide +kernel
theorem dX8_held_35 : decode cX8_held 35 = .ok (.iload_n 2, 1) := by decide +kernel
theorem dX8_held_36 : decode cX8_held 36 = .ok (.iaload, 1) := by decide +kernel
theorem dX8_held_37 : decode cX8_held 37 = .ok (.ireturn, 1) := by decide +kernel
theorem dX8_depth_0 : decode cX8_depth 0 = .ok (.aload_n 0, 1) := by decide +kernel
theorem dX8_depth_1 : decode cX8_depth 1 = .ok (.iload_n 1, 1) := by decide +kernel
theorem dX8_depth_2 : decode cX8_depth 2 = .ok (.invokevirtual 34, 3) := by decide +kernel
theorem dX8_depth_5 : decode cX8_depth 5 = .ok (.astore_n 2, 1) := by decide +kernel
theorem dX8_depth_6 : decode cX8_depth 6 = .ok (.aload_n 2, 1) := by decide +kernel
theorem dX8_depth_7 : decode cX8_depth 7 = .ok (.ifnonnull 7, 3) := by decide +kernel
theorem dX8_depth_10 : decode cX8_depth 10 = .ok (.iconst (-1), 1) := by decide +kernel
theorem dX8_depth_11 : decode cX8_depth 11 = .ok (.goto 10, 3) := by decide +kernel
theorem dX8_depth_14 : decode cX8_depth 14 = .ok (.aload_n 2, 1) := by decide +kernel
theorem dX8_depth_15 : decode cX8_depth 15 = .ok (.getfield 111, 3) := by decide +kernel
theorem dX8_depth_18 : decode cX8_depth 18 = .ok (.getfield 115, 3) := by decide +kernel
theorem dX8_depth_21 : decode cX8_depth 21 = .ok (.ireturn, 1) := by decide +kernel
theorem dX8_top_0 : decode cX8_top 0 = .ok (.aload_n 0, 1) := by decide +kernel
theorem dX8_top_1 : decode cX8_top 1 = .ok (.iload_n 1, 1) := by decide +kernel
theorem dX8_top_2 : decode cX8_top 2 = .ok (.invokevirtual 34, 3) := by decide +kernel
theorem dX8_top_5 : decode cX8_top 5 = .ok (.astore_n 3, 1) := by decide +kernel
theorem dX8_top_6 : decode cX8_top 6 = .ok (.aload_n 3, 1) := by decide +kernel
theorem dX8_top_7 : decode cX8_top 7 = .ok (.ifnonnull 7, 3) := by decide +kernel
theorem dX8_top_10 : decode cX8_top 10 = .ok (.iconst 0, 1) := by decide +kernel
theorem dX8_top_11 : decode cX8_top 11 = .ok (.goto 11, 3) := by decide +kernel
theorem dX8_top_14 : decode cX8_top 14 = .ok (.aload_n 3, 1) := by decide +kernel
theorem dX8_top_15 : decode cX8_top 15 = .ok (.getfield 111, 3) := by decide +kernel
theorem dX8_top_18 : decode cX8_top 18 = .ok (.iload_n 2, 1) := by decide +kernel
theorem dX8_top_19 : decode cX8_top 19 = .ok (.invokevirtual 118, 3) := by decide +kernel
theorem dX8_top_22 : decode cX8_top 22 = .ok (.ireturn, 1) := by decide +kernel
theorem dX8_flying_0 : decode cX8_flying 0 = .ok (.iload_n 1, 1) := by decide +kernel
theorem dX8_flying_1 : decode cX8_flying 1 = .ok (.iconst (-1), 1) := by decide +kernel
theorem dX8_flying_2 : decode cX8_flying 2 = .ok (.if_icmp .ne 11, 3) := by decide +kernel
theorem dX8_flying_5 : decode cX8_flying 5 = .ok (.aload_n 0, 1) := by decide +kernel
theorem dX8_flying_6 : decode cX8_flying 6 = .ok (.getfield 21, 3) := by decide +kernel
theorem dX8_flying_9 : decode cX8_flying 9 = .ok (.getfield 121, 3) := by decide +kernel
theorem dX8_flying_12 : decode cX8_flying 12 = .ok (.ireturn, 1) := by decide +kernel
theorem dX8_flying_13 : decode cX8_flying 13 = .ok (.aload_n 0, 1) := by decide +kernel
theorem dX8_flying_14 : decode cX8_flying 14 = .ok (.getfield 21, 3) := by decide +kernel
theorem dX8_flying_17 : decode cX8_flying 17 = .ok (.iload_n 1, 1) := by decide +kernel
theorem dX8_flying_18 : decode cX8_flying 18 = .ok (.iload_n 2, 1) := by decide +kernel
theorem dX8_flying_19 : decode cX8_flying 19 = .ok (.invokevirtual 50, 3) := by decide +kernel
theorem dX8_flying_22 : decode cX8_flying 22 = .ok (.astore_n 3, 1) := by decide +kernel
theorem dX8_flying_23 : decode cX8_flying 23 = .ok (.aload_n 3, 1) := by decide +kernel
theorem dX8_flying_24 : decode cX8_flying 24 = .ok (.ifnonnull 7, 3) := by decide +kernel
theorem dX8_flying_27 : decode cX8_flying 27 = .ok (.iconst (-1), 1) := by decide +kernel
theorem dX8_flying_28 : decode cX8_flying 28 = .ok (.goto 7, 3) := by decide +kernel
theorem dX8_flying_31 : decode cX8_flying 31 = .ok (.aload_n 3, 1) := by decide +kernel
theorem dX8_flying_32 : decode cX8_flying 32 = .ok (.getfield 124, 3) := by decide +kernel
theorem dX8_flying_35 : decode cX8_flying 35 = .ok (.ireturn, 1) := by decide +kernel
theorem dX8_letter_0 : decode cX8_letter 0 = .ok (.aload_n 0, 1) := by decide +kernel
theorem dX8_letter_1 : decode cX8_letter 1 = .ok (.getfield 21, 3) := by decide +kernel
theorem dX8_letter_4 : decode cX8_letter 4 = .ok (.iload_n 1, 1) := by decide +kernel
theorem dX8_letter_5 : decode cX8_letter 5 = .ok (.iload_n 2, 1) := by decide +kernel
theorem dX8_letter_6 : decode cX8_letter 6 = .ok (.invokevirtual 50, 3) := by decide +kernel
theorem dX8_letter_9 : decode cX8_letter 9 = .ok (.astore 4, 2) := by decide +kernel
theorem dX8_letter_11 : decode cX8_letter 11 = .ok (.aload 4, 2) := by decide +kernel
theorem dX8_letter_13 : decode cX8_letter 13 = .ok (.ifnull 11, 3) := by decide +kernel
theorem dX8_letter_16 : decode cX8_letter 16 = .ok (.aload 4, 2) := by decide +kernel
theorem dX8_letter_18 : decode cX8_letter 18 = .ok (.getfield 127, 3) := by decide +kernel
theorem dX8_letter_21 : decode cX8_letter 21 = .ok (.ifnonnull 5, 3) := by decide +kernel
theorem dX8_letter_24 : decode cX8_letter 24 = .ok (.iconst (-1), 1) := by decide +kernel
theorem dX8_letter_25 : decode cX8_letter 25 = .ok (.ireturn, 1) := by decide +kernel
theorem dX8_letter_26 : decode cX8_letter 26 = .ok (.aload 4, 2) := by decide +kernel
theorem dX8_letter_28 : decode cX8_letter 28 = .ok (.getfield 127, 3) := by decide +kernel
theorem dX8_letter_31 : decode cX8_letter 31 = .ok (.iload_n 3, 1) := by decide +kernel
theorem dX8_letter_32 : decode cX8_letter 32 = .ok (.invokevirtual 131, 3) := by decide +kernel
theorem dX8_letter_35 : decode cX8_letter 35 = .ok (.ireturn, 1) := by decide +kernel
theorem dX8_count_0 : decode cX8_count 0 = .ok (.aload_n 0, 1) := by decide +kernel
theorem dX8_count_1 : decode cX8_count 1 = .ok (.getfield 12, 3) := by decide +kernel
theorem dX8_count_4 : decode cX8_count 4 = .ok (.iload_n 1, 1) := by decide +kernel
theorem dX8_count_5 : decode cX8_count 5 = .ok (.invokevirtual 132, 3) := by decide +kernel
theorem dX8_count_8 : decode cX8_count 8 = .ok (.ireturn, 1) := by decide +kernel
theorem dX8_find_0 : decode cX8_find 0 = .ok (.iload_n 1, 1) := by decide +kernel
theorem dX8_find_1 : decode cX8_find 1 = .ok (.ifCond .lt 21, 3) := by decide +kernel
theorem dX8_find_4 : decode cX8_find 4 = .ok (.iload_n 1, 1) := by decide +kernel
theorem dX8_find_5 : decode cX8_find 5 = .ok (.aload_n 0, 1) := by decide +kernel
theorem dX8_find_6 : decode cX8_find 6 = .ok (.getfield 27, 3) := by decide +kernel
theorem dX8_find_9 : decode cX8_find 9 = .ok (.arraylength, 1) := by decide +kernel
theorem dX8_find_10 : decode cX8_find 10 = .ok (.if_icmp .ge 12, 3) := by decide +kernel
theorem dX8_find_13 : decode cX8_find 13 = .ok (.aload_n 0, 1) := by decide +kernel
theorem dX8_find_14 : decode cX8_find 14 = .ok (.getfield 27, 3) := by decide +kernel
theorem dX8_find_17 : decode cX8_find 17 = .ok (.iload_n 1, 1) := by decide +kernel
theorem dX8_find_18 : decode cX8_find 18 = .ok (.aaload, 1) := by decide +kernel
theorem dX8_find_19 : decode cX8_find 19 = .ok (.goto 4, 3) := by decide +kernel
theorem dX8_find_22 : decode cX8_find 22 = .ok (.aconst_null, 1) := by decide +kernel
theorem dX8_find_23 : decode cX8_find 23 = .ok (.areturn, 1) := by decide +kernel
theorem dX8_isAct_0 : decode cX8_isAct 0 = .ok (.iload_n 0, 1) := by decide +kernel
theorem dX8_isAct_1 : decode cX8_isAct 1 = .ok (.iconst 1, 1) := by decide +kernel
theorem dX8_isAct_2 : decode cX8_isAct 2 = .ok (.if_icmp .lt 10, 3) := by decide +kernel
theorem dX8_isAct_5 : decode cX8_isAct 5 = .ok (.iload_n 0, 1) := by decide +kernel
theorem dX8_isAct_6 : decode cX8_isAct 6 = .ok (.iconst 5, 1) := by decide +kernel
theorem dX8_isAct_7 : decode cX8_isAct 7 = .ok (.if_icmp .gt 5, 3) := by decide +kernel
theorem dX8_isAct_10 : decode cX8_isAct 10 = .ok (.iconst 1, 1) := by decide +kernel
theorem dX8_isAct_11 : decode cX8_isAct 11 = .ok (.ireturn, 1) := by decide +kernel
theorem dX8_isAct_12 : decode cX8_isAct 12 = .ok (.iload_n 0, 1) := by decide +kernel
theorem dX8_isAct_13 : decode cX8_isAct 13 = .ok (.sipush (-8000), 3) := by decide +kernel
theorem dX8_isAct_16 : decode cX8_isAct 16 = .ok (.if_icmp .lt 14, 3) := by decide +kernel
theorem dX8_isAct_19 : decode cX8_isAct 19 = .ok (.iload_n 0, 1) := by decide +kernel
theorem dX8_isAct_20 : decode cX8_isAct 20 = .ok (.sipush 8000, 3) := by decide +kernel
theorem dX8_isAct_23 : decode cX8_isAct 23 = .ok (.if_icmp .gt 7, 3) := by decide +kernel
theorem dX8_isAct_26 : decode cX8_isAct 26 = .ok (.iconst 1, 1) := by decide +kernel
theorem dX8_isAct_27 : decode cX8_isAct 27 = .ok (.goto 4, 3) := by decide +kernel
theorem dX8_isAct_30 : decode cX8_isAct 30 = .ok (.iconst 0, 1) := by decide +kernel
theorem dX8_isAct_31 : decode cX8_isAct 31 = .ok (.istore_n 1, 1) := by decide +kernel
theorem dX8_isAct_32 : decode cX8_isAct 32 = .ok (.iload_n 1, 1) := by decide +kernel
theorem dX8_isAct_33 : decode cX8_isAct 33 = .ok (.ifCond .eq 14, 3) := by decide +kernel
theorem dX8_isAct_36 : decode cX8_isAct 36 = .ok (.iload_n 0, 1) := by decide +kernel
theorem dX8_isAct_37 : decode cX8_isAct 37 = .ok (.bipush 8, 2) := by decide +kernel
theorem dX8_isAct_39 : decode cX8_isAct 39 = .ok (.irem, 1) := by decide +kernel
theorem dX8_isAct_40 : decode cX8_isAct 40 = .ok (.ifCond .ne 7, 3) := by decide +kernel
theorem dX8_isAct_43 : decode cX8_isAct 43 = .ok (.iconst 1, 1) := by decide +kernel
theorem dX8_isAct_44 : decode cX8_isAct 44 = .ok (.goto 4, 3) := by decide +kernel
theorem dX8_isAct_47 : decode cX8_isAct 47 = .ok (.iconst 0, 1) := by decide +kernel
theorem dX8_isAct_48 : decode cX8_isAct 48 = .ok (.ireturn, 1) := by decide +kernel
theorem dX8_has_0 : decode cX8_has 0 = .ok (.iload_n 0, 1) := by decide +kernel
theorem dX8_has_1 : decode cX8_has 1 = .ok (.iconst 1, 1) := by decide +kernel
theorem dX8_has_2 : decode cX8_has 2 = .ok (.iload_n 1, 1) := by decide +kernel
theorem dX8_has_3 : decode cX8_has 3 = .ok (.ishl, 1) := by decide +kernel
theorem dX8_has_4 : decode cX8_has 4 = .ok (.iand, 1) := by decide +kernel
theorem dX8_has_5 : decode cX8_has 5 = .ok (.ifCond .eq 7, 3) := by decide +kernel
theorem dX8_has_8 : decode cX8_has 8 = .ok (.iconst 1, 1) := by decide +kernel
theorem dX8_has_9 : decode cX8_has 9 = .ok (.goto 4, 3) := by decide +kernel
theorem dX8_has_12 : decode cX8_has 12 = .ok (.iconst 0, 1) := by decide +kernel
theorem dX8_has_13 : decode cX8_has 13 = .ok (.ireturn, 1) := by decide +kernel
theorem dX8_without_0 : decode cX8_without 0 = .ok (.iload_n 0, 1) := by decide +kernel
theorem dX8_without_1 : decode cX8_without 1 = .ok (.iconst 1, 1) := by decide +kernel
theorem dX8_without_2 : decode cX8_without 2 = .ok (.iload_n 1, 1) := by decide +kernel
theorem dX8_without_3 : decode cX8_without 3 = .ok (.ishl, 1) := by decide +kernel
theorem dX8_without_4 : decode cX8_without 4 = .ok (.iconst (-1), 1) := by decide +kernel
theorem dX8_without_5 : decode cX8_without 5 = .ok (.ixor, 1) := by decide +kernel
theorem dX8_without_6 : decode cX8_without 6 = .ok (.iand, 1) := by decide +kernel
theorem dX8_without_7 : decode cX8_without 7 = .ok (.ireturn, 1) := by decide +kernel
theorem dX8_allAbove_0 : decode cX8_allAbove 0 = .ok (.iload_n 0, 1) := by decide +kernel
theorem dX8_allAbove_1 : decode cX8_allAbove 1 = .ok (.iconst 2, 1) := by decide +kernel
theorem dX8_allAbove_2 : decode cX8_allAbove 2 = .ok (.iload_n 1, 1) := by decide +kernel
theorem dX8_allAbove_3 : decode cX8_allAbove 3 = .ok (.ishl, 1) := by decide +kernel
theorem dX8_allAbove_4 : decode cX8_allAbove 4 = .ok (.iconst 1, 1) := by decide +kernel
theorem dX8_allAbove_5 : decode cX8_allAbove 5 = .ok (.isub, 1) := by decide +kernel
theorem dX8_allAbove_6 : decode cX8_allAbove 6 = .ok (.iconst (-1), 1) := by decide +kernel
theorem dX8_allAbove_7 : decode cX8_allAbove 7 = .ok (.ixor, 1) := by decide +kernel
theorem dX8_allAbove_8 : decode cX8_allAbove 8 = .ok (.iand, 1) := by decide +kernel
theorem dX8_allAbove_9 : decode cX8_allAbove 9 = .ok (.ireturn, 1) := by decide +kernel
theorem dX9_init_0 : decode cX9_init 0 = .ok (.aload_n 0, 1) := by decide +kernel
theorem dX9_init_1 : decode cX9_init 1 = .ok (.invokespecial 1, 3) := by decide +kernel
theorem dX9_init_4 : decode cX9_init 4 = .ok (.aload_n 0, 1) := by decide +kernel
theorem dX9_init_5 : decode cX9_init 5 = .ok (.bipush 7, 2) := by decide +kernel
theorem dX9_init_7 : decode cX9_init 7 = .ok (.newarray .int, 2) := by decide +kernel
theorem dX9_init_9 : decode cX9_init 9 = .ok (.putfield 7, 3) := by decide +kernel
theorem dX9_init_12 : decode cX9_init 12 = .ok (.aload_n 0, 1) := by decide +kernel
theorem dX9_init_13 : decode cX9_init 13 = .ok (.bipush 7, 2) := by decide +kernel
theorem dX9_init_15 : decode cX9_init 15 = .ok (.newarray .int, 2) := by decide +kernel
theorem dX9_init_17 : decode cX9_init 17 = .ok (.putfield 13, 3) := by decide +kernel
theorem dX9_init_20 : decode cX9_init 20 = .ok (.aload_n 0, 1) := by decide +kernel
theorem dX9_init_21 : decode cX9_init 21 = .ok (.bipush 7, 2) := by decide +kernel
theorem dX9_init_23 : decode cX9_init 23 = .ok (.newarray .int, 2) := by decide +kernel
theorem dX9_init_25 : decode cX9_init 25 = .ok (.putfield 16, 3) := by decide +kernel
theorem dX9_init_28 : decode cX9_init 28 = .ok (.aload_n 0, 1) := by decide +kernel
theorem dX9_init_29 : decode cX9_init 29 = .ok (.sipush 420, 3) := by decide +kernel
theorem dX9_init_32 : decode cX9_init 32 = .ok (.newarray .int, 2) := by decide +kernel
theorem dX9_init_34 : decode cX9_init 34 = .ok (.putfield 19, 3) := by decide +kernel
theorem dX9_init_37 : decode cX9_init 37 = .ok (.aload_n 0, 1) := by decide +kernel
theorem dX9_init_38 : decode cX9_init 38 = .ok (.bipush 7, 2) := by decide +kernel
theorem dX9_init_40 : decode cX9_init 40 = .ok (.newarray .int, 2) := by decide +kernel
theorem dX9_init_42 : decode cX9_init 42 = .ok (.putfield 22, 3) := by decide +kernel
theorem dX9_init_45 : decode cX9_init 45 = .ok (.aload_n 0, 1) := by decide +kernel
theorem dX9_init_46 : decode cX9_init 46 = .ok (.bipush 7, 2) := by decide +kernel
theorem dX9_init_48 : decode cX9_init 48 = .ok (.newarray .int, 2) := by decide +kernel
theorem dX9_init_50 : decode cX9_init 50 = .ok (.putfield 25, 3) := by decide +kernel
theorem dX9_init_53 : decode cX9_init 53 = .ok (.aload_n 0, 1) := by decide +kernel
theorem dX9_init_54 : decode cX9_init 54 = .ok (.bipush 7, 2) := by decide +kernel
theorem dX9_init_56 : decode cX9_init 56 = .ok (.newarray .int, 2) := by decide +kernel
theorem dX9_init_58 : decode cX9_init 58 = .ok (.putfield 28, 3) := by decide +kernel
theorem dX9_init_61 : decode cX9_init 61 = .ok (.aload_n 0, 1) := by decide +kernel
theorem dX9_init_62 : decode cX9_init 62 = .ok (.bipush 7, 2) := by decide +kernel
theorem dX9_init_64 : decode cX9_init 64 = .ok (.newarray .int, 2) := by decide +kernel
theorem dX9_init_66 : decode cX9_init 66 = .ok (.putfield 31, 3) := by decide +kernel
theorem dX9_init_69 : decode cX9_init 69 = .ok (.aload_n 0, 1) := by decide +kernel
theorem dX9_init_70 : decode cX9_init 70 = .ok (.bipush 7, 2) := by decide +kernel
theorem dX9_init_72 : decode cX9_init 72 = .ok (.newarray .int, 2) := by decide +kernel
theorem dX9_init_74 : decode cX9_init 74 = .ok (.putfield 34, 3) := by decide +kernel
theorem dX9_init_77 : decode cX9_init 77 = .ok (.aload_n 0, 1) := by decide +kernel
theorem dX9_init_78 : decode cX9_init 78 = .ok (.bipush 7, 2) := by decide +kernel
theorem dX9_init_80 : decode cX9_init 80 = .ok (.newarray .int, 2) := by decide +kernel
theorem dX9_init_82 : decode cX9_init 82 = .ok (.putfield 37, 3) := by decide +kernel
theorem dX9_init_85 : decode cX9_init 85 = .ok (.aload_n 0, 1) := by decide +kernel
theorem dX9_init_86 : decode cX9_init 86 = .ok (.bipush 7, 2) := by decide +kernel
theorem dX9_init_88 : decode cX9_init 88 = .ok (.newarray .int, 2) := by decide +kernel
theorem dX9_init_90 : decode cX9_init 90 = .ok (.putfield 40, 3) := by decide +kernel
theorem dX9_init_93 : decode cX9_init 93 = .ok (.aload_n 0, 1) := by decide +kernel
theorem dX9_init_94 : decode cX9_init 94 = .ok (.bipush 7, 2) := by decide +kernel
theorem dX9_init_96 : decode cX9_init 96 = .ok (.newarray .int, 2) := by decide +kernel
theorem dX9_init_98 : decode cX9_init 98 = .ok (.putfield 43, 3) := by decide +kernel
theorem dX9_init_101 : decode cX9_init 101 = .ok (.aload_n 0, 1) := by decide +kernel
theorem dX9_init_102 : decode cX9_init 102 = .ok (.bipush 49, 2) := by decide +kernel
theorem dX9_init_104 : decode cX9_init 104 = .ok (.newarray .int, 2) := by decide +kernel
theorem dX9_init_106 : decode cX9_init 106 = .ok (.putfield 46, 3) := by decide +kernel
theorem dX9_init_109 : decode cX9_init 109 = .ok (.aload_n 0, 1) := by decide +kernel
theorem dX9_init_110 : decode cX9_init 110 = .ok (.bipush 7, 2) := by decide +kernel
theorem dX9_init_112 : decode cX9_init 112 = .ok (.newarray .int, 2) := by decide +kernel
theorem dX9_init_114 : decode cX9_init 114 = .ok (.putfield 49, 3) := by decide +kernel
theorem dX9_init_117 : decode cX9_init 117 = .ok (.aload_n 0, 1) := by decide +kernel
theorem dX9_init_118 : decode cX9_init 118 = .ok (.bipush 49, 2) := by decide +kernel
theorem dX9_init_120 : decode cX9_init 120 = .ok (.newarray .int, 2) := by decide +kernel
theorem dX9_init_122 : decode cX9_init 122 = .ok (.putfield 52, 3) := by decide +kernel
theorem dX9_init_125 : decode cX9_init 125 = .ok (.aload_n 0, 1) := by decide +kernel
theorem dX9_init_126 : decode cX9_init 126 = .ok (.bipush 49, 2) := by decide +kernel
theorem dX9_init_128 : decode cX9_init 128 = .ok (.newarray .int, 2) := by decide +kernel
theorem dX9_init_130 : decode cX9_init 130 = .ok (.putfield 55, 3) := by decide +kernel
theorem dX9_init_133 : decode cX9_init 133 = .ok (.aload_n 0, 1) := by decide +kernel
theorem dX9_init_134 : decode cX9_init 134 = .ok (.sipush 2940, 3) := by decide +kernel
theorem dX9_init_137 : decode cX9_init 137 = .ok (.newarray .int, 2) := by decide +kernel
theorem dX9_init_139 : decode cX9_init 139 = .ok (.putfield 58, 3) := by decide +kernel
theorem dX9_init_142 : decode cX9_init 142 = .ok (.aload_n 0, 1) := by decide +kernel
theorem dX9_init_143 : decode cX9_init 143 = .ok (.sipush 140, 3) := by decide +kernel
theorem dX9_init_146 : decode cX9_init 146 = .ok (.newarray .int, 2) := by decide +kernel
theorem dX9_init_148 : decode cX9_init 148 = .ok (.putfield 61, 3) := by decide +kernel
theorem dX9_init_151 : decode cX9_init 151 = .ok (.aload_n 0, 1) := by decide +kernel
theorem dX9_init_152 : decode cX9_init 152 = .ok (.bipush 7, 2) := by decide +kernel
theorem dX9_init_154 : decode cX9_init 154 = .ok (.newarray .int, 2) := by decide +kernel
theorem dX9_init_156 : decode cX9_init 156 = .ok (.putfield 64, 3) := by decide +kernel
theorem dX9_init_159 : decode cX9_init 159 = .ok (.aload_n 0, 1) := by decide +kernel
theorem dX9_init_160 : decode cX9_init 160 = .ok (.sipush 500, 3) := by decide +kernel
theorem dX9_init_163 : decode cX9_init 163 = .ok (.newarray .boolean, 2) := by decide +kernel
theorem dX9_init_165 : decode cX9_init 165 = .ok (.putfield 67, 3) := by decide +kernel
theorem dX9_init_168 : decode cX9_init 168 = .ok (.aload_n 0, 1) := by decide +kernel
theorem dX9_init_169 : decode cX9_init 169 = .ok (.sipush 501, 3) := by decide +kernel
theorem dX9_init_172 : decode cX9_init 172 = .ok (.newarray .int, 2) := by decide +kernel
theorem dX9_init_174 : decode cX9_init 174 = .ok (.putfield 71, 3) := by decide +kernel
theorem dX9_init_177 : decode cX9_init 177 = .ok (.aload_n 0, 1) := by decide +kernel
theorem dX9_init_178 : decode cX9_init 178 = .ok (.sipush 501, 3) := by decide +kernel
theorem dX9_init_181 : decode cX9_init 181 = .ok (.newarray .int, 2) := by decide +kernel
theorem dX9_init_183 : decode cX9_init 183 = .ok (.putfield 74, 3) := by decide +kernel
theorem dX9_init_186 : decode cX9_init 186 = .ok (.aload_n 0, 1) := by decide +kernel
theorem dX9_init_187 : decode cX9_init 187 = .ok (.sipush 501, 3) := by decide +kernel
theorem dX9_init_190 : decode cX9_init 190 = .ok (.newarray .int, 2) := by decide +kernel
theorem dX9_init_192 : decode cX9_init 192 = .ok (.putfield 77, 3) := by decide +kernel
theorem dX9_init_195 : decode cX9_init 195 = .ok (.aload_n 0, 1) := by decide +kernel
theorem dX9_init_196 : decode cX9_init 196 = .ok (.sipush 501, 3) := by decide +kernel
theorem dX9_init_199 : decode cX9_init 199 = .ok (.newarray .int, 2) := by decide +kernel
theorem dX9_init_201 : decode cX9_init 201 = .ok (.putfield 80, 3) := by decide +kernel
theorem dX9_init_204 : decode cX9_init 204 = .ok (.aload_n 0, 1) := by decide +kernel
theorem dX9_init_205 : decode cX9_init 205 = .ok (.sipush 501, 3) := by decide +kernel
theorem dX9_init_208 : decode cX9_init 208 = .ok (.newarray .int, 2) := by decide +kernel
theorem dX9_init_210 : decode cX9_init 210 = .ok (.putfield 83, 3) := by decide +kernel
theorem dX9_init_213 : decode cX9_init 213 = .ok (.aload_n 0, 1) := by decide +kernel
theorem dX9_init_214 : decode cX9_init 214 = .ok (.sipush 501, 3) := by decide +kernel
theorem dX9_init_217 : decode cX9_init 217 = .ok (.newarray .int, 2) := by decide +kernel
theorem dX9_init_219 : decode cX9_init 219 = .ok (.putfield 86, 3) := by decide +kernel
theorem dX9_init_222 : decode cX9_init 222 = .ok (.aload_n 0, 1) := by decide +kernel
theorem dX9_init_223 : decode cX9_init 223 = .ok (.sipush 30060, 3) := by decide +kernel
theorem dX9_init_226 : decode cX9_init 226 = .ok (.newarray .int, 2) := by decide +kernel
theorem dX9_init_228 : decode cX9_init 228 = .ok (.putfield 89, 3) := by decide +kernel
theorem dX9_init_231 : decode cX9_init 231 = .ok (.aload_n 0, 1) := by decide +kernel
theorem dX9_init_232 : decode cX9_init 232 = .ok (.sipush 501, 3) := by decide +kernel
theorem dX9_init_235 : decode cX9_init 235 = .ok (.newarray .int, 2) := by decide +kernel
theorem dX9_init_237 : decode cX9_init 237 = .ok (.putfield 92, 3) := by decide +kernel
theorem dX9_init_240 : decode cX9_init 240 = .ok (.aload_n 0, 1) := by decide +kernel
theorem dX9_init_241 : decode cX9_init 241 = .ok (.iload_n 1, 1) := by decide +kernel
theorem dX9_init_242 : decode cX9_init 242 = .ok (.iconst 2, 1) := by decide +kernel
theorem dX9_init_243 : decode cX9_init 243 = .ok (.if_icmp .lt 13, 3) := by decide +kernel
theorem dX9_init_246 : decode cX9_init 246 = .ok (.iload_n 1, 1) := by decide +kernel
theorem dX9_init_247 : decode cX9_init 247 = .ok (.bipush 7, 2) := by decide +kernel
theorem dX9_init_249 : decode cX9_init 249 = .ok (.if_icmp .gt 7, 3) := by decide +kernel
theorem dX9_init_252 : decode cX9_init 252 = .ok (.iload_n 1, 1) := by decide +kernel
theorem dX9_init_253 : decode cX9_init 253 = .ok (.goto 4, 3) := by decide +kernel
theorem dX9_init_256 : decode cX9_init 256 = .ok (.iconst 3, 1) := by decide +kernel
theorem dX9_init_257 : decode cX9_init 257 = .ok (.putfield 95, 3) := by decide +kernel
theorem dX9_init_260 : decode cX9_init 260 = .ok (.iconst 0, 1) := by decide +kernel
theorem dX9_init_261 : decode cX9_init 261 = .ok (.istore_n 2, 1) := by decide +kernel
theorem dX9_init_262 : decode cX9_init 262 = .ok (.iload_n 2, 1) := by decide +kernel
theorem dX9_init_263 : decode cX9_init 263 = .ok (.aload_n 0, 1) := by decide +kernel
theorem dX9_init_264 : decode cX9_init 264 = .ok (.getfield 95, 3) := by decide +kernel
theorem dX9_init_267 : decode cX9_init 267 = .ok (.if_icmp .ge 30, 3) := by decide +kernel
theorem dX9_init_270 : decode cX9_init 270 = .ok (.aload_n 0, 1) := by decide +kernel
theorem dX9_init_271 : decode cX9_init 271 = .ok (.getfield 16, 3) := by decide +kernel
theorem dX9_init_274 : decode cX9_init 274 = .ok (.iload_n 2, 1) := by decide +kernel
theorem dX9_init_275 : decode cX9_init 275 = .ok (.iconst 1, 1) := by decide +kernel
theorem dX9_init_276 : decode cX9_init 276 = .ok (.aload_n 0, 1) := by decide +kernel
theorem dX9_init_277 : decode cX9_init 277 = .ok (.getfield 95, 3) := by decide +kernel
theorem dX9_init_280 : decode cX9_init 280 = .ok (.ishl, 1) := by decide +kernel
theorem dX9_init_281 : decode cX9_init 281 = .ok (.iconst 1, 1) := by decide +kernel
theorem dX9_init_282 : decode cX9_init 282 = .ok (.isub, 1) := by decide +kernel
theorem dX9_init_283 : decode cX9_init 283 = .ok (.iastore, 1) := by decide +kernel
theorem dX9_init_284 : decode cX9_init 284 = .ok (.aload_n 0, 1) := by decide +kernel
theorem dX9_init_285 : decode cX9_init 285 = .ok (.getfield 43, 3) := by decide +kernel
theorem dX9_init_288 : decode cX9_init 288 = .ok (.iload_n 2, 1) := by decide +kernel
theorem dX9_init_289 : decode cX9_init 289 = .ok (.iconst (-1), 1) := by decide +kernel
theorem dX9_init_290 : decode cX9_init 290 = .ok (.iastore, 1) := by decide +kernel
theorem dX9_init_291 : decode cX9_init 291 = .ok (.iinc 2 1, 3) := by decide +kernel
theorem dX9_init_294 : decode cX9_init 294 = .ok (.goto (-32), 3) := by decide +kernel
theorem dX9_init_297 : decode cX9_init 297 = .ok (.return_, 1) := by decide +kernel
theorem dX9_isNode_0 : decode cX9_isNode 0 = .ok (.iload_n 1, 1) := by decide +kernel
theorem dX9_isNode_1 : decode cX9_isNode 1 = .ok (.ifCond .lt 15, 3) := by decide +kernel
theorem dX9_isNode_4 : decode cX9_isNode 4 = .ok (.iload_n 1, 1) := by decide +kernel
theorem dX9_isNode_5 : decode cX9_isNode 5 = .ok (.aload_n 0, 1) := by decide +kernel
theorem dX9_isNode_6 : decode cX9_isNode 6 = .ok (.getfield 95, 3) := by decide +kernel
theorem dX9_isNode_9 : decode cX9_isNode 9 = .ok (.if_icmp .ge 7, 3) := by decide +kernel
theorem dX9_isNode_12 : decode cX9_isNode 12 = .ok (.iconst 1, 1) := by decide +kernel
theorem dX9_isNode_13 : decode cX9_isNode 13 = .ok (.goto 4, 3) := by decide +kernel
theorem dX9_isNode_16 : decode cX9_isNode 16 = .ok (.iconst 0, 1) := by decide +kernel
theorem dX9_isNode_17 : decode cX9_isNode 17 = .ok (.ireturn, 1) := by decide +kernel
theorem dX9_has_0 : decode cX9_has 0 = .ok (.iload_n 0, 1) := by decide +kernel
theorem dX9_has_1 : decode cX9_has 1 = .ok (.iload_n 1, 1) := by decide +kernel
theorem dX9_has_2 : decode cX9_has 2 = .ok (.ishr, 1) := by decide +kernel
theorem dX9_has_3 : decode cX9_has 3 = .ok (.iconst 1, 1) := by decide +kernel
theorem dX9_has_4 : decode cX9_has 4 = .ok (.iand, 1) := by decide +kernel
theorem dX9_has_5 : decode cX9_has 5 = .ok (.iconst 1, 1) := by decide +kernel
theorem dX9_has_6 : decode cX9_has 6 = .ok (.if_icmp .ne 7, 3) := by decide +kernel
theorem dX9_has_9 : decode cX9_has 9 = .ok (.iconst 1, 1) := by decide +kernel
theorem dX9_has_10 : decode cX9_has 10 = .ok (.goto 4, 3) := by decide +kernel
theorem dX9_has_13 : decode cX9_has 13 = .ok (.iconst 0, 1) := by decide +kernel
theorem dX9_has_14 : decode cX9_has 14 = .ok (.ireturn, 1) := by decide +kernel
theorem dX9_many_0 : decode cX9_many 0 = .ok (.iconst 0, 1) := by decide +kernel
theorem dX9_many_1 : decode cX9_many 1 = .ok (.istore_n 2, 1) := by decide +kernel
theorem dX9_many_2 : decode cX9_many 2 = .ok (.iconst 0, 1) := by decide +kernel
theorem dX9_many_3 : decode cX9_many 3 = .ok (.istore_n 3, 1) := by decide +kernel
theorem dX9_many_4 : decode cX9_many 4 = .ok (.iload_n 3, 1) := by decide +kernel
theorem dX9_many_5 : decode cX9_many 5 = .ok (.aload_n 0, 1) := by decide +kernel
theorem dX9_many_6 : decode cX9_many 6 = .ok (.getfield 95, 3) := by decide +kernel
theorem dX9_many_9 : decode cX9_many 9 = .ok (.if_icmp .ge 17, 3) := by decide +kernel
theorem dX9_many_12 : decode cX9_many 12 = .ok (.iload_n 2, 1) := by decide +kernel
theorem dX9_many_13 : decode cX9_many 13 = .ok (.iload_n 1, 1) := by decide +kernel
theorem dX9_many_14 : decode cX9_many 14 = .ok (.iload_n 3, 1) := by decide +kernel
theorem dX9_many_15 : decode cX9_many 15 = .ok (.ishr, 1) := by decide +kernel
theorem dX9_many_16 : decode cX9_many 16 = .ok (.iconst 1, 1) := by decide +kernel
theorem dX9_many_17 : decode cX9_many 17 = .ok (.iand, 1) := by decide +kernel
theorem dX9_many_18 : decode cX9_many 18 = .ok (.iadd, 1) := by decide +kernel
theorem dX9_many_19 : decode cX9_many 19 = .ok (.istore_n 2, 1) := by decide +kernel
theorem dX9_many_20 : decode cX9_many 20 = .ok (.iinc 3 1, 3) := by decide +kernel
theorem dX9_many_23 : decode cX9_many 23 = .ok (.goto (-19), 3) := by decide +kernel
theorem dX9_many_26 : decode cX9_many 26 = .ok (.iload_n 2, 1) := by decide +kernel
theorem dX9_many_27 : decode cX9_many 27 = .ok (.ireturn, 1) := by decide +kernel
theorem dX9_leader_0 : decode cX9_leader 0 = .ok (.aload_n 0, 1) := by decide +kernel
theorem dX9_leader_1 : decode cX9_leader 1 = .ok (.getfield 95, 3) := by decide +kernel
theorem dX9_leader_4 : decode cX9_leader 4 = .ok (.iconst 1, 1) := by decide +kernel
theorem dX9_leader_5 : decode cX9_leader 5 = .ok (.isub, 1) := by decide +kernel
theorem dX9_leader_6 : decode cX9_leader 6 = .ok (.istore_n 2, 1) := by decide +kernel
theorem dX9_leader_7 : decode cX9_leader 7 = .ok (.iload_n 2, 1) := by decide +kernel
theorem dX9_leader_8 : decode cX9_leader 8 = .ok (.ifCond .le 22, 3) := by decide +kernel
theorem dX9_leader_11 : decode cX9_leader 11 = .ok (.aload_n 0, 1) := by decide +kernel
theorem dX9_leader_12 : decode cX9_leader 12 = .ok (.getfield 16, 3) := by decide +kernel
theorem dX9_leader_15 : decode cX9_leader 15 = .ok (.iload_n 1, 1) := by decide +kernel
theorem dX9_leader_16 : decode cX9_leader 16 = .ok (.iaload, 1) := by decide +kernel
theorem dX9_leader_17 : decode cX9_leader 17 = .ok (.iload_n 2, 1) := by decide +kernel
theorem dX9_leader_18 : decode cX9_leader 18 = .ok (.invokestatic 99, 3) := by decide +kernel
theorem dX9_leader_21 : decode cX9_leader 21 = .ok (.ifCond .ne 9, 3) := by decide +kernel
theorem dX9_leader_24 : decode cX9_leader 24 = .ok (.iinc 2 (-1), 3) := by decide +kernel
theorem dX9_leader_27 : decode cX9_leader 27 = .ok (.goto (-20), 3) := by decide +kernel
theorem dX9_leader_30 : decode cX9_leader 30 = .ok (.iload_n 2, 1) := by decide +kernel
theorem dX9_leader_31 : decode cX9_leader 31 = .ok (.ireturn, 1) := by decide +kernel
theorem dX9_isBlocked_0 : decode cX9_isBlocked 0 = .ok (.aload_n 0, 1) := by decide +kernel
theorem dX9_isBlocked_1 : decode cX9_isBlocked 1 = .ok (.getfield 31, 3) := by decide +kernel
theorem dX9_isBlocked_4 : decode cX9_isBlocked 4 = .ok (.iload_n 1, 1) := by decide +kernel
theorem dX9_isBlocked_5 : decode cX9_isBlocked 5 = .ok (.iaload, 1) := by decide +kernel
theorem dX9_isBlocked_6 : decode cX9_isBlocked 6 = .ok (.aload_n 0, 1) := by decide +kernel
theorem dX9_isBlocked_7 : decode cX9_isBlocked 7 = .ok (.getfield 13, 3) := by decide +kernel
theorem dX9_isBlocked_10 : decode cX9_isBlocked 10 = .ok (.iload_n 1, 1) := by decide +kernel
theorem dX9_isBlocked_11 : decode cX9_isBlocked 11 = .ok (.iaload, 1) := by decide +kernel
theorem dX9_isBlocked_12 : decode cX9_isBlocked 12 = .ok (.if_icmp .eq 7, 3) := by decide +kernel
theorem dX9_isBlocked_15 : decode cX9_isBlocked 15 = .ok (.iconst 1, 1) := by decide +kernel
theorem dX9_isBlocked_16 : decode cX9_isBlocked 16 = .ok (.goto 4, 3) := by decide +kernel
theorem dX9_isBlocked_19 : decode cX9_isBlocked 19 = .ok (.iconst 0, 1) := by decide +kernel
theorem dX9_isBlocked_20 : decode cX9_isBlocked 20 = .ok (.ireturn, 1) := by decide +kernel
theorem dX9_send_0 : decode cX9_send 0 = .ok (.aload_n 0, 1) := by decide +kernel
theorem dX9_send_1 : decode cX9_send 1 = .ok (.dup, 1) := by decide +kernel
theorem dX9_send_2 : decode cX9_send 2 = .ok (.getfield 102, 3) := by decide +kernel
theorem dX9_send_5 : decode cX9_send 5 = .ok (.iconst 1, 1) := by decide +kernel
theorem dX9_send_6 : decode cX9_send 6 = .ok (.iadd, 1) := by decide +kernel
theorem dX9_send_7 : decode cX9_send 7 = .ok (.putfield 102, 3) := by decide +kernel
theorem dX9_send_10 : decode cX9_send 10 = .ok (.aload_n 0, 1) := by decide +kernel
theorem dX9_send_11 : decode cX9_send 11 = .ok (.getfield 105, 3) := by decide +kernel
theorem dX9_send_14 : decode cX9_send 14 = .ok (.sipush 500, 3) := by decide +kernel
theorem dX9_send_17 : decode cX9_send 17 = .ok (.if_icmp .ne 14, 3) := by decide +kernel
theorem dX9_send_20 : decode cX9_send 20 = .ok (.aload_n 0, 1) := by decide +kernel
theorem dX9_send_21 : decode cX9_send 21 = .ok (.dup, 1) := by decide +kernel
theorem dX9_send_22 : decode cX9_send 22 = .ok (.getfield 108, 3) := by decide +kernel
theorem dX9_send_25 : decode cX9_send 25 = .ok (.iconst 1, 1) := by decide +kernel
theorem dX9_send_26 : decode cX9_send 26 = .ok (.iadd, 1) := by decide +kernel
theorem dX9_send_27 : decode cX9_send 27 = .ok (.putfield 108, 3) := by decide +kernel
theorem dX9_send_30 : decode cX9_send 30 = .ok (.return_, 1) := by decide +kernel
theorem dX9_send_31 : decode cX9_send 31 = .ok (.iconst 0, 1) := by decide +kernel
theorem dX9_send_32 : decode cX9_send 32 = .ok (.istore 8, 2) := by decide +kernel
theorem dX9_send_34 : decode cX9_send 34 = .ok (.aload_n 0, 1) := by decide +kernel
theorem dX9_send_35 : decode cX9_send 35 = .ok (.getfield 67, 3) := by decide +kernel
theorem dX9_send_38 : decode cX9_send 38 = .ok (.iload 8, 2) := by decide +kernel
theorem dX9_send_40 : decode cX9_send 40 = .ok (.baload, 1) := by decide +kernel
theorem dX9_send_41 : decode cX9_send 41 = .ok (.ifCond .eq 9, 3) := by decide +kernel
theorem dX9_send_44 : decode cX9_send 44 = .ok (.iinc 8 1, 3) := by decide +kernel
theorem dX9_send_47 : decode cX9_send 47 = .ok (.goto (-13), 3) := by decide +kernel
theorem dX9_send_50 : decode cX9_send 50 = .ok (.aload_n 0, 1) := by decide +kernel
theorem dX9_send_51 : decode cX9_send 51 = .ok (.getfield 67, 3) := by decide +kernel
theorem dX9_send_54 : decode cX9_send 54 = .ok (.iload 8, 2) := by decide +kernel
theorem dX9_send_56 : decode cX9_send 56 = .ok (.iconst 1, 1) := by decide +kernel
theorem dX9_send_57 : decode cX9_send 57 = .ok (.bastore, 1) := by decide +kernel
theorem dX9_send_58 : decode cX9_send 58 = .ok (.aload_n 0, 1) := by decide +kernel
theorem dX9_send_59 : decode cX9_send 59 = .ok (.getfield 71, 3) := by decide +kernel
theorem dX9_send_62 : decode cX9_send 62 = .ok (.iload 8, 2) := by decide +kernel
theorem dX9_send_64 : decode cX9_send 64 = .ok (.iload_n 1, 1) := by decide +kernel
theorem dX9_send_65 : decode cX9_send 65 = .ok (.iastore, 1) := by decide +kernel
theorem dX9_send_66 : decode cX9_send 66 = .ok (.aload_n 0, 1) := by decide +kernel
theorem dX9_send_67 : decode cX9_send 67 = .ok (.getfield 74, 3) := by decide +kernel
theorem dX9_send_70 : decode cX9_send 70 = .ok (.iload 8, 2) := by decide +kernel
theorem dX9_send_72 : decode cX9_send 72 = .ok (.iload_n 2, 1) := by decide +kernel
theorem dX9_send_73 : decode cX9_send 73 = .ok (.iastore, 1) := by decide +kernel
theorem dX9_send_74 : decode cX9_send 74 = .ok (.aload_n 0, 1) := by decide +kernel
theorem dX9_send_75 : decode cX9_send 75 = .ok (.getfield 77, 3) := by decide +kernel
theorem dX9_send_78 : decode cX9_send 78 = .ok (.iload 8, 2) := by decide +kernel
theorem dX9_send_80 : decode cX9_send 80 = .ok (.iload_n 3, 1) := by decide +kernel
theorem dX9_send_81 : decode cX9_send 81 = .ok (.iastore, 1) := by decide +kernel
theorem dX9_send_82 : decode cX9_send 82 = .ok (.aload_n 0, 1) := by decide +kernel
theorem dX9_send_83 : decode cX9_send 83 = .ok (.getfield 80, 3) := by decide +kernel
theorem dX9_send_86 : decode cX9_send 86 = .ok (.iload 8, 2) := by decide +kernel
theorem dX9_send_88 : decode cX9_send 88 = .ok (.iload 4, 2) := by decide +kernel
theorem dX9_send_90 : decode cX9_send 90 = .ok (.iastore, 1) := by decide +kernel
theorem dX9_send_91 : decode cX9_send 91 = .ok (.aload_n 0, 1) := by decide +kernel
theorem dX9_send_92 : decode cX9_send 92 = .ok (.getfield 83, 3) := by decide +kernel
theorem dX9_send_95 : decode cX9_send 95 = .ok (.iload 8, 2) := by decide +kernel
theorem dX9_send_97 : decode cX9_send 97 = .ok (.iload 5, 2) := by decide +kernel
theorem dX9_send_99 : decode cX9_send 99 = .ok (.iastore, 1) := by decide +kernel
theorem dX9_send_100 : decode cX9_send 100 = .ok (.aload_n 0, 1) := by decide +kernel
theorem dX9_send_101 : decode cX9_send 101 = .ok (.getfield 86, 3) := by decide +kernel
theorem dX9_send_104 : decode cX9_send 104 = .ok (.iload 8, 2) := by decide +kernel
theorem dX9_send_106 : decode cX9_send 106 = .ok (.iload 6, 2) := by decide +kernel
theorem dX9_send_108 : decode cX9_send 108 = .ok (.iastore, 1) := by decide +kernel
theorem dX9_send_109 : decode cX9_send 109 = .ok (.aload_n 0, 1) := by decide +kernel
theorem dX9_send_110 : decode cX9_send 110 = .ok (.getfield 92, 3) := by decide +kernel
theorem dX9_send_113 : decode cX9_send 113 = .ok (.iload 8, 2) := by decide +kernel
theorem dX9_send_115 : decode cX9_send 115 = .ok (.aload_n 0, 1) := by decide +kernel
theorem dX9_send_116 : decode cX9_send 116 = .ok (.getfield 102, 3) := by decide +kernel
theorem dX9_send_119 : decode cX9_send 119 = .ok (.iastore, 1) := by decide +kernel
theorem dX9_send_120 : decode cX9_send 120 = .ok (.iload_n 3, 1) := by decide +kernel
theorem dX9_send_121 : decode cX9_send 121 = .ok (.iconst 1, 1) := by decide +kernel
theorem dX9_send_122 : decode cX9_send 122 = .ok (.if_icmp .eq 8, 3) := by decide +kernel
theorem dX9_send_125 : decode cX9_send 125 = .ok (.iload_n 3, 1) := by decide +kernel
theorem dX9_send_126 : decode cX9_send 126 = .ok (.iconst 2, 1) := by decide +kernel
theorem dX9_send_127 : decode cX9_send 127 = .ok (.if_icmp .ne 18, 3) := by decide +kernel
theorem dX9_send_130 : decode cX9_send 130 = .ok (.aload_n 0, 1) := by decide +kernel
theorem dX9_send_131 : decode cX9_send 131 = .ok (.getfield 89, 3) := by decide +kernel
theorem dX9_send_134 : decode cX9_send 134 = .ok (.bipush 60, 2) := by decide +kernel
theorem dX9_send_136 : decode cX9_send 136 = .ok (.iload 8, 2) := by decide +kernel
theorem dX9_send_138 : decode cX9_send 138 = .ok (.imul, 1) := by decide +kernel
theorem dX9_send_139 : decode cX9_send 139 = .ok (.iload 7, 2) := by decide +kernel
theorem dX9_send_141 : decode cX9_send 141 = .ok (.iastore, 1) := by decide +kernel
theorem dX9_send_142 : decode cX9_send 142 = .ok (.goto 44, 3) := by decide +kernel
theorem dX9_send_145 : decode cX9_send 145 = .ok (.iconst 0, 1) := by decide +kernel
theorem dX9_send_146 : decode cX9_send 146 = .ok (.istore 9, 2) := by decide +kernel
theorem dX9_send_148 : decode cX9_send 148 = .ok (.iload 9, 2) := by decide +kernel
theorem dX9_send_150 : decode cX9_send 150 = .ok (.iload 6, 2) := by decide +kernel
theorem dX9_send_152 : decode cX9_send 152 = .ok (.if_icmp .ge 34, 3) := by decide +kernel
theorem dX9_send_155 : decode cX9_send 155 = .ok (.aload_n 0, 1) := by decide +kernel
theorem dX9_send_156 : decode cX9_send 156 = .ok (.getfield 89, 3) := by decide +kernel
theorem dX9_send_159 : decode cX9_send 159 = .ok (.bipush 60, 2) := by decide +kernel
theorem dX9_send_161 : decode cX9_send 161 = .ok (.iload 8, 2) := by decide +kernel
theorem dX9_send_163 : decode cX9_send 163 = .ok (.imul, 1) := by decide +kernel
theorem dX9_send_164 : decode cX9_send 164 = .ok (.iload 9, 2) := by decide +kernel
theorem dX9_send_166 : decode cX9_send 166 = .ok (.iadd, 1) := by decide +kernel
theorem dX9_send_167 : decode cX9_send 167 = .ok (.aload_n 0, 1) := by decide +kernel
theorem dX9_send_168 : decode cX9_send 168 = .ok (.getfield 19, 3) := by decide +kernel
theorem dX9_send_171 : decode cX9_send 171 = .ok (.bipush 60, 2) := by decide +kernel
theorem dX9_send_173 : decode cX9_send 173 = .ok (.iload_n 1, 1) := by decide +kernel
theorem dX9_send_174 : decode cX9_send 174 = .ok (.imul, 1) := by decide +kernel
theorem dX9_send_175 : decode cX9_send 175 = .ok (.iload 9, 2) := by decide +kernel
theorem dX9_send_177 : decode cX9_send 177 = .ok (.iadd, 1) := by decide +kernel
theorem dX9_send_178 : decode cX9_send 178 = .ok (.iaload, 1) := by decide +kernel
theorem dX9_send_179 : decode cX9_send 179 = .ok (.iastore, 1) := by decide +kernel
theorem dX9_send_180 : decode cX9_send 180 = .ok (.iinc 9 1, 3) := by decide +kernel
theorem dX9_send_183 : decode cX9_send 183 = .ok (.goto (-35), 3) := by decide +kernel
theorem dX9_send_186 : decode cX9_send 186 = .ok (.aload_n 0, 1) := by decide +kernel
theorem dX9_send_187 : decode cX9_send 187 = .ok (.dup, 1) := by decide +kernel
theorem dX9_send_188 : decode cX9_send 188 = .ok (.getfield 105, 3) := by decide +kernel
theorem dX9_send_191 : decode cX9_send 191 = .ok (.iconst 1, 1) := by decide +kernel
theorem dX9_send_192 : decode cX9_send 192 = .ok (.iadd, 1) := by decide +kernel
theorem dX9_send_193 : decode cX9_send 193 = .ok (.putfield 105, 3) := by decide +kernel
theorem dX9_send_196 : decode cX9_send 196 = .ok (.return_, 1) := by decide +kernel
theorem dX9_sendAll_0 : decode cX9_sendAll 0 = .ok (.iconst 0, 1) := by decide +kernel
theorem dX9_sendAll_1 : decode cX9_sendAll 1 = .ok (.istore 8, 2) := by decide +kernel
theorem dX9_sendAll_3 : decode cX9_sendAll 3 = .ok (.iload 8, 2) := by decide +kernel
theorem dX9_sendAll_5 : decode cX9_sendAll 5 = .ok (.aload_n 0, 1) := by decide +kernel
theorem dX9_sendAll_6 : decode cX9_sendAll 6 = .ok (.getfield 95, 3) := by decide +kernel
theorem dX9_sendAll_9 : decode cX9_sendAll 9 = .ok (.if_icmp .ge 40, 3) := by decide +kernel
theorem dX9_sendAll_12 : decode cX9_sendAll 12 = .ok (.iload 8, 2) := by decide +kernel
theorem dX9_sendAll_14 : decode cX9_sendAll 14 = .ok (.iload_n 1, 1) := by decide +kernel
theorem dX9_sendAll_15 : decode cX9_sendAll 15 = .ok (.if_icmp .eq 28, 3) := by decide +kernel
theorem dX9_sendAll_18 : decode cX9_sendAll 18 = .ok (.iload_n 2, 1) := by decide +kernel
theorem dX9_sendAll_19 : decode cX9_sendAll 19 = .ok (.iload 8, 2) := by decide +kernel
theorem dX9_sendAll_21 : decode cX9_sendAll 21 = .ok (.invokestatic 99, 3) := by decide +kernel
theorem dX9_sendAll_24 : decode cX9_sendAll 24 = .ok (.ifCond .eq 19, 3) := by decide +kernel
theorem dX9_sendAll_27 : decode cX9_sendAll 27 = .ok (.aload_n 0, 1) := by decide +kernel
theorem dX9_sendAll_28 : decode cX9_sendAll 28 = .ok (.iload_n 1, 1) := by decide +kernel
theorem dX9_sendAll_29 : decode cX9_sendAll 29 = .ok (.iload 8, 2) := by decide +kernel
theorem dX9_sendAll_31 : decode cX9_sendAll 31 = .ok (.iload_n 3, 1) := by decide +kernel
theorem dX9_sendAll_32 : decode cX9_sendAll 32 = .ok (.iload 4, 2) := by decide +kernel
theorem dX9_sendAll_34 : decode cX9_sendAll 34 = .ok (.iload 5, 2) := by decide +kernel
theorem dX9_sendAll_36 : decode cX9_sendAll 36 = .ok (.iload 6, 2) := by decide +kernel
theorem dX9_sendAll_38 : decode cX9_sendAll 38 = .ok (.iload 7, 2) := by decide +kernel
theorem dX9_sendAll_40 : decode cX9_sendAll 40 = .ok (.invokevirtual 111, 3) := by decide +kernel
theorem dX9_sendAll_43 : decode cX9_sendAll 43 = .ok (.iinc 8 1, 3) := by decide +kernel
theorem dX9_sendAll_46 : decode cX9_sendAll 46 = .ok (.goto (-43), 3) := by decide +kernel
theorem dX9_sendAll_49 : decode cX9_sendAll 49 = .ok (.return_, 1) := by decide +kernel
theorem dX9_oldest_0 : decode cX9_oldest 0 = .ok (.iconst (-1), 1) := by decide +kernel
theorem dX9_oldest_1 : decode cX9_oldest 1 = .ok (.istore_n 3, 1) := by decide +kernel
theorem dX9_oldest_2 : decode cX9_oldest 2 = .ok (.iconst 0, 1) := by decide +kernel
theorem dX9_oldest_3 : decode cX9_oldest 3 = .ok (.istore 4, 2) := by decide +kernel
theorem dX9_oldest_5 : decode cX9_oldest 5 = .ok (.iload 4, 2) := by decide +kernel
theorem dX9_oldest_7 : decode cX9_oldest 7 = .ok (.sipush 500, 3) := by decide +kernel
theorem dX9_oldest_10 : decode cX9_oldest 10 = .ok (.if_icmp .ge 65, 3) := by decide +kernel
theorem dX9_oldest_13 : decode cX9_oldest 13 = .ok (.aload_n 0, 1) := by decide +kernel
theorem dX9_oldest_14 : decode cX9_oldest 14 = .ok (.getfield 67, 3) := by decide +kernel
theorem dX9_oldest_17 : decode cX9_oldest 17 = .ok (.iload 4, 2) := by decide +kernel
theorem dX9_oldest_19 : decode cX9_oldest 19 = .ok (.baload, 1) := by decide +kernel
theorem dX9_oldest_20 : decode cX9_oldest 20 = .ok (.ifCond .eq 49, 3) := by decide +kernel
theorem dX9_oldest_23 : decode cX9_oldest 23 = .ok (.aload_n 0, 1) := by decide +kernel
theorem dX9_oldest_24 : decode cX9_oldest 24 = .ok (.getfield 71, 3) := by decide +kernel
theorem dX9_oldest_27 : decode cX9_oldest 27 = .ok (.iload 4, 2) := by decide +kernel
theorem dX9_oldest_29 : decode cX9_oldest 29 = .ok (.iaload, 1) := by decide +kernel
theorem dX9_oldest_30 : decode cX9_oldest 30 = .ok (.iload_n 1, 1) := by decide +kernel
theorem dX9_oldest_31 : decode cX9_oldest 31 = .ok (.if_icmp .ne 38, 3) := by decide +kernel
theorem dX9_oldest_34 : decode cX9_oldest 34 = .ok (.aload_n 0, 1) := by decide +kernel
theorem dX9_oldest_35 : decode cX9_oldest 35 = .ok (.getfield 74, 3) := by decide +kernel
theorem dX9_oldest_38 : decode cX9_oldest 38 = .ok (.iload 4, 2) := by decide +kernel
theorem dX9_oldest_40 : decode cX9_oldest 40 = .ok (.iaload, 1) := by decide +kernel
theorem dX9_oldest_41 : decode cX9_oldest 41 = .ok (.iload_n 2, 1) := by decide +kernel
theorem dX9_oldest_42 : decode cX9_oldest 42 = .ok (.if_icmp .ne 27, 3) := by decide +kernel
theorem dX9_oldest_45 : decode cX9_oldest 45 = .ok (.iload_n 3, 1) := by decide +kernel
theorem dX9_oldest_46 : decode cX9_oldest 46 = .ok (.iconst (-1), 1) := by decide +kernel
theorem dX9_oldest_47 : decode cX9_oldest 47 = .ok (.if_icmp .eq 19, 3) := by decide +kernel
theorem dX9_oldest_50 : decode cX9_oldest 50 = .ok (.aload_n 0, 1) := by decide +kernel
theorem dX9_oldest_51 : decode cX9_oldest 51 = .ok (.getfield 92, 3) := by decide +kernel
theorem dX9_oldest_54 : decode cX9_oldest 54 = .ok (.iload 4, 2) := by decide +kernel
theorem dX9_oldest_56 : decode cX9_oldest 56 = .ok (.iaload, 1) := by decide +kernel
theorem dX9_oldest_57 : decode cX9_oldest 57 = .ok (.aload_n 0, 1) := by decide +kernel
theorem dX9_oldest_58 : decode cX9_oldest 58 = .ok (.getfield 92, 3) := by decide +kernel
theorem dX9_oldest_61 : decode cX9_oldest 61 = .ok (.iload_n 3, 1) := by decide +kernel
theorem dX9_oldest_62 : decode cX9_oldest 62 = .ok (.iaload, 1) := by decide +kernel
theorem dX9_oldest_63 : decode cX9_oldest 63 = .ok (.if_icmp .ge 6, 3) := by decide +kernel
theorem dX9_oldest_66 : decode cX9_oldest 66 = .ok (.iload 4, 2) := by decide +kernel
theorem dX9_oldest_68 : decode cX9_oldest 68 = .ok (.istore_n 3, 1) := by decide +kernel
theorem dX9_oldest_69 : decode cX9_oldest 69 = .ok (.iinc 4 1, 3) := by decide +kernel
theorem dX9_oldest_72 : decode cX9_oldest 72 = .ok (.goto (-67), 3) := by decide +kernel
theorem dX9_oldest_75 : decode cX9_oldest 75 = .ok (.iload_n 3, 1) := by decide +kernel
theorem dX9_oldest_76 : decode cX9_oldest 76 = .ok (.ireturn, 1) := by decide +kernel
theorem dX9_push_0 : decode cX9_push 0 = .ok (.aload_n 0, 1) := by decide +kernel
theorem dX9_push_1 : decode cX9_push 1 = .ok (.getfield 61, 3) := by decide +kernel
theorem dX9_push_4 : decode cX9_push 4 = .ok (.bipush 20, 2) := by decide +kernel
theorem dX9_push_6 : decode cX9_push 6 = .ok (.iload_n 1, 1) := by decide +kernel
theorem dX9_push_7 : decode cX9_push 7 = .ok (.imul, 1) := by decide +kernel
theorem dX9_push_8 : decode cX9_push 8 = .ok (.aload_n 0, 1) := by decide +kernel
theorem dX9_push_9 : decode cX9_push 9 = .ok (.getfield 64, 3) := by decide +kernel
theorem dX9_push_12 : decode cX9_push 12 = .ok (.iload_n 1, 1) := by decide +kernel
theorem dX9_push_13 : decode cX9_push 13 = .ok (.iaload, 1) := by decide +kernel
theorem dX9_push_14 : decode cX9_push 14 = .ok (.iadd, 1) := by decide +kernel
theorem dX9_push_15 : decode cX9_push 15 = .ok (.iload_n 2, 1) := by decide +kernel
theorem dX9_push_16 : decode cX9_push 16 = .ok (.iastore, 1) := by decide +kernel
theorem dX9_push_17 : decode cX9_push 17 = .ok (.aload_n 0, 1) := by decide +kernel
theorem dX9_push_18 : decode cX9_push 18 = .ok (.getfield 64, 3) := by decide +kernel
theorem dX9_push_21 : decode cX9_push 21 = .ok (.iload_n 1, 1) := by decide +kernel
theorem dX9_push_22 : decode cX9_push 22 = .ok (.dup2, 1) := by decide +kernel
theorem dX9_push_23 : decode cX9_push 23 = .ok (.iaload, 1) := by decide +kernel
theorem dX9_push_24 : decode cX9_push 24 = .ok (.iconst 1, 1) := by decide +kernel
theorem dX9_push_25 : decode cX9_push 25 = .ok (.iadd, 1) := by decide +kernel
theorem dX9_push_26 : decode cX9_push 26 = .ok (.iastore, 1) := by decide +kernel
theorem dX9_push_27 : decode cX9_push 27 = .ok (.return_, 1) := by decide +kernel
theorem dX9_carry_0 : decode cX9_carry 0 = .ok (.aload_n 0, 1) := by decide +kernel
theorem dX9_carry_1 : decode cX9_carry 1 = .ok (.getfield 19, 3) := by decide +kernel
theorem dX9_carry_4 : decode cX9_carry 4 = .ok (.bipush 60, 2) := by decide +kernel
theorem dX9_carry_6 : decode cX9_carry 6 = .ok (.iload_n 1, 1) := by decide +kernel
theorem dX9_carry_7 : decode cX9_carry 7 = .ok (.imul, 1) := by decide +kernel
theorem dX9_carry_8 : decode cX9_carry 8 = .ok (.aload_n 0, 1) := by decide +kernel
theorem dX9_carry_9 : decode cX9_carry 9 = .ok (.getfield 25, 3) := by decide +kernel
theorem dX9_carry_12 : decode cX9_carry 12 = .ok (.iload_n 1, 1) := by decide +kernel
theorem dX9_carry_13 : decode cX9_carry 13 = .ok (.iaload, 1) := by decide +kernel
theorem dX9_carry_14 : decode cX9_carry 14 = .ok (.iadd, 1) := by decide +kernel
theorem dX9_carry_15 : decode cX9_carry 15 = .ok (.iaload, 1) := by decide +kernel
theorem dX9_carry_16 : decode cX9_carry 16 = .ok (.istore_n 2, 1) := by decide +kernel
theorem dX9_carry_17 : decode cX9_carry 17 = .ok (.aload_n 0, 1) := by decide +kernel
theorem dX9_carry_18 : decode cX9_carry 18 = .ok (.getfield 25, 3) := by decide +kernel
theorem dX9_carry_21 : decode cX9_carry 21 = .ok (.iload_n 1, 1) := by decide +kernel
theorem dX9_carry_22 : decode cX9_carry 22 = .ok (.dup2, 1) := by decide +kernel
theorem dX9_carry_23 : decode cX9_carry 23 = .ok (.iaload, 1) := by decide +kernel
theorem dX9_carry_24 : decode cX9_carry 24 = .ok (.iconst 1, 1) := by decide +kernel
theorem dX9_carry_25 : decode cX9_carry 25 = .ok (.iadd, 1) := by decide +kernel
theorem dX9_carry_26 : decode cX9_carry 26 = .ok (.iastore, 1) := by decide +kernel
theorem dX9_carry_27 : decode cX9_carry 27 = .ok (.aload_n 0, 1) := by decide +kernel
theorem dX9_carry_28 : decode cX9_carry 28 = .ok (.dup, 1) := by decide +kernel
theorem dX9_carry_29 : decode cX9_carry 29 = .ok (.getfield 115, 3) := by decide +kernel
theorem dX9_carry_32 : decode cX9_carry 32 = .ok (.iconst 1, 1) := by decide +kernel
theorem dX9_carry_33 : decode cX9_carry 33 = .ok (.iadd, 1) := by decide +kernel
theorem dX9_carry_34 : decode cX9_carry 34 = .ok (.putfield 115, 3) := by decide +kernel
theorem dX9_carry_37 : decode cX9_carry 37 = .ok (.iload_n 2, 1) := by decide +kernel
theorem dX9_carry_38 : decode cX9_carry 38 = .ok (.bipush 7, 2) := by decide +kernel
theorem dX9_carry_40 : decode cX9_carry 40 = .ok (.iand, 1) := by decide +kernel
theorem dX9_carry_41 : decode cX9_carry 41 = .ok (.istore_n 3, 1) := by decide +kernel
theorem dX9_carry_42 : decode cX9_carry 42 = .ok (.bipush 20, 2) := by decide +kernel
theorem dX9_carry_44 : decode cX9_carry 44 = .ok (.iload_n 1, 1) := by decide +kernel
theorem dX9_carry_45 : decode cX9_carry 45 = .ok (.imul, 1) := by decide +kernel
theorem dX9_carry_46 : decode cX9_carry 46 = .ok (.aload_n 0, 1) := by decide +kernel
theorem dX9_carry_47 : decode cX9_carry 47 = .ok (.getfield 64, 3) := by decide +kernel
theorem dX9_carry_50 : decode cX9_carry 50 = .ok (.iload_n 1, 1) := by decide +kernel
theorem dX9_carry_51 : decode cX9_carry 51 = .ok (.iaload, 1) := by decide +kernel
theorem dX9_carry_52 : decode cX9_carry 52 = .ok (.iadd, 1) := by decide +kernel
theorem dX9_carry_53 : decode cX9_carry 53 = .ok (.iconst 1, 1) := by decide +kernel
theorem dX9_carry_54 : decode cX9_carry 54 = .ok (.isub, 1) := by decide +kernel
theorem dX9_carry_55 : decode cX9_carry 55 = .ok (.istore 4, 2) := by decide +kernel
theorem dX9_carry_57 : decode cX9_carry 57 = .ok (.iload_n 3, 1) := by decide +kernel
theorem dX9_carry_58 : decode cX9_carry 58 = .ok (.tableswitch 190 0 4 #[34, 56, 56, 133, 168], 34) := by decide +kernel
theorem dX9_carry_92 : decode cX9_carry 92 = .ok (.aload_n 0, 1) := by decide +kernel
theorem dX9_carry_93 : decode cX9_carry 93 = .ok (.getfield 64, 3) := by decide +kernel
theorem dX9_carry_96 : decode cX9_carry 96 = .ok (.iload_n 1, 1) := by decide +kernel
theorem dX9_carry_97 : decode cX9_carry 97 = .ok (.iaload, 1) := by decide +kernel
theorem dX9_carry_98 : decode cX9_carry 98 = .ok (.bipush 20, 2) := by decide +kernel
theorem dX9_carry_100 : decode cX9_carry 100 = .ok (.if_icmp .ge 197, 3) := by decide +kernel
theorem dX9_carry_103 : decode cX9_carry 103 = .ok (.aload_n 0, 1) := by decide +kernel
theorem dX9_carry_104 : decode cX9_carry 104 = .ok (.iload_n 1, 1) := by decide +kernel
theorem dX9_carry_105 : decode cX9_carry 105 = .ok (.iload_n 2, 1) := by decide +kernel
theorem dX9_carry_106 : decode cX9_carry 106 = .ok (.iconst 3, 1) := by decide +kernel
theorem dX9_carry_107 : decode cX9_carry 107 = .ok (.ishr, 1) := by decide +kernel
theorem dX9_carry_108 : decode cX9_carry 108 = .ok (.invokevirtual 118, 3) := by decide +kernel
theorem dX9_carry_111 : decode cX9_carry 111 = .ok (.goto 186, 3) := by decide +kernel
theorem dX9_carry_114 : decode cX9_carry 114 = .ok (.aload_n 0, 1) := by decide +kernel
theorem dX9_carry_115 : decode cX9_carry 115 = .ok (.getfield 64, 3) := by decide +kernel
theorem dX9_carry_118 : decode cX9_carry 118 = .ok (.iload_n 1, 1) := by decide +kernel
theorem dX9_carry_119 : decode cX9_carry 119 = .ok (.iaload, 1) := by decide +kernel
theorem dX9_carry_120 : decode cX9_carry 120 = .ok (.iconst 2, 1) := by decide +kernel
theorem dX9_carry_121 : decode cX9_carry 121 = .ok (.if_icmp .ge 6, 3) := by decide +kernel
theorem dX9_carry_124 : decode cX9_carry 124 = .ok (.goto 173, 3) := by decide +kernel
theorem dX9_carry_127 : decode cX9_carry 127 = .ok (.aload_n 0, 1) := by decide +kernel
theorem dX9_carry_128 : decode cX9_carry 128 = .ok (.getfield 61, 3) := by decide +kernel
theorem dX9_carry_131 : decode cX9_carry 131 = .ok (.iload 4, 2) := by decide +kernel
theorem dX9_carry_133 : decode cX9_carry 133 = .ok (.iconst 1, 1) := by decide +kernel
theorem dX9_carry_134 : decode cX9_carry 134 = .ok (.isub, 1) := by decide +kernel
theorem dX9_carry_135 : decode cX9_carry 135 = .ok (.iload_n 3, 1) := by decide +kernel
theorem dX9_carry_136 : decode cX9_carry 136 = .ok (.iconst 1, 1) := by decide +kernel
theorem dX9_carry_137 : decode cX9_carry 137 = .ok (.if_icmp .ne 23, 3) := by decide +kernel
theorem dX9_carry_140 : decode cX9_carry 140 = .ok (.aload_n 0, 1) := by decide +kernel
theorem dX9_carry_141 : decode cX9_carry 141 = .ok (.getfield 61, 3) := by decide +kernel
theorem dX9_carry_144 : decode cX9_carry 144 = .ok (.iload 4, 2) := by decide +kernel
theorem dX9_carry_146 : decode cX9_carry 146 = .ok (.iconst 1, 1) := by decide +kernel
theorem dX9_carry_147 : decode cX9_carry 147 = .ok (.isub, 1) := by decide +kernel
theorem dX9_carry_148 : decode cX9_carry 148 = .ok (.iaload, 1) := by decide +kernel
theorem dX9_carry_149 : decode cX9_carry 149 = .ok (.aload_n 0, 1) := by decide +kernel
theorem dX9_carry_150 : decode cX9_carry 150 = .ok (.getfield 61, 3) := by decide +kernel
theorem dX9_carry_153 : decode cX9_carry 153 = .ok (.iload 4, 2) := by decide +kernel
theorem dX9_carry_155 : decode cX9_carry 155 = .ok (.iaload, 1) := by decide +kernel
theorem dX9_carry_156 : decode cX9_carry 156 = .ok (.iadd, 1) := by decide +kernel
theorem dX9_carry_157 : decode cX9_carry 157 = .ok (.goto 20, 3) := by decide +kernel
theorem dX9_carry_160 : decode cX9_carry 160 = .ok (.aload_n 0, 1) := by decide +kernel
theorem dX9_carry_161 : decode cX9_carry 161 = .ok (.getfield 61, 3) := by decide +kernel
theorem dX9_carry_164 : decode cX9_carry 164 = .ok (.iload 4, 2) := by decide +kernel
theorem dX9_carry_166 : decode cX9_carry 166 = .ok (.iconst 1, 1) := by decide +kernel
theorem dX9_carry_167 : decode cX9_carry 167 = .ok (.isub, 1) := by decide +kernel
theorem dX9_carry_168 : decode cX9_carry 168 = .ok (.iaload, 1) := by decide +kernel
theorem dX9_carry_169 : decode cX9_carry 169 = .ok (.aload_n 0, 1) := by decide +kernel
theorem dX9_carry_170 : decode cX9_carry 170 = .ok (.getfield 61, 3) := by decide +kernel
theorem dX9_carry_173 : decode cX9_carry 173 = .ok (.iload 4, 2) := by decide +kernel
theorem dX9_carry_175 : decode cX9_carry 175 = .ok (.iaload, 1) := by decide +kernel
theorem dX9_carry_176 : decode cX9_carry 176 = .ok (.imul, 1) := by decide +kernel
theorem dX9_carry_177 : decode cX9_carry 177 = .ok (.iastore, 1) := by decide +kernel
theorem dX9_carry_178 : decode cX9_carry 178 = .ok (.aload_n 0, 1) := by decide +kernel
theorem dX9_carry_179 : decode cX9_carry 179 = .ok (.getfield 64, 3) := by decide +kernel
theorem dX9_carry_182 : decode cX9_carry 182 = .ok (.iload_n 1, 1) := by decide +kernel
theorem dX9_carry_183 : decode cX9_carry 183 = .ok (.dup2, 1) := by decide +kernel
theorem dX9_carry_184 : decode cX9_carry 184 = .ok (.iaload, 1) := by decide +kernel
theorem dX9_carry_185 : decode cX9_carry 185 = .ok (.iconst 1, 1) := by decide +kernel
theorem dX9_carry_186 : decode cX9_carry 186 = .ok (.isub, 1) := by decide +kernel
theorem dX9_carry_187 : decode cX9_carry 187 = .ok (.iastore, 1) := by decide +kernel
theorem dX9_carry_188 : decode cX9_carry 188 = .ok (.goto 109, 3) := by decide +kernel
theorem dX9_carry_191 : decode cX9_carry 191 = .ok (.aload_n 0, 1) := by decide +kernel
theorem dX9_carry_192 : decode cX9_carry 192 = .ok (.getfield 64, 3) := by decide +kernel
theorem dX9_carry_195 : decode cX9_carry 195 = .ok (.iload_n 1, 1) := by decide +kernel
theorem dX9_carry_196 : decode cX9_carry 196 = .ok (.iaload, 1) := by decide +kernel
theorem dX9_carry_197 : decode cX9_carry 197 = .ok (.ifCond .le 100, 3) := by decide +kernel
theorem dX9_carry_200 : decode cX9_carry 200 = .ok (.aload_n 0, 1) := by decide +kernel
theorem dX9_carry_201 : decode cX9_carry 201 = .ok (.getfield 64, 3) := by decide +kernel
theorem dX9_carry_204 : decode cX9_carry 204 = .ok (.iload_n 1, 1) := by decide +kernel
theorem dX9_carry_205 : decode cX9_carry 205 = .ok (.iaload, 1) := by decide +kernel
theorem dX9_carry_206 : decode cX9_carry 206 = .ok (.bipush 20, 2) := by decide +kernel
theorem dX9_carry_208 : decode cX9_carry 208 = .ok (.if_icmp .ge 89, 3) := by decide +kernel
theorem dX9_carry_211 : decode cX9_carry 211 = .ok (.aload_n 0, 1) := by decide +kernel
theorem dX9_carry_212 : decode cX9_carry 212 = .ok (.iload_n 1, 1) := by decide +kernel
theorem dX9_carry_213 : decode cX9_carry 213 = .ok (.aload_n 0, 1) := by decide +kernel
theorem dX9_carry_214 : decode cX9_carry 214 = .ok (.getfield 61, 3) := by decide +kernel
theorem dX9_carry_217 : decode cX9_carry 217 = .ok (.iload 4, 2) := by decide +kernel
theorem dX9_carry_219 : decode cX9_carry 219 = .ok (.iaload, 1) := by decide +kernel
theorem dX9_carry_220 : decode cX9_carry 220 = .ok (.invokevirtual 118, 3) := by decide +kernel
theorem dX9_carry_223 : decode cX9_carry 223 = .ok (.goto 74, 3) := by decide +kernel
theorem dX9_carry_226 : decode cX9_carry 226 = .ok (.aload_n 0, 1) := by decide +kernel
theorem dX9_carry_227 : decode cX9_carry 227 = .ok (.getfield 64, 3) := by decide +kernel
theorem dX9_carry_230 : decode cX9_carry 230 = .ok (.iload_n 1, 1) := by decide +kernel
theorem dX9_carry_231 : decode cX9_carry 231 = .ok (.iaload, 1) := by decide +kernel
theorem dX9_carry_232 : decode cX9_carry 232 = .ok (.ifCond .le 65, 3) := by decide +kernel
theorem dX9_carry_235 : decode cX9_carry 235 = .ok (.aload_n 0, 1) := by decide +kernel
theorem dX9_carry_236 : decode cX9_carry 236 = .ok (.getfield 64, 3) := by decide +kernel
theorem dX9_carry_239 : decode cX9_carry 239 = .ok (.iload_n 1, 1) := by decide +kernel
theorem dX9_carry_240 : decode cX9_carry 240 = .ok (.dup2, 1) := by decide +kernel
theorem dX9_carry_241 : decode cX9_carry 241 = .ok (.iaload, 1) := by decide +kernel
theorem dX9_carry_242 : decode cX9_carry 242 = .ok (.iconst 1, 1) := by decide +kernel
theorem dX9_carry_243 : decode cX9_carry 243 = .ok (.isub, 1) := by decide +kernel
theorem dX9_carry_244 : decode cX9_carry 244 = .ok (.iastore, 1) := by decide +kernel
theorem dX9_carry_245 : decode cX9_carry 245 = .ok (.goto 52, 3) := by decide +kernel
theorem dX9_carry_248 : decode cX9_carry 248 = .ok (.aload_n 0, 1) := by decide +kernel
theorem dX9_carry_249 : decode cX9_carry 249 = .ok (.getfield 64, 3) := by decide +kernel
theorem dX9_carry_252 : decode cX9_carry 252 = .ok (.iload_n 1, 1) := by decide +kernel
theorem dX9_carry_253 : decode cX9_carry 253 = .ok (.iaload, 1) := by decide +kernel
theorem dX9_carry_254 : decode cX9_carry 254 = .ok (.iconst 2, 1) := by decide +kernel
theorem dX9_carry_255 : decode cX9_carry 255 = .ok (.if_icmp .ge 6, 3) := by decide +kernel
theorem dX9_carry_258 : decode cX9_carry 258 = .ok (.goto 39, 3) := by decide +kernel
theorem dX9_carry_261 : decode cX9_carry 261 = .ok (.aload_n 0, 1) := by decide +kernel
theorem dX9_carry_262 : decode cX9_carry 262 = .ok (.getfield 61, 3) := by decide +kernel
theorem dX9_carry_265 : decode cX9_carry 265 = .ok (.iload 4, 2) := by decide +kernel
theorem dX9_carry_267 : decode cX9_carry 267 = .ok (.iaload, 1) := by decide +kernel
theorem dX9_carry_268 : decode cX9_carry 268 = .ok (.istore 5, 2) := by decide +kernel
theorem dX9_carry_270 : decode cX9_carry 270 = .ok (.aload_n 0, 1) := by decide +kernel
theorem dX9_carry_271 : decode cX9_carry 271 = .ok (.getfield 61, 3) := by decide +kernel
theorem dX9_carry_274 : decode cX9_carry 274 = .ok (.iload 4, 2) := by decide +kernel
theorem dX9_carry_276 : decode cX9_carry 276 = .ok (.aload_n 0, 1) := by decide +kernel
theorem dX9_carry_277 : decode cX9_carry 277 = .ok (.getfield 61, 3) := by decide +kernel
theorem dX9_carry_280 : decode cX9_carry 280 = .ok (.iload 4, 2) := by decide +kernel
theorem dX9_carry_282 : decode cX9_carry 282 = .ok (.iconst 1, 1) := by decide +kernel
theorem dX9_carry_283 : decode cX9_carry 283 = .ok (.isub, 1) := by decide +kernel
theorem dX9_carry_284 : decode cX9_carry 284 = .ok (.iaload, 1) := by decide +kernel
theorem dX9_carry_285 : decode cX9_carry 285 = .ok (.iastore, 1) := by decide +kernel
theorem dX9_carry_286 : decode cX9_carry 286 = .ok (.aload_n 0, 1) := by decide +kernel
theorem dX9_carry_287 : decode cX9_carry 287 = .ok (.getfield 61, 3) := by decide +kernel
theorem dX9_carry_290 : decode cX9_carry 290 = .ok (.iload 4, 2) := by decide +kernel
theorem dX9_carry_292 : decode cX9_carry 292 = .ok (.iconst 1, 1) := by decide +kernel
theorem dX9_carry_293 : decode cX9_carry 293 = .ok (.isub, 1) := by decide +kernel
theorem dX9_carry_294 : decode cX9_carry 294 = .ok (.iload 5, 2) := by decide +kernel
theorem dX9_carry_296 : decode cX9_carry 296 = .ok (.iastore, 1) := by decide +kernel
theorem dX9_carry_297 : decode cX9_carry 297 = .ok (.return_, 1) := by decide +kernel
theorem dX9_carryTo_0 : decode cX9_carryTo 0 = .ok (.aload_n 0, 1) := by decide +kernel
theorem dX9_carryTo_1 : decode cX9_carryTo 1 = .ok (.getfield 25, 3) := by decide +kernel
theorem dX9_carryTo_4 : decode cX9_carryTo 4 = .ok (.iload_n 1, 1) := by decide +kernel
theorem dX9_carryTo_5 : decode cX9_carryTo 5 = .ok (.iaload, 1) := by decide +kernel
theorem dX9_carryTo_6 : decode cX9_carryTo 6 = .ok (.iload_n 2, 1) := by decide +kernel
theorem dX9_carryTo_7 : decode cX9_carryTo 7 = .ok (.if_icmp .ge 26, 3) := by decide +kernel
theorem dX9_carryTo_10 : decode cX9_carryTo 10 = .ok (.aload_n 0, 1) := by decide +kernel
theorem dX9_carryTo_11 : decode cX9_carryTo 11 = .ok (.getfield 25, 3) := by decide +kernel
theorem dX9_carryTo_14 : decode cX9_carryTo 14 = .ok (.iload_n 1, 1) := by decide +kernel
theorem dX9_carryTo_15 : decode cX9_carryTo 15 = .ok (.iaload, 1) := by decide +kernel
theorem dX9_carryTo_16 : decode cX9_carryTo 16 = .ok (.aload_n 0, 1) := by decide +kernel
theorem dX9_carryTo_17 : decode cX9_carryTo 17 = .ok (.getfield 22, 3) := by decide +kernel
theorem dX9_carryTo_20 : decode cX9_carryTo 20 = .ok (.iload_n 1, 1) := by decide +kernel
theorem dX9_carryTo_21 : decode cX9_carryTo 21 = .ok (.iaload, 1) := by decide +kernel
theorem dX9_carryTo_22 : decode cX9_carryTo 22 = .ok (.if_icmp .ge 11, 3) := by decide +kernel
theorem dX9_carryTo_25 : decode cX9_carryTo 25 = .ok (.aload_n 0, 1) := by decide +kernel
theorem dX9_carryTo_26 : decode cX9_carryTo 26 = .ok (.iload_n 1, 1) := by decide +kernel
theorem dX9_carryTo_27 : decode cX9_carryTo 27 = .ok (.invokevirtual 122, 3) := by decide +kernel
theorem dX9_carryTo_30 : decode cX9_carryTo 30 = .ok (.goto (-30), 3) := by decide +kernel
theorem dX9_carryTo_33 : decode cX9_carryTo 33 = .ok (.return_, 1) := by decide +kernel
theorem dX9_isAct_0 : decode cX9_isAct 0 = .ok (.iload_n 0, 1) := by decide +kernel
theorem dX9_isAct_1 : decode cX9_isAct 1 = .ok (.bipush 7, 2) := by decide +kernel
theorem dX9_isAct_3 : decode cX9_isAct 3 = .ok (.iand, 1) := by decide +kernel
theorem dX9_isAct_4 : decode cX9_isAct 4 = .ok (.istore_n 1, 1) := by decide +kernel
theorem dX9_isAct_5 : decode cX9_isAct 5 = .ok (.iload_n 0, 1) := by decide +kernel
theorem dX9_isAct_6 : decode cX9_isAct 6 = .ok (.iconst 3, 1) := by decide +kernel
theorem dX9_isAct_7 : decode cX9_isAct 7 = .ok (.ishr, 1) := by decide +kernel
theorem dX9_isAct_8 : decode cX9_isAct 8 = .ok (.istore_n 2, 1) := by decide +kernel
theorem dX9_isAct_9 : decode cX9_isAct 9 = .ok (.iload_n 1, 1) := by decide +kernel
theorem dX9_isAct_10 : decode cX9_isAct 10 = .ok (.ifCond .ne 25, 3) := by decide +kernel
theorem dX9_isAct_13 : decode cX9_isAct 13 = .ok (.iload_n 2, 1) := by decide +kernel
theorem dX9_isAct_14 : decode cX9_isAct 14 = .ok (.sipush (-1000), 3) := by decide +kernel
theorem dX9_isAct_17 : decode cX9_isAct 17 = .ok (.if_icmp .lt 14, 3) := by decide +kernel
theorem dX9_isAct_20 : decode cX9_isAct 20 = .ok (.iload_n 2, 1) := by decide +kernel
theorem dX9_isAct_21 : decode cX9_isAct 21 = .ok (.sipush 1000, 3) := by decide +kernel
theorem dX9_isAct_24 : decode cX9_isAct 24 = .ok (.if_icmp .gt 7, 3) := by decide +kernel
theorem dX9_isAct_27 : decode cX9_isAct 27 = .ok (.iconst 1, 1) := by decide +kernel
theorem dX9_isAct_28 : decode cX9_isAct 28 = .ok (.goto 22, 3) := by decide +kernel
theorem dX9_isAct_31 : decode cX9_isAct 31 = .ok (.iconst 0, 1) := by decide +kernel
theorem dX9_isAct_32 : decode cX9_isAct 32 = .ok (.goto 18, 3) := by decide +kernel
theorem dX9_isAct_35 : decode cX9_isAct 35 = .ok (.iload_n 1, 1) := by decide +kernel
theorem dX9_isAct_36 : decode cX9_isAct 36 = .ok (.bipush 6, 2) := by decide +kernel
theorem dX9_isAct_38 : decode cX9_isAct 38 = .ok (.if_icmp .ge 11, 3) := by decide +kernel
theorem dX9_isAct_41 : decode cX9_isAct 41 = .ok (.iload_n 2, 1) := by decide +kernel
theorem dX9_isAct_42 : decode cX9_isAct 42 = .ok (.ifCond .ne 7, 3) := by decide +kernel
theorem dX9_isAct_45 : decode cX9_isAct 45 = .ok (.iconst 1, 1) := by decide +kernel
theorem dX9_isAct_46 : decode cX9_isAct 46 = .ok (.goto 4, 3) := by decide +kernel
theorem dX9_isAct_49 : decode cX9_isAct 49 = .ok (.iconst 0, 1) := by decide +kernel
theorem dX9_isAct_50 : decode cX9_isAct 50 = .ok (.ireturn, 1) := by decide +kernel
theorem dX9_add_0 : decode cX9_add 0 = .ok (.aload_n 0, 1) := by decide +kernel
theorem dX9_add_1 : decode cX9_add 1 = .ok (.getfield 22, 3) := by decide +kernel
theorem dX9_add_4 : decode cX9_add 4 = .ok (.iload_n 1, 1) := by decide +kernel
theorem dX9_add_5 : decode cX9_add 5 = .ok (.iaload, 1) := by decide +kernel
theorem dX9_add_6 : decode cX9_add 6 = .ok (.istore_n 3, 1) := by decide +kernel
theorem dX9_add_7 : decode cX9_add 7 = .ok (.aload_n 0, 1) := by decide +kernel
theorem dX9_add_8 : decode cX9_add 8 = .ok (.getfield 19, 3) := by decide +kernel
theorem dX9_add_11 : decode cX9_add 11 = .ok (.bipush 60, 2) := by decide +kernel
theorem dX9_add_13 : decode cX9_add 13 = .ok (.iload_n 1, 1) := by decide +kernel
theorem dX9_add_14 : decode cX9_add 14 = .ok (.imul, 1) := by decide +kernel
theorem dX9_add_15 : decode cX9_add 15 = .ok (.iload_n 3, 1) := by decide +kernel
theorem dX9_add_16 : decode cX9_add 16 = .ok (.iadd, 1) := by decide +kernel
theorem dX9_add_17 : decode cX9_add 17 = .ok (.iload_n 2, 1) := by decide +kernel
theorem dX9_add_18 : decode cX9_add 18 = .ok (.iastore, 1) := by decide +kernel
theorem dX9_add_19 : decode cX9_add 19 = .ok (.aload_n 0, 1) := by decide +kernel
theorem dX9_add_20 : decode cX9_add 20 = .ok (.getfield 22, 3) := by decide +kernel
theorem dX9_add_23 : decode cX9_add 23 = .ok (.iload_n 1, 1) := by decide +kernel
theorem dX9_add_24 : decode cX9_add 24 = .ok (.dup2, 1) := by decide +kernel
theorem dX9_add_25 : decode cX9_add 25 = .ok (.iaload, 1) := by decide +kernel
theorem dX9_add_26 : decode cX9_add 26 = .ok (.iconst 1, 1) := by decide +kernel
theorem dX9_add_27 : decode cX9_add 27 = .ok (.iadd, 1) := by decide +kernel
theorem dX9_add_28 : decode cX9_add 28 = .ok (.iastore, 1) := by decide +kernel
theorem dX9_add_29 : decode cX9_add 29 = .ok (.aload_n 0, 1) := by decide +kernel
theorem dX9_add_30 : decode cX9_add 30 = .ok (.iload_n 1, 1) := by decide +kernel
theorem dX9_add_31 : decode cX9_add 31 = .ok (.aload_n 0, 1) := by decide +kernel
theorem dX9_add_32 : decode cX9_add 32 = .ok (.getfield 16, 3) := by decide +kernel
theorem dX9_add_35 : decode cX9_add 35 = .ok (.iload_n 1, 1) := by decide +kernel
theorem dX9_add_36 : decode cX9_add 36 = .ok (.iaload, 1) := by decide +kernel
theorem dX9_add_37 : decode cX9_add 37 = .ok (.iconst 2, 1) := by decide +kernel
theorem dX9_add_38 : decode cX9_add 38 = .ok (.aload_n 0, 1) := by decide +kernel
theorem dX9_add_39 : decode cX9_add 39 = .ok (.getfield 13, 3) := by decide +kernel
theorem dX9_add_42 : decode cX9_add 42 = .ok (.iload_n 1, 1) := by decide +kernel
theorem dX9_add_43 : decode cX9_add 43 = .ok (.iaload, 1) := by decide +kernel
theorem dX9_add_44 : decode cX9_add 44 = .ok (.iload_n 3, 1) := by decide +kernel
theorem dX9_add_45 : decode cX9_add 45 = .ok (.iconst 1, 1) := by decide +kernel
theorem dX9_add_46 : decode cX9_add 46 = .ok (.iload_n 2, 1) := by decide +kernel
theorem dX9_add_47 : decode cX9_add 47 = .ok (.invokevirtual 126, 3) := by decide +kernel
theorem dX9_add_50 : decode cX9_add 50 = .ok (.aload_n 0, 1) := by decide +kernel
theorem dX9_add_51 : decode cX9_add 51 = .ok (.iload_n 1, 1) := by decide +kernel
theorem dX9_add_52 : decode cX9_add 52 = .ok (.invokevirtual 129, 3) := by decide +kernel
theorem dX9_add_55 : decode cX9_add 55 = .ok (.return_, 1) := by decide +kernel
theorem dX9_look_0 : decode cX9_look 0 = .ok (.aload_n 0, 1) := by decide +kernel
theorem dX9_look_1 : decode cX9_look 1 = .ok (.getfield 46, 3) := by decide +kernel
theorem dX9_look_4 : decode cX9_look 4 = .ok (.bipush 7, 2) := by decide +kernel
theorem dX9_look_6 : decode cX9_look 6 = .ok (.iload_n 1, 1) := by decide +kernel
theorem dX9_look_7 : decode cX9_look 7 = .ok (.imul, 1) := by decide +kernel
theorem dX9_look_8 : decode cX9_look 8 = .ok (.iload_n 1, 1) := by decide +kernel
theorem dX9_look_9 : decode cX9_look 9 = .ok (.iadd, 1) := by decide +kernel
theorem dX9_look_10 : decode cX9_look 10 = .ok (.aload_n 0, 1) := by decide +kernel
theorem dX9_look_11 : decode cX9_look 11 = .ok (.getfield 22, 3) := by decide +kernel
theorem dX9_look_14 : decode cX9_look 14 = .ok (.iload_n 1, 1) := by decide +kernel
theorem dX9_look_15 : decode cX9_look 15 = .ok (.iaload, 1) := by decide +kernel
theorem dX9_look_16 : decode cX9_look 16 = .ok (.iastore, 1) := by decide +kernel
theorem dX9_look_17 : decode cX9_look 17 = .ok (.iconst 0, 1) := by decide +kernel
theorem dX9_look_18 : decode cX9_look 18 = .ok (.istore_n 2, 1) := by decide +kernel
theorem dX9_look_19 : decode cX9_look 19 = .ok (.aload_n 0, 1) := by decide +kernel
theorem dX9_look_20 : decode cX9_look 20 = .ok (.getfield 25, 3) := by decide +kernel
theorem dX9_look_23 : decode cX9_look 23 = .ok (.iload_n 1, 1) := by decide +kernel
theorem dX9_look_24 : decode cX9_look 24 = .ok (.iaload, 1) := by decide +kernel
theorem dX9_look_25 : decode cX9_look 25 = .ok (.iconst 1, 1) := by decide +kernel
theorem dX9_look_26 : decode cX9_look 26 = .ok (.iadd, 1) := by decide +kernel
theorem dX9_look_27 : decode cX9_look 27 = .ok (.istore_n 3, 1) := by decide +kernel
theorem dX9_look_28 : decode cX9_look 28 = .ok (.iload_n 3, 1) := by decide +kernel
theorem dX9_look_29 : decode cX9_look 29 = .ok (.aload_n 0, 1) := by decide +kernel
theorem dX9_look_30 : decode cX9_look 30 = .ok (.getfield 22, 3) := by decide +kernel
theorem dX9_look_33 : decode cX9_look 33 = .ok (.iload_n 1, 1) := by decide +kernel
theorem dX9_look_34 : decode cX9_look 34 = .ok (.iaload, 1) := by decide +kernel
theorem dX9_look_35 : decode cX9_look 35 = .ok (.if_icmp .gt 83, 3) := by decide +kernel
theorem dX9_look_38 : decode cX9_look 38 = .ok (.iconst 0, 1) := by decide +kernel
theorem dX9_look_39 : decode cX9_look 39 = .ok (.istore 4, 2) := by decide +kernel
theorem dX9_look_41 : decode cX9_look 41 = .ok (.iconst 0, 1) := by decide +kernel
theorem dX9_look_42 : decode cX9_look 42 = .ok (.istore 5, 2) := by decide +kernel
theorem dX9_look_44 : decode cX9_look 44 = .ok (.iload 5, 2) := by decide +kernel
theorem dX9_look_46 : decode cX9_look 46 = .ok (.aload_n 0, 1) := by decide +kernel
theorem dX9_look_47 : decode cX9_look 47 = .ok (.getfield 95, 3) := by decide +kernel
theorem dX9_look_50 : decode cX9_look 50 = .ok (.if_icmp .ge 49, 3) := by decide +kernel
theorem dX9_look_53 : decode cX9_look 53 = .ok (.iload 4, 2) := by decide +kernel
theorem dX9_look_55 : decode cX9_look 55 = .ok (.aload_n 0, 1) := by decide +kernel
theorem dX9_look_56 : decode cX9_look 56 = .ok (.getfield 16, 3) := by decide +kernel
theorem dX9_look_59 : decode cX9_look 59 = .ok (.iload_n 1, 1) := by decide +kernel
theorem dX9_look_60 : decode cX9_look 60 = .ok (.iaload, 1) := by decide +kernel
theorem dX9_look_61 : decode cX9_look 61 = .ok (.iload 5, 2) := by decide +kernel
theorem dX9_look_63 : decode cX9_look 63 = .ok (.invokestatic 99, 3) := by decide +kernel
theorem dX9_look_66 : decode cX9_look 66 = .ok (.ifCond .eq 23, 3) := by decide +kernel
theorem dX9_look_69 : decode cX9_look 69 = .ok (.aload_n 0, 1) := by decide +kernel
theorem dX9_look_70 : decode cX9_look 70 = .ok (.getfield 46, 3) := by decide +kernel
theorem dX9_look_73 : decode cX9_look 73 = .ok (.bipush 7, 2) := by decide +kernel
theorem dX9_look_75 : decode cX9_look 75 = .ok (.iload_n 1, 1) := by decide +kernel
theorem dX9_look_76 : decode cX9_look 76 = .ok (.imul, 1) := by decide +kernel
theorem dX9_look_77 : decode cX9_look 77 = .ok (.iload 5, 2) := by decide +kernel
theorem dX9_look_79 : decode cX9_look 79 = .ok (.iadd, 1) := by decide +kernel
theorem dX9_look_80 : decode cX9_look 80 = .ok (.iaload, 1) := by decide +kernel
theorem dX9_look_81 : decode cX9_look 81 = .ok (.iload_n 3, 1) := by decide +kernel
theorem dX9_look_82 : decode cX9_look 82 = .ok (.if_icmp .lt 7, 3) := by decide +kernel
theorem dX9_look_85 : decode cX9_look 85 = .ok (.iconst 1, 1) := by decide +kernel
theorem dX9_look_86 : decode cX9_look 86 = .ok (.goto 4, 3) := by decide +kernel
theorem dX9_look_89 : decode cX9_look 89 = .ok (.iconst 0, 1) := by decide +kernel
theorem dX9_look_90 : decode cX9_look 90 = .ok (.iadd, 1) := by decide +kernel
theorem dX9_look_91 : decode cX9_look 91 = .ok (.istore 4, 2) := by decide +kernel
theorem dX9_look_93 : decode cX9_look 93 = .ok (.iinc 5 1, 3) := by decide +kernel
theorem dX9_look_96 : decode cX9_look 96 = .ok (.goto (-52), 3) := by decide +kernel
theorem dX9_look_99 : decode cX9_look 99 = .ok (.iconst 2, 1) := by decide +kernel
theorem dX9_look_100 : decode cX9_look 100 = .ok (.iload 4, 2) := by decide +kernel
theorem dX9_look_102 : decode cX9_look 102 = .ok (.imul, 1) := by decide +kernel
theorem dX9_look_103 : decode cX9_look 103 = .ok (.aload_n 0, 1) := by decide +kernel
theorem dX9_look_104 : decode cX9_look 104 = .ok (.getfield 95, 3) := by decide +kernel
theorem dX9_look_107 : decode cX9_look 107 = .ok (.if_icmp .le 5, 3) := by decide +kernel
theorem dX9_look_110 : decode cX9_look 110 = .ok (.iload_n 3, 1) := by decide +kernel
theorem dX9_look_111 : decode cX9_look 111 = .ok (.istore_n 2, 1) := by decide +kernel
theorem dX9_look_112 : decode cX9_look 112 = .ok (.iinc 3 1, 3) := by decide +kernel
theorem dX9_look_115 : decode cX9_look 115 = .ok (.goto (-87), 3) := by decide +kernel
theorem dX9_look_118 : decode cX9_look 118 = .ok (.iload_n 2, 1) := by decide +kernel
theorem dX9_look_119 : decode cX9_look 119 = .ok (.aload_n 0, 1) := by decide +kernel
theorem dX9_look_120 : decode cX9_look 120 = .ok (.getfield 25, 3) := by decide +kernel
theorem dX9_look_123 : decode cX9_look 123 = .ok (.iload_n 1, 1) := by decide +kernel
theorem dX9_look_124 : decode cX9_look 124 = .ok (.iaload, 1) := by decide +kernel
theorem dX9_look_125 : decode cX9_look 125 = .ok (.if_icmp .gt 4, 3) := by decide +kernel
theorem dX9_look_128 : decode cX9_look 128 = .ok (.return_, 1) := by decide +kernel
theorem dX9_look_129 : decode cX9_look 129 = .ok (.aload_n 0, 1) := by decide +kernel
theorem dX9_look_130 : decode cX9_look 130 = .ok (.iload_n 1, 1) := by decide +kernel
theorem dX9_look_131 : decode cX9_look 131 = .ok (.iload_n 2, 1) := by decide +kernel
theorem dX9_look_132 : decode cX9_look 132 = .ok (.invokevirtual 132, 3) := by decide +kernel
theorem dX9_look_135 : decode cX9_look 135 = .ok (.aload_n 0, 1) := by decide +kernel
theorem dX9_look_136 : decode cX9_look 136 = .ok (.iload_n 1, 1) := by decide +kernel
theorem dX9_look_137 : decode cX9_look 137 = .ok (.aload_n 0, 1) := by decide +kernel
theorem dX9_look_138 : decode cX9_look 138 = .ok (.getfield 16, 3) := by decide +kernel
theorem dX9_look_141 : decode cX9_look 141 = .ok (.iload_n 1, 1) := by decide +kernel
theorem dX9_look_142 : decode cX9_look 142 = .ok (.iaload, 1) := by decide +kernel
theorem dX9_look_143 : decode cX9_look 143 = .ok (.iconst 4, 1) := by decide +kernel
theorem dX9_look_144 : decode cX9_look 144 = .ok (.aload_n 0, 1) := by decide +kernel
theorem dX9_look_145 : decode cX9_look 145 = .ok (.getfield 13, 3) := by decide +kernel
theorem dX9_look_148 : decode cX9_look 148 = .ok (.iload_n 1, 1) := by decide +kernel
theorem dX9_look_149 : decode cX9_look 149 = .ok (.iaload, 1) := by decide +kernel
theorem dX9_look_150 : decode cX9_look 150 = .ok (.iload_n 2, 1) := by decide +kernel
theorem dX9_look_151 : decode cX9_look 151 = .ok (.iconst 0, 1) := by decide +kernel
theorem dX9_look_152 : decode cX9_look 152 = .ok (.iconst 0, 1) := by decide +kernel
theorem dX9_look_153 : decode cX9_look 153 = .ok (.invokevirtual 126, 3) := by decide +kernel
theorem dX9_look_156 : decode cX9_look 156 = .ok (.return_, 1) := by decide +kernel
theorem dX9_submit_0 : decode cX9_submit 0 = .ok (.aload_n 0, 1) := by decide +kernel
theorem dX9_submit_1 : decode cX9_submit 1 = .ok (.iload_n 1, 1) := by decide +kernel
theorem dX9_submit_2 : decode cX9_submit 2 = .ok (.invokevirtual 135, 3) := by decide +kernel
theorem dX9_submit_5 : decode cX9_submit 5 = .ok (.ifCond .eq 10, 3) := by decide +kernel
theorem dX9_submit_8 : decode cX9_submit 8 = .ok (.iload_n 2, 1) := by decide +kernel
theorem dX9_submit_9 : decode cX9_submit 9 = .ok (.invokestatic 139, 3) := by decide +kernel
theorem dX9_submit_12 : decode cX9_submit 12 = .ok (.ifCond .ne 5, 3) := by decide +kernel
theorem dX9_submit_15 : decode cX9_submit 15 = .ok (.iconst (-1), 1) := by decide +kernel
theorem dX9_submit_16 : decode cX9_submit 16 = .ok (.ireturn, 1) := by decide +kernel
theorem dX9_submit_17 : decode cX9_submit 17 = .ok (.aload_n 0, 1) := by decide +kernel
theorem dX9_submit_18 : decode cX9_submit 18 = .ok (.getfield 7, 3) := by decide +kernel
theorem dX9_submit_21 : decode cX9_submit 21 = .ok (.iload_n 1, 1) := by decide +kernel
theorem dX9_submit_22 : decode cX9_submit 22 = .ok (.iaload, 1) := by decide +kernel
theorem dX9_submit_23 : decode cX9_submit 23 = .ok (.ifCond .eq 5, 3) := by decide +kernel
theorem dX9_submit_26 : decode cX9_submit 26 = .ok (.iconst 0, 1) := by decide +kernel
theorem dX9_submit_27 : decode cX9_submit 27 = .ok (.ireturn, 1) := by decide +kernel
theorem dX9_submit_28 : decode cX9_submit 28 = .ok (.aload_n 0, 1) := by decide +kernel
theorem dX9_submit_29 : decode cX9_submit 29 = .ok (.iload_n 1, 1) := by decide +kernel
theorem dX9_submit_30 : decode cX9_submit 30 = .ok (.invokevirtual 142, 3) := by decide +kernel
theorem dX9_submit_33 : decode cX9_submit 33 = .ok (.ifCond .eq 5, 3) := by decide +kernel
theorem dX9_submit_36 : decode cX9_submit 36 = .ok (.iconst 2, 1) := by decide +kernel
theorem dX9_submit_37 : decode cX9_submit 37 = .ok (.ireturn, 1) := by decide +kernel
theorem dX9_submit_38 : decode cX9_submit 38 = .ok (.aload_n 0, 1) := by decide +kernel
theorem dX9_submit_39 : decode cX9_submit 39 = .ok (.iload_n 1, 1) := by decide +kernel
theorem dX9_submit_40 : decode cX9_submit 40 = .ok (.invokevirtual 145, 3) := by decide +kernel
theorem dX9_submit_43 : decode cX9_submit 43 = .ok (.istore_n 3, 1) := by decide +kernel
theorem dX9_submit_44 : decode cX9_submit 44 = .ok (.iload_n 3, 1) := by decide +kernel
theorem dX9_submit_45 : decode cX9_submit 45 = .ok (.iload_n 1, 1) := by decide +kernel
theorem dX9_submit_46 : decode cX9_submit 46 = .ok (.if_icmp .eq 16, 3) := by decide +kernel
theorem dX9_submit_49 : decode cX9_submit 49 = .ok (.aload_n 0, 1) := by decide +kernel
theorem dX9_submit_50 : decode cX9_submit 50 = .ok (.iload_n 1, 1) := by decide +kernel
theorem dX9_submit_51 : decode cX9_submit 51 = .ok (.iload_n 3, 1) := by decide +kernel
theorem dX9_submit_52 : decode cX9_submit 52 = .ok (.iconst 1, 1) := by decide +kernel
theorem dX9_submit_53 : decode cX9_submit 53 = .ok (.iconst 0, 1) := by decide +kernel
theorem dX9_submit_54 : decode cX9_submit 54 = .ok (.iconst 0, 1) := by decide +kernel
theorem dX9_submit_55 : decode cX9_submit 55 = .ok (.iconst 1, 1) := by decide +kernel
theorem dX9_submit_56 : decode cX9_submit 56 = .ok (.iload_n 2, 1) := by decide +kernel
theorem dX9_submit_57 : decode cX9_submit 57 = .ok (.invokevirtual 111, 3) := by decide +kernel
theorem dX9_submit_60 : decode cX9_submit 60 = .ok (.iconst 1, 1) := by decide +kernel
theorem dX9_submit_61 : decode cX9_submit 61 = .ok (.ireturn, 1) := by decide +kernel
theorem dX9_submit_62 : decode cX9_submit 62 = .ok (.aload_n 0, 1) := by decide +kernel
theorem dX9_submit_63 : decode cX9_submit 63 = .ok (.getfield 22, 3) := by decide +kernel
theorem dX9_submit_66 : decode cX9_submit 66 = .ok (.iload_n 1, 1) := by decide +kernel
theorem dX9_submit_67 : decode cX9_submit 67 = .ok (.iaload, 1) := by decide +kernel
theorem dX9_submit_68 : decode cX9_submit 68 = .ok (.bipush 60, 2) := by decide +kernel
theorem dX9_submit_70 : decode cX9_submit 70 = .ok (.if_icmp .ne 5, 3) := by decide +kernel
theorem dX9_submit_73 : decode cX9_submit 73 = .ok (.iconst 3, 1) := by decide +kernel
theorem dX9_submit_74 : decode cX9_submit 74 = .ok (.ireturn, 1) := by decide +kernel
theorem dX9_submit_75 : decode cX9_submit 75 = .ok (.aload_n 0, 1) := by decide +kernel
theorem dX9_submit_76 : decode cX9_submit 76 = .ok (.iload_n 1, 1) := by decide +kernel
theorem dX9_submit_77 : decode cX9_submit 77 = .ok (.iload_n 2, 1) := by decide +kernel
theorem dX9_submit_78 : decode cX9_submit 78 = .ok (.invokevirtual 149, 3) := by decide +kernel
theorem dX9_submit_81 : decode cX9_submit 81 = .ok (.iconst 1, 1) := by decide +kernel
theorem dX9_submit_82 : decode cX9_submit 82 = .ok (.ireturn, 1) := by decide +kernel
theorem dX9_ask_0 : decode cX9_ask 0 = .ok (.aload_n 0, 1) := by decide +kernel
theorem dX9_ask_1 : decode cX9_ask 1 = .ok (.getfield 37, 3) := by decide +kernel
theorem dX9_ask_4 : decode cX9_ask 4 = .ok (.iload_n 1, 1) := by decide +kernel
theorem dX9_ask_5 : decode cX9_ask 5 = .ok (.iconst 1, 1) := by decide +kernel
theorem dX9_ask_6 : decode cX9_ask 6 = .ok (.iastore, 1) := by decide +kernel
theorem dX9_ask_7 : decode cX9_ask 7 = .ok (.aload_n 0, 1) := by decide +kernel
theorem dX9_ask_8 : decode cX9_ask 8 = .ok (.getfield 16, 3) := by decide +kernel
theorem dX9_ask_11 : decode cX9_ask 11 = .ok (.iload_n 1, 1) := by decide +kernel
theorem dX9_ask_12 : decode cX9_ask 12 = .ok (.iaload, 1) := by decide +kernel
theorem dX9_ask_13 : decode cX9_ask 13 = .ok (.aload_n 0, 1) := by decide +kernel
theorem dX9_ask_14 : decode cX9_ask 14 = .ok (.getfield 34, 3) := by decide +kernel
theorem dX9_ask_17 : decode cX9_ask 17 = .ok (.iload_n 1, 1) := by decide +kernel
theorem dX9_ask_18 : decode cX9_ask 18 = .ok (.iaload, 1) := by decide +kernel
theorem dX9_ask_19 : decode cX9_ask 19 = .ok (.iconst (-1), 1) := by decide +kernel
theorem dX9_ask_20 : decode cX9_ask 20 = .ok (.ixor, 1) := by decide +kernel
theorem dX9_ask_21 : decode cX9_ask 21 = .ok (.iand, 1) := by decide +kernel
theorem dX9_ask_22 : decode cX9_ask 22 = .ok (.iconst 1, 1) := by decide +kernel
theorem dX9_ask_23 : decode cX9_ask 23 = .ok (.iload_n 1, 1) := by decide +kernel
theorem dX9_ask_24 : decode cX9_ask 24 = .ok (.iconst 1, 1) := by decide +kernel
theorem dX9_ask_25 : decode cX9_ask 25 = .ok (.iadd, 1) := by decide +kernel
theorem dX9_ask_26 : decode cX9_ask 26 = .ok (.ishl, 1) := by decide +kernel
theorem dX9_ask_27 : decode cX9_ask 27 = .ok (.iconst 1, 1) := by decide +kernel
theorem dX9_ask_28 : decode cX9_ask 28 = .ok (.isub, 1) := by decide +kernel
theorem dX9_ask_29 : decode cX9_ask 29 = .ok (.iconst (-1), 1) := by decide +kernel
theorem dX9_ask_30 : decode cX9_ask 30 = .ok (.ixor, 1) := by decide +kernel
theorem dX9_ask_31 : decode cX9_ask 31 = .ok (.iand, 1) := by decide +kernel
theorem dX9_ask_32 : decode cX9_ask 32 = .ok (.istore_n 2, 1) := by decide +kernel
theorem dX9_ask_33 : decode cX9_ask 33 = .ok (.iload_n 2, 1) := by decide +kernel
theorem dX9_ask_34 : decode cX9_ask 34 = .ok (.ifCond .ne 11, 3) := by decide +kernel
theorem dX9_ask_37 : decode cX9_ask 37 = .ok (.aload_n 0, 1) := by decide +kernel
theorem dX9_ask_38 : decode cX9_ask 38 = .ok (.iload_n 1, 1) := by decide +kernel
theorem dX9_ask_39 : decode cX9_ask 39 = .ok (.invokevirtual 152, 3) := by decide +kernel
theorem dX9_ask_42 : decode cX9_ask 42 = .ok (.goto 14, 3) := by decide +kernel
theorem dX9_ask_45 : decode cX9_ask 45 = .ok (.aload_n 0, 1) := by decide +kernel
theorem dX9_ask_46 : decode cX9_ask 46 = .ok (.iload_n 1, 1) := by decide +kernel
theorem dX9_ask_47 : decode cX9_ask 47 = .ok (.iload_n 2, 1) := by decide +kernel
theorem dX9_ask_48 : decode cX9_ask 48 = .ok (.iconst 5, 1) := by decide +kernel
theorem dX9_ask_49 : decode cX9_ask 49 = .ok (.iconst 0, 1) := by decide +kernel
theorem dX9_ask_50 : decode cX9_ask 50 = .ok (.iconst 0, 1) := by decide +kernel
theorem dX9_ask_51 : decode cX9_ask 51 = .ok (.iconst 0, 1) := by decide +kernel
theorem dX9_ask_52 : decode cX9_ask 52 = .ok (.iconst 0, 1) := by decide +kernel
theorem dX9_ask_53 : decode cX9_ask 53 = .ok (.invokevirtual 126, 3) := by decide +kernel
theorem dX9_ask_56 : decode cX9_ask 56 = .ok (.return_, 1) := by decide +kernel
theorem dX9_flush_0 : decode cX9_flush 0 = .ok (.aload_n 0, 1) := by decide +kernel
theorem dX9_flush_1 : decode cX9_flush 1 = .ok (.getfield 16, 3) := by decide +kernel
theorem dX9_flush_4 : decode cX9_flush 4 = .ok (.iload_n 1, 1) := by decide +kernel
theorem dX9_flush_5 : decode cX9_flush 5 = .ok (.iaload, 1) := by decide +kernel
theorem dX9_flush_6 : decode cX9_flush 6 = .ok (.aload_n 0, 1) := by decide +kernel
theorem dX9_flush_7 : decode cX9_flush 7 = .ok (.getfield 34, 3) := by decide +kernel
theorem dX9_flush_10 : decode cX9_flush 10 = .ok (.iload_n 1, 1) := by decide +kernel
theorem dX9_flush_11 : decode cX9_flush 11 = .ok (.iaload, 1) := by decide +kernel
theorem dX9_flush_12 : decode cX9_flush 12 = .ok (.iconst (-1), 1) := by decide +kernel
theorem dX9_flush_13 : decode cX9_flush 13 = .ok (.ixor, 1) := by decide +kernel
theorem dX9_flush_14 : decode cX9_flush 14 = .ok (.iand, 1) := by decide +kernel
theorem dX9_flush_15 : decode cX9_flush 15 = .ok (.istore_n 2, 1) := by decide +kernel
theorem dX9_flush_16 : decode cX9_flush 16 = .ok (.iconst 2, 1) := by decide +kernel
theorem dX9_flush_17 : decode cX9_flush 17 = .ok (.aload_n 0, 1) := by decide +kernel
theorem dX9_flush_18 : decode cX9_flush 18 = .ok (.iload_n 2, 1) := by decide +kernel
theorem dX9_flush_19 : decode cX9_flush 19 = .ok (.invokevirtual 155, 3) := by decide +kernel
theorem dX9_flush_22 : decode cX9_flush 22 = .ok (.imul, 1) := by decide +kernel
theorem dX9_flush_23 : decode cX9_flush 23 = .ok (.aload_n 0, 1) := by decide +kernel
theorem dX9_flush_24 : decode cX9_flush 24 = .ok (.getfield 95, 3) := by decide +kernel
theorem dX9_flush_27 : decode cX9_flush 27 = .ok (.if_icmp .gt 11, 3) := by decide +kernel
theorem dX9_flush_30 : decode cX9_flush 30 = .ok (.aload_n 0, 1) := by decide +kernel
theorem dX9_flush_31 : decode cX9_flush 31 = .ok (.getfield 37, 3) := by decide +kernel
theorem dX9_flush_34 : decode cX9_flush 34 = .ok (.iload_n 1, 1) := by decide +kernel
theorem dX9_flush_35 : decode cX9_flush 35 = .ok (.iconst 0, 1) := by decide +kernel
theorem dX9_flush_36 : decode cX9_flush 36 = .ok (.iastore, 1) := by decide +kernel
theorem dX9_flush_37 : decode cX9_flush 37 = .ok (.return_, 1) := by decide +kernel
theorem dX9_flush_38 : decode cX9_flush 38 = .ok (.aload_n 0, 1) := by decide +kernel
theorem dX9_flush_39 : decode cX9_flush 39 = .ok (.getfield 31, 3) := by decide +kernel
theorem dX9_flush_42 : decode cX9_flush 42 = .ok (.iload_n 1, 1) := by decide +kernel
theorem dX9_flush_43 : decode cX9_flush 43 = .ok (.iaload, 1) := by decide +kernel
theorem dX9_flush_44 : decode cX9_flush 44 = .ok (.iconst 1, 1) := by decide +kernel
theorem dX9_flush_45 : decode cX9_flush 45 = .ok (.iadd, 1) := by decide +kernel
theorem dX9_flush_46 : decode cX9_flush 46 = .ok (.istore_n 3, 1) := by decide +kernel
theorem dX9_flush_47 : decode cX9_flush 47 = .ok (.iload_n 3, 1) := by decide +kernel
theorem dX9_flush_48 : decode cX9_flush 48 = .ok (.aload_n 0, 1) := by decide +kernel
theorem dX9_flush_49 : decode cX9_flush 49 = .ok (.getfield 95, 3) := by decide +kernel
theorem dX9_flush_52 : decode cX9_flush 52 = .ok (.irem, 1) := by decide +kernel
theorem dX9_flush_53 : decode cX9_flush 53 = .ok (.iload_n 1, 1) := by decide +kernel
theorem dX9_flush_54 : decode cX9_flush 54 = .ok (.if_icmp .eq 9, 3) := by decide +kernel
theorem dX9_flush_57 : decode cX9_flush 57 = .ok (.iinc 3 1, 3) := by decide +kernel
theorem dX9_flush_60 : decode cX9_flush 60 = .ok (.goto (-13), 3) := by decide +kernel
theorem dX9_flush_63 : decode cX9_flush 63 = .ok (.aload_n 0, 1) := by decide +kernel
theorem dX9_flush_64 : decode cX9_flush 64 = .ok (.getfield 31, 3) := by decide +kernel
theorem dX9_flush_67 : decode cX9_flush 67 = .ok (.iload_n 1, 1) := by decide +kernel
theorem dX9_flush_68 : decode cX9_flush 68 = .ok (.iload_n 3, 1) := by decide +kernel
theorem dX9_flush_69 : decode cX9_flush 69 = .ok (.iastore, 1) := by decide +kernel
theorem dX9_flush_70 : decode cX9_flush 70 = .ok (.aload_n 0, 1) := by decide +kernel
theorem dX9_flush_71 : decode cX9_flush 71 = .ok (.getfield 37, 3) := by decide +kernel
theorem dX9_flush_74 : decode cX9_flush 74 = .ok (.iload_n 1, 1) := by decide +kernel
theorem dX9_flush_75 : decode cX9_flush 75 = .ok (.iconst 3, 1) := by decide +kernel
theorem dX9_flush_76 : decode cX9_flush 76 = .ok (.iastore, 1) := by decide +kernel
theorem dX9_flush_77 : decode cX9_flush 77 = .ok (.aload_n 0, 1) := by decide +kernel
theorem dX9_flush_78 : decode cX9_flush 78 = .ok (.getfield 40, 3) := by decide +kernel
theorem dX9_flush_81 : decode cX9_flush 81 = .ok (.iload_n 1, 1) := by decide +kernel
theorem dX9_flush_82 : decode cX9_flush 82 = .ok (.iload_n 2, 1) := by decide +kernel
theorem dX9_flush_83 : decode cX9_flush 83 = .ok (.iastore, 1) := by decide +kernel
theorem dX9_flush_84 : decode cX9_flush 84 = .ok (.aload_n 0, 1) := by decide +kernel
theorem dX9_flush_85 : decode cX9_flush 85 = .ok (.getfield 49, 3) := by decide +kernel
theorem dX9_flush_88 : decode cX9_flush 88 = .ok (.iload_n 1, 1) := by decide +kernel
theorem dX9_flush_89 : decode cX9_flush 89 = .ok (.iconst 1, 1) := by decide +kernel
theorem dX9_flush_90 : decode cX9_flush 90 = .ok (.iload_n 1, 1) := by decide +kernel
theorem dX9_flush_91 : decode cX9_flush 91 = .ok (.ishl, 1) := by decide +kernel
theorem dX9_flush_92 : decode cX9_flush 92 = .ok (.iastore, 1) := by decide +kernel
theorem dX9_flush_93 : decode cX9_flush 93 = .ok (.aload_n 0, 1) := by decide +kernel
theorem dX9_flush_94 : decode cX9_flush 94 = .ok (.dup, 1) := by decide +kernel
theorem dX9_flush_95 : decode cX9_flush 95 = .ok (.getfield 158, 3) := by decide +kernel
theorem dX9_flush_98 : decode cX9_flush 98 = .ok (.iconst 1, 1) := by decide +kernel
theorem dX9_flush_99 : decode cX9_flush 99 = .ok (.iadd, 1) := by decide +kernel
theorem dX9_flush_100 : decode cX9_flush 100 = .ok (.putfield 158, 3) := by decide +kernel
theorem dX9_flush_103 : decode cX9_flush 103 = .ok (.aload_n 0, 1) := by decide +kernel
theorem dX9_flush_104 : decode cX9_flush 104 = .ok (.iload_n 1, 1) := by decide +kernel
theorem dX9_flush_105 : decode cX9_flush 105 = .ok (.iload_n 2, 1) := by decide +kernel
theorem dX9_flush_106 : decode cX9_flush 106 = .ok (.bipush 7, 2) := by decide +kernel
theorem dX9_flush_108 : decode cX9_flush 108 = .ok (.iload_n 3, 1) := by decide +kernel
theorem dX9_flush_109 : decode cX9_flush 109 = .ok (.iload_n 2, 1) := by decide +kernel
theorem dX9_flush_110 : decode cX9_flush 110 = .ok (.iconst 0, 1) := by decide +kernel
theorem dX9_flush_111 : decode cX9_flush 111 = .ok (.iconst 0, 1) := by decide +kernel
theorem dX9_flush_112 : decode cX9_flush 112 = .ok (.invokevirtual 126, 3) := by decide +kernel
theorem dX9_flush_115 : decode cX9_flush 115 = .ok (.aload_n 0, 1) := by decide +kernel
theorem dX9_flush_116 : decode cX9_flush 116 = .ok (.getfield 49, 3) := by decide +kernel
theorem dX9_flush_119 : decode cX9_flush 119 = .ok (.iload_n 1, 1) := by decide +kernel
theorem dX9_flush_120 : decode cX9_flush 120 = .ok (.iaload, 1) := by decide +kernel
theorem dX9_flush_121 : decode cX9_flush 121 = .ok (.iload_n 2, 1) := by decide +kernel
theorem dX9_flush_122 : decode cX9_flush 122 = .ok (.if_icmp .ne 8, 3) := by decide +kernel
theorem dX9_flush_125 : decode cX9_flush 125 = .ok (.aload_n 0, 1) := by decide +kernel
theorem dX9_flush_126 : decode cX9_flush 126 = .ok (.iload_n 1, 1) := by decide +kernel
theorem dX9_flush_127 : decode cX9_flush 127 = .ok (.invokevirtual 161, 3) := by decide +kernel
theorem dX9_flush_130 : decode cX9_flush 130 = .ok (.return_, 1) := by decide +kernel
theorem dX9_choose_0 : decode cX9_choose 0 = .ok (.iconst (-1), 1) := by decide +kernel
theorem dX9_choose_1 : decode cX9_choose 1 = .ok (.istore_n 2, 1) := by decide +kernel
theorem dX9_choose_2 : decode cX9_choose 2 = .ok (.iconst 0, 1) := by decide +kernel
theorem dX9_choose_3 : decode cX9_choose 3 = .ok (.istore_n 3, 1) := by decide +kernel
theorem dX9_choose_4 : decode cX9_choose 4 = .ok (.iload_n 3, 1) := by decide +kernel
theorem dX9_choose_5 : decode cX9_choose 5 = .ok (.aload_n 0, 1) := by decide +kernel
theorem dX9_choose_6 : decode cX9_choose 6 = .ok (.getfield 95, 3) := by decide +kernel
theorem dX9_choose_9 : decode cX9_choose 9 = .ok (.if_icmp .ge 188, 3) := by decide +kernel
theorem dX9_choose_12 : decode cX9_choose 12 = .ok (.aload_n 0, 1) := by decide +kernel
theorem dX9_choose_13 : decode cX9_choose 13 = .ok (.getfield 40, 3) := by decide +kernel
theorem dX9_choose_16 : decode cX9_choose 16 = .ok (.iload_n 1, 1) := by decide +kernel
theorem dX9_choose_17 : decode cX9_choose 17 = .ok (.iaload, 1) := by decide +kernel
theorem dX9_choose_18 : decode cX9_choose 18 = .ok (.iload_n 3, 1) := by decide +kernel
theorem dX9_choose_19 : decode cX9_choose 19 = .ok (.invokestatic 99, 3) := by decide +kernel
theorem dX9_choose_22 : decode cX9_choose 22 = .ok (.ifCond .ne 6, 3) := by decide +kernel
theorem dX9_choose_25 : decode cX9_choose 25 = .ok (.goto 166, 3) := by decide +kernel
theorem dX9_choose_28 : decode cX9_choose 28 = .ok (.iload_n 3, 1) := by decide +kernel
theorem dX9_choose_29 : decode cX9_choose 29 = .ok (.iload_n 1, 1) := by decide +kernel
theorem dX9_choose_30 : decode cX9_choose 30 = .ok (.if_icmp .ne 87, 3) := by decide +kernel
theorem dX9_choose_33 : decode cX9_choose 33 = .ok (.aload_n 0, 1) := by decide +kernel
theorem dX9_choose_34 : decode cX9_choose 34 = .ok (.getfield 52, 3) := by decide +kernel
theorem dX9_choose_37 : decode cX9_choose 37 = .ok (.bipush 7, 2) := by decide +kernel
theorem dX9_choose_39 : decode cX9_choose 39 = .ok (.iload_n 1, 1) := by decide +kernel
theorem dX9_choose_40 : decode cX9_choose 40 = .ok (.imul, 1) := by decide +kernel
theorem dX9_choose_41 : decode cX9_choose 41 = .ok (.iload_n 3, 1) := by decide +kernel
theorem dX9_choose_42 : decode cX9_choose 42 = .ok (.iadd, 1) := by decide +kernel
theorem dX9_choose_43 : decode cX9_choose 43 = .ok (.aload_n 0, 1) := by decide +kernel
theorem dX9_choose_44 : decode cX9_choose 44 = .ok (.getfield 28, 3) := by decide +kernel
theorem dX9_choose_47 : decode cX9_choose 47 = .ok (.iload_n 1, 1) := by decide +kernel
theorem dX9_choose_48 : decode cX9_choose 48 = .ok (.iaload, 1) := by decide +kernel
theorem dX9_choose_49 : decode cX9_choose 49 = .ok (.iastore, 1) := by decide +kernel
theorem dX9_choose_50 : decode cX9_choose 50 = .ok (.aload_n 0, 1) := by decide +kernel
theorem dX9_choose_51 : decode cX9_choose 51 = .ok (.getfield 55, 3) := by decide +kernel
theorem dX9_choose_54 : decode cX9_choose 54 = .ok (.bipush 7, 2) := by decide +kernel
theorem dX9_choose_56 : decode cX9_choose 56 = .ok (.iload_n 1, 1) := by decide +kernel
theorem dX9_choose_57 : decode cX9_choose 57 = .ok (.imul, 1) := by decide +kernel
theorem dX9_choose_58 : decode cX9_choose 58 = .ok (.iload_n 3, 1) := by decide +kernel
theorem dX9_choose_59 : decode cX9_choose 59 = .ok (.iadd, 1) := by decide +kernel
theorem dX9_choose_60 : decode cX9_choose 60 = .ok (.aload_n 0, 1) := by decide +kernel
theorem dX9_choose_61 : decode cX9_choose 61 = .ok (.getfield 22, 3) := by decide +kernel
theorem dX9_choose_64 : decode cX9_choose 64 = .ok (.iload_n 1, 1) := by decide +kernel
theorem dX9_choose_65 : decode cX9_choose 65 = .ok (.iaload, 1) := by decide +kernel
theorem dX9_choose_66 : decode cX9_choose 66 = .ok (.iastore, 1) := by decide +kernel
theorem dX9_choose_67 : decode cX9_choose 67 = .ok (.iconst 0, 1) := by decide +kernel
theorem dX9_choose_68 : decode cX9_choose 68 = .ok (.istore 4, 2) := by decide +kernel
theorem dX9_choose_70 : decode cX9_choose 70 = .ok (.iload 4, 2) := by decide +kernel
theorem dX9_choose_72 : decode cX9_choose 72 = .ok (.aload_n 0, 1) := by decide +kernel
theorem dX9_choose_73 : decode cX9_choose 73 = .ok (.getfield 22, 3) := by decide +kernel
theorem dX9_choose_76 : decode cX9_choose 76 = .ok (.iload_n 1, 1) := by decide +kernel
theorem dX9_choose_77 : decode cX9_choose 77 = .ok (.iaload, 1) := by decide +kernel
theorem dX9_choose_78 : decode cX9_choose 78 = .ok (.if_icmp .ge 39, 3) := by decide +kernel
theorem dX9_choose_81 : decode cX9_choose 81 = .ok (.aload_n 0, 1) := by decide +kernel
theorem dX9_choose_82 : decode cX9_choose 82 = .ok (.getfield 58, 3) := by decide +kernel
theorem dX9_choose_85 : decode cX9_choose 85 = .ok (.sipush 420, 3) := by decide +kernel
theorem dX9_choose_88 : decode cX9_choose 88 = .ok (.iload_n 1, 1) := by decide +kernel
theorem dX9_choose_89 : decode cX9_choose 89 = .ok (.imul, 1) := by decide +kernel
theorem dX9_choose_90 : decode cX9_choose 90 = .ok (.bipush 60, 2) := by decide +kernel
theorem dX9_choose_92 : decode cX9_choose 92 = .ok (.iload_n 3, 1) := by decide +kernel
theorem dX9_choose_93 : decode cX9_choose 93 = .ok (.imul, 1) := by decide +kernel
theorem dX9_choose_94 : decode cX9_choose 94 = .ok (.iadd, 1) := by decide +kernel
theorem dX9_choose_95 : decode cX9_choose 95 = .ok (.iload 4, 2) := by decide +kernel
theorem dX9_choose_97 : decode cX9_choose 97 = .ok (.iadd, 1) := by decide +kernel
theorem dX9_choose_98 : decode cX9_choose 98 = .ok (.aload_n 0, 1) := by decide +kernel
theorem dX9_choose_99 : decode cX9_choose 99 = .ok (.getfield 19, 3) := by decide +kernel
theorem dX9_choose_102 : decode cX9_choose 102 = .ok (.bipush 60, 2) := by decide +kernel
theorem dX9_choose_104 : decode cX9_choose 104 = .ok (.iload_n 1, 1) := by decide +kernel
theorem dX9_choose_105 : decode cX9_choose 105 = .ok (.imul, 1) := by decide +kernel
theorem dX9_choose_106 : decode cX9_choose 106 = .ok (.iload 4, 2) := by decide +kernel
theorem dX9_choose_108 : decode cX9_choose 108 = .ok (.iadd, 1) := by decide +kernel
theorem dX9_choose_109 : decode cX9_choose 109 = .ok (.iaload, 1) := by decide +kernel
theorem dX9_choose_110 : decode cX9_choose 110 = .ok (.iastore, 1) := by decide +kernel
theorem dX9_choose_111 : decode cX9_choose 111 = .ok (.iinc 4 1, 3) := by decide +kernel
theorem dX9_choose_114 : decode cX9_choose 114 = .ok (.goto (-44), 3) := by decide +kernel
theorem dX9_choose_117 : decode cX9_choose 117 = .ok (.bipush 7, 2) := by decide +kernel
theorem dX9_choose_119 : decode cX9_choose 119 = .ok (.iload_n 1, 1) := by decide +kernel
theorem dX9_choose_120 : decode cX9_choose 120 = .ok (.imul, 1) := by decide +kernel
theorem dX9_choose_121 : decode cX9_choose 121 = .ok (.iload_n 3, 1) := by decide +kernel
theorem dX9_choose_122 : decode cX9_choose 122 = .ok (.iadd, 1) := by decide +kernel
theorem dX9_choose_123 : decode cX9_choose 123 = .ok (.istore 4, 2) := by decide +kernel
theorem dX9_choose_125 : decode cX9_choose 125 = .ok (.bipush 7, 2) := by decide +kernel
theorem dX9_choose_127 : decode cX9_choose 127 = .ok (.iload_n 1, 1) := by decide +kernel
theorem dX9_choose_128 : decode cX9_choose 128 = .ok (.imul, 1) := by decide +kernel
theorem dX9_choose_129 : decode cX9_choose 129 = .ok (.iload_n 2, 1) := by decide +kernel
theorem dX9_choose_130 : decode cX9_choose 130 = .ok (.iadd, 1) := by decide +kernel
theorem dX9_choose_131 : decode cX9_choose 131 = .ok (.istore 5, 2) := by decide +kernel
theorem dX9_choose_133 : decode cX9_choose 133 = .ok (.iload_n 2, 1) := by decide +kernel
theorem dX9_choose_134 : decode cX9_choose 134 = .ok (.iconst (-1), 1) := by decide +kernel
theorem dX9_choose_135 : decode cX9_choose 135 = .ok (.if_icmp .eq 54, 3) := by decide +kernel
theorem dX9_choose_138 : decode cX9_choose 138 = .ok (.aload_n 0, 1) := by decide +kernel
theorem dX9_choose_139 : decode cX9_choose 139 = .ok (.getfield 52, 3) := by decide +kernel
theorem dX9_choose_142 : decode cX9_choose 142 = .ok (.iload 4, 2) := by decide +kernel
theorem dX9_choose_144 : decode cX9_choose 144 = .ok (.iaload, 1) := by decide +kernel
theorem dX9_choose_145 : decode cX9_choose 145 = .ok (.aload_n 0, 1) := by decide +kernel
theorem dX9_choose_146 : decode cX9_choose 146 = .ok (.getfield 52, 3) := by decide +kernel
theorem dX9_choose_149 : decode cX9_choose 149 = .ok (.iload 5, 2) := by decide +kernel
theorem dX9_choose_151 : decode cX9_choose 151 = .ok (.iaload, 1) := by decide +kernel
theorem dX9_choose_152 : decode cX9_choose 152 = .ok (.if_icmp .gt 37, 3) := by decide +kernel
theorem dX9_choose_155 : decode cX9_choose 155 = .ok (.aload_n 0, 1) := by decide +kernel
theorem dX9_choose_156 : decode cX9_choose 156 = .ok (.getfield 52, 3) := by decide +kernel
theorem dX9_choose_159 : decode cX9_choose 159 = .ok (.iload 4, 2) := by decide +kernel
theorem dX9_choose_161 : decode cX9_choose 161 = .ok (.iaload, 1) := by decide +kernel
theorem dX9_choose_162 : decode cX9_choose 162 = .ok (.aload_n 0, 1) := by decide +kernel
theorem dX9_choose_163 : decode cX9_choose 163 = .ok (.getfield 52, 3) := by decide +kernel
theorem dX9_choose_166 : decode cX9_choose 166 = .ok (.iload 5, 2) := by decide +kernel
theorem dX9_choose_168 : decode cX9_choose 168 = .ok (.iaload, 1) := by decide +kernel
theorem dX9_choose_169 : decode cX9_choose 169 = .ok (.if_icmp .ne 22, 3) := by decide +kernel
theorem dX9_choose_172 : decode cX9_choose 172 = .ok (.aload_n 0, 1) := by decide +kernel
theorem dX9_choose_173 : decode cX9_choose 173 = .ok (.getfield 55, 3) := by decide +kernel
theorem dX9_choose_176 : decode cX9_choose 176 = .ok (.iload 4, 2) := by decide +kernel
theorem dX9_choose_178 : decode cX9_choose 178 = .ok (.iaload, 1) := by decide +kernel
theorem dX9_choose_179 : decode cX9_choose 179 = .ok (.aload_n 0, 1) := by decide +kernel
theorem dX9_choose_180 : decode cX9_choose 180 = .ok (.getfield 55, 3) := by decide +kernel
theorem dX9_choose_183 : decode cX9_choose 183 = .ok (.iload 5, 2) := by decide +kernel
theorem dX9_choose_185 : decode cX9_choose 185 = .ok (.iaload, 1) := by decide +kernel
theorem dX9_choose_186 : decode cX9_choose 186 = .ok (.if_icmp .le 5, 3) := by decide +kernel
theorem dX9_choose_189 : decode cX9_choose 189 = .ok (.iload_n 3, 1) := by decide +kernel
theorem dX9_choose_190 : decode cX9_choose 190 = .ok (.istore_n 2, 1) := by decide +kernel
theorem dX9_choose_191 : decode cX9_choose 191 = .ok (.iinc 3 1, 3) := by decide +kernel
theorem dX9_choose_194 : decode cX9_choose 194 = .ok (.goto (-190), 3) := by decide +kernel
theorem dX9_choose_197 : decode cX9_choose 197 = .ok (.aload_n 0, 1) := by decide +kernel
theorem dX9_choose_198 : decode cX9_choose 198 = .ok (.getfield 22, 3) := by decide +kernel
theorem dX9_choose_201 : decode cX9_choose 201 = .ok (.iload_n 1, 1) := by decide +kernel
theorem dX9_choose_202 : decode cX9_choose 202 = .ok (.aload_n 0, 1) := by decide +kernel
theorem dX9_choose_203 : decode cX9_choose 203 = .ok (.getfield 55, 3) := by decide +kernel
theorem dX9_choose_206 : decode cX9_choose 206 = .ok (.bipush 7, 2) := by decide +kernel
theorem dX9_choose_208 : decode cX9_choose 208 = .ok (.iload_n 1, 1) := by decide +kernel
theorem dX9_choose_209 : decode cX9_choose 209 = .ok (.imul, 1) := by decide +kernel
theorem dX9_choose_210 : decode cX9_choose 210 = .ok (.iload_n 2, 1) := by decide +kernel
theorem dX9_choose_211 : decode cX9_choose 211 = .ok (.iadd, 1) := by decide +kernel
theorem dX9_choose_212 : decode cX9_choose 212 = .ok (.iaload, 1) := by decide +kernel
theorem dX9_choose_213 : decode cX9_choose 213 = .ok (.iastore, 1) := by decide +kernel
theorem dX9_choose_214 : decode cX9_choose 214 = .ok (.iconst 0, 1) := by decide +kernel
theorem dX9_choose_215 : decode cX9_choose 215 = .ok (.istore_n 3, 1) := by decide +kernel
theorem dX9_choose_216 : decode cX9_choose 216 = .ok (.iload_n 3, 1) := by decide +kernel
theorem dX9_choose_217 : decode cX9_choose 217 = .ok (.aload_n 0, 1) := by decide +kernel
theorem dX9_choose_218 : decode cX9_choose 218 = .ok (.getfield 22, 3) := by decide +kernel
theorem dX9_choose_221 : decode cX9_choose 221 = .ok (.iload_n 1, 1) := by decide +kernel
theorem dX9_choose_222 : decode cX9_choose 222 = .ok (.iaload, 1) := by decide +kernel
theorem dX9_choose_223 : decode cX9_choose 223 = .ok (.if_icmp .ge 37, 3) := by decide +kernel
theorem dX9_choose_226 : decode cX9_choose 226 = .ok (.aload_n 0, 1) := by decide +kernel
theorem dX9_choose_227 : decode cX9_choose 227 = .ok (.getfield 19, 3) := by decide +kernel
theorem dX9_choose_230 : decode cX9_choose 230 = .ok (.bipush 60, 2) := by decide +kernel
theorem dX9_choose_232 : decode cX9_choose 232 = .ok (.iload_n 1, 1) := by decide +kernel
theorem dX9_choose_233 : decode cX9_choose 233 = .ok (.imul, 1) := by decide +kernel
theorem dX9_choose_234 : decode cX9_choose 234 = .ok (.iload_n 3, 1) := by decide +kernel
theorem dX9_choose_235 : decode cX9_choose 235 = .ok (.iadd, 1) := by decide +kernel
theorem dX9_choose_236 : decode cX9_choose 236 = .ok (.aload_n 0, 1) := by decide +kernel
theorem dX9_choose_237 : decode cX9_choose 237 = .ok (.getfield 58, 3) := by decide +kernel
theorem dX9_choose_240 : decode cX9_choose 240 = .ok (.sipush 420, 3) := by decide +kernel
theorem dX9_choose_243 : decode cX9_choose 243 = .ok (.iload_n 1, 1) := by decide +kernel
theorem dX9_choose_244 : decode cX9_choose 244 = .ok (.imul, 1) := by decide +kernel
theorem dX9_choose_245 : decode cX9_choose 245 = .ok (.bipush 60, 2) := by decide +kernel
theorem dX9_choose_247 : decode cX9_choose 247 = .ok (.iload_n 2, 1) := by decide +kernel
theorem dX9_choose_248 : decode cX9_choose 248 = .ok (.imul, 1) := by decide +kernel
theorem dX9_choose_249 : decode cX9_choose 249 = .ok (.iadd, 1) := by decide +kernel
theorem dX9_choose_250 : decode cX9_choose 250 = .ok (.iload_n 3, 1) := by decide +kernel
