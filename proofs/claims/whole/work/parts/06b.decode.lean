/-! DECODE ROWS -/
theorem dX5_in_0 : decode cX5_in 0 = .ok (.lload_n 0, 1) := by decide +kernel
theorem dX5_in_1 : decode cX5_in 1 = .ok (.lload_n 2, 1) := by decide +kernel
theorem dX5_in_2 : decode cX5_in 2 = .ok (.lcmp, 1) := by decide +kernel
theorem dX5_in_3 : decode cX5_in 3 = .ok (.ifCond .lt 14, 3) := by decide +kernel
theorem dX5_in_6 : decode cX5_in 6 = .ok (.lload_n 0, 1) := by decide +kernel
theorem dX5_in_7 : decode cX5_in 7 = .ok (.lload 4, 2) := by decide +kernel
theorem dX5_in_9 : decode cX5_in 9 = .ok (.lcmp, 1) := by decide +kernel
theorem dX5_in_10 : decode cX5_in 10 = .ok (.ifCond .gt 7, 3) := by decide +kernel
theorem dX5_in_13 : decode cX5_in 13 = .ok (.iconst 1, 1) := by decide +kernel
theorem dX5_in_14 : decode cX5_in 14 = .ok (.goto 4, 3) := by decide +kernel
theorem dX5_in_17 : decode cX5_in 17 = .ok (.iconst 0, 1) := by decide +kernel
theorem dX5_in_18 : decode cX5_in 18 = .ok (.ireturn, 1) := by decide +kernel
theorem dX5_changes_0 : decode cX5_changes 0 = .ok (.aload_n 0, 1) := by decide +kernel
theorem dX5_changes_1 : decode cX5_changes 1 = .ok (.getfield 31, 3) := by decide +kernel
theorem dX5_changes_4 : decode cX5_changes 4 = .ok (.bipush 6, 2) := by decide +kernel
theorem dX5_changes_6 : decode cX5_changes 6 = .ok (.if_icmp .ne 44, 3) := by decide +kernel
theorem dX5_changes_9 : decode cX5_changes 9 = .ok (.iconst 0, 1) := by decide +kernel
theorem dX5_changes_10 : decode cX5_changes 10 = .ok (.istore_n 1, 1) := by decide +kernel
theorem dX5_changes_11 : decode cX5_changes 11 = .ok (.iload_n 1, 1) := by decide +kernel
theorem dX5_changes_12 : decode cX5_changes 12 = .ok (.sipush 1125, 3) := by decide +kernel
theorem dX5_changes_15 : decode cX5_changes 15 = .ok (.if_icmp .ge 25, 3) := by decide +kernel
theorem dX5_changes_18 : decode cX5_changes 18 = .ok (.aload_n 0, 1) := by decide +kernel
theorem dX5_changes_19 : decode cX5_changes 19 = .ok (.getfield 16, 3) := by decide +kernel
theorem dX5_changes_22 : decode cX5_changes 22 = .ok (.iload_n 1, 1) := by decide +kernel
theorem dX5_changes_23 : decode cX5_changes 23 = .ok (.aload_n 0, 1) := by decide +kernel
theorem dX5_changes_24 : decode cX5_changes 24 = .ok (.getfield 16, 3) := by decide +kernel
theorem dX5_changes_27 : decode cX5_changes 27 = .ok (.iload_n 1, 1) := by decide +kernel
theorem dX5_changes_28 : decode cX5_changes 28 = .ok (.sipush 225, 3) := by decide +kernel
theorem dX5_changes_31 : decode cX5_changes 31 = .ok (.iadd, 1) := by decide +kernel
theorem dX5_changes_32 : decode cX5_changes 32 = .ok (.iaload, 1) := by decide +kernel
theorem dX5_changes_33 : decode cX5_changes 33 = .ok (.iastore, 1) := by decide +kernel
theorem dX5_changes_34 : decode cX5_changes 34 = .ok (.iinc 1 1, 3) := by decide +kernel
theorem dX5_changes_37 : decode cX5_changes 37 = .ok (.goto (-26), 3) := by decide +kernel
theorem dX5_changes_40 : decode cX5_changes 40 = .ok (.aload_n 0, 1) := by decide +kernel
theorem dX5_changes_41 : decode cX5_changes 41 = .ok (.dup, 1) := by decide +kernel
theorem dX5_changes_42 : decode cX5_changes 42 = .ok (.getfield 31, 3) := by decide +kernel
theorem dX5_changes_45 : decode cX5_changes 45 = .ok (.iconst 1, 1) := by decide +kernel
theorem dX5_changes_46 : decode cX5_changes 46 = .ok (.isub, 1) := by decide +kernel
theorem dX5_changes_47 : decode cX5_changes 47 = .ok (.putfield 31, 3) := by decide +kernel
theorem dX5_changes_50 : decode cX5_changes 50 = .ok (.iconst 0, 1) := by decide +kernel
theorem dX5_changes_51 : decode cX5_changes 51 = .ok (.istore_n 1, 1) := by decide +kernel
theorem dX5_changes_52 : decode cX5_changes 52 = .ok (.iload_n 1, 1) := by decide +kernel
theorem dX5_changes_53 : decode cX5_changes 53 = .ok (.sipush 225, 3) := by decide +kernel
theorem dX5_changes_56 : decode cX5_changes 56 = .ok (.if_icmp .ge 30, 3) := by decide +kernel
theorem dX5_changes_59 : decode cX5_changes 59 = .ok (.aload_n 0, 1) := by decide +kernel
theorem dX5_changes_60 : decode cX5_changes 60 = .ok (.getfield 16, 3) := by decide +kernel
theorem dX5_changes_63 : decode cX5_changes 63 = .ok (.sipush 225, 3) := by decide +kernel
theorem dX5_changes_66 : decode cX5_changes 66 = .ok (.aload_n 0, 1) := by decide +kernel
theorem dX5_changes_67 : decode cX5_changes 67 = .ok (.getfield 31, 3) := by decide +kernel
theorem dX5_changes_70 : decode cX5_changes 70 = .ok (.imul, 1) := by decide +kernel
theorem dX5_changes_71 : decode cX5_changes 71 = .ok (.iload_n 1, 1) := by decide +kernel
theorem dX5_changes_72 : decode cX5_changes 72 = .ok (.iadd, 1) := by decide +kernel
theorem dX5_changes_73 : decode cX5_changes 73 = .ok (.aload_n 0, 1) := by decide +kernel
theorem dX5_changes_74 : decode cX5_changes 74 = .ok (.getfield 7, 3) := by decide +kernel
theorem dX5_changes_77 : decode cX5_changes 77 = .ok (.iload_n 1, 1) := by decide +kernel
theorem dX5_changes_78 : decode cX5_changes 78 = .ok (.iaload, 1) := by decide +kernel
theorem dX5_changes_79 : decode cX5_changes 79 = .ok (.iastore, 1) := by decide +kernel
theorem dX5_changes_80 : decode cX5_changes 80 = .ok (.iinc 1 1, 3) := by decide +kernel
theorem dX5_changes_83 : decode cX5_changes 83 = .ok (.goto (-31), 3) := by decide +kernel
theorem dX5_changes_86 : decode cX5_changes 86 = .ok (.aload_n 0, 1) := by decide +kernel
theorem dX5_changes_87 : decode cX5_changes 87 = .ok (.dup, 1) := by decide +kernel
theorem dX5_changes_88 : decode cX5_changes 88 = .ok (.getfield 31, 3) := by decide +kernel
theorem dX5_changes_91 : decode cX5_changes 91 = .ok (.iconst 1, 1) := by decide +kernel
theorem dX5_changes_92 : decode cX5_changes 92 = .ok (.iadd, 1) := by decide +kernel
theorem dX5_changes_93 : decode cX5_changes 93 = .ok (.putfield 31, 3) := by decide +kernel
theorem dX5_changes_96 : decode cX5_changes 96 = .ok (.return_, 1) := by decide +kernel
theorem dX5_keeps_0 : decode cX5_keeps 0 = .ok (.iconst 0, 1) := by decide +kernel
theorem dX5_keeps_1 : decode cX5_keeps 1 = .ok (.istore_n 1, 1) := by decide +kernel
theorem dX5_keeps_2 : decode cX5_keeps 2 = .ok (.iload_n 1, 1) := by decide +kernel
theorem dX5_keeps_3 : decode cX5_keeps 3 = .ok (.sipush 225, 3) := by decide +kernel
theorem dX5_keeps_6 : decode cX5_keeps 6 = .ok (.if_icmp .ge 21, 3) := by decide +kernel
theorem dX5_keeps_9 : decode cX5_keeps 9 = .ok (.aload_n 0, 1) := by decide +kernel
theorem dX5_keeps_10 : decode cX5_keeps 10 = .ok (.getfield 13, 3) := by decide +kernel
theorem dX5_keeps_13 : decode cX5_keeps 13 = .ok (.iload_n 1, 1) := by decide +kernel
theorem dX5_keeps_14 : decode cX5_keeps 14 = .ok (.aload_n 0, 1) := by decide +kernel
theorem dX5_keeps_15 : decode cX5_keeps 15 = .ok (.getfield 7, 3) := by decide +kernel
theorem dX5_keeps_18 : decode cX5_keeps 18 = .ok (.iload_n 1, 1) := by decide +kernel
theorem dX5_keeps_19 : decode cX5_keeps 19 = .ok (.iaload, 1) := by decide +kernel
theorem dX5_keeps_20 : decode cX5_keeps 20 = .ok (.iastore, 1) := by decide +kernel
theorem dX5_keeps_21 : decode cX5_keeps 21 = .ok (.iinc 1 1, 3) := by decide +kernel
theorem dX5_keeps_24 : decode cX5_keeps 24 = .ok (.goto (-22), 3) := by decide +kernel
theorem dX5_keeps_27 : decode cX5_keeps 27 = .ok (.return_, 1) := by decide +kernel
theorem dX5_comesBack_0 : decode cX5_comesBack 0 = .ok (.iconst 0, 1) := by decide +kernel
theorem dX5_comesBack_1 : decode cX5_comesBack 1 = .ok (.istore_n 1, 1) := by decide +kernel
theorem dX5_comesBack_2 : decode cX5_comesBack 2 = .ok (.iload_n 1, 1) := by decide +kernel
theorem dX5_comesBack_3 : decode cX5_comesBack 3 = .ok (.sipush 225, 3) := by decide +kernel
theorem dX5_comesBack_6 : decode cX5_comesBack 6 = .ok (.if_icmp .ge 21, 3) := by decide +kernel
theorem dX5_comesBack_9 : decode cX5_comesBack 9 = .ok (.aload_n 0, 1) := by decide +kernel
theorem dX5_comesBack_10 : decode cX5_comesBack 10 = .ok (.getfield 7, 3) := by decide +kernel
theorem dX5_comesBack_13 : decode cX5_comesBack 13 = .ok (.iload_n 1, 1) := by decide +kernel
theorem dX5_comesBack_14 : decode cX5_comesBack 14 = .ok (.aload_n 0, 1) := by decide +kernel
theorem dX5_comesBack_15 : decode cX5_comesBack 15 = .ok (.getfield 13, 3) := by decide +kernel
theorem dX5_comesBack_18 : decode cX5_comesBack 18 = .ok (.iload_n 1, 1) := by decide +kernel
theorem dX5_comesBack_19 : decode cX5_comesBack 19 = .ok (.iaload, 1) := by decide +kernel
theorem dX5_comesBack_20 : decode cX5_comesBack 20 = .ok (.iastore, 1) := by decide +kernel
theorem dX5_comesBack_21 : decode cX5_comesBack 21 = .ok (.iinc 1 1, 3) := by decide +kernel
theorem dX5_comesBack_24 : decode cX5_comesBack 24 = .ok (.goto (-22), 3) := by decide +kernel
theorem dX5_comesBack_27 : decode cX5_comesBack 27 = .ok (.return_, 1) := by decide +kernel
theorem dX5_isPerson_0 : decode cX5_isPerson 0 = .ok (.iload_n 1, 1) := by decide +kernel
theorem dX5_isPerson_1 : decode cX5_isPerson 1 = .ok (.i2l, 1) := by decide +kernel
theorem dX5_isPerson_2 : decode cX5_isPerson 2 = .ok (.lconst 0, 1) := by decide +kernel
theorem dX5_isPerson_3 : decode cX5_isPerson 3 = .ok (.aload_n 0, 1) := by decide +kernel
theorem dX5_isPerson_4 : decode cX5_isPerson 4 = .ok (.getfield 7, 3) := by decide +kernel
theorem dX5_isPerson_7 : decode cX5_isPerson 7 = .ok (.iconst 4, 1) := by decide +kernel
theorem dX5_isPerson_8 : decode cX5_isPerson 8 = .ok (.iaload, 1) := by decide +kernel
theorem dX5_isPerson_9 : decode cX5_isPerson 9 = .ok (.i2l, 1) := by decide +kernel
theorem dX5_isPerson_10 : decode cX5_isPerson 10 = .ok (.lconst 1, 1) := by decide +kernel
theorem dX5_isPerson_11 : decode cX5_isPerson 11 = .ok (.lsub, 1) := by decide +kernel
theorem dX5_isPerson_12 : decode cX5_isPerson 12 = .ok (.invokestatic 35, 3) := by decide +kernel
theorem dX5_isPerson_15 : decode cX5_isPerson 15 = .ok (.ireturn, 1) := by decide +kernel
theorem dX5_get_0 : decode cX5_get 0 = .ok (.aload_n 0, 1) := by decide +kernel
theorem dX5_get_1 : decode cX5_get 1 = .ok (.getfield 7, 3) := by decide +kernel
theorem dX5_get_4 : decode cX5_get 4 = .ok (.bipush 9, 2) := by decide +kernel
theorem dX5_get_6 : decode cX5_get 6 = .ok (.bipush 9, 2) := by decide +kernel
theorem dX5_get_8 : decode cX5_get 8 = .ok (.iload_n 1, 1) := by decide +kernel
theorem dX5_get_9 : decode cX5_get 9 = .ok (.imul, 1) := by decide +kernel
theorem dX5_get_10 : decode cX5_get 10 = .ok (.iadd, 1) := by decide +kernel
theorem dX5_get_11 : decode cX5_get 11 = .ok (.iload_n 2, 1) := by decide +kernel
theorem dX5_get_12 : decode cX5_get 12 = .ok (.iadd, 1) := by decide +kernel
theorem dX5_get_13 : decode cX5_get 13 = .ok (.iaload, 1) := by decide +kernel
theorem dX5_get_14 : decode cX5_get 14 = .ok (.ireturn, 1) := by decide +kernel
theorem dX5_lays_0 : decode cX5_lays 0 = .ok (.aload_n 0, 1) := by decide +kernel
theorem dX5_lays_1 : decode cX5_lays 1 = .ok (.getfield 7, 3) := by decide +kernel
theorem dX5_lays_4 : decode cX5_lays 4 = .ok (.bipush 9, 2) := by decide +kernel
theorem dX5_lays_6 : decode cX5_lays 6 = .ok (.bipush 9, 2) := by decide +kernel
theorem dX5_lays_8 : decode cX5_lays 8 = .ok (.iload_n 1, 1) := by decide +kernel
theorem dX5_lays_9 : decode cX5_lays 9 = .ok (.imul, 1) := by decide +kernel
theorem dX5_lays_10 : decode cX5_lays 10 = .ok (.iadd, 1) := by decide +kernel
theorem dX5_lays_11 : decode cX5_lays 11 = .ok (.iload_n 2, 1) := by decide +kernel
theorem dX5_lays_12 : decode cX5_lays 12 = .ok (.iadd, 1) := by decide +kernel
theorem dX5_lays_13 : decode cX5_lays 13 = .ok (.iload_n 3, 1) := by decide +kernel
theorem dX5_lays_14 : decode cX5_lays 14 = .ok (.iastore, 1) := by decide +kernel
theorem dX5_lays_15 : decode cX5_lays 15 = .ok (.return_, 1) := by decide +kernel
theorem dX5_adds_0 : decode cX5_adds 0 = .ok (.aload_n 0, 1) := by decide +kernel
theorem dX5_adds_1 : decode cX5_adds 1 = .ok (.getfield 7, 3) := by decide +kernel
theorem dX5_adds_4 : decode cX5_adds 4 = .ok (.bipush 9, 2) := by decide +kernel
theorem dX5_adds_6 : decode cX5_adds 6 = .ok (.bipush 9, 2) := by decide +kernel
theorem dX5_adds_8 : decode cX5_adds 8 = .ok (.iload_n 1, 1) := by decide +kernel
theorem dX5_adds_9 : decode cX5_adds 9 = .ok (.imul, 1) := by decide +kernel
theorem dX5_adds_10 : decode cX5_adds 10 = .ok (.iadd, 1) := by decide +kernel
theorem dX5_adds_11 : decode cX5_adds 11 = .ok (.iload_n 2, 1) := by decide +kernel
theorem dX5_adds_12 : decode cX5_adds 12 = .ok (.iadd, 1) := by decide +kernel
theorem dX5_adds_13 : decode cX5_adds 13 = .ok (.dup2, 1) := by decide +kernel
theorem dX5_adds_14 : decode cX5_adds 14 = .ok (.iaload, 1) := by decide +kernel
theorem dX5_adds_15 : decode cX5_adds 15 = .ok (.iload_n 3, 1) := by decide +kernel
theorem dX5_adds_16 : decode cX5_adds 16 = .ok (.iadd, 1) := by decide +kernel
theorem dX5_adds_17 : decode cX5_adds 17 = .ok (.iastore, 1) := by decide +kernel
theorem dX5_adds_18 : decode cX5_adds 18 = .ok (.return_, 1) := by decide +kernel
theorem dX5_isStep_0 : decode cX5_isStep 0 = .ok (.iload_n 0, 1) := by decide +kernel
theorem dX5_isStep_1 : decode cX5_isStep 1 = .ok (.i2l, 1) := by decide +kernel
theorem dX5_isStep_2 : decode cX5_isStep 2 = .ok (.lconst 0, 1) := by decide +kernel
theorem dX5_isStep_3 : decode cX5_isStep 3 = .ok (.ldc2_w 39, 3) := by decide +kernel
theorem dX5_isStep_6 : decode cX5_isStep 6 = .ok (.invokestatic 35, 3) := by decide +kernel
theorem dX5_isStep_9 : decode cX5_isStep 9 = .ok (.ireturn, 1) := by decide +kernel
theorem dX5_isLanding_0 : decode cX5_isLanding 0 = .ok (.aload_n 0, 1) := by decide +kernel
theorem dX5_isLanding_1 : decode cX5_isLanding 1 = .ok (.getfield 7, 3) := by decide +kernel
theorem dX5_isLanding_4 : decode cX5_isLanding 4 = .ok (.iconst 5, 1) := by decide +kernel
theorem dX5_isLanding_5 : decode cX5_isLanding 5 = .ok (.iaload, 1) := by decide +kernel
theorem dX5_isLanding_6 : decode cX5_isLanding 6 = .ok (.iload_n 1, 1) := by decide +kernel
theorem dX5_isLanding_7 : decode cX5_isLanding 7 = .ok (.ishr, 1) := by decide +kernel
theorem dX5_isLanding_8 : decode cX5_isLanding 8 = .ok (.iconst 1, 1) := by decide +kernel
theorem dX5_isLanding_9 : decode cX5_isLanding 9 = .ok (.iand, 1) := by decide +kernel
theorem dX5_isLanding_10 : decode cX5_isLanding 10 = .ok (.iconst 1, 1) := by decide +kernel
theorem dX5_isLanding_11 : decode cX5_isLanding 11 = .ok (.if_icmp .ne 7, 3) := by decide +kernel
theorem dX5_isLanding_14 : decode cX5_isLanding 14 = .ok (.iconst 1, 1) := by decide +kernel
theorem dX5_isLanding_15 : decode cX5_isLanding 15 = .ok (.goto 4, 3) := by decide +kernel
theorem dX5_isLanding_18 : decode cX5_isLanding 18 = .ok (.iconst 0, 1) := by decide +kernel
theorem dX5_isLanding_19 : decode cX5_isLanding 19 = .ok (.ireturn, 1) := by decide +kernel
theorem dX5_isAt_0 : decode cX5_isAt 0 = .ok (.aload_n 0, 1) := by decide +kernel
theorem dX5_isAt_1 : decode cX5_isAt 1 = .ok (.iload_n 1, 1) := by decide +kernel
theorem dX5_isAt_2 : decode cX5_isAt 2 = .ok (.iconst 2, 1) := by decide +kernel
theorem dX5_isAt_3 : decode cX5_isAt 3 = .ok (.invokevirtual 41, 3) := by decide +kernel
theorem dX5_isAt_6 : decode cX5_isAt 6 = .ok (.iconst 1, 1) := by decide +kernel
theorem dX5_isAt_7 : decode cX5_isAt 7 = .ok (.if_icmp .ne 17, 3) := by decide +kernel
theorem dX5_isAt_10 : decode cX5_isAt 10 = .ok (.aload_n 0, 1) := by decide +kernel
theorem dX5_isAt_11 : decode cX5_isAt 11 = .ok (.iload_n 1, 1) := by decide +kernel
theorem dX5_isAt_12 : decode cX5_isAt 12 = .ok (.iconst 3, 1) := by decide +kernel
theorem dX5_isAt_13 : decode cX5_isAt 13 = .ok (.invokevirtual 41, 3) := by decide +kernel
theorem dX5_isAt_16 : decode cX5_isAt 16 = .ok (.iload_n 2, 1) := by decide +kernel
theorem dX5_isAt_17 : decode cX5_isAt 17 = .ok (.if_icmp .ne 7, 3) := by decide +kernel
theorem dX5_isAt_20 : decode cX5_isAt 20 = .ok (.iconst 1, 1) := by decide +kernel
theorem dX5_isAt_21 : decode cX5_isAt 21 = .ok (.goto 4, 3) := by decide +kernel
theorem dX5_isAt_24 : decode cX5_isAt 24 = .ok (.iconst 0, 1) := by decide +kernel
theorem dX5_isAt_25 : decode cX5_isAt 25 = .ok (.ireturn, 1) := by decide +kernel
theorem dX5_peopleAt_0 : decode cX5_peopleAt 0 = .ok (.iconst 0, 1) := by decide +kernel
theorem dX5_peopleAt_1 : decode cX5_peopleAt 1 = .ok (.istore_n 2, 1) := by decide +kernel
theorem dX5_peopleAt_2 : decode cX5_peopleAt 2 = .ok (.iconst 0, 1) := by decide +kernel
theorem dX5_peopleAt_3 : decode cX5_peopleAt 3 = .ok (.istore_n 3, 1) := by decide +kernel
theorem dX5_peopleAt_4 : decode cX5_peopleAt 4 = .ok (.iload_n 3, 1) := by decide +kernel
theorem dX5_peopleAt_5 : decode cX5_peopleAt 5 = .ok (.aload_n 0, 1) := by decide +kernel
theorem dX5_peopleAt_6 : decode cX5_peopleAt 6 = .ok (.getfield 7, 3) := by decide +kernel
theorem dX5_peopleAt_9 : decode cX5_peopleAt 9 = .ok (.iconst 4, 1) := by decide +kernel
theorem dX5_peopleAt_10 : decode cX5_peopleAt 10 = .ok (.iaload, 1) := by decide +kernel
theorem dX5_peopleAt_11 : decode cX5_peopleAt 11 = .ok (.if_icmp .ge 26, 3) := by decide +kernel
theorem dX5_peopleAt_14 : decode cX5_peopleAt 14 = .ok (.iload_n 2, 1) := by decide +kernel
theorem dX5_peopleAt_15 : decode cX5_peopleAt 15 = .ok (.aload_n 0, 1) := by decide +kernel
theorem dX5_peopleAt_16 : decode cX5_peopleAt 16 = .ok (.iload_n 3, 1) := by decide +kernel
theorem dX5_peopleAt_17 : decode cX5_peopleAt 17 = .ok (.iload_n 1, 1) := by decide +kernel
theorem dX5_peopleAt_18 : decode cX5_peopleAt 18 = .ok (.invokevirtual 45, 3) := by decide +kernel
theorem dX5_peopleAt_21 : decode cX5_peopleAt 21 = .ok (.ifCond .eq 7, 3) := by decide +kernel
theorem dX5_peopleAt_24 : decode cX5_peopleAt 24 = .ok (.iconst 1, 1) := by decide +kernel
theorem dX5_peopleAt_25 : decode cX5_peopleAt 25 = .ok (.goto 4, 3) := by decide +kernel
theorem dX5_peopleAt_28 : decode cX5_peopleAt 28 = .ok (.iconst 0, 1) := by decide +kernel
theorem dX5_peopleAt_29 : decode cX5_peopleAt 29 = .ok (.iadd, 1) := by decide +kernel
theorem dX5_peopleAt_30 : decode cX5_peopleAt 30 = .ok (.istore_n 2, 1) := by decide +kernel
theorem dX5_peopleAt_31 : decode cX5_peopleAt 31 = .ok (.iinc 3 1, 3) := by decide +kernel
theorem dX5_peopleAt_34 : decode cX5_peopleAt 34 = .ok (.goto (-30), 3) := by decide +kernel
theorem dX5_peopleAt_37 : decode cX5_peopleAt 37 = .ok (.iload_n 2, 1) := by decide +kernel
theorem dX5_peopleAt_38 : decode cX5_peopleAt 38 = .ok (.ireturn, 1) := by decide +kernel
theorem dX5_roomAt_0 : decode cX5_roomAt 0 = .ok (.aload_n 0, 1) := by decide +kernel
theorem dX5_roomAt_1 : decode cX5_roomAt 1 = .ok (.iload_n 1, 1) := by decide +kernel
theorem dX5_roomAt_2 : decode cX5_roomAt 2 = .ok (.invokevirtual 49, 3) := by decide +kernel
theorem dX5_roomAt_5 : decode cX5_roomAt 5 = .ok (.ifCond .eq 12, 3) := by decide +kernel
theorem dX5_roomAt_8 : decode cX5_roomAt 8 = .ok (.aload_n 0, 1) := by decide +kernel
theorem dX5_roomAt_9 : decode cX5_roomAt 9 = .ok (.getfield 7, 3) := by decide +kernel
theorem dX5_roomAt_12 : decode cX5_roomAt 12 = .ok (.iconst 0, 1) := by decide +kernel
theorem dX5_roomAt_13 : decode cX5_roomAt 13 = .ok (.iaload, 1) := by decide +kernel
theorem dX5_roomAt_14 : decode cX5_roomAt 14 = .ok (.goto 4, 3) := by decide +kernel
theorem dX5_roomAt_17 : decode cX5_roomAt 17 = .ok (.iconst 1, 1) := by decide +kernel
theorem dX5_roomAt_18 : decode cX5_roomAt 18 = .ok (.aload_n 0, 1) := by decide +kernel
theorem dX5_roomAt_19 : decode cX5_roomAt 19 = .ok (.iload_n 1, 1) := by decide +kernel
theorem dX5_roomAt_20 : decode cX5_roomAt 20 = .ok (.invokevirtual 53, 3) := by decide +kernel
theorem dX5_roomAt_23 : decode cX5_roomAt 23 = .ok (.isub, 1) := by decide +kernel
theorem dX5_roomAt_24 : decode cX5_roomAt 24 = .ok (.ireturn, 1) := by decide +kernel
theorem dX5_way_0 : decode cX5_way 0 = .ok (.aload_n 0, 1) := by decide +kernel
theorem dX5_way_1 : decode cX5_way 1 = .ok (.iload_n 1, 1) := by decide +kernel
theorem dX5_way_2 : decode cX5_way 2 = .ok (.iconst 1, 1) := by decide +kernel
theorem dX5_way_3 : decode cX5_way 3 = .ok (.invokevirtual 41, 3) := by decide +kernel
theorem dX5_way_6 : decode cX5_way 6 = .ok (.iconst 1, 1) := by decide +kernel
theorem dX5_way_7 : decode cX5_way 7 = .ok (.if_icmp .ne 7, 3) := by decide +kernel
theorem dX5_way_10 : decode cX5_way 10 = .ok (.iconst 1, 1) := by decide +kernel
theorem dX5_way_11 : decode cX5_way 11 = .ok (.goto 4, 3) := by decide +kernel
theorem dX5_way_14 : decode cX5_way 14 = .ok (.iconst (-1), 1) := by decide +kernel
theorem dX5_way_15 : decode cX5_way 15 = .ok (.ireturn, 1) := by decide +kernel
theorem dX5_nextOf_0 : decode cX5_nextOf 0 = .ok (.aload_n 0, 1) := by decide +kernel
theorem dX5_nextOf_1 : decode cX5_nextOf 1 = .ok (.iload_n 1, 1) := by decide +kernel
theorem dX5_nextOf_2 : decode cX5_nextOf 2 = .ok (.iconst 2, 1) := by decide +kernel
theorem dX5_nextOf_3 : decode cX5_nextOf 3 = .ok (.invokevirtual 41, 3) := by decide +kernel
theorem dX5_nextOf_6 : decode cX5_nextOf 6 = .ok (.ifCond .ne 22, 3) := by decide +kernel
theorem dX5_nextOf_9 : decode cX5_nextOf 9 = .ok (.aload_n 0, 1) := by decide +kernel
theorem dX5_nextOf_10 : decode cX5_nextOf 10 = .ok (.iload_n 1, 1) := by decide +kernel
theorem dX5_nextOf_11 : decode cX5_nextOf 11 = .ok (.iconst 1, 1) := by decide +kernel
theorem dX5_nextOf_12 : decode cX5_nextOf 12 = .ok (.invokevirtual 41, 3) := by decide +kernel
theorem dX5_nextOf_15 : decode cX5_nextOf 15 = .ok (.iconst 1, 1) := by decide +kernel
theorem dX5_nextOf_16 : decode cX5_nextOf 16 = .ok (.if_icmp .ne 7, 3) := by decide +kernel
theorem dX5_nextOf_19 : decode cX5_nextOf 19 = .ok (.iconst 0, 1) := by decide +kernel
theorem dX5_nextOf_20 : decode cX5_nextOf 20 = .ok (.goto 20, 3) := by decide +kernel
theorem dX5_nextOf_23 : decode cX5_nextOf 23 = .ok (.bipush 11, 2) := by decide +kernel
theorem dX5_nextOf_25 : decode cX5_nextOf 25 = .ok (.goto 15, 3) := by decide +kernel
theorem dX5_nextOf_28 : decode cX5_nextOf 28 = .ok (.aload_n 0, 1) := by decide +kernel
theorem dX5_nextOf_29 : decode cX5_nextOf 29 = .ok (.iload_n 1, 1) := by decide +kernel
theorem dX5_nextOf_30 : decode cX5_nextOf 30 = .ok (.iconst 3, 1) := by decide +kernel
theorem dX5_nextOf_31 : decode cX5_nextOf 31 = .ok (.invokevirtual 41, 3) := by decide +kernel
theorem dX5_nextOf_34 : decode cX5_nextOf 34 = .ok (.aload_n 0, 1) := by decide +kernel
theorem dX5_nextOf_35 : decode cX5_nextOf 35 = .ok (.iload_n 1, 1) := by decide +kernel
theorem dX5_nextOf_36 : decode cX5_nextOf 36 = .ok (.invokevirtual 57, 3) := by decide +kernel
theorem dX5_nextOf_39 : decode cX5_nextOf 39 = .ok (.iadd, 1) := by decide +kernel
theorem dX5_nextOf_40 : decode cX5_nextOf 40 = .ok (.ireturn, 1) := by decide +kernel
theorem dX5_yields_0 : decode cX5_yields 0 = .ok (.aload_n 0, 1) := by decide +kernel
theorem dX5_yields_1 : decode cX5_yields 1 = .ok (.iload_n 1, 1) := by decide +kernel
theorem dX5_yields_2 : decode cX5_yields 2 = .ok (.iconst 0, 1) := by decide +kernel
theorem dX5_yields_3 : decode cX5_yields 3 = .ok (.invokevirtual 41, 3) := by decide +kernel
theorem dX5_yields_6 : decode cX5_yields 6 = .ok (.aload_n 0, 1) := by decide +kernel
theorem dX5_yields_7 : decode cX5_yields 7 = .ok (.iload_n 2, 1) := by decide +kernel
theorem dX5_yields_8 : decode cX5_yields 8 = .ok (.iconst 0, 1) := by decide +kernel
theorem dX5_yields_9 : decode cX5_yields 9 = .ok (.invokevirtual 41, 3) := by decide +kernel
theorem dX5_yields_12 : decode cX5_yields 12 = .ok (.if_icmp .lt 27, 3) := by decide +kernel
theorem dX5_yields_15 : decode cX5_yields 15 = .ok (.aload_n 0, 1) := by decide +kernel
theorem dX5_yields_16 : decode cX5_yields 16 = .ok (.iload_n 1, 1) := by decide +kernel
theorem dX5_yields_17 : decode cX5_yields 17 = .ok (.iconst 0, 1) := by decide +kernel
theorem dX5_yields_18 : decode cX5_yields 18 = .ok (.invokevirtual 41, 3) := by decide +kernel
theorem dX5_yields_21 : decode cX5_yields 21 = .ok (.aload_n 0, 1) := by decide +kernel
theorem dX5_yields_22 : decode cX5_yields 22 = .ok (.iload_n 2, 1) := by decide +kernel
theorem dX5_yields_23 : decode cX5_yields 23 = .ok (.iconst 0, 1) := by decide +kernel
theorem dX5_yields_24 : decode cX5_yields 24 = .ok (.invokevirtual 41, 3) := by decide +kernel
theorem dX5_yields_27 : decode cX5_yields 27 = .ok (.if_icmp .ne 16, 3) := by decide +kernel
theorem dX5_yields_30 : decode cX5_yields 30 = .ok (.aload_n 0, 1) := by decide +kernel
theorem dX5_yields_31 : decode cX5_yields 31 = .ok (.iload_n 2, 1) := by decide +kernel
theorem dX5_yields_32 : decode cX5_yields 32 = .ok (.iconst 1, 1) := by decide +kernel
theorem dX5_yields_33 : decode cX5_yields 33 = .ok (.invokevirtual 41, 3) := by decide +kernel
theorem dX5_yields_36 : decode cX5_yields 36 = .ok (.ifCond .ne 7, 3) := by decide +kernel
theorem dX5_yields_39 : decode cX5_yields 39 = .ok (.iconst 1, 1) := by decide +kernel
theorem dX5_yields_40 : decode cX5_yields 40 = .ok (.goto 4, 3) := by decide +kernel
theorem dX5_yields_43 : decode cX5_yields 43 = .ok (.iconst 0, 1) := by decide +kernel
theorem dX5_yields_44 : decode cX5_yields 44 = .ok (.istore_n 3, 1) := by decide +kernel
theorem dX5_yields_45 : decode cX5_yields 45 = .ok (.aload_n 0, 1) := by decide +kernel
theorem dX5_yields_46 : decode cX5_yields 46 = .ok (.iload_n 1, 1) := by decide +kernel
theorem dX5_yields_47 : decode cX5_yields 47 = .ok (.iconst 1, 1) := by decide +kernel
theorem dX5_yields_48 : decode cX5_yields 48 = .ok (.invokevirtual 41, 3) := by decide +kernel
theorem dX5_yields_51 : decode cX5_yields 51 = .ok (.aload_n 0, 1) := by decide +kernel
theorem dX5_yields_52 : decode cX5_yields 52 = .ok (.iload_n 2, 1) := by decide +kernel
theorem dX5_yields_53 : decode cX5_yields 53 = .ok (.iconst 1, 1) := by decide +kernel
theorem dX5_yields_54 : decode cX5_yields 54 = .ok (.invokevirtual 41, 3) := by decide +kernel
theorem dX5_yields_57 : decode cX5_yields 57 = .ok (.if_icmp .eq 27, 3) := by decide +kernel
theorem dX5_yields_60 : decode cX5_yields 60 = .ok (.iload_n 3, 1) := by decide +kernel
theorem dX5_yields_61 : decode cX5_yields 61 = .ok (.ifCond .eq 23, 3) := by decide +kernel
theorem dX5_yields_64 : decode cX5_yields 64 = .ok (.aload_n 0, 1) := by decide +kernel
theorem dX5_yields_65 : decode cX5_yields 65 = .ok (.iload_n 2, 1) := by decide +kernel
theorem dX5_yields_66 : decode cX5_yields 66 = .ok (.bipush 8, 2) := by decide +kernel
theorem dX5_yields_68 : decode cX5_yields 68 = .ok (.invokevirtual 41, 3) := by decide +kernel
theorem dX5_yields_71 : decode cX5_yields 71 = .ok (.aload_n 0, 1) := by decide +kernel
theorem dX5_yields_72 : decode cX5_yields 72 = .ok (.getfield 7, 3) := by decide +kernel
theorem dX5_yields_75 : decode cX5_yields 75 = .ok (.iconst 2, 1) := by decide +kernel
theorem dX5_yields_76 : decode cX5_yields 76 = .ok (.iaload, 1) := by decide +kernel
theorem dX5_yields_77 : decode cX5_yields 77 = .ok (.if_icmp .lt 7, 3) := by decide +kernel
theorem dX5_yields_80 : decode cX5_yields 80 = .ok (.iconst 1, 1) := by decide +kernel
theorem dX5_yields_81 : decode cX5_yields 81 = .ok (.goto 4, 3) := by decide +kernel
theorem dX5_yields_84 : decode cX5_yields 84 = .ok (.iconst 0, 1) := by decide +kernel
theorem dX5_yields_85 : decode cX5_yields 85 = .ok (.ireturn, 1) := by decide +kernel
theorem dX5_yielder_0 : decode cX5_yielder 0 = .ok (.bipush (-6), 2) := by decide +kernel
theorem dX5_yielder_2 : decode cX5_yielder 2 = .ok (.istore_n 3, 1) := by decide +kernel
theorem dX5_yielder_3 : decode cX5_yielder 3 = .ok (.iconst 0, 1) := by decide +kernel
theorem dX5_yielder_4 : decode cX5_yielder 4 = .ok (.istore 4, 2) := by decide +kernel
theorem dX5_yielder_6 : decode cX5_yielder 6 = .ok (.iload 4, 2) := by decide +kernel
theorem dX5_yielder_8 : decode cX5_yielder 8 = .ok (.aload_n 0, 1) := by decide +kernel
theorem dX5_yielder_9 : decode cX5_yielder 9 = .ok (.getfield 7, 3) := by decide +kernel
theorem dX5_yielder_12 : decode cX5_yielder 12 = .ok (.iconst 4, 1) := by decide +kernel
theorem dX5_yielder_13 : decode cX5_yielder 13 = .ok (.iaload, 1) := by decide +kernel
theorem dX5_yielder_14 : decode cX5_yielder 14 = .ok (.if_icmp .ge 58, 3) := by decide +kernel
theorem dX5_yielder_17 : decode cX5_yielder 17 = .ok (.aload_n 0, 1) := by decide +kernel
theorem dX5_yielder_18 : decode cX5_yielder 18 = .ok (.iload 4, 2) := by decide +kernel
theorem dX5_yielder_20 : decode cX5_yielder 20 = .ok (.iload_n 1, 1) := by decide +kernel
theorem dX5_yielder_21 : decode cX5_yielder 21 = .ok (.invokevirtual 45, 3) := by decide +kernel
theorem dX5_yielder_24 : decode cX5_yielder 24 = .ok (.ifCond .eq 42, 3) := by decide +kernel
theorem dX5_yielder_27 : decode cX5_yielder 27 = .ok (.aload_n 0, 1) := by decide +kernel
theorem dX5_yielder_28 : decode cX5_yielder 28 = .ok (.iload 4, 2) := by decide +kernel
theorem dX5_yielder_30 : decode cX5_yielder 30 = .ok (.iload_n 2, 1) := by decide +kernel
theorem dX5_yielder_31 : decode cX5_yielder 31 = .ok (.invokevirtual 60, 3) := by decide +kernel
theorem dX5_yielder_34 : decode cX5_yielder 34 = .ok (.ifCond .eq 32, 3) := by decide +kernel
theorem dX5_yielder_37 : decode cX5_yielder 37 = .ok (.iload_n 3, 1) := by decide +kernel
theorem dX5_yielder_38 : decode cX5_yielder 38 = .ok (.bipush (-6), 2) := by decide +kernel
theorem dX5_yielder_40 : decode cX5_yielder 40 = .ok (.if_icmp .eq 19, 3) := by decide +kernel
theorem dX5_yielder_43 : decode cX5_yielder 43 = .ok (.aload_n 0, 1) := by decide +kernel
theorem dX5_yielder_44 : decode cX5_yielder 44 = .ok (.iload 4, 2) := by decide +kernel
theorem dX5_yielder_46 : decode cX5_yielder 46 = .ok (.iconst 0, 1) := by decide +kernel
theorem dX5_yielder_47 : decode cX5_yielder 47 = .ok (.invokevirtual 41, 3) := by decide +kernel
theorem dX5_yielder_50 : decode cX5_yielder 50 = .ok (.aload_n 0, 1) := by decide +kernel
theorem dX5_yielder_51 : decode cX5_yielder 51 = .ok (.iload_n 3, 1) := by decide +kernel
theorem dX5_yielder_52 : decode cX5_yielder 52 = .ok (.iconst 0, 1) := by decide +kernel
theorem dX5_yielder_53 : decode cX5_yielder 53 = .ok (.invokevirtual 41, 3) := by decide +kernel
theorem dX5_yielder_56 : decode cX5_yielder 56 = .ok (.if_icmp .ge 8, 3) := by decide +kernel
theorem dX5_yielder_59 : decode cX5_yielder 59 = .ok (.iload 4, 2) := by decide +kernel
theorem dX5_yielder_61 : decode cX5_yielder 61 = .ok (.goto 4, 3) := by decide +kernel
theorem dX5_yielder_64 : decode cX5_yielder 64 = .ok (.iload_n 3, 1) := by decide +kernel
theorem dX5_yielder_65 : decode cX5_yielder 65 = .ok (.istore_n 3, 1) := by decide +kernel
theorem dX5_yielder_66 : decode cX5_yielder 66 = .ok (.iinc 4 1, 3) := by decide +kernel
theorem dX5_yielder_69 : decode cX5_yielder 69 = .ok (.goto (-63), 3) := by decide +kernel
theorem dX5_yielder_72 : decode cX5_yielder 72 = .ok (.iload_n 3, 1) := by decide +kernel
theorem dX5_yielder_73 : decode cX5_yielder 73 = .ok (.ireturn, 1) := by decide +kernel
theorem dX5_ends_0 : decode cX5_ends 0 = .ok (.aload_n 0, 1) := by decide +kernel
theorem dX5_ends_1 : decode cX5_ends 1 = .ok (.iload_n 1, 1) := by decide +kernel
theorem dX5_ends_2 : decode cX5_ends 2 = .ok (.iconst 2, 1) := by decide +kernel
theorem dX5_ends_3 : decode cX5_ends 3 = .ok (.iload_n 2, 1) := by decide +kernel
theorem dX5_ends_4 : decode cX5_ends 4 = .ok (.invokevirtual 63, 3) := by decide +kernel
theorem dX5_ends_7 : decode cX5_ends 7 = .ok (.aload_n 0, 1) := by decide +kernel
theorem dX5_ends_8 : decode cX5_ends 8 = .ok (.iload_n 1, 1) := by decide +kernel
theorem dX5_ends_9 : decode cX5_ends 9 = .ok (.iconst 3, 1) := by decide +kernel
theorem dX5_ends_10 : decode cX5_ends 10 = .ok (.bipush (-6), 2) := by decide +kernel
theorem dX5_ends_12 : decode cX5_ends 12 = .ok (.invokevirtual 63, 3) := by decide +kernel
theorem dX5_ends_15 : decode cX5_ends 15 = .ok (.aload_n 0, 1) := by decide +kernel
theorem dX5_ends_16 : decode cX5_ends 16 = .ok (.iload_n 1, 1) := by decide +kernel
theorem dX5_ends_17 : decode cX5_ends 17 = .ok (.bipush 7, 2) := by decide +kernel
theorem dX5_ends_19 : decode cX5_ends 19 = .ok (.aload_n 0, 1) := by decide +kernel
theorem dX5_ends_20 : decode cX5_ends 20 = .ok (.getfield 7, 3) := by decide +kernel
theorem dX5_ends_23 : decode cX5_ends 23 = .ok (.iconst 3, 1) := by decide +kernel
theorem dX5_ends_24 : decode cX5_ends 24 = .ok (.iaload, 1) := by decide +kernel
theorem dX5_ends_25 : decode cX5_ends 25 = .ok (.iconst 1, 1) := by decide +kernel
theorem dX5_ends_26 : decode cX5_ends 26 = .ok (.iadd, 1) := by decide +kernel
theorem dX5_ends_27 : decode cX5_ends 27 = .ok (.invokevirtual 63, 3) := by decide +kernel
theorem dX5_ends_30 : decode cX5_ends 30 = .ok (.aload_n 0, 1) := by decide +kernel
theorem dX5_ends_31 : decode cX5_ends 31 = .ok (.iload_n 1, 1) := by decide +kernel
theorem dX5_ends_32 : decode cX5_ends 32 = .ok (.bipush 8, 2) := by decide +kernel
theorem dX5_ends_34 : decode cX5_ends 34 = .ok (.iconst 0, 1) := by decide +kernel
theorem dX5_ends_35 : decode cX5_ends 35 = .ok (.invokevirtual 63, 3) := by decide +kernel
theorem dX5_ends_38 : decode cX5_ends 38 = .ok (.aload_n 0, 1) := by decide +kernel
theorem dX5_ends_39 : decode cX5_ends 39 = .ok (.getfield 25, 3) := by decide +kernel
theorem dX5_ends_42 : decode cX5_ends 42 = .ok (.iload_n 1, 1) := by decide +kernel
theorem dX5_ends_43 : decode cX5_ends 43 = .ok (.iload_n 2, 1) := by decide +kernel
theorem dX5_ends_44 : decode cX5_ends 44 = .ok (.iconst 2, 1) := by decide +kernel
theorem dX5_ends_45 : decode cX5_ends 45 = .ok (.if_icmp .ne 7, 3) := by decide +kernel
theorem dX5_ends_48 : decode cX5_ends 48 = .ok (.iconst 2, 1) := by decide +kernel
theorem dX5_ends_49 : decode cX5_ends 49 = .ok (.goto 4, 3) := by decide +kernel
theorem dX5_ends_52 : decode cX5_ends 52 = .ok (.iconst 5, 1) := by decide +kernel
theorem dX5_ends_53 : decode cX5_ends 53 = .ok (.iastore, 1) := by decide +kernel
theorem dX5_ends_54 : decode cX5_ends 54 = .ok (.return_, 1) := by decide +kernel
theorem dX5_goesTo_0 : decode cX5_goesTo 0 = .ok (.aload_n 0, 1) := by decide +kernel
theorem dX5_goesTo_1 : decode cX5_goesTo 1 = .ok (.iload_n 1, 1) := by decide +kernel
theorem dX5_goesTo_2 : decode cX5_goesTo 2 = .ok (.iconst 2, 1) := by decide +kernel
theorem dX5_goesTo_3 : decode cX5_goesTo 3 = .ok (.iconst 1, 1) := by decide +kernel
theorem dX5_goesTo_4 : decode cX5_goesTo 4 = .ok (.invokevirtual 63, 3) := by decide +kernel
theorem dX5_goesTo_7 : decode cX5_goesTo 7 = .ok (.aload_n 0, 1) := by decide +kernel
theorem dX5_goesTo_8 : decode cX5_goesTo 8 = .ok (.iload_n 1, 1) := by decide +kernel
theorem dX5_goesTo_9 : decode cX5_goesTo 9 = .ok (.iconst 3, 1) := by decide +kernel
theorem dX5_goesTo_10 : decode cX5_goesTo 10 = .ok (.iload_n 2, 1) := by decide +kernel
theorem dX5_goesTo_11 : decode cX5_goesTo 11 = .ok (.invokevirtual 63, 3) := by decide +kernel
theorem dX5_goesTo_14 : decode cX5_goesTo 14 = .ok (.aload_n 0, 1) := by decide +kernel
theorem dX5_goesTo_15 : decode cX5_goesTo 15 = .ok (.iload_n 1, 1) := by decide +kernel
theorem dX5_goesTo_16 : decode cX5_goesTo 16 = .ok (.bipush 8, 2) := by decide +kernel
theorem dX5_goesTo_18 : decode cX5_goesTo 18 = .ok (.iconst 0, 1) := by decide +kernel
theorem dX5_goesTo_19 : decode cX5_goesTo 19 = .ok (.invokevirtual 63, 3) := by decide +kernel
theorem dX5_goesTo_22 : decode cX5_goesTo 22 = .ok (.aload_n 0, 1) := by decide +kernel
theorem dX5_goesTo_23 : decode cX5_goesTo 23 = .ok (.getfield 25, 3) := by decide +kernel
theorem dX5_goesTo_26 : decode cX5_goesTo 26 = .ok (.iload_n 1, 1) := by decide +kernel
theorem dX5_goesTo_27 : decode cX5_goesTo 27 = .ok (.iload_n 3, 1) := by decide +kernel
theorem dX5_goesTo_28 : decode cX5_goesTo 28 = .ok (.iastore, 1) := by decide +kernel
theorem dX5_goesTo_29 : decode cX5_goesTo 29 = .ok (.return_, 1) := by decide +kernel
theorem dX5_makesWay_0 : decode cX5_makesWay 0 = .ok (.aload_n 0, 1) := by decide +kernel
theorem dX5_makesWay_1 : decode cX5_makesWay 1 = .ok (.iload_n 1, 1) := by decide +kernel
theorem dX5_makesWay_2 : decode cX5_makesWay 2 = .ok (.iconst 3, 1) := by decide +kernel
theorem dX5_makesWay_3 : decode cX5_makesWay 3 = .ok (.invokevirtual 41, 3) := by decide +kernel
theorem dX5_makesWay_6 : decode cX5_makesWay 6 = .ok (.aload_n 0, 1) := by decide +kernel
theorem dX5_makesWay_7 : decode cX5_makesWay 7 = .ok (.iload_n 2, 1) := by decide +kernel
theorem dX5_makesWay_8 : decode cX5_makesWay 8 = .ok (.invokevirtual 57, 3) := by decide +kernel
theorem dX5_makesWay_11 : decode cX5_makesWay 11 = .ok (.iadd, 1) := by decide +kernel
theorem dX5_makesWay_12 : decode cX5_makesWay 12 = .ok (.istore_n 3, 1) := by decide +kernel
theorem dX5_makesWay_13 : decode cX5_makesWay 13 = .ok (.iload_n 3, 1) := by decide +kernel
theorem dX5_makesWay_14 : decode cX5_makesWay 14 = .ok (.invokestatic 67, 3) := by decide +kernel
theorem dX5_makesWay_17 : decode cX5_makesWay 17 = .ok (.ifCond .eq 13, 3) := by decide +kernel
theorem dX5_makesWay_20 : decode cX5_makesWay 20 = .ok (.aload_n 0, 1) := by decide +kernel
theorem dX5_makesWay_21 : decode cX5_makesWay 21 = .ok (.iload_n 3, 1) := by decide +kernel
theorem dX5_makesWay_22 : decode cX5_makesWay 22 = .ok (.invokevirtual 70, 3) := by decide +kernel
theorem dX5_makesWay_25 : decode cX5_makesWay 25 = .ok (.ifCond .gt 5, 3) := by decide +kernel
theorem dX5_makesWay_28 : decode cX5_makesWay 28 = .ok (.iconst 0, 1) := by decide +kernel
theorem dX5_makesWay_29 : decode cX5_makesWay 29 = .ok (.ireturn, 1) := by decide +kernel
theorem dX5_makesWay_30 : decode cX5_makesWay 30 = .ok (.aload_n 0, 1) := by decide +kernel
theorem dX5_makesWay_31 : decode cX5_makesWay 31 = .ok (.getfield 7, 3) := by decide +kernel
theorem dX5_makesWay_34 : decode cX5_makesWay 34 = .ok (.iconst 1, 1) := by decide +kernel
theorem dX5_makesWay_35 : decode cX5_makesWay 35 = .ok (.iaload, 1) := by decide +kernel
theorem dX5_makesWay_36 : decode cX5_makesWay 36 = .ok (.aload_n 0, 1) := by decide +kernel
theorem dX5_makesWay_37 : decode cX5_makesWay 37 = .ok (.iload_n 2, 1) := by decide +kernel
theorem dX5_makesWay_38 : decode cX5_makesWay 38 = .ok (.iconst 0, 1) := by decide +kernel
theorem dX5_makesWay_39 : decode cX5_makesWay 39 = .ok (.invokevirtual 41, 3) := by decide +kernel
theorem dX5_makesWay_42 : decode cX5_makesWay 42 = .ok (.aload_n 0, 1) := by decide +kernel
theorem dX5_makesWay_43 : decode cX5_makesWay 43 = .ok (.iload_n 1, 1) := by decide +kernel
theorem dX5_makesWay_44 : decode cX5_makesWay 44 = .ok (.iconst 0, 1) := by decide +kernel
theorem dX5_makesWay_45 : decode cX5_makesWay 45 = .ok (.invokevirtual 41, 3) := by decide +kernel
theorem dX5_makesWay_48 : decode cX5_makesWay 48 = .ok (.isub, 1) := by decide +kernel
theorem dX5_makesWay_49 : decode cX5_makesWay 49 = .ok (.iconst 1, 1) := by decide +kernel
theorem dX5_makesWay_50 : decode cX5_makesWay 50 = .ok (.iadd, 1) := by decide +kernel
theorem dX5_makesWay_51 : decode cX5_makesWay 51 = .ok (.imul, 1) := by decide +kernel
theorem dX5_makesWay_52 : decode cX5_makesWay 52 = .ok (.istore 4, 2) := by decide +kernel
theorem dX5_makesWay_54 : decode cX5_makesWay 54 = .ok (.aload_n 0, 1) := by decide +kernel
theorem dX5_makesWay_55 : decode cX5_makesWay 55 = .ok (.iload_n 1, 1) := by decide +kernel
theorem dX5_makesWay_56 : decode cX5_makesWay 56 = .ok (.bipush 6, 2) := by decide +kernel
theorem dX5_makesWay_58 : decode cX5_makesWay 58 = .ok (.iload 4, 2) := by decide +kernel
theorem dX5_makesWay_60 : decode cX5_makesWay 60 = .ok (.invokevirtual 73, 3) := by decide +kernel
theorem dX5_makesWay_63 : decode cX5_makesWay 63 = .ok (.aload_n 0, 1) := by decide +kernel
theorem dX5_makesWay_64 : decode cX5_makesWay 64 = .ok (.iload_n 1, 1) := by decide +kernel
theorem dX5_makesWay_65 : decode cX5_makesWay 65 = .ok (.iconst 5, 1) := by decide +kernel
theorem dX5_makesWay_66 : decode cX5_makesWay 66 = .ok (.iconst 1, 1) := by decide +kernel
theorem dX5_makesWay_67 : decode cX5_makesWay 67 = .ok (.invokevirtual 73, 3) := by decide +kernel
theorem dX5_makesWay_70 : decode cX5_makesWay 70 = .ok (.aload_n 0, 1) := by decide +kernel
theorem dX5_makesWay_71 : decode cX5_makesWay 71 = .ok (.getfield 7, 3) := by decide +kernel
theorem dX5_makesWay_74 : decode cX5_makesWay 74 = .ok (.bipush 6, 2) := by decide +kernel
theorem dX5_makesWay_76 : decode cX5_makesWay 76 = .ok (.dup2, 1) := by decide +kernel
theorem dX5_makesWay_77 : decode cX5_makesWay 77 = .ok (.iaload, 1) := by decide +kernel
theorem dX5_makesWay_78 : decode cX5_makesWay 78 = .ok (.iload 4, 2) := by decide +kernel
theorem dX5_makesWay_80 : decode cX5_makesWay 80 = .ok (.iadd, 1) := by decide +kernel
theorem dX5_makesWay_81 : decode cX5_makesWay 81 = .ok (.iastore, 1) := by decide +kernel
theorem dX5_makesWay_82 : decode cX5_makesWay 82 = .ok (.aload_n 0, 1) := by decide +kernel
theorem dX5_makesWay_83 : decode cX5_makesWay 83 = .ok (.getfield 7, 3) := by decide +kernel
theorem dX5_makesWay_86 : decode cX5_makesWay 86 = .ok (.bipush 7, 2) := by decide +kernel
theorem dX5_makesWay_88 : decode cX5_makesWay 88 = .ok (.dup2, 1) := by decide +kernel
theorem dX5_makesWay_89 : decode cX5_makesWay 89 = .ok (.iaload, 1) := by decide +kernel
theorem dX5_makesWay_90 : decode cX5_makesWay 90 = .ok (.iconst 1, 1) := by decide +kernel
theorem dX5_makesWay_91 : decode cX5_makesWay 91 = .ok (.iadd, 1) := by decide +kernel
theorem dX5_makesWay_92 : decode cX5_makesWay 92 = .ok (.iastore, 1) := by decide +kernel
theorem dX5_makesWay_93 : decode cX5_makesWay 93 = .ok (.iload_n 3, 1) := by decide +kernel
theorem dX5_makesWay_94 : decode cX5_makesWay 94 = .ok (.invokestatic 67, 3) := by decide +kernel
theorem dX5_makesWay_97 : decode cX5_makesWay 97 = .ok (.ifCond .eq 13, 3) := by decide +kernel
theorem dX5_makesWay_100 : decode cX5_makesWay 100 = .ok (.aload_n 0, 1) := by decide +kernel
theorem dX5_makesWay_101 : decode cX5_makesWay 101 = .ok (.iload_n 1, 1) := by decide +kernel
theorem dX5_makesWay_102 : decode cX5_makesWay 102 = .ok (.iload_n 3, 1) := by decide +kernel
theorem dX5_makesWay_103 : decode cX5_makesWay 103 = .ok (.iconst 4, 1) := by decide +kernel
theorem dX5_makesWay_104 : decode cX5_makesWay 104 = .ok (.invokevirtual 76, 3) := by decide +kernel
theorem dX5_makesWay_107 : decode cX5_makesWay 107 = .ok (.goto 9, 3) := by decide +kernel
theorem dX5_makesWay_110 : decode cX5_makesWay 110 = .ok (.aload_n 0, 1) := by decide +kernel
theorem dX5_makesWay_111 : decode cX5_makesWay 111 = .ok (.iload_n 1, 1) := by decide +kernel
theorem dX5_makesWay_112 : decode cX5_makesWay 112 = .ok (.iconst 3, 1) := by decide +kernel
theorem dX5_makesWay_113 : decode cX5_makesWay 113 = .ok (.invokevirtual 79, 3) := by decide +kernel
theorem dX5_makesWay_116 : decode cX5_makesWay 116 = .ok (.iconst 1, 1) := by decide +kernel
theorem dX5_makesWay_117 : decode cX5_makesWay 117 = .ok (.ireturn, 1) := by decide +kernel
theorem dX5_acts_0 : decode cX5_acts 0 = .ok (.aload_n 0, 1) := by decide +kernel
theorem dX5_acts_1 : decode cX5_acts 1 = .ok (.iload_n 1, 1) := by decide +kernel
theorem dX5_acts_2 : decode cX5_acts 2 = .ok (.invokevirtual 83, 3) := by decide +kernel
theorem dX5_acts_5 : decode cX5_acts 5 = .ok (.istore_n 2, 1) := by decide +kernel
theorem dX5_acts_6 : decode cX5_acts 6 = .ok (.iload_n 2, 1) := by decide +kernel
theorem dX5_acts_7 : decode cX5_acts 7 = .ok (.invokestatic 67, 3) := by decide +kernel
theorem dX5_acts_10 : decode cX5_acts 10 = .ok (.ifCond .ne 10, 3) := by decide +kernel
theorem dX5_acts_13 : decode cX5_acts 13 = .ok (.aload_n 0, 1) := by decide +kernel
theorem dX5_acts_14 : decode cX5_acts 14 = .ok (.iload_n 1, 1) := by decide +kernel
theorem dX5_acts_15 : decode cX5_acts 15 = .ok (.iconst 2, 1) := by decide +kernel
theorem dX5_acts_16 : decode cX5_acts 16 = .ok (.invokevirtual 79, 3) := by decide +kernel
theorem dX5_acts_19 : decode cX5_acts 19 = .ok (.return_, 1) := by decide +kernel
theorem dX5_acts_20 : decode cX5_acts 20 = .ok (.aload_n 0, 1) := by decide +kernel
theorem dX5_acts_21 : decode cX5_acts 21 = .ok (.iload_n 2, 1) := by decide +kernel
theorem dX5_acts_22 : decode cX5_acts 22 = .ok (.invokevirtual 70, 3) := by decide +kernel
theorem dX5_acts_25 : decode cX5_acts 25 = .ok (.ifCond .le 7, 3) := by decide +kernel
theorem dX5_acts_28 : decode cX5_acts 28 = .ok (.iconst 1, 1) := by decide +kernel
theorem dX5_acts_29 : decode cX5_acts 29 = .ok (.goto 4, 3) := by decide +kernel
theorem dX5_acts_32 : decode cX5_acts 32 = .ok (.iconst 0, 1) := by decide +kernel
theorem dX5_acts_33 : decode cX5_acts 33 = .ok (.istore_n 3, 1) := by decide +kernel
theorem dX5_acts_34 : decode cX5_acts 34 = .ok (.iload_n 3, 1) := by decide +kernel
theorem dX5_acts_35 : decode cX5_acts 35 = .ok (.ifCond .eq 8, 3) := by decide +kernel
theorem dX5_acts_38 : decode cX5_acts 38 = .ok (.bipush (-6), 2) := by decide +kernel
theorem dX5_acts_40 : decode cX5_acts 40 = .ok (.goto 9, 3) := by decide +kernel
theorem dX5_acts_43 : decode cX5_acts 43 = .ok (.aload_n 0, 1) := by decide +kernel
theorem dX5_acts_44 : decode cX5_acts 44 = .ok (.iload_n 2, 1) := by decide +kernel
theorem dX5_acts_45 : decode cX5_acts 45 = .ok (.iload_n 1, 1) := by decide +kernel
theorem dX5_acts_46 : decode cX5_acts 46 = .ok (.invokevirtual 86, 3) := by decide +kernel
theorem dX5_acts_49 : decode cX5_acts 49 = .ok (.istore 4, 2) := by decide +kernel
theorem dX5_acts_51 : decode cX5_acts 51 = .ok (.iload_n 3, 1) := by decide +kernel
theorem dX5_acts_52 : decode cX5_acts 52 = .ok (.ifCond .ne 20, 3) := by decide +kernel
theorem dX5_acts_55 : decode cX5_acts 55 = .ok (.iload 4, 2) := by decide +kernel
theorem dX5_acts_57 : decode cX5_acts 57 = .ok (.bipush (-6), 2) := by decide +kernel
theorem dX5_acts_59 : decode cX5_acts 59 = .ok (.if_icmp .eq 21, 3) := by decide +kernel
theorem dX5_acts_62 : decode cX5_acts 62 = .ok (.aload_n 0, 1) := by decide +kernel
theorem dX5_acts_63 : decode cX5_acts 63 = .ok (.iload 4, 2) := by decide +kernel
theorem dX5_acts_65 : decode cX5_acts 65 = .ok (.iload_n 1, 1) := by decide +kernel
theorem dX5_acts_66 : decode cX5_acts 66 = .ok (.invokevirtual 89, 3) := by decide +kernel
theorem dX5_acts_69 : decode cX5_acts 69 = .ok (.ifCond .eq 11, 3) := by decide +kernel
theorem dX5_acts_72 : decode cX5_acts 72 = .ok (.aload_n 0, 1) := by decide +kernel
theorem dX5_acts_73 : decode cX5_acts 73 = .ok (.iload_n 1, 1) := by decide +kernel
theorem dX5_acts_74 : decode cX5_acts 74 = .ok (.iload_n 2, 1) := by decide +kernel
theorem dX5_acts_75 : decode cX5_acts 75 = .ok (.iconst 1, 1) := by decide +kernel
theorem dX5_acts_76 : decode cX5_acts 76 = .ok (.invokevirtual 76, 3) := by decide +kernel
theorem dX5_acts_79 : decode cX5_acts 79 = .ok (.return_, 1) := by decide +kernel
theorem dX5_acts_80 : decode cX5_acts 80 = .ok (.aload_n 0, 1) := by decide +kernel
theorem dX5_acts_81 : decode cX5_acts 81 = .ok (.iload_n 1, 1) := by decide +kernel
theorem dX5_acts_82 : decode cX5_acts 82 = .ok (.iconst 4, 1) := by decide +kernel
theorem dX5_acts_83 : decode cX5_acts 83 = .ok (.iconst 1, 1) := by decide +kernel
theorem dX5_acts_84 : decode cX5_acts 84 = .ok (.invokevirtual 73, 3) := by decide +kernel
theorem dX5_acts_87 : decode cX5_acts 87 = .ok (.aload_n 0, 1) := by decide +kernel
theorem dX5_acts_88 : decode cX5_acts 88 = .ok (.iload_n 1, 1) := by decide +kernel
theorem dX5_acts_89 : decode cX5_acts 89 = .ok (.bipush 8, 2) := by decide +kernel
theorem dX5_acts_91 : decode cX5_acts 91 = .ok (.iconst 1, 1) := by decide +kernel
theorem dX5_acts_92 : decode cX5_acts 92 = .ok (.invokevirtual 73, 3) := by decide +kernel
theorem dX5_acts_95 : decode cX5_acts 95 = .ok (.aload_n 0, 1) := by decide +kernel
theorem dX5_acts_96 : decode cX5_acts 96 = .ok (.getfield 7, 3) := by decide +kernel
theorem dX5_acts_99 : decode cX5_acts 99 = .ok (.bipush 8, 2) := by decide +kernel
theorem dX5_acts_101 : decode cX5_acts 101 = .ok (.dup2, 1) := by decide +kernel
theorem dX5_acts_102 : decode cX5_acts 102 = .ok (.iaload, 1) := by decide +kernel
theorem dX5_acts_103 : decode cX5_acts 103 = .ok (.iconst 1, 1) := by decide +kernel
theorem dX5_acts_104 : decode cX5_acts 104 = .ok (.iadd, 1) := by decide +kernel
theorem dX5_acts_105 : decode cX5_acts 105 = .ok (.iastore, 1) := by decide +kernel
theorem dX5_acts_106 : decode cX5_acts 106 = .ok (.aload_n 0, 1) := by decide +kernel
theorem dX5_acts_107 : decode cX5_acts 107 = .ok (.getfield 25, 3) := by decide +kernel
theorem dX5_acts_110 : decode cX5_acts 110 = .ok (.iload_n 1, 1) := by decide +kernel
theorem dX5_acts_111 : decode cX5_acts 111 = .ok (.iconst 3, 1) := by decide +kernel
theorem dX5_acts_112 : decode cX5_acts 112 = .ok (.iastore, 1) := by decide +kernel
theorem dX5_acts_113 : decode cX5_acts 113 = .ok (.return_, 1) := by decide +kernel
theorem dX5_ticks_0 : decode cX5_ticks 0 = .ok (.iconst 0, 1) := by decide +kernel
theorem dX5_ticks_1 : decode cX5_ticks 1 = .ok (.istore_n 1, 1) := by decide +kernel
theorem dX5_ticks_2 : decode cX5_ticks 2 = .ok (.iload_n 1, 1) := by decide +kernel
theorem dX5_ticks_3 : decode cX5_ticks 3 = .ok (.bipush 24, 2) := by decide +kernel
theorem dX5_ticks_5 : decode cX5_ticks 5 = .ok (.if_icmp .ge 16, 3) := by decide +kernel
theorem dX5_ticks_8 : decode cX5_ticks 8 = .ok (.aload_n 0, 1) := by decide +kernel
theorem dX5_ticks_9 : decode cX5_ticks 9 = .ok (.getfield 25, 3) := by decide +kernel
theorem dX5_ticks_12 : decode cX5_ticks 12 = .ok (.iload_n 1, 1) := by decide +kernel
theorem dX5_ticks_13 : decode cX5_ticks 13 = .ok (.iconst 0, 1) := by decide +kernel
theorem dX5_ticks_14 : decode cX5_ticks 14 = .ok (.iastore, 1) := by decide +kernel
theorem dX5_ticks_15 : decode cX5_ticks 15 = .ok (.iinc 1 1, 3) := by decide +kernel
theorem dX5_ticks_18 : decode cX5_ticks 18 = .ok (.goto (-16), 3) := by decide +kernel
theorem dX5_ticks_21 : decode cX5_ticks 21 = .ok (.bipush 9, 2) := by decide +kernel
theorem dX5_ticks_23 : decode cX5_ticks 23 = .ok (.istore_n 1, 1) := by decide +kernel
theorem dX5_ticks_24 : decode cX5_ticks 24 = .ok (.iload_n 1, 1) := by decide +kernel
theorem dX5_ticks_25 : decode cX5_ticks 25 = .ok (.ifCond .le 61, 3) := by decide +kernel
theorem dX5_ticks_28 : decode cX5_ticks 28 = .ok (.iconst 0, 1) := by decide +kernel
theorem dX5_ticks_29 : decode cX5_ticks 29 = .ok (.istore_n 2, 1) := by decide +kernel
theorem dX5_ticks_30 : decode cX5_ticks 30 = .ok (.iload_n 2, 1) := by decide +kernel
theorem dX5_ticks_31 : decode cX5_ticks 31 = .ok (.aload_n 0, 1) := by decide +kernel
theorem dX5_ticks_32 : decode cX5_ticks 32 = .ok (.getfield 7, 3) := by decide +kernel
theorem dX5_ticks_35 : decode cX5_ticks 35 = .ok (.iconst 4, 1) := by decide +kernel
theorem dX5_ticks_36 : decode cX5_ticks 36 = .ok (.iaload, 1) := by decide +kernel
theorem dX5_ticks_37 : decode cX5_ticks 37 = .ok (.if_icmp .ge 43, 3) := by decide +kernel
theorem dX5_ticks_40 : decode cX5_ticks 40 = .ok (.aload_n 0, 1) := by decide +kernel
theorem dX5_ticks_41 : decode cX5_ticks 41 = .ok (.iload_n 2, 1) := by decide +kernel
theorem dX5_ticks_42 : decode cX5_ticks 42 = .ok (.iconst 0, 1) := by decide +kernel
theorem dX5_ticks_43 : decode cX5_ticks 43 = .ok (.invokevirtual 41, 3) := by decide +kernel
theorem dX5_ticks_46 : decode cX5_ticks 46 = .ok (.iload_n 1, 1) := by decide +kernel
theorem dX5_ticks_47 : decode cX5_ticks 47 = .ok (.if_icmp .ne 27, 3) := by decide +kernel
theorem dX5_ticks_50 : decode cX5_ticks 50 = .ok (.aload_n 0, 1) := by decide +kernel
theorem dX5_ticks_51 : decode cX5_ticks 51 = .ok (.iload_n 2, 1) := by decide +kernel
theorem dX5_ticks_52 : decode cX5_ticks 52 = .ok (.iconst 2, 1) := by decide +kernel
theorem dX5_ticks_53 : decode cX5_ticks 53 = .ok (.invokevirtual 41, 3) := by decide +kernel
theorem dX5_ticks_56 : decode cX5_ticks 56 = .ok (.iconst 2, 1) := by decide +kernel
theorem dX5_ticks_57 : decode cX5_ticks 57 = .ok (.if_icmp .ge 17, 3) := by decide +kernel
theorem dX5_ticks_60 : decode cX5_ticks 60 = .ok (.aload_n 0, 1) := by decide +kernel
theorem dX5_ticks_61 : decode cX5_ticks 61 = .ok (.getfield 25, 3) := by decide +kernel
theorem dX5_ticks_64 : decode cX5_ticks 64 = .ok (.iload_n 2, 1) := by decide +kernel
theorem dX5_ticks_65 : decode cX5_ticks 65 = .ok (.iaload, 1) := by decide +kernel
theorem dX5_ticks_66 : decode cX5_ticks 66 = .ok (.ifCond .ne 8, 3) := by decide +kernel
theorem dX5_ticks_69 : decode cX5_ticks 69 = .ok (.aload_n 0, 1) := by decide +kernel
theorem dX5_ticks_70 : decode cX5_ticks 70 = .ok (.iload_n 2, 1) := by decide +kernel
theorem dX5_ticks_71 : decode cX5_ticks 71 = .ok (.invokevirtual 92, 3) := by decide +kernel
theorem dX5_ticks_74 : decode cX5_ticks 74 = .ok (.iinc 2 1, 3) := by decide +kernel
theorem dX5_ticks_77 : decode cX5_ticks 77 = .ok (.goto (-47), 3) := by decide +kernel
theorem dX5_ticks_80 : decode cX5_ticks 80 = .ok (.iinc 1 (-1), 3) := by decide +kernel
theorem dX5_ticks_83 : decode cX5_ticks 83 = .ok (.goto (-59), 3) := by decide +kernel
theorem dX5_ticks_86 : decode cX5_ticks 86 = .ok (.aload_n 0, 1) := by decide +kernel
theorem dX5_ticks_87 : decode cX5_ticks 87 = .ok (.getfield 7, 3) := by decide +kernel
theorem dX5_ticks_90 : decode cX5_ticks 90 = .ok (.iconst 3, 1) := by decide +kernel
theorem dX5_ticks_91 : decode cX5_ticks 91 = .ok (.dup2, 1) := by decide +kernel
theorem dX5_ticks_92 : decode cX5_ticks 92 = .ok (.iaload, 1) := by decide +kernel
theorem dX5_ticks_93 : decode cX5_ticks 93 = .ok (.iconst 1, 1) := by decide +kernel
theorem dX5_ticks_94 : decode cX5_ticks 94 = .ok (.iadd, 1) := by decide +kernel
theorem dX5_ticks_95 : decode cX5_ticks 95 = .ok (.iastore, 1) := by decide +kernel
theorem dX5_ticks_96 : decode cX5_ticks 96 = .ok (.return_, 1) := by decide +kernel
theorem dX5_thatAre_0 : decode cX5_thatAre 0 = .ok (.iconst 0, 1) := by decide +kernel
theorem dX5_thatAre_1 : decode cX5_thatAre 1 = .ok (.istore_n 2, 1) := by decide +kernel
theorem dX5_thatAre_2 : decode cX5_thatAre 2 = .ok (.iconst 0, 1) := by decide +kernel
theorem dX5_thatAre_3 : decode cX5_thatAre 3 = .ok (.istore_n 3, 1) := by decide +kernel
theorem dX5_thatAre_4 : decode cX5_thatAre 4 = .ok (.iload_n 3, 1) := by decide +kernel
theorem dX5_thatAre_5 : decode cX5_thatAre 5 = .ok (.aload_n 0, 1) := by decide +kernel
theorem dX5_thatAre_6 : decode cX5_thatAre 6 = .ok (.getfield 7, 3) := by decide +kernel
theorem dX5_thatAre_9 : decode cX5_thatAre 9 = .ok (.iconst 4, 1) := by decide +kernel
theorem dX5_thatAre_10 : decode cX5_thatAre 10 = .ok (.iaload, 1) := by decide +kernel
theorem dX5_thatAre_11 : decode cX5_thatAre 11 = .ok (.if_icmp .ge 27, 3) := by decide +kernel
theorem dX5_thatAre_14 : decode cX5_thatAre 14 = .ok (.iload_n 2, 1) := by decide +kernel
theorem dX5_thatAre_15 : decode cX5_thatAre 15 = .ok (.aload_n 0, 1) := by decide +kernel
theorem dX5_thatAre_16 : decode cX5_thatAre 16 = .ok (.iload_n 3, 1) := by decide +kernel
theorem dX5_thatAre_17 : decode cX5_thatAre 17 = .ok (.iconst 2, 1) := by decide +kernel
theorem dX5_thatAre_18 : decode cX5_thatAre 18 = .ok (.invokevirtual 41, 3) := by decide +kernel
theorem dX5_thatAre_21 : decode cX5_thatAre 21 = .ok (.iload_n 1, 1) := by decide +kernel
theorem dX5_thatAre_22 : decode cX5_thatAre 22 = .ok (.if_icmp .ne 7, 3) := by decide +kernel
theorem dX5_thatAre_25 : decode cX5_thatAre 25 = .ok (.iconst 1, 1) := by decide +kernel
theorem dX5_thatAre_26 : decode cX5_thatAre 26 = .ok (.goto 4, 3) := by decide +kernel
theorem dX5_thatAre_29 : decode cX5_thatAre 29 = .ok (.iconst 0, 1) := by decide +kernel
theorem dX5_thatAre_30 : decode cX5_thatAre 30 = .ok (.iadd, 1) := by decide +kernel
theorem dX5_thatAre_31 : decode cX5_thatAre 31 = .ok (.istore_n 2, 1) := by decide +kernel
theorem dX5_thatAre_32 : decode cX5_thatAre 32 = .ok (.iinc 3 1, 3) := by decide +kernel
theorem dX5_thatAre_35 : decode cX5_thatAre 35 = .ok (.goto (-31), 3) := by decide +kernel
theorem dX5_thatAre_38 : decode cX5_thatAre 38 = .ok (.iload_n 2, 1) := by decide +kernel
theorem dX5_thatAre_39 : decode cX5_thatAre 39 = .ok (.ireturn, 1) := by decide +kernel
theorem dX5_isSetting_0 : decode cX5_isSetting 0 = .ok (.iload_n 0, 1) := by decide +kernel
theorem dX5_isSetting_1 : decode cX5_isSetting 1 = .ok (.tableswitch 57 0 2 #[27, 37, 47], 27) := by decide +kernel
theorem dX5_isSetting_28 : decode cX5_isSetting 28 = .ok (.iload_n 1, 1) := by decide +kernel
theorem dX5_isSetting_29 : decode cX5_isSetting 29 = .ok (.i2l, 1) := by decide +kernel
theorem dX5_isSetting_30 : decode cX5_isSetting 30 = .ok (.lconst 1, 1) := by decide +kernel
theorem dX5_isSetting_31 : decode cX5_isSetting 31 = .ok (.ldc2_w 96, 3) := by decide +kernel
theorem dX5_isSetting_34 : decode cX5_isSetting 34 = .ok (.invokestatic 35, 3) := by decide +kernel
theorem dX5_isSetting_37 : decode cX5_isSetting 37 = .ok (.ireturn, 1) := by decide +kernel
theorem dX5_isSetting_38 : decode cX5_isSetting 38 = .ok (.iload_n 1, 1) := by decide +kernel
theorem dX5_isSetting_39 : decode cX5_isSetting 39 = .ok (.i2l, 1) := by decide +kernel
theorem dX5_isSetting_40 : decode cX5_isSetting 40 = .ok (.lconst 1, 1) := by decide +kernel
theorem dX5_isSetting_41 : decode cX5_isSetting 41 = .ok (.ldc2_w 98, 3) := by decide +kernel
theorem dX5_isSetting_44 : decode cX5_isSetting 44 = .ok (.invokestatic 35, 3) := by decide +kernel
theorem dX5_isSetting_47 : decode cX5_isSetting 47 = .ok (.ireturn, 1) := by decide +kernel
theorem dX5_isSetting_48 : decode cX5_isSetting 48 = .ok (.iload_n 1, 1) := by decide +kernel
theorem dX5_isSetting_49 : decode cX5_isSetting 49 = .ok (.i2l, 1) := by decide +kernel
theorem dX5_isSetting_50 : decode cX5_isSetting 50 = .ok (.lconst 0, 1) := by decide +kernel
theorem dX5_isSetting_51 : decode cX5_isSetting 51 = .ok (.ldc2_w 100, 3) := by decide +kernel
theorem dX5_isSetting_54 : decode cX5_isSetting 54 = .ok (.invokestatic 35, 3) := by decide +kernel
theorem dX5_isSetting_57 : decode cX5_isSetting 57 = .ok (.ireturn, 1) := by decide +kernel
theorem dX5_isSetting_58 : decode cX5_isSetting 58 = .ok (.iconst 0, 1) := by decide +kernel
theorem dX5_isSetting_59 : decode cX5_isSetting 59 = .ok (.ireturn, 1) := by decide +kernel
theorem dX5_isTooFull_0 : decode cX5_isTooFull 0 = .ok (.iconst 0, 1) := by decide +kernel
theorem dX5_isTooFull_1 : decode cX5_isTooFull 1 = .ok (.istore_n 2, 1) := by decide +kernel
theorem dX5_isTooFull_2 : decode cX5_isTooFull 2 = .ok (.iconst 0, 1) := by decide +kernel
theorem dX5_isTooFull_3 : decode cX5_isTooFull 3 = .ok (.istore_n 3, 1) := by decide +kernel
theorem dX5_isTooFull_4 : decode cX5_isTooFull 4 = .ok (.iload_n 3, 1) := by decide +kernel
theorem dX5_isTooFull_5 : decode cX5_isTooFull 5 = .ok (.bipush 12, 2) := by decide +kernel
theorem dX5_isTooFull_7 : decode cX5_isTooFull 7 = .ok (.if_icmp .ge 36, 3) := by decide +kernel
theorem dX5_isTooFull_10 : decode cX5_isTooFull 10 = .ok (.iload_n 2, 1) := by decide +kernel
theorem dX5_isTooFull_11 : decode cX5_isTooFull 11 = .ok (.ifCond .ne 20, 3) := by decide +kernel
theorem dX5_isTooFull_14 : decode cX5_isTooFull 14 = .ok (.aload_n 0, 1) := by decide +kernel
theorem dX5_isTooFull_15 : decode cX5_isTooFull 15 = .ok (.iload_n 3, 1) := by decide +kernel
theorem dX5_isTooFull_16 : decode cX5_isTooFull 16 = .ok (.invokevirtual 49, 3) := by decide +kernel
theorem dX5_isTooFull_19 : decode cX5_isTooFull 19 = .ok (.ifCond .eq 16, 3) := by decide +kernel
theorem dX5_isTooFull_22 : decode cX5_isTooFull 22 = .ok (.aload_n 0, 1) := by decide +kernel
theorem dX5_isTooFull_23 : decode cX5_isTooFull 23 = .ok (.iload_n 3, 1) := by decide +kernel
theorem dX5_isTooFull_24 : decode cX5_isTooFull 24 = .ok (.invokevirtual 53, 3) := by decide +kernel
theorem dX5_isTooFull_27 : decode cX5_isTooFull 27 = .ok (.iload_n 1, 1) := by decide +kernel
theorem dX5_isTooFull_28 : decode cX5_isTooFull 28 = .ok (.if_icmp .le 7, 3) := by decide +kernel
theorem dX5_isTooFull_31 : decode cX5_isTooFull 31 = .ok (.iconst 1, 1) := by decide +kernel
theorem dX5_isTooFull_32 : decode cX5_isTooFull 32 = .ok (.goto 4, 3) := by decide +kernel
theorem dX5_isTooFull_35 : decode cX5_isTooFull 35 = .ok (.iconst 0, 1) := by decide +kernel
theorem dX5_isTooFull_36 : decode cX5_isTooFull 36 = .ok (.istore_n 2, 1) := by decide +kernel
theorem dX5_isTooFull_37 : decode cX5_isTooFull 37 = .ok (.iinc 3 1, 3) := by decide +kernel
theorem dX5_isTooFull_40 : decode cX5_isTooFull 40 = .ok (.goto (-36), 3) := by decide +kernel
theorem dX5_isTooFull_43 : decode cX5_isTooFull 43 = .ok (.iload_n 2, 1) := by decide +kernel
theorem dX5_isTooFull_44 : decode cX5_isTooFull 44 = .ok (.ireturn, 1) := by decide +kernel
theorem dX5_set_0 : decode cX5_set 0 = .ok (.iload_n 1, 1) := by decide +kernel
theorem dX5_set_1 : decode cX5_set 1 = .ok (.iload_n 2, 1) := by decide +kernel
theorem dX5_set_2 : decode cX5_set 2 = .ok (.invokestatic 102, 3) := by decide +kernel
theorem dX5_set_5 : decode cX5_set 5 = .ok (.ifCond .ne 6, 3) := by decide +kernel
theorem dX5_set_8 : decode cX5_set 8 = .ok (.bipush (-2), 2) := by decide +kernel
theorem dX5_set_10 : decode cX5_set 10 = .ok (.ireturn, 1) := by decide +kernel
theorem dX5_set_11 : decode cX5_set 11 = .ok (.iload_n 1, 1) := by decide +kernel
theorem dX5_set_12 : decode cX5_set 12 = .ok (.ifCond .ne 14, 3) := by decide +kernel
theorem dX5_set_15 : decode cX5_set 15 = .ok (.aload_n 0, 1) := by decide +kernel
theorem dX5_set_16 : decode cX5_set 16 = .ok (.iload_n 2, 1) := by decide +kernel
theorem dX5_set_17 : decode cX5_set 17 = .ok (.invokevirtual 105, 3) := by decide +kernel
theorem dX5_set_20 : decode cX5_set 20 = .ok (.ifCond .eq 6, 3) := by decide +kernel
theorem dX5_set_23 : decode cX5_set 23 = .ok (.bipush (-5), 2) := by decide +kernel
theorem dX5_set_25 : decode cX5_set 25 = .ok (.ireturn, 1) := by decide +kernel
theorem dX5_set_26 : decode cX5_set 26 = .ok (.aload_n 0, 1) := by decide +kernel
theorem dX5_set_27 : decode cX5_set 27 = .ok (.invokevirtual 108, 3) := by decide +kernel
theorem dX5_set_30 : decode cX5_set 30 = .ok (.aload_n 0, 1) := by decide +kernel
theorem dX5_set_31 : decode cX5_set 31 = .ok (.getfield 7, 3) := by decide +kernel
theorem dX5_set_34 : decode cX5_set 34 = .ok (.iload_n 1, 1) := by decide +kernel
theorem dX5_set_35 : decode cX5_set 35 = .ok (.iaload, 1) := by decide +kernel
theorem dX5_set_36 : decode cX5_set 36 = .ok (.istore_n 3, 1) := by decide +kernel
theorem dX5_set_37 : decode cX5_set 37 = .ok (.aload_n 0, 1) := by decide +kernel
theorem dX5_set_38 : decode cX5_set 38 = .ok (.getfield 7, 3) := by decide +kernel
theorem dX5_set_41 : decode cX5_set 41 = .ok (.iload_n 1, 1) := by decide +kernel
theorem dX5_set_42 : decode cX5_set 42 = .ok (.iload_n 2, 1) := by decide +kernel
theorem dX5_set_43 : decode cX5_set 43 = .ok (.iastore, 1) := by decide +kernel
theorem dX5_set_44 : decode cX5_set 44 = .ok (.iload_n 3, 1) := by decide +kernel
theorem dX5_set_45 : decode cX5_set 45 = .ok (.ireturn, 1) := by decide +kernel
theorem dX5_landings_0 : decode cX5_landings 0 = .ok (.iconst 0, 1) := by decide +kernel
theorem dX5_landings_1 : decode cX5_landings 1 = .ok (.istore_n 1, 1) := by decide +kernel
theorem dX5_landings_2 : decode cX5_landings 2 = .ok (.iconst 0, 1) := by decide +kernel
theorem dX5_landings_3 : decode cX5_landings 3 = .ok (.istore_n 2, 1) := by decide +kernel
theorem dX5_landings_4 : decode cX5_landings 4 = .ok (.iload_n 2, 1) := by decide +kernel
theorem dX5_landings_5 : decode cX5_landings 5 = .ok (.bipush 12, 2) := by decide +kernel
theorem dX5_landings_7 : decode cX5_landings 7 = .ok (.if_icmp .ge 25, 3) := by decide +kernel
theorem dX5_landings_10 : decode cX5_landings 10 = .ok (.iload_n 1, 1) := by decide +kernel
theorem dX5_landings_11 : decode cX5_landings 11 = .ok (.aload_n 0, 1) := by decide +kernel
theorem dX5_landings_12 : decode cX5_landings 12 = .ok (.iload_n 2, 1) := by decide +kernel
theorem dX5_landings_13 : decode cX5_landings 13 = .ok (.invokevirtual 49, 3) := by decide +kernel
theorem dX5_landings_16 : decode cX5_landings 16 = .ok (.ifCond .eq 7, 3) := by decide +kernel
theorem dX5_landings_19 : decode cX5_landings 19 = .ok (.iconst 1, 1) := by decide +kernel
theorem dX5_landings_20 : decode cX5_landings 20 = .ok (.goto 4, 3) := by decide +kernel
theorem dX5_landings_23 : decode cX5_landings 23 = .ok (.iconst 0, 1) := by decide +kernel
theorem dX5_landings_24 : decode cX5_landings 24 = .ok (.iadd, 1) := by decide +kernel
theorem dX5_landings_25 : decode cX5_landings 25 = .ok (.istore_n 1, 1) := by decide +kernel
theorem dX5_landings_26 : decode cX5_landings 26 = .ok (.iinc 2 1, 3) := by decide +kernel
theorem dX5_landings_29 : decode cX5_landings 29 = .ok (.goto (-25), 3) := by decide +kernel
theorem dX5_landings_32 : decode cX5_landings 32 = .ok (.iload_n 1, 1) := by decide +kernel
theorem dX5_landings_33 : decode cX5_landings 33 = .ok (.ireturn, 1) := by decide +kernel
theorem dX5_landing_0 : decode cX5_landing 0 = .ok (.iload_n 1, 1) := by decide +kernel
theorem dX5_landing_1 : decode cX5_landing 1 = .ok (.invokestatic 67, 3) := by decide +kernel
theorem dX5_landing_4 : decode cX5_landing 4 = .ok (.ifCond .ne 5, 3) := by decide +kernel
theorem dX5_landing_7 : decode cX5_landing 7 = .ok (.iconst (-1), 1) := by decide +kernel
theorem dX5_landing_8 : decode cX5_landing 8 = .ok (.ireturn, 1) := by decide +kernel
theorem dX5_landing_9 : decode cX5_landing 9 = .ok (.aload_n 0, 1) := by decide +kernel
theorem dX5_landing_10 : decode cX5_landing 10 = .ok (.iload_n 1, 1) := by decide +kernel
theorem dX5_landing_11 : decode cX5_landing 11 = .ok (.invokevirtual 49, 3) := by decide +kernel
theorem dX5_landing_14 : decode cX5_landing 14 = .ok (.iload_n 2, 1) := by decide +kernel
theorem dX5_landing_15 : decode cX5_landing 15 = .ok (.if_icmp .eq 12, 3) := by decide +kernel
theorem dX5_landing_18 : decode cX5_landing 18 = .ok (.aload_n 0, 1) := by decide +kernel
theorem dX5_landing_19 : decode cX5_landing 19 = .ok (.iload_n 1, 1) := by decide +kernel
theorem dX5_landing_20 : decode cX5_landing 20 = .ok (.invokevirtual 53, 3) := by decide +kernel
theorem dX5_landing_23 : decode cX5_landing 23 = .ok (.iconst 1, 1) := by decide +kernel
theorem dX5_landing_24 : decode cX5_landing 24 = .ok (.if_icmp .le 6, 3) := by decide +kernel
theorem dX5_landing_27 : decode cX5_landing 27 = .ok (.bipush (-5), 2) := by decide +kernel
theorem dX5_landing_29 : decode cX5_landing 29 = .ok (.ireturn, 1) := by decide +kernel
theorem dX5_landing_30 : decode cX5_landing 30 = .ok (.aload_n 0, 1) := by decide +kernel
theorem dX5_landing_31 : decode cX5_landing 31 = .ok (.invokevirtual 108, 3) := by decide +kernel
theorem dX5_landing_34 : decode cX5_landing 34 = .ok (.aload_n 0, 1) := by decide +kernel
theorem dX5_landing_35 : decode cX5_landing 35 = .ok (.getfield 7, 3) := by decide +kernel
theorem dX5_landing_38 : decode cX5_landing 38 = .ok (.iconst 5, 1) := by decide +kernel
theorem dX5_landing_39 : decode cX5_landing 39 = .ok (.dup2, 1) := by decide +kernel
theorem dX5_landing_40 : decode cX5_landing 40 = .ok (.iaload, 1) := by decide +kernel
theorem dX5_landing_41 : decode cX5_landing 41 = .ok (.iconst 1, 1) := by decide +kernel
theorem dX5_landing_42 : decode cX5_landing 42 = .ok (.iload_n 1, 1) := by decide +kernel
theorem dX5_landing_43 : decode cX5_landing 43 = .ok (.ishl, 1) := by decide +kernel
theorem dX5_landing_44 : decode cX5_landing 44 = .ok (.ixor, 1) := by decide +kernel
theorem dX5_landing_45 : decode cX5_landing 45 = .ok (.iastore, 1) := by decide +kernel
theorem dX5_landing_46 : decode cX5_landing 46 = .ok (.aload_n 0, 1) := by decide +kernel
theorem dX5_landing_47 : decode cX5_landing 47 = .ok (.invokevirtual 111, 3) := by decide +kernel
theorem dX5_landing_50 : decode cX5_landing 50 = .ok (.ireturn, 1) := by decide +kernel
theorem dX5_comes_0 : decode cX5_comes 0 = .ok (.aload_n 0, 1) := by decide +kernel
theorem dX5_comes_1 : decode cX5_comes 1 = .ok (.getfield 7, 3) := by decide +kernel
theorem dX5_comes_4 : decode cX5_comes 4 = .ok (.iconst 4, 1) := by decide +kernel
theorem dX5_comes_5 : decode cX5_comes 5 = .ok (.iaload, 1) := by decide +kernel
theorem dX5_comes_6 : decode cX5_comes 6 = .ok (.istore_n 3, 1) := by decide +kernel
theorem dX5_comes_7 : decode cX5_comes 7 = .ok (.aload_n 0, 1) := by decide +kernel
theorem dX5_comes_8 : decode cX5_comes 8 = .ok (.getfield 7, 3) := by decide +kernel
theorem dX5_comes_11 : decode cX5_comes 11 = .ok (.iconst 4, 1) := by decide +kernel
theorem dX5_comes_12 : decode cX5_comes 12 = .ok (.dup2, 1) := by decide +kernel
theorem dX5_comes_13 : decode cX5_comes 13 = .ok (.iaload, 1) := by decide +kernel
theorem dX5_comes_14 : decode cX5_comes 14 = .ok (.iconst 1, 1) := by decide +kernel
theorem dX5_comes_15 : decode cX5_comes 15 = .ok (.iadd, 1) := by decide +kernel
theorem dX5_comes_16 : decode cX5_comes 16 = .ok (.iastore, 1) := by decide +kernel
theorem dX5_comes_17 : decode cX5_comes 17 = .ok (.iconst 0, 1) := by decide +kernel
theorem dX5_comes_18 : decode cX5_comes 18 = .ok (.istore 4, 2) := by decide +kernel
theorem dX5_comes_20 : decode cX5_comes 20 = .ok (.iload 4, 2) := by decide +kernel
theorem dX5_comes_22 : decode cX5_comes 22 = .ok (.bipush 9, 2) := by decide +kernel
theorem dX5_comes_24 : decode cX5_comes 24 = .ok (.if_icmp .ge 17, 3) := by decide +kernel
theorem dX5_comes_27 : decode cX5_comes 27 = .ok (.aload_n 0, 1) := by decide +kernel
theorem dX5_comes_28 : decode cX5_comes 28 = .ok (.iload_n 3, 1) := by decide +kernel
theorem dX5_comes_29 : decode cX5_comes 29 = .ok (.iload 4, 2) := by decide +kernel
theorem dX5_comes_31 : decode cX5_comes 31 = .ok (.iconst 0, 1) := by decide +kernel
theorem dX5_comes_32 : decode cX5_comes 32 = .ok (.invokevirtual 63, 3) := by decide +kernel
theorem dX5_comes_35 : decode cX5_comes 35 = .ok (.iinc 4 1, 3) := by decide +kernel
theorem dX5_comes_38 : decode cX5_comes 38 = .ok (.goto (-18), 3) := by decide +kernel
theorem dX5_comes_41 : decode cX5_comes 41 = .ok (.aload_n 0, 1) := by decide +kernel
theorem dX5_comes_42 : decode cX5_comes 42 = .ok (.iload_n 3, 1) := by decide +kernel
theorem dX5_comes_43 : decode cX5_comes 43 = .ok (.iconst 0, 1) := by decide +kernel
theorem dX5_comes_44 : decode cX5_comes 44 = .ok (.iload_n 1, 1) := by decide +kernel
theorem dX5_comes_45 : decode cX5_comes 45 = .ok (.invokevirtual 63, 3) := by decide +kernel
theorem dX5_comes_48 : decode cX5_comes 48 = .ok (.aload_n 0, 1) := by decide +kernel
theorem dX5_comes_49 : decode cX5_comes 49 = .ok (.iload_n 3, 1) := by decide +kernel
theorem dX5_comes_50 : decode cX5_comes 50 = .ok (.iconst 1, 1) := by decide +kernel
theorem dX5_comes_51 : decode cX5_comes 51 = .ok (.iload_n 2, 1) := by decide +kernel
theorem dX5_comes_52 : decode cX5_comes 52 = .ok (.invokevirtual 63, 3) := by decide +kernel
theorem dX5_comes_55 : decode cX5_comes 55 = .ok (.aload_n 0, 1) := by decide +kernel
theorem dX5_comes_56 : decode cX5_comes 56 = .ok (.iload_n 3, 1) := by decide +kernel
theorem dX5_comes_57 : decode cX5_comes 57 = .ok (.iconst 3, 1) := by decide +kernel
theorem dX5_comes_58 : decode cX5_comes 58 = .ok (.bipush (-6), 2) := by decide +kernel
theorem dX5_comes_60 : decode cX5_comes 60 = .ok (.invokevirtual 63, 3) := by decide +kernel
theorem dX5_comes_63 : decode cX5_comes 63 = .ok (.aload_n 0, 1) := by decide +kernel
theorem dX5_comes_64 : decode cX5_comes 64 = .ok (.iload_n 3, 1) := by decide +kernel
theorem dX5_comes_65 : decode cX5_comes 65 = .ok (.bipush 7, 2) := by decide +kernel
theorem dX5_comes_67 : decode cX5_comes 67 = .ok (.bipush (-6), 2) := by decide +kernel
theorem dX5_comes_69 : decode cX5_comes 69 = .ok (.invokevirtual 63, 3) := by decide +kernel
theorem dX5_comes_72 : decode cX5_comes 72 = .ok (.return_, 1) := by decide +kernel
theorem dX5_come_0 : decode cX5_come 0 = .ok (.iload_n 1, 1) := by decide +kernel
theorem dX5_come_1 : decode cX5_come 1 = .ok (.i2l, 1) := by decide +kernel
theorem dX5_come_2 : decode cX5_come 2 = .ok (.lconst 1, 1) := by decide +kernel
theorem dX5_come_3 : decode cX5_come 3 = .ok (.ldc2_w 100, 3) := by decide +kernel
theorem dX5_come_6 : decode cX5_come 6 = .ok (.invokestatic 35, 3) := by decide +kernel
theorem dX5_come_9 : decode cX5_come 9 = .ok (.ifCond .ne 6, 3) := by decide +kernel
theorem dX5_come_12 : decode cX5_come 12 = .ok (.bipush (-2), 2) := by decide +kernel
theorem dX5_come_14 : decode cX5_come 14 = .ok (.ireturn, 1) := by decide +kernel
theorem dX5_come_15 : decode cX5_come 15 = .ok (.aload_n 0, 1) := by decide +kernel
theorem dX5_come_16 : decode cX5_come 16 = .ok (.getfield 7, 3) := by decide +kernel
theorem dX5_come_19 : decode cX5_come 19 = .ok (.iconst 4, 1) := by decide +kernel
theorem dX5_come_20 : decode cX5_come 20 = .ok (.iaload, 1) := by decide +kernel
theorem dX5_come_21 : decode cX5_come 21 = .ok (.bipush 24, 2) := by decide +kernel
theorem dX5_come_23 : decode cX5_come 23 = .ok (.if_icmp .ne 6, 3) := by decide +kernel
theorem dX5_come_26 : decode cX5_come 26 = .ok (.bipush (-4), 2) := by decide +kernel
theorem dX5_come_28 : decode cX5_come 28 = .ok (.ireturn, 1) := by decide +kernel
theorem dX5_come_29 : decode cX5_come 29 = .ok (.aload_n 0, 1) := by decide +kernel
theorem dX5_come_30 : decode cX5_come 30 = .ok (.invokevirtual 108, 3) := by decide +kernel
theorem dX5_come_33 : decode cX5_come 33 = .ok (.aload_n 0, 1) := by decide +kernel
theorem dX5_come_34 : decode cX5_come 34 = .ok (.iload_n 1, 1) := by decide +kernel
theorem dX5_come_35 : decode cX5_come 35 = .ok (.iload_n 2, 1) := by decide +kernel
theorem dX5_come_36 : decode cX5_come 36 = .ok (.ifCond .eq 7, 3) := by decide +kernel
theorem dX5_come_39 : decode cX5_come 39 = .ok (.iconst 1, 1) := by decide +kernel
theorem dX5_come_40 : decode cX5_come 40 = .ok (.goto 4, 3) := by decide +kernel
theorem dX5_come_43 : decode cX5_come 43 = .ok (.iconst 0, 1) := by decide +kernel
theorem dX5_come_44 : decode cX5_come 44 = .ok (.invokevirtual 115, 3) := by decide +kernel
theorem dX5_come_47 : decode cX5_come 47 = .ok (.aload_n 0, 1) := by decide +kernel
theorem dX5_come_48 : decode cX5_come 48 = .ok (.getfield 7, 3) := by decide +kernel
theorem dX5_come_51 : decode cX5_come 51 = .ok (.iconst 4, 1) := by decide +kernel
theorem dX5_come_52 : decode cX5_come 52 = .ok (.iaload, 1) := by decide +kernel
theorem dX5_come_53 : decode cX5_come 53 = .ok (.iconst 1, 1) := by decide +kernel
theorem dX5_come_54 : decode cX5_come 54 = .ok (.isub, 1) := by decide +kernel
theorem dX5_come_55 : decode cX5_come 55 = .ok (.ireturn, 1) := by decide +kernel
theorem dX5_isAllowed_0 : decode cX5_isAllowed 0 = .ok (.iload_n 1, 1) := by decide +kernel
theorem dX5_isAllowed_1 : decode cX5_isAllowed 1 = .ok (.iconst 2, 1) := by decide +kernel
theorem dX5_isAllowed_2 : decode cX5_isAllowed 2 = .ok (.irem, 1) := by decide +kernel
theorem dX5_isAllowed_3 : decode cX5_isAllowed 3 = .ok (.ifCond .ne 33, 3) := by decide +kernel
theorem dX5_isAllowed_6 : decode cX5_isAllowed 6 = .ok (.aload_n 0, 1) := by decide +kernel
theorem dX5_isAllowed_7 : decode cX5_isAllowed 7 = .ok (.getfield 28, 3) := by decide +kernel
theorem dX5_isAllowed_10 : decode cX5_isAllowed 10 = .ok (.iload_n 1, 1) := by decide +kernel
theorem dX5_isAllowed_11 : decode cX5_isAllowed 11 = .ok (.iaload, 1) := by decide +kernel
theorem dX5_isAllowed_12 : decode cX5_isAllowed 12 = .ok (.bipush 117, 2) := by decide +kernel
theorem dX5_isAllowed_14 : decode cX5_isAllowed 14 = .ok (.if_icmp .eq 14, 3) := by decide +kernel
theorem dX5_isAllowed_17 : decode cX5_isAllowed 17 = .ok (.aload_n 0, 1) := by decide +kernel
theorem dX5_isAllowed_18 : decode cX5_isAllowed 18 = .ok (.getfield 28, 3) := by decide +kernel
theorem dX5_isAllowed_21 : decode cX5_isAllowed 21 = .ok (.iload_n 1, 1) := by decide +kernel
theorem dX5_isAllowed_22 : decode cX5_isAllowed 22 = .ok (.iaload, 1) := by decide +kernel
theorem dX5_isAllowed_23 : decode cX5_isAllowed 23 = .ok (.bipush 100, 2) := by decide +kernel
theorem dX5_isAllowed_25 : decode cX5_isAllowed 25 = .ok (.if_icmp .ne 7, 3) := by decide +kernel
theorem dX5_isAllowed_28 : decode cX5_isAllowed 28 = .ok (.iconst 1, 1) := by decide +kernel
theorem dX5_isAllowed_29 : decode cX5_isAllowed 29 = .ok (.goto 23, 3) := by decide +kernel
theorem dX5_isAllowed_32 : decode cX5_isAllowed 32 = .ok (.iconst 0, 1) := by decide +kernel
theorem dX5_isAllowed_33 : decode cX5_isAllowed 33 = .ok (.goto 19, 3) := by decide +kernel
theorem dX5_isAllowed_36 : decode cX5_isAllowed 36 = .ok (.aload_n 0, 1) := by decide +kernel
theorem dX5_isAllowed_37 : decode cX5_isAllowed 37 = .ok (.getfield 28, 3) := by decide +kernel
theorem dX5_isAllowed_40 : decode cX5_isAllowed 40 = .ok (.iload_n 1, 1) := by decide +kernel
theorem dX5_isAllowed_41 : decode cX5_isAllowed 41 = .ok (.iaload, 1) := by decide +kernel
theorem dX5_isAllowed_42 : decode cX5_isAllowed 42 = .ok (.i2l, 1) := by decide +kernel
theorem dX5_isAllowed_43 : decode cX5_isAllowed 43 = .ok (.ldc2_w 172, 3) := by decide +kernel
theorem dX5_isAllowed_46 : decode cX5_isAllowed 46 = .ok (.ldc2_w 174, 3) := by decide +kernel
theorem dX5_isAllowed_49 : decode cX5_isAllowed 49 = .ok (.invokestatic 35, 3) := by decide +kernel
theorem dX5_isAllowed_52 : decode cX5_isAllowed 52 = .ok (.ireturn, 1) := by decide +kernel
theorem dX5_fault_0 : decode cX5_fault 0 = .ok (.iconst 0, 1) := by decide +kernel
theorem dX5_fault_1 : decode cX5_fault 1 = .ok (.istore_n 1, 1) := by decide +kernel
theorem dX5_fault_2 : decode cX5_fault 2 = .ok (.iload_n 1, 1) := by decide +kernel
theorem dX5_fault_3 : decode cX5_fault 3 = .ok (.aload_n 0, 1) := by decide +kernel
theorem dX5_fault_4 : decode cX5_fault 4 = .ok (.getfield 121, 3) := by decide +kernel
theorem dX5_fault_7 : decode cX5_fault 7 = .ok (.if_icmp .ge 17, 3) := by decide +kernel
theorem dX5_fault_10 : decode cX5_fault 10 = .ok (.aload_n 0, 1) := by decide +kernel
theorem dX5_fault_11 : decode cX5_fault 11 = .ok (.iload_n 1, 1) := by decide +kernel
theorem dX5_fault_12 : decode cX5_fault 12 = .ok (.invokevirtual 176, 3) := by decide +kernel
theorem dX5_fault_15 : decode cX5_fault 15 = .ok (.ifCond .eq 9, 3) := by decide +kernel
theorem dX5_fault_18 : decode cX5_fault 18 = .ok (.iinc 1 1, 3) := by decide +kernel
theorem dX5_fault_21 : decode cX5_fault 21 = .ok (.goto (-19), 3) := by decide +kernel
theorem dX5_fault_24 : decode cX5_fault 24 = .ok (.iload_n 1, 1) := by decide +kernel
theorem dX5_fault_25 : decode cX5_fault 25 = .ok (.aload_n 0, 1) := by decide +kernel
theorem dX5_fault_26 : decode cX5_fault 26 = .ok (.getfield 121, 3) := by decide +kernel
theorem dX5_fault_29 : decode cX5_fault 29 = .ok (.if_icmp .ne 18, 3) := by decide +kernel
theorem dX5_fault_32 : decode cX5_fault 32 = .ok (.iload_n 1, 1) := by decide +kernel
theorem dX5_fault_33 : decode cX5_fault 33 = .ok (.ifCond .le 14, 3) := by decide +kernel
theorem dX5_fault_36 : decode cX5_fault 36 = .ok (.iload_n 1, 1) := by decide +kernel
theorem dX5_fault_37 : decode cX5_fault 37 = .ok (.iconst 2, 1) := by decide +kernel
theorem dX5_fault_38 : decode cX5_fault 38 = .ok (.irem, 1) := by decide +kernel
theorem dX5_fault_39 : decode cX5_fault 39 = .ok (.ifCond .ne 8, 3) := by decide +kernel
theorem dX5_fault_42 : decode cX5_fault 42 = .ok (.bipush (-6), 2) := by decide +kernel
theorem dX5_fault_44 : decode cX5_fault 44 = .ok (.goto 4, 3) := by decide +kernel
theorem dX5_fault_47 : decode cX5_fault 47 = .ok (.iload_n 1, 1) := by decide +kernel
theorem dX5_fault_48 : decode cX5_fault 48 = .ok (.ireturn, 1) := by decide +kernel
theorem dX5_read_0 : decode cX5_read 0 = .ok (.aload_n 0, 1) := by decide +kernel
theorem dX5_read_1 : decode cX5_read 1 = .ok (.invokevirtual 118, 3) := by decide +kernel
theorem dX5_read_4 : decode cX5_read 4 = .ok (.bipush (-6), 2) := by decide +kernel
theorem dX5_read_6 : decode cX5_read 6 = .ok (.if_icmp .eq 6, 3) := by decide +kernel
theorem dX5_read_9 : decode cX5_read 9 = .ok (.bipush (-3), 2) := by decide +kernel
theorem dX5_read_11 : decode cX5_read 11 = .ok (.ireturn, 1) := by decide +kernel
theorem dX5_read_12 : decode cX5_read 12 = .ok (.aload_n 0, 1) := by decide +kernel
theorem dX5_read_13 : decode cX5_read 13 = .ok (.getfield 7, 3) := by decide +kernel
theorem dX5_read_16 : decode cX5_read 16 = .ok (.iconst 4, 1) := by decide +kernel
theorem dX5_read_17 : decode cX5_read 17 = .ok (.iaload, 1) := by decide +kernel
theorem dX5_read_18 : decode cX5_read 18 = .ok (.aload_n 0, 1) := by decide +kernel
theorem dX5_read_19 : decode cX5_read 19 = .ok (.getfield 121, 3) := by decide +kernel
theorem dX5_read_22 : decode cX5_read 22 = .ok (.iconst 2, 1) := by decide +kernel
theorem dX5_read_23 : decode cX5_read 23 = .ok (.idiv, 1) := by decide +kernel
theorem dX5_read_24 : decode cX5_read 24 = .ok (.iadd, 1) := by decide +kernel
theorem dX5_read_25 : decode cX5_read 25 = .ok (.bipush 24, 2) := by decide +kernel
theorem dX5_read_27 : decode cX5_read 27 = .ok (.if_icmp .le 6, 3) := by decide +kernel
theorem dX5_read_30 : decode cX5_read 30 = .ok (.bipush (-4), 2) := by decide +kernel
theorem dX5_read_32 : decode cX5_read 32 = .ok (.ireturn, 1) := by decide +kernel
theorem dX5_read_33 : decode cX5_read 33 = .ok (.aload_n 0, 1) := by decide +kernel
theorem dX5_read_34 : decode cX5_read 34 = .ok (.invokevirtual 108, 3) := by decide +kernel
theorem dX5_read_37 : decode cX5_read 37 = .ok (.iconst 0, 1) := by decide +kernel
theorem dX5_read_38 : decode cX5_read 38 = .ok (.istore_n 1, 1) := by decide +kernel
theorem dX5_read_39 : decode cX5_read 39 = .ok (.iload_n 1, 1) := by decide +kernel
theorem dX5_read_40 : decode cX5_read 40 = .ok (.aload_n 0, 1) := by decide +kernel
theorem dX5_read_41 : decode cX5_read 41 = .ok (.getfield 121, 3) := by decide +kernel
theorem dX5_read_44 : decode cX5_read 44 = .ok (.if_icmp .ge 40, 3) := by decide +kernel
theorem dX5_read_47 : decode cX5_read 47 = .ok (.aload_n 0, 1) := by decide +kernel
theorem dX5_read_48 : decode cX5_read 48 = .ok (.aload_n 0, 1) := by decide +kernel
theorem dX5_read_49 : decode cX5_read 49 = .ok (.getfield 28, 3) := by decide +kernel
theorem dX5_read_52 : decode cX5_read 52 = .ok (.iload_n 1, 1) := by decide +kernel
theorem dX5_read_53 : decode cX5_read 53 = .ok (.iconst 1, 1) := by decide +kernel
theorem dX5_read_54 : decode cX5_read 54 = .ok (.iadd, 1) := by decide +kernel
theorem dX5_read_55 : decode cX5_read 55 = .ok (.iaload, 1) := by decide +kernel
theorem dX5_read_56 : decode cX5_read 56 = .ok (.bipush 48, 2) := by decide +kernel
theorem dX5_read_58 : decode cX5_read 58 = .ok (.isub, 1) := by decide +kernel
theorem dX5_read_59 : decode cX5_read 59 = .ok (.aload_n 0, 1) := by decide +kernel
theorem dX5_read_60 : decode cX5_read 60 = .ok (.getfield 28, 3) := by decide +kernel
theorem dX5_read_63 : decode cX5_read 63 = .ok (.iload_n 1, 1) := by decide +kernel
theorem dX5_read_64 : decode cX5_read 64 = .ok (.iaload, 1) := by decide +kernel
theorem dX5_read_65 : decode cX5_read 65 = .ok (.bipush 117, 2) := by decide +kernel
theorem dX5_read_67 : decode cX5_read 67 = .ok (.if_icmp .ne 7, 3) := by decide +kernel
theorem dX5_read_70 : decode cX5_read 70 = .ok (.iconst 1, 1) := by decide +kernel
theorem dX5_read_71 : decode cX5_read 71 = .ok (.goto 4, 3) := by decide +kernel
theorem dX5_read_74 : decode cX5_read 74 = .ok (.iconst 0, 1) := by decide +kernel
theorem dX5_read_75 : decode cX5_read 75 = .ok (.invokevirtual 115, 3) := by decide +kernel
theorem dX5_read_78 : decode cX5_read 78 = .ok (.iinc 1 2, 3) := by decide +kernel
theorem dX5_read_81 : decode cX5_read 81 = .ok (.goto (-42), 3) := by decide +kernel
theorem dX5_read_84 : decode cX5_read 84 = .ok (.aload_n 0, 1) := by decide +kernel
theorem dX5_read_85 : decode cX5_read 85 = .ok (.iconst 0, 1) := by decide +kernel
theorem dX5_read_86 : decode cX5_read 86 = .ok (.putfield 121, 3) := by decide +kernel
theorem dX5_read_89 : decode cX5_read 89 = .ok (.aload_n 0, 1) := by decide +kernel
theorem dX5_read_90 : decode cX5_read 90 = .ok (.getfield 7, 3) := by decide +kernel
theorem dX5_read_93 : decode cX5_read 93 = .ok (.iconst 4, 1) := by decide +kernel
theorem dX5_read_94 : decode cX5_read 94 = .ok (.iaload, 1) := by decide +kernel
theorem dX5_read_95 : decode cX5_read 95 = .ok (.ireturn, 1) := by decide +kernel
theorem dX5_turn_0 : decode cX5_turn 0 = .ok (.aload_n 0, 1) := by decide +kernel
theorem dX5_turn_1 : decode cX5_turn 1 = .ok (.iload_n 1, 1) := by decide +kernel
theorem dX5_turn_2 : decode cX5_turn 2 = .ok (.invokevirtual 124, 3) := by decide +kernel
theorem dX5_turn_5 : decode cX5_turn 5 = .ok (.ifCond .ne 5, 3) := by decide +kernel
theorem dX5_turn_8 : decode cX5_turn 8 = .ok (.iconst (-1), 1) := by decide +kernel
theorem dX5_turn_9 : decode cX5_turn 9 = .ok (.ireturn, 1) := by decide +kernel
theorem dX5_turn_10 : decode cX5_turn 10 = .ok (.aload_n 0, 1) := by decide +kernel
theorem dX5_turn_11 : decode cX5_turn 11 = .ok (.iload_n 1, 1) := by decide +kernel
theorem dX5_turn_12 : decode cX5_turn 12 = .ok (.iconst 2, 1) := by decide +kernel
theorem dX5_turn_13 : decode cX5_turn 13 = .ok (.invokevirtual 41, 3) := by decide +kernel
theorem dX5_turn_16 : decode cX5_turn 16 = .ok (.iconst 1, 1) := by decide +kernel
theorem dX5_turn_17 : decode cX5_turn 17 = .ok (.if_icmp .eq 6, 3) := by decide +kernel
theorem dX5_turn_20 : decode cX5_turn 20 = .ok (.bipush (-5), 2) := by decide +kernel
theorem dX5_turn_22 : decode cX5_turn 22 = .ok (.ireturn, 1) := by decide +kernel
theorem dX5_turn_23 : decode cX5_turn 23 = .ok (.aload_n 0, 1) := by decide +kernel
theorem dX5_turn_24 : decode cX5_turn 24 = .ok (.invokevirtual 108, 3) := by decide +kernel
theorem dX5_turn_27 : decode cX5_turn 27 = .ok (.aload_n 0, 1) := by decide +kernel
theorem dX5_turn_28 : decode cX5_turn 28 = .ok (.iload_n 1, 1) := by decide +kernel
theorem dX5_turn_29 : decode cX5_turn 29 = .ok (.iconst 1, 1) := by decide +kernel
theorem dX5_turn_30 : decode cX5_turn 30 = .ok (.iconst 1, 1) := by decide +kernel
theorem dX5_turn_31 : decode cX5_turn 31 = .ok (.aload_n 0, 1) := by decide +kernel
theorem dX5_turn_32 : decode cX5_turn 32 = .ok (.iload_n 1, 1) := by decide +kernel
theorem dX5_turn_33 : decode cX5_turn 33 = .ok (.iconst 1, 1) := by decide +kernel
theorem dX5_turn_34 : decode cX5_turn 34 = .ok (.invokevirtual 41, 3) := by decide +kernel
theorem dX5_turn_37 : decode cX5_turn 37 = .ok (.isub, 1) := by decide +kernel
theorem dX5_turn_38 : decode cX5_turn 38 = .ok (.invokevirtual 63, 3) := by decide +kernel
theorem dX5_turn_41 : decode cX5_turn 41 = .ok (.aload_n 0, 1) := by decide +kernel
theorem dX5_turn_42 : decode cX5_turn 42 = .ok (.iload_n 1, 1) := by decide +kernel
theorem dX5_turn_43 : decode cX5_turn 43 = .ok (.iconst 1, 1) := by decide +kernel
theorem dX5_turn_44 : decode cX5_turn 44 = .ok (.invokevirtual 41, 3) := by decide +kernel
theorem dX5_turn_47 : decode cX5_turn 47 = .ok (.ireturn, 1) := by decide +kernel
theorem dX5_pass_0 : decode cX5_pass 0 = .ok (.iload_n 1, 1) := by decide +kernel
theorem dX5_pass_1 : decode cX5_pass 1 = .ok (.i2l, 1) := by decide +kernel
theorem dX5_pass_2 : decode cX5_pass 2 = .ok (.lconst 1, 1) := by decide +kernel
theorem dX5_pass_3 : decode cX5_pass 3 = .ok (.ldc2_w 127, 3) := by decide +kernel
theorem dX5_pass_6 : decode cX5_pass 6 = .ok (.invokestatic 35, 3) := by decide +kernel
theorem dX5_pass_9 : decode cX5_pass 9 = .ok (.ifCond .ne 6, 3) := by decide +kernel
theorem dX5_pass_12 : decode cX5_pass 12 = .ok (.bipush (-2), 2) := by decide +kernel
theorem dX5_pass_14 : decode cX5_pass 14 = .ok (.ireturn, 1) := by decide +kernel
theorem dX5_pass_15 : decode cX5_pass 15 = .ok (.aload_n 0, 1) := by decide +kernel
theorem dX5_pass_16 : decode cX5_pass 16 = .ok (.getfield 7, 3) := by decide +kernel
theorem dX5_pass_19 : decode cX5_pass 19 = .ok (.iconst 3, 1) := by decide +kernel
theorem dX5_pass_20 : decode cX5_pass 20 = .ok (.iaload, 1) := by decide +kernel
theorem dX5_pass_21 : decode cX5_pass 21 = .ok (.iload_n 1, 1) := by decide +kernel
theorem dX5_pass_22 : decode cX5_pass 22 = .ok (.iadd, 1) := by decide +kernel
theorem dX5_pass_23 : decode cX5_pass 23 = .ok (.sipush 9999, 3) := by decide +kernel
theorem dX5_pass_26 : decode cX5_pass 26 = .ok (.if_icmp .le 6, 3) := by decide +kernel
theorem dX5_pass_29 : decode cX5_pass 29 = .ok (.bipush (-4), 2) := by decide +kernel
theorem dX5_pass_31 : decode cX5_pass 31 = .ok (.ireturn, 1) := by decide +kernel
theorem dX5_pass_32 : decode cX5_pass 32 = .ok (.aload_n 0, 1) := by decide +kernel
theorem dX5_pass_33 : decode cX5_pass 33 = .ok (.invokevirtual 108, 3) := by decide +kernel
theorem dX5_pass_36 : decode cX5_pass 36 = .ok (.aload_n 0, 1) := by decide +kernel
theorem dX5_pass_37 : decode cX5_pass 37 = .ok (.iconst 2, 1) := by decide +kernel
theorem dX5_pass_38 : decode cX5_pass 38 = .ok (.invokevirtual 129, 3) := by decide +kernel
theorem dX5_pass_41 : decode cX5_pass 41 = .ok (.istore_n 2, 1) := by decide +kernel
theorem dX5_pass_42 : decode cX5_pass 42 = .ok (.iconst 0, 1) := by decide +kernel
theorem dX5_pass_43 : decode cX5_pass 43 = .ok (.istore_n 3, 1) := by decide +kernel
theorem dX5_pass_44 : decode cX5_pass 44 = .ok (.iload_n 3, 1) := by decide +kernel
theorem dX5_pass_45 : decode cX5_pass 45 = .ok (.iload_n 1, 1) := by decide +kernel
theorem dX5_pass_46 : decode cX5_pass 46 = .ok (.if_icmp .ge 13, 3) := by decide +kernel
theorem dX5_pass_49 : decode cX5_pass 49 = .ok (.aload_n 0, 1) := by decide +kernel
theorem dX5_pass_50 : decode cX5_pass 50 = .ok (.invokevirtual 132, 3) := by decide +kernel
theorem dX5_pass_53 : decode cX5_pass 53 = .ok (.iinc 3 1, 3) := by decide +kernel
theorem dX5_pass_56 : decode cX5_pass 56 = .ok (.goto (-12), 3) := by decide +kernel
theorem dX5_pass_59 : decode cX5_pass 59 = .ok (.aload_n 0, 1) := by decide +kernel
theorem dX5_pass_60 : decode cX5_pass 60 = .ok (.iconst 2, 1) := by decide +kernel
theorem dX5_pass_61 : decode cX5_pass 61 = .ok (.invokevirtual 129, 3) := by decide +kernel
theorem dX5_pass_64 : decode cX5_pass 64 = .ok (.iload_n 2, 1) := by decide +kernel
theorem dX5_pass_65 : decode cX5_pass 65 = .ok (.isub, 1) := by decide +kernel
theorem dX5_pass_66 : decode cX5_pass 66 = .ok (.ireturn, 1) := by decide +kernel
theorem dX5_person_0 : decode cX5_person 0 = .ok (.aload_n 0, 1) := by decide +kernel
theorem dX5_person_1 : decode cX5_person 1 = .ok (.iload_n 1, 1) := by decide +kernel
theorem dX5_person_2 : decode cX5_person 2 = .ok (.invokevirtual 124, 3) := by decide +kernel
theorem dX5_person_5 : decode cX5_person 5 = .ok (.ifCond .ne 5, 3) := by decide +kernel
theorem dX5_person_8 : decode cX5_person 8 = .ok (.iconst (-1), 1) := by decide +kernel
theorem dX5_person_9 : decode cX5_person 9 = .ok (.ireturn, 1) := by decide +kernel
theorem dX5_person_10 : decode cX5_person 10 = .ok (.iload_n 2, 1) := by decide +kernel
theorem dX5_person_11 : decode cX5_person 11 = .ok (.i2l, 1) := by decide +kernel
theorem dX5_person_12 : decode cX5_person 12 = .ok (.lconst 0, 1) := by decide +kernel
theorem dX5_person_13 : decode cX5_person 13 = .ok (.ldc2_w 135, 3) := by decide +kernel
theorem dX5_person_16 : decode cX5_person 16 = .ok (.invokestatic 35, 3) := by decide +kernel
theorem dX5_person_19 : decode cX5_person 19 = .ok (.ifCond .eq 12, 3) := by decide +kernel
theorem dX5_person_22 : decode cX5_person 22 = .ok (.aload_n 0, 1) := by decide +kernel
theorem dX5_person_23 : decode cX5_person 23 = .ok (.iload_n 1, 1) := by decide +kernel
theorem dX5_person_24 : decode cX5_person 24 = .ok (.iload_n 2, 1) := by decide +kernel
theorem dX5_person_25 : decode cX5_person 25 = .ok (.invokevirtual 41, 3) := by decide +kernel
theorem dX5_person_28 : decode cX5_person 28 = .ok (.goto 5, 3) := by decide +kernel
theorem dX5_person_31 : decode cX5_person 31 = .ok (.bipush (-2), 2) := by decide +kernel
theorem dX5_person_33 : decode cX5_person 33 = .ok (.ireturn, 1) := by decide +kernel
theorem dX5_highestAt_0 : decode cX5_highestAt 0 = .ok (.bipush (-6), 2) := by decide +kernel
theorem dX5_highestAt_2 : decode cX5_highestAt 2 = .ok (.istore_n 2, 1) := by decide +kernel
theorem dX5_highestAt_3 : decode cX5_highestAt 3 = .ok (.iconst 0, 1) := by decide +kernel
theorem dX5_highestAt_4 : decode cX5_highestAt 4 = .ok (.istore_n 3, 1) := by decide +kernel
theorem dX5_highestAt_5 : decode cX5_highestAt 5 = .ok (.iload_n 3, 1) := by decide +kernel
theorem dX5_highestAt_6 : decode cX5_highestAt 6 = .ok (.aload_n 0, 1) := by decide +kernel
theorem dX5_highestAt_7 : decode cX5_highestAt 7 = .ok (.getfield 7, 3) := by decide +kernel
theorem dX5_highestAt_10 : decode cX5_highestAt 10 = .ok (.iconst 4, 1) := by decide +kernel
theorem dX5_highestAt_11 : decode cX5_highestAt 11 = .ok (.iaload, 1) := by decide +kernel
theorem dX5_highestAt_12 : decode cX5_highestAt 12 = .ok (.if_icmp .ge 45, 3) := by decide +kernel
theorem dX5_highestAt_15 : decode cX5_highestAt 15 = .ok (.aload_n 0, 1) := by decide +kernel
theorem dX5_highestAt_16 : decode cX5_highestAt 16 = .ok (.iload_n 3, 1) := by decide +kernel
theorem dX5_highestAt_17 : decode cX5_highestAt 17 = .ok (.iload_n 1, 1) := by decide +kernel
theorem dX5_highestAt_18 : decode cX5_highestAt 18 = .ok (.invokevirtual 45, 3) := by decide +kernel
theorem dX5_highestAt_21 : decode cX5_highestAt 21 = .ok (.ifCond .eq 28, 3) := by decide +kernel
theorem dX5_highestAt_24 : decode cX5_highestAt 24 = .ok (.iload_n 2, 1) := by decide +kernel
theorem dX5_highestAt_25 : decode cX5_highestAt 25 = .ok (.bipush (-6), 2) := by decide +kernel
theorem dX5_highestAt_27 : decode cX5_highestAt 27 = .ok (.if_icmp .eq 18, 3) := by decide +kernel
theorem dX5_highestAt_30 : decode cX5_highestAt 30 = .ok (.aload_n 0, 1) := by decide +kernel
theorem dX5_highestAt_31 : decode cX5_highestAt 31 = .ok (.iload_n 3, 1) := by decide +kernel
theorem dX5_highestAt_32 : decode cX5_highestAt 32 = .ok (.iconst 0, 1) := by decide +kernel
theorem dX5_highestAt_33 : decode cX5_highestAt 33 = .ok (.invokevirtual 41, 3) := by decide +kernel
theorem dX5_highestAt_36 : decode cX5_highestAt 36 = .ok (.aload_n 0, 1) := by decide +kernel
theorem dX5_highestAt_37 : decode cX5_highestAt 37 = .ok (.iload_n 2, 1) := by decide +kernel
theorem dX5_highestAt_38 : decode cX5_highestAt 38 = .ok (.iconst 0, 1) := by decide +kernel
theorem dX5_highestAt_39 : decode cX5_highestAt 39 = .ok (.invokevirtual 41, 3) := by decide +kernel
theorem dX5_highestAt_42 : decode cX5_highestAt 42 = .ok (.if_icmp .le 7, 3) := by decide +kernel
theorem dX5_highestAt_45 : decode cX5_highestAt 45 = .ok (.iload_n 3, 1) := by decide +kernel
theorem dX5_highestAt_46 : decode cX5_highestAt 46 = .ok (.goto 4, 3) := by decide +kernel
theorem dX5_highestAt_49 : decode cX5_highestAt 49 = .ok (.iload_n 2, 1) := by decide +kernel
theorem dX5_highestAt_50 : decode cX5_highestAt 50 = .ok (.istore_n 2, 1) := by decide +kernel
theorem dX5_highestAt_51 : decode cX5_highestAt 51 = .ok (.iinc 3 1, 3) := by decide +kernel
theorem dX5_highestAt_54 : decode cX5_highestAt 54 = .ok (.goto (-49), 3) := by decide +kernel
theorem dX5_highestAt_57 : decode cX5_highestAt 57 = .ok (.iload_n 2, 1) := by decide +kernel
theorem dX5_highestAt_58 : decode cX5_highestAt 58 = .ok (.ireturn, 1) := by decide +kernel
theorem dX5_step_0 : decode cX5_step 0 = .ok (.iload_n 1, 1) := by decide +kernel
theorem dX5_step_1 : decode cX5_step 1 = .ok (.invokestatic 67, 3) := by decide +kernel
theorem dX5_step_4 : decode cX5_step 4 = .ok (.ifCond .ne 5, 3) := by decide +kernel
theorem dX5_step_7 : decode cX5_step 7 = .ok (.iconst (-1), 1) := by decide +kernel
theorem dX5_step_8 : decode cX5_step 8 = .ok (.ireturn, 1) := by decide +kernel
theorem dX5_step_9 : decode cX5_step 9 = .ok (.iload_n 2, 1) := by decide +kernel
theorem dX5_step_10 : decode cX5_step 10 = .ok (.tableswitch 62 0 3 #[30, 44, 50, 56], 30) := by decide +kernel
theorem dX5_step_40 : decode cX5_step 40 = .ok (.aload_n 0, 1) := by decide +kernel
theorem dX5_step_41 : decode cX5_step 41 = .ok (.iload_n 1, 1) := by decide +kernel
theorem dX5_step_42 : decode cX5_step 42 = .ok (.invokevirtual 49, 3) := by decide +kernel
theorem dX5_step_45 : decode cX5_step 45 = .ok (.ifCond .eq 7, 3) := by decide +kernel
theorem dX5_step_48 : decode cX5_step 48 = .ok (.iconst 1, 1) := by decide +kernel
theorem dX5_step_49 : decode cX5_step 49 = .ok (.goto 4, 3) := by decide +kernel
theorem dX5_step_52 : decode cX5_step 52 = .ok (.iconst 0, 1) := by decide +kernel
theorem dX5_step_53 : decode cX5_step 53 = .ok (.ireturn, 1) := by decide +kernel
theorem dX5_step_54 : decode cX5_step 54 = .ok (.aload_n 0, 1) := by decide +kernel
theorem dX5_step_55 : decode cX5_step 55 = .ok (.iload_n 1, 1) := by decide +kernel
theorem dX5_step_56 : decode cX5_step 56 = .ok (.invokevirtual 53, 3) := by decide +kernel
theorem dX5_step_59 : decode cX5_step 59 = .ok (.ireturn, 1) := by decide +kernel
theorem dX5_step_60 : decode cX5_step 60 = .ok (.aload_n 0, 1) := by decide +kernel
theorem dX5_step_61 : decode cX5_step 61 = .ok (.iload_n 1, 1) := by decide +kernel
theorem dX5_step_62 : decode cX5_step 62 = .ok (.invokevirtual 70, 3) := by decide +kernel
theorem dX5_step_65 : decode cX5_step 65 = .ok (.ireturn, 1) := by decide +kernel
theorem dX5_step_66 : decode cX5_step 66 = .ok (.aload_n 0, 1) := by decide +kernel
theorem dX5_step_67 : decode cX5_step 67 = .ok (.iload_n 1, 1) := by decide +kernel
theorem dX5_step_68 : decode cX5_step 68 = .ok (.invokevirtual 137, 3) := by decide +kernel
theorem dX5_step_71 : decode cX5_step 71 = .ok (.ireturn, 1) := by decide +kernel
theorem dX5_step_72 : decode cX5_step 72 = .ok (.bipush (-2), 2) := by decide +kernel
theorem dX5_step_74 : decode cX5_step 74 = .ok (.ireturn, 1) := by decide +kernel
theorem dX5_does_0 : decode cX5_does 0 = .ok (.aload_n 0, 1) := by decide +kernel
theorem dX5_does_1 : decode cX5_does 1 = .ok (.iload_n 1, 1) := by decide +kernel
theorem dX5_does_2 : decode cX5_does 2 = .ok (.invokevirtual 124, 3) := by decide +kernel
theorem dX5_does_5 : decode cX5_does 5 = .ok (.ifCond .ne 5, 3) := by decide +kernel
theorem dX5_does_8 : decode cX5_does 8 = .ok (.iconst (-1), 1) := by decide +kernel
theorem dX5_does_9 : decode cX5_does 9 = .ok (.ireturn, 1) := by decide +kernel
theorem dX5_does_10 : decode cX5_does 10 = .ok (.aload_n 0, 1) := by decide +kernel
theorem dX5_does_11 : decode cX5_does 11 = .ok (.invokevirtual 140, 3) := by decide +kernel
theorem dX5_does_14 : decode cX5_does 14 = .ok (.aload_n 0, 1) := by decide +kernel
theorem dX5_does_15 : decode cX5_does 15 = .ok (.invokevirtual 132, 3) := by decide +kernel
theorem dX5_does_18 : decode cX5_does 18 = .ok (.aload_n 0, 1) := by decide +kernel
theorem dX5_does_19 : decode cX5_does 19 = .ok (.getfield 25, 3) := by decide +kernel
theorem dX5_does_22 : decode cX5_does 22 = .ok (.iload_n 1, 1) := by decide +kernel
theorem dX5_does_23 : decode cX5_does 23 = .ok (.iaload, 1) := by decide +kernel
theorem dX5_does_24 : decode cX5_does 24 = .ok (.istore_n 2, 1) := by decide +kernel
theorem dX5_does_25 : decode cX5_does 25 = .ok (.aload_n 0, 1) := by decide +kernel
theorem dX5_does_26 : decode cX5_does 26 = .ok (.invokevirtual 143, 3) := by decide +kernel
theorem dX5_does_29 : decode cX5_does 29 = .ok (.iload_n 2, 1) := by decide +kernel
theorem dX5_does_30 : decode cX5_does 30 = .ok (.ireturn, 1) := by decide +kernel
theorem dX5_count_0 : decode cX5_count 0 = .ok (.iload_n 1, 1) := by decide +kernel
theorem dX5_count_1 : decode cX5_count 1 = .ok (.tableswitch 100 3 14 #[63, 63, 70, 70, 70, 70, 78, 78, 78, 78, 90, 95], 63) := by decide +kernel
theorem dX5_count_64 : decode cX5_count 64 = .ok (.aload_n 0, 1) := by decide +kernel
theorem dX5_count_65 : decode cX5_count 65 = .ok (.getfield 7, 3) := by decide +kernel
theorem dX5_count_68 : decode cX5_count 68 = .ok (.iload_n 1, 1) := by decide +kernel
theorem dX5_count_69 : decode cX5_count 69 = .ok (.iaload, 1) := by decide +kernel
theorem dX5_count_70 : decode cX5_count 70 = .ok (.ireturn, 1) := by decide +kernel
theorem dX5_count_71 : decode cX5_count 71 = .ok (.aload_n 0, 1) := by decide +kernel
theorem dX5_count_72 : decode cX5_count 72 = .ok (.iload_n 1, 1) := by decide +kernel
theorem dX5_count_73 : decode cX5_count 73 = .ok (.iconst 5, 1) := by decide +kernel
theorem dX5_count_74 : decode cX5_count 74 = .ok (.isub, 1) := by decide +kernel
theorem dX5_count_75 : decode cX5_count 75 = .ok (.invokevirtual 129, 3) := by decide +kernel
theorem dX5_count_78 : decode cX5_count 78 = .ok (.ireturn, 1) := by decide +kernel
theorem dX5_count_79 : decode cX5_count 79 = .ok (.aload_n 0, 1) := by decide +kernel
theorem dX5_count_80 : decode cX5_count 80 = .ok (.getfield 7, 3) := by decide +kernel
theorem dX5_count_83 : decode cX5_count 83 = .ok (.iconst 5, 1) := by decide +kernel
theorem dX5_count_84 : decode cX5_count 84 = .ok (.iload_n 1, 1) := by decide +kernel
theorem dX5_count_85 : decode cX5_count 85 = .ok (.iadd, 1) := by decide +kernel
theorem dX5_count_86 : decode cX5_count 86 = .ok (.bipush 9, 2) := by decide +kernel
theorem dX5_count_88 : decode cX5_count 88 = .ok (.isub, 1) := by decide +kernel
theorem dX5_count_89 : decode cX5_count 89 = .ok (.iaload, 1) := by decide +kernel
theorem dX5_count_90 : decode cX5_count 90 = .ok (.ireturn, 1) := by decide +kernel
theorem dX5_count_91 : decode cX5_count 91 = .ok (.aload_n 0, 1) := by decide +kernel
theorem dX5_count_92 : decode cX5_count 92 = .ok (.getfield 121, 3) := by decide +kernel
theorem dX5_count_95 : decode cX5_count 95 = .ok (.ireturn, 1) := by decide +kernel
theorem dX5_count_96 : decode cX5_count 96 = .ok (.aload_n 0, 1) := by decide +kernel
theorem dX5_count_97 : decode cX5_count 97 = .ok (.getfield 31, 3) := by decide +kernel
theorem dX5_count_100 : decode cX5_count 100 = .ok (.ireturn, 1) := by decide +kernel
theorem dX5_count_101 : decode cX5_count 101 = .ok (.iload_n 1, 1) := by decide +kernel
theorem dX5_count_102 : decode cX5_count 102 = .ok (.i2l, 1) := by decide +kernel
theorem dX5_count_103 : decode cX5_count 103 = .ok (.lconst 0, 1) := by decide +kernel
theorem dX5_count_104 : decode cX5_count 104 = .ok (.ldc2_w 146, 3) := by decide +kernel
theorem dX5_count_107 : decode cX5_count 107 = .ok (.invokestatic 35, 3) := by decide +kernel
theorem dX5_count_110 : decode cX5_count 110 = .ok (.ifCond .eq 12, 3) := by decide +kernel
theorem dX5_count_113 : decode cX5_count 113 = .ok (.aload_n 0, 1) := by decide +kernel
theorem dX5_count_114 : decode cX5_count 114 = .ok (.getfield 7, 3) := by decide +kernel
theorem dX5_count_117 : decode cX5_count 117 = .ok (.iload_n 1, 1) := by decide +kernel
theorem dX5_count_118 : decode cX5_count 118 = .ok (.iaload, 1) := by decide +kernel
theorem dX5_count_119 : decode cX5_count 119 = .ok (.goto 5, 3) := by decide +kernel
theorem dX5_count_122 : decode cX5_count 122 = .ok (.bipush (-2), 2) := by decide +kernel
theorem dX5_count_124 : decode cX5_count 124 = .ok (.ireturn, 1) := by decide +kernel
theorem dX5_isEmpty_0 : decode cX5_isEmpty 0 = .ok (.aload_n 0, 1) := by decide +kernel
theorem dX5_isEmpty_1 : decode cX5_isEmpty 1 = .ok (.iconst 0, 1) := by decide +kernel
theorem dX5_isEmpty_2 : decode cX5_isEmpty 2 = .ok (.invokevirtual 129, 3) := by decide +kernel
theorem dX5_isEmpty_5 : decode cX5_isEmpty 5 = .ok (.aload_n 0, 1) := by decide +kernel
theorem dX5_isEmpty_6 : decode cX5_isEmpty 6 = .ok (.iconst 1, 1) := by decide +kernel
theorem dX5_isEmpty_7 : decode cX5_isEmpty 7 = .ok (.invokevirtual 129, 3) := by decide +kernel
theorem dX5_isEmpty_10 : decode cX5_isEmpty 10 = .ok (.iadd, 1) := by decide +kernel
theorem dX5_isEmpty_11 : decode cX5_isEmpty 11 = .ok (.ifCond .ne 7, 3) := by decide +kernel
theorem dX5_isEmpty_14 : decode cX5_isEmpty 14 = .ok (.iconst 1, 1) := by decide +kernel
theorem dX5_isEmpty_15 : decode cX5_isEmpty 15 = .ok (.goto 4, 3) := by decide +kernel
theorem dX5_isEmpty_18 : decode cX5_isEmpty 18 = .ok (.iconst 0, 1) := by decide +kernel
theorem dX5_isEmpty_19 : decode cX5_isEmpty 19 = .ok (.ireturn, 1) := by decide +kernel
theorem dX5_until_0 : decode cX5_until 0 = .ok (.aload_n 0, 1) := by decide +kernel
theorem dX5_until_1 : decode cX5_until 1 = .ok (.invokevirtual 140, 3) := by decide +kernel
theorem dX5_until_4 : decode cX5_until 4 = .ok (.iconst 0, 1) := by decide +kernel
theorem dX5_until_5 : decode cX5_until 5 = .ok (.istore_n 2, 1) := by decide +kernel
theorem dX5_until_6 : decode cX5_until 6 = .ok (.iload_n 2, 1) := by decide +kernel
theorem dX5_until_7 : decode cX5_until 7 = .ok (.sipush 200, 3) := by decide +kernel
theorem dX5_until_10 : decode cX5_until 10 = .ok (.if_icmp .gt 39, 3) := by decide +kernel
theorem dX5_until_13 : decode cX5_until 13 = .ok (.iload_n 1, 1) := by decide +kernel
theorem dX5_until_14 : decode cX5_until 14 = .ok (.bipush (-6), 2) := by decide +kernel
theorem dX5_until_16 : decode cX5_until 16 = .ok (.if_icmp .ne 13, 3) := by decide +kernel
theorem dX5_until_19 : decode cX5_until 19 = .ok (.aload_n 0, 1) := by decide +kernel
theorem dX5_until_20 : decode cX5_until 20 = .ok (.invokevirtual 148, 3) := by decide +kernel
theorem dX5_until_23 : decode cX5_until 23 = .ok (.ifCond .eq 16, 3) := by decide +kernel
theorem dX5_until_26 : decode cX5_until 26 = .ok (.goto 23, 3) := by decide +kernel
theorem dX5_until_29 : decode cX5_until 29 = .ok (.aload_n 0, 1) := by decide +kernel
theorem dX5_until_30 : decode cX5_until 30 = .ok (.iload_n 1, 1) := by decide +kernel
theorem dX5_until_31 : decode cX5_until 31 = .ok (.iconst 2, 1) := by decide +kernel
theorem dX5_until_32 : decode cX5_until 32 = .ok (.invokevirtual 41, 3) := by decide +kernel
theorem dX5_until_35 : decode cX5_until 35 = .ok (.iconst 2, 1) := by decide +kernel
theorem dX5_until_36 : decode cX5_until 36 = .ok (.if_icmp .eq 13, 3) := by decide +kernel
theorem dX5_until_39 : decode cX5_until 39 = .ok (.aload_n 0, 1) := by decide +kernel
theorem dX5_until_40 : decode cX5_until 40 = .ok (.invokevirtual 132, 3) := by decide +kernel
theorem dX5_until_43 : decode cX5_until 43 = .ok (.iinc 2 1, 3) := by decide +kernel
theorem dX5_until_46 : decode cX5_until 46 = .ok (.goto (-40), 3) := by decide +kernel
theorem dX5_until_49 : decode cX5_until 49 = .ok (.aload_n 0, 1) := by decide +kernel
theorem dX5_until_50 : decode cX5_until 50 = .ok (.invokevirtual 143, 3) := by decide +kernel
theorem dX5_until_53 : decode cX5_until 53 = .ok (.iload_n 2, 1) := by decide +kernel
theorem dX5_until_54 : decode cX5_until 54 = .ok (.sipush 200, 3) := by decide +kernel
theorem dX5_until_57 : decode cX5_until 57 = .ok (.if_icmp .le 8, 3) := by decide +kernel
theorem dX5_until_60 : decode cX5_until 60 = .ok (.bipush (-6), 2) := by decide +kernel
theorem dX5_until_62 : decode cX5_until 62 = .ok (.goto 4, 3) := by decide +kernel
theorem dX5_until_65 : decode cX5_until 65 = .ok (.iload_n 2, 1) := by decide +kernel
theorem dX5_until_66 : decode cX5_until 66 = .ok (.ireturn, 1) := by decide +kernel
theorem dX5_untilArrived_0 : decode cX5_untilArrived 0 = .ok (.aload_n 0, 1) := by decide +kernel
theorem dX5_untilArrived_1 : decode cX5_untilArrived 1 = .ok (.iload_n 1, 1) := by decide +kernel
theorem dX5_untilArrived_2 : decode cX5_untilArrived 2 = .ok (.invokevirtual 124, 3) := by decide +kernel
theorem dX5_untilArrived_5 : decode cX5_untilArrived 5 = .ok (.ifCond .eq 11, 3) := by decide +kernel
theorem dX5_untilArrived_8 : decode cX5_untilArrived 8 = .ok (.aload_n 0, 1) := by decide +kernel
theorem dX5_untilArrived_9 : decode cX5_untilArrived 9 = .ok (.iload_n 1, 1) := by decide +kernel
theorem dX5_untilArrived_10 : decode cX5_untilArrived 10 = .ok (.invokevirtual 152, 3) := by decide +kernel
theorem dX5_untilArrived_13 : decode cX5_untilArrived 13 = .ok (.goto 4, 3) := by decide +kernel
theorem dX5_untilArrived_16 : decode cX5_untilArrived 16 = .ok (.iconst (-1), 1) := by decide +kernel
theorem dX5_untilArrived_17 : decode cX5_untilArrived 17 = .ok (.ireturn, 1) := by decide +kernel
theorem dX5_untilEmpty_0 : decode cX5_untilEmpty 0 = .ok (.aload_n 0, 1) := by decide +kernel
theorem dX5_untilEmpty_1 : decode cX5_untilEmpty 1 = .ok (.bipush (-6), 2) := by decide +kernel
theorem dX5_untilEmpty_3 : decode cX5_untilEmpty 3 = .ok (.invokevirtual 152, 3) := by decide +kernel
theorem dX5_untilEmpty_6 : decode cX5_untilEmpty 6 = .ok (.ireturn, 1) := by decide +kernel
theorem dX5_ifPassed_0 : decode cX5_ifPassed 0 = .ok (.iload_n 1, 1) := by decide +kernel
theorem dX5_ifPassed_1 : decode cX5_ifPassed 1 = .ok (.i2l, 1) := by decide +kernel
theorem dX5_ifPassed_2 : decode cX5_ifPassed 2 = .ok (.lconst 1, 1) := by decide +kernel
theorem dX5_ifPassed_3 : decode cX5_ifPassed 3 = .ok (.ldc2_w 155, 3) := by decide +kernel
theorem dX5_ifPassed_6 : decode cX5_ifPassed 6 = .ok (.invokestatic 35, 3) := by decide +kernel
theorem dX5_ifPassed_9 : decode cX5_ifPassed 9 = .ok (.ifCond .eq 15, 3) := by decide +kernel
theorem dX5_ifPassed_12 : decode cX5_ifPassed 12 = .ok (.iload_n 2, 1) := by decide +kernel
theorem dX5_ifPassed_13 : decode cX5_ifPassed 13 = .ok (.i2l, 1) := by decide +kernel
theorem dX5_ifPassed_14 : decode cX5_ifPassed 14 = .ok (.lconst 0, 1) := by decide +kernel
theorem dX5_ifPassed_15 : decode cX5_ifPassed 15 = .ok (.ldc2_w 157, 3) := by decide +kernel
theorem dX5_ifPassed_18 : decode cX5_ifPassed 18 = .ok (.invokestatic 35, 3) := by decide +kernel
theorem dX5_ifPassed_21 : decode cX5_ifPassed 21 = .ok (.ifCond .ne 6, 3) := by decide +kernel
theorem dX5_ifPassed_24 : decode cX5_ifPassed 24 = .ok (.bipush (-2), 2) := by decide +kernel
theorem dX5_ifPassed_26 : decode cX5_ifPassed 26 = .ok (.ireturn, 1) := by decide +kernel
theorem dX5_ifPassed_27 : decode cX5_ifPassed 27 = .ok (.aload_n 0, 1) := by decide +kernel
theorem dX5_ifPassed_28 : decode cX5_ifPassed 28 = .ok (.iconst 2, 1) := by decide +kernel
theorem dX5_ifPassed_29 : decode cX5_ifPassed 29 = .ok (.invokevirtual 129, 3) := by decide +kernel
theorem dX5_ifPassed_32 : decode cX5_ifPassed 32 = .ok (.istore_n 3, 1) := by decide +kernel
theorem dX5_ifPassed_33 : decode cX5_ifPassed 33 = .ok (.aload_n 0, 1) := by decide +kernel
theorem dX5_ifPassed_34 : decode cX5_ifPassed 34 = .ok (.iconst 3, 1) := by decide +kernel
theorem dX5_ifPassed_35 : decode cX5_ifPassed 35 = .ok (.invokevirtual 129, 3) := by decide +kernel
theorem dX5_ifPassed_38 : decode cX5_ifPassed 38 = .ok (.istore 4, 2) := by decide +kernel
theorem dX5_ifPassed_40 : decode cX5_ifPassed 40 = .ok (.aload_n 0, 1) := by decide +kernel
theorem dX5_ifPassed_41 : decode cX5_ifPassed 41 = .ok (.invokevirtual 140, 3) := by decide +kernel
theorem dX5_ifPassed_44 : decode cX5_ifPassed 44 = .ok (.iconst 0, 1) := by decide +kernel
theorem dX5_ifPassed_45 : decode cX5_ifPassed 45 = .ok (.istore 5, 2) := by decide +kernel
theorem dX5_ifPassed_47 : decode cX5_ifPassed 47 = .ok (.iload 5, 2) := by decide +kernel
theorem dX5_ifPassed_49 : decode cX5_ifPassed 49 = .ok (.iload_n 1, 1) := by decide +kernel
theorem dX5_ifPassed_50 : decode cX5_ifPassed 50 = .ok (.if_icmp .ge 13, 3) := by decide +kernel
theorem dX5_ifPassed_53 : decode cX5_ifPassed 53 = .ok (.aload_n 0, 1) := by decide +kernel
theorem dX5_ifPassed_54 : decode cX5_ifPassed 54 = .ok (.invokevirtual 132, 3) := by decide +kernel
theorem dX5_ifPassed_57 : decode cX5_ifPassed 57 = .ok (.iinc 5 1, 3) := by decide +kernel
theorem dX5_ifPassed_60 : decode cX5_ifPassed 60 = .ok (.goto (-13), 3) := by decide +kernel
theorem dX5_ifPassed_63 : decode cX5_ifPassed 63 = .ok (.iload_n 2, 1) := by decide +kernel
theorem dX5_ifPassed_64 : decode cX5_ifPassed 64 = .ok (.ifCond .ne 13, 3) := by decide +kernel
theorem dX5_ifPassed_67 : decode cX5_ifPassed 67 = .ok (.aload_n 0, 1) := by decide +kernel
theorem dX5_ifPassed_68 : decode cX5_ifPassed 68 = .ok (.iconst 2, 1) := by decide +kernel
theorem dX5_ifPassed_69 : decode cX5_ifPassed 69 = .ok (.invokevirtual 129, 3) := by decide +kernel
theorem dX5_ifPassed_72 : decode cX5_ifPassed 72 = .ok (.iload_n 3, 1) := by decide +kernel
theorem dX5_ifPassed_73 : decode cX5_ifPassed 73 = .ok (.isub, 1) := by decide +kernel
theorem dX5_ifPassed_74 : decode cX5_ifPassed 74 = .ok (.goto 57, 3) := by decide +kernel
theorem dX5_ifPassed_77 : decode cX5_ifPassed 77 = .ok (.iload_n 2, 1) := by decide +kernel
theorem dX5_ifPassed_78 : decode cX5_ifPassed 78 = .ok (.iconst 1, 1) := by decide +kernel
theorem dX5_ifPassed_79 : decode cX5_ifPassed 79 = .ok (.if_icmp .ne 14, 3) := by decide +kernel
theorem dX5_ifPassed_82 : decode cX5_ifPassed 82 = .ok (.aload_n 0, 1) := by decide +kernel
theorem dX5_ifPassed_83 : decode cX5_ifPassed 83 = .ok (.iconst 3, 1) := by decide +kernel
theorem dX5_ifPassed_84 : decode cX5_ifPassed 84 = .ok (.invokevirtual 129, 3) := by decide +kernel
theorem dX5_ifPassed_87 : decode cX5_ifPassed 87 = .ok (.iload 4, 2) := by decide +kernel
theorem dX5_ifPassed_89 : decode cX5_ifPassed 89 = .ok (.isub, 1) := by decide +kernel
theorem dX5_ifPassed_90 : decode cX5_ifPassed 90 = .ok (.goto 41, 3) := by decide +kernel
theorem dX5_ifPassed_93 : decode cX5_ifPassed 93 = .ok (.iload_n 2, 1) := by decide +kernel
theorem dX5_ifPassed_94 : decode cX5_ifPassed 94 = .ok (.iconst 2, 1) := by decide +kernel
theorem dX5_ifPassed_95 : decode cX5_ifPassed 95 = .ok (.if_icmp .ne 21, 3) := by decide +kernel
theorem dX5_ifPassed_98 : decode cX5_ifPassed 98 = .ok (.aload_n 0, 1) := by decide +kernel
theorem dX5_ifPassed_99 : decode cX5_ifPassed 99 = .ok (.getfield 7, 3) := by decide +kernel
theorem dX5_ifPassed_102 : decode cX5_ifPassed 102 = .ok (.bipush 6, 2) := by decide +kernel
theorem dX5_ifPassed_104 : decode cX5_ifPassed 104 = .ok (.iaload, 1) := by decide +kernel
theorem dX5_ifPassed_105 : decode cX5_ifPassed 105 = .ok (.aload_n 0, 1) := by decide +kernel
theorem dX5_ifPassed_106 : decode cX5_ifPassed 106 = .ok (.getfield 13, 3) := by decide +kernel
theorem dX5_ifPassed_109 : decode cX5_ifPassed 109 = .ok (.bipush 6, 2) := by decide +kernel
theorem dX5_ifPassed_111 : decode cX5_ifPassed 111 = .ok (.iaload, 1) := by decide +kernel
theorem dX5_ifPassed_112 : decode cX5_ifPassed 112 = .ok (.isub, 1) := by decide +kernel
theorem dX5_ifPassed_113 : decode cX5_ifPassed 113 = .ok (.goto 18, 3) := by decide +kernel
theorem dX5_ifPassed_116 : decode cX5_ifPassed 116 = .ok (.aload_n 0, 1) := by decide +kernel
theorem dX5_ifPassed_117 : decode cX5_ifPassed 117 = .ok (.getfield 7, 3) := by decide +kernel
theorem dX5_ifPassed_120 : decode cX5_ifPassed 120 = .ok (.bipush 8, 2) := by decide +kernel
theorem dX5_ifPassed_122 : decode cX5_ifPassed 122 = .ok (.iaload, 1) := by decide +kernel
theorem dX5_ifPassed_123 : decode cX5_ifPassed 123 = .ok (.aload_n 0, 1) := by decide +kernel
theorem dX5_ifPassed_124 : decode cX5_ifPassed 124 = .ok (.getfield 13, 3) := by decide +kernel
theorem dX5_ifPassed_127 : decode cX5_ifPassed 127 = .ok (.bipush 8, 2) := by decide +kernel
theorem dX5_ifPassed_129 : decode cX5_ifPassed 129 = .ok (.iaload, 1) := by decide +kernel
theorem dX5_ifPassed_130 : decode cX5_ifPassed 130 = .ok (.isub, 1) := by decide +kernel
theorem dX5_ifPassed_131 : decode cX5_ifPassed 131 = .ok (.istore 5, 2) := by decide +kernel
theorem dX5_ifPassed_133 : decode cX5_ifPassed 133 = .ok (.aload_n 0, 1) := by decide +kernel
theorem dX5_ifPassed_134 : decode cX5_ifPassed 134 = .ok (.invokevirtual 143, 3) := by decide +kernel
theorem dX5_ifPassed_137 : decode cX5_ifPassed 137 = .ok (.iload 5, 2) := by decide +kernel
theorem dX5_ifPassed_139 : decode cX5_ifPassed 139 = .ok (.ireturn, 1) := by decide +kernel
theorem dX5_bestLanding_0 : decode cX5_bestLanding 0 = .ok (.bipush (-6), 2) := by decide +kernel
theorem dX5_bestLanding_2 : decode cX5_bestLanding 2 = .ok (.istore_n 1, 1) := by decide +kernel
theorem dX5_bestLanding_3 : decode cX5_bestLanding 3 = .ok (.iconst 0, 1) := by decide +kernel
theorem dX5_bestLanding_4 : decode cX5_bestLanding 4 = .ok (.istore_n 2, 1) := by decide +kernel
theorem dX5_bestLanding_5 : decode cX5_bestLanding 5 = .ok (.aload_n 0, 1) := by decide +kernel
theorem dX5_bestLanding_6 : decode cX5_bestLanding 6 = .ok (.getfield 7, 3) := by decide +kernel
theorem dX5_bestLanding_9 : decode cX5_bestLanding 9 = .ok (.iconst 5, 1) := by decide +kernel
theorem dX5_bestLanding_10 : decode cX5_bestLanding 10 = .ok (.iaload, 1) := by decide +kernel
theorem dX5_bestLanding_11 : decode cX5_bestLanding 11 = .ok (.istore_n 3, 1) := by decide +kernel
theorem dX5_bestLanding_12 : decode cX5_bestLanding 12 = .ok (.iconst 0, 1) := by decide +kernel
theorem dX5_bestLanding_13 : decode cX5_bestLanding 13 = .ok (.istore 4, 2) := by decide +kernel
theorem dX5_bestLanding_15 : decode cX5_bestLanding 15 = .ok (.iload 4, 2) := by decide +kernel
theorem dX5_bestLanding_17 : decode cX5_bestLanding 17 = .ok (.bipush 12, 2) := by decide +kernel
theorem dX5_bestLanding_19 : decode cX5_bestLanding 19 = .ok (.if_icmp .ge 89, 3) := by decide +kernel
theorem dX5_bestLanding_22 : decode cX5_bestLanding 22 = .ok (.aload_n 0, 1) := by decide +kernel
theorem dX5_bestLanding_23 : decode cX5_bestLanding 23 = .ok (.iload 4, 2) := by decide +kernel
theorem dX5_bestLanding_25 : decode cX5_bestLanding 25 = .ok (.invokevirtual 49, 3) := by decide +kernel
theorem dX5_bestLanding_28 : decode cX5_bestLanding 28 = .ok (.ifCond .ne 74, 3) := by decide +kernel
theorem dX5_bestLanding_31 : decode cX5_bestLanding 31 = .ok (.aload_n 0, 1) := by decide +kernel
theorem dX5_bestLanding_32 : decode cX5_bestLanding 32 = .ok (.getfield 7, 3) := by decide +kernel
theorem dX5_bestLanding_35 : decode cX5_bestLanding 35 = .ok (.iconst 5, 1) := by decide +kernel
theorem dX5_bestLanding_36 : decode cX5_bestLanding 36 = .ok (.iload_n 3, 1) := by decide +kernel
theorem dX5_bestLanding_37 : decode cX5_bestLanding 37 = .ok (.iconst 1, 1) := by decide +kernel
theorem dX5_bestLanding_38 : decode cX5_bestLanding 38 = .ok (.iload 4, 2) := by decide +kernel
theorem dX5_bestLanding_40 : decode cX5_bestLanding 40 = .ok (.ishl, 1) := by decide +kernel
theorem dX5_bestLanding_41 : decode cX5_bestLanding 41 = .ok (.ior, 1) := by decide +kernel
theorem dX5_bestLanding_42 : decode cX5_bestLanding 42 = .ok (.iastore, 1) := by decide +kernel
theorem dX5_bestLanding_43 : decode cX5_bestLanding 43 = .ok (.aload_n 0, 1) := by decide +kernel
theorem dX5_bestLanding_44 : decode cX5_bestLanding 44 = .ok (.bipush 50, 2) := by decide +kernel
theorem dX5_bestLanding_46 : decode cX5_bestLanding 46 = .ok (.iconst 2, 1) := by decide +kernel
theorem dX5_bestLanding_47 : decode cX5_bestLanding 47 = .ok (.invokevirtual 159, 3) := by decide +kernel
theorem dX5_bestLanding_50 : decode cX5_bestLanding 50 = .ok (.istore 5, 2) := by decide +kernel
theorem dX5_bestLanding_52 : decode cX5_bestLanding 52 = .ok (.aload_n 0, 1) := by decide +kernel
theorem dX5_bestLanding_53 : decode cX5_bestLanding 53 = .ok (.getfield 7, 3) := by decide +kernel
theorem dX5_bestLanding_56 : decode cX5_bestLanding 56 = .ok (.iconst 5, 1) := by decide +kernel
theorem dX5_bestLanding_57 : decode cX5_bestLanding 57 = .ok (.iload_n 3, 1) := by decide +kernel
theorem dX5_bestLanding_58 : decode cX5_bestLanding 58 = .ok (.iastore, 1) := by decide +kernel
theorem dX5_bestLanding_59 : decode cX5_bestLanding 59 = .ok (.iload_n 1, 1) := by decide +kernel
theorem dX5_bestLanding_60 : decode cX5_bestLanding 60 = .ok (.bipush (-6), 2) := by decide +kernel
theorem dX5_bestLanding_62 : decode cX5_bestLanding 62 = .ok (.if_icmp .eq 9, 3) := by decide +kernel
theorem dX5_bestLanding_65 : decode cX5_bestLanding 65 = .ok (.iload 5, 2) := by decide +kernel
theorem dX5_bestLanding_67 : decode cX5_bestLanding 67 = .ok (.iload_n 2, 1) := by decide +kernel
theorem dX5_bestLanding_68 : decode cX5_bestLanding 68 = .ok (.if_icmp .ge 7, 3) := by decide +kernel
theorem dX5_bestLanding_71 : decode cX5_bestLanding 71 = .ok (.iconst 1, 1) := by decide +kernel
theorem dX5_bestLanding_72 : decode cX5_bestLanding 72 = .ok (.goto 4, 3) := by decide +kernel
theorem dX5_bestLanding_75 : decode cX5_bestLanding 75 = .ok (.iconst 0, 1) := by decide +kernel
theorem dX5_bestLanding_76 : decode cX5_bestLanding 76 = .ok (.istore 6, 2) := by decide +kernel
theorem dX5_bestLanding_78 : decode cX5_bestLanding 78 = .ok (.iload 6, 2) := by decide +kernel
theorem dX5_bestLanding_80 : decode cX5_bestLanding 80 = .ok (.ifCond .eq 8, 3) := by decide +kernel
theorem dX5_bestLanding_83 : decode cX5_bestLanding 83 = .ok (.iload 4, 2) := by decide +kernel
theorem dX5_bestLanding_85 : decode cX5_bestLanding 85 = .ok (.goto 4, 3) := by decide +kernel
theorem dX5_bestLanding_88 : decode cX5_bestLanding 88 = .ok (.iload_n 1, 1) := by decide +kernel
theorem dX5_bestLanding_89 : decode cX5_bestLanding 89 = .ok (.istore_n 1, 1) := by decide +kernel
theorem dX5_bestLanding_90 : decode cX5_bestLanding 90 = .ok (.iload 6, 2) := by decide +kernel
theorem dX5_bestLanding_92 : decode cX5_bestLanding 92 = .ok (.ifCond .eq 8, 3) := by decide +kernel
theorem dX5_bestLanding_95 : decode cX5_bestLanding 95 = .ok (.iload 5, 2) := by decide +kernel
theorem dX5_bestLanding_97 : decode cX5_bestLanding 97 = .ok (.goto 4, 3) := by decide +kernel
theorem dX5_bestLanding_100 : decode cX5_bestLanding 100 = .ok (.iload_n 2, 1) := by decide +kernel
theorem dX5_bestLanding_101 : decode cX5_bestLanding 101 = .ok (.istore_n 2, 1) := by decide +kernel
theorem dX5_bestLanding_102 : decode cX5_bestLanding 102 = .ok (.iinc 4 1, 3) := by decide +kernel
theorem dX5_bestLanding_105 : decode cX5_bestLanding 105 = .ok (.goto (-90), 3) := by decide +kernel
theorem dX5_bestLanding_108 : decode cX5_bestLanding 108 = .ok (.iload_n 1, 1) := by decide +kernel
theorem dX5_bestLanding_109 : decode cX5_bestLanding 109 = .ok (.ireturn, 1) := by decide +kernel
theorem dX5_charactersOf_0 : decode cX5_charactersOf 0 = .ok (.lload_n 0, 1) := by decide +kernel
theorem dX5_charactersOf_1 : decode cX5_charactersOf 1 = .ok (.lstore_n 2, 1) := by decide +kernel
theorem dX5_charactersOf_2 : decode cX5_charactersOf 2 = .ok (.iconst 0, 1) := by decide +kernel
theorem dX5_charactersOf_3 : decode cX5_charactersOf 3 = .ok (.istore 4, 2) := by decide +kernel
theorem dX5_charactersOf_5 : decode cX5_charactersOf 5 = .ok (.iload 4, 2) := by decide +kernel
theorem dX5_charactersOf_7 : decode cX5_charactersOf 7 = .ok (.bipush 8, 2) := by decide +kernel
theorem dX5_charactersOf_9 : decode cX5_charactersOf 9 = .ok (.if_icmp .ge 31, 3) := by decide +kernel
theorem dX5_charactersOf_12 : decode cX5_charactersOf 12 = .ok (.lload_n 2, 1) := by decide +kernel
theorem dX5_charactersOf_13 : decode cX5_charactersOf 13 = .ok (.ldc2_w 162, 3) := by decide +kernel
theorem dX5_charactersOf_16 : decode cX5_charactersOf 16 = .ok (.land, 1) := by decide +kernel
theorem dX5_charactersOf_17 : decode cX5_charactersOf 17 = .ok (.ldc2_w 164, 3) := by decide +kernel
theorem dX5_charactersOf_20 : decode cX5_charactersOf 20 = .ok (.ldc2_w 166, 3) := by decide +kernel
theorem dX5_charactersOf_23 : decode cX5_charactersOf 23 = .ok (.invokestatic 35, 3) := by decide +kernel
theorem dX5_charactersOf_26 : decode cX5_charactersOf 26 = .ok (.ifCond .eq 14, 3) := by decide +kernel
theorem dX5_charactersOf_29 : decode cX5_charactersOf 29 = .ok (.lload_n 2, 1) := by decide +kernel
theorem dX5_charactersOf_30 : decode cX5_charactersOf 30 = .ok (.bipush 8, 2) := by decide +kernel
theorem dX5_charactersOf_32 : decode cX5_charactersOf 32 = .ok (.lushr, 1) := by decide +kernel
theorem dX5_charactersOf_33 : decode cX5_charactersOf 33 = .ok (.lstore_n 2, 1) := by decide +kernel
theorem dX5_charactersOf_34 : decode cX5_charactersOf 34 = .ok (.iinc 4 1, 3) := by decide +kernel
theorem dX5_charactersOf_37 : decode cX5_charactersOf 37 = .ok (.goto (-32), 3) := by decide +kernel
theorem dX5_charactersOf_40 : decode cX5_charactersOf 40 = .ok (.lload_n 2, 1) := by decide +kernel
theorem dX5_charactersOf_41 : decode cX5_charactersOf 41 = .ok (.lconst 0, 1) := by decide +kernel
theorem dX5_charactersOf_42 : decode cX5_charactersOf 42 = .ok (.lcmp, 1) := by decide +kernel
theorem dX5_charactersOf_43 : decode cX5_charactersOf 43 = .ok (.ifCond .ne 8, 3) := by decide +kernel
theorem dX5_charactersOf_46 : decode cX5_charactersOf 46 = .ok (.iload 4, 2) := by decide +kernel
theorem dX5_charactersOf_48 : decode cX5_charactersOf 48 = .ok (.goto 4, 3) := by decide +kernel
theorem dX5_charactersOf_51 : decode cX5_charactersOf 51 = .ok (.iconst 0, 1) := by decide +kernel
theorem dX5_charactersOf_52 : decode cX5_charactersOf 52 = .ok (.ireturn, 1) := by decide +kernel
theorem dX5_put_0 : decode cX5_put 0 = .ok (.lload_n 1, 1) := by decide +kernel
theorem dX5_put_1 : decode cX5_put 1 = .ok (.invokestatic 168, 3) := by decide +kernel
theorem dX5_put_4 : decode cX5_put 4 = .ok (.istore_n 3, 1) := by decide +kernel
theorem dX5_put_5 : decode cX5_put 5 = .ok (.iload_n 3, 1) := by decide +kernel
theorem dX5_put_6 : decode cX5_put 6 = .ok (.ifCond .ne 6, 3) := by decide +kernel
theorem dX5_put_9 : decode cX5_put 9 = .ok (.bipush (-2), 2) := by decide +kernel
theorem dX5_put_11 : decode cX5_put 11 = .ok (.ireturn, 1) := by decide +kernel
theorem dX5_put_12 : decode cX5_put 12 = .ok (.aload_n 0, 1) := by decide +kernel
theorem dX5_put_13 : decode cX5_put 13 = .ok (.getfield 121, 3) := by decide +kernel
theorem dX5_put_16 : decode cX5_put 16 = .ok (.iload_n 3, 1) := by decide +kernel
theorem dX5_put_17 : decode cX5_put 17 = .ok (.iadd, 1) := by decide +kernel
theorem dX5_put_18 : decode cX5_put 18 = .ok (.bipush 60, 2) := by decide +kernel
theorem dX5_put_20 : decode cX5_put 20 = .ok (.if_icmp .le 6, 3) := by decide +kernel
theorem dX5_put_23 : decode cX5_put 23 = .ok (.bipush (-4), 2) := by decide +kernel
theorem dX5_put_25 : decode cX5_put 25 = .ok (.ireturn, 1) := by decide +kernel
theorem dX5_put_26 : decode cX5_put 26 = .ok (.iconst 0, 1) := by decide +kernel
theorem dX5_put_27 : decode cX5_put 27 = .ok (.istore 4, 2) := by decide +kernel
theorem dX5_put_29 : decode cX5_put 29 = .ok (.iload 4, 2) := by decide +kernel
theorem dX5_put_31 : decode cX5_put 31 = .ok (.iload_n 3, 1) := by decide +kernel
theorem dX5_put_32 : decode cX5_put 32 = .ok (.if_icmp .ge 37, 3) := by decide +kernel
theorem dX5_put_35 : decode cX5_put 35 = .ok (.aload_n 0, 1) := by decide +kernel
theorem dX5_put_36 : decode cX5_put 36 = .ok (.getfield 28, 3) := by decide +kernel
theorem dX5_put_39 : decode cX5_put 39 = .ok (.aload_n 0, 1) := by decide +kernel
theorem dX5_put_40 : decode cX5_put 40 = .ok (.getfield 121, 3) := by decide +kernel
theorem dX5_put_43 : decode cX5_put 43 = .ok (.iload 4, 2) := by decide +kernel
theorem dX5_put_45 : decode cX5_put 45 = .ok (.iadd, 1) := by decide +kernel
theorem dX5_put_46 : decode cX5_put 46 = .ok (.lload_n 1, 1) := by decide +kernel
theorem dX5_put_47 : decode cX5_put 47 = .ok (.bipush 8, 2) := by decide +kernel
theorem dX5_put_49 : decode cX5_put 49 = .ok (.iload_n 3, 1) := by decide +kernel
theorem dX5_put_50 : decode cX5_put 50 = .ok (.iconst 1, 1) := by decide +kernel
theorem dX5_put_51 : decode cX5_put 51 = .ok (.isub, 1) := by decide +kernel
theorem dX5_put_52 : decode cX5_put 52 = .ok (.iload 4, 2) := by decide +kernel
theorem dX5_put_54 : decode cX5_put 54 = .ok (.isub, 1) := by decide +kernel
theorem dX5_put_55 : decode cX5_put 55 = .ok (.imul, 1) := by decide +kernel
theorem dX5_put_56 : decode cX5_put 56 = .ok (.lushr, 1) := by decide +kernel
theorem dX5_put_57 : decode cX5_put 57 = .ok (.ldc2_w 162, 3) := by decide +kernel
theorem dX5_put_60 : decode cX5_put 60 = .ok (.land, 1) := by decide +kernel
theorem dX5_put_61 : decode cX5_put 61 = .ok (.l2i, 1) := by decide +kernel
theorem dX5_put_62 : decode cX5_put 62 = .ok (.iastore, 1) := by decide +kernel
theorem dX5_put_63 : decode cX5_put 63 = .ok (.iinc 4 1, 3) := by decide +kernel
theorem dX5_put_66 : decode cX5_put 66 = .ok (.goto (-37), 3) := by decide +kernel
theorem dX5_put_69 : decode cX5_put 69 = .ok (.aload_n 0, 1) := by decide +kernel
theorem dX5_put_70 : decode cX5_put 70 = .ok (.dup, 1) := by decide +kernel
theorem dX5_put_71 : decode cX5_put 71 = .ok (.getfield 121, 3) := by decide +kernel
theorem dX5_put_74 : decode cX5_put 74 = .ok (.iload_n 3, 1) := by decide +kernel
theorem dX5_put_75 : decode cX5_put 75 = .ok (.iadd, 1) := by decide +kernel
theorem dX5_put_76 : decode cX5_put 76 = .ok (.putfield 121, 3) := by decide +kernel
theorem dX5_put_79 : decode cX5_put 79 = .ok (.aload_n 0, 1) := by decide +kernel
theorem dX5_put_80 : decode cX5_put 80 = .ok (.getfield 121, 3) := by decide +kernel
theorem dX5_put_83 : decode cX5_put 83 = .ok (.ireturn, 1) := by decide +kernel
theorem dX5_wipe_0 : decode cX5_wipe 0 = .ok (.aload_n 0, 1) := by decide +kernel
theorem dX5_wipe_1 : decode cX5_wipe 1 = .ok (.getfield 121, 3) := by decide +kernel
theorem dX5_wipe_4 : decode cX5_wipe 4 = .ok (.istore_n 1, 1) := by decide +kernel
theorem dX5_wipe_5 : decode cX5_wipe 5 = .ok (.aload_n 0, 1) := by decide +kernel
theorem dX5_wipe_6 : decode cX5_wipe 6 = .ok (.iconst 0, 1) := by decide +kernel
theorem dX5_wipe_7 : decode cX5_wipe 7 = .ok (.putfield 121, 3) := by decide +kernel
theorem dX5_wipe_10 : decode cX5_wipe 10 = .ok (.iload_n 1, 1) := by decide +kernel
theorem dX5_wipe_11 : decode cX5_wipe 11 = .ok (.ireturn, 1) := by decide +kernel
theorem dX5_undo_0 : decode cX5_undo 0 = .ok (.aload_n 0, 1) := by decide +kernel
theorem dX5_undo_1 : decode cX5_undo 1 = .ok (.getfield 31, 3) := by decide +kernel
theorem dX5_undo_4 : decode cX5_undo 4 = .ok (.ifCond .ne 6, 3) := by decide +kernel
theorem dX5_undo_7 : decode cX5_undo 7 = .ok (.bipush (-5), 2) := by decide +kernel
theorem dX5_undo_9 : decode cX5_undo 9 = .ok (.ireturn, 1) := by decide +kernel
theorem dX5_undo_10 : decode cX5_undo 10 = .ok (.aload_n 0, 1) := by decide +kernel
theorem dX5_undo_11 : decode cX5_undo 11 = .ok (.dup, 1) := by decide +kernel
theorem dX5_undo_12 : decode cX5_undo 12 = .ok (.getfield 31, 3) := by decide +kernel
theorem dX5_undo_15 : decode cX5_undo 15 = .ok (.iconst 1, 1) := by decide +kernel
theorem dX5_undo_16 : decode cX5_undo 16 = .ok (.isub, 1) := by decide +kernel
theorem dX5_undo_17 : decode cX5_undo 17 = .ok (.putfield 31, 3) := by decide +kernel
theorem dX5_undo_20 : decode cX5_undo 20 = .ok (.iconst 0, 1) := by decide +kernel
theorem dX5_undo_21 : decode cX5_undo 21 = .ok (.istore_n 1, 1) := by decide +kernel
theorem dX5_undo_22 : decode cX5_undo 22 = .ok (.iload_n 1, 1) := by decide +kernel
theorem dX5_undo_23 : decode cX5_undo 23 = .ok (.sipush 225, 3) := by decide +kernel
theorem dX5_undo_26 : decode cX5_undo 26 = .ok (.if_icmp .ge 30, 3) := by decide +kernel
theorem dX5_undo_29 : decode cX5_undo 29 = .ok (.aload_n 0, 1) := by decide +kernel
theorem dX5_undo_30 : decode cX5_undo 30 = .ok (.getfield 7, 3) := by decide +kernel
theorem dX5_undo_33 : decode cX5_undo 33 = .ok (.iload_n 1, 1) := by decide +kernel
theorem dX5_undo_34 : decode cX5_undo 34 = .ok (.aload_n 0, 1) := by decide +kernel
theorem dX5_undo_35 : decode cX5_undo 35 = .ok (.getfield 16, 3) := by decide +kernel
theorem dX5_undo_38 : decode cX5_undo 38 = .ok (.sipush 225, 3) := by decide +kernel
theorem dX5_undo_41 : decode cX5_undo 41 = .ok (.aload_n 0, 1) := by decide +kernel
theorem dX5_undo_42 : decode cX5_undo 42 = .ok (.getfield 31, 3) := by decide +kernel
theorem dX5_undo_45 : decode cX5_undo 45 = .ok (.imul, 1) := by decide +kernel
theorem dX5_undo_46 : decode cX5_undo 46 = .ok (.iload_n 1, 1) := by decide +kernel
theorem dX5_undo_47 : decode cX5_undo 47 = .ok (.iadd, 1) := by decide +kernel
theorem dX5_undo_48 : decode cX5_undo 48 = .ok (.iaload, 1) := by decide +kernel
theorem dX5_undo_49 : decode cX5_undo 49 = .ok (.iastore, 1) := by decide +kernel
theorem dX5_undo_50 : decode cX5_undo 50 = .ok (.iinc 1 1, 3) := by decide +kernel
theorem dX5_undo_53 : decode cX5_undo 53 = .ok (.goto (-31), 3) := by decide +kernel
theorem dX5_undo_56 : decode cX5_undo 56 = .ok (.aload_n 0, 1) := by decide +kernel
theorem dX5_undo_57 : decode cX5_undo 57 = .ok (.getfield 31, 3) := by decide +kernel
theorem dX5_undo_60 : decode cX5_undo 60 = .ok (.ireturn, 1) := by decide +kernel
theorem dX5_isSlot_0 : decode cX5_isSlot 0 = .ok (.iload_n 0, 1) := by decide +kernel
theorem dX5_isSlot_1 : decode cX5_isSlot 1 = .ok (.ifCond .eq 8, 3) := by decide +kernel
theorem dX5_isSlot_4 : decode cX5_isSlot 4 = .ok (.iload_n 0, 1) := by decide +kernel
theorem dX5_isSlot_5 : decode cX5_isSlot 5 = .ok (.iconst 1, 1) := by decide +kernel
theorem dX5_isSlot_6 : decode cX5_isSlot 6 = .ok (.if_icmp .ne 7, 3) := by decide +kernel
theorem dX5_isSlot_9 : decode cX5_isSlot 9 = .ok (.iconst 1, 1) := by decide +kernel
theorem dX5_isSlot_10 : decode cX5_isSlot 10 = .ok (.goto 4, 3) := by decide +kernel
theorem dX5_isSlot_13 : decode cX5_isSlot 13 = .ok (.iconst 0, 1) := by decide +kernel
theorem dX5_isSlot_14 : decode cX5_isSlot 14 = .ok (.ireturn, 1) := by decide +kernel
theorem dX5_save_0 : decode cX5_save 0 = .ok (.iload_n 1, 1) := by decide +kernel
theorem dX5_save_1 : decode cX5_save 1 = .ok (.invokestatic 179, 3) := by decide +kernel
theorem dX5_save_4 : decode cX5_save 4 = .ok (.ifCond .ne 6, 3) := by decide +kernel
theorem dX5_save_7 : decode cX5_save 7 = .ok (.bipush (-2), 2) := by decide +kernel
theorem dX5_save_9 : decode cX5_save 9 = .ok (.ireturn, 1) := by decide +kernel
theorem dX5_save_10 : decode cX5_save 10 = .ok (.iconst 0, 1) := by decide +kernel
theorem dX5_save_11 : decode cX5_save 11 = .ok (.istore_n 2, 1) := by decide +kernel
theorem dX5_save_12 : decode cX5_save 12 = .ok (.iload_n 2, 1) := by decide +kernel
theorem dX5_save_13 : decode cX5_save 13 = .ok (.sipush 225, 3) := by decide +kernel
theorem dX5_save_16 : decode cX5_save 16 = .ok (.if_icmp .ge 27, 3) := by decide +kernel
theorem dX5_save_19 : decode cX5_save 19 = .ok (.aload_n 0, 1) := by decide +kernel
theorem dX5_save_20 : decode cX5_save 20 = .ok (.getfield 19, 3) := by decide +kernel
theorem dX5_save_23 : decode cX5_save 23 = .ok (.sipush 225, 3) := by decide +kernel
theorem dX5_save_26 : decode cX5_save 26 = .ok (.iload_n 1, 1) := by decide +kernel
theorem dX5_save_27 : decode cX5_save 27 = .ok (.imul, 1) := by decide +kernel
theorem dX5_save_28 : decode cX5_save 28 = .ok (.iload_n 2, 1) := by decide +kernel
theorem dX5_save_29 : decode cX5_save 29 = .ok (.iadd, 1) := by decide +kernel
theorem dX5_save_30 : decode cX5_save 30 = .ok (.aload_n 0, 1) := by decide +kernel
theorem dX5_save_31 : decode cX5_save 31 = .ok (.getfield 7, 3) := by decide +kernel
theorem dX5_save_34 : decode cX5_save 34 = .ok (.iload_n 2, 1) := by decide +kernel
theorem dX5_save_35 : decode cX5_save 35 = .ok (.iaload, 1) := by decide +kernel
theorem dX5_save_36 : decode cX5_save 36 = .ok (.iastore, 1) := by decide +kernel
theorem dX5_save_37 : decode cX5_save 37 = .ok (.iinc 2 1, 3) := by decide +kernel
theorem dX5_save_40 : decode cX5_save 40 = .ok (.goto (-28), 3) := by decide +kernel
theorem dX5_save_43 : decode cX5_save 43 = .ok (.aload_n 0, 1) := by decide +kernel
theorem dX5_save_44 : decode cX5_save 44 = .ok (.getfield 22, 3) := by decide +kernel
theorem dX5_save_47 : decode cX5_save 47 = .ok (.iload_n 1, 1) := by decide +kernel
theorem dX5_save_48 : decode cX5_save 48 = .ok (.iconst 1, 1) := by decide +kernel
theorem dX5_save_49 : decode cX5_save 49 = .ok (.iastore, 1) := by decide +kernel
theorem dX5_save_50 : decode cX5_save 50 = .ok (.aload_n 0, 1) := by decide +kernel
theorem dX5_save_51 : decode cX5_save 51 = .ok (.getfield 7, 3) := by decide +kernel
theorem dX5_save_54 : decode cX5_save 54 = .ok (.iconst 3, 1) := by decide +kernel
theorem dX5_save_55 : decode cX5_save 55 = .ok (.iaload, 1) := by decide +kernel
theorem dX5_save_56 : decode cX5_save 56 = .ok (.ireturn, 1) := by decide +kernel
theorem dX5_restore_0 : decode cX5_restore 0 = .ok (.iload_n 1, 1) := by decide +kernel
theorem dX5_restore_1 : decode cX5_restore 1 = .ok (.invokestatic 179, 3) := by decide +kernel
theorem dX5_restore_4 : decode cX5_restore 4 = .ok (.ifCond .ne 6, 3) := by decide +kernel
theorem dX5_restore_7 : decode cX5_restore 7 = .ok (.bipush (-2), 2) := by decide +kernel
theorem dX5_restore_9 : decode cX5_restore 9 = .ok (.ireturn, 1) := by decide +kernel
theorem dX5_restore_10 : decode cX5_restore 10 = .ok (.aload_n 0, 1) := by decide +kernel
theorem dX5_restore_11 : decode cX5_restore 11 = .ok (.getfield 22, 3) := by decide +kernel
theorem dX5_restore_14 : decode cX5_restore 14 = .ok (.iload_n 1, 1) := by decide +kernel
theorem dX5_restore_15 : decode cX5_restore 15 = .ok (.iaload, 1) := by decide +kernel
theorem dX5_restore_16 : decode cX5_restore 16 = .ok (.ifCond .ne 6, 3) := by decide +kernel
theorem dX5_restore_19 : decode cX5_restore 19 = .ok (.bipush (-5), 2) := by decide +kernel
theorem dX5_restore_21 : decode cX5_restore 21 = .ok (.ireturn, 1) := by decide +kernel
theorem dX5_restore_22 : decode cX5_restore 22 = .ok (.aload_n 0, 1) := by decide +kernel
theorem dX5_restore_23 : decode cX5_restore 23 = .ok (.invokevirtual 108, 3) := by decide +kernel
theorem dX5_restore_26 : decode cX5_restore 26 = .ok (.iconst 0, 1) := by decide +kernel
theorem dX5_restore_27 : decode cX5_restore 27 = .ok (.istore_n 2, 1) := by decide +kernel
theorem dX5_restore_28 : decode cX5_restore 28 = .ok (.iload_n 2, 1) := by decide +kernel
theorem dX5_restore_29 : decode cX5_restore 29 = .ok (.sipush 225, 3) := by decide +kernel
theorem dX5_restore_32 : decode cX5_restore 32 = .ok (.if_icmp .ge 27, 3) := by decide +kernel
theorem dX5_restore_35 : decode cX5_restore 35 = .ok (.aload_n 0, 1) := by decide +kernel
theorem dX5_restore_36 : decode cX5_restore 36 = .ok (.getfield 7, 3) := by decide +kernel
theorem dX5_restore_39 : decode cX5_restore 39 = .ok (.iload_n 2, 1) := by decide +kernel
theorem dX5_restore_40 : decode cX5_restore 40 = .ok (.aload_n 0, 1) := by decide +kernel
theorem dX5_restore_41 : decode cX5_restore 41 = .ok (.getfield 19, 3) := by decide +kernel
theorem dX5_restore_44 : decode cX5_restore 44 = .ok (.sipush 225, 3) := by decide +kernel
theorem dX5_restore_47 : decode cX5_restore 47 = .ok (.iload_n 1, 1) := by decide +kernel
theorem dX5_restore_48 : decode cX5_restore 48 = .ok (.imul, 1) := by decide +kernel
theorem dX5_restore_49 : decode cX5_restore 49 = .ok (.iload_n 2, 1) := by decide +kernel
theorem dX5_restore_50 : decode cX5_restore 50 = .ok (.iadd, 1) := by decide +kernel
theorem dX5_restore_51 : decode cX5_restore 51 = .ok (.iaload, 1) := by decide +kernel
theorem dX5_restore_52 : decode cX5_restore 52 = .ok (.iastore, 1) := by decide +kernel
theorem dX5_restore_53 : decode cX5_restore 53 = .ok (.iinc 2 1, 3) := by decide +kernel
theorem dX5_restore_56 : decode cX5_restore 56 = .ok (.goto (-28), 3) := by decide +kernel
theorem dX5_restore_59 : decode cX5_restore 59 = .ok (.aload_n 0, 1) := by decide +kernel
theorem dX5_restore_60 : decode cX5_restore 60 = .ok (.getfield 7, 3) := by decide +kernel
theorem dX5_restore_63 : decode cX5_restore 63 = .ok (.iconst 3, 1) := by decide +kernel
theorem dX5_restore_64 : decode cX5_restore 64 = .ok (.iaload, 1) := by decide +kernel
theorem dX5_restore_65 : decode cX5_restore 65 = .ok (.ireturn, 1) := by decide +kernel
