/-! DECODE ROWS -/
theorem dX0_dropOldest_0 : decode cX0_dropOldest 0 = .ok (.aload_n 0, 1) := by decide +kernel
theorem dX0_dropOldest_1 : decode cX0_dropOldest 1 = .ok (.getfield 11, 3) := by decide +kernel
theorem dX0_dropOldest_4 : decode cX0_dropOldest 4 = .ok (.iconst 0, 1) := by decide +kernel
theorem dX0_dropOldest_5 : decode cX0_dropOldest 5 = .ok (.aaload, 1) := by decide +kernel
theorem dX0_dropOldest_6 : decode cX0_dropOldest 6 = .ok (.astore_n 1, 1) := by decide +kernel
theorem dX0_dropOldest_7 : decode cX0_dropOldest 7 = .ok (.iconst 1, 1) := by decide +kernel
theorem dX0_dropOldest_8 : decode cX0_dropOldest 8 = .ok (.istore_n 2, 1) := by decide +kernel
theorem dX0_dropOldest_9 : decode cX0_dropOldest 9 = .ok (.iload_n 2, 1) := by decide +kernel
theorem dX0_dropOldest_10 : decode cX0_dropOldest 10 = .ok (.bipush 6, 2) := by decide +kernel
theorem dX0_dropOldest_12 : decode cX0_dropOldest 12 = .ok (.if_icmp .ge 23, 3) := by decide +kernel
theorem dX0_dropOldest_15 : decode cX0_dropOldest 15 = .ok (.aload_n 0, 1) := by decide +kernel
theorem dX0_dropOldest_16 : decode cX0_dropOldest 16 = .ok (.getfield 11, 3) := by decide +kernel
theorem dX0_dropOldest_19 : decode cX0_dropOldest 19 = .ok (.iload_n 2, 1) := by decide +kernel
theorem dX0_dropOldest_20 : decode cX0_dropOldest 20 = .ok (.iconst 1, 1) := by decide +kernel
theorem dX0_dropOldest_21 : decode cX0_dropOldest 21 = .ok (.isub, 1) := by decide +kernel
theorem dX0_dropOldest_22 : decode cX0_dropOldest 22 = .ok (.aload_n 0, 1) := by decide +kernel
theorem dX0_dropOldest_23 : decode cX0_dropOldest 23 = .ok (.getfield 11, 3) := by decide +kernel
theorem dX0_dropOldest_26 : decode cX0_dropOldest 26 = .ok (.iload_n 2, 1) := by decide +kernel
theorem dX0_dropOldest_27 : decode cX0_dropOldest 27 = .ok (.aaload, 1) := by decide +kernel
theorem dX0_dropOldest_28 : decode cX0_dropOldest 28 = .ok (.aastore, 1) := by decide +kernel
theorem dX0_dropOldest_29 : decode cX0_dropOldest 29 = .ok (.iinc 2 1, 3) := by decide +kernel
theorem dX0_dropOldest_32 : decode cX0_dropOldest 32 = .ok (.goto (-23), 3) := by decide +kernel
theorem dX0_dropOldest_35 : decode cX0_dropOldest 35 = .ok (.aload_n 0, 1) := by decide +kernel
theorem dX0_dropOldest_36 : decode cX0_dropOldest 36 = .ok (.getfield 11, 3) := by decide +kernel
theorem dX0_dropOldest_39 : decode cX0_dropOldest 39 = .ok (.iconst 5, 1) := by decide +kernel
theorem dX0_dropOldest_40 : decode cX0_dropOldest 40 = .ok (.aload_n 1, 1) := by decide +kernel
theorem dX0_dropOldest_41 : decode cX0_dropOldest 41 = .ok (.aastore, 1) := by decide +kernel
theorem dX0_dropOldest_42 : decode cX0_dropOldest 42 = .ok (.aload_n 0, 1) := by decide +kernel
theorem dX0_dropOldest_43 : decode cX0_dropOldest 43 = .ok (.dup, 1) := by decide +kernel
theorem dX0_dropOldest_44 : decode cX0_dropOldest 44 = .ok (.getfield 18, 3) := by decide +kernel
theorem dX0_dropOldest_47 : decode cX0_dropOldest 47 = .ok (.iconst 1, 1) := by decide +kernel
theorem dX0_dropOldest_48 : decode cX0_dropOldest 48 = .ok (.isub, 1) := by decide +kernel
theorem dX0_dropOldest_49 : decode cX0_dropOldest 49 = .ok (.putfield 18, 3) := by decide +kernel
theorem dX0_dropOldest_52 : decode cX0_dropOldest 52 = .ok (.return_, 1) := by decide +kernel
theorem dX2_takeFrom_0 : decode cX2_takeFrom 0 = .ok (.aload_n 0, 1) := by decide +kernel
theorem dX2_takeFrom_1 : decode cX2_takeFrom 1 = .ok (.aload_n 1, 1) := by decide +kernel
theorem dX2_takeFrom_2 : decode cX2_takeFrom 2 = .ok (.getfield 9, 3) := by decide +kernel
theorem dX2_takeFrom_5 : decode cX2_takeFrom 5 = .ok (.putfield 9, 3) := by decide +kernel
theorem dX2_takeFrom_8 : decode cX2_takeFrom 8 = .ok (.aload_n 0, 1) := by decide +kernel
theorem dX2_takeFrom_9 : decode cX2_takeFrom 9 = .ok (.aload_n 1, 1) := by decide +kernel
theorem dX2_takeFrom_10 : decode cX2_takeFrom 10 = .ok (.getfield 15, 3) := by decide +kernel
theorem dX2_takeFrom_13 : decode cX2_takeFrom 13 = .ok (.putfield 15, 3) := by decide +kernel
theorem dX2_takeFrom_16 : decode cX2_takeFrom 16 = .ok (.aload_n 0, 1) := by decide +kernel
theorem dX2_takeFrom_17 : decode cX2_takeFrom 17 = .ok (.aload_n 1, 1) := by decide +kernel
theorem dX2_takeFrom_18 : decode cX2_takeFrom 18 = .ok (.getfield 19, 3) := by decide +kernel
theorem dX2_takeFrom_21 : decode cX2_takeFrom 21 = .ok (.putfield 19, 3) := by decide +kernel
theorem dX2_takeFrom_24 : decode cX2_takeFrom 24 = .ok (.aload_n 0, 1) := by decide +kernel
theorem dX2_takeFrom_25 : decode cX2_takeFrom 25 = .ok (.aload_n 1, 1) := by decide +kernel
theorem dX2_takeFrom_26 : decode cX2_takeFrom 26 = .ok (.getfield 22, 3) := by decide +kernel
theorem dX2_takeFrom_29 : decode cX2_takeFrom 29 = .ok (.putfield 22, 3) := by decide +kernel
theorem dX2_takeFrom_32 : decode cX2_takeFrom 32 = .ok (.aload_n 0, 1) := by decide +kernel
theorem dX2_takeFrom_33 : decode cX2_takeFrom 33 = .ok (.aload_n 1, 1) := by decide +kernel
theorem dX2_takeFrom_34 : decode cX2_takeFrom 34 = .ok (.getfield 25, 3) := by decide +kernel
theorem dX2_takeFrom_37 : decode cX2_takeFrom 37 = .ok (.putfield 25, 3) := by decide +kernel
theorem dX2_takeFrom_40 : decode cX2_takeFrom 40 = .ok (.aload_n 0, 1) := by decide +kernel
theorem dX2_takeFrom_41 : decode cX2_takeFrom 41 = .ok (.aload_n 1, 1) := by decide +kernel
theorem dX2_takeFrom_42 : decode cX2_takeFrom 42 = .ok (.getfield 28, 3) := by decide +kernel
theorem dX2_takeFrom_45 : decode cX2_takeFrom 45 = .ok (.putfield 28, 3) := by decide +kernel
theorem dX2_takeFrom_48 : decode cX2_takeFrom 48 = .ok (.aload_n 0, 1) := by decide +kernel
theorem dX2_takeFrom_49 : decode cX2_takeFrom 49 = .ok (.aload_n 1, 1) := by decide +kernel
theorem dX2_takeFrom_50 : decode cX2_takeFrom 50 = .ok (.getfield 31, 3) := by decide +kernel
theorem dX2_takeFrom_53 : decode cX2_takeFrom 53 = .ok (.putfield 31, 3) := by decide +kernel
theorem dX2_takeFrom_56 : decode cX2_takeFrom 56 = .ok (.aload_n 0, 1) := by decide +kernel
theorem dX2_takeFrom_57 : decode cX2_takeFrom 57 = .ok (.aload_n 1, 1) := by decide +kernel
theorem dX2_takeFrom_58 : decode cX2_takeFrom 58 = .ok (.getfield 34, 3) := by decide +kernel
theorem dX2_takeFrom_61 : decode cX2_takeFrom 61 = .ok (.putfield 34, 3) := by decide +kernel
theorem dX2_takeFrom_64 : decode cX2_takeFrom 64 = .ok (.aload_n 0, 1) := by decide +kernel
theorem dX2_takeFrom_65 : decode cX2_takeFrom 65 = .ok (.aload_n 1, 1) := by decide +kernel
theorem dX2_takeFrom_66 : decode cX2_takeFrom 66 = .ok (.getfield 37, 3) := by decide +kernel
theorem dX2_takeFrom_69 : decode cX2_takeFrom 69 = .ok (.putfield 37, 3) := by decide +kernel
theorem dX2_takeFrom_72 : decode cX2_takeFrom 72 = .ok (.return_, 1) := by decide +kernel
theorem dX3_takeFrom_0 : decode cX3_takeFrom 0 = .ok (.aload_n 1, 1) := by decide +kernel
theorem dX3_takeFrom_1 : decode cX3_takeFrom 1 = .ok (.getfield 13, 3) := by decide +kernel
theorem dX3_takeFrom_4 : decode cX3_takeFrom 4 = .ok (.iconst 0, 1) := by decide +kernel
theorem dX3_takeFrom_5 : decode cX3_takeFrom 5 = .ok (.aload_n 0, 1) := by decide +kernel
theorem dX3_takeFrom_6 : decode cX3_takeFrom 6 = .ok (.getfield 13, 3) := by decide +kernel
theorem dX3_takeFrom_9 : decode cX3_takeFrom 9 = .ok (.iconst 0, 1) := by decide +kernel
theorem dX3_takeFrom_10 : decode cX3_takeFrom 10 = .ok (.aload_n 0, 1) := by decide +kernel
theorem dX3_takeFrom_11 : decode cX3_takeFrom 11 = .ok (.getfield 13, 3) := by decide +kernel
theorem dX3_takeFrom_14 : decode cX3_takeFrom 14 = .ok (.arraylength, 1) := by decide +kernel
theorem dX3_takeFrom_15 : decode cX3_takeFrom 15 = .ok (.invokestatic 32, 3) := by decide +kernel
theorem dX3_takeFrom_18 : decode cX3_takeFrom 18 = .ok (.aload_n 1, 1) := by decide +kernel
theorem dX3_takeFrom_19 : decode cX3_takeFrom 19 = .ok (.getfield 24, 3) := by decide +kernel
theorem dX3_takeFrom_22 : decode cX3_takeFrom 22 = .ok (.iconst 0, 1) := by decide +kernel
theorem dX3_takeFrom_23 : decode cX3_takeFrom 23 = .ok (.aload_n 0, 1) := by decide +kernel
theorem dX3_takeFrom_24 : decode cX3_takeFrom 24 = .ok (.getfield 24, 3) := by decide +kernel
theorem dX3_takeFrom_27 : decode cX3_takeFrom 27 = .ok (.iconst 0, 1) := by decide +kernel
theorem dX3_takeFrom_28 : decode cX3_takeFrom 28 = .ok (.aload_n 0, 1) := by decide +kernel
theorem dX3_takeFrom_29 : decode cX3_takeFrom 29 = .ok (.getfield 24, 3) := by decide +kernel
theorem dX3_takeFrom_32 : decode cX3_takeFrom 32 = .ok (.arraylength, 1) := by decide +kernel
theorem dX3_takeFrom_33 : decode cX3_takeFrom 33 = .ok (.invokestatic 32, 3) := by decide +kernel
theorem dX3_takeFrom_36 : decode cX3_takeFrom 36 = .ok (.aload_n 0, 1) := by decide +kernel
theorem dX3_takeFrom_37 : decode cX3_takeFrom 37 = .ok (.aload_n 1, 1) := by decide +kernel
theorem dX3_takeFrom_38 : decode cX3_takeFrom 38 = .ok (.getfield 27, 3) := by decide +kernel
theorem dX3_takeFrom_41 : decode cX3_takeFrom 41 = .ok (.putfield 27, 3) := by decide +kernel
theorem dX3_takeFrom_44 : decode cX3_takeFrom 44 = .ok (.aload_n 0, 1) := by decide +kernel
theorem dX3_takeFrom_45 : decode cX3_takeFrom 45 = .ok (.aload_n 1, 1) := by decide +kernel
theorem dX3_takeFrom_46 : decode cX3_takeFrom 46 = .ok (.getfield 38, 3) := by decide +kernel
theorem dX3_takeFrom_49 : decode cX3_takeFrom 49 = .ok (.putfield 38, 3) := by decide +kernel
theorem dX3_takeFrom_52 : decode cX3_takeFrom 52 = .ok (.aload_n 0, 1) := by decide +kernel
theorem dX3_takeFrom_53 : decode cX3_takeFrom 53 = .ok (.aload_n 1, 1) := by decide +kernel
theorem dX3_takeFrom_54 : decode cX3_takeFrom 54 = .ok (.getfield 41, 3) := by decide +kernel
theorem dX3_takeFrom_57 : decode cX3_takeFrom 57 = .ok (.putfield 41, 3) := by decide +kernel
theorem dX3_takeFrom_60 : decode cX3_takeFrom 60 = .ok (.iconst 0, 1) := by decide +kernel
theorem dX3_takeFrom_61 : decode cX3_takeFrom 61 = .ok (.istore_n 2, 1) := by decide +kernel
theorem dX3_takeFrom_62 : decode cX3_takeFrom 62 = .ok (.iload_n 2, 1) := by decide +kernel
theorem dX3_takeFrom_63 : decode cX3_takeFrom 63 = .ok (.aload_n 0, 1) := by decide +kernel
theorem dX3_takeFrom_64 : decode cX3_takeFrom 64 = .ok (.getfield 38, 3) := by decide +kernel
theorem dX3_takeFrom_67 : decode cX3_takeFrom 67 = .ok (.if_icmp .ge 24, 3) := by decide +kernel
theorem dX3_takeFrom_70 : decode cX3_takeFrom 70 = .ok (.aload_n 0, 1) := by decide +kernel
theorem dX3_takeFrom_71 : decode cX3_takeFrom 71 = .ok (.getfield 20, 3) := by decide +kernel
theorem dX3_takeFrom_74 : decode cX3_takeFrom 74 = .ok (.iload_n 2, 1) := by decide +kernel
theorem dX3_takeFrom_75 : decode cX3_takeFrom 75 = .ok (.aaload, 1) := by decide +kernel
theorem dX3_takeFrom_76 : decode cX3_takeFrom 76 = .ok (.aload_n 1, 1) := by decide +kernel
theorem dX3_takeFrom_77 : decode cX3_takeFrom 77 = .ok (.getfield 20, 3) := by decide +kernel
theorem dX3_takeFrom_80 : decode cX3_takeFrom 80 = .ok (.iload_n 2, 1) := by decide +kernel
theorem dX3_takeFrom_81 : decode cX3_takeFrom 81 = .ok (.aaload, 1) := by decide +kernel
theorem dX3_takeFrom_82 : decode cX3_takeFrom 82 = .ok (.invokevirtual 44, 3) := by decide +kernel
theorem dX3_takeFrom_85 : decode cX3_takeFrom 85 = .ok (.iinc 2 1, 3) := by decide +kernel
theorem dX3_takeFrom_88 : decode cX3_takeFrom 88 = .ok (.goto (-26), 3) := by decide +kernel
theorem dX3_takeFrom_91 : decode cX3_takeFrom 91 = .ok (.return_, 1) := by decide +kernel
theorem dX0_keep_0 : decode cX0_keep 0 = .ok (.aload_n 0, 1) := by decide +kernel
theorem dX0_keep_1 : decode cX0_keep 1 = .ok (.getfield 18, 3) := by decide +kernel
theorem dX0_keep_4 : decode cX0_keep 4 = .ok (.bipush 6, 2) := by decide +kernel
theorem dX0_keep_6 : decode cX0_keep 6 = .ok (.if_icmp .ne 7, 3) := by decide +kernel
theorem dX0_keep_9 : decode cX0_keep 9 = .ok (.aload_n 0, 1) := by decide +kernel
theorem dX0_keep_10 : decode cX0_keep 10 = .ok (.invokevirtual 22, 3) := by decide +kernel
theorem dX0_keep_13 : decode cX0_keep 13 = .ok (.aload_n 0, 1) := by decide +kernel
theorem dX0_keep_14 : decode cX0_keep 14 = .ok (.getfield 18, 3) := by decide +kernel
theorem dX0_keep_17 : decode cX0_keep 17 = .ok (.ifCond .lt 35, 3) := by decide +kernel
theorem dX0_keep_20 : decode cX0_keep 20 = .ok (.aload_n 0, 1) := by decide +kernel
theorem dX0_keep_21 : decode cX0_keep 21 = .ok (.getfield 18, 3) := by decide +kernel
theorem dX0_keep_24 : decode cX0_keep 24 = .ok (.bipush 6, 2) := by decide +kernel
theorem dX0_keep_26 : decode cX0_keep 26 = .ok (.if_icmp .ge 26, 3) := by decide +kernel
theorem dX0_keep_29 : decode cX0_keep 29 = .ok (.aload_n 0, 1) := by decide +kernel
theorem dX0_keep_30 : decode cX0_keep 30 = .ok (.getfield 11, 3) := by decide +kernel
theorem dX0_keep_33 : decode cX0_keep 33 = .ok (.aload_n 0, 1) := by decide +kernel
theorem dX0_keep_34 : decode cX0_keep 34 = .ok (.getfield 18, 3) := by decide +kernel
theorem dX0_keep_37 : decode cX0_keep 37 = .ok (.aaload, 1) := by decide +kernel
theorem dX0_keep_38 : decode cX0_keep 38 = .ok (.aload_n 1, 1) := by decide +kernel
theorem dX0_keep_39 : decode cX0_keep 39 = .ok (.invokevirtual 25, 3) := by decide +kernel
theorem dX0_keep_42 : decode cX0_keep 42 = .ok (.aload_n 0, 1) := by decide +kernel
theorem dX0_keep_43 : decode cX0_keep 43 = .ok (.dup, 1) := by decide +kernel
theorem dX0_keep_44 : decode cX0_keep 44 = .ok (.getfield 18, 3) := by decide +kernel
theorem dX0_keep_47 : decode cX0_keep 47 = .ok (.iconst 1, 1) := by decide +kernel
theorem dX0_keep_48 : decode cX0_keep 48 = .ok (.iadd, 1) := by decide +kernel
theorem dX0_keep_49 : decode cX0_keep 49 = .ok (.putfield 18, 3) := by decide +kernel
theorem dX0_keep_52 : decode cX0_keep 52 = .ok (.return_, 1) := by decide +kernel
theorem dX1_charactersIn_0 : decode cX1_charactersIn 0 = .ok (.iconst 0, 1) := by decide +kernel
theorem dX1_charactersIn_1 : decode cX1_charactersIn 1 = .ok (.istore_n 2, 1) := by decide +kernel
theorem dX1_charactersIn_2 : decode cX1_charactersIn 2 = .ok (.lload_n 0, 1) := by decide +kernel
theorem dX1_charactersIn_3 : decode cX1_charactersIn 3 = .ok (.lstore_n 3, 1) := by decide +kernel
theorem dX1_charactersIn_4 : decode cX1_charactersIn 4 = .ok (.lload_n 3, 1) := by decide +kernel
theorem dX1_charactersIn_5 : decode cX1_charactersIn 5 = .ok (.lconst 0, 1) := by decide +kernel
theorem dX1_charactersIn_6 : decode cX1_charactersIn 6 = .ok (.lcmp, 1) := by decide +kernel
theorem dX1_charactersIn_7 : decode cX1_charactersIn 7 = .ok (.ifCond .eq 47, 3) := by decide +kernel
theorem dX1_charactersIn_10 : decode cX1_charactersIn 10 = .ok (.iload_n 2, 1) := by decide +kernel
theorem dX1_charactersIn_11 : decode cX1_charactersIn 11 = .ok (.bipush 8, 2) := by decide +kernel
theorem dX1_charactersIn_13 : decode cX1_charactersIn 13 = .ok (.if_icmp .ge 41, 3) := by decide +kernel
theorem dX1_charactersIn_16 : decode cX1_charactersIn 16 = .ok (.lload_n 3, 1) := by decide +kernel
theorem dX1_charactersIn_17 : decode cX1_charactersIn 17 = .ok (.ldc2_w 23, 3) := by decide +kernel
theorem dX1_charactersIn_20 : decode cX1_charactersIn 20 = .ok (.land, 1) := by decide +kernel
theorem dX1_charactersIn_21 : decode cX1_charactersIn 21 = .ok (.lstore 5, 2) := by decide +kernel
theorem dX1_charactersIn_23 : decode cX1_charactersIn 23 = .ok (.lload 5, 2) := by decide +kernel
theorem dX1_charactersIn_25 : decode cX1_charactersIn 25 = .ok (.ldc2_w 25, 3) := by decide +kernel
theorem dX1_charactersIn_28 : decode cX1_charactersIn 28 = .ok (.lcmp, 1) := by decide +kernel
theorem dX1_charactersIn_29 : decode cX1_charactersIn 29 = .ok (.ifCond .lt 12, 3) := by decide +kernel
theorem dX1_charactersIn_32 : decode cX1_charactersIn 32 = .ok (.lload 5, 2) := by decide +kernel
theorem dX1_charactersIn_34 : decode cX1_charactersIn 34 = .ok (.ldc2_w 27, 3) := by decide +kernel
theorem dX1_charactersIn_37 : decode cX1_charactersIn 37 = .ok (.lcmp, 1) := by decide +kernel
theorem dX1_charactersIn_38 : decode cX1_charactersIn 38 = .ok (.ifCond .le 5, 3) := by decide +kernel
theorem dX1_charactersIn_41 : decode cX1_charactersIn 41 = .ok (.iconst 0, 1) := by decide +kernel
theorem dX1_charactersIn_42 : decode cX1_charactersIn 42 = .ok (.ireturn, 1) := by decide +kernel
theorem dX1_charactersIn_43 : decode cX1_charactersIn 43 = .ok (.lload_n 3, 1) := by decide +kernel
theorem dX1_charactersIn_44 : decode cX1_charactersIn 44 = .ok (.bipush 8, 2) := by decide +kernel
theorem dX1_charactersIn_46 : decode cX1_charactersIn 46 = .ok (.lushr, 1) := by decide +kernel
theorem dX1_charactersIn_47 : decode cX1_charactersIn 47 = .ok (.lstore_n 3, 1) := by decide +kernel
theorem dX1_charactersIn_48 : decode cX1_charactersIn 48 = .ok (.iinc 2 1, 3) := by decide +kernel
theorem dX1_charactersIn_51 : decode cX1_charactersIn 51 = .ok (.goto (-47), 3) := by decide +kernel
theorem dX1_charactersIn_54 : decode cX1_charactersIn 54 = .ok (.iload_n 2, 1) := by decide +kernel
theorem dX1_charactersIn_55 : decode cX1_charactersIn 55 = .ok (.ireturn, 1) := by decide +kernel
theorem dX1_append_0 : decode cX1_append 0 = .ok (.lload_n 1, 1) := by decide +kernel
theorem dX1_append_1 : decode cX1_append 1 = .ok (.invokestatic 15, 3) := by decide +kernel
theorem dX1_append_4 : decode cX1_append 4 = .ok (.istore_n 3, 1) := by decide +kernel
theorem dX1_append_5 : decode cX1_append 5 = .ok (.iload_n 3, 1) := by decide +kernel
theorem dX1_append_6 : decode cX1_append 6 = .ok (.ifCond .ne 6, 3) := by decide +kernel
theorem dX1_append_9 : decode cX1_append 9 = .ok (.bipush (-2), 2) := by decide +kernel
theorem dX1_append_11 : decode cX1_append 11 = .ok (.ireturn, 1) := by decide +kernel
theorem dX1_append_12 : decode cX1_append 12 = .ok (.aload_n 0, 1) := by decide +kernel
theorem dX1_append_13 : decode cX1_append 13 = .ok (.getfield 19, 3) := by decide +kernel
theorem dX1_append_16 : decode cX1_append 16 = .ok (.iload_n 3, 1) := by decide +kernel
theorem dX1_append_17 : decode cX1_append 17 = .ok (.iadd, 1) := by decide +kernel
theorem dX1_append_18 : decode cX1_append 18 = .ok (.bipush 60, 2) := by decide +kernel
theorem dX1_append_20 : decode cX1_append 20 = .ok (.if_icmp .le 6, 3) := by decide +kernel
theorem dX1_append_23 : decode cX1_append 23 = .ok (.bipush (-4), 2) := by decide +kernel
theorem dX1_append_25 : decode cX1_append 25 = .ok (.ireturn, 1) := by decide +kernel
theorem dX1_append_26 : decode cX1_append 26 = .ok (.iconst 0, 1) := by decide +kernel
theorem dX1_append_27 : decode cX1_append 27 = .ok (.istore 4, 2) := by decide +kernel
theorem dX1_append_29 : decode cX1_append 29 = .ok (.iload 4, 2) := by decide +kernel
theorem dX1_append_31 : decode cX1_append 31 = .ok (.iload_n 3, 1) := by decide +kernel
theorem dX1_append_32 : decode cX1_append 32 = .ok (.if_icmp .ge 38, 3) := by decide +kernel
theorem dX1_append_35 : decode cX1_append 35 = .ok (.aload_n 0, 1) := by decide +kernel
theorem dX1_append_36 : decode cX1_append 36 = .ok (.getfield 9, 3) := by decide +kernel
theorem dX1_append_39 : decode cX1_append 39 = .ok (.aload_n 0, 1) := by decide +kernel
theorem dX1_append_40 : decode cX1_append 40 = .ok (.getfield 19, 3) := by decide +kernel
theorem dX1_append_43 : decode cX1_append 43 = .ok (.iload_n 3, 1) := by decide +kernel
theorem dX1_append_44 : decode cX1_append 44 = .ok (.iadd, 1) := by decide +kernel
theorem dX1_append_45 : decode cX1_append 45 = .ok (.iconst 1, 1) := by decide +kernel
theorem dX1_append_46 : decode cX1_append 46 = .ok (.isub, 1) := by decide +kernel
theorem dX1_append_47 : decode cX1_append 47 = .ok (.iload 4, 2) := by decide +kernel
theorem dX1_append_49 : decode cX1_append 49 = .ok (.isub, 1) := by decide +kernel
theorem dX1_append_50 : decode cX1_append 50 = .ok (.lload_n 1, 1) := by decide +kernel
theorem dX1_append_51 : decode cX1_append 51 = .ok (.bipush 8, 2) := by decide +kernel
theorem dX1_append_53 : decode cX1_append 53 = .ok (.iload 4, 2) := by decide +kernel
theorem dX1_append_55 : decode cX1_append 55 = .ok (.imul, 1) := by decide +kernel
theorem dX1_append_56 : decode cX1_append 56 = .ok (.lushr, 1) := by decide +kernel
theorem dX1_append_57 : decode cX1_append 57 = .ok (.ldc2_w 23, 3) := by decide +kernel
theorem dX1_append_60 : decode cX1_append 60 = .ok (.land, 1) := by decide +kernel
theorem dX1_append_61 : decode cX1_append 61 = .ok (.l2i, 1) := by decide +kernel
theorem dX1_append_62 : decode cX1_append 62 = .ok (.i2c, 1) := by decide +kernel
theorem dX1_append_63 : decode cX1_append 63 = .ok (.castore, 1) := by decide +kernel
theorem dX1_append_64 : decode cX1_append 64 = .ok (.iinc 4 1, 3) := by decide +kernel
theorem dX1_append_67 : decode cX1_append 67 = .ok (.goto (-38), 3) := by decide +kernel
theorem dX1_append_70 : decode cX1_append 70 = .ok (.aload_n 0, 1) := by decide +kernel
theorem dX1_append_71 : decode cX1_append 71 = .ok (.dup, 1) := by decide +kernel
theorem dX1_append_72 : decode cX1_append 72 = .ok (.getfield 19, 3) := by decide +kernel
theorem dX1_append_75 : decode cX1_append 75 = .ok (.iload_n 3, 1) := by decide +kernel
theorem dX1_append_76 : decode cX1_append 76 = .ok (.iadd, 1) := by decide +kernel
theorem dX1_append_77 : decode cX1_append 77 = .ok (.putfield 19, 3) := by decide +kernel
theorem dX1_append_80 : decode cX1_append 80 = .ok (.aload_n 0, 1) := by decide +kernel
theorem dX1_append_81 : decode cX1_append 81 = .ok (.getfield 19, 3) := by decide +kernel
theorem dX1_append_84 : decode cX1_append 84 = .ok (.ireturn, 1) := by decide +kernel
theorem dX1_canStandAt_0 : decode cX1_canStandAt 0 = .ok (.aload_n 0, 1) := by decide +kernel
theorem dX1_canStandAt_1 : decode cX1_canStandAt 1 = .ok (.getfield 9, 3) := by decide +kernel
theorem dX1_canStandAt_4 : decode cX1_canStandAt 4 = .ok (.iload_n 1, 1) := by decide +kernel
theorem dX1_canStandAt_5 : decode cX1_canStandAt 5 = .ok (.caload, 1) := by decide +kernel
theorem dX1_canStandAt_6 : decode cX1_canStandAt 6 = .ok (.istore_n 2, 1) := by decide +kernel
theorem dX1_canStandAt_7 : decode cX1_canStandAt 7 = .ok (.iload_n 1, 1) := by decide +kernel
theorem dX1_canStandAt_8 : decode cX1_canStandAt 8 = .ok (.iconst 2, 1) := by decide +kernel
theorem dX1_canStandAt_9 : decode cX1_canStandAt 9 = .ok (.irem, 1) := by decide +kernel
theorem dX1_canStandAt_10 : decode cX1_canStandAt 10 = .ok (.ifCond .ne 21, 3) := by decide +kernel
theorem dX1_canStandAt_13 : decode cX1_canStandAt 13 = .ok (.iload_n 2, 1) := by decide +kernel
theorem dX1_canStandAt_14 : decode cX1_canStandAt 14 = .ok (.bipush 117, 2) := by decide +kernel
theorem dX1_canStandAt_16 : decode cX1_canStandAt 16 = .ok (.if_icmp .eq 9, 3) := by decide +kernel
theorem dX1_canStandAt_19 : decode cX1_canStandAt 19 = .ok (.iload_n 2, 1) := by decide +kernel
theorem dX1_canStandAt_20 : decode cX1_canStandAt 20 = .ok (.bipush 100, 2) := by decide +kernel
theorem dX1_canStandAt_22 : decode cX1_canStandAt 22 = .ok (.if_icmp .ne 7, 3) := by decide +kernel
theorem dX1_canStandAt_25 : decode cX1_canStandAt 25 = .ok (.iconst 1, 1) := by decide +kernel
theorem dX1_canStandAt_26 : decode cX1_canStandAt 26 = .ok (.goto 4, 3) := by decide +kernel
theorem dX1_canStandAt_29 : decode cX1_canStandAt 29 = .ok (.iconst 0, 1) := by decide +kernel
theorem dX1_canStandAt_30 : decode cX1_canStandAt 30 = .ok (.ireturn, 1) := by decide +kernel
theorem dX1_canStandAt_31 : decode cX1_canStandAt 31 = .ok (.iload_n 2, 1) := by decide +kernel
theorem dX1_canStandAt_32 : decode cX1_canStandAt 32 = .ok (.bipush 49, 2) := by decide +kernel
theorem dX1_canStandAt_34 : decode cX1_canStandAt 34 = .ok (.if_icmp .lt 13, 3) := by decide +kernel
theorem dX1_canStandAt_37 : decode cX1_canStandAt 37 = .ok (.iload_n 2, 1) := by decide +kernel
theorem dX1_canStandAt_38 : decode cX1_canStandAt 38 = .ok (.bipush 57, 2) := by decide +kernel
theorem dX1_canStandAt_40 : decode cX1_canStandAt 40 = .ok (.if_icmp .gt 7, 3) := by decide +kernel
theorem dX1_canStandAt_43 : decode cX1_canStandAt 43 = .ok (.iconst 1, 1) := by decide +kernel
theorem dX1_canStandAt_44 : decode cX1_canStandAt 44 = .ok (.goto 4, 3) := by decide +kernel
theorem dX1_canStandAt_47 : decode cX1_canStandAt 47 = .ok (.iconst 0, 1) := by decide +kernel
theorem dX1_canStandAt_48 : decode cX1_canStandAt 48 = .ok (.ireturn, 1) := by decide +kernel
theorem dX1_firstFault_0 : decode cX1_firstFault 0 = .ok (.iconst 0, 1) := by decide +kernel
theorem dX1_firstFault_1 : decode cX1_firstFault 1 = .ok (.istore_n 1, 1) := by decide +kernel
theorem dX1_firstFault_2 : decode cX1_firstFault 2 = .ok (.iload_n 1, 1) := by decide +kernel
theorem dX1_firstFault_3 : decode cX1_firstFault 3 = .ok (.aload_n 0, 1) := by decide +kernel
theorem dX1_firstFault_4 : decode cX1_firstFault 4 = .ok (.getfield 19, 3) := by decide +kernel
theorem dX1_firstFault_7 : decode cX1_firstFault 7 = .ok (.if_icmp .ge 19, 3) := by decide +kernel
theorem dX1_firstFault_10 : decode cX1_firstFault 10 = .ok (.aload_n 0, 1) := by decide +kernel
theorem dX1_firstFault_11 : decode cX1_firstFault 11 = .ok (.iload_n 1, 1) := by decide +kernel
theorem dX1_firstFault_12 : decode cX1_firstFault 12 = .ok (.invokevirtual 29, 3) := by decide +kernel
theorem dX1_firstFault_15 : decode cX1_firstFault 15 = .ok (.ifCond .ne 5, 3) := by decide +kernel
theorem dX1_firstFault_18 : decode cX1_firstFault 18 = .ok (.iload_n 1, 1) := by decide +kernel
theorem dX1_firstFault_19 : decode cX1_firstFault 19 = .ok (.ireturn, 1) := by decide +kernel
theorem dX1_firstFault_20 : decode cX1_firstFault 20 = .ok (.iinc 1 1, 3) := by decide +kernel
theorem dX1_firstFault_23 : decode cX1_firstFault 23 = .ok (.goto (-21), 3) := by decide +kernel
theorem dX1_firstFault_26 : decode cX1_firstFault 26 = .ok (.aload_n 0, 1) := by decide +kernel
theorem dX1_firstFault_27 : decode cX1_firstFault 27 = .ok (.getfield 19, 3) := by decide +kernel
theorem dX1_firstFault_30 : decode cX1_firstFault 30 = .ok (.ifCond .eq 13, 3) := by decide +kernel
theorem dX1_firstFault_33 : decode cX1_firstFault 33 = .ok (.aload_n 0, 1) := by decide +kernel
theorem dX1_firstFault_34 : decode cX1_firstFault 34 = .ok (.getfield 19, 3) := by decide +kernel
theorem dX1_firstFault_37 : decode cX1_firstFault 37 = .ok (.iconst 2, 1) := by decide +kernel
theorem dX1_firstFault_38 : decode cX1_firstFault 38 = .ok (.irem, 1) := by decide +kernel
theorem dX1_firstFault_39 : decode cX1_firstFault 39 = .ok (.iconst 1, 1) := by decide +kernel
theorem dX1_firstFault_40 : decode cX1_firstFault 40 = .ok (.if_icmp .ne 10, 3) := by decide +kernel
theorem dX1_firstFault_43 : decode cX1_firstFault 43 = .ok (.aload_n 0, 1) := by decide +kernel
theorem dX1_firstFault_44 : decode cX1_firstFault 44 = .ok (.getfield 19, 3) := by decide +kernel
theorem dX1_firstFault_47 : decode cX1_firstFault 47 = .ok (.goto 5, 3) := by decide +kernel
theorem dX1_firstFault_50 : decode cX1_firstFault 50 = .ok (.bipush (-6), 2) := by decide +kernel
theorem dX1_firstFault_52 : decode cX1_firstFault 52 = .ok (.ireturn, 1) := by decide +kernel
theorem dX1_isUp_0 : decode cX1_isUp 0 = .ok (.iconst 2, 1) := by decide +kernel
theorem dX1_isUp_1 : decode cX1_isUp 1 = .ok (.iload_n 1, 1) := by decide +kernel
theorem dX1_isUp_2 : decode cX1_isUp 2 = .ok (.imul, 1) := by decide +kernel
theorem dX1_isUp_3 : decode cX1_isUp 3 = .ok (.istore_n 2, 1) := by decide +kernel
theorem dX1_isUp_4 : decode cX1_isUp 4 = .ok (.iload_n 2, 1) := by decide +kernel
theorem dX1_isUp_5 : decode cX1_isUp 5 = .ok (.ifCond .lt 26, 3) := by decide +kernel
theorem dX1_isUp_8 : decode cX1_isUp 8 = .ok (.iload_n 2, 1) := by decide +kernel
theorem dX1_isUp_9 : decode cX1_isUp 9 = .ok (.aload_n 0, 1) := by decide +kernel
theorem dX1_isUp_10 : decode cX1_isUp 10 = .ok (.getfield 19, 3) := by decide +kernel
theorem dX1_isUp_13 : decode cX1_isUp 13 = .ok (.if_icmp .ge 18, 3) := by decide +kernel
theorem dX1_isUp_16 : decode cX1_isUp 16 = .ok (.aload_n 0, 1) := by decide +kernel
theorem dX1_isUp_17 : decode cX1_isUp 17 = .ok (.getfield 9, 3) := by decide +kernel
theorem dX1_isUp_20 : decode cX1_isUp 20 = .ok (.iload_n 2, 1) := by decide +kernel
theorem dX1_isUp_21 : decode cX1_isUp 21 = .ok (.caload, 1) := by decide +kernel
theorem dX1_isUp_22 : decode cX1_isUp 22 = .ok (.bipush 117, 2) := by decide +kernel
theorem dX1_isUp_24 : decode cX1_isUp 24 = .ok (.if_icmp .ne 7, 3) := by decide +kernel
theorem dX1_isUp_27 : decode cX1_isUp 27 = .ok (.iconst 1, 1) := by decide +kernel
theorem dX1_isUp_28 : decode cX1_isUp 28 = .ok (.goto 4, 3) := by decide +kernel
theorem dX1_isUp_31 : decode cX1_isUp 31 = .ok (.iconst 0, 1) := by decide +kernel
theorem dX1_isUp_32 : decode cX1_isUp 32 = .ok (.ireturn, 1) := by decide +kernel
theorem dX1_rankOf_0 : decode cX1_rankOf 0 = .ok (.iconst 2, 1) := by decide +kernel
theorem dX1_rankOf_1 : decode cX1_rankOf 1 = .ok (.iload_n 1, 1) := by decide +kernel
theorem dX1_rankOf_2 : decode cX1_rankOf 2 = .ok (.imul, 1) := by decide +kernel
theorem dX1_rankOf_3 : decode cX1_rankOf 3 = .ok (.iconst 1, 1) := by decide +kernel
theorem dX1_rankOf_4 : decode cX1_rankOf 4 = .ok (.iadd, 1) := by decide +kernel
theorem dX1_rankOf_5 : decode cX1_rankOf 5 = .ok (.istore_n 2, 1) := by decide +kernel
theorem dX1_rankOf_6 : decode cX1_rankOf 6 = .ok (.iload_n 2, 1) := by decide +kernel
theorem dX1_rankOf_7 : decode cX1_rankOf 7 = .ok (.iconst 1, 1) := by decide +kernel
theorem dX1_rankOf_8 : decode cX1_rankOf 8 = .ok (.if_icmp .lt 23, 3) := by decide +kernel
theorem dX1_rankOf_11 : decode cX1_rankOf 11 = .ok (.iload_n 2, 1) := by decide +kernel
theorem dX1_rankOf_12 : decode cX1_rankOf 12 = .ok (.aload_n 0, 1) := by decide +kernel
theorem dX1_rankOf_13 : decode cX1_rankOf 13 = .ok (.getfield 19, 3) := by decide +kernel
theorem dX1_rankOf_16 : decode cX1_rankOf 16 = .ok (.if_icmp .ge 15, 3) := by decide +kernel
theorem dX1_rankOf_19 : decode cX1_rankOf 19 = .ok (.aload_n 0, 1) := by decide +kernel
theorem dX1_rankOf_20 : decode cX1_rankOf 20 = .ok (.getfield 9, 3) := by decide +kernel
theorem dX1_rankOf_23 : decode cX1_rankOf 23 = .ok (.iload_n 2, 1) := by decide +kernel
theorem dX1_rankOf_24 : decode cX1_rankOf 24 = .ok (.caload, 1) := by decide +kernel
theorem dX1_rankOf_25 : decode cX1_rankOf 25 = .ok (.bipush 48, 2) := by decide +kernel
theorem dX1_rankOf_27 : decode cX1_rankOf 27 = .ok (.isub, 1) := by decide +kernel
theorem dX1_rankOf_28 : decode cX1_rankOf 28 = .ok (.goto 4, 3) := by decide +kernel
theorem dX1_rankOf_31 : decode cX1_rankOf 31 = .ok (.iconst 1, 1) := by decide +kernel
theorem dX1_rankOf_32 : decode cX1_rankOf 32 = .ok (.ireturn, 1) := by decide +kernel
theorem dX2_enterHall_0 : decode cX2_enterHall 0 = .ok (.aload_n 0, 1) := by decide +kernel
theorem dX2_enterHall_1 : decode cX2_enterHall 1 = .ok (.iload_n 1, 1) := by decide +kernel
theorem dX2_enterHall_2 : decode cX2_enterHall 2 = .ok (.putfield 9, 3) := by decide +kernel
theorem dX2_enterHall_5 : decode cX2_enterHall 5 = .ok (.aload_n 0, 1) := by decide +kernel
theorem dX2_enterHall_6 : decode cX2_enterHall 6 = .ok (.iload_n 2, 1) := by decide +kernel
theorem dX2_enterHall_7 : decode cX2_enterHall 7 = .ok (.putfield 15, 3) := by decide +kernel
theorem dX2_enterHall_10 : decode cX2_enterHall 10 = .ok (.aload_n 0, 1) := by decide +kernel
theorem dX2_enterHall_11 : decode cX2_enterHall 11 = .ok (.iconst 0, 1) := by decide +kernel
theorem dX2_enterHall_12 : decode cX2_enterHall 12 = .ok (.putfield 19, 3) := by decide +kernel
theorem dX2_enterHall_15 : decode cX2_enterHall 15 = .ok (.aload_n 0, 1) := by decide +kernel
theorem dX2_enterHall_16 : decode cX2_enterHall 16 = .ok (.iload_n 2, 1) := by decide +kernel
theorem dX2_enterHall_17 : decode cX2_enterHall 17 = .ok (.ifCond .eq 7, 3) := by decide +kernel
theorem dX2_enterHall_20 : decode cX2_enterHall 20 = .ok (.iconst (-1), 1) := by decide +kernel
theorem dX2_enterHall_21 : decode cX2_enterHall 21 = .ok (.goto 5, 3) := by decide +kernel
theorem dX2_enterHall_24 : decode cX2_enterHall 24 = .ok (.bipush 12, 2) := by decide +kernel
theorem dX2_enterHall_26 : decode cX2_enterHall 26 = .ok (.putfield 22, 3) := by decide +kernel
theorem dX2_enterHall_29 : decode cX2_enterHall 29 = .ok (.aload_n 0, 1) := by decide +kernel
theorem dX2_enterHall_30 : decode cX2_enterHall 30 = .ok (.iconst 0, 1) := by decide +kernel
theorem dX2_enterHall_31 : decode cX2_enterHall 31 = .ok (.putfield 25, 3) := by decide +kernel
theorem dX2_enterHall_34 : decode cX2_enterHall 34 = .ok (.aload_n 0, 1) := by decide +kernel
theorem dX2_enterHall_35 : decode cX2_enterHall 35 = .ok (.iconst 0, 1) := by decide +kernel
theorem dX2_enterHall_36 : decode cX2_enterHall 36 = .ok (.putfield 28, 3) := by decide +kernel
theorem dX2_enterHall_39 : decode cX2_enterHall 39 = .ok (.aload_n 0, 1) := by decide +kernel
theorem dX2_enterHall_40 : decode cX2_enterHall 40 = .ok (.iconst 0, 1) := by decide +kernel
theorem dX2_enterHall_41 : decode cX2_enterHall 41 = .ok (.putfield 31, 3) := by decide +kernel
theorem dX2_enterHall_44 : decode cX2_enterHall 44 = .ok (.aload_n 0, 1) := by decide +kernel
theorem dX2_enterHall_45 : decode cX2_enterHall 45 = .ok (.iconst 0, 1) := by decide +kernel
theorem dX2_enterHall_46 : decode cX2_enterHall 46 = .ok (.putfield 34, 3) := by decide +kernel
theorem dX2_enterHall_49 : decode cX2_enterHall 49 = .ok (.aload_n 0, 1) := by decide +kernel
theorem dX2_enterHall_50 : decode cX2_enterHall 50 = .ok (.iconst 0, 1) := by decide +kernel
theorem dX2_enterHall_51 : decode cX2_enterHall 51 = .ok (.putfield 37, 3) := by decide +kernel
theorem dX2_enterHall_54 : decode cX2_enterHall 54 = .ok (.return_, 1) := by decide +kernel
theorem dX2_isOnWay_0 : decode cX2_isOnWay 0 = .ok (.aload_n 0, 1) := by decide +kernel
theorem dX2_isOnWay_1 : decode cX2_isOnWay 1 = .ok (.getfield 19, 3) := by decide +kernel
theorem dX2_isOnWay_4 : decode cX2_isOnWay 4 = .ok (.ifCond .eq 11, 3) := by decide +kernel
theorem dX2_isOnWay_7 : decode cX2_isOnWay 7 = .ok (.aload_n 0, 1) := by decide +kernel
theorem dX2_isOnWay_8 : decode cX2_isOnWay 8 = .ok (.getfield 19, 3) := by decide +kernel
theorem dX2_isOnWay_11 : decode cX2_isOnWay 11 = .ok (.iconst 1, 1) := by decide +kernel
theorem dX2_isOnWay_12 : decode cX2_isOnWay 12 = .ok (.if_icmp .ne 7, 3) := by decide +kernel
theorem dX2_isOnWay_15 : decode cX2_isOnWay 15 = .ok (.iconst 1, 1) := by decide +kernel
theorem dX2_isOnWay_16 : decode cX2_isOnWay 16 = .ok (.goto 4, 3) := by decide +kernel
theorem dX2_isOnWay_19 : decode cX2_isOnWay 19 = .ok (.iconst 0, 1) := by decide +kernel
theorem dX2_isOnWay_20 : decode cX2_isOnWay 20 = .ok (.ireturn, 1) := by decide +kernel
theorem dX2_standsOn_0 : decode cX2_standsOn 0 = .ok (.aload_n 0, 1) := by decide +kernel
theorem dX2_standsOn_1 : decode cX2_standsOn 1 = .ok (.getfield 19, 3) := by decide +kernel
theorem dX2_standsOn_4 : decode cX2_standsOn 4 = .ok (.iconst 1, 1) := by decide +kernel
theorem dX2_standsOn_5 : decode cX2_standsOn 5 = .ok (.if_icmp .ne 15, 3) := by decide +kernel
theorem dX2_standsOn_8 : decode cX2_standsOn 8 = .ok (.aload_n 0, 1) := by decide +kernel
theorem dX2_standsOn_9 : decode cX2_standsOn 9 = .ok (.getfield 22, 3) := by decide +kernel
theorem dX2_standsOn_12 : decode cX2_standsOn 12 = .ok (.iload_n 1, 1) := by decide +kernel
theorem dX2_standsOn_13 : decode cX2_standsOn 13 = .ok (.if_icmp .ne 7, 3) := by decide +kernel
theorem dX2_standsOn_16 : decode cX2_standsOn 16 = .ok (.iconst 1, 1) := by decide +kernel
theorem dX2_standsOn_17 : decode cX2_standsOn 17 = .ok (.goto 4, 3) := by decide +kernel
theorem dX2_standsOn_20 : decode cX2_standsOn 20 = .ok (.iconst 0, 1) := by decide +kernel
theorem dX2_standsOn_21 : decode cX2_standsOn 21 = .ok (.ireturn, 1) := by decide +kernel
theorem dX2_nextStep_0 : decode cX2_nextStep 0 = .ok (.aload_n 0, 1) := by decide +kernel
theorem dX2_nextStep_1 : decode cX2_nextStep 1 = .ok (.getfield 15, 3) := by decide +kernel
theorem dX2_nextStep_4 : decode cX2_nextStep 4 = .ok (.ifCond .eq 12, 3) := by decide +kernel
theorem dX2_nextStep_7 : decode cX2_nextStep 7 = .ok (.aload_n 0, 1) := by decide +kernel
theorem dX2_nextStep_8 : decode cX2_nextStep 8 = .ok (.getfield 22, 3) := by decide +kernel
theorem dX2_nextStep_11 : decode cX2_nextStep 11 = .ok (.iconst 1, 1) := by decide +kernel
theorem dX2_nextStep_12 : decode cX2_nextStep 12 = .ok (.iadd, 1) := by decide +kernel
theorem dX2_nextStep_13 : decode cX2_nextStep 13 = .ok (.goto 9, 3) := by decide +kernel
theorem dX2_nextStep_16 : decode cX2_nextStep 16 = .ok (.aload_n 0, 1) := by decide +kernel
theorem dX2_nextStep_17 : decode cX2_nextStep 17 = .ok (.getfield 22, 3) := by decide +kernel
theorem dX2_nextStep_20 : decode cX2_nextStep 20 = .ok (.iconst 1, 1) := by decide +kernel
theorem dX2_nextStep_21 : decode cX2_nextStep 21 = .ok (.isub, 1) := by decide +kernel
theorem dX2_nextStep_22 : decode cX2_nextStep 22 = .ok (.ireturn, 1) := by decide +kernel
theorem dX2_stepBehind_0 : decode cX2_stepBehind 0 = .ok (.aload_n 0, 1) := by decide +kernel
theorem dX2_stepBehind_1 : decode cX2_stepBehind 1 = .ok (.getfield 15, 3) := by decide +kernel
theorem dX2_stepBehind_4 : decode cX2_stepBehind 4 = .ok (.ifCond .eq 12, 3) := by decide +kernel
theorem dX2_stepBehind_7 : decode cX2_stepBehind 7 = .ok (.aload_n 0, 1) := by decide +kernel
theorem dX2_stepBehind_8 : decode cX2_stepBehind 8 = .ok (.getfield 22, 3) := by decide +kernel
theorem dX2_stepBehind_11 : decode cX2_stepBehind 11 = .ok (.iconst 1, 1) := by decide +kernel
theorem dX2_stepBehind_12 : decode cX2_stepBehind 12 = .ok (.isub, 1) := by decide +kernel
theorem dX2_stepBehind_13 : decode cX2_stepBehind 13 = .ok (.goto 9, 3) := by decide +kernel
theorem dX2_stepBehind_16 : decode cX2_stepBehind 16 = .ok (.aload_n 0, 1) := by decide +kernel
theorem dX2_stepBehind_17 : decode cX2_stepBehind 17 = .ok (.getfield 22, 3) := by decide +kernel
theorem dX2_stepBehind_20 : decode cX2_stepBehind 20 = .ok (.iconst 1, 1) := by decide +kernel
theorem dX2_stepBehind_21 : decode cX2_stepBehind 21 = .ok (.iadd, 1) := by decide +kernel
theorem dX2_stepBehind_22 : decode cX2_stepBehind 22 = .ok (.ireturn, 1) := by decide +kernel
theorem dX2_yieldsTo_0 : decode cX2_yieldsTo 0 = .ok (.aload_n 0, 1) := by decide +kernel
theorem dX2_yieldsTo_1 : decode cX2_yieldsTo 1 = .ok (.getfield 15, 3) := by decide +kernel
theorem dX2_yieldsTo_4 : decode cX2_yieldsTo 4 = .ok (.aload_n 1, 1) := by decide +kernel
theorem dX2_yieldsTo_5 : decode cX2_yieldsTo 5 = .ok (.getfield 15, 3) := by decide +kernel
theorem dX2_yieldsTo_8 : decode cX2_yieldsTo 8 = .ok (.if_icmp .eq 36, 3) := by decide +kernel
theorem dX2_yieldsTo_11 : decode cX2_yieldsTo 11 = .ok (.aload_n 1, 1) := by decide +kernel
theorem dX2_yieldsTo_12 : decode cX2_yieldsTo 12 = .ok (.getfield 9, 3) := by decide +kernel
theorem dX2_yieldsTo_15 : decode cX2_yieldsTo 15 = .ok (.aload_n 0, 1) := by decide +kernel
theorem dX2_yieldsTo_16 : decode cX2_yieldsTo 16 = .ok (.getfield 9, 3) := by decide +kernel
theorem dX2_yieldsTo_19 : decode cX2_yieldsTo 19 = .ok (.if_icmp .gt 21, 3) := by decide +kernel
theorem dX2_yieldsTo_22 : decode cX2_yieldsTo 22 = .ok (.aload_n 1, 1) := by decide +kernel
theorem dX2_yieldsTo_23 : decode cX2_yieldsTo 23 = .ok (.getfield 9, 3) := by decide +kernel
theorem dX2_yieldsTo_26 : decode cX2_yieldsTo 26 = .ok (.aload_n 0, 1) := by decide +kernel
theorem dX2_yieldsTo_27 : decode cX2_yieldsTo 27 = .ok (.getfield 9, 3) := by decide +kernel
theorem dX2_yieldsTo_30 : decode cX2_yieldsTo 30 = .ok (.if_icmp .ne 14, 3) := by decide +kernel
theorem dX2_yieldsTo_33 : decode cX2_yieldsTo 33 = .ok (.aload_n 1, 1) := by decide +kernel
theorem dX2_yieldsTo_34 : decode cX2_yieldsTo 34 = .ok (.getfield 15, 3) := by decide +kernel
theorem dX2_yieldsTo_37 : decode cX2_yieldsTo 37 = .ok (.ifCond .ne 7, 3) := by decide +kernel
theorem dX2_yieldsTo_40 : decode cX2_yieldsTo 40 = .ok (.iconst 1, 1) := by decide +kernel
theorem dX2_yieldsTo_41 : decode cX2_yieldsTo 41 = .ok (.goto 4, 3) := by decide +kernel
theorem dX2_yieldsTo_44 : decode cX2_yieldsTo 44 = .ok (.iconst 0, 1) := by decide +kernel
theorem dX2_yieldsTo_45 : decode cX2_yieldsTo 45 = .ok (.ireturn, 1) := by decide +kernel
theorem dX2_stay_0 : decode cX2_stay 0 = .ok (.aload_n 0, 1) := by decide +kernel
theorem dX2_stay_1 : decode cX2_stay 1 = .ok (.iconst 3, 1) := by decide +kernel
theorem dX2_stay_2 : decode cX2_stay 2 = .ok (.putfield 40, 3) := by decide +kernel
theorem dX2_stay_5 : decode cX2_stay 5 = .ok (.aload_n 0, 1) := by decide +kernel
theorem dX2_stay_6 : decode cX2_stay 6 = .ok (.dup, 1) := by decide +kernel
theorem dX2_stay_7 : decode cX2_stay 7 = .ok (.getfield 25, 3) := by decide +kernel
theorem dX2_stay_10 : decode cX2_stay 10 = .ok (.iconst 1, 1) := by decide +kernel
theorem dX2_stay_11 : decode cX2_stay 11 = .ok (.iadd, 1) := by decide +kernel
theorem dX2_stay_12 : decode cX2_stay 12 = .ok (.putfield 25, 3) := by decide +kernel
theorem dX2_stay_15 : decode cX2_stay 15 = .ok (.aload_n 0, 1) := by decide +kernel
theorem dX2_stay_16 : decode cX2_stay 16 = .ok (.dup, 1) := by decide +kernel
theorem dX2_stay_17 : decode cX2_stay 17 = .ok (.getfield 37, 3) := by decide +kernel
theorem dX2_stay_20 : decode cX2_stay 20 = .ok (.iconst 1, 1) := by decide +kernel
theorem dX2_stay_21 : decode cX2_stay 21 = .ok (.iadd, 1) := by decide +kernel
theorem dX2_stay_22 : decode cX2_stay 22 = .ok (.putfield 37, 3) := by decide +kernel
theorem dX2_stay_25 : decode cX2_stay 25 = .ok (.return_, 1) := by decide +kernel
theorem dX2_bow_0 : decode cX2_bow 0 = .ok (.aload_n 0, 1) := by decide +kernel
theorem dX2_bow_1 : decode cX2_bow 1 = .ok (.dup, 1) := by decide +kernel
theorem dX2_bow_2 : decode cX2_bow 2 = .ok (.getfield 28, 3) := by decide +kernel
theorem dX2_bow_5 : decode cX2_bow 5 = .ok (.iconst 1, 1) := by decide +kernel
theorem dX2_bow_6 : decode cX2_bow 6 = .ok (.iadd, 1) := by decide +kernel
theorem dX2_bow_7 : decode cX2_bow 7 = .ok (.putfield 28, 3) := by decide +kernel
theorem dX2_bow_10 : decode cX2_bow 10 = .ok (.aload_n 0, 1) := by decide +kernel
theorem dX2_bow_11 : decode cX2_bow 11 = .ok (.dup, 1) := by decide +kernel
theorem dX2_bow_12 : decode cX2_bow 12 = .ok (.getfield 31, 3) := by decide +kernel
theorem dX2_bow_15 : decode cX2_bow 15 = .ok (.iload_n 1, 1) := by decide +kernel
theorem dX2_bow_16 : decode cX2_bow 16 = .ok (.iadd, 1) := by decide +kernel
theorem dX2_bow_17 : decode cX2_bow 17 = .ok (.putfield 31, 3) := by decide +kernel
theorem dX2_bow_20 : decode cX2_bow 20 = .ok (.return_, 1) := by decide +kernel
theorem dX2_tell_0 : decode cX2_tell 0 = .ok (.iload_n 1, 1) := by decide +kernel
theorem dX2_tell_1 : decode cX2_tell 1 = .ok (.tableswitch 129 0 8 #[51, 56, 69, 74, 92, 97, 102, 107, 124], 51) := by decide +kernel
theorem dX2_tell_52 : decode cX2_tell 52 = .ok (.aload_n 0, 1) := by decide +kernel
theorem dX2_tell_53 : decode cX2_tell 53 = .ok (.getfield 9, 3) := by decide +kernel
theorem dX2_tell_56 : decode cX2_tell 56 = .ok (.ireturn, 1) := by decide +kernel
theorem dX2_tell_57 : decode cX2_tell 57 = .ok (.aload_n 0, 1) := by decide +kernel
theorem dX2_tell_58 : decode cX2_tell 58 = .ok (.getfield 15, 3) := by decide +kernel
theorem dX2_tell_61 : decode cX2_tell 61 = .ok (.ifCond .eq 7, 3) := by decide +kernel
theorem dX2_tell_64 : decode cX2_tell 64 = .ok (.iconst 1, 1) := by decide +kernel
theorem dX2_tell_65 : decode cX2_tell 65 = .ok (.goto 4, 3) := by decide +kernel
theorem dX2_tell_68 : decode cX2_tell 68 = .ok (.iconst 0, 1) := by decide +kernel
theorem dX2_tell_69 : decode cX2_tell 69 = .ok (.ireturn, 1) := by decide +kernel
theorem dX2_tell_70 : decode cX2_tell 70 = .ok (.aload_n 0, 1) := by decide +kernel
theorem dX2_tell_71 : decode cX2_tell 71 = .ok (.getfield 19, 3) := by decide +kernel
theorem dX2_tell_74 : decode cX2_tell 74 = .ok (.ireturn, 1) := by decide +kernel
theorem dX2_tell_75 : decode cX2_tell 75 = .ok (.aload_n 0, 1) := by decide +kernel
theorem dX2_tell_76 : decode cX2_tell 76 = .ok (.getfield 19, 3) := by decide +kernel
theorem dX2_tell_79 : decode cX2_tell 79 = .ok (.iconst 1, 1) := by decide +kernel
theorem dX2_tell_80 : decode cX2_tell 80 = .ok (.if_icmp .ne 10, 3) := by decide +kernel
theorem dX2_tell_83 : decode cX2_tell 83 = .ok (.aload_n 0, 1) := by decide +kernel
theorem dX2_tell_84 : decode cX2_tell 84 = .ok (.getfield 22, 3) := by decide +kernel
theorem dX2_tell_87 : decode cX2_tell 87 = .ok (.goto 5, 3) := by decide +kernel
theorem dX2_tell_90 : decode cX2_tell 90 = .ok (.bipush (-6), 2) := by decide +kernel
theorem dX2_tell_92 : decode cX2_tell 92 = .ok (.ireturn, 1) := by decide +kernel
theorem dX2_tell_93 : decode cX2_tell 93 = .ok (.aload_n 0, 1) := by decide +kernel
theorem dX2_tell_94 : decode cX2_tell 94 = .ok (.getfield 25, 3) := by decide +kernel
theorem dX2_tell_97 : decode cX2_tell 97 = .ok (.ireturn, 1) := by decide +kernel
theorem dX2_tell_98 : decode cX2_tell 98 = .ok (.aload_n 0, 1) := by decide +kernel
theorem dX2_tell_99 : decode cX2_tell 99 = .ok (.getfield 28, 3) := by decide +kernel
theorem dX2_tell_102 : decode cX2_tell 102 = .ok (.ireturn, 1) := by decide +kernel
theorem dX2_tell_103 : decode cX2_tell 103 = .ok (.aload_n 0, 1) := by decide +kernel
theorem dX2_tell_104 : decode cX2_tell 104 = .ok (.getfield 31, 3) := by decide +kernel
theorem dX2_tell_107 : decode cX2_tell 107 = .ok (.ireturn, 1) := by decide +kernel
theorem dX2_tell_108 : decode cX2_tell 108 = .ok (.aload_n 0, 1) := by decide +kernel
theorem dX2_tell_109 : decode cX2_tell 109 = .ok (.invokevirtual 43, 3) := by decide +kernel
theorem dX2_tell_112 : decode cX2_tell 112 = .ok (.ifCond .eq 8, 3) := by decide +kernel
theorem dX2_tell_115 : decode cX2_tell 115 = .ok (.bipush (-6), 2) := by decide +kernel
theorem dX2_tell_117 : decode cX2_tell 117 = .ok (.goto 7, 3) := by decide +kernel
theorem dX2_tell_120 : decode cX2_tell 120 = .ok (.aload_n 0, 1) := by decide +kernel
theorem dX2_tell_121 : decode cX2_tell 121 = .ok (.getfield 34, 3) := by decide +kernel
theorem dX2_tell_124 : decode cX2_tell 124 = .ok (.ireturn, 1) := by decide +kernel
theorem dX2_tell_125 : decode cX2_tell 125 = .ok (.aload_n 0, 1) := by decide +kernel
theorem dX2_tell_126 : decode cX2_tell 126 = .ok (.getfield 37, 3) := by decide +kernel
theorem dX2_tell_129 : decode cX2_tell 129 = .ok (.ireturn, 1) := by decide +kernel
theorem dX2_tell_130 : decode cX2_tell 130 = .ok (.bipush (-2), 2) := by decide +kernel
theorem dX2_tell_132 : decode cX2_tell 132 = .ok (.ireturn, 1) := by decide +kernel
theorem dX3_admit_0 : decode cX3_admit 0 = .ok (.aload_n 0, 1) := by decide +kernel
theorem dX3_admit_1 : decode cX3_admit 1 = .ok (.getfield 38, 3) := by decide +kernel
theorem dX3_admit_4 : decode cX3_admit 4 = .ok (.bipush 24, 2) := by decide +kernel
theorem dX3_admit_6 : decode cX3_admit 6 = .ok (.if_icmp .ge 27, 3) := by decide +kernel
theorem dX3_admit_9 : decode cX3_admit 9 = .ok (.aload_n 0, 1) := by decide +kernel
theorem dX3_admit_10 : decode cX3_admit 10 = .ok (.getfield 20, 3) := by decide +kernel
theorem dX3_admit_13 : decode cX3_admit 13 = .ok (.aload_n 0, 1) := by decide +kernel
theorem dX3_admit_14 : decode cX3_admit 14 = .ok (.getfield 38, 3) := by decide +kernel
theorem dX3_admit_17 : decode cX3_admit 17 = .ok (.aaload, 1) := by decide +kernel
theorem dX3_admit_18 : decode cX3_admit 18 = .ok (.iload_n 1, 1) := by decide +kernel
theorem dX3_admit_19 : decode cX3_admit 19 = .ok (.iload_n 2, 1) := by decide +kernel
theorem dX3_admit_20 : decode cX3_admit 20 = .ok (.invokevirtual 48, 3) := by decide +kernel
theorem dX3_admit_23 : decode cX3_admit 23 = .ok (.aload_n 0, 1) := by decide +kernel
theorem dX3_admit_24 : decode cX3_admit 24 = .ok (.dup, 1) := by decide +kernel
theorem dX3_admit_25 : decode cX3_admit 25 = .ok (.getfield 38, 3) := by decide +kernel
theorem dX3_admit_28 : decode cX3_admit 28 = .ok (.iconst 1, 1) := by decide +kernel
theorem dX3_admit_29 : decode cX3_admit 29 = .ok (.iadd, 1) := by decide +kernel
theorem dX3_admit_30 : decode cX3_admit 30 = .ok (.putfield 38, 3) := by decide +kernel
theorem dX3_admit_33 : decode cX3_admit 33 = .ok (.return_, 1) := by decide +kernel
theorem dX3_isLanding_0 : decode cX3_isLanding 0 = .ok (.aload_n 0, 1) := by decide +kernel
theorem dX3_isLanding_1 : decode cX3_isLanding 1 = .ok (.getfield 27, 3) := by decide +kernel
theorem dX3_isLanding_4 : decode cX3_isLanding 4 = .ok (.iload_n 1, 1) := by decide +kernel
theorem dX3_isLanding_5 : decode cX3_isLanding 5 = .ok (.ishr, 1) := by decide +kernel
theorem dX3_isLanding_6 : decode cX3_isLanding 6 = .ok (.iconst 1, 1) := by decide +kernel
theorem dX3_isLanding_7 : decode cX3_isLanding 7 = .ok (.iand, 1) := by decide +kernel
theorem dX3_isLanding_8 : decode cX3_isLanding 8 = .ok (.iconst 1, 1) := by decide +kernel
theorem dX3_isLanding_9 : decode cX3_isLanding 9 = .ok (.if_icmp .ne 7, 3) := by decide +kernel
theorem dX3_isLanding_12 : decode cX3_isLanding 12 = .ok (.iconst 1, 1) := by decide +kernel
theorem dX3_isLanding_13 : decode cX3_isLanding 13 = .ok (.goto 4, 3) := by decide +kernel
theorem dX3_isLanding_16 : decode cX3_isLanding 16 = .ok (.iconst 0, 1) := by decide +kernel
theorem dX3_isLanding_17 : decode cX3_isLanding 17 = .ok (.ireturn, 1) := by decide +kernel
theorem dX4_isStep_0 : decode cX4_isStep 0 = .ok (.iload_n 0, 1) := by decide +kernel
theorem dX4_isStep_1 : decode cX4_isStep 1 = .ok (.ifCond .lt 13, 3) := by decide +kernel
theorem dX4_isStep_4 : decode cX4_isStep 4 = .ok (.iload_n 0, 1) := by decide +kernel
theorem dX4_isStep_5 : decode cX4_isStep 5 = .ok (.bipush 12, 2) := by decide +kernel
theorem dX4_isStep_7 : decode cX4_isStep 7 = .ok (.if_icmp .ge 7, 3) := by decide +kernel
theorem dX4_isStep_10 : decode cX4_isStep 10 = .ok (.iconst 1, 1) := by decide +kernel
theorem dX4_isStep_11 : decode cX4_isStep 11 = .ok (.goto 4, 3) := by decide +kernel
theorem dX4_isStep_14 : decode cX4_isStep 14 = .ok (.iconst 0, 1) := by decide +kernel
theorem dX4_isStep_15 : decode cX4_isStep 15 = .ok (.ireturn, 1) := by decide +kernel
theorem dX3_crowdOn_0 : decode cX3_crowdOn 0 = .ok (.iload_n 1, 1) := by decide +kernel
theorem dX3_crowdOn_1 : decode cX3_crowdOn 1 = .ok (.invokestatic 52, 3) := by decide +kernel
theorem dX3_crowdOn_4 : decode cX3_crowdOn 4 = .ok (.ifCond .eq 12, 3) := by decide +kernel
theorem dX3_crowdOn_7 : decode cX3_crowdOn 7 = .ok (.aload_n 0, 1) := by decide +kernel
theorem dX3_crowdOn_8 : decode cX3_crowdOn 8 = .ok (.getfield 24, 3) := by decide +kernel
theorem dX3_crowdOn_11 : decode cX3_crowdOn 11 = .ok (.iload_n 1, 1) := by decide +kernel
theorem dX3_crowdOn_12 : decode cX3_crowdOn 12 = .ok (.iaload, 1) := by decide +kernel
theorem dX3_crowdOn_13 : decode cX3_crowdOn 13 = .ok (.goto 4, 3) := by decide +kernel
theorem dX3_crowdOn_16 : decode cX3_crowdOn 16 = .ok (.iconst 0, 1) := by decide +kernel
theorem dX3_crowdOn_17 : decode cX3_crowdOn 17 = .ok (.ireturn, 1) := by decide +kernel
theorem dX3_roomOn_0 : decode cX3_roomOn 0 = .ok (.aload_n 0, 1) := by decide +kernel
theorem dX3_roomOn_1 : decode cX3_roomOn 1 = .ok (.iload_n 1, 1) := by decide +kernel
theorem dX3_roomOn_2 : decode cX3_roomOn 2 = .ok (.invokevirtual 56, 3) := by decide +kernel
theorem dX3_roomOn_5 : decode cX3_roomOn 5 = .ok (.ifCond .eq 12, 3) := by decide +kernel
theorem dX3_roomOn_8 : decode cX3_roomOn 8 = .ok (.aload_n 0, 1) := by decide +kernel
theorem dX3_roomOn_9 : decode cX3_roomOn 9 = .ok (.getfield 13, 3) := by decide +kernel
theorem dX3_roomOn_12 : decode cX3_roomOn 12 = .ok (.iconst 0, 1) := by decide +kernel
theorem dX3_roomOn_13 : decode cX3_roomOn 13 = .ok (.iaload, 1) := by decide +kernel
theorem dX3_roomOn_14 : decode cX3_roomOn 14 = .ok (.goto 4, 3) := by decide +kernel
theorem dX3_roomOn_17 : decode cX3_roomOn 17 = .ok (.iconst 1, 1) := by decide +kernel
theorem dX3_roomOn_18 : decode cX3_roomOn 18 = .ok (.aload_n 0, 1) := by decide +kernel
theorem dX3_roomOn_19 : decode cX3_roomOn 19 = .ok (.iload_n 1, 1) := by decide +kernel
theorem dX3_roomOn_20 : decode cX3_roomOn 20 = .ok (.invokevirtual 59, 3) := by decide +kernel
theorem dX3_roomOn_23 : decode cX3_roomOn 23 = .ok (.isub, 1) := by decide +kernel
theorem dX3_roomOn_24 : decode cX3_roomOn 24 = .ok (.ireturn, 1) := by decide +kernel
theorem dX3_greatestCrowd_0 : decode cX3_greatestCrowd 0 = .ok (.iconst 0, 1) := by decide +kernel
theorem dX3_greatestCrowd_1 : decode cX3_greatestCrowd 1 = .ok (.istore_n 1, 1) := by decide +kernel
theorem dX3_greatestCrowd_2 : decode cX3_greatestCrowd 2 = .ok (.iconst 0, 1) := by decide +kernel
theorem dX3_greatestCrowd_3 : decode cX3_greatestCrowd 3 = .ok (.istore_n 2, 1) := by decide +kernel
theorem dX3_greatestCrowd_4 : decode cX3_greatestCrowd 4 = .ok (.iload_n 2, 1) := by decide +kernel
theorem dX3_greatestCrowd_5 : decode cX3_greatestCrowd 5 = .ok (.bipush 12, 2) := by decide +kernel
theorem dX3_greatestCrowd_7 : decode cX3_greatestCrowd 7 = .ok (.if_icmp .ge 20, 3) := by decide +kernel
theorem dX3_greatestCrowd_10 : decode cX3_greatestCrowd 10 = .ok (.iload_n 1, 1) := by decide +kernel
theorem dX3_greatestCrowd_11 : decode cX3_greatestCrowd 11 = .ok (.aload_n 0, 1) := by decide +kernel
theorem dX3_greatestCrowd_12 : decode cX3_greatestCrowd 12 = .ok (.getfield 24, 3) := by decide +kernel
theorem dX3_greatestCrowd_15 : decode cX3_greatestCrowd 15 = .ok (.iload_n 2, 1) := by decide +kernel
theorem dX3_greatestCrowd_16 : decode cX3_greatestCrowd 16 = .ok (.iaload, 1) := by decide +kernel
theorem dX3_greatestCrowd_17 : decode cX3_greatestCrowd 17 = .ok (.invokestatic 63, 3) := by decide +kernel
theorem dX3_greatestCrowd_20 : decode cX3_greatestCrowd 20 = .ok (.istore_n 1, 1) := by decide +kernel
theorem dX3_greatestCrowd_21 : decode cX3_greatestCrowd 21 = .ok (.iinc 2 1, 3) := by decide +kernel
theorem dX3_greatestCrowd_24 : decode cX3_greatestCrowd 24 = .ok (.goto (-20), 3) := by decide +kernel
theorem dX3_greatestCrowd_27 : decode cX3_greatestCrowd 27 = .ok (.iload_n 1, 1) := by decide +kernel
theorem dX3_greatestCrowd_28 : decode cX3_greatestCrowd 28 = .ok (.ireturn, 1) := by decide +kernel
theorem dX3_highestOn_0 : decode cX3_highestOn 0 = .ok (.bipush (-6), 2) := by decide +kernel
theorem dX3_highestOn_2 : decode cX3_highestOn 2 = .ok (.istore_n 2, 1) := by decide +kernel
theorem dX3_highestOn_3 : decode cX3_highestOn 3 = .ok (.iconst 0, 1) := by decide +kernel
theorem dX3_highestOn_4 : decode cX3_highestOn 4 = .ok (.istore_n 3, 1) := by decide +kernel
theorem dX3_highestOn_5 : decode cX3_highestOn 5 = .ok (.iconst 0, 1) := by decide +kernel
theorem dX3_highestOn_6 : decode cX3_highestOn 6 = .ok (.istore 4, 2) := by decide +kernel
theorem dX3_highestOn_8 : decode cX3_highestOn 8 = .ok (.iload 4, 2) := by decide +kernel
theorem dX3_highestOn_10 : decode cX3_highestOn 10 = .ok (.aload_n 0, 1) := by decide +kernel
theorem dX3_highestOn_11 : decode cX3_highestOn 11 = .ok (.getfield 38, 3) := by decide +kernel
theorem dX3_highestOn_14 : decode cX3_highestOn 14 = .ok (.if_icmp .ge 51, 3) := by decide +kernel
theorem dX3_highestOn_17 : decode cX3_highestOn 17 = .ok (.aload_n 0, 1) := by decide +kernel
theorem dX3_highestOn_18 : decode cX3_highestOn 18 = .ok (.getfield 20, 3) := by decide +kernel
theorem dX3_highestOn_21 : decode cX3_highestOn 21 = .ok (.iload 4, 2) := by decide +kernel
theorem dX3_highestOn_23 : decode cX3_highestOn 23 = .ok (.aaload, 1) := by decide +kernel
theorem dX3_highestOn_24 : decode cX3_highestOn 24 = .ok (.iload_n 1, 1) := by decide +kernel
theorem dX3_highestOn_25 : decode cX3_highestOn 25 = .ok (.invokevirtual 69, 3) := by decide +kernel
theorem dX3_highestOn_28 : decode cX3_highestOn 28 = .ok (.ifCond .eq 31, 3) := by decide +kernel
theorem dX3_highestOn_31 : decode cX3_highestOn 31 = .ok (.aload_n 0, 1) := by decide +kernel
theorem dX3_highestOn_32 : decode cX3_highestOn 32 = .ok (.getfield 20, 3) := by decide +kernel
theorem dX3_highestOn_35 : decode cX3_highestOn 35 = .ok (.iload 4, 2) := by decide +kernel
theorem dX3_highestOn_37 : decode cX3_highestOn 37 = .ok (.aaload, 1) := by decide +kernel
theorem dX3_highestOn_38 : decode cX3_highestOn 38 = .ok (.getfield 72, 3) := by decide +kernel
theorem dX3_highestOn_41 : decode cX3_highestOn 41 = .ok (.iload_n 3, 1) := by decide +kernel
theorem dX3_highestOn_42 : decode cX3_highestOn 42 = .ok (.if_icmp .le 17, 3) := by decide +kernel
theorem dX3_highestOn_45 : decode cX3_highestOn 45 = .ok (.iload 4, 2) := by decide +kernel
theorem dX3_highestOn_47 : decode cX3_highestOn 47 = .ok (.istore_n 2, 1) := by decide +kernel
theorem dX3_highestOn_48 : decode cX3_highestOn 48 = .ok (.aload_n 0, 1) := by decide +kernel
theorem dX3_highestOn_49 : decode cX3_highestOn 49 = .ok (.getfield 20, 3) := by decide +kernel
theorem dX3_highestOn_52 : decode cX3_highestOn 52 = .ok (.iload 4, 2) := by decide +kernel
theorem dX3_highestOn_54 : decode cX3_highestOn 54 = .ok (.aaload, 1) := by decide +kernel
theorem dX3_highestOn_55 : decode cX3_highestOn 55 = .ok (.getfield 72, 3) := by decide +kernel
theorem dX3_highestOn_58 : decode cX3_highestOn 58 = .ok (.istore_n 3, 1) := by decide +kernel
theorem dX3_highestOn_59 : decode cX3_highestOn 59 = .ok (.iinc 4 1, 3) := by decide +kernel
theorem dX3_highestOn_62 : decode cX3_highestOn 62 = .ok (.goto (-54), 3) := by decide +kernel
theorem dX3_highestOn_65 : decode cX3_highestOn 65 = .ok (.iload_n 2, 1) := by decide +kernel
theorem dX3_highestOn_66 : decode cX3_highestOn 66 = .ok (.ireturn, 1) := by decide +kernel
theorem dX3_peopleWho_0 : decode cX3_peopleWho 0 = .ok (.iconst 0, 1) := by decide +kernel
theorem dX3_peopleWho_1 : decode cX3_peopleWho 1 = .ok (.istore_n 2, 1) := by decide +kernel
theorem dX3_peopleWho_2 : decode cX3_peopleWho 2 = .ok (.iconst 0, 1) := by decide +kernel
theorem dX3_peopleWho_3 : decode cX3_peopleWho 3 = .ok (.istore_n 3, 1) := by decide +kernel
theorem dX3_peopleWho_4 : decode cX3_peopleWho 4 = .ok (.iload_n 3, 1) := by decide +kernel
theorem dX3_peopleWho_5 : decode cX3_peopleWho 5 = .ok (.aload_n 0, 1) := by decide +kernel
theorem dX3_peopleWho_6 : decode cX3_peopleWho 6 = .ok (.getfield 38, 3) := by decide +kernel
theorem dX3_peopleWho_9 : decode cX3_peopleWho 9 = .ok (.if_icmp .ge 25, 3) := by decide +kernel
theorem dX3_peopleWho_12 : decode cX3_peopleWho 12 = .ok (.aload_n 0, 1) := by decide +kernel
theorem dX3_peopleWho_13 : decode cX3_peopleWho 13 = .ok (.getfield 20, 3) := by decide +kernel
theorem dX3_peopleWho_16 : decode cX3_peopleWho 16 = .ok (.iload_n 3, 1) := by decide +kernel
theorem dX3_peopleWho_17 : decode cX3_peopleWho 17 = .ok (.aaload, 1) := by decide +kernel
theorem dX3_peopleWho_18 : decode cX3_peopleWho 18 = .ok (.getfield 75, 3) := by decide +kernel
theorem dX3_peopleWho_21 : decode cX3_peopleWho 21 = .ok (.iload_n 1, 1) := by decide +kernel
theorem dX3_peopleWho_22 : decode cX3_peopleWho 22 = .ok (.if_icmp .ne 6, 3) := by decide +kernel
theorem dX3_peopleWho_25 : decode cX3_peopleWho 25 = .ok (.iinc 2 1, 3) := by decide +kernel
theorem dX3_peopleWho_28 : decode cX3_peopleWho 28 = .ok (.iinc 3 1, 3) := by decide +kernel
theorem dX3_peopleWho_31 : decode cX3_peopleWho 31 = .ok (.goto (-27), 3) := by decide +kernel
theorem dX3_peopleWho_34 : decode cX3_peopleWho 34 = .ok (.iload_n 2, 1) := by decide +kernel
theorem dX3_peopleWho_35 : decode cX3_peopleWho 35 = .ok (.ireturn, 1) := by decide +kernel
theorem dX3_sumOf_0 : decode cX3_sumOf 0 = .ok (.iconst 0, 1) := by decide +kernel
theorem dX3_sumOf_1 : decode cX3_sumOf 1 = .ok (.istore_n 2, 1) := by decide +kernel
theorem dX3_sumOf_2 : decode cX3_sumOf 2 = .ok (.iconst 0, 1) := by decide +kernel
theorem dX3_sumOf_3 : decode cX3_sumOf 3 = .ok (.istore_n 3, 1) := by decide +kernel
theorem dX3_sumOf_4 : decode cX3_sumOf 4 = .ok (.iload_n 3, 1) := by decide +kernel
theorem dX3_sumOf_5 : decode cX3_sumOf 5 = .ok (.aload_n 0, 1) := by decide +kernel
theorem dX3_sumOf_6 : decode cX3_sumOf 6 = .ok (.getfield 38, 3) := by decide +kernel
theorem dX3_sumOf_9 : decode cX3_sumOf 9 = .ok (.if_icmp .ge 22, 3) := by decide +kernel
theorem dX3_sumOf_12 : decode cX3_sumOf 12 = .ok (.iload_n 2, 1) := by decide +kernel
theorem dX3_sumOf_13 : decode cX3_sumOf 13 = .ok (.aload_n 0, 1) := by decide +kernel
theorem dX3_sumOf_14 : decode cX3_sumOf 14 = .ok (.getfield 20, 3) := by decide +kernel
theorem dX3_sumOf_17 : decode cX3_sumOf 17 = .ok (.iload_n 3, 1) := by decide +kernel
theorem dX3_sumOf_18 : decode cX3_sumOf 18 = .ok (.aaload, 1) := by decide +kernel
theorem dX3_sumOf_19 : decode cX3_sumOf 19 = .ok (.iload_n 1, 1) := by decide +kernel
theorem dX3_sumOf_20 : decode cX3_sumOf 20 = .ok (.invokevirtual 78, 3) := by decide +kernel
theorem dX3_sumOf_23 : decode cX3_sumOf 23 = .ok (.iadd, 1) := by decide +kernel
theorem dX3_sumOf_24 : decode cX3_sumOf 24 = .ok (.istore_n 2, 1) := by decide +kernel
theorem dX3_sumOf_25 : decode cX3_sumOf 25 = .ok (.iinc 3 1, 3) := by decide +kernel
theorem dX3_sumOf_28 : decode cX3_sumOf 28 = .ok (.goto (-24), 3) := by decide +kernel
theorem dX3_sumOf_31 : decode cX3_sumOf 31 = .ok (.iload_n 2, 1) := by decide +kernel
theorem dX3_sumOf_32 : decode cX3_sumOf 32 = .ok (.ireturn, 1) := by decide +kernel
theorem dX3_isAnybodyOnWay_0 : decode cX3_isAnybodyOnWay 0 = .ok (.iconst 0, 1) := by decide +kernel
theorem dX3_isAnybodyOnWay_1 : decode cX3_isAnybodyOnWay 1 = .ok (.istore_n 1, 1) := by decide +kernel
theorem dX3_isAnybodyOnWay_2 : decode cX3_isAnybodyOnWay 2 = .ok (.iload_n 1, 1) := by decide +kernel
theorem dX3_isAnybodyOnWay_3 : decode cX3_isAnybodyOnWay 3 = .ok (.aload_n 0, 1) := by decide +kernel
theorem dX3_isAnybodyOnWay_4 : decode cX3_isAnybodyOnWay 4 = .ok (.getfield 38, 3) := by decide +kernel
theorem dX3_isAnybodyOnWay_7 : decode cX3_isAnybodyOnWay 7 = .ok (.if_icmp .ge 23, 3) := by decide +kernel
theorem dX3_isAnybodyOnWay_10 : decode cX3_isAnybodyOnWay 10 = .ok (.aload_n 0, 1) := by decide +kernel
theorem dX3_isAnybodyOnWay_11 : decode cX3_isAnybodyOnWay 11 = .ok (.getfield 20, 3) := by decide +kernel
theorem dX3_isAnybodyOnWay_14 : decode cX3_isAnybodyOnWay 14 = .ok (.iload_n 1, 1) := by decide +kernel
theorem dX3_isAnybodyOnWay_15 : decode cX3_isAnybodyOnWay 15 = .ok (.aaload, 1) := by decide +kernel
theorem dX3_isAnybodyOnWay_16 : decode cX3_isAnybodyOnWay 16 = .ok (.invokevirtual 81, 3) := by decide +kernel
theorem dX3_isAnybodyOnWay_19 : decode cX3_isAnybodyOnWay 19 = .ok (.ifCond .eq 5, 3) := by decide +kernel
theorem dX3_isAnybodyOnWay_22 : decode cX3_isAnybodyOnWay 22 = .ok (.iconst 1, 1) := by decide +kernel
theorem dX3_isAnybodyOnWay_23 : decode cX3_isAnybodyOnWay 23 = .ok (.ireturn, 1) := by decide +kernel
theorem dX3_isAnybodyOnWay_24 : decode cX3_isAnybodyOnWay 24 = .ok (.iinc 1 1, 3) := by decide +kernel
theorem dX3_isAnybodyOnWay_27 : decode cX3_isAnybodyOnWay 27 = .ok (.goto (-25), 3) := by decide +kernel
theorem dX3_isAnybodyOnWay_30 : decode cX3_isAnybodyOnWay 30 = .ok (.iconst 0, 1) := by decide +kernel
theorem dX3_isAnybodyOnWay_31 : decode cX3_isAnybodyOnWay 31 = .ok (.ireturn, 1) := by decide +kernel
theorem dX3_bring_0 : decode cX3_bring 0 = .ok (.aload_n 1, 1) := by decide +kernel
theorem dX3_bring_1 : decode cX3_bring 1 = .ok (.getfield 127, 3) := by decide +kernel
theorem dX3_bring_4 : decode cX3_bring 4 = .ok (.invokestatic 52, 3) := by decide +kernel
theorem dX3_bring_7 : decode cX3_bring 7 = .ok (.ifCond .eq 16, 3) := by decide +kernel
theorem dX3_bring_10 : decode cX3_bring 10 = .ok (.aload_n 0, 1) := by decide +kernel
theorem dX3_bring_11 : decode cX3_bring 11 = .ok (.getfield 24, 3) := by decide +kernel
theorem dX3_bring_14 : decode cX3_bring 14 = .ok (.aload_n 1, 1) := by decide +kernel
theorem dX3_bring_15 : decode cX3_bring 15 = .ok (.getfield 127, 3) := by decide +kernel
theorem dX3_bring_18 : decode cX3_bring 18 = .ok (.dup2, 1) := by decide +kernel
theorem dX3_bring_19 : decode cX3_bring 19 = .ok (.iaload, 1) := by decide +kernel
theorem dX3_bring_20 : decode cX3_bring 20 = .ok (.iconst 1, 1) := by decide +kernel
theorem dX3_bring_21 : decode cX3_bring 21 = .ok (.isub, 1) := by decide +kernel
theorem dX3_bring_22 : decode cX3_bring 22 = .ok (.iastore, 1) := by decide +kernel
theorem dX3_bring_23 : decode cX3_bring 23 = .ok (.iload_n 2, 1) := by decide +kernel
theorem dX3_bring_24 : decode cX3_bring 24 = .ok (.invokestatic 52, 3) := by decide +kernel
theorem dX3_bring_27 : decode cX3_bring 27 = .ok (.ifCond .eq 16, 3) := by decide +kernel
theorem dX3_bring_30 : decode cX3_bring 30 = .ok (.aload_n 0, 1) := by decide +kernel
theorem dX3_bring_31 : decode cX3_bring 31 = .ok (.getfield 24, 3) := by decide +kernel
theorem dX3_bring_34 : decode cX3_bring 34 = .ok (.iload_n 2, 1) := by decide +kernel
theorem dX3_bring_35 : decode cX3_bring 35 = .ok (.dup2, 1) := by decide +kernel
theorem dX3_bring_36 : decode cX3_bring 36 = .ok (.iaload, 1) := by decide +kernel
theorem dX3_bring_37 : decode cX3_bring 37 = .ok (.iconst 1, 1) := by decide +kernel
theorem dX3_bring_38 : decode cX3_bring 38 = .ok (.iadd, 1) := by decide +kernel
theorem dX3_bring_39 : decode cX3_bring 39 = .ok (.iastore, 1) := by decide +kernel
theorem dX3_bring_40 : decode cX3_bring 40 = .ok (.goto 13, 3) := by decide +kernel
theorem dX3_bring_43 : decode cX3_bring 43 = .ok (.aload_n 1, 1) := by decide +kernel
theorem dX3_bring_44 : decode cX3_bring 44 = .ok (.aload_n 0, 1) := by decide +kernel
theorem dX3_bring_45 : decode cX3_bring 45 = .ok (.getfield 41, 3) := by decide +kernel
theorem dX3_bring_48 : decode cX3_bring 48 = .ok (.iconst 1, 1) := by decide +kernel
theorem dX3_bring_49 : decode cX3_bring 49 = .ok (.iadd, 1) := by decide +kernel
theorem dX3_bring_50 : decode cX3_bring 50 = .ok (.putfield 130, 3) := by decide +kernel
theorem dX3_bring_53 : decode cX3_bring 53 = .ok (.aload_n 1, 1) := by decide +kernel
theorem dX3_bring_54 : decode cX3_bring 54 = .ok (.iload_n 2, 1) := by decide +kernel
theorem dX3_bring_55 : decode cX3_bring 55 = .ok (.putfield 127, 3) := by decide +kernel
theorem dX3_bring_58 : decode cX3_bring 58 = .ok (.aload_n 1, 1) := by decide +kernel
theorem dX3_bring_59 : decode cX3_bring 59 = .ok (.iload_n 3, 1) := by decide +kernel
theorem dX3_bring_60 : decode cX3_bring 60 = .ok (.putfield 75, 3) := by decide +kernel
theorem dX3_bring_63 : decode cX3_bring 63 = .ok (.aload_n 1, 1) := by decide +kernel
theorem dX3_bring_64 : decode cX3_bring 64 = .ok (.iload 4, 2) := by decide +kernel
theorem dX3_bring_66 : decode cX3_bring 66 = .ok (.putfield 85, 3) := by decide +kernel
theorem dX3_bring_69 : decode cX3_bring 69 = .ok (.aload_n 1, 1) := by decide +kernel
theorem dX3_bring_70 : decode cX3_bring 70 = .ok (.iconst 0, 1) := by decide +kernel
theorem dX3_bring_71 : decode cX3_bring 71 = .ok (.putfield 109, 3) := by decide +kernel
theorem dX3_bring_74 : decode cX3_bring 74 = .ok (.return_, 1) := by decide +kernel
theorem dX3_yielderOn_0 : decode cX3_yielderOn 0 = .ok (.aconst_null, 1) := by decide +kernel
theorem dX3_yielderOn_1 : decode cX3_yielderOn 1 = .ok (.astore_n 3, 1) := by decide +kernel
theorem dX3_yielderOn_2 : decode cX3_yielderOn 2 = .ok (.iconst 0, 1) := by decide +kernel
theorem dX3_yielderOn_3 : decode cX3_yielderOn 3 = .ok (.istore 4, 2) := by decide +kernel
theorem dX3_yielderOn_5 : decode cX3_yielderOn 5 = .ok (.iload 4, 2) := by decide +kernel
theorem dX3_yielderOn_7 : decode cX3_yielderOn 7 = .ok (.aload_n 0, 1) := by decide +kernel
theorem dX3_yielderOn_8 : decode cX3_yielderOn 8 = .ok (.getfield 38, 3) := by decide +kernel
theorem dX3_yielderOn_11 : decode cX3_yielderOn 11 = .ok (.if_icmp .ge 55, 3) := by decide +kernel
theorem dX3_yielderOn_14 : decode cX3_yielderOn 14 = .ok (.aload_n 0, 1) := by decide +kernel
theorem dX3_yielderOn_15 : decode cX3_yielderOn 15 = .ok (.getfield 20, 3) := by decide +kernel
theorem dX3_yielderOn_18 : decode cX3_yielderOn 18 = .ok (.iload 4, 2) := by decide +kernel
theorem dX3_yielderOn_20 : decode cX3_yielderOn 20 = .ok (.aaload, 1) := by decide +kernel
theorem dX3_yielderOn_21 : decode cX3_yielderOn 21 = .ok (.astore 5, 2) := by decide +kernel
theorem dX3_yielderOn_23 : decode cX3_yielderOn 23 = .ok (.aload 5, 2) := by decide +kernel
theorem dX3_yielderOn_25 : decode cX3_yielderOn 25 = .ok (.iload_n 1, 1) := by decide +kernel
theorem dX3_yielderOn_26 : decode cX3_yielderOn 26 = .ok (.invokevirtual 69, 3) := by decide +kernel
theorem dX3_yielderOn_29 : decode cX3_yielderOn 29 = .ok (.ifCond .eq 31, 3) := by decide +kernel
theorem dX3_yielderOn_32 : decode cX3_yielderOn 32 = .ok (.aload 5, 2) := by decide +kernel
theorem dX3_yielderOn_34 : decode cX3_yielderOn 34 = .ok (.aload_n 2, 1) := by decide +kernel
theorem dX3_yielderOn_35 : decode cX3_yielderOn 35 = .ok (.invokevirtual 123, 3) := by decide +kernel
theorem dX3_yielderOn_38 : decode cX3_yielderOn 38 = .ok (.ifCond .eq 22, 3) := by decide +kernel
theorem dX3_yielderOn_41 : decode cX3_yielderOn 41 = .ok (.aload_n 3, 1) := by decide +kernel
theorem dX3_yielderOn_42 : decode cX3_yielderOn 42 = .ok (.ifnull 15, 3) := by decide +kernel
theorem dX3_yielderOn_45 : decode cX3_yielderOn 45 = .ok (.aload 5, 2) := by decide +kernel
theorem dX3_yielderOn_47 : decode cX3_yielderOn 47 = .ok (.getfield 72, 3) := by decide +kernel
theorem dX3_yielderOn_50 : decode cX3_yielderOn 50 = .ok (.aload_n 3, 1) := by decide +kernel
theorem dX3_yielderOn_51 : decode cX3_yielderOn 51 = .ok (.getfield 72, 3) := by decide +kernel
theorem dX3_yielderOn_54 : decode cX3_yielderOn 54 = .ok (.if_icmp .ge 6, 3) := by decide +kernel
theorem dX3_yielderOn_57 : decode cX3_yielderOn 57 = .ok (.aload 5, 2) := by decide +kernel
theorem dX3_yielderOn_59 : decode cX3_yielderOn 59 = .ok (.astore_n 3, 1) := by decide +kernel
theorem dX3_yielderOn_60 : decode cX3_yielderOn 60 = .ok (.iinc 4 1, 3) := by decide +kernel
theorem dX3_yielderOn_63 : decode cX3_yielderOn 63 = .ok (.goto (-58), 3) := by decide +kernel
theorem dX3_yielderOn_66 : decode cX3_yielderOn 66 = .ok (.aload_n 3, 1) := by decide +kernel
theorem dX3_yielderOn_67 : decode cX3_yielderOn 67 = .ok (.areturn, 1) := by decide +kernel
theorem dX3_isCleared_0 : decode cX3_isCleared 0 = .ok (.aload_n 2, 1) := by decide +kernel
theorem dX3_isCleared_1 : decode cX3_isCleared 1 = .ok (.getfield 109, 3) := by decide +kernel
theorem dX3_isCleared_4 : decode cX3_isCleared 4 = .ok (.aload_n 0, 1) := by decide +kernel
theorem dX3_isCleared_5 : decode cX3_isCleared 5 = .ok (.getfield 13, 3) := by decide +kernel
theorem dX3_isCleared_8 : decode cX3_isCleared 8 = .ok (.iconst 2, 1) := by decide +kernel
theorem dX3_isCleared_9 : decode cX3_isCleared 9 = .ok (.iaload, 1) := by decide +kernel
theorem dX3_isCleared_10 : decode cX3_isCleared 10 = .ok (.if_icmp .ge 5, 3) := by decide +kernel
theorem dX3_isCleared_13 : decode cX3_isCleared 13 = .ok (.iconst 0, 1) := by decide +kernel
theorem dX3_isCleared_14 : decode cX3_isCleared 14 = .ok (.ireturn, 1) := by decide +kernel
theorem dX3_isCleared_15 : decode cX3_isCleared 15 = .ok (.aload_n 0, 1) := by decide +kernel
theorem dX3_isCleared_16 : decode cX3_isCleared 16 = .ok (.iload_n 1, 1) := by decide +kernel
theorem dX3_isCleared_17 : decode cX3_isCleared 17 = .ok (.aload_n 2, 1) := by decide +kernel
theorem dX3_isCleared_18 : decode cX3_isCleared 18 = .ok (.invokevirtual 112, 3) := by decide +kernel
theorem dX3_isCleared_21 : decode cX3_isCleared 21 = .ok (.astore_n 3, 1) := by decide +kernel
theorem dX3_isCleared_22 : decode cX3_isCleared 22 = .ok (.aload_n 3, 1) := by decide +kernel
theorem dX3_isCleared_23 : decode cX3_isCleared 23 = .ok (.ifnonnull 5, 3) := by decide +kernel
theorem dX3_isCleared_26 : decode cX3_isCleared 26 = .ok (.iconst 0, 1) := by decide +kernel
theorem dX3_isCleared_27 : decode cX3_isCleared 27 = .ok (.ireturn, 1) := by decide +kernel
theorem dX3_isCleared_28 : decode cX3_isCleared 28 = .ok (.aload_n 3, 1) := by decide +kernel
theorem dX3_isCleared_29 : decode cX3_isCleared 29 = .ok (.invokevirtual 116, 3) := by decide +kernel
theorem dX3_isCleared_32 : decode cX3_isCleared 32 = .ok (.istore 4, 2) := by decide +kernel
theorem dX3_isCleared_34 : decode cX3_isCleared 34 = .ok (.iload 4, 2) := by decide +kernel
theorem dX3_isCleared_36 : decode cX3_isCleared 36 = .ok (.invokestatic 52, 3) := by decide +kernel
theorem dX3_isCleared_39 : decode cX3_isCleared 39 = .ok (.ifCond .eq 14, 3) := by decide +kernel
theorem dX3_isCleared_42 : decode cX3_isCleared 42 = .ok (.aload_n 0, 1) := by decide +kernel
theorem dX3_isCleared_43 : decode cX3_isCleared 43 = .ok (.iload 4, 2) := by decide +kernel
theorem dX3_isCleared_45 : decode cX3_isCleared 45 = .ok (.invokevirtual 99, 3) := by decide +kernel
theorem dX3_isCleared_48 : decode cX3_isCleared 48 = .ok (.ifCond .gt 5, 3) := by decide +kernel
theorem dX3_isCleared_51 : decode cX3_isCleared 51 = .ok (.iconst 0, 1) := by decide +kernel
theorem dX3_isCleared_52 : decode cX3_isCleared 52 = .ok (.ireturn, 1) := by decide +kernel
theorem dX3_isCleared_53 : decode cX3_isCleared 53 = .ok (.iload 4, 2) := by decide +kernel
theorem dX3_isCleared_55 : decode cX3_isCleared 55 = .ok (.invokestatic 52, 3) := by decide +kernel
theorem dX3_isCleared_58 : decode cX3_isCleared 58 = .ok (.ifCond .eq 15, 3) := by decide +kernel
theorem dX3_isCleared_61 : decode cX3_isCleared 61 = .ok (.aload_n 0, 1) := by decide +kernel
theorem dX3_isCleared_62 : decode cX3_isCleared 62 = .ok (.aload_n 3, 1) := by decide +kernel
theorem dX3_isCleared_63 : decode cX3_isCleared 63 = .ok (.iload 4, 2) := by decide +kernel
theorem dX3_isCleared_65 : decode cX3_isCleared 65 = .ok (.iconst 1, 1) := by decide +kernel
theorem dX3_isCleared_66 : decode cX3_isCleared 66 = .ok (.iconst 4, 1) := by decide +kernel
theorem dX3_isCleared_67 : decode cX3_isCleared 67 = .ok (.invokevirtual 95, 3) := by decide +kernel
theorem dX3_isCleared_70 : decode cX3_isCleared 70 = .ok (.goto 12, 3) := by decide +kernel
theorem dX3_isCleared_73 : decode cX3_isCleared 73 = .ok (.aload_n 0, 1) := by decide +kernel
theorem dX3_isCleared_74 : decode cX3_isCleared 74 = .ok (.aload_n 3, 1) := by decide +kernel
theorem dX3_isCleared_75 : decode cX3_isCleared 75 = .ok (.iload 4, 2) := by decide +kernel
theorem dX3_isCleared_77 : decode cX3_isCleared 77 = .ok (.iconst 3, 1) := by decide +kernel
theorem dX3_isCleared_78 : decode cX3_isCleared 78 = .ok (.iconst 5, 1) := by decide +kernel
theorem dX3_isCleared_79 : decode cX3_isCleared 79 = .ok (.invokevirtual 95, 3) := by decide +kernel
theorem dX3_isCleared_82 : decode cX3_isCleared 82 = .ok (.aload_n 3, 1) := by decide +kernel
theorem dX3_isCleared_83 : decode cX3_isCleared 83 = .ok (.aload_n 0, 1) := by decide +kernel
theorem dX3_isCleared_84 : decode cX3_isCleared 84 = .ok (.getfield 13, 3) := by decide +kernel
theorem dX3_isCleared_87 : decode cX3_isCleared 87 = .ok (.iconst 1, 1) := by decide +kernel
theorem dX3_isCleared_88 : decode cX3_isCleared 88 = .ok (.iaload, 1) := by decide +kernel
theorem dX3_isCleared_89 : decode cX3_isCleared 89 = .ok (.aload_n 2, 1) := by decide +kernel
theorem dX3_isCleared_90 : decode cX3_isCleared 90 = .ok (.getfield 72, 3) := by decide +kernel
theorem dX3_isCleared_93 : decode cX3_isCleared 93 = .ok (.aload_n 3, 1) := by decide +kernel
theorem dX3_isCleared_94 : decode cX3_isCleared 94 = .ok (.getfield 72, 3) := by decide +kernel
theorem dX3_isCleared_97 : decode cX3_isCleared 97 = .ok (.isub, 1) := by decide +kernel
theorem dX3_isCleared_98 : decode cX3_isCleared 98 = .ok (.iconst 1, 1) := by decide +kernel
theorem dX3_isCleared_99 : decode cX3_isCleared 99 = .ok (.iadd, 1) := by decide +kernel
theorem dX3_isCleared_100 : decode cX3_isCleared 100 = .ok (.imul, 1) := by decide +kernel
theorem dX3_isCleared_101 : decode cX3_isCleared 101 = .ok (.invokevirtual 119, 3) := by decide +kernel
theorem dX3_isCleared_104 : decode cX3_isCleared 104 = .ok (.iconst 1, 1) := by decide +kernel
theorem dX3_isCleared_105 : decode cX3_isCleared 105 = .ok (.ireturn, 1) := by decide +kernel
theorem dX3_move_0 : decode cX3_move 0 = .ok (.aload_n 1, 1) := by decide +kernel
theorem dX3_move_1 : decode cX3_move 1 = .ok (.invokevirtual 91, 3) := by decide +kernel
theorem dX3_move_4 : decode cX3_move 4 = .ok (.istore_n 2, 1) := by decide +kernel
theorem dX3_move_5 : decode cX3_move 5 = .ok (.iload_n 2, 1) := by decide +kernel
theorem dX3_move_6 : decode cX3_move 6 = .ok (.invokestatic 52, 3) := by decide +kernel
theorem dX3_move_9 : decode cX3_move 9 = .ok (.ifCond .ne 14, 3) := by decide +kernel
theorem dX3_move_12 : decode cX3_move 12 = .ok (.aload_n 0, 1) := by decide +kernel
theorem dX3_move_13 : decode cX3_move 13 = .ok (.aload_n 1, 1) := by decide +kernel
theorem dX3_move_14 : decode cX3_move 14 = .ok (.iload_n 2, 1) := by decide +kernel
theorem dX3_move_15 : decode cX3_move 15 = .ok (.iconst 2, 1) := by decide +kernel
theorem dX3_move_16 : decode cX3_move 16 = .ok (.iconst 2, 1) := by decide +kernel
theorem dX3_move_17 : decode cX3_move 17 = .ok (.invokevirtual 95, 3) := by decide +kernel
theorem dX3_move_20 : decode cX3_move 20 = .ok (.goto 35, 3) := by decide +kernel
theorem dX3_move_23 : decode cX3_move 23 = .ok (.aload_n 0, 1) := by decide +kernel
theorem dX3_move_24 : decode cX3_move 24 = .ok (.iload_n 2, 1) := by decide +kernel
theorem dX3_move_25 : decode cX3_move 25 = .ok (.invokevirtual 99, 3) := by decide +kernel
theorem dX3_move_28 : decode cX3_move 28 = .ok (.ifCond .gt 12, 3) := by decide +kernel
theorem dX3_move_31 : decode cX3_move 31 = .ok (.aload_n 0, 1) := by decide +kernel
theorem dX3_move_32 : decode cX3_move 32 = .ok (.iload_n 2, 1) := by decide +kernel
theorem dX3_move_33 : decode cX3_move 33 = .ok (.aload_n 1, 1) := by decide +kernel
theorem dX3_move_34 : decode cX3_move 34 = .ok (.invokevirtual 102, 3) := by decide +kernel
theorem dX3_move_37 : decode cX3_move 37 = .ok (.ifCond .eq 14, 3) := by decide +kernel
theorem dX3_move_40 : decode cX3_move 40 = .ok (.aload_n 0, 1) := by decide +kernel
theorem dX3_move_41 : decode cX3_move 41 = .ok (.aload_n 1, 1) := by decide +kernel
theorem dX3_move_42 : decode cX3_move 42 = .ok (.iload_n 2, 1) := by decide +kernel
theorem dX3_move_43 : decode cX3_move 43 = .ok (.iconst 1, 1) := by decide +kernel
theorem dX3_move_44 : decode cX3_move 44 = .ok (.iconst 1, 1) := by decide +kernel
theorem dX3_move_45 : decode cX3_move 45 = .ok (.invokevirtual 95, 3) := by decide +kernel
theorem dX3_move_48 : decode cX3_move 48 = .ok (.goto 7, 3) := by decide +kernel
theorem dX3_move_51 : decode cX3_move 51 = .ok (.aload_n 1, 1) := by decide +kernel
theorem dX3_move_52 : decode cX3_move 52 = .ok (.invokevirtual 106, 3) := by decide +kernel
theorem dX3_move_55 : decode cX3_move 55 = .ok (.return_, 1) := by decide +kernel
theorem dX3_tick_0 : decode cX3_tick 0 = .ok (.iconst 0, 1) := by decide +kernel
theorem dX3_tick_1 : decode cX3_tick 1 = .ok (.istore_n 1, 1) := by decide +kernel
theorem dX3_tick_2 : decode cX3_tick 2 = .ok (.iload_n 1, 1) := by decide +kernel
theorem dX3_tick_3 : decode cX3_tick 3 = .ok (.aload_n 0, 1) := by decide +kernel
theorem dX3_tick_4 : decode cX3_tick 4 = .ok (.getfield 38, 3) := by decide +kernel
theorem dX3_tick_7 : decode cX3_tick 7 = .ok (.if_icmp .ge 19, 3) := by decide +kernel
theorem dX3_tick_10 : decode cX3_tick 10 = .ok (.aload_n 0, 1) := by decide +kernel
theorem dX3_tick_11 : decode cX3_tick 11 = .ok (.getfield 20, 3) := by decide +kernel
theorem dX3_tick_14 : decode cX3_tick 14 = .ok (.iload_n 1, 1) := by decide +kernel
theorem dX3_tick_15 : decode cX3_tick 15 = .ok (.aaload, 1) := by decide +kernel
theorem dX3_tick_16 : decode cX3_tick 16 = .ok (.iconst 0, 1) := by decide +kernel
theorem dX3_tick_17 : decode cX3_tick 17 = .ok (.putfield 85, 3) := by decide +kernel
theorem dX3_tick_20 : decode cX3_tick 20 = .ok (.iinc 1 1, 3) := by decide +kernel
theorem dX3_tick_23 : decode cX3_tick 23 = .ok (.goto (-21), 3) := by decide +kernel
theorem dX3_tick_26 : decode cX3_tick 26 = .ok (.bipush 9, 2) := by decide +kernel
theorem dX3_tick_28 : decode cX3_tick 28 = .ok (.istore_n 1, 1) := by decide +kernel
theorem dX3_tick_29 : decode cX3_tick 29 = .ok (.iload_n 1, 1) := by decide +kernel
theorem dX3_tick_30 : decode cX3_tick 30 = .ok (.iconst 1, 1) := by decide +kernel
theorem dX3_tick_31 : decode cX3_tick 31 = .ok (.if_icmp .lt 60, 3) := by decide +kernel
theorem dX3_tick_34 : decode cX3_tick 34 = .ok (.iconst 0, 1) := by decide +kernel
theorem dX3_tick_35 : decode cX3_tick 35 = .ok (.istore_n 2, 1) := by decide +kernel
theorem dX3_tick_36 : decode cX3_tick 36 = .ok (.iload_n 2, 1) := by decide +kernel
theorem dX3_tick_37 : decode cX3_tick 37 = .ok (.aload_n 0, 1) := by decide +kernel
theorem dX3_tick_38 : decode cX3_tick 38 = .ok (.getfield 38, 3) := by decide +kernel
theorem dX3_tick_41 : decode cX3_tick 41 = .ok (.if_icmp .ge 44, 3) := by decide +kernel
theorem dX3_tick_44 : decode cX3_tick 44 = .ok (.aload_n 0, 1) := by decide +kernel
theorem dX3_tick_45 : decode cX3_tick 45 = .ok (.getfield 20, 3) := by decide +kernel
theorem dX3_tick_48 : decode cX3_tick 48 = .ok (.iload_n 2, 1) := by decide +kernel
theorem dX3_tick_49 : decode cX3_tick 49 = .ok (.aaload, 1) := by decide +kernel
theorem dX3_tick_50 : decode cX3_tick 50 = .ok (.astore_n 3, 1) := by decide +kernel
theorem dX3_tick_51 : decode cX3_tick 51 = .ok (.aload_n 3, 1) := by decide +kernel
theorem dX3_tick_52 : decode cX3_tick 52 = .ok (.getfield 72, 3) := by decide +kernel
theorem dX3_tick_55 : decode cX3_tick 55 = .ok (.iload_n 1, 1) := by decide +kernel
theorem dX3_tick_56 : decode cX3_tick 56 = .ok (.if_icmp .ne 23, 3) := by decide +kernel
theorem dX3_tick_59 : decode cX3_tick 59 = .ok (.aload_n 3, 1) := by decide +kernel
theorem dX3_tick_60 : decode cX3_tick 60 = .ok (.invokevirtual 81, 3) := by decide +kernel
theorem dX3_tick_63 : decode cX3_tick 63 = .ok (.ifCond .eq 16, 3) := by decide +kernel
theorem dX3_tick_66 : decode cX3_tick 66 = .ok (.aload_n 3, 1) := by decide +kernel
theorem dX3_tick_67 : decode cX3_tick 67 = .ok (.getfield 85, 3) := by decide +kernel
theorem dX3_tick_70 : decode cX3_tick 70 = .ok (.iconst 4, 1) := by decide +kernel
theorem dX3_tick_71 : decode cX3_tick 71 = .ok (.if_icmp .eq 8, 3) := by decide +kernel
theorem dX3_tick_74 : decode cX3_tick 74 = .ok (.aload_n 0, 1) := by decide +kernel
theorem dX3_tick_75 : decode cX3_tick 75 = .ok (.aload_n 3, 1) := by decide +kernel
theorem dX3_tick_76 : decode cX3_tick 76 = .ok (.invokevirtual 88, 3) := by decide +kernel
theorem dX3_tick_79 : decode cX3_tick 79 = .ok (.iinc 2 1, 3) := by decide +kernel
theorem dX3_tick_82 : decode cX3_tick 82 = .ok (.goto (-46), 3) := by decide +kernel
theorem dX3_tick_85 : decode cX3_tick 85 = .ok (.iinc 1 (-1), 3) := by decide +kernel
theorem dX3_tick_88 : decode cX3_tick 88 = .ok (.goto (-59), 3) := by decide +kernel
theorem dX3_tick_91 : decode cX3_tick 91 = .ok (.aload_n 0, 1) := by decide +kernel
theorem dX3_tick_92 : decode cX3_tick 92 = .ok (.dup, 1) := by decide +kernel
theorem dX3_tick_93 : decode cX3_tick 93 = .ok (.getfield 41, 3) := by decide +kernel
theorem dX3_tick_96 : decode cX3_tick 96 = .ok (.iconst 1, 1) := by decide +kernel
theorem dX3_tick_97 : decode cX3_tick 97 = .ok (.iadd, 1) := by decide +kernel
theorem dX3_tick_98 : decode cX3_tick 98 = .ok (.putfield 41, 3) := by decide +kernel
theorem dX3_tick_101 : decode cX3_tick 101 = .ok (.return_, 1) := by decide +kernel
theorem dX4_isSetting_0 : decode cX4_isSetting 0 = .ok (.iload_n 0, 1) := by decide +kernel
theorem dX4_isSetting_1 : decode cX4_isSetting 1 = .ok (.ifCond .lt 12, 3) := by decide +kernel
theorem dX4_isSetting_4 : decode cX4_isSetting 4 = .ok (.iload_n 0, 1) := by decide +kernel
theorem dX4_isSetting_5 : decode cX4_isSetting 5 = .ok (.iconst 2, 1) := by decide +kernel
theorem dX4_isSetting_6 : decode cX4_isSetting 6 = .ok (.if_icmp .gt 7, 3) := by decide +kernel
theorem dX4_isSetting_9 : decode cX4_isSetting 9 = .ok (.iconst 1, 1) := by decide +kernel
theorem dX4_isSetting_10 : decode cX4_isSetting 10 = .ok (.goto 4, 3) := by decide +kernel
theorem dX4_isSetting_13 : decode cX4_isSetting 13 = .ok (.iconst 0, 1) := by decide +kernel
theorem dX4_isSetting_14 : decode cX4_isSetting 14 = .ok (.ireturn, 1) := by decide +kernel
theorem dX4_set_0 : decode cX4_set 0 = .ok (.iload_n 1, 1) := by decide +kernel
theorem dX4_set_1 : decode cX4_set 1 = .ok (.invokestatic 41, 3) := by decide +kernel
theorem dX4_set_4 : decode cX4_set 4 = .ok (.ifCond .eq 21, 3) := by decide +kernel
theorem dX4_set_7 : decode cX4_set 7 = .ok (.iload_n 2, 1) := by decide +kernel
theorem dX4_set_8 : decode cX4_set 8 = .ok (.getstatic 45, 3) := by decide +kernel
theorem dX4_set_11 : decode cX4_set 11 = .ok (.iload_n 1, 1) := by decide +kernel
theorem dX4_set_12 : decode cX4_set 12 = .ok (.iaload, 1) := by decide +kernel
theorem dX4_set_13 : decode cX4_set 13 = .ok (.if_icmp .lt 12, 3) := by decide +kernel
theorem dX4_set_16 : decode cX4_set 16 = .ok (.iload_n 2, 1) := by decide +kernel
theorem dX4_set_17 : decode cX4_set 17 = .ok (.getstatic 49, 3) := by decide +kernel
theorem dX4_set_20 : decode cX4_set 20 = .ok (.iload_n 1, 1) := by decide +kernel
theorem dX4_set_21 : decode cX4_set 21 = .ok (.iaload, 1) := by decide +kernel
theorem dX4_set_22 : decode cX4_set 22 = .ok (.if_icmp .le 6, 3) := by decide +kernel
theorem dX4_set_25 : decode cX4_set 25 = .ok (.bipush (-2), 2) := by decide +kernel
theorem dX4_set_27 : decode cX4_set 27 = .ok (.ireturn, 1) := by decide +kernel
theorem dX4_set_28 : decode cX4_set 28 = .ok (.iload_n 1, 1) := by decide +kernel
theorem dX4_set_29 : decode cX4_set 29 = .ok (.ifCond .ne 17, 3) := by decide +kernel
theorem dX4_set_32 : decode cX4_set 32 = .ok (.aload_n 0, 1) := by decide +kernel
theorem dX4_set_33 : decode cX4_set 33 = .ok (.getfield 10, 3) := by decide +kernel
theorem dX4_set_36 : decode cX4_set 36 = .ok (.invokevirtual 52, 3) := by decide +kernel
theorem dX4_set_39 : decode cX4_set 39 = .ok (.iload_n 2, 1) := by decide +kernel
theorem dX4_set_40 : decode cX4_set 40 = .ok (.if_icmp .le 6, 3) := by decide +kernel
theorem dX4_set_43 : decode cX4_set 43 = .ok (.bipush (-5), 2) := by decide +kernel
theorem dX4_set_45 : decode cX4_set 45 = .ok (.ireturn, 1) := by decide +kernel
theorem dX4_set_46 : decode cX4_set 46 = .ok (.aload_n 0, 1) := by decide +kernel
theorem dX4_set_47 : decode cX4_set 47 = .ok (.getfield 22, 3) := by decide +kernel
theorem dX4_set_50 : decode cX4_set 50 = .ok (.aload_n 0, 1) := by decide +kernel
theorem dX4_set_51 : decode cX4_set 51 = .ok (.getfield 10, 3) := by decide +kernel
theorem dX4_set_54 : decode cX4_set 54 = .ok (.invokevirtual 56, 3) := by decide +kernel
theorem dX4_set_57 : decode cX4_set 57 = .ok (.aload_n 0, 1) := by decide +kernel
theorem dX4_set_58 : decode cX4_set 58 = .ok (.getfield 10, 3) := by decide +kernel
theorem dX4_set_61 : decode cX4_set 61 = .ok (.getfield 60, 3) := by decide +kernel
theorem dX4_set_64 : decode cX4_set 64 = .ok (.iload_n 1, 1) := by decide +kernel
theorem dX4_set_65 : decode cX4_set 65 = .ok (.iaload, 1) := by decide +kernel
theorem dX4_set_66 : decode cX4_set 66 = .ok (.istore_n 3, 1) := by decide +kernel
theorem dX4_set_67 : decode cX4_set 67 = .ok (.aload_n 0, 1) := by decide +kernel
theorem dX4_set_68 : decode cX4_set 68 = .ok (.getfield 10, 3) := by decide +kernel
theorem dX4_set_71 : decode cX4_set 71 = .ok (.getfield 60, 3) := by decide +kernel
theorem dX4_set_74 : decode cX4_set 74 = .ok (.iload_n 1, 1) := by decide +kernel
theorem dX4_set_75 : decode cX4_set 75 = .ok (.iload_n 2, 1) := by decide +kernel
theorem dX4_set_76 : decode cX4_set 76 = .ok (.iastore, 1) := by decide +kernel
theorem dX4_set_77 : decode cX4_set 77 = .ok (.iload_n 3, 1) := by decide +kernel
theorem dX4_set_78 : decode cX4_set 78 = .ok (.ireturn, 1) := by decide +kernel
theorem dJ6_bitCount_0f7a4_0 : decode cJ6_bitCount_0f7a4 0 = .ok (.iload_n 0, 1) := by decide +kernel
theorem dJ6_bitCount_0f7a4_1 : decode cJ6_bitCount_0f7a4 1 = .ok (.iload_n 0, 1) := by decide +kernel
theorem dJ6_bitCount_0f7a4_2 : decode cJ6_bitCount_0f7a4 2 = .ok (.iconst 1, 1) := by decide +kernel
theorem dJ6_bitCount_0f7a4_3 : decode cJ6_bitCount_0f7a4 3 = .ok (.iushr, 1) := by decide +kernel
theorem dJ6_bitCount_0f7a4_4 : decode cJ6_bitCount_0f7a4 4 = .ok (.ldc_w 265, 3) := by decide +kernel
theorem dJ6_bitCount_0f7a4_7 : decode cJ6_bitCount_0f7a4 7 = .ok (.iand, 1) := by decide +kernel
theorem dJ6_bitCount_0f7a4_8 : decode cJ6_bitCount_0f7a4 8 = .ok (.isub, 1) := by decide +kernel
theorem dJ6_bitCount_0f7a4_9 : decode cJ6_bitCount_0f7a4 9 = .ok (.istore_n 0, 1) := by decide +kernel
theorem dJ6_bitCount_0f7a4_10 : decode cJ6_bitCount_0f7a4 10 = .ok (.iload_n 0, 1) := by decide +kernel
theorem dJ6_bitCount_0f7a4_11 : decode cJ6_bitCount_0f7a4 11 = .ok (.ldc_w 266, 3) := by decide +kernel
theorem dJ6_bitCount_0f7a4_14 : decode cJ6_bitCount_0f7a4 14 = .ok (.iand, 1) := by decide +kernel
theorem dJ6_bitCount_0f7a4_15 : decode cJ6_bitCount_0f7a4 15 = .ok (.iload_n 0, 1) := by decide +kernel
theorem dJ6_bitCount_0f7a4_16 : decode cJ6_bitCount_0f7a4 16 = .ok (.iconst 2, 1) := by decide +kernel
theorem dJ6_bitCount_0f7a4_17 : decode cJ6_bitCount_0f7a4 17 = .ok (.iushr, 1) := by decide +kernel
theorem dJ6_bitCount_0f7a4_18 : decode cJ6_bitCount_0f7a4 18 = .ok (.ldc_w 266, 3) := by decide +kernel
theorem dJ6_bitCount_0f7a4_21 : decode cJ6_bitCount_0f7a4 21 = .ok (.iand, 1) := by decide +kernel
theorem dJ6_bitCount_0f7a4_22 : decode cJ6_bitCount_0f7a4 22 = .ok (.iadd, 1) := by decide +kernel
theorem dJ6_bitCount_0f7a4_23 : decode cJ6_bitCount_0f7a4 23 = .ok (.istore_n 0, 1) := by decide +kernel
theorem dJ6_bitCount_0f7a4_24 : decode cJ6_bitCount_0f7a4 24 = .ok (.iload_n 0, 1) := by decide +kernel
theorem dJ6_bitCount_0f7a4_25 : decode cJ6_bitCount_0f7a4 25 = .ok (.iload_n 0, 1) := by decide +kernel
theorem dJ6_bitCount_0f7a4_26 : decode cJ6_bitCount_0f7a4 26 = .ok (.iconst 4, 1) := by decide +kernel
theorem dJ6_bitCount_0f7a4_27 : decode cJ6_bitCount_0f7a4 27 = .ok (.iushr, 1) := by decide +kernel
theorem dJ6_bitCount_0f7a4_28 : decode cJ6_bitCount_0f7a4 28 = .ok (.iadd, 1) := by decide +kernel
theorem dJ6_bitCount_0f7a4_29 : decode cJ6_bitCount_0f7a4 29 = .ok (.ldc_w 267, 3) := by decide +kernel
theorem dJ6_bitCount_0f7a4_32 : decode cJ6_bitCount_0f7a4 32 = .ok (.iand, 1) := by decide +kernel
theorem dJ6_bitCount_0f7a4_33 : decode cJ6_bitCount_0f7a4 33 = .ok (.istore_n 0, 1) := by decide +kernel
theorem dJ6_bitCount_0f7a4_34 : decode cJ6_bitCount_0f7a4 34 = .ok (.iload_n 0, 1) := by decide +kernel
theorem dJ6_bitCount_0f7a4_35 : decode cJ6_bitCount_0f7a4 35 = .ok (.iload_n 0, 1) := by decide +kernel
theorem dJ6_bitCount_0f7a4_36 : decode cJ6_bitCount_0f7a4 36 = .ok (.bipush 8, 2) := by decide +kernel
theorem dJ6_bitCount_0f7a4_38 : decode cJ6_bitCount_0f7a4 38 = .ok (.iushr, 1) := by decide +kernel
theorem dJ6_bitCount_0f7a4_39 : decode cJ6_bitCount_0f7a4 39 = .ok (.iadd, 1) := by decide +kernel
theorem dJ6_bitCount_0f7a4_40 : decode cJ6_bitCount_0f7a4 40 = .ok (.istore_n 0, 1) := by decide +kernel
theorem dJ6_bitCount_0f7a4_41 : decode cJ6_bitCount_0f7a4 41 = .ok (.iload_n 0, 1) := by decide +kernel
theorem dJ6_bitCount_0f7a4_42 : decode cJ6_bitCount_0f7a4 42 = .ok (.iload_n 0, 1) := by decide +kernel
theorem dJ6_bitCount_0f7a4_43 : decode cJ6_bitCount_0f7a4 43 = .ok (.bipush 16, 2) := by decide +kernel
theorem dJ6_bitCount_0f7a4_45 : decode cJ6_bitCount_0f7a4 45 = .ok (.iushr, 1) := by decide +kernel
theorem dJ6_bitCount_0f7a4_46 : decode cJ6_bitCount_0f7a4 46 = .ok (.iadd, 1) := by decide +kernel
theorem dJ6_bitCount_0f7a4_47 : decode cJ6_bitCount_0f7a4 47 = .ok (.istore_n 0, 1) := by decide +kernel
theorem dJ6_bitCount_0f7a4_48 : decode cJ6_bitCount_0f7a4 48 = .ok (.iload_n 0, 1) := by decide +kernel
theorem dJ6_bitCount_0f7a4_49 : decode cJ6_bitCount_0f7a4 49 = .ok (.bipush 63, 2) := by decide +kernel
theorem dJ6_bitCount_0f7a4_51 : decode cJ6_bitCount_0f7a4 51 = .ok (.iand, 1) := by decide +kernel
theorem dJ6_bitCount_0f7a4_52 : decode cJ6_bitCount_0f7a4 52 = .ok (.ireturn, 1) := by decide +kernel
theorem dX4_landing_0 : decode cX4_landing 0 = .ok (.iload_n 1, 1) := by decide +kernel
theorem dX4_landing_1 : decode cX4_landing 1 = .ok (.invokestatic 63, 3) := by decide +kernel
theorem dX4_landing_4 : decode cX4_landing 4 = .ok (.ifCond .ne 5, 3) := by decide +kernel
theorem dX4_landing_7 : decode cX4_landing 7 = .ok (.iconst (-1), 1) := by decide +kernel
theorem dX4_landing_8 : decode cX4_landing 8 = .ok (.ireturn, 1) := by decide +kernel
theorem dX4_landing_9 : decode cX4_landing 9 = .ok (.aload_n 0, 1) := by decide +kernel
theorem dX4_landing_10 : decode cX4_landing 10 = .ok (.getfield 10, 3) := by decide +kernel
theorem dX4_landing_13 : decode cX4_landing 13 = .ok (.iload_n 1, 1) := by decide +kernel
theorem dX4_landing_14 : decode cX4_landing 14 = .ok (.invokevirtual 66, 3) := by decide +kernel
theorem dX4_landing_17 : decode cX4_landing 17 = .ok (.iload_n 2, 1) := by decide +kernel
theorem dX4_landing_18 : decode cX4_landing 18 = .ok (.if_icmp .eq 15, 3) := by decide +kernel
theorem dX4_landing_21 : decode cX4_landing 21 = .ok (.aload_n 0, 1) := by decide +kernel
theorem dX4_landing_22 : decode cX4_landing 22 = .ok (.getfield 10, 3) := by decide +kernel
theorem dX4_landing_25 : decode cX4_landing 25 = .ok (.iload_n 1, 1) := by decide +kernel
theorem dX4_landing_26 : decode cX4_landing 26 = .ok (.invokevirtual 69, 3) := by decide +kernel
theorem dX4_landing_29 : decode cX4_landing 29 = .ok (.iconst 1, 1) := by decide +kernel
theorem dX4_landing_30 : decode cX4_landing 30 = .ok (.if_icmp .le 6, 3) := by decide +kernel
theorem dX4_landing_33 : decode cX4_landing 33 = .ok (.bipush (-5), 2) := by decide +kernel
theorem dX4_landing_35 : decode cX4_landing 35 = .ok (.ireturn, 1) := by decide +kernel
theorem dX4_landing_36 : decode cX4_landing 36 = .ok (.aload_n 0, 1) := by decide +kernel
theorem dX4_landing_37 : decode cX4_landing 37 = .ok (.getfield 22, 3) := by decide +kernel
theorem dX4_landing_40 : decode cX4_landing 40 = .ok (.aload_n 0, 1) := by decide +kernel
theorem dX4_landing_41 : decode cX4_landing 41 = .ok (.getfield 10, 3) := by decide +kernel
theorem dX4_landing_44 : decode cX4_landing 44 = .ok (.invokevirtual 56, 3) := by decide +kernel
theorem dX4_landing_47 : decode cX4_landing 47 = .ok (.aload_n 0, 1) := by decide +kernel
theorem dX4_landing_48 : decode cX4_landing 48 = .ok (.getfield 10, 3) := by decide +kernel
theorem dX4_landing_51 : decode cX4_landing 51 = .ok (.dup, 1) := by decide +kernel
theorem dX4_landing_52 : decode cX4_landing 52 = .ok (.getfield 73, 3) := by decide +kernel
theorem dX4_landing_55 : decode cX4_landing 55 = .ok (.iconst 1, 1) := by decide +kernel
theorem dX4_landing_56 : decode cX4_landing 56 = .ok (.iload_n 1, 1) := by decide +kernel
theorem dX4_landing_57 : decode cX4_landing 57 = .ok (.ishl, 1) := by decide +kernel
theorem dX4_landing_58 : decode cX4_landing 58 = .ok (.ixor, 1) := by decide +kernel
theorem dX4_landing_59 : decode cX4_landing 59 = .ok (.putfield 73, 3) := by decide +kernel
theorem dX4_landing_62 : decode cX4_landing 62 = .ok (.aload_n 0, 1) := by decide +kernel
theorem dX4_landing_63 : decode cX4_landing 63 = .ok (.getfield 10, 3) := by decide +kernel
theorem dX4_landing_66 : decode cX4_landing 66 = .ok (.getfield 73, 3) := by decide +kernel
theorem dX4_landing_69 : decode cX4_landing 69 = .ok (.invokestatic 77, 3) := by decide +kernel
theorem dX4_landing_72 : decode cX4_landing 72 = .ok (.ireturn, 1) := by decide +kernel
theorem dX4_come_0 : decode cX4_come 0 = .ok (.iload_n 1, 1) := by decide +kernel
theorem dX4_come_1 : decode cX4_come 1 = .ok (.iconst 1, 1) := by decide +kernel
theorem dX4_come_2 : decode cX4_come 2 = .ok (.if_icmp .lt 9, 3) := by decide +kernel
theorem dX4_come_5 : decode cX4_come 5 = .ok (.iload_n 1, 1) := by decide +kernel
theorem dX4_come_6 : decode cX4_come 6 = .ok (.bipush 9, 2) := by decide +kernel
theorem dX4_come_8 : decode cX4_come 8 = .ok (.if_icmp .le 6, 3) := by decide +kernel
theorem dX4_come_11 : decode cX4_come 11 = .ok (.bipush (-2), 2) := by decide +kernel
theorem dX4_come_13 : decode cX4_come 13 = .ok (.ireturn, 1) := by decide +kernel
theorem dX4_come_14 : decode cX4_come 14 = .ok (.aload_n 0, 1) := by decide +kernel
theorem dX4_come_15 : decode cX4_come 15 = .ok (.getfield 10, 3) := by decide +kernel
theorem dX4_come_18 : decode cX4_come 18 = .ok (.getfield 82, 3) := by decide +kernel
theorem dX4_come_21 : decode cX4_come 21 = .ok (.bipush 24, 2) := by decide +kernel
theorem dX4_come_23 : decode cX4_come 23 = .ok (.if_icmp .lt 6, 3) := by decide +kernel
theorem dX4_come_26 : decode cX4_come 26 = .ok (.bipush (-4), 2) := by decide +kernel
theorem dX4_come_28 : decode cX4_come 28 = .ok (.ireturn, 1) := by decide +kernel
theorem dX4_come_29 : decode cX4_come 29 = .ok (.aload_n 0, 1) := by decide +kernel
theorem dX4_come_30 : decode cX4_come 30 = .ok (.getfield 22, 3) := by decide +kernel
theorem dX4_come_33 : decode cX4_come 33 = .ok (.aload_n 0, 1) := by decide +kernel
theorem dX4_come_34 : decode cX4_come 34 = .ok (.getfield 10, 3) := by decide +kernel
theorem dX4_come_37 : decode cX4_come 37 = .ok (.invokevirtual 56, 3) := by decide +kernel
theorem dX4_come_40 : decode cX4_come 40 = .ok (.aload_n 0, 1) := by decide +kernel
theorem dX4_come_41 : decode cX4_come 41 = .ok (.getfield 10, 3) := by decide +kernel
theorem dX4_come_44 : decode cX4_come 44 = .ok (.iload_n 1, 1) := by decide +kernel
theorem dX4_come_45 : decode cX4_come 45 = .ok (.iload_n 2, 1) := by decide +kernel
theorem dX4_come_46 : decode cX4_come 46 = .ok (.invokevirtual 85, 3) := by decide +kernel
theorem dX4_come_49 : decode cX4_come 49 = .ok (.aload_n 0, 1) := by decide +kernel
theorem dX4_come_50 : decode cX4_come 50 = .ok (.getfield 10, 3) := by decide +kernel
theorem dX4_come_53 : decode cX4_come 53 = .ok (.getfield 82, 3) := by decide +kernel
theorem dX4_come_56 : decode cX4_come 56 = .ok (.iconst 1, 1) := by decide +kernel
theorem dX4_come_57 : decode cX4_come 57 = .ok (.isub, 1) := by decide +kernel
theorem dX4_come_58 : decode cX4_come 58 = .ok (.ireturn, 1) := by decide +kernel
theorem dX4_read_0 : decode cX4_read 0 = .ok (.aload_n 0, 1) := by decide +kernel
theorem dX4_read_1 : decode cX4_read 1 = .ok (.getfield 37, 3) := by decide +kernel
theorem dX4_read_4 : decode cX4_read 4 = .ok (.invokevirtual 89, 3) := by decide +kernel
theorem dX4_read_7 : decode cX4_read 7 = .ok (.bipush (-6), 2) := by decide +kernel
theorem dX4_read_9 : decode cX4_read 9 = .ok (.if_icmp .eq 6, 3) := by decide +kernel
theorem dX4_read_12 : decode cX4_read 12 = .ok (.bipush (-3), 2) := by decide +kernel
theorem dX4_read_14 : decode cX4_read 14 = .ok (.ireturn, 1) := by decide +kernel
theorem dX4_read_15 : decode cX4_read 15 = .ok (.aload_n 0, 1) := by decide +kernel
theorem dX4_read_16 : decode cX4_read 16 = .ok (.getfield 37, 3) := by decide +kernel
theorem dX4_read_19 : decode cX4_read 19 = .ok (.getfield 92, 3) := by decide +kernel
theorem dX4_read_22 : decode cX4_read 22 = .ok (.iconst 2, 1) := by decide +kernel
theorem dX4_read_23 : decode cX4_read 23 = .ok (.idiv, 1) := by decide +kernel
theorem dX4_read_24 : decode cX4_read 24 = .ok (.istore_n 1, 1) := by decide +kernel
theorem dX4_read_25 : decode cX4_read 25 = .ok (.aload_n 0, 1) := by decide +kernel
theorem dX4_read_26 : decode cX4_read 26 = .ok (.getfield 10, 3) := by decide +kernel
theorem dX4_read_29 : decode cX4_read 29 = .ok (.getfield 82, 3) := by decide +kernel
theorem dX4_read_32 : decode cX4_read 32 = .ok (.iload_n 1, 1) := by decide +kernel
theorem dX4_read_33 : decode cX4_read 33 = .ok (.iadd, 1) := by decide +kernel
theorem dX4_read_34 : decode cX4_read 34 = .ok (.bipush 24, 2) := by decide +kernel
theorem dX4_read_36 : decode cX4_read 36 = .ok (.if_icmp .le 6, 3) := by decide +kernel
theorem dX4_read_39 : decode cX4_read 39 = .ok (.bipush (-4), 2) := by decide +kernel
theorem dX4_read_41 : decode cX4_read 41 = .ok (.ireturn, 1) := by decide +kernel
theorem dX4_read_42 : decode cX4_read 42 = .ok (.aload_n 0, 1) := by decide +kernel
theorem dX4_read_43 : decode cX4_read 43 = .ok (.getfield 22, 3) := by decide +kernel
theorem dX4_read_46 : decode cX4_read 46 = .ok (.aload_n 0, 1) := by decide +kernel
theorem dX4_read_47 : decode cX4_read 47 = .ok (.getfield 10, 3) := by decide +kernel
theorem dX4_read_50 : decode cX4_read 50 = .ok (.invokevirtual 56, 3) := by decide +kernel
theorem dX4_read_53 : decode cX4_read 53 = .ok (.iconst 0, 1) := by decide +kernel
theorem dX4_read_54 : decode cX4_read 54 = .ok (.istore_n 2, 1) := by decide +kernel
theorem dX4_read_55 : decode cX4_read 55 = .ok (.iload_n 2, 1) := by decide +kernel
theorem dX4_read_56 : decode cX4_read 56 = .ok (.iload_n 1, 1) := by decide +kernel
theorem dX4_read_57 : decode cX4_read 57 = .ok (.if_icmp .ge 32, 3) := by decide +kernel
theorem dX4_read_60 : decode cX4_read 60 = .ok (.aload_n 0, 1) := by decide +kernel
theorem dX4_read_61 : decode cX4_read 61 = .ok (.getfield 10, 3) := by decide +kernel
theorem dX4_read_64 : decode cX4_read 64 = .ok (.aload_n 0, 1) := by decide +kernel
theorem dX4_read_65 : decode cX4_read 65 = .ok (.getfield 37, 3) := by decide +kernel
theorem dX4_read_68 : decode cX4_read 68 = .ok (.iload_n 2, 1) := by decide +kernel
theorem dX4_read_69 : decode cX4_read 69 = .ok (.invokevirtual 95, 3) := by decide +kernel
theorem dX4_read_72 : decode cX4_read 72 = .ok (.aload_n 0, 1) := by decide +kernel
theorem dX4_read_73 : decode cX4_read 73 = .ok (.getfield 37, 3) := by decide +kernel
theorem dX4_read_76 : decode cX4_read 76 = .ok (.iload_n 2, 1) := by decide +kernel
theorem dX4_read_77 : decode cX4_read 77 = .ok (.invokevirtual 98, 3) := by decide +kernel
theorem dX4_read_80 : decode cX4_read 80 = .ok (.invokevirtual 85, 3) := by decide +kernel
theorem dX4_read_83 : decode cX4_read 83 = .ok (.iinc 2 1, 3) := by decide +kernel
theorem dX4_read_86 : decode cX4_read 86 = .ok (.goto (-31), 3) := by decide +kernel
theorem dX4_read_89 : decode cX4_read 89 = .ok (.aload_n 0, 1) := by decide +kernel
theorem dX4_read_90 : decode cX4_read 90 = .ok (.getfield 37, 3) := by decide +kernel
theorem dX4_read_93 : decode cX4_read 93 = .ok (.iconst 0, 1) := by decide +kernel
theorem dX4_read_94 : decode cX4_read 94 = .ok (.putfield 92, 3) := by decide +kernel
theorem dX4_read_97 : decode cX4_read 97 = .ok (.aload_n 0, 1) := by decide +kernel
theorem dX4_read_98 : decode cX4_read 98 = .ok (.getfield 10, 3) := by decide +kernel
theorem dX4_read_101 : decode cX4_read 101 = .ok (.getfield 82, 3) := by decide +kernel
theorem dX4_read_104 : decode cX4_read 104 = .ok (.ireturn, 1) := by decide +kernel
theorem dX4_isPerson_0 : decode cX4_isPerson 0 = .ok (.iload_n 1, 1) := by decide +kernel
theorem dX4_isPerson_1 : decode cX4_isPerson 1 = .ok (.ifCond .lt 18, 3) := by decide +kernel
theorem dX4_isPerson_4 : decode cX4_isPerson 4 = .ok (.iload_n 1, 1) := by decide +kernel
theorem dX4_isPerson_5 : decode cX4_isPerson 5 = .ok (.aload_n 0, 1) := by decide +kernel
theorem dX4_isPerson_6 : decode cX4_isPerson 6 = .ok (.getfield 10, 3) := by decide +kernel
theorem dX4_isPerson_9 : decode cX4_isPerson 9 = .ok (.getfield 82, 3) := by decide +kernel
theorem dX4_isPerson_12 : decode cX4_isPerson 12 = .ok (.if_icmp .ge 7, 3) := by decide +kernel
theorem dX4_isPerson_15 : decode cX4_isPerson 15 = .ok (.iconst 1, 1) := by decide +kernel
theorem dX4_isPerson_16 : decode cX4_isPerson 16 = .ok (.goto 4, 3) := by decide +kernel
theorem dX4_isPerson_19 : decode cX4_isPerson 19 = .ok (.iconst 0, 1) := by decide +kernel
theorem dX4_isPerson_20 : decode cX4_isPerson 20 = .ok (.ireturn, 1) := by decide +kernel
theorem dX4_turn_0 : decode cX4_turn 0 = .ok (.aload_n 0, 1) := by decide +kernel
theorem dX4_turn_1 : decode cX4_turn 1 = .ok (.iload_n 1, 1) := by decide +kernel
theorem dX4_turn_2 : decode cX4_turn 2 = .ok (.invokevirtual 101, 3) := by decide +kernel
theorem dX4_turn_5 : decode cX4_turn 5 = .ok (.ifCond .ne 5, 3) := by decide +kernel
theorem dX4_turn_8 : decode cX4_turn 8 = .ok (.iconst (-1), 1) := by decide +kernel
theorem dX4_turn_9 : decode cX4_turn 9 = .ok (.ireturn, 1) := by decide +kernel
theorem dX4_turn_10 : decode cX4_turn 10 = .ok (.aload_n 0, 1) := by decide +kernel
theorem dX4_turn_11 : decode cX4_turn 11 = .ok (.getfield 10, 3) := by decide +kernel
theorem dX4_turn_14 : decode cX4_turn 14 = .ok (.getfield 104, 3) := by decide +kernel
theorem dX4_turn_17 : decode cX4_turn 17 = .ok (.iload_n 1, 1) := by decide +kernel
theorem dX4_turn_18 : decode cX4_turn 18 = .ok (.aaload, 1) := by decide +kernel
theorem dX4_turn_19 : decode cX4_turn 19 = .ok (.astore_n 2, 1) := by decide +kernel
theorem dX4_turn_20 : decode cX4_turn 20 = .ok (.aload_n 2, 1) := by decide +kernel
theorem dX4_turn_21 : decode cX4_turn 21 = .ok (.getfield 108, 3) := by decide +kernel
theorem dX4_turn_24 : decode cX4_turn 24 = .ok (.iconst 1, 1) := by decide +kernel
theorem dX4_turn_25 : decode cX4_turn 25 = .ok (.if_icmp .eq 6, 3) := by decide +kernel
theorem dX4_turn_28 : decode cX4_turn 28 = .ok (.bipush (-5), 2) := by decide +kernel
theorem dX4_turn_30 : decode cX4_turn 30 = .ok (.ireturn, 1) := by decide +kernel
theorem dX4_turn_31 : decode cX4_turn 31 = .ok (.aload_n 0, 1) := by decide +kernel
theorem dX4_turn_32 : decode cX4_turn 32 = .ok (.getfield 22, 3) := by decide +kernel
theorem dX4_turn_35 : decode cX4_turn 35 = .ok (.aload_n 0, 1) := by decide +kernel
theorem dX4_turn_36 : decode cX4_turn 36 = .ok (.getfield 10, 3) := by decide +kernel
theorem dX4_turn_39 : decode cX4_turn 39 = .ok (.invokevirtual 56, 3) := by decide +kernel
theorem dX4_turn_42 : decode cX4_turn 42 = .ok (.aload_n 2, 1) := by decide +kernel
theorem dX4_turn_43 : decode cX4_turn 43 = .ok (.aload_n 2, 1) := by decide +kernel
theorem dX4_turn_44 : decode cX4_turn 44 = .ok (.getfield 113, 3) := by decide +kernel
theorem dX4_turn_47 : decode cX4_turn 47 = .ok (.ifCond .ne 7, 3) := by decide +kernel
theorem dX4_turn_50 : decode cX4_turn 50 = .ok (.iconst 1, 1) := by decide +kernel
theorem dX4_turn_51 : decode cX4_turn 51 = .ok (.goto 4, 3) := by decide +kernel
theorem dX4_turn_54 : decode cX4_turn 54 = .ok (.iconst 0, 1) := by decide +kernel
theorem dX4_turn_55 : decode cX4_turn 55 = .ok (.putfield 113, 3) := by decide +kernel
theorem dX4_turn_58 : decode cX4_turn 58 = .ok (.aload_n 2, 1) := by decide +kernel
theorem dX4_turn_59 : decode cX4_turn 59 = .ok (.getfield 113, 3) := by decide +kernel
theorem dX4_turn_62 : decode cX4_turn 62 = .ok (.ifCond .eq 7, 3) := by decide +kernel
theorem dX4_turn_65 : decode cX4_turn 65 = .ok (.iconst 1, 1) := by decide +kernel
theorem dX4_turn_66 : decode cX4_turn 66 = .ok (.goto 4, 3) := by decide +kernel
theorem dX4_turn_69 : decode cX4_turn 69 = .ok (.iconst 0, 1) := by decide +kernel
theorem dX4_turn_70 : decode cX4_turn 70 = .ok (.ireturn, 1) := by decide +kernel
theorem dX4_pass_0 : decode cX4_pass 0 = .ok (.iload_n 1, 1) := by decide +kernel
theorem dX4_pass_1 : decode cX4_pass 1 = .ok (.iconst 1, 1) := by decide +kernel
theorem dX4_pass_2 : decode cX4_pass 2 = .ok (.if_icmp .lt 9, 3) := by decide +kernel
theorem dX4_pass_5 : decode cX4_pass 5 = .ok (.iload_n 1, 1) := by decide +kernel
theorem dX4_pass_6 : decode cX4_pass 6 = .ok (.bipush 99, 2) := by decide +kernel
theorem dX4_pass_8 : decode cX4_pass 8 = .ok (.if_icmp .le 6, 3) := by decide +kernel
theorem dX4_pass_11 : decode cX4_pass 11 = .ok (.bipush (-2), 2) := by decide +kernel
theorem dX4_pass_13 : decode cX4_pass 13 = .ok (.ireturn, 1) := by decide +kernel
theorem dX4_pass_14 : decode cX4_pass 14 = .ok (.aload_n 0, 1) := by decide +kernel
theorem dX4_pass_15 : decode cX4_pass 15 = .ok (.getfield 10, 3) := by decide +kernel
theorem dX4_pass_18 : decode cX4_pass 18 = .ok (.getfield 117, 3) := by decide +kernel
theorem dX4_pass_21 : decode cX4_pass 21 = .ok (.iload_n 1, 1) := by decide +kernel
theorem dX4_pass_22 : decode cX4_pass 22 = .ok (.iadd, 1) := by decide +kernel
theorem dX4_pass_23 : decode cX4_pass 23 = .ok (.sipush 9999, 3) := by decide +kernel
theorem dX4_pass_26 : decode cX4_pass 26 = .ok (.if_icmp .le 6, 3) := by decide +kernel
theorem dX4_pass_29 : decode cX4_pass 29 = .ok (.bipush (-4), 2) := by decide +kernel
theorem dX4_pass_31 : decode cX4_pass 31 = .ok (.ireturn, 1) := by decide +kernel
theorem dX4_pass_32 : decode cX4_pass 32 = .ok (.aload_n 0, 1) := by decide +kernel
theorem dX4_pass_33 : decode cX4_pass 33 = .ok (.getfield 22, 3) := by decide +kernel
theorem dX4_pass_36 : decode cX4_pass 36 = .ok (.aload_n 0, 1) := by decide +kernel
theorem dX4_pass_37 : decode cX4_pass 37 = .ok (.getfield 10, 3) := by decide +kernel
theorem dX4_pass_40 : decode cX4_pass 40 = .ok (.invokevirtual 56, 3) := by decide +kernel
theorem dX4_pass_43 : decode cX4_pass 43 = .ok (.aload_n 0, 1) := by decide +kernel
theorem dX4_pass_44 : decode cX4_pass 44 = .ok (.getfield 10, 3) := by decide +kernel
theorem dX4_pass_47 : decode cX4_pass 47 = .ok (.iconst 2, 1) := by decide +kernel
theorem dX4_pass_48 : decode cX4_pass 48 = .ok (.invokevirtual 120, 3) := by decide +kernel
theorem dX4_pass_51 : decode cX4_pass 51 = .ok (.istore_n 2, 1) := by decide +kernel
theorem dX4_pass_52 : decode cX4_pass 52 = .ok (.iconst 0, 1) := by decide +kernel
theorem dX4_pass_53 : decode cX4_pass 53 = .ok (.istore_n 3, 1) := by decide +kernel
theorem dX4_pass_54 : decode cX4_pass 54 = .ok (.iload_n 3, 1) := by decide +kernel
theorem dX4_pass_55 : decode cX4_pass 55 = .ok (.iload_n 1, 1) := by decide +kernel
theorem dX4_pass_56 : decode cX4_pass 56 = .ok (.if_icmp .ge 16, 3) := by decide +kernel
theorem dX4_pass_59 : decode cX4_pass 59 = .ok (.aload_n 0, 1) := by decide +kernel
theorem dX4_pass_60 : decode cX4_pass 60 = .ok (.getfield 10, 3) := by decide +kernel
theorem dX4_pass_63 : decode cX4_pass 63 = .ok (.invokevirtual 123, 3) := by decide +kernel
theorem dX4_pass_66 : decode cX4_pass 66 = .ok (.iinc 3 1, 3) := by decide +kernel
theorem dX4_pass_69 : decode cX4_pass 69 = .ok (.goto (-15), 3) := by decide +kernel
theorem dX4_pass_72 : decode cX4_pass 72 = .ok (.aload_n 0, 1) := by decide +kernel
theorem dX4_pass_73 : decode cX4_pass 73 = .ok (.getfield 10, 3) := by decide +kernel
theorem dX4_pass_76 : decode cX4_pass 76 = .ok (.iconst 2, 1) := by decide +kernel
theorem dX4_pass_77 : decode cX4_pass 77 = .ok (.invokevirtual 120, 3) := by decide +kernel
theorem dX4_pass_80 : decode cX4_pass 80 = .ok (.iload_n 2, 1) := by decide +kernel
theorem dX4_pass_81 : decode cX4_pass 81 = .ok (.isub, 1) := by decide +kernel
theorem dX4_pass_82 : decode cX4_pass 82 = .ok (.ireturn, 1) := by decide +kernel
theorem dX4_person_0 : decode cX4_person 0 = .ok (.aload_n 0, 1) := by decide +kernel
theorem dX4_person_1 : decode cX4_person 1 = .ok (.iload_n 1, 1) := by decide +kernel
theorem dX4_person_2 : decode cX4_person 2 = .ok (.invokevirtual 101, 3) := by decide +kernel
theorem dX4_person_5 : decode cX4_person 5 = .ok (.ifCond .ne 5, 3) := by decide +kernel
theorem dX4_person_8 : decode cX4_person 8 = .ok (.iconst (-1), 1) := by decide +kernel
theorem dX4_person_9 : decode cX4_person 9 = .ok (.ireturn, 1) := by decide +kernel
theorem dX4_person_10 : decode cX4_person 10 = .ok (.aload_n 0, 1) := by decide +kernel
theorem dX4_person_11 : decode cX4_person 11 = .ok (.getfield 10, 3) := by decide +kernel
theorem dX4_person_14 : decode cX4_person 14 = .ok (.getfield 104, 3) := by decide +kernel
theorem dX4_person_17 : decode cX4_person 17 = .ok (.iload_n 1, 1) := by decide +kernel
theorem dX4_person_18 : decode cX4_person 18 = .ok (.aaload, 1) := by decide +kernel
theorem dX4_person_19 : decode cX4_person 19 = .ok (.iload_n 2, 1) := by decide +kernel
theorem dX4_person_20 : decode cX4_person 20 = .ok (.invokevirtual 126, 3) := by decide +kernel
theorem dX4_person_23 : decode cX4_person 23 = .ok (.ireturn, 1) := by decide +kernel
theorem dX4_step_0 : decode cX4_step 0 = .ok (.iload_n 1, 1) := by decide +kernel
theorem dX4_step_1 : decode cX4_step 1 = .ok (.invokestatic 63, 3) := by decide +kernel
theorem dX4_step_4 : decode cX4_step 4 = .ok (.ifCond .ne 5, 3) := by decide +kernel
theorem dX4_step_7 : decode cX4_step 7 = .ok (.iconst (-1), 1) := by decide +kernel
theorem dX4_step_8 : decode cX4_step 8 = .ok (.ireturn, 1) := by decide +kernel
theorem dX4_step_9 : decode cX4_step 9 = .ok (.iload_n 2, 1) := by decide +kernel
theorem dX4_step_10 : decode cX4_step 10 = .ok (.tableswitch 74 0 3 #[30, 47, 56, 65], 30) := by decide +kernel
theorem dX4_step_40 : decode cX4_step 40 = .ok (.aload_n 0, 1) := by decide +kernel
theorem dX4_step_41 : decode cX4_step 41 = .ok (.getfield 10, 3) := by decide +kernel
theorem dX4_step_44 : decode cX4_step 44 = .ok (.iload_n 1, 1) := by decide +kernel
theorem dX4_step_45 : decode cX4_step 45 = .ok (.invokevirtual 66, 3) := by decide +kernel
theorem dX4_step_48 : decode cX4_step 48 = .ok (.ifCond .eq 7, 3) := by decide +kernel
theorem dX4_step_51 : decode cX4_step 51 = .ok (.iconst 1, 1) := by decide +kernel
theorem dX4_step_52 : decode cX4_step 52 = .ok (.goto 4, 3) := by decide +kernel
theorem dX4_step_55 : decode cX4_step 55 = .ok (.iconst 0, 1) := by decide +kernel
theorem dX4_step_56 : decode cX4_step 56 = .ok (.ireturn, 1) := by decide +kernel
theorem dX4_step_57 : decode cX4_step 57 = .ok (.aload_n 0, 1) := by decide +kernel
theorem dX4_step_58 : decode cX4_step 58 = .ok (.getfield 10, 3) := by decide +kernel
theorem dX4_step_61 : decode cX4_step 61 = .ok (.iload_n 1, 1) := by decide +kernel
theorem dX4_step_62 : decode cX4_step 62 = .ok (.invokevirtual 69, 3) := by decide +kernel
theorem dX4_step_65 : decode cX4_step 65 = .ok (.ireturn, 1) := by decide +kernel
theorem dX4_step_66 : decode cX4_step 66 = .ok (.aload_n 0, 1) := by decide +kernel
theorem dX4_step_67 : decode cX4_step 67 = .ok (.getfield 10, 3) := by decide +kernel
theorem dX4_step_70 : decode cX4_step 70 = .ok (.iload_n 1, 1) := by decide +kernel
theorem dX4_step_71 : decode cX4_step 71 = .ok (.invokevirtual 129, 3) := by decide +kernel
theorem dX4_step_74 : decode cX4_step 74 = .ok (.ireturn, 1) := by decide +kernel
theorem dX4_step_75 : decode cX4_step 75 = .ok (.aload_n 0, 1) := by decide +kernel
theorem dX4_step_76 : decode cX4_step 76 = .ok (.getfield 10, 3) := by decide +kernel
theorem dX4_step_79 : decode cX4_step 79 = .ok (.iload_n 1, 1) := by decide +kernel
theorem dX4_step_80 : decode cX4_step 80 = .ok (.invokevirtual 132, 3) := by decide +kernel
theorem dX4_step_83 : decode cX4_step 83 = .ok (.ireturn, 1) := by decide +kernel
theorem dX4_step_84 : decode cX4_step 84 = .ok (.bipush (-2), 2) := by decide +kernel
theorem dX4_step_86 : decode cX4_step 86 = .ok (.ireturn, 1) := by decide +kernel
theorem dX4_does_0 : decode cX4_does 0 = .ok (.aload_n 0, 1) := by decide +kernel
theorem dX4_does_1 : decode cX4_does 1 = .ok (.iload_n 1, 1) := by decide +kernel
theorem dX4_does_2 : decode cX4_does 2 = .ok (.invokevirtual 101, 3) := by decide +kernel
theorem dX4_does_5 : decode cX4_does 5 = .ok (.ifCond .ne 5, 3) := by decide +kernel
theorem dX4_does_8 : decode cX4_does 8 = .ok (.iconst (-1), 1) := by decide +kernel
theorem dX4_does_9 : decode cX4_does 9 = .ok (.ireturn, 1) := by decide +kernel
theorem dX4_does_10 : decode cX4_does 10 = .ok (.aload_n 0, 1) := by decide +kernel
theorem dX4_does_11 : decode cX4_does 11 = .ok (.getfield 16, 3) := by decide +kernel
theorem dX4_does_14 : decode cX4_does 14 = .ok (.aload_n 0, 1) := by decide +kernel
theorem dX4_does_15 : decode cX4_does 15 = .ok (.getfield 10, 3) := by decide +kernel
theorem dX4_does_18 : decode cX4_does 18 = .ok (.invokevirtual 135, 3) := by decide +kernel
theorem dX4_does_21 : decode cX4_does 21 = .ok (.aload_n 0, 1) := by decide +kernel
theorem dX4_does_22 : decode cX4_does 22 = .ok (.getfield 16, 3) := by decide +kernel
theorem dX4_does_25 : decode cX4_does 25 = .ok (.invokevirtual 123, 3) := by decide +kernel
theorem dX4_does_28 : decode cX4_does 28 = .ok (.aload_n 0, 1) := by decide +kernel
theorem dX4_does_29 : decode cX4_does 29 = .ok (.getfield 16, 3) := by decide +kernel
theorem dX4_does_32 : decode cX4_does 32 = .ok (.getfield 104, 3) := by decide +kernel
theorem dX4_does_35 : decode cX4_does 35 = .ok (.iload_n 1, 1) := by decide +kernel
theorem dX4_does_36 : decode cX4_does 36 = .ok (.aaload, 1) := by decide +kernel
theorem dX4_does_37 : decode cX4_does 37 = .ok (.getfield 138, 3) := by decide +kernel
theorem dX4_does_40 : decode cX4_does 40 = .ok (.ireturn, 1) := by decide +kernel
theorem dX4_count_0 : decode cX4_count 0 = .ok (.iload_n 1, 1) := by decide +kernel
theorem dX4_count_1 : decode cX4_count 1 = .ok (.invokestatic 41, 3) := by decide +kernel
theorem dX4_count_4 : decode cX4_count 4 = .ok (.ifCond .eq 13, 3) := by decide +kernel
theorem dX4_count_7 : decode cX4_count 7 = .ok (.aload_n 0, 1) := by decide +kernel
theorem dX4_count_8 : decode cX4_count 8 = .ok (.getfield 10, 3) := by decide +kernel
theorem dX4_count_11 : decode cX4_count 11 = .ok (.getfield 60, 3) := by decide +kernel
theorem dX4_count_14 : decode cX4_count 14 = .ok (.iload_n 1, 1) := by decide +kernel
theorem dX4_count_15 : decode cX4_count 15 = .ok (.iaload, 1) := by decide +kernel
theorem dX4_count_16 : decode cX4_count 16 = .ok (.ireturn, 1) := by decide +kernel
theorem dX4_count_17 : decode cX4_count 17 = .ok (.iload_n 1, 1) := by decide +kernel
theorem dX4_count_18 : decode cX4_count 18 = .ok (.tableswitch 166 3 14 #[62, 70, 78, 87, 96, 105, 114, 122, 132, 141, 150, 158], 62) := by decide +kernel
theorem dX4_count_80 : decode cX4_count 80 = .ok (.aload_n 0, 1) := by decide +kernel
theorem dX4_count_81 : decode cX4_count 81 = .ok (.getfield 10, 3) := by decide +kernel
theorem dX4_count_84 : decode cX4_count 84 = .ok (.getfield 117, 3) := by decide +kernel
theorem dX4_count_87 : decode cX4_count 87 = .ok (.ireturn, 1) := by decide +kernel
theorem dX4_count_88 : decode cX4_count 88 = .ok (.aload_n 0, 1) := by decide +kernel
theorem dX4_count_89 : decode cX4_count 89 = .ok (.getfield 10, 3) := by decide +kernel
theorem dX4_count_92 : decode cX4_count 92 = .ok (.getfield 82, 3) := by decide +kernel
theorem dX4_count_95 : decode cX4_count 95 = .ok (.ireturn, 1) := by decide +kernel
theorem dX4_count_96 : decode cX4_count 96 = .ok (.aload_n 0, 1) := by decide +kernel
theorem dX4_count_97 : decode cX4_count 97 = .ok (.getfield 10, 3) := by decide +kernel
theorem dX4_count_100 : decode cX4_count 100 = .ok (.iconst 0, 1) := by decide +kernel
theorem dX4_count_101 : decode cX4_count 101 = .ok (.invokevirtual 120, 3) := by decide +kernel
theorem dX4_count_104 : decode cX4_count 104 = .ok (.ireturn, 1) := by decide +kernel
theorem dX4_count_105 : decode cX4_count 105 = .ok (.aload_n 0, 1) := by decide +kernel
theorem dX4_count_106 : decode cX4_count 106 = .ok (.getfield 10, 3) := by decide +kernel
theorem dX4_count_109 : decode cX4_count 109 = .ok (.iconst 1, 1) := by decide +kernel
theorem dX4_count_110 : decode cX4_count 110 = .ok (.invokevirtual 120, 3) := by decide +kernel
theorem dX4_count_113 : decode cX4_count 113 = .ok (.ireturn, 1) := by decide +kernel
theorem dX4_count_114 : decode cX4_count 114 = .ok (.aload_n 0, 1) := by decide +kernel
theorem dX4_count_115 : decode cX4_count 115 = .ok (.getfield 10, 3) := by decide +kernel
theorem dX4_count_118 : decode cX4_count 118 = .ok (.iconst 2, 1) := by decide +kernel
theorem dX4_count_119 : decode cX4_count 119 = .ok (.invokevirtual 120, 3) := by decide +kernel
theorem dX4_count_122 : decode cX4_count 122 = .ok (.ireturn, 1) := by decide +kernel
theorem dX4_count_123 : decode cX4_count 123 = .ok (.aload_n 0, 1) := by decide +kernel
theorem dX4_count_124 : decode cX4_count 124 = .ok (.getfield 10, 3) := by decide +kernel
theorem dX4_count_127 : decode cX4_count 127 = .ok (.iconst 3, 1) := by decide +kernel
theorem dX4_count_128 : decode cX4_count 128 = .ok (.invokevirtual 120, 3) := by decide +kernel
theorem dX4_count_131 : decode cX4_count 131 = .ok (.ireturn, 1) := by decide +kernel
theorem dX4_count_132 : decode cX4_count 132 = .ok (.aload_n 0, 1) := by decide +kernel
theorem dX4_count_133 : decode cX4_count 133 = .ok (.getfield 10, 3) := by decide +kernel
theorem dX4_count_136 : decode cX4_count 136 = .ok (.getfield 73, 3) := by decide +kernel
theorem dX4_count_139 : decode cX4_count 139 = .ok (.ireturn, 1) := by decide +kernel
theorem dX4_count_140 : decode cX4_count 140 = .ok (.aload_n 0, 1) := by decide +kernel
theorem dX4_count_141 : decode cX4_count 141 = .ok (.getfield 10, 3) := by decide +kernel
theorem dX4_count_144 : decode cX4_count 144 = .ok (.bipush 6, 2) := by decide +kernel
theorem dX4_count_146 : decode cX4_count 146 = .ok (.invokevirtual 141, 3) := by decide +kernel
theorem dX4_count_149 : decode cX4_count 149 = .ok (.ireturn, 1) := by decide +kernel
theorem dX4_count_150 : decode cX4_count 150 = .ok (.aload_n 0, 1) := by decide +kernel
theorem dX4_count_151 : decode cX4_count 151 = .ok (.getfield 10, 3) := by decide +kernel
theorem dX4_count_154 : decode cX4_count 154 = .ok (.iconst 5, 1) := by decide +kernel
theorem dX4_count_155 : decode cX4_count 155 = .ok (.invokevirtual 141, 3) := by decide +kernel
theorem dX4_count_158 : decode cX4_count 158 = .ok (.ireturn, 1) := by decide +kernel
theorem dX4_count_159 : decode cX4_count 159 = .ok (.aload_n 0, 1) := by decide +kernel
theorem dX4_count_160 : decode cX4_count 160 = .ok (.getfield 10, 3) := by decide +kernel
theorem dX4_count_163 : decode cX4_count 163 = .ok (.iconst 4, 1) := by decide +kernel
theorem dX4_count_164 : decode cX4_count 164 = .ok (.invokevirtual 141, 3) := by decide +kernel
theorem dX4_count_167 : decode cX4_count 167 = .ok (.ireturn, 1) := by decide +kernel
theorem dX4_count_168 : decode cX4_count 168 = .ok (.aload_n 0, 1) := by decide +kernel
theorem dX4_count_169 : decode cX4_count 169 = .ok (.getfield 37, 3) := by decide +kernel
theorem dX4_count_172 : decode cX4_count 172 = .ok (.getfield 92, 3) := by decide +kernel
theorem dX4_count_175 : decode cX4_count 175 = .ok (.ireturn, 1) := by decide +kernel
theorem dX4_count_176 : decode cX4_count 176 = .ok (.aload_n 0, 1) := by decide +kernel
theorem dX4_count_177 : decode cX4_count 177 = .ok (.getfield 22, 3) := by decide +kernel
theorem dX4_count_180 : decode cX4_count 180 = .ok (.getfield 144, 3) := by decide +kernel
theorem dX4_count_183 : decode cX4_count 183 = .ok (.ireturn, 1) := by decide +kernel
theorem dX4_count_184 : decode cX4_count 184 = .ok (.bipush (-2), 2) := by decide +kernel
theorem dX4_count_186 : decode cX4_count 186 = .ok (.ireturn, 1) := by decide +kernel
theorem dX4_untilArrived_0 : decode cX4_untilArrived 0 = .ok (.aload_n 0, 1) := by decide +kernel
theorem dX4_untilArrived_1 : decode cX4_untilArrived 1 = .ok (.iload_n 1, 1) := by decide +kernel
theorem dX4_untilArrived_2 : decode cX4_untilArrived 2 = .ok (.invokevirtual 101, 3) := by decide +kernel
theorem dX4_untilArrived_5 : decode cX4_untilArrived 5 = .ok (.ifCond .ne 5, 3) := by decide +kernel
theorem dX4_untilArrived_8 : decode cX4_untilArrived 8 = .ok (.iconst (-1), 1) := by decide +kernel
theorem dX4_untilArrived_9 : decode cX4_untilArrived 9 = .ok (.ireturn, 1) := by decide +kernel
theorem dX4_untilArrived_10 : decode cX4_untilArrived 10 = .ok (.aload_n 0, 1) := by decide +kernel
theorem dX4_untilArrived_11 : decode cX4_untilArrived 11 = .ok (.getfield 16, 3) := by decide +kernel
theorem dX4_untilArrived_14 : decode cX4_untilArrived 14 = .ok (.aload_n 0, 1) := by decide +kernel
theorem dX4_untilArrived_15 : decode cX4_untilArrived 15 = .ok (.getfield 10, 3) := by decide +kernel
theorem dX4_untilArrived_18 : decode cX4_untilArrived 18 = .ok (.invokevirtual 135, 3) := by decide +kernel
theorem dX4_untilArrived_21 : decode cX4_untilArrived 21 = .ok (.aload_n 0, 1) := by decide +kernel
theorem dX4_untilArrived_22 : decode cX4_untilArrived 22 = .ok (.getfield 16, 3) := by decide +kernel
theorem dX4_untilArrived_25 : decode cX4_untilArrived 25 = .ok (.getfield 104, 3) := by decide +kernel
theorem dX4_untilArrived_28 : decode cX4_untilArrived 28 = .ok (.iload_n 1, 1) := by decide +kernel
theorem dX4_untilArrived_29 : decode cX4_untilArrived 29 = .ok (.aaload, 1) := by decide +kernel
theorem dX4_untilArrived_30 : decode cX4_untilArrived 30 = .ok (.astore_n 2, 1) := by decide +kernel
theorem dX4_untilArrived_31 : decode cX4_untilArrived 31 = .ok (.iconst 0, 1) := by decide +kernel
theorem dX4_untilArrived_32 : decode cX4_untilArrived 32 = .ok (.istore_n 3, 1) := by decide +kernel
theorem dX4_untilArrived_33 : decode cX4_untilArrived 33 = .ok (.iload_n 3, 1) := by decide +kernel
theorem dX4_untilArrived_34 : decode cX4_untilArrived 34 = .ok (.sipush 200, 3) := by decide +kernel
theorem dX4_untilArrived_37 : decode cX4_untilArrived 37 = .ok (.if_icmp .ge 23, 3) := by decide +kernel
theorem dX4_untilArrived_40 : decode cX4_untilArrived 40 = .ok (.aload_n 2, 1) := by decide +kernel
theorem dX4_untilArrived_41 : decode cX4_untilArrived 41 = .ok (.invokevirtual 145, 3) := by decide +kernel
theorem dX4_untilArrived_44 : decode cX4_untilArrived 44 = .ok (.ifCond .eq 16, 3) := by decide +kernel
theorem dX4_untilArrived_47 : decode cX4_untilArrived 47 = .ok (.aload_n 0, 1) := by decide +kernel
theorem dX4_untilArrived_48 : decode cX4_untilArrived 48 = .ok (.getfield 16, 3) := by decide +kernel
theorem dX4_untilArrived_51 : decode cX4_untilArrived 51 = .ok (.invokevirtual 123, 3) := by decide +kernel
theorem dX4_untilArrived_54 : decode cX4_untilArrived 54 = .ok (.iinc 3 1, 3) := by decide +kernel
theorem dX4_untilArrived_57 : decode cX4_untilArrived 57 = .ok (.goto (-24), 3) := by decide +kernel
theorem dX4_untilArrived_60 : decode cX4_untilArrived 60 = .ok (.aload_n 2, 1) := by decide +kernel
theorem dX4_untilArrived_61 : decode cX4_untilArrived 61 = .ok (.getfield 108, 3) := by decide +kernel
theorem dX4_untilArrived_64 : decode cX4_untilArrived 64 = .ok (.iconst 2, 1) := by decide +kernel
theorem dX4_untilArrived_65 : decode cX4_untilArrived 65 = .ok (.if_icmp .ne 7, 3) := by decide +kernel
theorem dX4_untilArrived_68 : decode cX4_untilArrived 68 = .ok (.iload_n 3, 1) := by decide +kernel
theorem dX4_untilArrived_69 : decode cX4_untilArrived 69 = .ok (.goto 5, 3) := by decide +kernel
theorem dX4_untilArrived_72 : decode cX4_untilArrived 72 = .ok (.bipush (-6), 2) := by decide +kernel
theorem dX4_untilArrived_74 : decode cX4_untilArrived 74 = .ok (.ireturn, 1) := by decide +kernel
theorem dX4_tryOut_0 : decode cX4_tryOut 0 = .ok (.iconst 0, 1) := by decide +kernel
theorem dX4_tryOut_1 : decode cX4_tryOut 1 = .ok (.istore_n 2, 1) := by decide +kernel
theorem dX4_tryOut_2 : decode cX4_tryOut 2 = .ok (.iload_n 2, 1) := by decide +kernel
theorem dX4_tryOut_3 : decode cX4_tryOut 3 = .ok (.iload_n 1, 1) := by decide +kernel
theorem dX4_tryOut_4 : decode cX4_tryOut 4 = .ok (.if_icmp .ge 26, 3) := by decide +kernel
theorem dX4_tryOut_7 : decode cX4_tryOut 7 = .ok (.aload_n 0, 1) := by decide +kernel
theorem dX4_tryOut_8 : decode cX4_tryOut 8 = .ok (.getfield 16, 3) := by decide +kernel
theorem dX4_tryOut_11 : decode cX4_tryOut 11 = .ok (.invokevirtual 152, 3) := by decide +kernel
theorem dX4_tryOut_14 : decode cX4_tryOut 14 = .ok (.ifCond .eq 16, 3) := by decide +kernel
theorem dX4_tryOut_17 : decode cX4_tryOut 17 = .ok (.aload_n 0, 1) := by decide +kernel
theorem dX4_tryOut_18 : decode cX4_tryOut 18 = .ok (.getfield 16, 3) := by decide +kernel
theorem dX4_tryOut_21 : decode cX4_tryOut 21 = .ok (.invokevirtual 123, 3) := by decide +kernel
theorem dX4_tryOut_24 : decode cX4_tryOut 24 = .ok (.iinc 2 1, 3) := by decide +kernel
theorem dX4_tryOut_27 : decode cX4_tryOut 27 = .ok (.goto (-25), 3) := by decide +kernel
theorem dX4_tryOut_30 : decode cX4_tryOut 30 = .ok (.iload_n 2, 1) := by decide +kernel
theorem dX4_tryOut_31 : decode cX4_tryOut 31 = .ok (.ireturn, 1) := by decide +kernel
theorem dX4_untilEmpty_0 : decode cX4_untilEmpty 0 = .ok (.aload_n 0, 1) := by decide +kernel
theorem dX4_untilEmpty_1 : decode cX4_untilEmpty 1 = .ok (.getfield 16, 3) := by decide +kernel
theorem dX4_untilEmpty_4 : decode cX4_untilEmpty 4 = .ok (.aload_n 0, 1) := by decide +kernel
theorem dX4_untilEmpty_5 : decode cX4_untilEmpty 5 = .ok (.getfield 10, 3) := by decide +kernel
theorem dX4_untilEmpty_8 : decode cX4_untilEmpty 8 = .ok (.invokevirtual 135, 3) := by decide +kernel
theorem dX4_untilEmpty_11 : decode cX4_untilEmpty 11 = .ok (.aload_n 0, 1) := by decide +kernel
theorem dX4_untilEmpty_12 : decode cX4_untilEmpty 12 = .ok (.sipush 200, 3) := by decide +kernel
theorem dX4_untilEmpty_15 : decode cX4_untilEmpty 15 = .ok (.invokevirtual 149, 3) := by decide +kernel
theorem dX4_untilEmpty_18 : decode cX4_untilEmpty 18 = .ok (.istore_n 1, 1) := by decide +kernel
theorem dX4_untilEmpty_19 : decode cX4_untilEmpty 19 = .ok (.aload_n 0, 1) := by decide +kernel
theorem dX4_untilEmpty_20 : decode cX4_untilEmpty 20 = .ok (.getfield 16, 3) := by decide +kernel
theorem dX4_untilEmpty_23 : decode cX4_untilEmpty 23 = .ok (.invokevirtual 152, 3) := by decide +kernel
theorem dX4_untilEmpty_26 : decode cX4_untilEmpty 26 = .ok (.ifCond .eq 8, 3) := by decide +kernel
theorem dX4_untilEmpty_29 : decode cX4_untilEmpty 29 = .ok (.bipush (-6), 2) := by decide +kernel
theorem dX4_untilEmpty_31 : decode cX4_untilEmpty 31 = .ok (.goto 4, 3) := by decide +kernel
theorem dX4_untilEmpty_34 : decode cX4_untilEmpty 34 = .ok (.iload_n 1, 1) := by decide +kernel
theorem dX4_untilEmpty_35 : decode cX4_untilEmpty 35 = .ok (.ireturn, 1) := by decide +kernel
theorem dX4_ifPassed_0 : decode cX4_ifPassed 0 = .ok (.iload_n 1, 1) := by decide +kernel
theorem dX4_ifPassed_1 : decode cX4_ifPassed 1 = .ok (.iconst 1, 1) := by decide +kernel
theorem dX4_ifPassed_2 : decode cX4_ifPassed 2 = .ok (.if_icmp .lt 19, 3) := by decide +kernel
theorem dX4_ifPassed_5 : decode cX4_ifPassed 5 = .ok (.iload_n 1, 1) := by decide +kernel
theorem dX4_ifPassed_6 : decode cX4_ifPassed 6 = .ok (.sipush 200, 3) := by decide +kernel
theorem dX4_ifPassed_9 : decode cX4_ifPassed 9 = .ok (.if_icmp .gt 12, 3) := by decide +kernel
theorem dX4_ifPassed_12 : decode cX4_ifPassed 12 = .ok (.iload_n 2, 1) := by decide +kernel
theorem dX4_ifPassed_13 : decode cX4_ifPassed 13 = .ok (.ifCond .lt 8, 3) := by decide +kernel
theorem dX4_ifPassed_16 : decode cX4_ifPassed 16 = .ok (.iload_n 2, 1) := by decide +kernel
theorem dX4_ifPassed_17 : decode cX4_ifPassed 17 = .ok (.iconst 3, 1) := by decide +kernel
theorem dX4_ifPassed_18 : decode cX4_ifPassed 18 = .ok (.if_icmp .le 6, 3) := by decide +kernel
theorem dX4_ifPassed_21 : decode cX4_ifPassed 21 = .ok (.bipush (-2), 2) := by decide +kernel
theorem dX4_ifPassed_23 : decode cX4_ifPassed 23 = .ok (.ireturn, 1) := by decide +kernel
theorem dX4_ifPassed_24 : decode cX4_ifPassed 24 = .ok (.aload_n 0, 1) := by decide +kernel
theorem dX4_ifPassed_25 : decode cX4_ifPassed 25 = .ok (.getfield 16, 3) := by decide +kernel
theorem dX4_ifPassed_28 : decode cX4_ifPassed 28 = .ok (.aload_n 0, 1) := by decide +kernel
theorem dX4_ifPassed_29 : decode cX4_ifPassed 29 = .ok (.getfield 10, 3) := by decide +kernel
theorem dX4_ifPassed_32 : decode cX4_ifPassed 32 = .ok (.invokevirtual 135, 3) := by decide +kernel
theorem dX4_ifPassed_35 : decode cX4_ifPassed 35 = .ok (.aload_n 0, 1) := by decide +kernel
theorem dX4_ifPassed_36 : decode cX4_ifPassed 36 = .ok (.iload_n 1, 1) := by decide +kernel
theorem dX4_ifPassed_37 : decode cX4_ifPassed 37 = .ok (.invokevirtual 149, 3) := by decide +kernel
theorem dX4_ifPassed_40 : decode cX4_ifPassed 40 = .ok (.pop, 1) := by decide +kernel
theorem dX4_ifPassed_41 : decode cX4_ifPassed 41 = .ok (.iload_n 2, 1) := by decide +kernel
theorem dX4_ifPassed_42 : decode cX4_ifPassed 42 = .ok (.tableswitch 82 0 2 #[26, 44, 62], 26) := by decide +kernel
theorem dX4_ifPassed_68 : decode cX4_ifPassed 68 = .ok (.aload_n 0, 1) := by decide +kernel
theorem dX4_ifPassed_69 : decode cX4_ifPassed 69 = .ok (.getfield 16, 3) := by decide +kernel
theorem dX4_ifPassed_72 : decode cX4_ifPassed 72 = .ok (.iconst 2, 1) := by decide +kernel
theorem dX4_ifPassed_73 : decode cX4_ifPassed 73 = .ok (.invokevirtual 120, 3) := by decide +kernel
theorem dX4_ifPassed_76 : decode cX4_ifPassed 76 = .ok (.aload_n 0, 1) := by decide +kernel
theorem dX4_ifPassed_77 : decode cX4_ifPassed 77 = .ok (.getfield 10, 3) := by decide +kernel
theorem dX4_ifPassed_80 : decode cX4_ifPassed 80 = .ok (.iconst 2, 1) := by decide +kernel
theorem dX4_ifPassed_81 : decode cX4_ifPassed 81 = .ok (.invokevirtual 120, 3) := by decide +kernel
theorem dX4_ifPassed_84 : decode cX4_ifPassed 84 = .ok (.isub, 1) := by decide +kernel
theorem dX4_ifPassed_85 : decode cX4_ifPassed 85 = .ok (.ireturn, 1) := by decide +kernel
theorem dX4_ifPassed_86 : decode cX4_ifPassed 86 = .ok (.aload_n 0, 1) := by decide +kernel
theorem dX4_ifPassed_87 : decode cX4_ifPassed 87 = .ok (.getfield 16, 3) := by decide +kernel
theorem dX4_ifPassed_90 : decode cX4_ifPassed 90 = .ok (.iconst 3, 1) := by decide +kernel
theorem dX4_ifPassed_91 : decode cX4_ifPassed 91 = .ok (.invokevirtual 120, 3) := by decide +kernel
theorem dX4_ifPassed_94 : decode cX4_ifPassed 94 = .ok (.aload_n 0, 1) := by decide +kernel
theorem dX4_ifPassed_95 : decode cX4_ifPassed 95 = .ok (.getfield 10, 3) := by decide +kernel
theorem dX4_ifPassed_98 : decode cX4_ifPassed 98 = .ok (.iconst 3, 1) := by decide +kernel
theorem dX4_ifPassed_99 : decode cX4_ifPassed 99 = .ok (.invokevirtual 120, 3) := by decide +kernel
theorem dX4_ifPassed_102 : decode cX4_ifPassed 102 = .ok (.isub, 1) := by decide +kernel
theorem dX4_ifPassed_103 : decode cX4_ifPassed 103 = .ok (.ireturn, 1) := by decide +kernel
theorem dX4_ifPassed_104 : decode cX4_ifPassed 104 = .ok (.aload_n 0, 1) := by decide +kernel
theorem dX4_ifPassed_105 : decode cX4_ifPassed 105 = .ok (.getfield 16, 3) := by decide +kernel
theorem dX4_ifPassed_108 : decode cX4_ifPassed 108 = .ok (.bipush 6, 2) := by decide +kernel
theorem dX4_ifPassed_110 : decode cX4_ifPassed 110 = .ok (.invokevirtual 141, 3) := by decide +kernel
theorem dX4_ifPassed_113 : decode cX4_ifPassed 113 = .ok (.aload_n 0, 1) := by decide +kernel
theorem dX4_ifPassed_114 : decode cX4_ifPassed 114 = .ok (.getfield 10, 3) := by decide +kernel
theorem dX4_ifPassed_117 : decode cX4_ifPassed 117 = .ok (.bipush 6, 2) := by decide +kernel
theorem dX4_ifPassed_119 : decode cX4_ifPassed 119 = .ok (.invokevirtual 141, 3) := by decide +kernel
theorem dX4_ifPassed_122 : decode cX4_ifPassed 122 = .ok (.isub, 1) := by decide +kernel
theorem dX4_ifPassed_123 : decode cX4_ifPassed 123 = .ok (.ireturn, 1) := by decide +kernel
theorem dX4_ifPassed_124 : decode cX4_ifPassed 124 = .ok (.aload_n 0, 1) := by decide +kernel
theorem dX4_ifPassed_125 : decode cX4_ifPassed 125 = .ok (.getfield 16, 3) := by decide +kernel
theorem dX4_ifPassed_128 : decode cX4_ifPassed 128 = .ok (.iconst 4, 1) := by decide +kernel
theorem dX4_ifPassed_129 : decode cX4_ifPassed 129 = .ok (.invokevirtual 141, 3) := by decide +kernel
theorem dX4_ifPassed_132 : decode cX4_ifPassed 132 = .ok (.aload_n 0, 1) := by decide +kernel
theorem dX4_ifPassed_133 : decode cX4_ifPassed 133 = .ok (.getfield 10, 3) := by decide +kernel
theorem dX4_ifPassed_136 : decode cX4_ifPassed 136 = .ok (.iconst 4, 1) := by decide +kernel
theorem dX4_ifPassed_137 : decode cX4_ifPassed 137 = .ok (.invokevirtual 141, 3) := by decide +kernel
theorem dX4_ifPassed_140 : decode cX4_ifPassed 140 = .ok (.isub, 1) := by decide +kernel
theorem dX4_ifPassed_141 : decode cX4_ifPassed 141 = .ok (.ireturn, 1) := by decide +kernel
theorem dX4_bestLanding_0 : decode cX4_bestLanding 0 = .ok (.bipush (-6), 2) := by decide +kernel
theorem dX4_bestLanding_2 : decode cX4_bestLanding 2 = .ok (.istore_n 1, 1) := by decide +kernel
theorem dX4_bestLanding_3 : decode cX4_bestLanding 3 = .ok (.iconst 0, 1) := by decide +kernel
theorem dX4_bestLanding_4 : decode cX4_bestLanding 4 = .ok (.istore_n 2, 1) := by decide +kernel
theorem dX4_bestLanding_5 : decode cX4_bestLanding 5 = .ok (.iconst 0, 1) := by decide +kernel
theorem dX4_bestLanding_6 : decode cX4_bestLanding 6 = .ok (.istore_n 3, 1) := by decide +kernel
theorem dX4_bestLanding_7 : decode cX4_bestLanding 7 = .ok (.iload_n 3, 1) := by decide +kernel
theorem dX4_bestLanding_8 : decode cX4_bestLanding 8 = .ok (.bipush 12, 2) := by decide +kernel
theorem dX4_bestLanding_10 : decode cX4_bestLanding 10 = .ok (.if_icmp .ge 84, 3) := by decide +kernel
theorem dX4_bestLanding_13 : decode cX4_bestLanding 13 = .ok (.aload_n 0, 1) := by decide +kernel
theorem dX4_bestLanding_14 : decode cX4_bestLanding 14 = .ok (.getfield 10, 3) := by decide +kernel
theorem dX4_bestLanding_17 : decode cX4_bestLanding 17 = .ok (.iload_n 3, 1) := by decide +kernel
theorem dX4_bestLanding_18 : decode cX4_bestLanding 18 = .ok (.invokevirtual 66, 3) := by decide +kernel
theorem dX4_bestLanding_21 : decode cX4_bestLanding 21 = .ok (.ifCond .eq 6, 3) := by decide +kernel
theorem dX4_bestLanding_24 : decode cX4_bestLanding 24 = .ok (.goto 64, 3) := by decide +kernel
theorem dX4_bestLanding_27 : decode cX4_bestLanding 27 = .ok (.aload_n 0, 1) := by decide +kernel
theorem dX4_bestLanding_28 : decode cX4_bestLanding 28 = .ok (.getfield 16, 3) := by decide +kernel
theorem dX4_bestLanding_31 : decode cX4_bestLanding 31 = .ok (.aload_n 0, 1) := by decide +kernel
theorem dX4_bestLanding_32 : decode cX4_bestLanding 32 = .ok (.getfield 10, 3) := by decide +kernel
theorem dX4_bestLanding_35 : decode cX4_bestLanding 35 = .ok (.invokevirtual 135, 3) := by decide +kernel
theorem dX4_bestLanding_38 : decode cX4_bestLanding 38 = .ok (.aload_n 0, 1) := by decide +kernel
theorem dX4_bestLanding_39 : decode cX4_bestLanding 39 = .ok (.getfield 16, 3) := by decide +kernel
theorem dX4_bestLanding_42 : decode cX4_bestLanding 42 = .ok (.dup, 1) := by decide +kernel
theorem dX4_bestLanding_43 : decode cX4_bestLanding 43 = .ok (.getfield 73, 3) := by decide +kernel
theorem dX4_bestLanding_46 : decode cX4_bestLanding 46 = .ok (.iconst 1, 1) := by decide +kernel
theorem dX4_bestLanding_47 : decode cX4_bestLanding 47 = .ok (.iload_n 3, 1) := by decide +kernel
theorem dX4_bestLanding_48 : decode cX4_bestLanding 48 = .ok (.ishl, 1) := by decide +kernel
theorem dX4_bestLanding_49 : decode cX4_bestLanding 49 = .ok (.ior, 1) := by decide +kernel
theorem dX4_bestLanding_50 : decode cX4_bestLanding 50 = .ok (.putfield 73, 3) := by decide +kernel
theorem dX4_bestLanding_53 : decode cX4_bestLanding 53 = .ok (.aload_n 0, 1) := by decide +kernel
theorem dX4_bestLanding_54 : decode cX4_bestLanding 54 = .ok (.bipush 50, 2) := by decide +kernel
theorem dX4_bestLanding_56 : decode cX4_bestLanding 56 = .ok (.invokevirtual 149, 3) := by decide +kernel
theorem dX4_bestLanding_59 : decode cX4_bestLanding 59 = .ok (.pop, 1) := by decide +kernel
theorem dX4_bestLanding_60 : decode cX4_bestLanding 60 = .ok (.aload_n 0, 1) := by decide +kernel
theorem dX4_bestLanding_61 : decode cX4_bestLanding 61 = .ok (.getfield 16, 3) := by decide +kernel
theorem dX4_bestLanding_64 : decode cX4_bestLanding 64 = .ok (.bipush 6, 2) := by decide +kernel
theorem dX4_bestLanding_66 : decode cX4_bestLanding 66 = .ok (.invokevirtual 141, 3) := by decide +kernel
theorem dX4_bestLanding_69 : decode cX4_bestLanding 69 = .ok (.istore 4, 2) := by decide +kernel
theorem dX4_bestLanding_71 : decode cX4_bestLanding 71 = .ok (.iload_n 1, 1) := by decide +kernel
theorem dX4_bestLanding_72 : decode cX4_bestLanding 72 = .ok (.bipush (-6), 2) := by decide +kernel
theorem dX4_bestLanding_74 : decode cX4_bestLanding 74 = .ok (.if_icmp .eq 9, 3) := by decide +kernel
theorem dX4_bestLanding_77 : decode cX4_bestLanding 77 = .ok (.iload 4, 2) := by decide +kernel
theorem dX4_bestLanding_79 : decode cX4_bestLanding 79 = .ok (.iload_n 2, 1) := by decide +kernel
theorem dX4_bestLanding_80 : decode cX4_bestLanding 80 = .ok (.if_icmp .ge 8, 3) := by decide +kernel
theorem dX4_bestLanding_83 : decode cX4_bestLanding 83 = .ok (.iload_n 3, 1) := by decide +kernel
theorem dX4_bestLanding_84 : decode cX4_bestLanding 84 = .ok (.istore_n 1, 1) := by decide +kernel
theorem dX4_bestLanding_85 : decode cX4_bestLanding 85 = .ok (.iload 4, 2) := by decide +kernel
theorem dX4_bestLanding_87 : decode cX4_bestLanding 87 = .ok (.istore_n 2, 1) := by decide +kernel
theorem dX4_bestLanding_88 : decode cX4_bestLanding 88 = .ok (.iinc 3 1, 3) := by decide +kernel
theorem dX4_bestLanding_91 : decode cX4_bestLanding 91 = .ok (.goto (-84), 3) := by decide +kernel
theorem dX4_bestLanding_94 : decode cX4_bestLanding 94 = .ok (.iload_n 1, 1) := by decide +kernel
theorem dX4_bestLanding_95 : decode cX4_bestLanding 95 = .ok (.ireturn, 1) := by decide +kernel
theorem dX4_put_0 : decode cX4_put 0 = .ok (.aload_n 0, 1) := by decide +kernel
theorem dX4_put_1 : decode cX4_put 1 = .ok (.getfield 37, 3) := by decide +kernel
theorem dX4_put_4 : decode cX4_put 4 = .ok (.lload_n 1, 1) := by decide +kernel
theorem dX4_put_5 : decode cX4_put 5 = .ok (.invokevirtual 155, 3) := by decide +kernel
theorem dX4_put_8 : decode cX4_put 8 = .ok (.ireturn, 1) := by decide +kernel
theorem dX4_wipe_0 : decode cX4_wipe 0 = .ok (.aload_n 0, 1) := by decide +kernel
theorem dX4_wipe_1 : decode cX4_wipe 1 = .ok (.getfield 37, 3) := by decide +kernel
theorem dX4_wipe_4 : decode cX4_wipe 4 = .ok (.getfield 92, 3) := by decide +kernel
theorem dX4_wipe_7 : decode cX4_wipe 7 = .ok (.istore_n 1, 1) := by decide +kernel
theorem dX4_wipe_8 : decode cX4_wipe 8 = .ok (.aload_n 0, 1) := by decide +kernel
theorem dX4_wipe_9 : decode cX4_wipe 9 = .ok (.getfield 37, 3) := by decide +kernel
theorem dX4_wipe_12 : decode cX4_wipe 12 = .ok (.iconst 0, 1) := by decide +kernel
theorem dX4_wipe_13 : decode cX4_wipe 13 = .ok (.putfield 92, 3) := by decide +kernel
theorem dX4_wipe_16 : decode cX4_wipe 16 = .ok (.iload_n 1, 1) := by decide +kernel
theorem dX4_wipe_17 : decode cX4_wipe 17 = .ok (.ireturn, 1) := by decide +kernel
theorem dX4_isSlot_0 : decode cX4_isSlot 0 = .ok (.iload_n 0, 1) := by decide +kernel
theorem dX4_isSlot_1 : decode cX4_isSlot 1 = .ok (.ifCond .lt 12, 3) := by decide +kernel
theorem dX4_isSlot_4 : decode cX4_isSlot 4 = .ok (.iload_n 0, 1) := by decide +kernel
theorem dX4_isSlot_5 : decode cX4_isSlot 5 = .ok (.iconst 2, 1) := by decide +kernel
theorem dX4_isSlot_6 : decode cX4_isSlot 6 = .ok (.if_icmp .ge 7, 3) := by decide +kernel
theorem dX4_isSlot_9 : decode cX4_isSlot 9 = .ok (.iconst 1, 1) := by decide +kernel
theorem dX4_isSlot_10 : decode cX4_isSlot 10 = .ok (.goto 4, 3) := by decide +kernel
theorem dX4_isSlot_13 : decode cX4_isSlot 13 = .ok (.iconst 0, 1) := by decide +kernel
theorem dX4_isSlot_14 : decode cX4_isSlot 14 = .ok (.ireturn, 1) := by decide +kernel
theorem dX4_save_0 : decode cX4_save 0 = .ok (.iload_n 1, 1) := by decide +kernel
theorem dX4_save_1 : decode cX4_save 1 = .ok (.invokestatic 162, 3) := by decide +kernel
theorem dX4_save_4 : decode cX4_save 4 = .ok (.ifCond .ne 6, 3) := by decide +kernel
theorem dX4_save_7 : decode cX4_save 7 = .ok (.bipush (-2), 2) := by decide +kernel
theorem dX4_save_9 : decode cX4_save 9 = .ok (.ireturn, 1) := by decide +kernel
theorem dX4_save_10 : decode cX4_save 10 = .ok (.aload_n 0, 1) := by decide +kernel
theorem dX4_save_11 : decode cX4_save 11 = .ok (.getfield 26, 3) := by decide +kernel
theorem dX4_save_14 : decode cX4_save 14 = .ok (.iload_n 1, 1) := by decide +kernel
theorem dX4_save_15 : decode cX4_save 15 = .ok (.aaload, 1) := by decide +kernel
theorem dX4_save_16 : decode cX4_save 16 = .ok (.aload_n 0, 1) := by decide +kernel
theorem dX4_save_17 : decode cX4_save 17 = .ok (.getfield 10, 3) := by decide +kernel
theorem dX4_save_20 : decode cX4_save 20 = .ok (.invokevirtual 135, 3) := by decide +kernel
theorem dX4_save_23 : decode cX4_save 23 = .ok (.aload_n 0, 1) := by decide +kernel
theorem dX4_save_24 : decode cX4_save 24 = .ok (.getfield 30, 3) := by decide +kernel
theorem dX4_save_27 : decode cX4_save 27 = .ok (.iload_n 1, 1) := by decide +kernel
theorem dX4_save_28 : decode cX4_save 28 = .ok (.iconst 1, 1) := by decide +kernel
theorem dX4_save_29 : decode cX4_save 29 = .ok (.bastore, 1) := by decide +kernel
theorem dX4_save_30 : decode cX4_save 30 = .ok (.aload_n 0, 1) := by decide +kernel
theorem dX4_save_31 : decode cX4_save 31 = .ok (.getfield 10, 3) := by decide +kernel
theorem dX4_save_34 : decode cX4_save 34 = .ok (.getfield 117, 3) := by decide +kernel
theorem dX4_save_37 : decode cX4_save 37 = .ok (.ireturn, 1) := by decide +kernel
theorem dX4_restore_0 : decode cX4_restore 0 = .ok (.iload_n 1, 1) := by decide +kernel
theorem dX4_restore_1 : decode cX4_restore 1 = .ok (.invokestatic 162, 3) := by decide +kernel
theorem dX4_restore_4 : decode cX4_restore 4 = .ok (.ifCond .ne 6, 3) := by decide +kernel
theorem dX4_restore_7 : decode cX4_restore 7 = .ok (.bipush (-2), 2) := by decide +kernel
theorem dX4_restore_9 : decode cX4_restore 9 = .ok (.ireturn, 1) := by decide +kernel
theorem dX4_restore_10 : decode cX4_restore 10 = .ok (.aload_n 0, 1) := by decide +kernel
theorem dX4_restore_11 : decode cX4_restore 11 = .ok (.getfield 30, 3) := by decide +kernel
theorem dX4_restore_14 : decode cX4_restore 14 = .ok (.iload_n 1, 1) := by decide +kernel
theorem dX4_restore_15 : decode cX4_restore 15 = .ok (.baload, 1) := by decide +kernel
theorem dX4_restore_16 : decode cX4_restore 16 = .ok (.ifCond .ne 6, 3) := by decide +kernel
theorem dX4_restore_19 : decode cX4_restore 19 = .ok (.bipush (-5), 2) := by decide +kernel
theorem dX4_restore_21 : decode cX4_restore 21 = .ok (.ireturn, 1) := by decide +kernel
theorem dX4_restore_22 : decode cX4_restore 22 = .ok (.aload_n 0, 1) := by decide +kernel
theorem dX4_restore_23 : decode cX4_restore 23 = .ok (.getfield 22, 3) := by decide +kernel
theorem dX4_restore_26 : decode cX4_restore 26 = .ok (.aload_n 0, 1) := by decide +kernel
theorem dX4_restore_27 : decode cX4_restore 27 = .ok (.getfield 10, 3) := by decide +kernel
theorem dX4_restore_30 : decode cX4_restore 30 = .ok (.invokevirtual 56, 3) := by decide +kernel
theorem dX4_restore_33 : decode cX4_restore 33 = .ok (.aload_n 0, 1) := by decide +kernel
theorem dX4_restore_34 : decode cX4_restore 34 = .ok (.getfield 10, 3) := by decide +kernel
theorem dX4_restore_37 : decode cX4_restore 37 = .ok (.aload_n 0, 1) := by decide +kernel
theorem dX4_restore_38 : decode cX4_restore 38 = .ok (.getfield 26, 3) := by decide +kernel
theorem dX4_restore_41 : decode cX4_restore 41 = .ok (.iload_n 1, 1) := by decide +kernel
theorem dX4_restore_42 : decode cX4_restore 42 = .ok (.aaload, 1) := by decide +kernel
theorem dX4_restore_43 : decode cX4_restore 43 = .ok (.invokevirtual 135, 3) := by decide +kernel
theorem dX4_restore_46 : decode cX4_restore 46 = .ok (.aload_n 0, 1) := by decide +kernel
theorem dX4_restore_47 : decode cX4_restore 47 = .ok (.getfield 10, 3) := by decide +kernel
theorem dX4_restore_50 : decode cX4_restore 50 = .ok (.getfield 117, 3) := by decide +kernel
theorem dX4_restore_53 : decode cX4_restore 53 = .ok (.ireturn, 1) := by decide +kernel
