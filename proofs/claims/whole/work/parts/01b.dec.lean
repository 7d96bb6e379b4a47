theorem dX0_init_0 : decode cX0_init 0 = .ok (.aload_n 0, 1) := by decide +kernel
theorem dX0_init_1 : decode cX0_init 1 = .ok (.invokespecial 3, 3) := by decide +kernel
theorem dX0_init_4 : decode cX0_init 4 = .ok (.aload_n 0, 1) := by decide +kernel
theorem dX0_init_5 : decode cX0_init 5 = .ok (.bipush 6, 2) := by decide +kernel
theorem dX0_init_7 : decode cX0_init 7 = .ok (.anewarray 9, 3) := by decide +kernel
theorem dX0_init_10 : decode cX0_init 10 = .ok (.putfield 11, 3) := by decide +kernel
theorem dX0_init_13 : decode cX0_init 13 = .ok (.iconst 0, 1) := by decide +kernel
theorem dX0_init_14 : decode cX0_init 14 = .ok (.istore_n 1, 1) := by decide +kernel
theorem dX0_init_15 : decode cX0_init 15 = .ok (.iload_n 1, 1) := by decide +kernel
theorem dX0_init_16 : decode cX0_init 16 = .ok (.bipush 6, 2) := by decide +kernel
theorem dX0_init_18 : decode cX0_init 18 = .ok (.if_icmp .ge 22, 3) := by decide +kernel
theorem dX0_init_21 : decode cX0_init 21 = .ok (.aload_n 0, 1) := by decide +kernel
theorem dX0_init_22 : decode cX0_init 22 = .ok (.getfield 11, 3) := by decide +kernel
theorem dX0_init_25 : decode cX0_init 25 = .ok (.iload_n 1, 1) := by decide +kernel
theorem dX0_init_26 : decode cX0_init 26 = .ok (.new 9, 3) := by decide +kernel
theorem dX0_init_29 : decode cX0_init 29 = .ok (.dup, 1) := by decide +kernel
theorem dX0_init_30 : decode cX0_init 30 = .ok (.invokespecial 17, 3) := by decide +kernel
theorem dX0_init_33 : decode cX0_init 33 = .ok (.aastore, 1) := by decide +kernel
theorem dX0_init_34 : decode cX0_init 34 = .ok (.iinc 1 1, 3) := by decide +kernel
theorem dX0_init_37 : decode cX0_init 37 = .ok (.goto (-22), 3) := by decide +kernel
theorem dX0_init_40 : decode cX0_init 40 = .ok (.return_, 1) := by decide +kernel
theorem dX0_record_0 : decode cX0_record 0 = .ok (.aload_n 0, 1) := by decide +kernel
theorem dX0_record_1 : decode cX0_record 1 = .ok (.getfield 11, 3) := by decide +kernel
theorem dX0_record_4 : decode cX0_record 4 = .ok (.aload_n 0, 1) := by decide +kernel
theorem dX0_record_5 : decode cX0_record 5 = .ok (.getfield 18, 3) := by decide +kernel
theorem dX0_record_8 : decode cX0_record 8 = .ok (.aload_n 0, 1) := by decide +kernel
theorem dX0_record_9 : decode cX0_record 9 = .ok (.getfield 22, 3) := by decide +kernel
theorem dX0_record_12 : decode cX0_record 12 = .ok (.iadd, 1) := by decide +kernel
theorem dX0_record_13 : decode cX0_record 13 = .ok (.bipush 6, 2) := by decide +kernel
theorem dX0_record_15 : decode cX0_record 15 = .ok (.irem, 1) := by decide +kernel
theorem dX0_record_16 : decode cX0_record 16 = .ok (.aaload, 1) := by decide +kernel
theorem dX0_record_17 : decode cX0_record 17 = .ok (.aload_n 1, 1) := by decide +kernel
theorem dX0_record_18 : decode cX0_record 18 = .ok (.invokevirtual 25, 3) := by decide +kernel
theorem dX0_record_21 : decode cX0_record 21 = .ok (.aload_n 0, 1) := by decide +kernel
theorem dX0_record_22 : decode cX0_record 22 = .ok (.getfield 22, 3) := by decide +kernel
theorem dX0_record_25 : decode cX0_record 25 = .ok (.bipush 6, 2) := by decide +kernel
theorem dX0_record_27 : decode cX0_record 27 = .ok (.if_icmp .ge 16, 3) := by decide +kernel
theorem dX0_record_30 : decode cX0_record 30 = .ok (.aload_n 0, 1) := by decide +kernel
theorem dX0_record_31 : decode cX0_record 31 = .ok (.dup, 1) := by decide +kernel
theorem dX0_record_32 : decode cX0_record 32 = .ok (.getfield 22, 3) := by decide +kernel
theorem dX0_record_35 : decode cX0_record 35 = .ok (.iconst 1, 1) := by decide +kernel
theorem dX0_record_36 : decode cX0_record 36 = .ok (.iadd, 1) := by decide +kernel
theorem dX0_record_37 : decode cX0_record 37 = .ok (.putfield 22, 3) := by decide +kernel
theorem dX0_record_40 : decode cX0_record 40 = .ok (.goto 16, 3) := by decide +kernel
theorem dX0_record_43 : decode cX0_record 43 = .ok (.aload_n 0, 1) := by decide +kernel
theorem dX0_record_44 : decode cX0_record 44 = .ok (.aload_n 0, 1) := by decide +kernel
theorem dX0_record_45 : decode cX0_record 45 = .ok (.getfield 18, 3) := by decide +kernel
theorem dX0_record_48 : decode cX0_record 48 = .ok (.iconst 1, 1) := by decide +kernel
theorem dX0_record_49 : decode cX0_record 49 = .ok (.iadd, 1) := by decide +kernel
theorem dX0_record_50 : decode cX0_record 50 = .ok (.bipush 6, 2) := by decide +kernel
theorem dX0_record_52 : decode cX0_record 52 = .ok (.irem, 1) := by decide +kernel
theorem dX0_record_53 : decode cX0_record 53 = .ok (.putfield 18, 3) := by decide +kernel
theorem dX0_record_56 : decode cX0_record 56 = .ok (.return_, 1) := by decide +kernel
theorem dX0_takeBack_0 : decode cX0_takeBack 0 = .ok (.aload_n 0, 1) := by decide +kernel
theorem dX0_takeBack_1 : decode cX0_takeBack 1 = .ok (.getfield 22, 3) := by decide +kernel
theorem dX0_takeBack_4 : decode cX0_takeBack 4 = .ok (.ifCond .ne 4, 3) := by decide +kernel
theorem dX0_takeBack_7 : decode cX0_takeBack 7 = .ok (.return_, 1) := by decide +kernel
theorem dX0_takeBack_8 : decode cX0_takeBack 8 = .ok (.aload_n 0, 1) := by decide +kernel
theorem dX0_takeBack_9 : decode cX0_takeBack 9 = .ok (.dup, 1) := by decide +kernel
theorem dX0_takeBack_10 : decode cX0_takeBack 10 = .ok (.getfield 22, 3) := by decide +kernel
theorem dX0_takeBack_13 : decode cX0_takeBack 13 = .ok (.iconst 1, 1) := by decide +kernel
theorem dX0_takeBack_14 : decode cX0_takeBack 14 = .ok (.isub, 1) := by decide +kernel
theorem dX0_takeBack_15 : decode cX0_takeBack 15 = .ok (.putfield 22, 3) := by decide +kernel
theorem dX0_takeBack_18 : decode cX0_takeBack 18 = .ok (.aload_n 1, 1) := by decide +kernel
theorem dX0_takeBack_19 : decode cX0_takeBack 19 = .ok (.aload_n 0, 1) := by decide +kernel
theorem dX0_takeBack_20 : decode cX0_takeBack 20 = .ok (.getfield 11, 3) := by decide +kernel
theorem dX0_takeBack_23 : decode cX0_takeBack 23 = .ok (.aload_n 0, 1) := by decide +kernel
theorem dX0_takeBack_24 : decode cX0_takeBack 24 = .ok (.getfield 18, 3) := by decide +kernel
theorem dX0_takeBack_27 : decode cX0_takeBack 27 = .ok (.aload_n 0, 1) := by decide +kernel
theorem dX0_takeBack_28 : decode cX0_takeBack 28 = .ok (.getfield 22, 3) := by decide +kernel
theorem dX0_takeBack_31 : decode cX0_takeBack 31 = .ok (.iadd, 1) := by decide +kernel
theorem dX0_takeBack_32 : decode cX0_takeBack 32 = .ok (.bipush 6, 2) := by decide +kernel
theorem dX0_takeBack_34 : decode cX0_takeBack 34 = .ok (.irem, 1) := by decide +kernel
theorem dX0_takeBack_35 : decode cX0_takeBack 35 = .ok (.aaload, 1) := by decide +kernel
theorem dX0_takeBack_36 : decode cX0_takeBack 36 = .ok (.invokevirtual 25, 3) := by decide +kernel
theorem dX0_takeBack_39 : decode cX0_takeBack 39 = .ok (.return_, 1) := by decide +kernel
theorem dX1_init_0 : decode cX1_init 0 = .ok (.aload_n 0, 1) := by decide +kernel
theorem dX1_init_1 : decode cX1_init 1 = .ok (.invokespecial 3, 3) := by decide +kernel
theorem dX1_init_4 : decode cX1_init 4 = .ok (.aload_n 0, 1) := by decide +kernel
theorem dX1_init_5 : decode cX1_init 5 = .ok (.bipush 80, 2) := by decide +kernel
theorem dX1_init_7 : decode cX1_init 7 = .ok (.newarray .char, 2) := by decide +kernel
theorem dX1_init_9 : decode cX1_init 9 = .ok (.putfield 9, 3) := by decide +kernel
theorem dX1_init_12 : decode cX1_init 12 = .ok (.return_, 1) := by decide +kernel
theorem dX1_charactersIn_0 : decode cX1_charactersIn 0 = .ok (.lload_n 0, 1) := by decide +kernel
theorem dX1_charactersIn_1 : decode cX1_charactersIn 1 = .ok (.lstore_n 2, 1) := by decide +kernel
theorem dX1_charactersIn_2 : decode cX1_charactersIn 2 = .ok (.iconst 0, 1) := by decide +kernel
theorem dX1_charactersIn_3 : decode cX1_charactersIn 3 = .ok (.istore 4, 2) := by decide +kernel
theorem dX1_charactersIn_5 : decode cX1_charactersIn 5 = .ok (.iload 4, 2) := by decide +kernel
theorem dX1_charactersIn_7 : decode cX1_charactersIn 7 = .ok (.bipush 8, 2) := by decide +kernel
theorem dX1_charactersIn_9 : decode cX1_charactersIn 9 = .ok (.if_icmp .ge 51, 3) := by decide +kernel
theorem dX1_charactersIn_12 : decode cX1_charactersIn 12 = .ok (.lload_n 2, 1) := by decide +kernel
theorem dX1_charactersIn_13 : decode cX1_charactersIn 13 = .ok (.ldc2_w 15, 3) := by decide +kernel
theorem dX1_charactersIn_16 : decode cX1_charactersIn 16 = .ok (.land, 1) := by decide +kernel
theorem dX1_charactersIn_17 : decode cX1_charactersIn 17 = .ok (.lconst 0, 1) := by decide +kernel
theorem dX1_charactersIn_18 : decode cX1_charactersIn 18 = .ok (.lcmp, 1) := by decide +kernel
theorem dX1_charactersIn_19 : decode cX1_charactersIn 19 = .ok (.ifCond .eq 41, 3) := by decide +kernel
theorem dX1_charactersIn_22 : decode cX1_charactersIn 22 = .ok (.lload_n 2, 1) := by decide +kernel
theorem dX1_charactersIn_23 : decode cX1_charactersIn 23 = .ok (.ldc2_w 15, 3) := by decide +kernel
theorem dX1_charactersIn_26 : decode cX1_charactersIn 26 = .ok (.land, 1) := by decide +kernel
theorem dX1_charactersIn_27 : decode cX1_charactersIn 27 = .ok (.lstore 5, 2) := by decide +kernel
theorem dX1_charactersIn_29 : decode cX1_charactersIn 29 = .ok (.lload 5, 2) := by decide +kernel
theorem dX1_charactersIn_31 : decode cX1_charactersIn 31 = .ok (.ldc2_w 17, 3) := by decide +kernel
theorem dX1_charactersIn_34 : decode cX1_charactersIn 34 = .ok (.lcmp, 1) := by decide +kernel
theorem dX1_charactersIn_35 : decode cX1_charactersIn 35 = .ok (.ifCond .lt 12, 3) := by decide +kernel
theorem dX1_charactersIn_38 : decode cX1_charactersIn 38 = .ok (.lload 5, 2) := by decide +kernel
theorem dX1_charactersIn_40 : decode cX1_charactersIn 40 = .ok (.ldc2_w 19, 3) := by decide +kernel
theorem dX1_charactersIn_43 : decode cX1_charactersIn 43 = .ok (.lcmp, 1) := by decide +kernel
theorem dX1_charactersIn_44 : decode cX1_charactersIn 44 = .ok (.ifCond .le 5, 3) := by decide +kernel
theorem dX1_charactersIn_47 : decode cX1_charactersIn 47 = .ok (.iconst 0, 1) := by decide +kernel
theorem dX1_charactersIn_48 : decode cX1_charactersIn 48 = .ok (.ireturn, 1) := by decide +kernel
theorem dX1_charactersIn_49 : decode cX1_charactersIn 49 = .ok (.lload_n 2, 1) := by decide +kernel
theorem dX1_charactersIn_50 : decode cX1_charactersIn 50 = .ok (.bipush 8, 2) := by decide +kernel
theorem dX1_charactersIn_52 : decode cX1_charactersIn 52 = .ok (.lushr, 1) := by decide +kernel
theorem dX1_charactersIn_53 : decode cX1_charactersIn 53 = .ok (.lstore_n 2, 1) := by decide +kernel
theorem dX1_charactersIn_54 : decode cX1_charactersIn 54 = .ok (.iinc 4 1, 3) := by decide +kernel
theorem dX1_charactersIn_57 : decode cX1_charactersIn 57 = .ok (.goto (-52), 3) := by decide +kernel
theorem dX1_charactersIn_60 : decode cX1_charactersIn 60 = .ok (.lload_n 2, 1) := by decide +kernel
theorem dX1_charactersIn_61 : decode cX1_charactersIn 61 = .ok (.lconst 0, 1) := by decide +kernel
theorem dX1_charactersIn_62 : decode cX1_charactersIn 62 = .ok (.lcmp, 1) := by decide +kernel
theorem dX1_charactersIn_63 : decode cX1_charactersIn 63 = .ok (.ifCond .ne 8, 3) := by decide +kernel
theorem dX1_charactersIn_66 : decode cX1_charactersIn 66 = .ok (.iload 4, 2) := by decide +kernel
theorem dX1_charactersIn_68 : decode cX1_charactersIn 68 = .ok (.goto 4, 3) := by decide +kernel
theorem dX1_charactersIn_71 : decode cX1_charactersIn 71 = .ok (.iconst 0, 1) := by decide +kernel
theorem dX1_charactersIn_72 : decode cX1_charactersIn 72 = .ok (.ireturn, 1) := by decide +kernel
theorem dX1_append_0 : decode cX1_append 0 = .ok (.iload_n 3, 1) := by decide +kernel
theorem dX1_append_1 : decode cX1_append 1 = .ok (.iconst 1, 1) := by decide +kernel
theorem dX1_append_2 : decode cX1_append 2 = .ok (.isub, 1) := by decide +kernel
theorem dX1_append_3 : decode cX1_append 3 = .ok (.istore 4, 2) := by decide +kernel
theorem dX1_append_5 : decode cX1_append 5 = .ok (.iload 4, 2) := by decide +kernel
theorem dX1_append_7 : decode cX1_append 7 = .ok (.ifCond .lt 50, 3) := by decide +kernel
theorem dX1_append_10 : decode cX1_append 10 = .ok (.aload_n 0, 1) := by decide +kernel
theorem dX1_append_11 : decode cX1_append 11 = .ok (.getfield 21, 3) := by decide +kernel
theorem dX1_append_14 : decode cX1_append 14 = .ok (.bipush 80, 2) := by decide +kernel
theorem dX1_append_16 : decode cX1_append 16 = .ok (.if_icmp .ge 41, 3) := by decide +kernel
theorem dX1_append_19 : decode cX1_append 19 = .ok (.aload_n 0, 1) := by decide +kernel
theorem dX1_append_20 : decode cX1_append 20 = .ok (.getfield 9, 3) := by decide +kernel
theorem dX1_append_23 : decode cX1_append 23 = .ok (.aload_n 0, 1) := by decide +kernel
theorem dX1_append_24 : decode cX1_append 24 = .ok (.getfield 21, 3) := by decide +kernel
theorem dX1_append_27 : decode cX1_append 27 = .ok (.lload_n 1, 1) := by decide +kernel
theorem dX1_append_28 : decode cX1_append 28 = .ok (.bipush 8, 2) := by decide +kernel
theorem dX1_append_30 : decode cX1_append 30 = .ok (.iload 4, 2) := by decide +kernel
theorem dX1_append_32 : decode cX1_append 32 = .ok (.imul, 1) := by decide +kernel
theorem dX1_append_33 : decode cX1_append 33 = .ok (.lushr, 1) := by decide +kernel
theorem dX1_append_34 : decode cX1_append 34 = .ok (.ldc2_w 15, 3) := by decide +kernel
theorem dX1_append_37 : decode cX1_append 37 = .ok (.land, 1) := by decide +kernel
theorem dX1_append_38 : decode cX1_append 38 = .ok (.l2i, 1) := by decide +kernel
theorem dX1_append_39 : decode cX1_append 39 = .ok (.i2c, 1) := by decide +kernel
theorem dX1_append_40 : decode cX1_append 40 = .ok (.castore, 1) := by decide +kernel
theorem dX1_append_41 : decode cX1_append 41 = .ok (.aload_n 0, 1) := by decide +kernel
theorem dX1_append_42 : decode cX1_append 42 = .ok (.dup, 1) := by decide +kernel
theorem dX1_append_43 : decode cX1_append 43 = .ok (.getfield 21, 3) := by decide +kernel
theorem dX1_append_46 : decode cX1_append 46 = .ok (.iconst 1, 1) := by decide +kernel
theorem dX1_append_47 : decode cX1_append 47 = .ok (.iadd, 1) := by decide +kernel
theorem dX1_append_48 : decode cX1_append 48 = .ok (.putfield 21, 3) := by decide +kernel
theorem dX1_append_51 : decode cX1_append 51 = .ok (.iinc 4 (-1), 3) := by decide +kernel
theorem dX1_append_54 : decode cX1_append 54 = .ok (.goto (-49), 3) := by decide +kernel
theorem dX1_append_57 : decode cX1_append 57 = .ok (.return_, 1) := by decide +kernel
theorem dX1_charAt_0 : decode cX1_charAt 0 = .ok (.iload_n 1, 1) := by decide +kernel
theorem dX1_charAt_1 : decode cX1_charAt 1 = .ok (.ifCond .lt 26, 3) := by decide +kernel
theorem dX1_charAt_4 : decode cX1_charAt 4 = .ok (.iload_n 1, 1) := by decide +kernel
theorem dX1_charAt_5 : decode cX1_charAt 5 = .ok (.aload_n 0, 1) := by decide +kernel
theorem dX1_charAt_6 : decode cX1_charAt 6 = .ok (.getfield 21, 3) := by decide +kernel
theorem dX1_charAt_9 : decode cX1_charAt 9 = .ok (.if_icmp .ge 18, 3) := by decide +kernel
theorem dX1_charAt_12 : decode cX1_charAt 12 = .ok (.iload_n 1, 1) := by decide +kernel
theorem dX1_charAt_13 : decode cX1_charAt 13 = .ok (.bipush 80, 2) := by decide +kernel
theorem dX1_charAt_15 : decode cX1_charAt 15 = .ok (.if_icmp .ge 12, 3) := by decide +kernel
theorem dX1_charAt_18 : decode cX1_charAt 18 = .ok (.aload_n 0, 1) := by decide +kernel
theorem dX1_charAt_19 : decode cX1_charAt 19 = .ok (.getfield 9, 3) := by decide +kernel
theorem dX1_charAt_22 : decode cX1_charAt 22 = .ok (.iload_n 1, 1) := by decide +kernel
theorem dX1_charAt_23 : decode cX1_charAt 23 = .ok (.caload, 1) := by decide +kernel
theorem dX1_charAt_24 : decode cX1_charAt 24 = .ok (.goto 4, 3) := by decide +kernel
theorem dX1_charAt_27 : decode cX1_charAt 27 = .ok (.iconst 0, 1) := by decide +kernel
theorem dX1_charAt_28 : decode cX1_charAt 28 = .ok (.ireturn, 1) := by decide +kernel
theorem dX2_init_0 : decode cX2_init 0 = .ok (.aload_n 0, 1) := by decide +kernel
theorem dX2_init_1 : decode cX2_init 1 = .ok (.invokespecial 3, 3) := by decide +kernel
theorem dX2_init_4 : decode cX2_init 4 = .ok (.aload_n 0, 1) := by decide +kernel
theorem dX2_init_5 : decode cX2_init 5 = .ok (.bipush 100, 2) := by decide +kernel
theorem dX2_init_7 : decode cX2_init 7 = .ok (.newarray .int, 2) := by decide +kernel
theorem dX2_init_9 : decode cX2_init 9 = .ok (.putfield 9, 3) := by decide +kernel
theorem dX2_init_12 : decode cX2_init 12 = .ok (.aload_n 0, 1) := by decide +kernel
theorem dX2_init_13 : decode cX2_init 13 = .ok (.bipush 12, 2) := by decide +kernel
theorem dX2_init_15 : decode cX2_init 15 = .ok (.newarray .int, 2) := by decide +kernel
theorem dX2_init_17 : decode cX2_init 17 = .ok (.putfield 15, 3) := by decide +kernel
theorem dX2_init_20 : decode cX2_init 20 = .ok (.return_, 1) := by decide +kernel
theorem dX2_follow_0 : decode cX2_follow 0 = .ok (.aload_n 2, 1) := by decide +kernel
theorem dX2_follow_1 : decode cX2_follow 1 = .ok (.iconst 0, 1) := by decide +kernel
theorem dX2_follow_2 : decode cX2_follow 2 = .ok (.aload_n 0, 1) := by decide +kernel
theorem dX2_follow_3 : decode cX2_follow 3 = .ok (.getfield 15, 3) := by decide +kernel
theorem dX2_follow_6 : decode cX2_follow 6 = .ok (.iconst 0, 1) := by decide +kernel
theorem dX2_follow_7 : decode cX2_follow 7 = .ok (.bipush 12, 2) := by decide +kernel
theorem dX2_follow_9 : decode cX2_follow 9 = .ok (.invokestatic 18, 3) := by decide +kernel
theorem dX2_follow_12 : decode cX2_follow 12 = .ok (.aload_n 0, 1) := by decide +kernel
theorem dX2_follow_13 : decode cX2_follow 13 = .ok (.iconst 0, 1) := by decide +kernel
theorem dX2_follow_14 : decode cX2_follow 14 = .ok (.putfield 24, 3) := by decide +kernel
theorem dX2_follow_17 : decode cX2_follow 17 = .ok (.iconst 0, 1) := by decide +kernel
theorem dX2_follow_18 : decode cX2_follow 18 = .ok (.istore_n 3, 1) := by decide +kernel
theorem dX2_follow_19 : decode cX2_follow 19 = .ok (.aload_n 0, 1) := by decide +kernel
theorem dX2_follow_20 : decode cX2_follow 20 = .ok (.getfield 24, 3) := by decide +kernel
theorem dX2_follow_23 : decode cX2_follow 23 = .ok (.bipush 100, 2) := by decide +kernel
theorem dX2_follow_25 : decode cX2_follow 25 = .ok (.if_icmp .ge 41, 3) := by decide +kernel
theorem dX2_follow_28 : decode cX2_follow 28 = .ok (.iload_n 3, 1) := by decide +kernel
theorem dX2_follow_29 : decode cX2_follow 29 = .ok (.aload_n 1, 1) := by decide +kernel
theorem dX2_follow_30 : decode cX2_follow 30 = .ok (.getfield 28, 3) := by decide +kernel
theorem dX2_follow_33 : decode cX2_follow 33 = .ok (.if_icmp .ge 33, 3) := by decide +kernel
theorem dX2_follow_36 : decode cX2_follow 36 = .ok (.aload_n 0, 1) := by decide +kernel
theorem dX2_follow_37 : decode cX2_follow 37 = .ok (.getfield 9, 3) := by decide +kernel
theorem dX2_follow_40 : decode cX2_follow 40 = .ok (.aload_n 0, 1) := by decide +kernel
theorem dX2_follow_41 : decode cX2_follow 41 = .ok (.getfield 24, 3) := by decide +kernel
theorem dX2_follow_44 : decode cX2_follow 44 = .ok (.iload_n 3, 1) := by decide +kernel
theorem dX2_follow_45 : decode cX2_follow 45 = .ok (.iastore, 1) := by decide +kernel
theorem dX2_follow_46 : decode cX2_follow 46 = .ok (.aload_n 0, 1) := by decide +kernel
theorem dX2_follow_47 : decode cX2_follow 47 = .ok (.dup, 1) := by decide +kernel
theorem dX2_follow_48 : decode cX2_follow 48 = .ok (.getfield 24, 3) := by decide +kernel
theorem dX2_follow_51 : decode cX2_follow 51 = .ok (.iconst 1, 1) := by decide +kernel
theorem dX2_follow_52 : decode cX2_follow 52 = .ok (.iadd, 1) := by decide +kernel
theorem dX2_follow_53 : decode cX2_follow 53 = .ok (.putfield 24, 3) := by decide +kernel
theorem dX2_follow_56 : decode cX2_follow 56 = .ok (.aload_n 0, 1) := by decide +kernel
theorem dX2_follow_57 : decode cX2_follow 57 = .ok (.aload_n 1, 1) := by decide +kernel
theorem dX2_follow_58 : decode cX2_follow 58 = .ok (.iload_n 3, 1) := by decide +kernel
theorem dX2_follow_59 : decode cX2_follow 59 = .ok (.invokevirtual 33, 3) := by decide +kernel
theorem dX2_follow_62 : decode cX2_follow 62 = .ok (.istore_n 3, 1) := by decide +kernel
theorem dX2_follow_63 : decode cX2_follow 63 = .ok (.goto (-44), 3) := by decide +kernel
theorem dX2_follow_66 : decode cX2_follow 66 = .ok (.aload_n 0, 1) := by decide +kernel
theorem dX2_follow_67 : decode cX2_follow 67 = .ok (.iload_n 3, 1) := by decide +kernel
theorem dX2_follow_68 : decode cX2_follow 68 = .ok (.aload_n 1, 1) := by decide +kernel
theorem dX2_follow_69 : decode cX2_follow 69 = .ok (.getfield 28, 3) := by decide +kernel
theorem dX2_follow_72 : decode cX2_follow 72 = .ok (.if_icmp .ge 7, 3) := by decide +kernel
theorem dX2_follow_75 : decode cX2_follow 75 = .ok (.iconst 1, 1) := by decide +kernel
theorem dX2_follow_76 : decode cX2_follow 76 = .ok (.goto 4, 3) := by decide +kernel
theorem dX2_follow_79 : decode cX2_follow 79 = .ok (.iconst 0, 1) := by decide +kernel
theorem dX2_follow_80 : decode cX2_follow 80 = .ok (.putfield 37, 3) := by decide +kernel
theorem dX2_follow_83 : decode cX2_follow 83 = .ok (.return_, 1) := by decide +kernel
theorem dX2_sameValues_0 : decode cX2_sameValues 0 = .ok (.iconst 0, 1) := by decide +kernel
theorem dX2_sameValues_1 : decode cX2_sameValues 1 = .ok (.istore_n 2, 1) := by decide +kernel
theorem dX2_sameValues_2 : decode cX2_sameValues 2 = .ok (.iload_n 2, 1) := by decide +kernel
theorem dX2_sameValues_3 : decode cX2_sameValues 3 = .ok (.bipush 12, 2) := by decide +kernel
theorem dX2_sameValues_5 : decode cX2_sameValues 5 = .ok (.if_icmp .ge 26, 3) := by decide +kernel
theorem dX2_sameValues_8 : decode cX2_sameValues 8 = .ok (.aload_n 0, 1) := by decide +kernel
theorem dX2_sameValues_9 : decode cX2_sameValues 9 = .ok (.getfield 15, 3) := by decide +kernel
theorem dX2_sameValues_12 : decode cX2_sameValues 12 = .ok (.iload_n 2, 1) := by decide +kernel
theorem dX2_sameValues_13 : decode cX2_sameValues 13 = .ok (.iaload, 1) := by decide +kernel
theorem dX2_sameValues_14 : decode cX2_sameValues 14 = .ok (.aload_n 1, 1) := by decide +kernel
theorem dX2_sameValues_15 : decode cX2_sameValues 15 = .ok (.getfield 15, 3) := by decide +kernel
theorem dX2_sameValues_18 : decode cX2_sameValues 18 = .ok (.iload_n 2, 1) := by decide +kernel
theorem dX2_sameValues_19 : decode cX2_sameValues 19 = .ok (.iaload, 1) := by decide +kernel
theorem dX2_sameValues_20 : decode cX2_sameValues 20 = .ok (.if_icmp .eq 5, 3) := by decide +kernel
theorem dX2_sameValues_23 : decode cX2_sameValues 23 = .ok (.iconst 0, 1) := by decide +kernel
theorem dX2_sameValues_24 : decode cX2_sameValues 24 = .ok (.ireturn, 1) := by decide +kernel
theorem dX2_sameValues_25 : decode cX2_sameValues 25 = .ok (.iinc 2 1, 3) := by decide +kernel
theorem dX2_sameValues_28 : decode cX2_sameValues 28 = .ok (.goto (-26), 3) := by decide +kernel
theorem dX2_sameValues_31 : decode cX2_sameValues 31 = .ok (.iconst 1, 1) := by decide +kernel
theorem dX2_sameValues_32 : decode cX2_sameValues 32 = .ok (.ireturn, 1) := by decide +kernel
theorem dX2_stepOver_0 : decode cX2_stepOver 0 = .ok (.aload_n 1, 1) := by decide +kernel
theorem dX2_stepOver_1 : decode cX2_stepOver 1 = .ok (.iload_n 2, 1) := by decide +kernel
theorem dX2_stepOver_2 : decode cX2_stepOver 2 = .ok (.iconst 1, 1) := by decide +kernel
theorem dX2_stepOver_3 : decode cX2_stepOver 3 = .ok (.invokevirtual 41, 3) := by decide +kernel
theorem dX2_stepOver_6 : decode cX2_stepOver 6 = .ok (.istore_n 3, 1) := by decide +kernel
theorem dX2_stepOver_7 : decode cX2_stepOver 7 = .ok (.aload_n 0, 1) := by decide +kernel
theorem dX2_stepOver_8 : decode cX2_stepOver 8 = .ok (.aload_n 1, 1) := by decide +kernel
theorem dX2_stepOver_9 : decode cX2_stepOver 9 = .ok (.iload_n 2, 1) := by decide +kernel
theorem dX2_stepOver_10 : decode cX2_stepOver 10 = .ok (.iconst 2, 1) := by decide +kernel
theorem dX2_stepOver_11 : decode cX2_stepOver 11 = .ok (.invokevirtual 41, 3) := by decide +kernel
theorem dX2_stepOver_14 : decode cX2_stepOver 14 = .ok (.invokevirtual 45, 3) := by decide +kernel
theorem dX2_stepOver_17 : decode cX2_stepOver 17 = .ok (.istore 4, 2) := by decide +kernel
theorem dX2_stepOver_19 : decode cX2_stepOver 19 = .ok (.aload_n 0, 1) := by decide +kernel
theorem dX2_stepOver_20 : decode cX2_stepOver 20 = .ok (.aload_n 1, 1) := by decide +kernel
theorem dX2_stepOver_21 : decode cX2_stepOver 21 = .ok (.iload_n 2, 1) := by decide +kernel
theorem dX2_stepOver_22 : decode cX2_stepOver 22 = .ok (.iconst 3, 1) := by decide +kernel
theorem dX2_stepOver_23 : decode cX2_stepOver 23 = .ok (.invokevirtual 41, 3) := by decide +kernel
theorem dX2_stepOver_26 : decode cX2_stepOver 26 = .ok (.invokevirtual 45, 3) := by decide +kernel
theorem dX2_stepOver_29 : decode cX2_stepOver 29 = .ok (.istore 5, 2) := by decide +kernel
theorem dX2_stepOver_31 : decode cX2_stepOver 31 = .ok (.aload_n 1, 1) := by decide +kernel
theorem dX2_stepOver_32 : decode cX2_stepOver 32 = .ok (.iload_n 2, 1) := by decide +kernel
theorem dX2_stepOver_33 : decode cX2_stepOver 33 = .ok (.iconst 4, 1) := by decide +kernel
theorem dX2_stepOver_34 : decode cX2_stepOver 34 = .ok (.invokevirtual 41, 3) := by decide +kernel
theorem dX2_stepOver_37 : decode cX2_stepOver 37 = .ok (.istore 6, 2) := by decide +kernel
theorem dX2_stepOver_39 : decode cX2_stepOver 39 = .ok (.aload_n 1, 1) := by decide +kernel
theorem dX2_stepOver_40 : decode cX2_stepOver 40 = .ok (.iload_n 2, 1) := by decide +kernel
theorem dX2_stepOver_41 : decode cX2_stepOver 41 = .ok (.iconst 0, 1) := by decide +kernel
theorem dX2_stepOver_42 : decode cX2_stepOver 42 = .ok (.invokevirtual 41, 3) := by decide +kernel
theorem dX2_stepOver_45 : decode cX2_stepOver 45 = .ok (.tableswitch 145 0 6 #[43, 53, 66, 79, 92, 110, 128], 43) := by decide +kernel
theorem dX2_stepOver_88 : decode cX2_stepOver 88 = .ok (.aload_n 0, 1) := by decide +kernel
theorem dX2_stepOver_89 : decode cX2_stepOver 89 = .ok (.iload_n 3, 1) := by decide +kernel
theorem dX2_stepOver_90 : decode cX2_stepOver 90 = .ok (.iload 6, 2) := by decide +kernel
theorem dX2_stepOver_92 : decode cX2_stepOver 92 = .ok (.invokevirtual 49, 3) := by decide +kernel
theorem dX2_stepOver_95 : decode cX2_stepOver 95 = .ok (.goto 95, 3) := by decide +kernel
theorem dX2_stepOver_98 : decode cX2_stepOver 98 = .ok (.aload_n 0, 1) := by decide +kernel
theorem dX2_stepOver_99 : decode cX2_stepOver 99 = .ok (.iload_n 3, 1) := by decide +kernel
theorem dX2_stepOver_100 : decode cX2_stepOver 100 = .ok (.iload 4, 2) := by decide +kernel
theorem dX2_stepOver_102 : decode cX2_stepOver 102 = .ok (.iload 5, 2) := by decide +kernel
theorem dX2_stepOver_104 : decode cX2_stepOver 104 = .ok (.iadd, 1) := by decide +kernel
theorem dX2_stepOver_105 : decode cX2_stepOver 105 = .ok (.invokevirtual 49, 3) := by decide +kernel
theorem dX2_stepOver_108 : decode cX2_stepOver 108 = .ok (.goto 82, 3) := by decide +kernel
theorem dX2_stepOver_111 : decode cX2_stepOver 111 = .ok (.aload_n 0, 1) := by decide +kernel
theorem dX2_stepOver_112 : decode cX2_stepOver 112 = .ok (.iload_n 3, 1) := by decide +kernel
theorem dX2_stepOver_113 : decode cX2_stepOver 113 = .ok (.iload 4, 2) := by decide +kernel
theorem dX2_stepOver_115 : decode cX2_stepOver 115 = .ok (.iload 5, 2) := by decide +kernel
theorem dX2_stepOver_117 : decode cX2_stepOver 117 = .ok (.isub, 1) := by decide +kernel
theorem dX2_stepOver_118 : decode cX2_stepOver 118 = .ok (.invokevirtual 49, 3) := by decide +kernel
theorem dX2_stepOver_121 : decode cX2_stepOver 121 = .ok (.goto 69, 3) := by decide +kernel
theorem dX2_stepOver_124 : decode cX2_stepOver 124 = .ok (.aload_n 0, 1) := by decide +kernel
theorem dX2_stepOver_125 : decode cX2_stepOver 125 = .ok (.iload_n 3, 1) := by decide +kernel
theorem dX2_stepOver_126 : decode cX2_stepOver 126 = .ok (.iload 4, 2) := by decide +kernel
theorem dX2_stepOver_128 : decode cX2_stepOver 128 = .ok (.iload 5, 2) := by decide +kernel
theorem dX2_stepOver_130 : decode cX2_stepOver 130 = .ok (.imul, 1) := by decide +kernel
theorem dX2_stepOver_131 : decode cX2_stepOver 131 = .ok (.invokevirtual 49, 3) := by decide +kernel
theorem dX2_stepOver_134 : decode cX2_stepOver 134 = .ok (.goto 56, 3) := by decide +kernel
theorem dX2_stepOver_137 : decode cX2_stepOver 137 = .ok (.aload_n 0, 1) := by decide +kernel
theorem dX2_stepOver_138 : decode cX2_stepOver 138 = .ok (.iload_n 3, 1) := by decide +kernel
theorem dX2_stepOver_139 : decode cX2_stepOver 139 = .ok (.aload_n 0, 1) := by decide +kernel
theorem dX2_stepOver_140 : decode cX2_stepOver 140 = .ok (.getfield 15, 3) := by decide +kernel
theorem dX2_stepOver_143 : decode cX2_stepOver 143 = .ok (.iload 4, 2) := by decide +kernel
theorem dX2_stepOver_145 : decode cX2_stepOver 145 = .ok (.invokestatic 53, 3) := by decide +kernel
theorem dX2_stepOver_148 : decode cX2_stepOver 148 = .ok (.iaload, 1) := by decide +kernel
theorem dX2_stepOver_149 : decode cX2_stepOver 149 = .ok (.invokevirtual 49, 3) := by decide +kernel
theorem dX2_stepOver_152 : decode cX2_stepOver 152 = .ok (.goto 38, 3) := by decide +kernel
theorem dX2_stepOver_155 : decode cX2_stepOver 155 = .ok (.aload_n 0, 1) := by decide +kernel
theorem dX2_stepOver_156 : decode cX2_stepOver 156 = .ok (.getfield 15, 3) := by decide +kernel
theorem dX2_stepOver_159 : decode cX2_stepOver 159 = .ok (.aload_n 0, 1) := by decide +kernel
theorem dX2_stepOver_160 : decode cX2_stepOver 160 = .ok (.iload_n 3, 1) := by decide +kernel
theorem dX2_stepOver_161 : decode cX2_stepOver 161 = .ok (.invokevirtual 45, 3) := by decide +kernel
theorem dX2_stepOver_164 : decode cX2_stepOver 164 = .ok (.invokestatic 53, 3) := by decide +kernel
theorem dX2_stepOver_167 : decode cX2_stepOver 167 = .ok (.iload 4, 2) := by decide +kernel
theorem dX2_stepOver_169 : decode cX2_stepOver 169 = .ok (.iastore, 1) := by decide +kernel
theorem dX2_stepOver_170 : decode cX2_stepOver 170 = .ok (.goto 20, 3) := by decide +kernel
theorem dX2_stepOver_173 : decode cX2_stepOver 173 = .ok (.aload_n 0, 1) := by decide +kernel
theorem dX2_stepOver_174 : decode cX2_stepOver 174 = .ok (.iload_n 3, 1) := by decide +kernel
theorem dX2_stepOver_175 : decode cX2_stepOver 175 = .ok (.invokevirtual 45, 3) := by decide +kernel
theorem dX2_stepOver_178 : decode cX2_stepOver 178 = .ok (.ifCond .eq 8, 3) := by decide +kernel
theorem dX2_stepOver_181 : decode cX2_stepOver 181 = .ok (.iload 6, 2) := by decide +kernel
theorem dX2_stepOver_183 : decode cX2_stepOver 183 = .ok (.goto 6, 3) := by decide +kernel
theorem dX2_stepOver_186 : decode cX2_stepOver 186 = .ok (.iload_n 2, 1) := by decide +kernel
theorem dX2_stepOver_187 : decode cX2_stepOver 187 = .ok (.iconst 1, 1) := by decide +kernel
theorem dX2_stepOver_188 : decode cX2_stepOver 188 = .ok (.iadd, 1) := by decide +kernel
theorem dX2_stepOver_189 : decode cX2_stepOver 189 = .ok (.ireturn, 1) := by decide +kernel
theorem dX2_stepOver_190 : decode cX2_stepOver 190 = .ok (.iload_n 2, 1) := by decide +kernel
theorem dX2_stepOver_191 : decode cX2_stepOver 191 = .ok (.iconst 1, 1) := by decide +kernel
theorem dX2_stepOver_192 : decode cX2_stepOver 192 = .ok (.iadd, 1) := by decide +kernel
theorem dX2_stepOver_193 : decode cX2_stepOver 193 = .ok (.ireturn, 1) := by decide +kernel
theorem dX2_valueOf_0 : decode cX2_valueOf 0 = .ok (.iload_n 1, 1) := by decide +kernel
theorem dX2_valueOf_1 : decode cX2_valueOf 1 = .ok (.ifCond .lt 17, 3) := by decide +kernel
theorem dX2_valueOf_4 : decode cX2_valueOf 4 = .ok (.iload_n 1, 1) := by decide +kernel
theorem dX2_valueOf_5 : decode cX2_valueOf 5 = .ok (.iconst 4, 1) := by decide +kernel
theorem dX2_valueOf_6 : decode cX2_valueOf 6 = .ok (.if_icmp .ge 12, 3) := by decide +kernel
theorem dX2_valueOf_9 : decode cX2_valueOf 9 = .ok (.aload_n 0, 1) := by decide +kernel
theorem dX2_valueOf_10 : decode cX2_valueOf 10 = .ok (.getfield 15, 3) := by decide +kernel
theorem dX2_valueOf_13 : decode cX2_valueOf 13 = .ok (.iload_n 1, 1) := by decide +kernel
theorem dX2_valueOf_14 : decode cX2_valueOf 14 = .ok (.iaload, 1) := by decide +kernel
theorem dX2_valueOf_15 : decode cX2_valueOf 15 = .ok (.goto 4, 3) := by decide +kernel
theorem dX2_valueOf_18 : decode cX2_valueOf 18 = .ok (.iconst 0, 1) := by decide +kernel
theorem dX2_valueOf_19 : decode cX2_valueOf 19 = .ok (.ireturn, 1) := by decide +kernel
theorem dX2_give_0 : decode cX2_give 0 = .ok (.iload_n 1, 1) := by decide +kernel
theorem dX2_give_1 : decode cX2_give 1 = .ok (.ifCond .lt 21, 3) := by decide +kernel
theorem dX2_give_4 : decode cX2_give 4 = .ok (.iload_n 1, 1) := by decide +kernel
theorem dX2_give_5 : decode cX2_give 5 = .ok (.iconst 4, 1) := by decide +kernel
theorem dX2_give_6 : decode cX2_give 6 = .ok (.if_icmp .ge 16, 3) := by decide +kernel
theorem dX2_give_9 : decode cX2_give 9 = .ok (.aload_n 0, 1) := by decide +kernel
theorem dX2_give_10 : decode cX2_give 10 = .ok (.getfield 15, 3) := by decide +kernel
theorem dX2_give_13 : decode cX2_give 13 = .ok (.iload_n 1, 1) := by decide +kernel
theorem dX2_give_14 : decode cX2_give 14 = .ok (.iload_n 2, 1) := by decide +kernel
theorem dX2_give_15 : decode cX2_give 15 = .ok (.sipush 1000, 3) := by decide +kernel
theorem dX2_give_18 : decode cX2_give 18 = .ok (.invokestatic 56, 3) := by decide +kernel
theorem dX2_give_21 : decode cX2_give 21 = .ok (.iastore, 1) := by decide +kernel
theorem dX2_give_22 : decode cX2_give 22 = .ok (.return_, 1) := by decide +kernel
theorem dX2_placeOfCell_0 : decode cX2_placeOfCell 0 = .ok (.iconst 4, 1) := by decide +kernel
theorem dX2_placeOfCell_1 : decode cX2_placeOfCell 1 = .ok (.iload_n 0, 1) := by decide +kernel
theorem dX2_placeOfCell_2 : decode cX2_placeOfCell 2 = .ok (.bipush 8, 2) := by decide +kernel
theorem dX2_placeOfCell_4 : decode cX2_placeOfCell 4 = .ok (.invokestatic 56, 3) := by decide +kernel
theorem dX2_placeOfCell_7 : decode cX2_placeOfCell 7 = .ok (.iadd, 1) := by decide +kernel
theorem dX2_placeOfCell_8 : decode cX2_placeOfCell 8 = .ok (.ireturn, 1) := by decide +kernel
theorem dX3_init_0 : decode cX3_init 0 = .ok (.aload_n 0, 1) := by decide +kernel
theorem dX3_init_1 : decode cX3_init 1 = .ok (.invokespecial 3, 3) := by decide +kernel
theorem dX3_init_4 : decode cX3_init 4 = .ok (.aload_n 0, 1) := by decide +kernel
theorem dX3_init_5 : decode cX3_init 5 = .ok (.bipush 60, 2) := by decide +kernel
theorem dX3_init_7 : decode cX3_init 7 = .ok (.newarray .int, 2) := by decide +kernel
theorem dX3_init_9 : decode cX3_init 9 = .ok (.putfield 9, 3) := by decide +kernel
theorem dX3_init_12 : decode cX3_init 12 = .ok (.return_, 1) := by decide +kernel
theorem dX3_told_0 : decode cX3_told 0 = .ok (.iload_n 1, 1) := by decide +kernel
theorem dX3_told_1 : decode cX3_told 1 = .ok (.ifCond .lt 20, 3) := by decide +kernel
theorem dX3_told_4 : decode cX3_told 4 = .ok (.iload_n 1, 1) := by decide +kernel
theorem dX3_told_5 : decode cX3_told 5 = .ok (.aload_n 0, 1) := by decide +kernel
theorem dX3_told_6 : decode cX3_told 6 = .ok (.getfield 15, 3) := by decide +kernel
theorem dX3_told_9 : decode cX3_told 9 = .ok (.if_icmp .ge 12, 3) := by decide +kernel
theorem dX3_told_12 : decode cX3_told 12 = .ok (.iload_n 2, 1) := by decide +kernel
theorem dX3_told_13 : decode cX3_told 13 = .ok (.ifCond .lt 8, 3) := by decide +kernel
theorem dX3_told_16 : decode cX3_told 16 = .ok (.iload_n 2, 1) := by decide +kernel
theorem dX3_told_17 : decode cX3_told 17 = .ok (.iconst 5, 1) := by decide +kernel
theorem dX3_told_18 : decode cX3_told 18 = .ok (.if_icmp .lt 6, 3) := by decide +kernel
theorem dX3_told_21 : decode cX3_told 21 = .ok (.bipush (-6), 2) := by decide +kernel
theorem dX3_told_23 : decode cX3_told 23 = .ok (.ireturn, 1) := by decide +kernel
theorem dX3_told_24 : decode cX3_told 24 = .ok (.aload_n 0, 1) := by decide +kernel
theorem dX3_told_25 : decode cX3_told 25 = .ok (.getfield 9, 3) := by decide +kernel
theorem dX3_told_28 : decode cX3_told 28 = .ok (.iload_n 1, 1) := by decide +kernel
theorem dX3_told_29 : decode cX3_told 29 = .ok (.iconst 5, 1) := by decide +kernel
theorem dX3_told_30 : decode cX3_told 30 = .ok (.imul, 1) := by decide +kernel
theorem dX3_told_31 : decode cX3_told 31 = .ok (.iload_n 2, 1) := by decide +kernel
theorem dX3_told_32 : decode cX3_told 32 = .ok (.iadd, 1) := by decide +kernel
theorem dX3_told_33 : decode cX3_told 33 = .ok (.iaload, 1) := by decide +kernel
theorem dX3_told_34 : decode cX3_told 34 = .ok (.ireturn, 1) := by decide +kernel
theorem dX3_add_0 : decode cX3_add 0 = .ok (.aload_n 0, 1) := by decide +kernel
theorem dX3_add_1 : decode cX3_add 1 = .ok (.getfield 15, 3) := by decide +kernel
theorem dX3_add_4 : decode cX3_add 4 = .ok (.ifCond .lt 12, 3) := by decide +kernel
theorem dX3_add_7 : decode cX3_add 7 = .ok (.aload_n 0, 1) := by decide +kernel
theorem dX3_add_8 : decode cX3_add 8 = .ok (.getfield 15, 3) := by decide +kernel
theorem dX3_add_11 : decode cX3_add 11 = .ok (.bipush 12, 2) := by decide +kernel
theorem dX3_add_13 : decode cX3_add 13 = .ok (.if_icmp .lt 4, 3) := by decide +kernel
theorem dX3_add_16 : decode cX3_add 16 = .ok (.return_, 1) := by decide +kernel
theorem dX3_add_17 : decode cX3_add 17 = .ok (.aload_n 0, 1) := by decide +kernel
theorem dX3_add_18 : decode cX3_add 18 = .ok (.getfield 15, 3) := by decide +kernel
theorem dX3_add_21 : decode cX3_add 21 = .ok (.iconst 5, 1) := by decide +kernel
theorem dX3_add_22 : decode cX3_add 22 = .ok (.imul, 1) := by decide +kernel
theorem dX3_add_23 : decode cX3_add 23 = .ok (.istore 6, 2) := by decide +kernel
theorem dX3_add_25 : decode cX3_add 25 = .ok (.aload_n 0, 1) := by decide +kernel
theorem dX3_add_26 : decode cX3_add 26 = .ok (.getfield 9, 3) := by decide +kernel
theorem dX3_add_29 : decode cX3_add 29 = .ok (.iload 6, 2) := by decide +kernel
theorem dX3_add_31 : decode cX3_add 31 = .ok (.iconst 0, 1) := by decide +kernel
theorem dX3_add_32 : decode cX3_add 32 = .ok (.iadd, 1) := by decide +kernel
theorem dX3_add_33 : decode cX3_add 33 = .ok (.iload_n 1, 1) := by decide +kernel
theorem dX3_add_34 : decode cX3_add 34 = .ok (.iastore, 1) := by decide +kernel
theorem dX3_add_35 : decode cX3_add 35 = .ok (.aload_n 0, 1) := by decide +kernel
theorem dX3_add_36 : decode cX3_add 36 = .ok (.getfield 9, 3) := by decide +kernel
theorem dX3_add_39 : decode cX3_add 39 = .ok (.iload 6, 2) := by decide +kernel
theorem dX3_add_41 : decode cX3_add 41 = .ok (.iconst 1, 1) := by decide +kernel
theorem dX3_add_42 : decode cX3_add 42 = .ok (.iadd, 1) := by decide +kernel
theorem dX3_add_43 : decode cX3_add 43 = .ok (.iload_n 2, 1) := by decide +kernel
theorem dX3_add_44 : decode cX3_add 44 = .ok (.iastore, 1) := by decide +kernel
theorem dX3_add_45 : decode cX3_add 45 = .ok (.aload_n 0, 1) := by decide +kernel
theorem dX3_add_46 : decode cX3_add 46 = .ok (.getfield 9, 3) := by decide +kernel
theorem dX3_add_49 : decode cX3_add 49 = .ok (.iload 6, 2) := by decide +kernel
theorem dX3_add_51 : decode cX3_add 51 = .ok (.iconst 2, 1) := by decide +kernel
theorem dX3_add_52 : decode cX3_add 52 = .ok (.iadd, 1) := by decide +kernel
theorem dX3_add_53 : decode cX3_add 53 = .ok (.iload_n 3, 1) := by decide +kernel
theorem dX3_add_54 : decode cX3_add 54 = .ok (.iastore, 1) := by decide +kernel
theorem dX3_add_55 : decode cX3_add 55 = .ok (.aload_n 0, 1) := by decide +kernel
theorem dX3_add_56 : decode cX3_add 56 = .ok (.getfield 9, 3) := by decide +kernel
theorem dX3_add_59 : decode cX3_add 59 = .ok (.iload 6, 2) := by decide +kernel
theorem dX3_add_61 : decode cX3_add 61 = .ok (.iconst 3, 1) := by decide +kernel
theorem dX3_add_62 : decode cX3_add 62 = .ok (.iadd, 1) := by decide +kernel
theorem dX3_add_63 : decode cX3_add 63 = .ok (.iload 4, 2) := by decide +kernel
theorem dX3_add_65 : decode cX3_add 65 = .ok (.iastore, 1) := by decide +kernel
theorem dX3_add_66 : decode cX3_add 66 = .ok (.aload_n 0, 1) := by decide +kernel
theorem dX3_add_67 : decode cX3_add 67 = .ok (.getfield 9, 3) := by decide +kernel
theorem dX3_add_70 : decode cX3_add 70 = .ok (.iload 6, 2) := by decide +kernel
theorem dX3_add_72 : decode cX3_add 72 = .ok (.iconst 4, 1) := by decide +kernel
theorem dX3_add_73 : decode cX3_add 73 = .ok (.iadd, 1) := by decide +kernel
theorem dX3_add_74 : decode cX3_add 74 = .ok (.iload 5, 2) := by decide +kernel
theorem dX3_add_76 : decode cX3_add 76 = .ok (.iastore, 1) := by decide +kernel
theorem dX3_add_77 : decode cX3_add 77 = .ok (.aload_n 0, 1) := by decide +kernel
theorem dX3_add_78 : decode cX3_add 78 = .ok (.dup, 1) := by decide +kernel
theorem dX3_add_79 : decode cX3_add 79 = .ok (.getfield 15, 3) := by decide +kernel
theorem dX3_add_82 : decode cX3_add 82 = .ok (.iconst 1, 1) := by decide +kernel
theorem dX3_add_83 : decode cX3_add 83 = .ok (.iadd, 1) := by decide +kernel
theorem dX3_add_84 : decode cX3_add 84 = .ok (.putfield 15, 3) := by decide +kernel
theorem dX3_add_87 : decode cX3_add 87 = .ok (.return_, 1) := by decide +kernel
theorem dX3_copyFrom_0 : decode cX3_copyFrom 0 = .ok (.aload_n 0, 1) := by decide +kernel
theorem dX3_copyFrom_1 : decode cX3_copyFrom 1 = .ok (.aload_n 1, 1) := by decide +kernel
theorem dX3_copyFrom_2 : decode cX3_copyFrom 2 = .ok (.getfield 15, 3) := by decide +kernel
theorem dX3_copyFrom_5 : decode cX3_copyFrom 5 = .ok (.putfield 15, 3) := by decide +kernel
theorem dX3_copyFrom_8 : decode cX3_copyFrom 8 = .ok (.aload_n 1, 1) := by decide +kernel
theorem dX3_copyFrom_9 : decode cX3_copyFrom 9 = .ok (.getfield 9, 3) := by decide +kernel
theorem dX3_copyFrom_12 : decode cX3_copyFrom 12 = .ok (.iconst 0, 1) := by decide +kernel
theorem dX3_copyFrom_13 : decode cX3_copyFrom 13 = .ok (.aload_n 0, 1) := by decide +kernel
theorem dX3_copyFrom_14 : decode cX3_copyFrom 14 = .ok (.getfield 9, 3) := by decide +kernel
theorem dX3_copyFrom_17 : decode cX3_copyFrom 17 = .ok (.iconst 0, 1) := by decide +kernel
theorem dX3_copyFrom_18 : decode cX3_copyFrom 18 = .ok (.bipush 60, 2) := by decide +kernel
theorem dX3_copyFrom_20 : decode cX3_copyFrom 20 = .ok (.invokestatic 19, 3) := by decide +kernel
theorem dX3_copyFrom_23 : decode cX3_copyFrom 23 = .ok (.return_, 1) := by decide +kernel
theorem dX3_exchangeWithNext_0 : decode cX3_exchangeWithNext 0 = .ok (.iload_n 1, 1) := by decide +kernel
theorem dX3_exchangeWithNext_1 : decode cX3_exchangeWithNext 1 = .ok (.ifCond .lt 13, 3) := by decide +kernel
theorem dX3_exchangeWithNext_4 : decode cX3_exchangeWithNext 4 = .ok (.iload_n 1, 1) := by decide +kernel
theorem dX3_exchangeWithNext_5 : decode cX3_exchangeWithNext 5 = .ok (.iconst 1, 1) := by decide +kernel
theorem dX3_exchangeWithNext_6 : decode cX3_exchangeWithNext 6 = .ok (.iadd, 1) := by decide +kernel
theorem dX3_exchangeWithNext_7 : decode cX3_exchangeWithNext 7 = .ok (.aload_n 0, 1) := by decide +kernel
theorem dX3_exchangeWithNext_8 : decode cX3_exchangeWithNext 8 = .ok (.getfield 15, 3) := by decide +kernel
theorem dX3_exchangeWithNext_11 : decode cX3_exchangeWithNext 11 = .ok (.if_icmp .lt 4, 3) := by decide +kernel
theorem dX3_exchangeWithNext_14 : decode cX3_exchangeWithNext 14 = .ok (.return_, 1) := by decide +kernel
theorem dX3_exchangeWithNext_15 : decode cX3_exchangeWithNext 15 = .ok (.iload_n 1, 1) := by decide +kernel
theorem dX3_exchangeWithNext_16 : decode cX3_exchangeWithNext 16 = .ok (.iconst 5, 1) := by decide +kernel
theorem dX3_exchangeWithNext_17 : decode cX3_exchangeWithNext 17 = .ok (.imul, 1) := by decide +kernel
theorem dX3_exchangeWithNext_18 : decode cX3_exchangeWithNext 18 = .ok (.istore_n 2, 1) := by decide +kernel
theorem dX3_exchangeWithNext_19 : decode cX3_exchangeWithNext 19 = .ok (.iconst 0, 1) := by decide +kernel
theorem dX3_exchangeWithNext_20 : decode cX3_exchangeWithNext 20 = .ok (.istore_n 3, 1) := by decide +kernel
theorem dX3_exchangeWithNext_21 : decode cX3_exchangeWithNext 21 = .ok (.iload_n 3, 1) := by decide +kernel
theorem dX3_exchangeWithNext_22 : decode cX3_exchangeWithNext 22 = .ok (.iconst 5, 1) := by decide +kernel
theorem dX3_exchangeWithNext_23 : decode cX3_exchangeWithNext 23 = .ok (.if_icmp .ge 49, 3) := by decide +kernel
theorem dX3_exchangeWithNext_26 : decode cX3_exchangeWithNext 26 = .ok (.aload_n 0, 1) := by decide +kernel
theorem dX3_exchangeWithNext_27 : decode cX3_exchangeWithNext 27 = .ok (.getfield 9, 3) := by decide +kernel
theorem dX3_exchangeWithNext_30 : decode cX3_exchangeWithNext 30 = .ok (.iload_n 2, 1) := by decide +kernel
theorem dX3_exchangeWithNext_31 : decode cX3_exchangeWithNext 31 = .ok (.iload_n 3, 1) := by decide +kernel
theorem dX3_exchangeWithNext_32 : decode cX3_exchangeWithNext 32 = .ok (.iadd, 1) := by decide +kernel
theorem dX3_exchangeWithNext_33 : decode cX3_exchangeWithNext 33 = .ok (.iaload, 1) := by decide +kernel
theorem dX3_exchangeWithNext_34 : decode cX3_exchangeWithNext 34 = .ok (.istore 4, 2) := by decide +kernel
theorem dX3_exchangeWithNext_36 : decode cX3_exchangeWithNext 36 = .ok (.aload_n 0, 1) := by decide +kernel
theorem dX3_exchangeWithNext_37 : decode cX3_exchangeWithNext 37 = .ok (.getfield 9, 3) := by decide +kernel
theorem dX3_exchangeWithNext_40 : decode cX3_exchangeWithNext 40 = .ok (.iload_n 2, 1) := by decide +kernel
theorem dX3_exchangeWithNext_41 : decode cX3_exchangeWithNext 41 = .ok (.iload_n 3, 1) := by decide +kernel
theorem dX3_exchangeWithNext_42 : decode cX3_exchangeWithNext 42 = .ok (.iadd, 1) := by decide +kernel
theorem dX3_exchangeWithNext_43 : decode cX3_exchangeWithNext 43 = .ok (.aload_n 0, 1) := by decide +kernel
theorem dX3_exchangeWithNext_44 : decode cX3_exchangeWithNext 44 = .ok (.getfield 9, 3) := by decide +kernel
theorem dX3_exchangeWithNext_47 : decode cX3_exchangeWithNext 47 = .ok (.iload_n 2, 1) := by decide +kernel
theorem dX3_exchangeWithNext_48 : decode cX3_exchangeWithNext 48 = .ok (.iconst 5, 1) := by decide +kernel
theorem dX3_exchangeWithNext_49 : decode cX3_exchangeWithNext 49 = .ok (.iadd, 1) := by decide +kernel
theorem dX3_exchangeWithNext_50 : decode cX3_exchangeWithNext 50 = .ok (.iload_n 3, 1) := by decide +kernel
theorem dX3_exchangeWithNext_51 : decode cX3_exchangeWithNext 51 = .ok (.iadd, 1) := by decide +kernel
theorem dX3_exchangeWithNext_52 : decode cX3_exchangeWithNext 52 = .ok (.iaload, 1) := by decide +kernel
theorem dX3_exchangeWithNext_53 : decode cX3_exchangeWithNext 53 = .ok (.iastore, 1) := by decide +kernel
theorem dX3_exchangeWithNext_54 : decode cX3_exchangeWithNext 54 = .ok (.aload_n 0, 1) := by decide +kernel
theorem dX3_exchangeWithNext_55 : decode cX3_exchangeWithNext 55 = .ok (.getfield 9, 3) := by decide +kernel
theorem dX3_exchangeWithNext_58 : decode cX3_exchangeWithNext 58 = .ok (.iload_n 2, 1) := by decide +kernel
theorem dX3_exchangeWithNext_59 : decode cX3_exchangeWithNext 59 = .ok (.iconst 5, 1) := by decide +kernel
theorem dX3_exchangeWithNext_60 : decode cX3_exchangeWithNext 60 = .ok (.iadd, 1) := by decide +kernel
theorem dX3_exchangeWithNext_61 : decode cX3_exchangeWithNext 61 = .ok (.iload_n 3, 1) := by decide +kernel
theorem dX3_exchangeWithNext_62 : decode cX3_exchangeWithNext 62 = .ok (.iadd, 1) := by decide +kernel
theorem dX3_exchangeWithNext_63 : decode cX3_exchangeWithNext 63 = .ok (.iload 4, 2) := by decide +kernel
theorem dX3_exchangeWithNext_65 : decode cX3_exchangeWithNext 65 = .ok (.iastore, 1) := by decide +kernel
theorem dX3_exchangeWithNext_66 : decode cX3_exchangeWithNext 66 = .ok (.iinc 3 1, 3) := by decide +kernel
theorem dX3_exchangeWithNext_69 : decode cX3_exchangeWithNext 69 = .ok (.goto (-48), 3) := by decide +kernel
theorem dX3_exchangeWithNext_72 : decode cX3_exchangeWithNext 72 = .ok (.return_, 1) := by decide +kernel
theorem dX3_mayMove_0 : decode cX3_mayMove 0 = .ok (.aload_n 0, 1) := by decide +kernel
theorem dX3_mayMove_1 : decode cX3_mayMove 1 = .ok (.iload_n 1, 1) := by decide +kernel
theorem dX3_mayMove_2 : decode cX3_mayMove 2 = .ok (.iconst 0, 1) := by decide +kernel
theorem dX3_mayMove_3 : decode cX3_mayMove 3 = .ok (.invokevirtual 25, 3) := by decide +kernel
theorem dX3_mayMove_6 : decode cX3_mayMove 6 = .ok (.bipush 6, 2) := by decide +kernel
theorem dX3_mayMove_8 : decode cX3_mayMove 8 = .ok (.if_icmp .ne 5, 3) := by decide +kernel
theorem dX3_mayMove_11 : decode cX3_mayMove 11 = .ok (.iconst 0, 1) := by decide +kernel
theorem dX3_mayMove_12 : decode cX3_mayMove 12 = .ok (.ireturn, 1) := by decide +kernel
theorem dX3_mayMove_13 : decode cX3_mayMove 13 = .ok (.iconst 0, 1) := by decide +kernel
theorem dX3_mayMove_14 : decode cX3_mayMove 14 = .ok (.istore_n 2, 1) := by decide +kernel
theorem dX3_mayMove_15 : decode cX3_mayMove 15 = .ok (.iload_n 2, 1) := by decide +kernel
theorem dX3_mayMove_16 : decode cX3_mayMove 16 = .ok (.aload_n 0, 1) := by decide +kernel
theorem dX3_mayMove_17 : decode cX3_mayMove 17 = .ok (.getfield 15, 3) := by decide +kernel
theorem dX3_mayMove_20 : decode cX3_mayMove 20 = .ok (.if_icmp .ge 32, 3) := by decide +kernel
theorem dX3_mayMove_23 : decode cX3_mayMove 23 = .ok (.aload_n 0, 1) := by decide +kernel
theorem dX3_mayMove_24 : decode cX3_mayMove 24 = .ok (.iload_n 2, 1) := by decide +kernel
theorem dX3_mayMove_25 : decode cX3_mayMove 25 = .ok (.iconst 0, 1) := by decide +kernel
theorem dX3_mayMove_26 : decode cX3_mayMove 26 = .ok (.invokevirtual 25, 3) := by decide +kernel
theorem dX3_mayMove_29 : decode cX3_mayMove 29 = .ok (.bipush 6, 2) := by decide +kernel
theorem dX3_mayMove_31 : decode cX3_mayMove 31 = .ok (.if_icmp .ne 15, 3) := by decide +kernel
theorem dX3_mayMove_34 : decode cX3_mayMove 34 = .ok (.aload_n 0, 1) := by decide +kernel
theorem dX3_mayMove_35 : decode cX3_mayMove 35 = .ok (.iload_n 2, 1) := by decide +kernel
theorem dX3_mayMove_36 : decode cX3_mayMove 36 = .ok (.iconst 4, 1) := by decide +kernel
theorem dX3_mayMove_37 : decode cX3_mayMove 37 = .ok (.invokevirtual 25, 3) := by decide +kernel
theorem dX3_mayMove_40 : decode cX3_mayMove 40 = .ok (.iload_n 1, 1) := by decide +kernel
theorem dX3_mayMove_41 : decode cX3_mayMove 41 = .ok (.if_icmp .ne 5, 3) := by decide +kernel
theorem dX3_mayMove_44 : decode cX3_mayMove 44 = .ok (.iconst 0, 1) := by decide +kernel
theorem dX3_mayMove_45 : decode cX3_mayMove 45 = .ok (.ireturn, 1) := by decide +kernel
theorem dX3_mayMove_46 : decode cX3_mayMove 46 = .ok (.iinc 2 1, 3) := by decide +kernel
theorem dX3_mayMove_49 : decode cX3_mayMove 49 = .ok (.goto (-34), 3) := by decide +kernel
theorem dX3_mayMove_52 : decode cX3_mayMove 52 = .ok (.iconst 1, 1) := by decide +kernel
theorem dX3_mayMove_53 : decode cX3_mayMove 53 = .ok (.ireturn, 1) := by decide +kernel
theorem dX3_roomOf_0 : decode cX3_roomOf 0 = .ok (.aload_n 0, 1) := by decide +kernel
theorem dX3_roomOf_1 : decode cX3_roomOf 1 = .ok (.iload_n 1, 1) := by decide +kernel
theorem dX3_roomOf_2 : decode cX3_roomOf 2 = .ok (.iconst 0, 1) := by decide +kernel
theorem dX3_roomOf_3 : decode cX3_roomOf 3 = .ok (.invokevirtual 25, 3) := by decide +kernel
theorem dX3_roomOf_6 : decode cX3_roomOf 6 = .ok (.tableswitch 30 3 5 #[26, 28, 28], 26) := by decide +kernel
theorem dX3_roomOf_32 : decode cX3_roomOf 32 = .ok (.iconst 0, 1) := by decide +kernel
theorem dX3_roomOf_33 : decode cX3_roomOf 33 = .ok (.ireturn, 1) := by decide +kernel
theorem dX3_roomOf_34 : decode cX3_roomOf 34 = .ok (.iconst 1, 1) := by decide +kernel
theorem dX3_roomOf_35 : decode cX3_roomOf 35 = .ok (.ireturn, 1) := by decide +kernel
theorem dX3_roomOf_36 : decode cX3_roomOf 36 = .ok (.bipush (-6), 2) := by decide +kernel
theorem dX3_roomOf_38 : decode cX3_roomOf 38 = .ok (.ireturn, 1) := by decide +kernel
theorem dX3_givenBy_0 : decode cX3_givenBy 0 = .ok (.aload_n 0, 1) := by decide +kernel
theorem dX3_givenBy_1 : decode cX3_givenBy 1 = .ok (.iload_n 1, 1) := by decide +kernel
theorem dX3_givenBy_2 : decode cX3_givenBy 2 = .ok (.iconst 0, 1) := by decide +kernel
theorem dX3_givenBy_3 : decode cX3_givenBy 3 = .ok (.invokevirtual 25, 3) := by decide +kernel
theorem dX3_givenBy_6 : decode cX3_givenBy 6 = .ok (.istore_n 2, 1) := by decide +kernel
theorem dX3_givenBy_7 : decode cX3_givenBy 7 = .ok (.iload_n 2, 1) := by decide +kernel
theorem dX3_givenBy_8 : decode cX3_givenBy 8 = .ok (.iconst 5, 1) := by decide +kernel
theorem dX3_givenBy_9 : decode cX3_givenBy 9 = .ok (.if_icmp .eq 9, 3) := by decide +kernel
theorem dX3_givenBy_12 : decode cX3_givenBy 12 = .ok (.iload_n 2, 1) := by decide +kernel
theorem dX3_givenBy_13 : decode cX3_givenBy 13 = .ok (.bipush 6, 2) := by decide +kernel
theorem dX3_givenBy_15 : decode cX3_givenBy 15 = .ok (.if_icmp .ne 8, 3) := by decide +kernel
theorem dX3_givenBy_18 : decode cX3_givenBy 18 = .ok (.bipush (-6), 2) := by decide +kernel
theorem dX3_givenBy_20 : decode cX3_givenBy 20 = .ok (.goto 9, 3) := by decide +kernel
theorem dX3_givenBy_23 : decode cX3_givenBy 23 = .ok (.aload_n 0, 1) := by decide +kernel
theorem dX3_givenBy_24 : decode cX3_givenBy 24 = .ok (.iload_n 1, 1) := by decide +kernel
theorem dX3_givenBy_25 : decode cX3_givenBy 25 = .ok (.iconst 1, 1) := by decide +kernel
theorem dX3_givenBy_26 : decode cX3_givenBy 26 = .ok (.invokevirtual 25, 3) := by decide +kernel
theorem dX3_givenBy_29 : decode cX3_givenBy 29 = .ok (.ireturn, 1) := by decide +kernel
theorem dX4_init_0 : decode cX4_init 0 = .ok (.aload_n 0, 1) := by decide +kernel
theorem dX4_init_1 : decode cX4_init 1 = .ok (.invokespecial 3, 3) := by decide +kernel
theorem dX4_init_4 : decode cX4_init 4 = .ok (.aload_n 0, 1) := by decide +kernel
theorem dX4_init_5 : decode cX4_init 5 = .ok (.new 9, 3) := by decide +kernel
theorem dX4_init_8 : decode cX4_init 8 = .ok (.dup, 1) := by decide +kernel
theorem dX4_init_9 : decode cX4_init 9 = .ok (.invokespecial 11, 3) := by decide +kernel
theorem dX4_init_12 : decode cX4_init 12 = .ok (.putfield 12, 3) := by decide +kernel
theorem dX4_init_15 : decode cX4_init 15 = .ok (.aload_n 0, 1) := by decide +kernel
theorem dX4_init_16 : decode cX4_init 16 = .ok (.aload_n 1, 1) := by decide +kernel
theorem dX4_init_17 : decode cX4_init 17 = .ok (.putfield 18, 3) := by decide +kernel
theorem dX4_init_20 : decode cX4_init 20 = .ok (.return_, 1) := by decide +kernel
theorem dX4_read_0 : decode cX4_read 0 = .ok (.aload_n 0, 1) := by decide +kernel
theorem dX4_read_1 : decode cX4_read 1 = .ok (.getfield 12, 3) := by decide +kernel
theorem dX4_read_4 : decode cX4_read 4 = .ok (.iconst 0, 1) := by decide +kernel
theorem dX4_read_5 : decode cX4_read 5 = .ok (.putfield 22, 3) := by decide +kernel
theorem dX4_read_8 : decode cX4_read 8 = .ok (.aload_n 0, 1) := by decide +kernel
theorem dX4_read_9 : decode cX4_read 9 = .ok (.iconst 0, 1) := by decide +kernel
theorem dX4_read_10 : decode cX4_read 10 = .ok (.putfield 26, 3) := by decide +kernel
theorem dX4_read_13 : decode cX4_read 13 = .ok (.aload_n 0, 1) := by decide +kernel
theorem dX4_read_14 : decode cX4_read 14 = .ok (.iconst 0, 1) := by decide +kernel
theorem dX4_read_15 : decode cX4_read 15 = .ok (.putfield 29, 3) := by decide +kernel
theorem dX4_read_18 : decode cX4_read 18 = .ok (.iconst 0, 1) := by decide +kernel
theorem dX4_read_19 : decode cX4_read 19 = .ok (.istore_n 1, 1) := by decide +kernel
theorem dX4_read_20 : decode cX4_read 20 = .ok (.iload_n 1, 1) := by decide +kernel
theorem dX4_read_21 : decode cX4_read 21 = .ok (.bipush 80, 2) := by decide +kernel
theorem dX4_read_23 : decode cX4_read 23 = .ok (.if_icmp .gt 62, 3) := by decide +kernel
theorem dX4_read_26 : decode cX4_read 26 = .ok (.aload_n 0, 1) := by decide +kernel
theorem dX4_read_27 : decode cX4_read 27 = .ok (.invokevirtual 32, 3) := by decide +kernel
theorem dX4_read_30 : decode cX4_read 30 = .ok (.ifCond .ne 8, 3) := by decide +kernel
theorem dX4_read_33 : decode cX4_read 33 = .ok (.aload_n 0, 1) := by decide +kernel
theorem dX4_read_34 : decode cX4_read 34 = .ok (.getfield 29, 3) := by decide +kernel
theorem dX4_read_37 : decode cX4_read 37 = .ok (.ireturn, 1) := by decide +kernel
theorem dX4_read_38 : decode cX4_read 38 = .ok (.aload_n 0, 1) := by decide +kernel
theorem dX4_read_39 : decode cX4_read 39 = .ok (.dup, 1) := by decide +kernel
theorem dX4_read_40 : decode cX4_read 40 = .ok (.getfield 26, 3) := by decide +kernel
theorem dX4_read_43 : decode cX4_read 43 = .ok (.iconst 1, 1) := by decide +kernel
theorem dX4_read_44 : decode cX4_read 44 = .ok (.iadd, 1) := by decide +kernel
theorem dX4_read_45 : decode cX4_read 45 = .ok (.putfield 26, 3) := by decide +kernel
theorem dX4_read_48 : decode cX4_read 48 = .ok (.aload_n 0, 1) := by decide +kernel
theorem dX4_read_49 : decode cX4_read 49 = .ok (.getfield 29, 3) := by decide +kernel
theorem dX4_read_52 : decode cX4_read 52 = .ok (.aload_n 0, 1) := by decide +kernel
theorem dX4_read_53 : decode cX4_read 53 = .ok (.getfield 18, 3) := by decide +kernel
theorem dX4_read_56 : decode cX4_read 56 = .ok (.getfield 36, 3) := by decide +kernel
theorem dX4_read_59 : decode cX4_read 59 = .ok (.if_icmp .ne 6, 3) := by decide +kernel
theorem dX4_read_62 : decode cX4_read 62 = .ok (.bipush (-6), 2) := by decide +kernel
theorem dX4_read_64 : decode cX4_read 64 = .ok (.ireturn, 1) := by decide +kernel
theorem dX4_read_65 : decode cX4_read 65 = .ok (.aload_n 0, 1) := by decide +kernel
theorem dX4_read_66 : decode cX4_read 66 = .ok (.bipush 59, 2) := by decide +kernel
theorem dX4_read_68 : decode cX4_read 68 = .ok (.invokevirtual 41, 3) := by decide +kernel
theorem dX4_read_71 : decode cX4_read 71 = .ok (.ifCond .ne 8, 3) := by decide +kernel
theorem dX4_read_74 : decode cX4_read 74 = .ok (.aload_n 0, 1) := by decide +kernel
theorem dX4_read_75 : decode cX4_read 75 = .ok (.getfield 29, 3) := by decide +kernel
theorem dX4_read_78 : decode cX4_read 78 = .ok (.ireturn, 1) := by decide +kernel
theorem dX4_read_79 : decode cX4_read 79 = .ok (.iinc 1 1, 3) := by decide +kernel
theorem dX4_read_82 : decode cX4_read 82 = .ok (.goto (-62), 3) := by decide +kernel
theorem dX4_read_85 : decode cX4_read 85 = .ok (.aload_n 0, 1) := by decide +kernel
theorem dX4_read_86 : decode cX4_read 86 = .ok (.getfield 29, 3) := by decide +kernel
theorem dX4_read_89 : decode cX4_read 89 = .ok (.ireturn, 1) := by decide +kernel
theorem dX4_readOrder_0 : decode cX4_readOrder 0 = .ok (.aload_n 0, 1) := by decide +kernel
theorem dX4_readOrder_1 : decode cX4_readOrder 1 = .ok (.bipush 91, 2) := by decide +kernel
theorem dX4_readOrder_3 : decode cX4_readOrder 3 = .ok (.invokevirtual 41, 3) := by decide +kernel
theorem dX4_readOrder_6 : decode cX4_readOrder 6 = .ok (.ifCond .eq 8, 3) := by decide +kernel
theorem dX4_readOrder_9 : decode cX4_readOrder 9 = .ok (.aload_n 0, 1) := by decide +kernel
theorem dX4_readOrder_10 : decode cX4_readOrder 10 = .ok (.invokevirtual 45, 3) := by decide +kernel
theorem dX4_readOrder_13 : decode cX4_readOrder 13 = .ok (.ireturn, 1) := by decide +kernel
theorem dX4_readOrder_14 : decode cX4_readOrder 14 = .ok (.aload_n 0, 1) := by decide +kernel
theorem dX4_readOrder_15 : decode cX4_readOrder 15 = .ok (.invokevirtual 48, 3) := by decide +kernel
theorem dX4_readOrder_18 : decode cX4_readOrder 18 = .ok (.istore_n 1, 1) := by decide +kernel
theorem dX4_readOrder_19 : decode cX4_readOrder 19 = .ok (.iload_n 1, 1) := by decide +kernel
theorem dX4_readOrder_20 : decode cX4_readOrder 20 = .ok (.bipush (-6), 2) := by decide +kernel
theorem dX4_readOrder_22 : decode cX4_readOrder 22 = .ok (.if_icmp .ne 5, 3) := by decide +kernel
theorem dX4_readOrder_25 : decode cX4_readOrder 25 = .ok (.iconst 0, 1) := by decide +kernel
theorem dX4_readOrder_26 : decode cX4_readOrder 26 = .ok (.ireturn, 1) := by decide +kernel
theorem dX4_readOrder_27 : decode cX4_readOrder 27 = .ok (.aload_n 0, 1) := by decide +kernel
theorem dX4_readOrder_28 : decode cX4_readOrder 28 = .ok (.bipush 63, 2) := by decide +kernel
theorem dX4_readOrder_30 : decode cX4_readOrder 30 = .ok (.invokevirtual 41, 3) := by decide +kernel
theorem dX4_readOrder_33 : decode cX4_readOrder 33 = .ok (.ifCond .eq 11, 3) := by decide +kernel
theorem dX4_readOrder_36 : decode cX4_readOrder 36 = .ok (.aload_n 0, 1) := by decide +kernel
theorem dX4_readOrder_37 : decode cX4_readOrder 37 = .ok (.bipush 6, 2) := by decide +kernel
theorem dX4_readOrder_39 : decode cX4_readOrder 39 = .ok (.iload_n 1, 1) := by decide +kernel
theorem dX4_readOrder_40 : decode cX4_readOrder 40 = .ok (.invokevirtual 52, 3) := by decide +kernel
theorem dX4_readOrder_43 : decode cX4_readOrder 43 = .ok (.ireturn, 1) := by decide +kernel
theorem dX4_readOrder_44 : decode cX4_readOrder 44 = .ok (.aload_n 0, 1) := by decide +kernel
theorem dX4_readOrder_45 : decode cX4_readOrder 45 = .ok (.bipush 61, 2) := by decide +kernel
theorem dX4_readOrder_47 : decode cX4_readOrder 47 = .ok (.invokevirtual 41, 3) := by decide +kernel
theorem dX4_readOrder_50 : decode cX4_readOrder 50 = .ok (.ifCond .eq 15, 3) := by decide +kernel
theorem dX4_readOrder_53 : decode cX4_readOrder 53 = .ok (.aload_n 0, 1) := by decide +kernel
theorem dX4_readOrder_54 : decode cX4_readOrder 54 = .ok (.iload_n 1, 1) := by decide +kernel
theorem dX4_readOrder_55 : decode cX4_readOrder 55 = .ok (.invokevirtual 56, 3) := by decide +kernel
theorem dX4_readOrder_58 : decode cX4_readOrder 58 = .ok (.ifCond .eq 7, 3) := by decide +kernel
theorem dX4_readOrder_61 : decode cX4_readOrder 61 = .ok (.iconst 1, 1) := by decide +kernel
theorem dX4_readOrder_62 : decode cX4_readOrder 62 = .ok (.goto 4, 3) := by decide +kernel
theorem dX4_readOrder_65 : decode cX4_readOrder 65 = .ok (.iconst 0, 1) := by decide +kernel
theorem dX4_readOrder_66 : decode cX4_readOrder 66 = .ok (.ireturn, 1) := by decide +kernel
theorem dX4_readStore_0 : decode cX4_readStore 0 = .ok (.aload_n 0, 1) := by decide +kernel
theorem dX4_readStore_1 : decode cX4_readStore 1 = .ok (.invokevirtual 48, 3) := by decide +kernel
theorem dX4_readStore_4 : decode cX4_readStore 4 = .ok (.istore_n 1, 1) := by decide +kernel
theorem dX4_readStore_5 : decode cX4_readStore 5 = .ok (.iload_n 1, 1) := by decide +kernel
theorem dX4_readStore_6 : decode cX4_readStore 6 = .ok (.bipush (-6), 2) := by decide +kernel
theorem dX4_readStore_8 : decode cX4_readStore 8 = .ok (.if_icmp .eq 21, 3) := by decide +kernel
theorem dX4_readStore_11 : decode cX4_readStore 11 = .ok (.aload_n 0, 1) := by decide +kernel
theorem dX4_readStore_12 : decode cX4_readStore 12 = .ok (.bipush 93, 2) := by decide +kernel
theorem dX4_readStore_14 : decode cX4_readStore 14 = .ok (.invokevirtual 41, 3) := by decide +kernel
theorem dX4_readStore_17 : decode cX4_readStore 17 = .ok (.ifCond .eq 12, 3) := by decide +kernel
theorem dX4_readStore_20 : decode cX4_readStore 20 = .ok (.aload_n 0, 1) := by decide +kernel
theorem dX4_readStore_21 : decode cX4_readStore 21 = .ok (.bipush 61, 2) := by decide +kernel
theorem dX4_readStore_23 : decode cX4_readStore 23 = .ok (.invokevirtual 41, 3) := by decide +kernel
theorem dX4_readStore_26 : decode cX4_readStore 26 = .ok (.ifCond .ne 5, 3) := by decide +kernel
theorem dX4_readStore_29 : decode cX4_readStore 29 = .ok (.iconst 0, 1) := by decide +kernel
theorem dX4_readStore_30 : decode cX4_readStore 30 = .ok (.ireturn, 1) := by decide +kernel
theorem dX4_readStore_31 : decode cX4_readStore 31 = .ok (.aload_n 0, 1) := by decide +kernel
theorem dX4_readStore_32 : decode cX4_readStore 32 = .ok (.invokevirtual 48, 3) := by decide +kernel
theorem dX4_readStore_35 : decode cX4_readStore 35 = .ok (.istore_n 2, 1) := by decide +kernel
theorem dX4_readStore_36 : decode cX4_readStore 36 = .ok (.iload_n 2, 1) := by decide +kernel
theorem dX4_readStore_37 : decode cX4_readStore 37 = .ok (.bipush (-6), 2) := by decide +kernel
theorem dX4_readStore_39 : decode cX4_readStore 39 = .ok (.if_icmp .ne 5, 3) := by decide +kernel
theorem dX4_readStore_42 : decode cX4_readStore 42 = .ok (.iconst 0, 1) := by decide +kernel
theorem dX4_readStore_43 : decode cX4_readStore 43 = .ok (.ireturn, 1) := by decide +kernel
theorem dX4_readStore_44 : decode cX4_readStore 44 = .ok (.aload_n 0, 1) := by decide +kernel
theorem dX4_readStore_45 : decode cX4_readStore 45 = .ok (.getfield 12, 3) := by decide +kernel
theorem dX4_readStore_48 : decode cX4_readStore 48 = .ok (.iconst 5, 1) := by decide +kernel
theorem dX4_readStore_49 : decode cX4_readStore 49 = .ok (.iload_n 1, 1) := by decide +kernel
theorem dX4_readStore_50 : decode cX4_readStore 50 = .ok (.iload_n 2, 1) := by decide +kernel
theorem dX4_readStore_51 : decode cX4_readStore 51 = .ok (.bipush (-6), 2) := by decide +kernel
theorem dX4_readStore_53 : decode cX4_readStore 53 = .ok (.bipush (-6), 2) := by decide +kernel
theorem dX4_readStore_55 : decode cX4_readStore 55 = .ok (.invokevirtual 60, 3) := by decide +kernel
theorem dX4_readStore_58 : decode cX4_readStore 58 = .ok (.iconst 1, 1) := by decide +kernel
theorem dX4_readStore_59 : decode cX4_readStore 59 = .ok (.ireturn, 1) := by decide +kernel
theorem dX4_readGiven_0 : decode cX4_readGiven 0 = .ok (.aload_n 0, 1) := by decide +kernel
theorem dX4_readGiven_1 : decode cX4_readGiven 1 = .ok (.bipush 91, 2) := by decide +kernel
theorem dX4_readGiven_3 : decode cX4_readGiven 3 = .ok (.invokevirtual 41, 3) := by decide +kernel
theorem dX4_readGiven_6 : decode cX4_readGiven 6 = .ok (.ifCond .eq 9, 3) := by decide +kernel
theorem dX4_readGiven_9 : decode cX4_readGiven 9 = .ok (.aload_n 0, 1) := by decide +kernel
theorem dX4_readGiven_10 : decode cX4_readGiven 10 = .ok (.iload_n 1, 1) := by decide +kernel
theorem dX4_readGiven_11 : decode cX4_readGiven 11 = .ok (.invokevirtual 64, 3) := by decide +kernel
theorem dX4_readGiven_14 : decode cX4_readGiven 14 = .ok (.ireturn, 1) := by decide +kernel
theorem dX4_readGiven_15 : decode cX4_readGiven 15 = .ok (.aload_n 0, 1) := by decide +kernel
theorem dX4_readGiven_16 : decode cX4_readGiven 16 = .ok (.invokevirtual 48, 3) := by decide +kernel
theorem dX4_readGiven_19 : decode cX4_readGiven 19 = .ok (.istore_n 2, 1) := by decide +kernel
theorem dX4_readGiven_20 : decode cX4_readGiven 20 = .ok (.iload_n 2, 1) := by decide +kernel
theorem dX4_readGiven_21 : decode cX4_readGiven 21 = .ok (.bipush (-6), 2) := by decide +kernel
theorem dX4_readGiven_23 : decode cX4_readGiven 23 = .ok (.if_icmp .ne 10, 3) := by decide +kernel
theorem dX4_readGiven_26 : decode cX4_readGiven 26 = .ok (.aload_n 0, 1) := by decide +kernel
theorem dX4_readGiven_27 : decode cX4_readGiven 27 = .ok (.iconst 0, 1) := by decide +kernel
theorem dX4_readGiven_28 : decode cX4_readGiven 28 = .ok (.iload_n 1, 1) := by decide +kernel
theorem dX4_readGiven_29 : decode cX4_readGiven 29 = .ok (.invokevirtual 52, 3) := by decide +kernel
theorem dX4_readGiven_32 : decode cX4_readGiven 32 = .ok (.ireturn, 1) := by decide +kernel
theorem dX4_readGiven_33 : decode cX4_readGiven 33 = .ok (.aload_n 0, 1) := by decide +kernel
theorem dX4_readGiven_34 : decode cX4_readGiven 34 = .ok (.invokevirtual 67, 3) := by decide +kernel
theorem dX4_readGiven_37 : decode cX4_readGiven 37 = .ok (.istore_n 3, 1) := by decide +kernel
theorem dX4_readGiven_38 : decode cX4_readGiven 38 = .ok (.iload_n 3, 1) := by decide +kernel
theorem dX4_readGiven_39 : decode cX4_readGiven 39 = .ok (.bipush (-6), 2) := by decide +kernel
theorem dX4_readGiven_41 : decode cX4_readGiven 41 = .ok (.if_icmp .ne 5, 3) := by decide +kernel
theorem dX4_readGiven_44 : decode cX4_readGiven 44 = .ok (.iconst 0, 1) := by decide +kernel
theorem dX4_readGiven_45 : decode cX4_readGiven 45 = .ok (.ireturn, 1) := by decide +kernel
theorem dX4_readGiven_46 : decode cX4_readGiven 46 = .ok (.aload_n 0, 1) := by decide +kernel
theorem dX4_readGiven_47 : decode cX4_readGiven 47 = .ok (.invokevirtual 48, 3) := by decide +kernel
theorem dX4_readGiven_50 : decode cX4_readGiven 50 = .ok (.istore 4, 2) := by decide +kernel
theorem dX4_readGiven_52 : decode cX4_readGiven 52 = .ok (.iload 4, 2) := by decide +kernel
theorem dX4_readGiven_54 : decode cX4_readGiven 54 = .ok (.bipush (-6), 2) := by decide +kernel
theorem dX4_readGiven_56 : decode cX4_readGiven 56 = .ok (.if_icmp .ne 5, 3) := by decide +kernel
theorem dX4_readGiven_59 : decode cX4_readGiven 59 = .ok (.iconst 0, 1) := by decide +kernel
theorem dX4_readGiven_60 : decode cX4_readGiven 60 = .ok (.ireturn, 1) := by decide +kernel
theorem dX4_readGiven_61 : decode cX4_readGiven 61 = .ok (.aload_n 0, 1) := by decide +kernel
theorem dX4_readGiven_62 : decode cX4_readGiven 62 = .ok (.getfield 12, 3) := by decide +kernel
theorem dX4_readGiven_65 : decode cX4_readGiven 65 = .ok (.iload_n 3, 1) := by decide +kernel
theorem dX4_readGiven_66 : decode cX4_readGiven 66 = .ok (.iload_n 1, 1) := by decide +kernel
theorem dX4_readGiven_67 : decode cX4_readGiven 67 = .ok (.iload_n 2, 1) := by decide +kernel
theorem dX4_readGiven_68 : decode cX4_readGiven 68 = .ok (.iload 4, 2) := by decide +kernel
theorem dX4_readGiven_70 : decode cX4_readGiven 70 = .ok (.bipush (-6), 2) := by decide +kernel
theorem dX4_readGiven_72 : decode cX4_readGiven 72 = .ok (.invokevirtual 60, 3) := by decide +kernel
theorem dX4_readGiven_75 : decode cX4_readGiven 75 = .ok (.iconst 1, 1) := by decide +kernel
theorem dX4_readGiven_76 : decode cX4_readGiven 76 = .ok (.ireturn, 1) := by decide +kernel
theorem dX4_readLoad_0 : decode cX4_readLoad 0 = .ok (.aload_n 0, 1) := by decide +kernel
theorem dX4_readLoad_1 : decode cX4_readLoad 1 = .ok (.invokevirtual 48, 3) := by decide +kernel
theorem dX4_readLoad_4 : decode cX4_readLoad 4 = .ok (.istore_n 2, 1) := by decide +kernel
theorem dX4_readLoad_5 : decode cX4_readLoad 5 = .ok (.iload_n 2, 1) := by decide +kernel
theorem dX4_readLoad_6 : decode cX4_readLoad 6 = .ok (.bipush (-6), 2) := by decide +kernel
theorem dX4_readLoad_8 : decode cX4_readLoad 8 = .ok (.if_icmp .eq 12, 3) := by decide +kernel
theorem dX4_readLoad_11 : decode cX4_readLoad 11 = .ok (.aload_n 0, 1) := by decide +kernel
theorem dX4_readLoad_12 : decode cX4_readLoad 12 = .ok (.bipush 93, 2) := by decide +kernel
theorem dX4_readLoad_14 : decode cX4_readLoad 14 = .ok (.invokevirtual 41, 3) := by decide +kernel
theorem dX4_readLoad_17 : decode cX4_readLoad 17 = .ok (.ifCond .ne 5, 3) := by decide +kernel
theorem dX4_readLoad_20 : decode cX4_readLoad 20 = .ok (.iconst 0, 1) := by decide +kernel
theorem dX4_readLoad_21 : decode cX4_readLoad 21 = .ok (.ireturn, 1) := by decide +kernel
theorem dX4_readLoad_22 : decode cX4_readLoad 22 = .ok (.aload_n 0, 1) := by decide +kernel
theorem dX4_readLoad_23 : decode cX4_readLoad 23 = .ok (.getfield 12, 3) := by decide +kernel
theorem dX4_readLoad_26 : decode cX4_readLoad 26 = .ok (.iconst 4, 1) := by decide +kernel
theorem dX4_readLoad_27 : decode cX4_readLoad 27 = .ok (.iload_n 1, 1) := by decide +kernel
theorem dX4_readLoad_28 : decode cX4_readLoad 28 = .ok (.iload_n 2, 1) := by decide +kernel
theorem dX4_readLoad_29 : decode cX4_readLoad 29 = .ok (.bipush (-6), 2) := by decide +kernel
theorem dX4_readLoad_31 : decode cX4_readLoad 31 = .ok (.bipush (-6), 2) := by decide +kernel
theorem dX4_readLoad_33 : decode cX4_readLoad 33 = .ok (.invokevirtual 60, 3) := by decide +kernel
theorem dX4_readLoad_36 : decode cX4_readLoad 36 = .ok (.iconst 1, 1) := by decide +kernel
theorem dX4_readLoad_37 : decode cX4_readLoad 37 = .ok (.ireturn, 1) := by decide +kernel
theorem dX4_readNumber_0 : decode cX4_readNumber 0 = .ok (.aload_n 0, 1) := by decide +kernel
theorem dX4_readNumber_1 : decode cX4_readNumber 1 = .ok (.bipush 48, 2) := by decide +kernel
theorem dX4_readNumber_3 : decode cX4_readNumber 3 = .ok (.bipush 10, 2) := by decide +kernel
theorem dX4_readNumber_5 : decode cX4_readNumber 5 = .ok (.invokevirtual 70, 3) := by decide +kernel
theorem dX4_readNumber_8 : decode cX4_readNumber 8 = .ok (.istore_n 3, 1) := by decide +kernel
theorem dX4_readNumber_9 : decode cX4_readNumber 9 = .ok (.iload_n 3, 1) := by decide +kernel
theorem dX4_readNumber_10 : decode cX4_readNumber 10 = .ok (.bipush (-6), 2) := by decide +kernel
theorem dX4_readNumber_12 : decode cX4_readNumber 12 = .ok (.if_icmp .ne 5, 3) := by decide +kernel
theorem dX4_readNumber_15 : decode cX4_readNumber 15 = .ok (.iconst 0, 1) := by decide +kernel
theorem dX4_readNumber_16 : decode cX4_readNumber 16 = .ok (.ireturn, 1) := by decide +kernel
theorem dX4_readNumber_17 : decode cX4_readNumber 17 = .ok (.iload_n 3, 1) := by decide +kernel
theorem dX4_readNumber_18 : decode cX4_readNumber 18 = .ok (.ifCond .le 32, 3) := by decide +kernel
theorem dX4_readNumber_21 : decode cX4_readNumber 21 = .ok (.aload_n 0, 1) := by decide +kernel
theorem dX4_readNumber_22 : decode cX4_readNumber 22 = .ok (.bipush 48, 2) := by decide +kernel
theorem dX4_readNumber_24 : decode cX4_readNumber 24 = .ok (.bipush 10, 2) := by decide +kernel
theorem dX4_readNumber_26 : decode cX4_readNumber 26 = .ok (.invokevirtual 70, 3) := by decide +kernel
theorem dX4_readNumber_29 : decode cX4_readNumber 29 = .ok (.istore 4, 2) := by decide +kernel
theorem dX4_readNumber_31 : decode cX4_readNumber 31 = .ok (.iload 4, 2) := by decide +kernel
theorem dX4_readNumber_33 : decode cX4_readNumber 33 = .ok (.bipush (-6), 2) := by decide +kernel
theorem dX4_readNumber_35 : decode cX4_readNumber 35 = .ok (.if_icmp .ne 7, 3) := by decide +kernel
theorem dX4_readNumber_38 : decode cX4_readNumber 38 = .ok (.iload_n 3, 1) := by decide +kernel
theorem dX4_readNumber_39 : decode cX4_readNumber 39 = .ok (.goto 10, 3) := by decide +kernel
theorem dX4_readNumber_42 : decode cX4_readNumber 42 = .ok (.iload_n 3, 1) := by decide +kernel
theorem dX4_readNumber_43 : decode cX4_readNumber 43 = .ok (.bipush 10, 2) := by decide +kernel
theorem dX4_readNumber_45 : decode cX4_readNumber 45 = .ok (.imul, 1) := by decide +kernel
theorem dX4_readNumber_46 : decode cX4_readNumber 46 = .ok (.iload 4, 2) := by decide +kernel
theorem dX4_readNumber_48 : decode cX4_readNumber 48 = .ok (.iadd, 1) := by decide +kernel
theorem dX4_readNumber_49 : decode cX4_readNumber 49 = .ok (.istore_n 3, 1) := by decide +kernel
theorem dX4_readNumber_50 : decode cX4_readNumber 50 = .ok (.aload_n 0, 1) := by decide +kernel
theorem dX4_readNumber_51 : decode cX4_readNumber 51 = .ok (.getfield 12, 3) := by decide +kernel
theorem dX4_readNumber_54 : decode cX4_readNumber 54 = .ok (.iload_n 1, 1) := by decide +kernel
theorem dX4_readNumber_55 : decode cX4_readNumber 55 = .ok (.iload_n 2, 1) := by decide +kernel
theorem dX4_readNumber_56 : decode cX4_readNumber 56 = .ok (.bipush (-6), 2) := by decide +kernel
theorem dX4_readNumber_58 : decode cX4_readNumber 58 = .ok (.bipush (-6), 2) := by decide +kernel
theorem dX4_readNumber_60 : decode cX4_readNumber 60 = .ok (.iload_n 3, 1) := by decide +kernel
theorem dX4_readNumber_61 : decode cX4_readNumber 61 = .ok (.invokevirtual 60, 3) := by decide +kernel
theorem dX4_readNumber_64 : decode cX4_readNumber 64 = .ok (.iconst 1, 1) := by decide +kernel
theorem dX4_readNumber_65 : decode cX4_readNumber 65 = .ok (.ireturn, 1) := by decide +kernel
theorem dX4_take_0 : decode cX4_take 0 = .ok (.aload_n 0, 1) := by decide +kernel
theorem dX4_take_1 : decode cX4_take 1 = .ok (.getfield 18, 3) := by decide +kernel
theorem dX4_take_4 : decode cX4_take 4 = .ok (.aload_n 0, 1) := by decide +kernel
theorem dX4_take_5 : decode cX4_take 5 = .ok (.getfield 29, 3) := by decide +kernel
theorem dX4_take_8 : decode cX4_take 8 = .ok (.invokevirtual 74, 3) := by decide +kernel
theorem dX4_take_11 : decode cX4_take 11 = .ok (.iload_n 1, 1) := by decide +kernel
theorem dX4_take_12 : decode cX4_take 12 = .ok (.if_icmp .eq 5, 3) := by decide +kernel
theorem dX4_take_15 : decode cX4_take 15 = .ok (.iconst 0, 1) := by decide +kernel
theorem dX4_take_16 : decode cX4_take 16 = .ok (.ireturn, 1) := by decide +kernel
theorem dX4_take_17 : decode cX4_take 17 = .ok (.aload_n 0, 1) := by decide +kernel
theorem dX4_take_18 : decode cX4_take 18 = .ok (.dup, 1) := by decide +kernel
theorem dX4_take_19 : decode cX4_take 19 = .ok (.getfield 29, 3) := by decide +kernel
theorem dX4_take_22 : decode cX4_take 22 = .ok (.iconst 1, 1) := by decide +kernel
theorem dX4_take_23 : decode cX4_take 23 = .ok (.iadd, 1) := by decide +kernel
theorem dX4_take_24 : decode cX4_take 24 = .ok (.putfield 29, 3) := by decide +kernel
theorem dX4_take_27 : decode cX4_take 27 = .ok (.iconst 1, 1) := by decide +kernel
theorem dX4_take_28 : decode cX4_take 28 = .ok (.ireturn, 1) := by decide +kernel
theorem dX4_takeRegister_0 : decode cX4_takeRegister 0 = .ok (.aload_n 0, 1) := by decide +kernel
theorem dX4_takeRegister_1 : decode cX4_takeRegister 1 = .ok (.bipush 97, 2) := by decide +kernel
theorem dX4_takeRegister_3 : decode cX4_takeRegister 3 = .ok (.iconst 4, 1) := by decide +kernel
theorem dX4_takeRegister_4 : decode cX4_takeRegister 4 = .ok (.invokevirtual 70, 3) := by decide +kernel
theorem dX4_takeRegister_7 : decode cX4_takeRegister 7 = .ok (.ireturn, 1) := by decide +kernel
theorem dX4_takeFrom_0 : decode cX4_takeFrom 0 = .ok (.aload_n 0, 1) := by decide +kernel
theorem dX4_takeFrom_1 : decode cX4_takeFrom 1 = .ok (.getfield 18, 3) := by decide +kernel
theorem dX4_takeFrom_4 : decode cX4_takeFrom 4 = .ok (.aload_n 0, 1) := by decide +kernel
theorem dX4_takeFrom_5 : decode cX4_takeFrom 5 = .ok (.getfield 29, 3) := by decide +kernel
theorem dX4_takeFrom_8 : decode cX4_takeFrom 8 = .ok (.invokevirtual 74, 3) := by decide +kernel
theorem dX4_takeFrom_11 : decode cX4_takeFrom 11 = .ok (.iload_n 1, 1) := by decide +kernel
theorem dX4_takeFrom_12 : decode cX4_takeFrom 12 = .ok (.isub, 1) := by decide +kernel
theorem dX4_takeFrom_13 : decode cX4_takeFrom 13 = .ok (.istore_n 3, 1) := by decide +kernel
theorem dX4_takeFrom_14 : decode cX4_takeFrom 14 = .ok (.iload_n 3, 1) := by decide +kernel
theorem dX4_takeFrom_15 : decode cX4_takeFrom 15 = .ok (.ifCond .lt 8, 3) := by decide +kernel
theorem dX4_takeFrom_18 : decode cX4_takeFrom 18 = .ok (.iload_n 3, 1) := by decide +kernel
theorem dX4_takeFrom_19 : decode cX4_takeFrom 19 = .ok (.iload_n 2, 1) := by decide +kernel
theorem dX4_takeFrom_20 : decode cX4_takeFrom 20 = .ok (.if_icmp .lt 6, 3) := by decide +kernel
theorem dX4_takeFrom_23 : decode cX4_takeFrom 23 = .ok (.bipush (-6), 2) := by decide +kernel
theorem dX4_takeFrom_25 : decode cX4_takeFrom 25 = .ok (.ireturn, 1) := by decide +kernel
theorem dX4_takeFrom_26 : decode cX4_takeFrom 26 = .ok (.aload_n 0, 1) := by decide +kernel
theorem dX4_takeFrom_27 : decode cX4_takeFrom 27 = .ok (.dup, 1) := by decide +kernel
theorem dX4_takeFrom_28 : decode cX4_takeFrom 28 = .ok (.getfield 29, 3) := by decide +kernel
theorem dX4_takeFrom_31 : decode cX4_takeFrom 31 = .ok (.iconst 1, 1) := by decide +kernel
theorem dX4_takeFrom_32 : decode cX4_takeFrom 32 = .ok (.iadd, 1) := by decide +kernel
theorem dX4_takeFrom_33 : decode cX4_takeFrom 33 = .ok (.putfield 29, 3) := by decide +kernel
theorem dX4_takeFrom_36 : decode cX4_takeFrom 36 = .ok (.iload_n 3, 1) := by decide +kernel
theorem dX4_takeFrom_37 : decode cX4_takeFrom 37 = .ok (.ireturn, 1) := by decide +kernel
theorem dX4_takeSign_0 : decode cX4_takeSign 0 = .ok (.aload_n 0, 1) := by decide +kernel
theorem dX4_takeSign_1 : decode cX4_takeSign 1 = .ok (.bipush 43, 2) := by decide +kernel
theorem dX4_takeSign_3 : decode cX4_takeSign 3 = .ok (.invokevirtual 41, 3) := by decide +kernel
theorem dX4_takeSign_6 : decode cX4_takeSign 6 = .ok (.ifCond .eq 5, 3) := by decide +kernel
theorem dX4_takeSign_9 : decode cX4_takeSign 9 = .ok (.iconst 1, 1) := by decide +kernel
theorem dX4_takeSign_10 : decode cX4_takeSign 10 = .ok (.ireturn, 1) := by decide +kernel
theorem dX4_takeSign_11 : decode cX4_takeSign 11 = .ok (.aload_n 0, 1) := by decide +kernel
theorem dX4_takeSign_12 : decode cX4_takeSign 12 = .ok (.bipush 45, 2) := by decide +kernel
theorem dX4_takeSign_14 : decode cX4_takeSign 14 = .ok (.invokevirtual 41, 3) := by decide +kernel
theorem dX4_takeSign_17 : decode cX4_takeSign 17 = .ok (.ifCond .eq 5, 3) := by decide +kernel
theorem dX4_takeSign_20 : decode cX4_takeSign 20 = .ok (.iconst 2, 1) := by decide +kernel
theorem dX4_takeSign_21 : decode cX4_takeSign 21 = .ok (.ireturn, 1) := by decide +kernel
theorem dX4_takeSign_22 : decode cX4_takeSign 22 = .ok (.aload_n 0, 1) := by decide +kernel
theorem dX4_takeSign_23 : decode cX4_takeSign 23 = .ok (.bipush 42, 2) := by decide +kernel
theorem dX4_takeSign_25 : decode cX4_takeSign 25 = .ok (.invokevirtual 41, 3) := by decide +kernel
theorem dX4_takeSign_28 : decode cX4_takeSign 28 = .ok (.ifCond .eq 7, 3) := by decide +kernel
theorem dX4_takeSign_31 : decode cX4_takeSign 31 = .ok (.iconst 3, 1) := by decide +kernel
theorem dX4_takeSign_32 : decode cX4_takeSign 32 = .ok (.goto 5, 3) := by decide +kernel
theorem dX4_takeSign_35 : decode cX4_takeSign 35 = .ok (.bipush (-6), 2) := by decide +kernel
theorem dX4_takeSign_37 : decode cX4_takeSign 37 = .ok (.ireturn, 1) := by decide +kernel
theorem dX5_init_0 : decode cX5_init 0 = .ok (.aload_n 0, 1) := by decide +kernel
theorem dX5_init_1 : decode cX5_init 1 = .ok (.invokespecial 3, 3) := by decide +kernel
theorem dX5_init_4 : decode cX5_init 4 = .ok (.aload_n 0, 1) := by decide +kernel
theorem dX5_init_5 : decode cX5_init 5 = .ok (.iconst 2, 1) := by decide +kernel
theorem dX5_init_6 : decode cX5_init 6 = .ok (.anewarray 9, 3) := by decide +kernel
theorem dX5_init_9 : decode cX5_init 9 = .ok (.dup, 1) := by decide +kernel
theorem dX5_init_10 : decode cX5_init 10 = .ok (.iconst 0, 1) := by decide +kernel
theorem dX5_init_11 : decode cX5_init 11 = .ok (.new 9, 3) := by decide +kernel
theorem dX5_init_14 : decode cX5_init 14 = .ok (.dup, 1) := by decide +kernel
theorem dX5_init_15 : decode cX5_init 15 = .ok (.invokespecial 11, 3) := by decide +kernel
theorem dX5_init_18 : decode cX5_init 18 = .ok (.aastore, 1) := by decide +kernel
theorem dX5_init_19 : decode cX5_init 19 = .ok (.dup, 1) := by decide +kernel
theorem dX5_init_20 : decode cX5_init 20 = .ok (.iconst 1, 1) := by decide +kernel
theorem dX5_init_21 : decode cX5_init 21 = .ok (.new 9, 3) := by decide +kernel
theorem dX5_init_24 : decode cX5_init 24 = .ok (.dup, 1) := by decide +kernel
theorem dX5_init_25 : decode cX5_init 25 = .ok (.invokespecial 11, 3) := by decide +kernel
theorem dX5_init_28 : decode cX5_init 28 = .ok (.aastore, 1) := by decide +kernel
theorem dX5_init_29 : decode cX5_init 29 = .ok (.putfield 12, 3) := by decide +kernel
theorem dX5_init_32 : decode cX5_init 32 = .ok (.aload_n 0, 1) := by decide +kernel
theorem dX5_init_33 : decode cX5_init 33 = .ok (.iconst 2, 1) := by decide +kernel
theorem dX5_init_34 : decode cX5_init 34 = .ok (.newarray .int, 2) := by decide +kernel
theorem dX5_init_36 : decode cX5_init 36 = .ok (.putfield 18, 3) := by decide +kernel
theorem dX5_init_39 : decode cX5_init 39 = .ok (.aload_n 0, 1) := by decide +kernel
theorem dX5_init_40 : decode cX5_init 40 = .ok (.iconst 2, 1) := by decide +kernel
theorem dX5_init_41 : decode cX5_init 41 = .ok (.newarray .int, 2) := by decide +kernel
theorem dX5_init_43 : decode cX5_init 43 = .ok (.putfield 22, 3) := by decide +kernel
theorem dX5_init_46 : decode cX5_init 46 = .ok (.aload_n 0, 1) := by decide +kernel
theorem dX5_init_47 : decode cX5_init 47 = .ok (.iconst 2, 1) := by decide +kernel
theorem dX5_init_48 : decode cX5_init 48 = .ok (.bipush 100, 2) := by decide +kernel
theorem dX5_init_50 : decode cX5_init 50 = .ok (.multianewarray 25 2, 4) := by decide +kernel
theorem dX5_init_54 : decode cX5_init 54 = .ok (.putfield 27, 3) := by decide +kernel
theorem dX5_init_57 : decode cX5_init 57 = .ok (.aload_n 0, 1) := by decide +kernel
theorem dX5_init_58 : decode cX5_init 58 = .ok (.iconst 2, 1) := by decide +kernel
theorem dX5_init_59 : decode cX5_init 59 = .ok (.bipush 100, 2) := by decide +kernel
theorem dX5_init_61 : decode cX5_init 61 = .ok (.multianewarray 25 2, 4) := by decide +kernel
theorem dX5_init_65 : decode cX5_init 65 = .ok (.putfield 30, 3) := by decide +kernel
theorem dX5_init_68 : decode cX5_init 68 = .ok (.aload_n 0, 1) := by decide +kernel
theorem dX5_init_69 : decode cX5_init 69 = .ok (.iconst 2, 1) := by decide +kernel
theorem dX5_init_70 : decode cX5_init 70 = .ok (.iconst 5, 1) := by decide +kernel
theorem dX5_init_71 : decode cX5_init 71 = .ok (.multianewarray 25 2, 4) := by decide +kernel
theorem dX5_init_75 : decode cX5_init 75 = .ok (.putfield 33, 3) := by decide +kernel
theorem dX5_init_78 : decode cX5_init 78 = .ok (.aload_n 0, 1) := by decide +kernel
theorem dX5_init_79 : decode cX5_init 79 = .ok (.iconst 2, 1) := by decide +kernel
theorem dX5_init_80 : decode cX5_init 80 = .ok (.newarray .int, 2) := by decide +kernel
theorem dX5_init_82 : decode cX5_init 82 = .ok (.putfield 36, 3) := by decide +kernel
theorem dX5_init_85 : decode cX5_init 85 = .ok (.aload_n 0, 1) := by decide +kernel
theorem dX5_init_86 : decode cX5_init 86 = .ok (.iconst 2, 1) := by decide +kernel
theorem dX5_init_87 : decode cX5_init 87 = .ok (.iconst 4, 1) := by decide +kernel
theorem dX5_init_88 : decode cX5_init 88 = .ok (.multianewarray 25 2, 4) := by decide +kernel
theorem dX5_init_92 : decode cX5_init 92 = .ok (.putfield 39, 3) := by decide +kernel
theorem dX5_init_95 : decode cX5_init 95 = .ok (.aload_n 0, 1) := by decide +kernel
theorem dX5_init_96 : decode cX5_init 96 = .ok (.iconst 2, 1) := by decide +kernel
theorem dX5_init_97 : decode cX5_init 97 = .ok (.newarray .int, 2) := by decide +kernel
theorem dX5_init_99 : decode cX5_init 99 = .ok (.putfield 42, 3) := by decide +kernel
theorem dX5_init_102 : decode cX5_init 102 = .ok (.aload_n 0, 1) := by decide +kernel
theorem dX5_init_103 : decode cX5_init 103 = .ok (.iconst 2, 1) := by decide +kernel
theorem dX5_init_104 : decode cX5_init 104 = .ok (.newarray .int, 2) := by decide +kernel
theorem dX5_init_106 : decode cX5_init 106 = .ok (.putfield 45, 3) := by decide +kernel
theorem dX5_init_109 : decode cX5_init 109 = .ok (.aload_n 0, 1) := by decide +kernel
theorem dX5_init_110 : decode cX5_init 110 = .ok (.aload_n 1, 1) := by decide +kernel
theorem dX5_init_111 : decode cX5_init 111 = .ok (.putfield 48, 3) := by decide +kernel
theorem dX5_init_114 : decode cX5_init 114 = .ok (.return_, 1) := by decide +kernel
theorem dX5_play_0 : decode cX5_play 0 = .ok (.aload_n 0, 1) := by decide +kernel
theorem dX5_play_1 : decode cX5_play 1 = .ok (.invokevirtual 52, 3) := by decide +kernel
theorem dX5_play_4 : decode cX5_play 4 = .ok (.aload_n 0, 1) := by decide +kernel
theorem dX5_play_5 : decode cX5_play 5 = .ok (.iload_n 1, 1) := by decide +kernel
theorem dX5_play_6 : decode cX5_play 6 = .ok (.invokevirtual 55, 3) := by decide +kernel
theorem dX5_play_9 : decode cX5_play 9 = .ok (.return_, 1) := by decide +kernel
theorem dX5_follow_0 : decode cX5_follow 0 = .ok (.iconst 0, 1) := by decide +kernel
theorem dX5_follow_1 : decode cX5_follow 1 = .ok (.istore_n 1, 1) := by decide +kernel
theorem dX5_follow_2 : decode cX5_follow 2 = .ok (.iload_n 1, 1) := by decide +kernel
theorem dX5_follow_3 : decode cX5_follow 3 = .ok (.iconst 2, 1) := by decide +kernel
theorem dX5_follow_4 : decode cX5_follow 4 = .ok (.if_icmp .ge 36, 3) := by decide +kernel
theorem dX5_follow_7 : decode cX5_follow 7 = .ok (.aload_n 0, 1) := by decide +kernel
theorem dX5_follow_8 : decode cX5_follow 8 = .ok (.getfield 12, 3) := by decide +kernel
theorem dX5_follow_11 : decode cX5_follow 11 = .ok (.iload_n 1, 1) := by decide +kernel
theorem dX5_follow_12 : decode cX5_follow 12 = .ok (.aaload, 1) := by decide +kernel
theorem dX5_follow_13 : decode cX5_follow 13 = .ok (.aload_n 0, 1) := by decide +kernel
theorem dX5_follow_14 : decode cX5_follow 14 = .ok (.getfield 48, 3) := by decide +kernel
theorem dX5_follow_17 : decode cX5_follow 17 = .ok (.getfield 59, 3) := by decide +kernel
theorem dX5_follow_20 : decode cX5_follow 20 = .ok (.iload_n 1, 1) := by decide +kernel
theorem dX5_follow_21 : decode cX5_follow 21 = .ok (.aaload, 1) := by decide +kernel
theorem dX5_follow_22 : decode cX5_follow 22 = .ok (.aload_n 0, 1) := by decide +kernel
theorem dX5_follow_23 : decode cX5_follow 23 = .ok (.getfield 48, 3) := by decide +kernel
theorem dX5_follow_26 : decode cX5_follow 26 = .ok (.getfield 65, 3) := by decide +kernel
theorem dX5_follow_29 : decode cX5_follow 29 = .ok (.iload_n 1, 1) := by decide +kernel
theorem dX5_follow_30 : decode cX5_follow 30 = .ok (.aaload, 1) := by decide +kernel
theorem dX5_follow_31 : decode cX5_follow 31 = .ok (.invokevirtual 68, 3) := by decide +kernel
theorem dX5_follow_34 : decode cX5_follow 34 = .ok (.iinc 1 1, 3) := by decide +kernel
theorem dX5_follow_37 : decode cX5_follow 37 = .ok (.goto (-35), 3) := by decide +kernel
theorem dX5_follow_40 : decode cX5_follow 40 = .ok (.return_, 1) := by decide +kernel
theorem dX5_schedule_0 : decode cX5_schedule 0 = .ok (.aload_n 0, 1) := by decide +kernel
theorem dX5_schedule_1 : decode cX5_schedule 1 = .ok (.iload_n 1, 1) := by decide +kernel
theorem dX5_schedule_2 : decode cX5_schedule 2 = .ok (.putfield 71, 3) := by decide +kernel
theorem dX5_schedule_5 : decode cX5_schedule 5 = .ok (.aload_n 0, 1) := by decide +kernel
theorem dX5_schedule_6 : decode cX5_schedule 6 = .ok (.invokevirtual 75, 3) := by decide +kernel
theorem dX5_schedule_9 : decode cX5_schedule 9 = .ok (.iconst 0, 1) := by decide +kernel
theorem dX5_schedule_10 : decode cX5_schedule 10 = .ok (.istore_n 2, 1) := by decide +kernel
theorem dX5_schedule_11 : decode cX5_schedule 11 = .ok (.iload_n 2, 1) := by decide +kernel
theorem dX5_schedule_12 : decode cX5_schedule 12 = .ok (.sipush 4096, 3) := by decide +kernel
theorem dX5_schedule_15 : decode cX5_schedule 15 = .ok (.if_icmp .ge 30, 3) := by decide +kernel
theorem dX5_schedule_18 : decode cX5_schedule 18 = .ok (.aload_n 0, 1) := by decide +kernel
theorem dX5_schedule_19 : decode cX5_schedule 19 = .ok (.iconst 0, 1) := by decide +kernel
theorem dX5_schedule_20 : decode cX5_schedule 20 = .ok (.invokevirtual 78, 3) := by decide +kernel
theorem dX5_schedule_23 : decode cX5_schedule 23 = .ok (.ifCond .ne 11, 3) := by decide +kernel
theorem dX5_schedule_26 : decode cX5_schedule 26 = .ok (.aload_n 0, 1) := by decide +kernel
theorem dX5_schedule_27 : decode cX5_schedule 27 = .ok (.iconst 1, 1) := by decide +kernel
theorem dX5_schedule_28 : decode cX5_schedule 28 = .ok (.invokevirtual 78, 3) := by decide +kernel
theorem dX5_schedule_31 : decode cX5_schedule 31 = .ok (.ifCond .eq 14, 3) := by decide +kernel
theorem dX5_schedule_34 : decode cX5_schedule 34 = .ok (.aload_n 0, 1) := by decide +kernel
theorem dX5_schedule_35 : decode cX5_schedule 35 = .ok (.iload_n 2, 1) := by decide +kernel
theorem dX5_schedule_36 : decode cX5_schedule 36 = .ok (.invokevirtual 82, 3) := by decide +kernel
theorem dX5_schedule_39 : decode cX5_schedule 39 = .ok (.iinc 2 1, 3) := by decide +kernel
theorem dX5_schedule_42 : decode cX5_schedule 42 = .ok (.goto (-31), 3) := by decide +kernel
theorem dX5_schedule_45 : decode cX5_schedule 45 = .ok (.return_, 1) := by decide +kernel
theorem dX5_clear_0 : decode cX5_clear 0 = .ok (.iconst 0, 1) := by decide +kernel
theorem dX5_clear_1 : decode cX5_clear 1 = .ok (.istore_n 1, 1) := by decide +kernel
theorem dX5_clear_2 : decode cX5_clear 2 = .ok (.iload_n 1, 1) := by decide +kernel
theorem dX5_clear_3 : decode cX5_clear 3 = .ok (.iconst 2, 1) := by decide +kernel
theorem dX5_clear_4 : decode cX5_clear 4 = .ok (.if_icmp .ge 16, 3) := by decide +kernel
theorem dX5_clear_7 : decode cX5_clear 7 = .ok (.aload_n 0, 1) := by decide +kernel
theorem dX5_clear_8 : decode cX5_clear 8 = .ok (.getfield 42, 3) := by decide +kernel
theorem dX5_clear_11 : decode cX5_clear 11 = .ok (.iload_n 1, 1) := by decide +kernel
theorem dX5_clear_12 : decode cX5_clear 12 = .ok (.iconst 0, 1) := by decide +kernel
theorem dX5_clear_13 : decode cX5_clear 13 = .ok (.iastore, 1) := by decide +kernel
theorem dX5_clear_14 : decode cX5_clear 14 = .ok (.iinc 1 1, 3) := by decide +kernel
theorem dX5_clear_17 : decode cX5_clear 17 = .ok (.goto (-15), 3) := by decide +kernel
theorem dX5_clear_20 : decode cX5_clear 20 = .ok (.iconst 0, 1) := by decide +kernel
theorem dX5_clear_21 : decode cX5_clear 21 = .ok (.istore_n 1, 1) := by decide +kernel
theorem dX5_clear_22 : decode cX5_clear 22 = .ok (.iload_n 1, 1) := by decide +kernel
theorem dX5_clear_23 : decode cX5_clear 23 = .ok (.iconst 2, 1) := by decide +kernel
theorem dX5_clear_24 : decode cX5_clear 24 = .ok (.if_icmp .ge 67, 3) := by decide +kernel
theorem dX5_clear_27 : decode cX5_clear 27 = .ok (.aload_n 0, 1) := by decide +kernel
theorem dX5_clear_28 : decode cX5_clear 28 = .ok (.getfield 18, 3) := by decide +kernel
theorem dX5_clear_31 : decode cX5_clear 31 = .ok (.iload_n 1, 1) := by decide +kernel
theorem dX5_clear_32 : decode cX5_clear 32 = .ok (.iconst 0, 1) := by decide +kernel
theorem dX5_clear_33 : decode cX5_clear 33 = .ok (.iastore, 1) := by decide +kernel
theorem dX5_clear_34 : decode cX5_clear 34 = .ok (.aload_n 0, 1) := by decide +kernel
theorem dX5_clear_35 : decode cX5_clear 35 = .ok (.getfield 22, 3) := by decide +kernel
theorem dX5_clear_38 : decode cX5_clear 38 = .ok (.iload_n 1, 1) := by decide +kernel
theorem dX5_clear_39 : decode cX5_clear 39 = .ok (.iconst 0, 1) := by decide +kernel
theorem dX5_clear_40 : decode cX5_clear 40 = .ok (.iastore, 1) := by decide +kernel
theorem dX5_clear_41 : decode cX5_clear 41 = .ok (.iconst 0, 1) := by decide +kernel
theorem dX5_clear_42 : decode cX5_clear 42 = .ok (.istore_n 2, 1) := by decide +kernel
theorem dX5_clear_43 : decode cX5_clear 43 = .ok (.iload_n 2, 1) := by decide +kernel
theorem dX5_clear_44 : decode cX5_clear 44 = .ok (.iconst 5, 1) := by decide +kernel
theorem dX5_clear_45 : decode cX5_clear 45 = .ok (.if_icmp .ge 18, 3) := by decide +kernel
theorem dX5_clear_48 : decode cX5_clear 48 = .ok (.aload_n 0, 1) := by decide +kernel
theorem dX5_clear_49 : decode cX5_clear 49 = .ok (.getfield 33, 3) := by decide +kernel
theorem dX5_clear_52 : decode cX5_clear 52 = .ok (.iload_n 1, 1) := by decide +kernel
theorem dX5_clear_53 : decode cX5_clear 53 = .ok (.aaload, 1) := by decide +kernel
theorem dX5_clear_54 : decode cX5_clear 54 = .ok (.iload_n 2, 1) := by decide +kernel
theorem dX5_clear_55 : decode cX5_clear 55 = .ok (.iconst 0, 1) := by decide +kernel
theorem dX5_clear_56 : decode cX5_clear 56 = .ok (.iastore, 1) := by decide +kernel
theorem dX5_clear_57 : decode cX5_clear 57 = .ok (.iinc 2 1, 3) := by decide +kernel
theorem dX5_clear_60 : decode cX5_clear 60 = .ok (.goto (-17), 3) := by decide +kernel
theorem dX5_clear_63 : decode cX5_clear 63 = .ok (.iconst 0, 1) := by decide +kernel
theorem dX5_clear_64 : decode cX5_clear 64 = .ok (.istore_n 2, 1) := by decide +kernel
theorem dX5_clear_65 : decode cX5_clear 65 = .ok (.iload_n 2, 1) := by decide +kernel
theorem dX5_clear_66 : decode cX5_clear 66 = .ok (.iconst 4, 1) := by decide +kernel
theorem dX5_clear_67 : decode cX5_clear 67 = .ok (.if_icmp .ge 18, 3) := by decide +kernel
theorem dX5_clear_70 : decode cX5_clear 70 = .ok (.aload_n 0, 1) := by decide +kernel
theorem dX5_clear_71 : decode cX5_clear 71 = .ok (.getfield 39, 3) := by decide +kernel
theorem dX5_clear_74 : decode cX5_clear 74 = .ok (.iload_n 1, 1) := by decide +kernel
theorem dX5_clear_75 : decode cX5_clear 75 = .ok (.aaload, 1) := by decide +kernel
theorem dX5_clear_76 : decode cX5_clear 76 = .ok (.iload_n 2, 1) := by decide +kernel
theorem dX5_clear_77 : decode cX5_clear 77 = .ok (.iconst 0, 1) := by decide +kernel
theorem dX5_clear_78 : decode cX5_clear 78 = .ok (.iastore, 1) := by decide +kernel
theorem dX5_clear_79 : decode cX5_clear 79 = .ok (.iinc 2 1, 3) := by decide +kernel
theorem dX5_clear_82 : decode cX5_clear 82 = .ok (.goto (-17), 3) := by decide +kernel
theorem dX5_clear_85 : decode cX5_clear 85 = .ok (.iinc 1 1, 3) := by decide +kernel
theorem dX5_clear_88 : decode cX5_clear 88 = .ok (.goto (-66), 3) := by decide +kernel
theorem dX5_clear_91 : decode cX5_clear 91 = .ok (.return_, 1) := by decide +kernel
theorem dX5_hasStep_0 : decode cX5_hasStep 0 = .ok (.aload_n 0, 1) := by decide +kernel
theorem dX5_hasStep_1 : decode cX5_hasStep 1 = .ok (.getfield 18, 3) := by decide +kernel
theorem dX5_hasStep_4 : decode cX5_hasStep 4 = .ok (.iload_n 1, 1) := by decide +kernel
theorem dX5_hasStep_5 : decode cX5_hasStep 5 = .ok (.iaload, 1) := by decide +kernel
theorem dX5_hasStep_6 : decode cX5_hasStep 6 = .ok (.aload_n 0, 1) := by decide +kernel
theorem dX5_hasStep_7 : decode cX5_hasStep 7 = .ok (.getfield 12, 3) := by decide +kernel
theorem dX5_hasStep_10 : decode cX5_hasStep 10 = .ok (.iload_n 1, 1) := by decide +kernel
theorem dX5_hasStep_11 : decode cX5_hasStep 11 = .ok (.aaload, 1) := by decide +kernel
theorem dX5_hasStep_12 : decode cX5_hasStep 12 = .ok (.getfield 85, 3) := by decide +kernel
theorem dX5_hasStep_15 : decode cX5_hasStep 15 = .ok (.if_icmp .ge 7, 3) := by decide +kernel
theorem dX5_hasStep_18 : decode cX5_hasStep 18 = .ok (.iconst 1, 1) := by decide +kernel
theorem dX5_hasStep_19 : decode cX5_hasStep 19 = .ok (.goto 4, 3) := by decide +kernel
theorem dX5_hasStep_22 : decode cX5_hasStep 22 = .ok (.iconst 0, 1) := by decide +kernel
theorem dX5_hasStep_23 : decode cX5_hasStep 23 = .ok (.ireturn, 1) := by decide +kernel
theorem dX5_playTick_0 : decode cX5_playTick 0 = .ok (.iconst 0, 1) := by decide +kernel
theorem dX5_playTick_1 : decode cX5_playTick 1 = .ok (.istore_n 2, 1) := by decide +kernel
theorem dX5_playTick_2 : decode cX5_playTick 2 = .ok (.iload_n 2, 1) := by decide +kernel
theorem dX5_playTick_3 : decode cX5_playTick 3 = .ok (.iconst 2, 1) := by decide +kernel
theorem dX5_playTick_4 : decode cX5_playTick 4 = .ok (.if_icmp .ge 21, 3) := by decide +kernel
theorem dX5_playTick_7 : decode cX5_playTick 7 = .ok (.aload_n 0, 1) := by decide +kernel
theorem dX5_playTick_8 : decode cX5_playTick 8 = .ok (.getfield 36, 3) := by decide +kernel
theorem dX5_playTick_11 : decode cX5_playTick 11 = .ok (.iload_n 2, 1) := by decide +kernel
theorem dX5_playTick_12 : decode cX5_playTick 12 = .ok (.aload_n 0, 1) := by decide +kernel
theorem dX5_playTick_13 : decode cX5_playTick 13 = .ok (.iload_n 2, 1) := by decide +kernel
theorem dX5_playTick_14 : decode cX5_playTick 14 = .ok (.iload_n 1, 1) := by decide +kernel
theorem dX5_playTick_15 : decode cX5_playTick 15 = .ok (.invokevirtual 88, 3) := by decide +kernel
theorem dX5_playTick_18 : decode cX5_playTick 18 = .ok (.iastore, 1) := by decide +kernel
theorem dX5_playTick_19 : decode cX5_playTick 19 = .ok (.iinc 2 1, 3) := by decide +kernel
theorem dX5_playTick_22 : decode cX5_playTick 22 = .ok (.goto (-20), 3) := by decide +kernel
theorem dX5_playTick_25 : decode cX5_playTick 25 = .ok (.aload_n 0, 1) := by decide +kernel
theorem dX5_playTick_26 : decode cX5_playTick 26 = .ok (.iload_n 1, 1) := by decide +kernel
theorem dX5_playTick_27 : decode cX5_playTick 27 = .ok (.invokevirtual 92, 3) := by decide +kernel
theorem dX5_playTick_30 : decode cX5_playTick 30 = .ok (.istore_n 2, 1) := by decide +kernel
theorem dX5_playTick_31 : decode cX5_playTick 31 = .ok (.iconst 0, 1) := by decide +kernel
theorem dX5_playTick_32 : decode cX5_playTick 32 = .ok (.istore_n 3, 1) := by decide +kernel
theorem dX5_playTick_33 : decode cX5_playTick 33 = .ok (.iload_n 3, 1) := by decide +kernel
theorem dX5_playTick_34 : decode cX5_playTick 34 = .ok (.iconst 2, 1) := by decide +kernel
theorem dX5_playTick_35 : decode cX5_playTick 35 = .ok (.if_icmp .ge 52, 3) := by decide +kernel
theorem dX5_playTick_38 : decode cX5_playTick 38 = .ok (.iload_n 3, 1) := by decide +kernel
theorem dX5_playTick_39 : decode cX5_playTick 39 = .ok (.iload_n 2, 1) := by decide +kernel
theorem dX5_playTick_40 : decode cX5_playTick 40 = .ok (.if_icmp .eq 41, 3) := by decide +kernel
theorem dX5_playTick_43 : decode cX5_playTick 43 = .ok (.aload_n 0, 1) := by decide +kernel
theorem dX5_playTick_44 : decode cX5_playTick 44 = .ok (.iload_n 3, 1) := by decide +kernel
theorem dX5_playTick_45 : decode cX5_playTick 45 = .ok (.invokevirtual 78, 3) := by decide +kernel
theorem dX5_playTick_48 : decode cX5_playTick 48 = .ok (.ifCond .eq 33, 3) := by decide +kernel
theorem dX5_playTick_51 : decode cX5_playTick 51 = .ok (.aload_n 0, 1) := by decide +kernel
theorem dX5_playTick_52 : decode cX5_playTick 52 = .ok (.getfield 36, 3) := by decide +kernel
theorem dX5_playTick_55 : decode cX5_playTick 55 = .ok (.iload_n 3, 1) := by decide +kernel
theorem dX5_playTick_56 : decode cX5_playTick 56 = .ok (.iaload, 1) := by decide +kernel
theorem dX5_playTick_57 : decode cX5_playTick 57 = .ok (.istore 4, 2) := by decide +kernel
theorem dX5_playTick_59 : decode cX5_playTick 59 = .ok (.aload_n 0, 1) := by decide +kernel
theorem dX5_playTick_60 : decode cX5_playTick 60 = .ok (.getfield 33, 3) := by decide +kernel
theorem dX5_playTick_63 : decode cX5_playTick 63 = .ok (.iload_n 3, 1) := by decide +kernel
theorem dX5_playTick_64 : decode cX5_playTick 64 = .ok (.aaload, 1) := by decide +kernel
theorem dX5_playTick_65 : decode cX5_playTick 65 = .ok (.iload 4, 2) := by decide +kernel
theorem dX5_playTick_67 : decode cX5_playTick 67 = .ok (.ifCond .ne 7, 3) := by decide +kernel
theorem dX5_playTick_70 : decode cX5_playTick 70 = .ok (.iconst 4, 1) := by decide +kernel
theorem dX5_playTick_71 : decode cX5_playTick 71 = .ok (.goto 5, 3) := by decide +kernel
theorem dX5_playTick_74 : decode cX5_playTick 74 = .ok (.iload 4, 2) := by decide +kernel
theorem dX5_playTick_76 : decode cX5_playTick 76 = .ok (.dup2, 1) := by decide +kernel
theorem dX5_playTick_77 : decode cX5_playTick 77 = .ok (.iaload, 1) := by decide +kernel
theorem dX5_playTick_78 : decode cX5_playTick 78 = .ok (.iconst 1, 1) := by decide +kernel
theorem dX5_playTick_79 : decode cX5_playTick 79 = .ok (.iadd, 1) := by decide +kernel
theorem dX5_playTick_80 : decode cX5_playTick 80 = .ok (.iastore, 1) := by decide +kernel
theorem dX5_playTick_81 : decode cX5_playTick 81 = .ok (.iinc 3 1, 3) := by decide +kernel
theorem dX5_playTick_84 : decode cX5_playTick 84 = .ok (.goto (-51), 3) := by decide +kernel
theorem dX5_playTick_87 : decode cX5_playTick 87 = .ok (.iload_n 2, 1) := by decide +kernel
theorem dX5_playTick_88 : decode cX5_playTick 88 = .ok (.bipush (-6), 2) := by decide +kernel
theorem dX5_playTick_90 : decode cX5_playTick 90 = .ok (.if_icmp .eq 9, 3) := by decide +kernel
theorem dX5_playTick_93 : decode cX5_playTick 93 = .ok (.aload_n 0, 1) := by decide +kernel
theorem dX5_playTick_94 : decode cX5_playTick 94 = .ok (.iload_n 2, 1) := by decide +kernel
theorem dX5_playTick_95 : decode cX5_playTick 95 = .ok (.iload_n 1, 1) := by decide +kernel
theorem dX5_playTick_96 : decode cX5_playTick 96 = .ok (.invokevirtual 96, 3) := by decide +kernel
theorem dX5_playTick_99 : decode cX5_playTick 99 = .ok (.return_, 1) := by decide +kernel
theorem dX5_hindranceOf_0 : decode cX5_hindranceOf 0 = .ok (.aload_n 0, 1) := by decide +kernel
theorem dX5_hindranceOf_1 : decode cX5_hindranceOf 1 = .ok (.iload_n 1, 1) := by decide +kernel
theorem dX5_hindranceOf_2 : decode cX5_hindranceOf 2 = .ok (.invokevirtual 78, 3) := by decide +kernel
theorem dX5_hindranceOf_5 : decode cX5_hindranceOf 5 = .ok (.ifCond .ne 5, 3) := by decide +kernel
theorem dX5_hindranceOf_8 : decode cX5_hindranceOf 8 = .ok (.iconst 5, 1) := by decide +kernel
theorem dX5_hindranceOf_9 : decode cX5_hindranceOf 9 = .ok (.ireturn, 1) := by decide +kernel
theorem dX5_hindranceOf_10 : decode cX5_hindranceOf 10 = .ok (.aload_n 0, 1) := by decide +kernel
theorem dX5_hindranceOf_11 : decode cX5_hindranceOf 11 = .ok (.getfield 48, 3) := by decide +kernel
theorem dX5_hindranceOf_14 : decode cX5_hindranceOf 14 = .ok (.getfield 59, 3) := by decide +kernel
theorem dX5_hindranceOf_17 : decode cX5_hindranceOf 17 = .ok (.iload_n 1, 1) := by decide +kernel
theorem dX5_hindranceOf_18 : decode cX5_hindranceOf 18 = .ok (.aaload, 1) := by decide +kernel
theorem dX5_hindranceOf_19 : decode cX5_hindranceOf 19 = .ok (.astore_n 3, 1) := by decide +kernel
theorem dX5_hindranceOf_20 : decode cX5_hindranceOf 20 = .ok (.aload_n 0, 1) := by decide +kernel
theorem dX5_hindranceOf_21 : decode cX5_hindranceOf 21 = .ok (.getfield 12, 3) := by decide +kernel
theorem dX5_hindranceOf_24 : decode cX5_hindranceOf 24 = .ok (.iload_n 1, 1) := by decide +kernel
theorem dX5_hindranceOf_25 : decode cX5_hindranceOf 25 = .ok (.aaload, 1) := by decide +kernel
theorem dX5_hindranceOf_26 : decode cX5_hindranceOf 26 = .ok (.getfield 100, 3) := by decide +kernel
theorem dX5_hindranceOf_29 : decode cX5_hindranceOf 29 = .ok (.aload_n 0, 1) := by decide +kernel
theorem dX5_hindranceOf_30 : decode cX5_hindranceOf 30 = .ok (.getfield 18, 3) := by decide +kernel
theorem dX5_hindranceOf_33 : decode cX5_hindranceOf 33 = .ok (.iload_n 1, 1) := by decide +kernel
theorem dX5_hindranceOf_34 : decode cX5_hindranceOf 34 = .ok (.iaload, 1) := by decide +kernel
theorem dX5_hindranceOf_35 : decode cX5_hindranceOf 35 = .ok (.iaload, 1) := by decide +kernel
theorem dX5_hindranceOf_36 : decode cX5_hindranceOf 36 = .ok (.istore 4, 2) := by decide +kernel
theorem dX5_hindranceOf_38 : decode cX5_hindranceOf 38 = .ok (.iconst 1, 1) := by decide +kernel
theorem dX5_hindranceOf_39 : decode cX5_hindranceOf 39 = .ok (.istore 5, 2) := by decide +kernel
theorem dX5_hindranceOf_41 : decode cX5_hindranceOf 41 = .ok (.iload 5, 2) := by decide +kernel
theorem dX5_hindranceOf_43 : decode cX5_hindranceOf 43 = .ok (.iconst 3, 1) := by decide +kernel
theorem dX5_hindranceOf_44 : decode cX5_hindranceOf 44 = .ok (.if_icmp .gt 28, 3) := by decide +kernel
theorem dX5_hindranceOf_47 : decode cX5_hindranceOf 47 = .ok (.aload_n 0, 1) := by decide +kernel
theorem dX5_hindranceOf_48 : decode cX5_hindranceOf 48 = .ok (.iload_n 1, 1) := by decide +kernel
theorem dX5_hindranceOf_49 : decode cX5_hindranceOf 49 = .ok (.aload_n 3, 1) := by decide +kernel
theorem dX5_hindranceOf_50 : decode cX5_hindranceOf 50 = .ok (.iload 4, 2) := by decide +kernel
theorem dX5_hindranceOf_52 : decode cX5_hindranceOf 52 = .ok (.iload 5, 2) := by decide +kernel
theorem dX5_hindranceOf_54 : decode cX5_hindranceOf 54 = .ok (.invokevirtual 103, 3) := by decide +kernel
theorem dX5_hindranceOf_57 : decode cX5_hindranceOf 57 = .ok (.iload_n 2, 1) := by decide +kernel
theorem dX5_hindranceOf_58 : decode cX5_hindranceOf 58 = .ok (.invokevirtual 108, 3) := by decide +kernel
theorem dX5_hindranceOf_61 : decode cX5_hindranceOf 61 = .ok (.ifCond .ne 5, 3) := by decide +kernel
theorem dX5_hindranceOf_64 : decode cX5_hindranceOf 64 = .ok (.iconst 1, 1) := by decide +kernel
theorem dX5_hindranceOf_65 : decode cX5_hindranceOf 65 = .ok (.ireturn, 1) := by decide +kernel
theorem dX5_hindranceOf_66 : decode cX5_hindranceOf 66 = .ok (.iinc 5 1, 3) := by decide +kernel
theorem dX5_hindranceOf_69 : decode cX5_hindranceOf 69 = .ok (.goto (-28), 3) := by decide +kernel
theorem dX5_hindranceOf_72 : decode cX5_hindranceOf 72 = .ok (.aload_n 3, 1) := by decide +kernel
theorem dX5_hindranceOf_73 : decode cX5_hindranceOf 73 = .ok (.iload 4, 2) := by decide +kernel
theorem dX5_hindranceOf_75 : decode cX5_hindranceOf 75 = .ok (.invokevirtual 112, 3) := by decide +kernel
theorem dX5_hindranceOf_78 : decode cX5_hindranceOf 78 = .ok (.istore 5, 2) := by decide +kernel
theorem dX5_hindranceOf_80 : decode cX5_hindranceOf 80 = .ok (.iload 5, 2) := by decide +kernel
theorem dX5_hindranceOf_82 : decode cX5_hindranceOf 82 = .ok (.bipush (-6), 2) := by decide +kernel
theorem dX5_hindranceOf_84 : decode cX5_hindranceOf 84 = .ok (.if_icmp .eq 23, 3) := by decide +kernel
theorem dX5_hindranceOf_87 : decode cX5_hindranceOf 87 = .ok (.iload 5, 2) := by decide +kernel
theorem dX5_hindranceOf_89 : decode cX5_hindranceOf 89 = .ok (.aload_n 0, 1) := by decide +kernel
theorem dX5_hindranceOf_90 : decode cX5_hindranceOf 90 = .ok (.getfield 71, 3) := by decide +kernel
theorem dX5_hindranceOf_93 : decode cX5_hindranceOf 93 = .ok (.if_icmp .eq 14, 3) := by decide +kernel
theorem dX5_hindranceOf_96 : decode cX5_hindranceOf 96 = .ok (.aload_n 0, 1) := by decide +kernel
theorem dX5_hindranceOf_97 : decode cX5_hindranceOf 97 = .ok (.getfield 42, 3) := by decide +kernel
theorem dX5_hindranceOf_100 : decode cX5_hindranceOf 100 = .ok (.iload 5, 2) := by decide +kernel
theorem dX5_hindranceOf_102 : decode cX5_hindranceOf 102 = .ok (.iaload, 1) := by decide +kernel
theorem dX5_hindranceOf_103 : decode cX5_hindranceOf 103 = .ok (.iload_n 2, 1) := by decide +kernel
theorem dX5_hindranceOf_104 : decode cX5_hindranceOf 104 = .ok (.if_icmp .gt 5, 3) := by decide +kernel
theorem dX5_hindranceOf_107 : decode cX5_hindranceOf 107 = .ok (.iconst 0, 1) := by decide +kernel
theorem dX5_hindranceOf_108 : decode cX5_hindranceOf 108 = .ok (.ireturn, 1) := by decide +kernel
theorem dX5_hindranceOf_109 : decode cX5_hindranceOf 109 = .ok (.aload_n 0, 1) := by decide +kernel
theorem dX5_hindranceOf_110 : decode cX5_hindranceOf 110 = .ok (.getfield 45, 3) := by decide +kernel
theorem dX5_hindranceOf_113 : decode cX5_hindranceOf 113 = .ok (.iload 5, 2) := by decide +kernel
theorem dX5_hindranceOf_115 : decode cX5_hindranceOf 115 = .ok (.iaload, 1) := by decide +kernel
theorem dX5_hindranceOf_116 : decode cX5_hindranceOf 116 = .ok (.iload_n 1, 1) := by decide +kernel
theorem dX5_hindranceOf_117 : decode cX5_hindranceOf 117 = .ok (.if_icmp .ne 7, 3) := by decide +kernel
theorem dX5_hindranceOf_120 : decode cX5_hindranceOf 120 = .ok (.iconst 2, 1) := by decide +kernel
theorem dX5_hindranceOf_121 : decode cX5_hindranceOf 121 = .ok (.goto 4, 3) := by decide +kernel
theorem dX5_hindranceOf_124 : decode cX5_hindranceOf 124 = .ok (.iconst 3, 1) := by decide +kernel
theorem dX5_hindranceOf_125 : decode cX5_hindranceOf 125 = .ok (.ireturn, 1) := by decide +kernel
theorem dX5_isReady_0 : decode cX5_isReady 0 = .ok (.iload_n 2, 1) := by decide +kernel
theorem dX5_isReady_1 : decode cX5_isReady 1 = .ok (.ifCond .lt 20, 3) := by decide +kernel
theorem dX5_isReady_4 : decode cX5_isReady 4 = .ok (.iload_n 2, 1) := by decide +kernel
theorem dX5_isReady_5 : decode cX5_isReady 5 = .ok (.iconst 4, 1) := by decide +kernel
theorem dX5_isReady_6 : decode cX5_isReady 6 = .ok (.if_icmp .ge 15, 3) := by decide +kernel
theorem dX5_isReady_9 : decode cX5_isReady 9 = .ok (.aload_n 0, 1) := by decide +kernel
theorem dX5_isReady_10 : decode cX5_isReady 10 = .ok (.getfield 39, 3) := by decide +kernel
theorem dX5_isReady_13 : decode cX5_isReady 13 = .ok (.iload_n 1, 1) := by decide +kernel
theorem dX5_isReady_14 : decode cX5_isReady 14 = .ok (.aaload, 1) := by decide +kernel
theorem dX5_isReady_15 : decode cX5_isReady 15 = .ok (.iload_n 2, 1) := by decide +kernel
theorem dX5_isReady_16 : decode cX5_isReady 16 = .ok (.iaload, 1) := by decide +kernel
theorem dX5_isReady_17 : decode cX5_isReady 17 = .ok (.iload_n 3, 1) := by decide +kernel
theorem dX5_isReady_18 : decode cX5_isReady 18 = .ok (.if_icmp .gt 7, 3) := by decide +kernel
theorem dX5_isReady_21 : decode cX5_isReady 21 = .ok (.iconst 1, 1) := by decide +kernel
theorem dX5_isReady_22 : decode cX5_isReady 22 = .ok (.goto 4, 3) := by decide +kernel
theorem dX5_isReady_25 : decode cX5_isReady 25 = .ok (.iconst 0, 1) := by decide +kernel
theorem dX5_isReady_26 : decode cX5_isReady 26 = .ok (.ireturn, 1) := by decide +kernel
theorem dX5_starterNow_0 : decode cX5_starterNow 0 = .ok (.iload_n 1, 1) := by decide +kernel
theorem dX5_starterNow_1 : decode cX5_starterNow 1 = .ok (.iconst 2, 1) := by decide +kernel
theorem dX5_starterNow_2 : decode cX5_starterNow 2 = .ok (.invokestatic 115, 3) := by decide +kernel
theorem dX5_starterNow_5 : decode cX5_starterNow 5 = .ok (.istore_n 2, 1) := by decide +kernel
theorem dX5_starterNow_6 : decode cX5_starterNow 6 = .ok (.iconst 1, 1) := by decide +kernel
theorem dX5_starterNow_7 : decode cX5_starterNow 7 = .ok (.iload_n 2, 1) := by decide +kernel
theorem dX5_starterNow_8 : decode cX5_starterNow 8 = .ok (.isub, 1) := by decide +kernel
theorem dX5_starterNow_9 : decode cX5_starterNow 9 = .ok (.istore_n 3, 1) := by decide +kernel
theorem dX5_starterNow_10 : decode cX5_starterNow 10 = .ok (.aload_n 0, 1) := by decide +kernel
theorem dX5_starterNow_11 : decode cX5_starterNow 11 = .ok (.getfield 36, 3) := by decide +kernel
theorem dX5_starterNow_14 : decode cX5_starterNow 14 = .ok (.iload_n 2, 1) := by decide +kernel
theorem dX5_starterNow_15 : decode cX5_starterNow 15 = .ok (.iaload, 1) := by decide +kernel
theorem dX5_starterNow_16 : decode cX5_starterNow 16 = .ok (.ifCond .ne 7, 3) := by decide +kernel
theorem dX5_starterNow_19 : decode cX5_starterNow 19 = .ok (.iconst 1, 1) := by decide +kernel
theorem dX5_starterNow_20 : decode cX5_starterNow 20 = .ok (.goto 4, 3) := by decide +kernel
theorem dX5_starterNow_23 : decode cX5_starterNow 23 = .ok (.iconst 0, 1) := by decide +kernel
theorem dX5_starterNow_24 : decode cX5_starterNow 24 = .ok (.istore 4, 2) := by decide +kernel
theorem dX5_starterNow_26 : decode cX5_starterNow 26 = .ok (.aload_n 0, 1) := by decide +kernel
theorem dX5_starterNow_27 : decode cX5_starterNow 27 = .ok (.getfield 36, 3) := by decide +kernel
theorem dX5_starterNow_30 : decode cX5_starterNow 30 = .ok (.iload_n 3, 1) := by decide +kernel
theorem dX5_starterNow_31 : decode cX5_starterNow 31 = .ok (.iaload, 1) := by decide +kernel
theorem dX5_starterNow_32 : decode cX5_starterNow 32 = .ok (.ifCond .ne 19, 3) := by decide +kernel
theorem dX5_starterNow_35 : decode cX5_starterNow 35 = .ok (.aload_n 0, 1) := by decide +kernel
theorem dX5_starterNow_36 : decode cX5_starterNow 36 = .ok (.getfield 48, 3) := by decide +kernel
theorem dX5_starterNow_39 : decode cX5_starterNow 39 = .ok (.getfield 120, 3) := by decide +kernel
theorem dX5_starterNow_42 : decode cX5_starterNow 42 = .ok (.iconst 0, 1) := by decide +kernel
theorem dX5_starterNow_43 : decode cX5_starterNow 43 = .ok (.iaload, 1) := by decide +kernel
theorem dX5_starterNow_44 : decode cX5_starterNow 44 = .ok (.ifCond .eq 7, 3) := by decide +kernel
theorem dX5_starterNow_47 : decode cX5_starterNow 47 = .ok (.iconst 1, 1) := by decide +kernel
theorem dX5_starterNow_48 : decode cX5_starterNow 48 = .ok (.goto 4, 3) := by decide +kernel
theorem dX5_starterNow_51 : decode cX5_starterNow 51 = .ok (.iconst 0, 1) := by decide +kernel
theorem dX5_starterNow_52 : decode cX5_starterNow 52 = .ok (.istore 5, 2) := by decide +kernel
theorem dX5_starterNow_54 : decode cX5_starterNow 54 = .ok (.iload 4, 2) := by decide +kernel
theorem dX5_starterNow_56 : decode cX5_starterNow 56 = .ok (.ifCond .eq 40, 3) := by decide +kernel
theorem dX5_starterNow_59 : decode cX5_starterNow 59 = .ok (.iload 5, 2) := by decide +kernel
theorem dX5_starterNow_61 : decode cX5_starterNow 61 = .ok (.ifCond .eq 35, 3) := by decide +kernel
theorem dX5_starterNow_64 : decode cX5_starterNow 64 = .ok (.aload_n 0, 1) := by decide +kernel
theorem dX5_starterNow_65 : decode cX5_starterNow 65 = .ok (.getfield 48, 3) := by decide +kernel
theorem dX5_starterNow_68 : decode cX5_starterNow 68 = .ok (.getfield 120, 3) := by decide +kernel
theorem dX5_starterNow_71 : decode cX5_starterNow 71 = .ok (.iconst 0, 1) := by decide +kernel
theorem dX5_starterNow_72 : decode cX5_starterNow 72 = .ok (.iaload, 1) := by decide +kernel
theorem dX5_starterNow_73 : decode cX5_starterNow 73 = .ok (.iconst 2, 1) := by decide +kernel
theorem dX5_starterNow_74 : decode cX5_starterNow 74 = .ok (.if_icmp .ne 22, 3) := by decide +kernel
theorem dX5_starterNow_77 : decode cX5_starterNow 77 = .ok (.aload_n 0, 1) := by decide +kernel
theorem dX5_starterNow_78 : decode cX5_starterNow 78 = .ok (.iload_n 3, 1) := by decide +kernel
theorem dX5_starterNow_79 : decode cX5_starterNow 79 = .ok (.invokevirtual 123, 3) := by decide +kernel
theorem dX5_starterNow_82 : decode cX5_starterNow 82 = .ok (.aload_n 0, 1) := by decide +kernel
theorem dX5_starterNow_83 : decode cX5_starterNow 83 = .ok (.iload_n 2, 1) := by decide +kernel
theorem dX5_starterNow_84 : decode cX5_starterNow 84 = .ok (.invokevirtual 123, 3) := by decide +kernel
theorem dX5_starterNow_87 : decode cX5_starterNow 87 = .ok (.if_icmp .ge 7, 3) := by decide +kernel
theorem dX5_starterNow_90 : decode cX5_starterNow 90 = .ok (.iload_n 3, 1) := by decide +kernel
theorem dX5_starterNow_91 : decode cX5_starterNow 91 = .ok (.goto 4, 3) := by decide +kernel
theorem dX5_starterNow_94 : decode cX5_starterNow 94 = .ok (.iload_n 2, 1) := by decide +kernel
theorem dX5_starterNow_95 : decode cX5_starterNow 95 = .ok (.ireturn, 1) := by decide +kernel
theorem dX5_starterNow_96 : decode cX5_starterNow 96 = .ok (.iload 4, 2) := by decide +kernel
theorem dX5_starterNow_98 : decode cX5_starterNow 98 = .ok (.ifCond .eq 5, 3) := by decide +kernel
theorem dX5_starterNow_101 : decode cX5_starterNow 101 = .ok (.iload_n 2, 1) := by decide +kernel
theorem dX5_starterNow_102 : decode cX5_starterNow 102 = .ok (.ireturn, 1) := by decide +kernel
theorem dX5_starterNow_103 : decode cX5_starterNow 103 = .ok (.iload 5, 2) := by decide +kernel
theorem dX5_starterNow_105 : decode cX5_starterNow 105 = .ok (.ifCond .eq 7, 3) := by decide +kernel
theorem dX5_starterNow_108 : decode cX5_starterNow 108 = .ok (.iload_n 3, 1) := by decide +kernel
theorem dX5_starterNow_109 : decode cX5_starterNow 109 = .ok (.goto 5, 3) := by decide +kernel
theorem dX5_starterNow_112 : decode cX5_starterNow 112 = .ok (.bipush (-6), 2) := by decide +kernel
theorem dX5_starterNow_114 : decode cX5_starterNow 114 = .ok (.ireturn, 1) := by decide +kernel
theorem dX5_start_0 : decode cX5_start 0 = .ok (.aload_n 0, 1) := by decide +kernel
theorem dX5_start_1 : decode cX5_start 1 = .ok (.getfield 18, 3) := by decide +kernel
theorem dX5_start_4 : decode cX5_start 4 = .ok (.iload_n 1, 1) := by decide +kernel
theorem dX5_start_5 : decode cX5_start 5 = .ok (.iaload, 1) := by decide +kernel
theorem dX5_start_6 : decode cX5_start 6 = .ok (.istore_n 3, 1) := by decide +kernel
theorem dX5_start_7 : decode cX5_start 7 = .ok (.aload_n 0, 1) := by decide +kernel
theorem dX5_start_8 : decode cX5_start 8 = .ok (.getfield 12, 3) := by decide +kernel
theorem dX5_start_11 : decode cX5_start 11 = .ok (.iload_n 1, 1) := by decide +kernel
theorem dX5_start_12 : decode cX5_start 12 = .ok (.aaload, 1) := by decide +kernel
theorem dX5_start_13 : decode cX5_start 13 = .ok (.getfield 100, 3) := by decide +kernel
theorem dX5_start_16 : decode cX5_start 16 = .ok (.iload_n 3, 1) := by decide +kernel
theorem dX5_start_17 : decode cX5_start 17 = .ok (.iaload, 1) := by decide +kernel
theorem dX5_start_18 : decode cX5_start 18 = .ok (.istore 4, 2) := by decide +kernel
theorem dX5_start_20 : decode cX5_start 20 = .ok (.aload_n 0, 1) := by decide +kernel
theorem dX5_start_21 : decode cX5_start 21 = .ok (.getfield 48, 3) := by decide +kernel
theorem dX5_start_24 : decode cX5_start 24 = .ok (.getfield 59, 3) := by decide +kernel
theorem dX5_start_27 : decode cX5_start 27 = .ok (.iload_n 1, 1) := by decide +kernel
theorem dX5_start_28 : decode cX5_start 28 = .ok (.aaload, 1) := by decide +kernel
theorem dX5_start_29 : decode cX5_start 29 = .ok (.iload 4, 2) := by decide +kernel
theorem dX5_start_31 : decode cX5_start 31 = .ok (.invokevirtual 112, 3) := by decide +kernel
theorem dX5_start_34 : decode cX5_start 34 = .ok (.istore 5, 2) := by decide +kernel
theorem dX5_start_36 : decode cX5_start 36 = .ok (.iload_n 2, 1) := by decide +kernel
theorem dX5_start_37 : decode cX5_start 37 = .ok (.aload_n 0, 1) := by decide +kernel
theorem dX5_start_38 : decode cX5_start 38 = .ok (.getfield 48, 3) := by decide +kernel
theorem dX5_start_41 : decode cX5_start 41 = .ok (.iload 5, 2) := by decide +kernel
theorem dX5_start_43 : decode cX5_start 43 = .ok (.invokevirtual 126, 3) := by decide +kernel
theorem dX5_start_46 : decode cX5_start 46 = .ok (.iadd, 1) := by decide +kernel
theorem dX5_start_47 : decode cX5_start 47 = .ok (.istore 6, 2) := by decide +kernel
theorem dX5_start_49 : decode cX5_start 49 = .ok (.aload_n 0, 1) := by decide +kernel
theorem dX5_start_50 : decode cX5_start 50 = .ok (.getfield 27, 3) := by decide +kernel
theorem dX5_start_53 : decode cX5_start 53 = .ok (.iload_n 1, 1) := by decide +kernel
theorem dX5_start_54 : decode cX5_start 54 = .ok (.aaload, 1) := by decide +kernel
theorem dX5_start_55 : decode cX5_start 55 = .ok (.iload_n 3, 1) := by decide +kernel
theorem dX5_start_56 : decode cX5_start 56 = .ok (.iload_n 2, 1) := by decide +kernel
theorem dX5_start_57 : decode cX5_start 57 = .ok (.iastore, 1) := by decide +kernel
theorem dX5_start_58 : decode cX5_start 58 = .ok (.aload_n 0, 1) := by decide +kernel
theorem dX5_start_59 : decode cX5_start 59 = .ok (.getfield 30, 3) := by decide +kernel
theorem dX5_start_62 : decode cX5_start 62 = .ok (.iload_n 1, 1) := by decide +kernel
theorem dX5_start_63 : decode cX5_start 63 = .ok (.aaload, 1) := by decide +kernel
theorem dX5_start_64 : decode cX5_start 64 = .ok (.iload_n 3, 1) := by decide +kernel
theorem dX5_start_65 : decode cX5_start 65 = .ok (.iload 6, 2) := by decide +kernel
theorem dX5_start_67 : decode cX5_start 67 = .ok (.iastore, 1) := by decide +kernel
theorem dX5_start_68 : decode cX5_start 68 = .ok (.aload_n 0, 1) := by decide +kernel
theorem dX5_start_69 : decode cX5_start 69 = .ok (.getfield 18, 3) := by decide +kernel
theorem dX5_start_72 : decode cX5_start 72 = .ok (.iload_n 1, 1) := by decide +kernel
theorem dX5_start_73 : decode cX5_start 73 = .ok (.iload_n 3, 1) := by decide +kernel
theorem dX5_start_74 : decode cX5_start 74 = .ok (.iconst 1, 1) := by decide +kernel
theorem dX5_start_75 : decode cX5_start 75 = .ok (.iadd, 1) := by decide +kernel
theorem dX5_start_76 : decode cX5_start 76 = .ok (.iastore, 1) := by decide +kernel
theorem dX5_start_77 : decode cX5_start 77 = .ok (.aload_n 0, 1) := by decide +kernel
theorem dX5_start_78 : decode cX5_start 78 = .ok (.getfield 22, 3) := by decide +kernel
theorem dX5_start_81 : decode cX5_start 81 = .ok (.iload_n 1, 1) := by decide +kernel
theorem dX5_start_82 : decode cX5_start 82 = .ok (.aload_n 0, 1) := by decide +kernel
theorem dX5_start_83 : decode cX5_start 83 = .ok (.getfield 22, 3) := by decide +kernel
theorem dX5_start_86 : decode cX5_start 86 = .ok (.iload_n 1, 1) := by decide +kernel
theorem dX5_start_87 : decode cX5_start 87 = .ok (.iaload, 1) := by decide +kernel
theorem dX5_start_88 : decode cX5_start 88 = .ok (.iload 6, 2) := by decide +kernel
theorem dX5_start_90 : decode cX5_start 90 = .ok (.invokestatic 129, 3) := by decide +kernel
theorem dX5_start_93 : decode cX5_start 93 = .ok (.iastore, 1) := by decide +kernel
theorem dX5_start_94 : decode cX5_start 94 = .ok (.aload_n 0, 1) := by decide +kernel
theorem dX5_start_95 : decode cX5_start 95 = .ok (.getfield 48, 3) := by decide +kernel
theorem dX5_start_98 : decode cX5_start 98 = .ok (.getfield 59, 3) := by decide +kernel
theorem dX5_start_101 : decode cX5_start 101 = .ok (.iload_n 1, 1) := by decide +kernel
theorem dX5_start_102 : decode cX5_start 102 = .ok (.aaload, 1) := by decide +kernel
theorem dX5_start_103 : decode cX5_start 103 = .ok (.iload 4, 2) := by decide +kernel
theorem dX5_start_105 : decode cX5_start 105 = .ok (.invokevirtual 132, 3) := by decide +kernel
theorem dX5_start_108 : decode cX5_start 108 = .ok (.istore 7, 2) := by decide +kernel
theorem dX5_start_110 : decode cX5_start 110 = .ok (.iload 7, 2) := by decide +kernel
theorem dX5_start_112 : decode cX5_start 112 = .ok (.ifCond .lt 20, 3) := by decide +kernel
theorem dX5_start_115 : decode cX5_start 115 = .ok (.iload 7, 2) := by decide +kernel
theorem dX5_start_117 : decode cX5_start 117 = .ok (.iconst 4, 1) := by decide +kernel
theorem dX5_start_118 : decode cX5_start 118 = .ok (.if_icmp .ge 14, 3) := by decide +kernel
theorem dX5_start_121 : decode cX5_start 121 = .ok (.aload_n 0, 1) := by decide +kernel
theorem dX5_start_122 : decode cX5_start 122 = .ok (.getfield 39, 3) := by decide +kernel
theorem dX5_start_125 : decode cX5_start 125 = .ok (.iload_n 1, 1) := by decide +kernel
theorem dX5_start_126 : decode cX5_start 126 = .ok (.aaload, 1) := by decide +kernel
theorem dX5_start_127 : decode cX5_start 127 = .ok (.iload 7, 2) := by decide +kernel
theorem dX5_start_129 : decode cX5_start 129 = .ok (.iload 6, 2) := by decide +kernel
theorem dX5_start_131 : decode cX5_start 131 = .ok (.iastore, 1) := by decide +kernel
theorem dX5_start_132 : decode cX5_start 132 = .ok (.iload 5, 2) := by decide +kernel
theorem dX5_start_134 : decode cX5_start 134 = .ok (.bipush (-6), 2) := by decide +kernel
theorem dX5_start_136 : decode cX5_start 136 = .ok (.if_icmp .eq 20, 3) := by decide +kernel
theorem dX5_start_139 : decode cX5_start 139 = .ok (.aload_n 0, 1) := by decide +kernel
theorem dX5_start_140 : decode cX5_start 140 = .ok (.getfield 42, 3) := by decide +kernel
theorem dX5_start_143 : decode cX5_start 143 = .ok (.iload 5, 2) := by decide +kernel
theorem dX5_start_145 : decode cX5_start 145 = .ok (.iload 6, 2) := by decide +kernel
theorem dX5_start_147 : decode cX5_start 147 = .ok (.iastore, 1) := by decide +kernel
theorem dX5_start_148 : decode cX5_start 148 = .ok (.aload_n 0, 1) := by decide +kernel
theorem dX5_start_149 : decode cX5_start 149 = .ok (.getfield 45, 3) := by decide +kernel
theorem dX5_start_152 : decode cX5_start 152 = .ok (.iload 5, 2) := by decide +kernel
theorem dX5_start_154 : decode cX5_start 154 = .ok (.iload_n 1, 1) := by decide +kernel
theorem dX5_start_155 : decode cX5_start 155 = .ok (.iastore, 1) := by decide +kernel
theorem dX5_start_156 : decode cX5_start 156 = .ok (.return_, 1) := by decide +kernel
theorem dX5_length_0 : decode cX5_length 0 = .ok (.aload_n 0, 1) := by decide +kernel
theorem dX5_length_1 : decode cX5_length 1 = .ok (.getfield 22, 3) := by decide +kernel
theorem dX5_length_4 : decode cX5_length 4 = .ok (.iconst 0, 1) := by decide +kernel
theorem dX5_length_5 : decode cX5_length 5 = .ok (.iaload, 1) := by decide +kernel
theorem dX5_length_6 : decode cX5_length 6 = .ok (.aload_n 0, 1) := by decide +kernel
theorem dX5_length_7 : decode cX5_length 7 = .ok (.getfield 22, 3) := by decide +kernel
theorem dX5_length_10 : decode cX5_length 10 = .ok (.iconst 1, 1) := by decide +kernel
theorem dX5_length_11 : decode cX5_length 11 = .ok (.iaload, 1) := by decide +kernel
theorem dX5_length_12 : decode cX5_length 12 = .ok (.invokestatic 129, 3) := by decide +kernel
theorem dX5_length_15 : decode cX5_length 15 = .ok (.ireturn, 1) := by decide +kernel
theorem dX5_latestStart_0 : decode cX5_latestStart 0 = .ok (.aload_n 0, 1) := by decide +kernel
theorem dX5_latestStart_1 : decode cX5_latestStart 1 = .ok (.getfield 18, 3) := by decide +kernel
theorem dX5_latestStart_4 : decode cX5_latestStart 4 = .ok (.iload_n 1, 1) := by decide +kernel
theorem dX5_latestStart_5 : decode cX5_latestStart 5 = .ok (.iaload, 1) := by decide +kernel
theorem dX5_latestStart_6 : decode cX5_latestStart 6 = .ok (.istore_n 2, 1) := by decide +kernel
theorem dX5_latestStart_7 : decode cX5_latestStart 7 = .ok (.iload_n 2, 1) := by decide +kernel
theorem dX5_latestStart_8 : decode cX5_latestStart 8 = .ok (.ifCond .le 16, 3) := by decide +kernel
theorem dX5_latestStart_11 : decode cX5_latestStart 11 = .ok (.aload_n 0, 1) := by decide +kernel
theorem dX5_latestStart_12 : decode cX5_latestStart 12 = .ok (.getfield 27, 3) := by decide +kernel
theorem dX5_latestStart_15 : decode cX5_latestStart 15 = .ok (.iload_n 1, 1) := by decide +kernel
theorem dX5_latestStart_16 : decode cX5_latestStart 16 = .ok (.aaload, 1) := by decide +kernel
theorem dX5_latestStart_17 : decode cX5_latestStart 17 = .ok (.iload_n 2, 1) := by decide +kernel
theorem dX5_latestStart_18 : decode cX5_latestStart 18 = .ok (.iconst 1, 1) := by decide +kernel
theorem dX5_latestStart_19 : decode cX5_latestStart 19 = .ok (.isub, 1) := by decide +kernel
theorem dX5_latestStart_20 : decode cX5_latestStart 20 = .ok (.iaload, 1) := by decide +kernel
theorem dX5_latestStart_21 : decode cX5_latestStart 21 = .ok (.goto 5, 3) := by decide +kernel
theorem dX5_latestStart_24 : decode cX5_latestStart 24 = .ok (.bipush (-6), 2) := by decide +kernel
theorem dX5_latestStart_26 : decode cX5_latestStart 26 = .ok (.ireturn, 1) := by decide +kernel
theorem dX5_waitAhead_0 : decode cX5_waitAhead 0 = .ok (.iload_n 2, 1) := by decide +kernel
theorem dX5_waitAhead_1 : decode cX5_waitAhead 1 = .ok (.ifCond .le 18, 3) := by decide +kernel
theorem dX5_waitAhead_4 : decode cX5_waitAhead 4 = .ok (.aload_n 0, 1) := by decide +kernel
theorem dX5_waitAhead_5 : decode cX5_waitAhead 5 = .ok (.getfield 27, 3) := by decide +kernel
theorem dX5_waitAhead_8 : decode cX5_waitAhead 8 = .ok (.iload_n 1, 1) := by decide +kernel
theorem dX5_waitAhead_9 : decode cX5_waitAhead 9 = .ok (.aaload, 1) := by decide +kernel
theorem dX5_waitAhead_10 : decode cX5_waitAhead 10 = .ok (.iload_n 2, 1) := by decide +kernel
theorem dX5_waitAhead_11 : decode cX5_waitAhead 11 = .ok (.iconst 1, 1) := by decide +kernel
theorem dX5_waitAhead_12 : decode cX5_waitAhead 12 = .ok (.isub, 1) := by decide +kernel
theorem dX5_waitAhead_13 : decode cX5_waitAhead 13 = .ok (.iaload, 1) := by decide +kernel
theorem dX5_waitAhead_14 : decode cX5_waitAhead 14 = .ok (.iconst 1, 1) := by decide +kernel
theorem dX5_waitAhead_15 : decode cX5_waitAhead 15 = .ok (.iadd, 1) := by decide +kernel
theorem dX5_waitAhead_16 : decode cX5_waitAhead 16 = .ok (.goto 4, 3) := by decide +kernel
theorem dX5_waitAhead_19 : decode cX5_waitAhead 19 = .ok (.iconst 0, 1) := by decide +kernel
theorem dX5_waitAhead_20 : decode cX5_waitAhead 20 = .ok (.istore_n 3, 1) := by decide +kernel
theorem dX5_waitAhead_21 : decode cX5_waitAhead 21 = .ok (.aload_n 0, 1) := by decide +kernel
theorem dX5_waitAhead_22 : decode cX5_waitAhead 22 = .ok (.getfield 27, 3) := by decide +kernel
theorem dX5_waitAhead_25 : decode cX5_waitAhead 25 = .ok (.iload_n 1, 1) := by decide +kernel
theorem dX5_waitAhead_26 : decode cX5_waitAhead 26 = .ok (.aaload, 1) := by decide +kernel
theorem dX5_waitAhead_27 : decode cX5_waitAhead 27 = .ok (.iload_n 2, 1) := by decide +kernel
theorem dX5_waitAhead_28 : decode cX5_waitAhead 28 = .ok (.iaload, 1) := by decide +kernel
theorem dX5_waitAhead_29 : decode cX5_waitAhead 29 = .ok (.iload_n 3, 1) := by decide +kernel
theorem dX5_waitAhead_30 : decode cX5_waitAhead 30 = .ok (.isub, 1) := by decide +kernel
theorem dX5_waitAhead_31 : decode cX5_waitAhead 31 = .ok (.ireturn, 1) := by decide +kernel
theorem dX5_stepsIn_0 : decode cX5_stepsIn 0 = .ok (.iconst 0, 1) := by decide +kernel
theorem dX5_stepsIn_1 : decode cX5_stepsIn 1 = .ok (.istore_n 3, 1) := by decide +kernel
theorem dX5_stepsIn_2 : decode cX5_stepsIn 2 = .ok (.iconst 0, 1) := by decide +kernel
theorem dX5_stepsIn_3 : decode cX5_stepsIn 3 = .ok (.istore 4, 2) := by decide +kernel
theorem dX5_stepsIn_5 : decode cX5_stepsIn 5 = .ok (.iload 4, 2) := by decide +kernel
theorem dX5_stepsIn_7 : decode cX5_stepsIn 7 = .ok (.aload_n 0, 1) := by decide +kernel
theorem dX5_stepsIn_8 : decode cX5_stepsIn 8 = .ok (.getfield 18, 3) := by decide +kernel
theorem dX5_stepsIn_11 : decode cX5_stepsIn 11 = .ok (.iload_n 1, 1) := by decide +kernel
theorem dX5_stepsIn_12 : decode cX5_stepsIn 12 = .ok (.iaload, 1) := by decide +kernel
theorem dX5_stepsIn_13 : decode cX5_stepsIn 13 = .ok (.if_icmp .ge 40, 3) := by decide +kernel
theorem dX5_stepsIn_16 : decode cX5_stepsIn 16 = .ok (.aload_n 0, 1) := by decide +kernel
theorem dX5_stepsIn_17 : decode cX5_stepsIn 17 = .ok (.getfield 48, 3) := by decide +kernel
theorem dX5_stepsIn_20 : decode cX5_stepsIn 20 = .ok (.getfield 59, 3) := by decide +kernel
theorem dX5_stepsIn_23 : decode cX5_stepsIn 23 = .ok (.iload_n 1, 1) := by decide +kernel
theorem dX5_stepsIn_24 : decode cX5_stepsIn 24 = .ok (.aaload, 1) := by decide +kernel
theorem dX5_stepsIn_25 : decode cX5_stepsIn 25 = .ok (.aload_n 0, 1) := by decide +kernel
theorem dX5_stepsIn_26 : decode cX5_stepsIn 26 = .ok (.getfield 12, 3) := by decide +kernel
theorem dX5_stepsIn_29 : decode cX5_stepsIn 29 = .ok (.iload_n 1, 1) := by decide +kernel
theorem dX5_stepsIn_30 : decode cX5_stepsIn 30 = .ok (.aaload, 1) := by decide +kernel
theorem dX5_stepsIn_31 : decode cX5_stepsIn 31 = .ok (.getfield 100, 3) := by decide +kernel
theorem dX5_stepsIn_34 : decode cX5_stepsIn 34 = .ok (.iload 4, 2) := by decide +kernel
theorem dX5_stepsIn_36 : decode cX5_stepsIn 36 = .ok (.iaload, 1) := by decide +kernel
theorem dX5_stepsIn_37 : decode cX5_stepsIn 37 = .ok (.invokevirtual 112, 3) := by decide +kernel
theorem dX5_stepsIn_40 : decode cX5_stepsIn 40 = .ok (.iload_n 2, 1) := by decide +kernel
theorem dX5_stepsIn_41 : decode cX5_stepsIn 41 = .ok (.if_icmp .ne 6, 3) := by decide +kernel
theorem dX5_stepsIn_44 : decode cX5_stepsIn 44 = .ok (.iinc 3 1, 3) := by decide +kernel
theorem dX5_stepsIn_47 : decode cX5_stepsIn 47 = .ok (.iinc 4 1, 3) := by decide +kernel
theorem dX5_stepsIn_50 : decode cX5_stepsIn 50 = .ok (.goto (-45), 3) := by decide +kernel
theorem dX5_stepsIn_53 : decode cX5_stepsIn 53 = .ok (.iload_n 3, 1) := by decide +kernel
theorem dX5_stepsIn_54 : decode cX5_stepsIn 54 = .ok (.ireturn, 1) := by decide +kernel
theorem dX5_ticksIn_0 : decode cX5_ticksIn 0 = .ok (.aload_n 0, 1) := by decide +kernel
theorem dX5_ticksIn_1 : decode cX5_ticksIn 1 = .ok (.iconst 0, 1) := by decide +kernel
theorem dX5_ticksIn_2 : decode cX5_ticksIn 2 = .ok (.iload_n 1, 1) := by decide +kernel
theorem dX5_ticksIn_3 : decode cX5_ticksIn 3 = .ok (.invokevirtual 135, 3) := by decide +kernel
theorem dX5_ticksIn_6 : decode cX5_ticksIn 6 = .ok (.aload_n 0, 1) := by decide +kernel
theorem dX5_ticksIn_7 : decode cX5_ticksIn 7 = .ok (.iconst 1, 1) := by decide +kernel
theorem dX5_ticksIn_8 : decode cX5_ticksIn 8 = .ok (.iload_n 1, 1) := by decide +kernel
theorem dX5_ticksIn_9 : decode cX5_ticksIn 9 = .ok (.invokevirtual 135, 3) := by decide +kernel
theorem dX5_ticksIn_12 : decode cX5_ticksIn 12 = .ok (.iadd, 1) := by decide +kernel
theorem dX5_ticksIn_13 : decode cX5_ticksIn 13 = .ok (.aload_n 0, 1) := by decide +kernel
theorem dX5_ticksIn_14 : decode cX5_ticksIn 14 = .ok (.getfield 48, 3) := by decide +kernel
theorem dX5_ticksIn_17 : decode cX5_ticksIn 17 = .ok (.iload_n 1, 1) := by decide +kernel
theorem dX5_ticksIn_18 : decode cX5_ticksIn 18 = .ok (.invokevirtual 126, 3) := by decide +kernel
theorem dX5_ticksIn_21 : decode cX5_ticksIn 21 = .ok (.imul, 1) := by decide +kernel
theorem dX5_ticksIn_22 : decode cX5_ticksIn 22 = .ok (.ireturn, 1) := by decide +kernel
theorem dX5_starterIn_0 : decode cX5_starterIn 0 = .ok (.iconst 0, 1) := by decide +kernel
theorem dX5_starterIn_1 : decode cX5_starterIn 1 = .ok (.istore_n 2, 1) := by decide +kernel
theorem dX5_starterIn_2 : decode cX5_starterIn 2 = .ok (.iload_n 2, 1) := by decide +kernel
theorem dX5_starterIn_3 : decode cX5_starterIn 3 = .ok (.iconst 2, 1) := by decide +kernel
theorem dX5_starterIn_4 : decode cX5_starterIn 4 = .ok (.if_icmp .ge 41, 3) := by decide +kernel
theorem dX5_starterIn_7 : decode cX5_starterIn 7 = .ok (.iconst 0, 1) := by decide +kernel
theorem dX5_starterIn_8 : decode cX5_starterIn 8 = .ok (.istore_n 3, 1) := by decide +kernel
theorem dX5_starterIn_9 : decode cX5_starterIn 9 = .ok (.iload_n 3, 1) := by decide +kernel
theorem dX5_starterIn_10 : decode cX5_starterIn 10 = .ok (.aload_n 0, 1) := by decide +kernel
theorem dX5_starterIn_11 : decode cX5_starterIn 11 = .ok (.getfield 18, 3) := by decide +kernel
theorem dX5_starterIn_14 : decode cX5_starterIn 14 = .ok (.iload_n 2, 1) := by decide +kernel
theorem dX5_starterIn_15 : decode cX5_starterIn 15 = .ok (.iaload, 1) := by decide +kernel
theorem dX5_starterIn_16 : decode cX5_starterIn 16 = .ok (.if_icmp .ge 23, 3) := by decide +kernel
theorem dX5_starterIn_19 : decode cX5_starterIn 19 = .ok (.aload_n 0, 1) := by decide +kernel
theorem dX5_starterIn_20 : decode cX5_starterIn 20 = .ok (.getfield 27, 3) := by decide +kernel
theorem dX5_starterIn_23 : decode cX5_starterIn 23 = .ok (.iload_n 2, 1) := by decide +kernel
theorem dX5_starterIn_24 : decode cX5_starterIn 24 = .ok (.aaload, 1) := by decide +kernel
theorem dX5_starterIn_25 : decode cX5_starterIn 25 = .ok (.iload_n 3, 1) := by decide +kernel
theorem dX5_starterIn_26 : decode cX5_starterIn 26 = .ok (.iaload, 1) := by decide +kernel
theorem dX5_starterIn_27 : decode cX5_starterIn 27 = .ok (.iload_n 1, 1) := by decide +kernel
theorem dX5_starterIn_28 : decode cX5_starterIn 28 = .ok (.if_icmp .ne 5, 3) := by decide +kernel
theorem dX5_starterIn_31 : decode cX5_starterIn 31 = .ok (.iload_n 2, 1) := by decide +kernel
theorem dX5_starterIn_32 : decode cX5_starterIn 32 = .ok (.ireturn, 1) := by decide +kernel
theorem dX5_starterIn_33 : decode cX5_starterIn 33 = .ok (.iinc 3 1, 3) := by decide +kernel
theorem dX5_starterIn_36 : decode cX5_starterIn 36 = .ok (.goto (-27), 3) := by decide +kernel
theorem dX5_starterIn_39 : decode cX5_starterIn 39 = .ok (.iinc 2 1, 3) := by decide +kernel
theorem dX5_starterIn_42 : decode cX5_starterIn 42 = .ok (.goto (-40), 3) := by decide +kernel
theorem dX5_starterIn_45 : decode cX5_starterIn 45 = .ok (.bipush (-6), 2) := by decide +kernel
theorem dX5_starterIn_47 : decode cX5_starterIn 47 = .ok (.ireturn, 1) := by decide +kernel
theorem dX5_userIn_0 : decode cX5_userIn 0 = .ok (.iconst 0, 1) := by decide +kernel
theorem dX5_userIn_1 : decode cX5_userIn 1 = .ok (.istore_n 3, 1) := by decide +kernel
theorem dX5_userIn_2 : decode cX5_userIn 2 = .ok (.iload_n 3, 1) := by decide +kernel
theorem dX5_userIn_3 : decode cX5_userIn 3 = .ok (.iconst 2, 1) := by decide +kernel
theorem dX5_userIn_4 : decode cX5_userIn 4 = .ok (.if_icmp .ge 97, 3) := by decide +kernel
theorem dX5_userIn_7 : decode cX5_userIn 7 = .ok (.iconst 0, 1) := by decide +kernel
theorem dX5_userIn_8 : decode cX5_userIn 8 = .ok (.istore 4, 2) := by decide +kernel
theorem dX5_userIn_10 : decode cX5_userIn 10 = .ok (.iload 4, 2) := by decide +kernel
theorem dX5_userIn_12 : decode cX5_userIn 12 = .ok (.aload_n 0, 1) := by decide +kernel
theorem dX5_userIn_13 : decode cX5_userIn 13 = .ok (.getfield 18, 3) := by decide +kernel
theorem dX5_userIn_16 : decode cX5_userIn 16 = .ok (.iload_n 3, 1) := by decide +kernel
theorem dX5_userIn_17 : decode cX5_userIn 17 = .ok (.iaload, 1) := by decide +kernel
theorem dX5_userIn_18 : decode cX5_userIn 18 = .ok (.if_icmp .ge 77, 3) := by decide +kernel
theorem dX5_userIn_21 : decode cX5_userIn 21 = .ok (.aload_n 0, 1) := by decide +kernel
theorem dX5_userIn_22 : decode cX5_userIn 22 = .ok (.getfield 27, 3) := by decide +kernel
theorem dX5_userIn_25 : decode cX5_userIn 25 = .ok (.iload_n 3, 1) := by decide +kernel
theorem dX5_userIn_26 : decode cX5_userIn 26 = .ok (.aaload, 1) := by decide +kernel
theorem dX5_userIn_27 : decode cX5_userIn 27 = .ok (.iload 4, 2) := by decide +kernel
theorem dX5_userIn_29 : decode cX5_userIn 29 = .ok (.iaload, 1) := by decide +kernel
theorem dX5_userIn_30 : decode cX5_userIn 30 = .ok (.iload_n 1, 1) := by decide +kernel
theorem dX5_userIn_31 : decode cX5_userIn 31 = .ok (.if_icmp .gt 20, 3) := by decide +kernel
theorem dX5_userIn_34 : decode cX5_userIn 34 = .ok (.iload_n 1, 1) := by decide +kernel
theorem dX5_userIn_35 : decode cX5_userIn 35 = .ok (.aload_n 0, 1) := by decide +kernel
theorem dX5_userIn_36 : decode cX5_userIn 36 = .ok (.getfield 30, 3) := by decide +kernel
theorem dX5_userIn_39 : decode cX5_userIn 39 = .ok (.iload_n 3, 1) := by decide +kernel
theorem dX5_userIn_40 : decode cX5_userIn 40 = .ok (.aaload, 1) := by decide +kernel
theorem dX5_userIn_41 : decode cX5_userIn 41 = .ok (.iload 4, 2) := by decide +kernel
theorem dX5_userIn_43 : decode cX5_userIn 43 = .ok (.iaload, 1) := by decide +kernel
theorem dX5_userIn_44 : decode cX5_userIn 44 = .ok (.if_icmp .ge 7, 3) := by decide +kernel
theorem dX5_userIn_47 : decode cX5_userIn 47 = .ok (.iconst 1, 1) := by decide +kernel
theorem dX5_userIn_48 : decode cX5_userIn 48 = .ok (.goto 4, 3) := by decide +kernel
theorem dX5_userIn_51 : decode cX5_userIn 51 = .ok (.iconst 0, 1) := by decide +kernel
theorem dX5_userIn_52 : decode cX5_userIn 52 = .ok (.istore 5, 2) := by decide +kernel
theorem dX5_userIn_54 : decode cX5_userIn 54 = .ok (.iload 5, 2) := by decide +kernel
theorem dX5_userIn_56 : decode cX5_userIn 56 = .ok (.ifCond .eq 33, 3) := by decide +kernel
theorem dX5_userIn_59 : decode cX5_userIn 59 = .ok (.aload_n 0, 1) := by decide +kernel
theorem dX5_userIn_60 : decode cX5_userIn 60 = .ok (.getfield 48, 3) := by decide +kernel
theorem dX5_userIn_63 : decode cX5_userIn 63 = .ok (.getfield 59, 3) := by decide +kernel
theorem dX5_userIn_66 : decode cX5_userIn 66 = .ok (.iload_n 3, 1) := by decide +kernel
theorem dX5_userIn_67 : decode cX5_userIn 67 = .ok (.aaload, 1) := by decide +kernel
theorem dX5_userIn_68 : decode cX5_userIn 68 = .ok (.aload_n 0, 1) := by decide +kernel
theorem dX5_userIn_69 : decode cX5_userIn 69 = .ok (.getfield 12, 3) := by decide +kernel
theorem dX5_userIn_72 : decode cX5_userIn 72 = .ok (.iload_n 3, 1) := by decide +kernel
theorem dX5_userIn_73 : decode cX5_userIn 73 = .ok (.aaload, 1) := by decide +kernel
theorem dX5_userIn_74 : decode cX5_userIn 74 = .ok (.getfield 100, 3) := by decide +kernel
theorem dX5_userIn_77 : decode cX5_userIn 77 = .ok (.iload 4, 2) := by decide +kernel
theorem dX5_userIn_79 : decode cX5_userIn 79 = .ok (.iaload, 1) := by decide +kernel
theorem dX5_userIn_80 : decode cX5_userIn 80 = .ok (.invokevirtual 112, 3) := by decide +kernel
theorem dX5_userIn_83 : decode cX5_userIn 83 = .ok (.iload_n 2, 1) := by decide +kernel
theorem dX5_userIn_84 : decode cX5_userIn 84 = .ok (.if_icmp .ne 5, 3) := by decide +kernel
theorem dX5_userIn_87 : decode cX5_userIn 87 = .ok (.iload_n 3, 1) := by decide +kernel
theorem dX5_userIn_88 : decode cX5_userIn 88 = .ok (.ireturn, 1) := by decide +kernel
theorem dX5_userIn_89 : decode cX5_userIn 89 = .ok (.iinc 4 1, 3) := by decide +kernel
theorem dX5_userIn_92 : decode cX5_userIn 92 = .ok (.goto (-82), 3) := by decide +kernel
theorem dX5_userIn_95 : decode cX5_userIn 95 = .ok (.iinc 3 1, 3) := by decide +kernel
theorem dX5_userIn_98 : decode cX5_userIn 98 = .ok (.goto (-96), 3) := by decide +kernel
theorem dX5_userIn_101 : decode cX5_userIn 101 = .ok (.bipush (-6), 2) := by decide +kernel
theorem dX5_userIn_103 : decode cX5_userIn 103 = .ok (.ireturn, 1) := by decide +kernel
theorem dX6_init_0 : decode cX6_init 0 = .ok (.aload_n 0, 1) := by decide +kernel
theorem dX6_init_1 : decode cX6_init 1 = .ok (.invokespecial 3, 3) := by decide +kernel
theorem dX6_init_4 : decode cX6_init 4 = .ok (.aload_n 0, 1) := by decide +kernel
theorem dX6_init_5 : decode cX6_init 5 = .ok (.iconst 3, 1) := by decide +kernel
theorem dX6_init_6 : decode cX6_init 6 = .ok (.newarray .int, 2) := by decide +kernel
theorem dX6_init_8 : decode cX6_init 8 = .ok (.dup, 1) := by decide +kernel
theorem dX6_init_9 : decode cX6_init 9 = .ok (.iconst 0, 1) := by decide +kernel
theorem dX6_init_10 : decode cX6_init 10 = .ok (.iconst 0, 1) := by decide +kernel
theorem dX6_init_11 : decode cX6_init 11 = .ok (.iastore, 1) := by decide +kernel
theorem dX6_init_12 : decode cX6_init 12 = .ok (.dup, 1) := by decide +kernel
theorem dX6_init_13 : decode cX6_init 13 = .ok (.iconst 1, 1) := by decide +kernel
theorem dX6_init_14 : decode cX6_init 14 = .ok (.iconst 3, 1) := by decide +kernel
theorem dX6_init_15 : decode cX6_init 15 = .ok (.iastore, 1) := by decide +kernel
theorem dX6_init_16 : decode cX6_init 16 = .ok (.dup, 1) := by decide +kernel
theorem dX6_init_17 : decode cX6_init 17 = .ok (.iconst 2, 1) := by decide +kernel
theorem dX6_init_18 : decode cX6_init 18 = .ok (.iconst 4, 1) := by decide +kernel
theorem dX6_init_19 : decode cX6_init 19 = .ok (.iastore, 1) := by decide +kernel
theorem dX6_init_20 : decode cX6_init 20 = .ok (.putfield 9, 3) := by decide +kernel
theorem dX6_init_23 : decode cX6_init 23 = .ok (.aload_n 0, 1) := by decide +kernel
theorem dX6_init_24 : decode cX6_init 24 = .ok (.iconst 2, 1) := by decide +kernel
theorem dX6_init_25 : decode cX6_init 25 = .ok (.anewarray 15, 3) := by decide +kernel
theorem dX6_init_28 : decode cX6_init 28 = .ok (.dup, 1) := by decide +kernel
theorem dX6_init_29 : decode cX6_init 29 = .ok (.iconst 0, 1) := by decide +kernel
theorem dX6_init_30 : decode cX6_init 30 = .ok (.new 15, 3) := by decide +kernel
theorem dX6_init_33 : decode cX6_init 33 = .ok (.dup, 1) := by decide +kernel
theorem dX6_init_34 : decode cX6_init 34 = .ok (.invokespecial 17, 3) := by decide +kernel
theorem dX6_init_37 : decode cX6_init 37 = .ok (.aastore, 1) := by decide +kernel
theorem dX6_init_38 : decode cX6_init 38 = .ok (.dup, 1) := by decide +kernel
theorem dX6_init_39 : decode cX6_init 39 = .ok (.iconst 1, 1) := by decide +kernel
theorem dX6_init_40 : decode cX6_init 40 = .ok (.new 15, 3) := by decide +kernel
theorem dX6_init_43 : decode cX6_init 43 = .ok (.dup, 1) := by decide +kernel
theorem dX6_init_44 : decode cX6_init 44 = .ok (.invokespecial 17, 3) := by decide +kernel
theorem dX6_init_47 : decode cX6_init 47 = .ok (.aastore, 1) := by decide +kernel
theorem dX6_init_48 : decode cX6_init 48 = .ok (.putfield 18, 3) := by decide +kernel
theorem dX6_init_51 : decode cX6_init 51 = .ok (.aload_n 0, 1) := by decide +kernel
theorem dX6_init_52 : decode cX6_init 52 = .ok (.iconst 2, 1) := by decide +kernel
theorem dX6_init_53 : decode cX6_init 53 = .ok (.bipush 12, 2) := by decide +kernel
theorem dX6_init_55 : decode cX6_init 55 = .ok (.multianewarray 22 2, 4) := by decide +kernel
theorem dX6_init_59 : decode cX6_init 59 = .ok (.putfield 24, 3) := by decide +kernel
theorem dX6_init_62 : decode cX6_init 62 = .ok (.return_, 1) := by decide +kernel
theorem dX6_copyFrom_0 : decode cX6_copyFrom 0 = .ok (.aload_n 1, 1) := by decide +kernel
theorem dX6_copyFrom_1 : decode cX6_copyFrom 1 = .ok (.getfield 9, 3) := by decide +kernel
theorem dX6_copyFrom_4 : decode cX6_copyFrom 4 = .ok (.iconst 0, 1) := by decide +kernel
theorem dX6_copyFrom_5 : decode cX6_copyFrom 5 = .ok (.aload_n 0, 1) := by decide +kernel
theorem dX6_copyFrom_6 : decode cX6_copyFrom 6 = .ok (.getfield 9, 3) := by decide +kernel
theorem dX6_copyFrom_9 : decode cX6_copyFrom 9 = .ok (.iconst 0, 1) := by decide +kernel
theorem dX6_copyFrom_10 : decode cX6_copyFrom 10 = .ok (.iconst 3, 1) := by decide +kernel
theorem dX6_copyFrom_11 : decode cX6_copyFrom 11 = .ok (.invokestatic 27, 3) := by decide +kernel
theorem dX6_copyFrom_14 : decode cX6_copyFrom 14 = .ok (.iconst 0, 1) := by decide +kernel
theorem dX6_copyFrom_15 : decode cX6_copyFrom 15 = .ok (.istore_n 2, 1) := by decide +kernel
theorem dX6_copyFrom_16 : decode cX6_copyFrom 16 = .ok (.iload_n 2, 1) := by decide +kernel
theorem dX6_copyFrom_17 : decode cX6_copyFrom 17 = .ok (.iconst 2, 1) := by decide +kernel
theorem dX6_copyFrom_18 : decode cX6_copyFrom 18 = .ok (.if_icmp .ge 43, 3) := by decide +kernel
theorem dX6_copyFrom_21 : decode cX6_copyFrom 21 = .ok (.aload_n 0, 1) := by decide +kernel
theorem dX6_copyFrom_22 : decode cX6_copyFrom 22 = .ok (.getfield 18, 3) := by decide +kernel
theorem dX6_copyFrom_25 : decode cX6_copyFrom 25 = .ok (.iload_n 2, 1) := by decide +kernel
theorem dX6_copyFrom_26 : decode cX6_copyFrom 26 = .ok (.aaload, 1) := by decide +kernel
theorem dX6_copyFrom_27 : decode cX6_copyFrom 27 = .ok (.aload_n 1, 1) := by decide +kernel
theorem dX6_copyFrom_28 : decode cX6_copyFrom 28 = .ok (.getfield 18, 3) := by decide +kernel
theorem dX6_copyFrom_31 : decode cX6_copyFrom 31 = .ok (.iload_n 2, 1) := by decide +kernel
theorem dX6_copyFrom_32 : decode cX6_copyFrom 32 = .ok (.aaload, 1) := by decide +kernel
theorem dX6_copyFrom_33 : decode cX6_copyFrom 33 = .ok (.invokevirtual 33, 3) := by decide +kernel
theorem dX6_copyFrom_36 : decode cX6_copyFrom 36 = .ok (.aload_n 1, 1) := by decide +kernel
theorem dX6_copyFrom_37 : decode cX6_copyFrom 37 = .ok (.getfield 24, 3) := by decide +kernel
theorem dX6_copyFrom_40 : decode cX6_copyFrom 40 = .ok (.iload_n 2, 1) := by decide +kernel
theorem dX6_copyFrom_41 : decode cX6_copyFrom 41 = .ok (.aaload, 1) := by decide +kernel
theorem dX6_copyFrom_42 : decode cX6_copyFrom 42 = .ok (.iconst 0, 1) := by decide +kernel
theorem dX6_copyFrom_43 : decode cX6_copyFrom 43 = .ok (.aload_n 0, 1) := by decide +kernel
theorem dX6_copyFrom_44 : decode cX6_copyFrom 44 = .ok (.getfield 24, 3) := by decide +kernel
theorem dX6_copyFrom_47 : decode cX6_copyFrom 47 = .ok (.iload_n 2, 1) := by decide +kernel
theorem dX6_copyFrom_48 : decode cX6_copyFrom 48 = .ok (.aaload, 1) := by decide +kernel
theorem dX6_copyFrom_49 : decode cX6_copyFrom 49 = .ok (.iconst 0, 1) := by decide +kernel
theorem dX6_copyFrom_50 : decode cX6_copyFrom 50 = .ok (.bipush 12, 2) := by decide +kernel
theorem dX6_copyFrom_52 : decode cX6_copyFrom 52 = .ok (.invokestatic 27, 3) := by decide +kernel
theorem dX6_copyFrom_55 : decode cX6_copyFrom 55 = .ok (.iinc 2 1, 3) := by decide +kernel
theorem dX6_copyFrom_58 : decode cX6_copyFrom 58 = .ok (.goto (-42), 3) := by decide +kernel
theorem dX6_copyFrom_61 : decode cX6_copyFrom 61 = .ok (.return_, 1) := by decide +kernel
theorem dX6_exchangeThreads_0 : decode cX6_exchangeThreads 0 = .ok (.aload_n 0, 1) := by decide +kernel
theorem dX6_exchangeThreads_1 : decode cX6_exchangeThreads 1 = .ok (.getfield 18, 3) := by decide +kernel
theorem dX6_exchangeThreads_4 : decode cX6_exchangeThreads 4 = .ok (.iconst 0, 1) := by decide +kernel
theorem dX6_exchangeThreads_5 : decode cX6_exchangeThreads 5 = .ok (.aaload, 1) := by decide +kernel
theorem dX6_exchangeThreads_6 : decode cX6_exchangeThreads 6 = .ok (.astore_n 1, 1) := by decide +kernel
theorem dX6_exchangeThreads_7 : decode cX6_exchangeThreads 7 = .ok (.aload_n 0, 1) := by decide +kernel
theorem dX6_exchangeThreads_8 : decode cX6_exchangeThreads 8 = .ok (.getfield 18, 3) := by decide +kernel
theorem dX6_exchangeThreads_11 : decode cX6_exchangeThreads 11 = .ok (.iconst 0, 1) := by decide +kernel
theorem dX6_exchangeThreads_12 : decode cX6_exchangeThreads 12 = .ok (.aload_n 0, 1) := by decide +kernel
theorem dX6_exchangeThreads_13 : decode cX6_exchangeThreads 13 = .ok (.getfield 18, 3) := by decide +kernel
theorem dX6_exchangeThreads_16 : decode cX6_exchangeThreads 16 = .ok (.iconst 1, 1) := by decide +kernel
theorem dX6_exchangeThreads_17 : decode cX6_exchangeThreads 17 = .ok (.aaload, 1) := by decide +kernel
theorem dX6_exchangeThreads_18 : decode cX6_exchangeThreads 18 = .ok (.aastore, 1) := by decide +kernel
theorem dX6_exchangeThreads_19 : decode cX6_exchangeThreads 19 = .ok (.aload_n 0, 1) := by decide +kernel
theorem dX6_exchangeThreads_20 : decode cX6_exchangeThreads 20 = .ok (.getfield 18, 3) := by decide +kernel
theorem dX6_exchangeThreads_23 : decode cX6_exchangeThreads 23 = .ok (.iconst 1, 1) := by decide +kernel
theorem dX6_exchangeThreads_24 : decode cX6_exchangeThreads 24 = .ok (.aload_n 1, 1) := by decide +kernel
theorem dX6_exchangeThreads_25 : decode cX6_exchangeThreads 25 = .ok (.aastore, 1) := by decide +kernel
theorem dX6_exchangeThreads_26 : decode cX6_exchangeThreads 26 = .ok (.aload_n 0, 1) := by decide +kernel
theorem dX6_exchangeThreads_27 : decode cX6_exchangeThreads 27 = .ok (.getfield 24, 3) := by decide +kernel
theorem dX6_exchangeThreads_30 : decode cX6_exchangeThreads 30 = .ok (.iconst 0, 1) := by decide +kernel
theorem dX6_exchangeThreads_31 : decode cX6_exchangeThreads 31 = .ok (.aaload, 1) := by decide +kernel
theorem dX6_exchangeThreads_32 : decode cX6_exchangeThreads 32 = .ok (.astore_n 2, 1) := by decide +kernel
theorem dX6_exchangeThreads_33 : decode cX6_exchangeThreads 33 = .ok (.aload_n 0, 1) := by decide +kernel
theorem dX6_exchangeThreads_34 : decode cX6_exchangeThreads 34 = .ok (.getfield 24, 3) := by decide +kernel
theorem dX6_exchangeThreads_37 : decode cX6_exchangeThreads 37 = .ok (.iconst 0, 1) := by decide +kernel
theorem dX6_exchangeThreads_38 : decode cX6_exchangeThreads 38 = .ok (.aload_n 0, 1) := by decide +kernel
theorem dX6_exchangeThreads_39 : decode cX6_exchangeThreads 39 = .ok (.getfield 24, 3) := by decide +kernel
theorem dX6_exchangeThreads_42 : decode cX6_exchangeThreads 42 = .ok (.iconst 1, 1) := by decide +kernel
theorem dX6_exchangeThreads_43 : decode cX6_exchangeThreads 43 = .ok (.aaload, 1) := by decide +kernel
theorem dX6_exchangeThreads_44 : decode cX6_exchangeThreads 44 = .ok (.aastore, 1) := by decide +kernel
theorem dX6_exchangeThreads_45 : decode cX6_exchangeThreads 45 = .ok (.aload_n 0, 1) := by decide +kernel
theorem dX6_exchangeThreads_46 : decode cX6_exchangeThreads 46 = .ok (.getfield 24, 3) := by decide +kernel
theorem dX6_exchangeThreads_49 : decode cX6_exchangeThreads 49 = .ok (.iconst 1, 1) := by decide +kernel
theorem dX6_exchangeThreads_50 : decode cX6_exchangeThreads 50 = .ok (.aload_n 2, 1) := by decide +kernel
theorem dX6_exchangeThreads_51 : decode cX6_exchangeThreads 51 = .ok (.aastore, 1) := by decide +kernel
theorem dX6_exchangeThreads_52 : decode cX6_exchangeThreads 52 = .ok (.return_, 1) := by decide +kernel
theorem dX6_ticksFor_0 : decode cX6_ticksFor 0 = .ok (.iload_n 1, 1) := by decide +kernel
theorem dX6_ticksFor_1 : decode cX6_ticksFor 1 = .ok (.ifCond .ne 10, 3) := by decide +kernel
theorem dX6_ticksFor_4 : decode cX6_ticksFor 4 = .ok (.aload_n 0, 1) := by decide +kernel
theorem dX6_ticksFor_5 : decode cX6_ticksFor 5 = .ok (.getfield 9, 3) := by decide +kernel
theorem dX6_ticksFor_8 : decode cX6_ticksFor 8 = .ok (.iconst 1, 1) := by decide +kernel
theorem dX6_ticksFor_9 : decode cX6_ticksFor 9 = .ok (.iaload, 1) := by decide +kernel
theorem dX6_ticksFor_10 : decode cX6_ticksFor 10 = .ok (.ireturn, 1) := by decide +kernel
theorem dX6_ticksFor_11 : decode cX6_ticksFor 11 = .ok (.iload_n 1, 1) := by decide +kernel
theorem dX6_ticksFor_12 : decode cX6_ticksFor 12 = .ok (.iconst 1, 1) := by decide +kernel
theorem dX6_ticksFor_13 : decode cX6_ticksFor 13 = .ok (.if_icmp .ne 12, 3) := by decide +kernel
theorem dX6_ticksFor_16 : decode cX6_ticksFor 16 = .ok (.aload_n 0, 1) := by decide +kernel
theorem dX6_ticksFor_17 : decode cX6_ticksFor 17 = .ok (.getfield 9, 3) := by decide +kernel
theorem dX6_ticksFor_20 : decode cX6_ticksFor 20 = .ok (.iconst 2, 1) := by decide +kernel
theorem dX6_ticksFor_21 : decode cX6_ticksFor 21 = .ok (.iaload, 1) := by decide +kernel
theorem dX6_ticksFor_22 : decode cX6_ticksFor 22 = .ok (.goto 4, 3) := by decide +kernel
theorem dX6_ticksFor_25 : decode cX6_ticksFor 25 = .ok (.iconst 1, 1) := by decide +kernel
theorem dX6_ticksFor_26 : decode cX6_ticksFor 26 = .ok (.ireturn, 1) := by decide +kernel
theorem dX7_init_0 : decode cX7_init 0 = .ok (.aload_n 0, 1) := by decide +kernel
theorem dX7_init_1 : decode cX7_init 1 = .ok (.invokespecial 1, 3) := by decide +kernel
theorem dX7_init_4 : decode cX7_init 4 = .ok (.aload_n 0, 1) := by decide +kernel
theorem dX7_init_5 : decode cX7_init 5 = .ok (.new 7, 3) := by decide +kernel
theorem dX7_init_8 : decode cX7_init 8 = .ok (.dup, 1) := by decide +kernel
theorem dX7_init_9 : decode cX7_init 9 = .ok (.invokespecial 9, 3) := by decide +kernel
theorem dX7_init_12 : decode cX7_init 12 = .ok (.putfield 10, 3) := by decide +kernel
theorem dX7_init_15 : decode cX7_init 15 = .ok (.aload_n 0, 1) := by decide +kernel
theorem dX7_init_16 : decode cX7_init 16 = .ok (.new 16, 3) := by decide +kernel
theorem dX7_init_19 : decode cX7_init 19 = .ok (.dup, 1) := by decide +kernel
theorem dX7_init_20 : decode cX7_init 20 = .ok (.aload_n 0, 1) := by decide +kernel
theorem dX7_init_21 : decode cX7_init 21 = .ok (.getfield 10, 3) := by decide +kernel
theorem dX7_init_24 : decode cX7_init 24 = .ok (.invokespecial 18, 3) := by decide +kernel
theorem dX7_init_27 : decode cX7_init 27 = .ok (.putfield 21, 3) := by decide +kernel
theorem dX7_init_30 : decode cX7_init 30 = .ok (.aload_n 0, 1) := by decide +kernel
theorem dX7_init_31 : decode cX7_init 31 = .ok (.new 7, 3) := by decide +kernel
theorem dX7_init_34 : decode cX7_init 34 = .ok (.dup, 1) := by decide +kernel
theorem dX7_init_35 : decode cX7_init 35 = .ok (.invokespecial 9, 3) := by decide +kernel
theorem dX7_init_38 : decode cX7_init 38 = .ok (.putfield 25, 3) := by decide +kernel
theorem dX7_init_41 : decode cX7_init 41 = .ok (.aload_n 0, 1) := by decide +kernel
theorem dX7_init_42 : decode cX7_init 42 = .ok (.new 16, 3) := by decide +kernel
theorem dX7_init_45 : decode cX7_init 45 = .ok (.dup, 1) := by decide +kernel
theorem dX7_init_46 : decode cX7_init 46 = .ok (.aload_n 0, 1) := by decide +kernel
theorem dX7_init_47 : decode cX7_init 47 = .ok (.getfield 25, 3) := by decide +kernel
theorem dX7_init_50 : decode cX7_init 50 = .ok (.invokespecial 18, 3) := by decide +kernel
theorem dX7_init_53 : decode cX7_init 53 = .ok (.putfield 28, 3) := by decide +kernel
theorem dX7_init_56 : decode cX7_init 56 = .ok (.aload_n 0, 1) := by decide +kernel
theorem dX7_init_57 : decode cX7_init 57 = .ok (.new 31, 3) := by decide +kernel
theorem dX7_init_60 : decode cX7_init 60 = .ok (.dup, 1) := by decide +kernel
theorem dX7_init_61 : decode cX7_init 61 = .ok (.invokespecial 33, 3) := by decide +kernel
theorem dX7_init_64 : decode cX7_init 64 = .ok (.putfield 34, 3) := by decide +kernel
theorem dX7_init_67 : decode cX7_init 67 = .ok (.aload_n 0, 1) := by decide +kernel
theorem dX7_init_68 : decode cX7_init 68 = .ok (.new 38, 3) := by decide +kernel
theorem dX7_init_71 : decode cX7_init 71 = .ok (.dup, 1) := by decide +kernel
theorem dX7_init_72 : decode cX7_init 72 = .ok (.aload_n 0, 1) := by decide +kernel
theorem dX7_init_73 : decode cX7_init 73 = .ok (.getfield 34, 3) := by decide +kernel
theorem dX7_init_76 : decode cX7_init 76 = .ok (.invokespecial 40, 3) := by decide +kernel
theorem dX7_init_79 : decode cX7_init 79 = .ok (.putfield 43, 3) := by decide +kernel
theorem dX7_init_82 : decode cX7_init 82 = .ok (.aload_n 0, 1) := by decide +kernel
theorem dX7_init_83 : decode cX7_init 83 = .ok (.new 47, 3) := by decide +kernel
theorem dX7_init_86 : decode cX7_init 86 = .ok (.dup, 1) := by decide +kernel
theorem dX7_init_87 : decode cX7_init 87 = .ok (.invokespecial 49, 3) := by decide +kernel
theorem dX7_init_90 : decode cX7_init 90 = .ok (.putfield 50, 3) := by decide +kernel
theorem dX7_init_93 : decode cX7_init 93 = .ok (.aload_n 0, 1) := by decide +kernel
theorem dX7_init_94 : decode cX7_init 94 = .ok (.iconst 2, 1) := by decide +kernel
theorem dX7_init_95 : decode cX7_init 95 = .ok (.anewarray 7, 3) := by decide +kernel
theorem dX7_init_98 : decode cX7_init 98 = .ok (.putfield 54, 3) := by decide +kernel
theorem dX7_init_101 : decode cX7_init 101 = .ok (.iconst 0, 1) := by decide +kernel
theorem dX7_init_102 : decode cX7_init 102 = .ok (.istore_n 1, 1) := by decide +kernel
theorem dX7_init_103 : decode cX7_init 103 = .ok (.iload_n 1, 1) := by decide +kernel
theorem dX7_init_104 : decode cX7_init 104 = .ok (.iconst 2, 1) := by decide +kernel
theorem dX7_init_105 : decode cX7_init 105 = .ok (.if_icmp .ge 22, 3) := by decide +kernel
theorem dX7_init_108 : decode cX7_init 108 = .ok (.aload_n 0, 1) := by decide +kernel
theorem dX7_init_109 : decode cX7_init 109 = .ok (.getfield 54, 3) := by decide +kernel
theorem dX7_init_112 : decode cX7_init 112 = .ok (.iload_n 1, 1) := by decide +kernel
theorem dX7_init_113 : decode cX7_init 113 = .ok (.new 7, 3) := by decide +kernel
theorem dX7_init_116 : decode cX7_init 116 = .ok (.dup, 1) := by decide +kernel
theorem dX7_init_117 : decode cX7_init 117 = .ok (.invokespecial 9, 3) := by decide +kernel
theorem dX7_init_120 : decode cX7_init 120 = .ok (.aastore, 1) := by decide +kernel
theorem dX7_init_121 : decode cX7_init 121 = .ok (.iinc 1 1, 3) := by decide +kernel
theorem dX7_init_124 : decode cX7_init 124 = .ok (.goto (-21), 3) := by decide +kernel
theorem dX7_init_127 : decode cX7_init 127 = .ok (.aload_n 0, 1) := by decide +kernel
theorem dX7_init_128 : decode cX7_init 128 = .ok (.iconst 2, 1) := by decide +kernel
theorem dX7_init_129 : decode cX7_init 129 = .ok (.newarray .boolean, 2) := by decide +kernel
theorem dX7_init_131 : decode cX7_init 131 = .ok (.putfield 58, 3) := by decide +kernel
theorem dX7_init_134 : decode cX7_init 134 = .ok (.return_, 1) := by decide +kernel
theorem dX7_set_0 : decode cX7_set 0 = .ok (.iload_n 1, 1) := by decide +kernel
theorem dX7_set_1 : decode cX7_set 1 = .ok (.ifCond .lt 26, 3) := by decide +kernel
theorem dX7_set_4 : decode cX7_set 4 = .ok (.iload_n 1, 1) := by decide +kernel
theorem dX7_set_5 : decode cX7_set 5 = .ok (.iconst 3, 1) := by decide +kernel
theorem dX7_set_6 : decode cX7_set 6 = .ok (.if_icmp .ge 21, 3) := by decide +kernel
theorem dX7_set_9 : decode cX7_set 9 = .ok (.iload_n 2, 1) := by decide +kernel
theorem dX7_set_10 : decode cX7_set 10 = .ok (.getstatic 62, 3) := by decide +kernel
theorem dX7_set_13 : decode cX7_set 13 = .ok (.iload_n 1, 1) := by decide +kernel
theorem dX7_set_14 : decode cX7_set 14 = .ok (.iaload, 1) := by decide +kernel
theorem dX7_set_15 : decode cX7_set 15 = .ok (.if_icmp .lt 12, 3) := by decide +kernel
theorem dX7_set_18 : decode cX7_set 18 = .ok (.iload_n 2, 1) := by decide +kernel
theorem dX7_set_19 : decode cX7_set 19 = .ok (.getstatic 66, 3) := by decide +kernel
theorem dX7_set_22 : decode cX7_set 22 = .ok (.iload_n 1, 1) := by decide +kernel
theorem dX7_set_23 : decode cX7_set 23 = .ok (.iaload, 1) := by decide +kernel
theorem dX7_set_24 : decode cX7_set 24 = .ok (.if_icmp .le 6, 3) := by decide +kernel
theorem dX7_set_27 : decode cX7_set 27 = .ok (.bipush (-2), 2) := by decide +kernel
theorem dX7_set_29 : decode cX7_set 29 = .ok (.ireturn, 1) := by decide +kernel
theorem dX7_set_30 : decode cX7_set 30 = .ok (.aload_n 0, 1) := by decide +kernel
theorem dX7_set_31 : decode cX7_set 31 = .ok (.getfield 10, 3) := by decide +kernel
theorem dX7_set_34 : decode cX7_set 34 = .ok (.getfield 69, 3) := by decide +kernel
theorem dX7_set_37 : decode cX7_set 37 = .ok (.iload_n 1, 1) := by decide +kernel
theorem dX7_set_38 : decode cX7_set 38 = .ok (.iaload, 1) := by decide +kernel
theorem dX7_set_39 : decode cX7_set 39 = .ok (.istore_n 3, 1) := by decide +kernel
theorem dX7_set_40 : decode cX7_set 40 = .ok (.aload_n 0, 1) := by decide +kernel
theorem dX7_set_41 : decode cX7_set 41 = .ok (.getfield 50, 3) := by decide +kernel
theorem dX7_set_44 : decode cX7_set 44 = .ok (.aload_n 0, 1) := by decide +kernel
theorem dX7_set_45 : decode cX7_set 45 = .ok (.getfield 10, 3) := by decide +kernel
theorem dX7_set_48 : decode cX7_set 48 = .ok (.invokevirtual 72, 3) := by decide +kernel
theorem dX7_set_51 : decode cX7_set 51 = .ok (.aload_n 0, 1) := by decide +kernel
theorem dX7_set_52 : decode cX7_set 52 = .ok (.getfield 10, 3) := by decide +kernel
theorem dX7_set_55 : decode cX7_set 55 = .ok (.getfield 69, 3) := by decide +kernel
theorem dX7_set_58 : decode cX7_set 58 = .ok (.iload_n 1, 1) := by decide +kernel
theorem dX7_set_59 : decode cX7_set 59 = .ok (.iload_n 2, 1) := by decide +kernel
theorem dX7_set_60 : decode cX7_set 60 = .ok (.iastore, 1) := by decide +kernel
theorem dX7_set_61 : decode cX7_set 61 = .ok (.aload_n 0, 1) := by decide +kernel
theorem dX7_set_62 : decode cX7_set 62 = .ok (.getfield 21, 3) := by decide +kernel
theorem dX7_set_65 : decode cX7_set 65 = .ok (.bipush (-6), 2) := by decide +kernel
theorem dX7_set_67 : decode cX7_set 67 = .ok (.invokevirtual 75, 3) := by decide +kernel
theorem dX7_set_70 : decode cX7_set 70 = .ok (.iload_n 3, 1) := by decide +kernel
theorem dX7_set_71 : decode cX7_set 71 = .ok (.ireturn, 1) := by decide +kernel
theorem dX7_put_0 : decode cX7_put 0 = .ok (.lload_n 1, 1) := by decide +kernel
theorem dX7_put_1 : decode cX7_put 1 = .ok (.invokestatic 79, 3) := by decide +kernel
theorem dX7_put_4 : decode cX7_put 4 = .ok (.istore_n 3, 1) := by decide +kernel
theorem dX7_put_5 : decode cX7_put 5 = .ok (.iload_n 3, 1) := by decide +kernel
theorem dX7_put_6 : decode cX7_put 6 = .ok (.ifCond .ne 6, 3) := by decide +kernel
theorem dX7_put_9 : decode cX7_put 9 = .ok (.bipush (-2), 2) := by decide +kernel
theorem dX7_put_11 : decode cX7_put 11 = .ok (.ireturn, 1) := by decide +kernel
theorem dX7_put_12 : decode cX7_put 12 = .ok (.aload_n 0, 1) := by decide +kernel
theorem dX7_put_13 : decode cX7_put 13 = .ok (.getfield 34, 3) := by decide +kernel
theorem dX7_put_16 : decode cX7_put 16 = .ok (.getfield 83, 3) := by decide +kernel
theorem dX7_put_19 : decode cX7_put 19 = .ok (.iload_n 3, 1) := by decide +kernel
theorem dX7_put_20 : decode cX7_put 20 = .ok (.iadd, 1) := by decide +kernel
theorem dX7_put_21 : decode cX7_put 21 = .ok (.bipush 80, 2) := by decide +kernel
theorem dX7_put_23 : decode cX7_put 23 = .ok (.if_icmp .le 6, 3) := by decide +kernel
theorem dX7_put_26 : decode cX7_put 26 = .ok (.bipush (-4), 2) := by decide +kernel
theorem dX7_put_28 : decode cX7_put 28 = .ok (.ireturn, 1) := by decide +kernel
theorem dX7_put_29 : decode cX7_put 29 = .ok (.aload_n 0, 1) := by decide +kernel
theorem dX7_put_30 : decode cX7_put 30 = .ok (.getfield 34, 3) := by decide +kernel
theorem dX7_put_33 : decode cX7_put 33 = .ok (.lload_n 1, 1) := by decide +kernel
theorem dX7_put_34 : decode cX7_put 34 = .ok (.iload_n 3, 1) := by decide +kernel
theorem dX7_put_35 : decode cX7_put 35 = .ok (.invokevirtual 87, 3) := by decide +kernel
theorem dX7_put_38 : decode cX7_put 38 = .ok (.aload_n 0, 1) := by decide +kernel
theorem dX7_put_39 : decode cX7_put 39 = .ok (.getfield 34, 3) := by decide +kernel
theorem dX7_put_42 : decode cX7_put 42 = .ok (.getfield 83, 3) := by decide +kernel
theorem dX7_put_45 : decode cX7_put 45 = .ok (.ireturn, 1) := by decide +kernel
theorem dX7_wipe_0 : decode cX7_wipe 0 = .ok (.aload_n 0, 1) := by decide +kernel
theorem dX7_wipe_1 : decode cX7_wipe 1 = .ok (.getfield 34, 3) := by decide +kernel
theorem dX7_wipe_4 : decode cX7_wipe 4 = .ok (.getfield 83, 3) := by decide +kernel
theorem dX7_wipe_7 : decode cX7_wipe 7 = .ok (.istore_n 1, 1) := by decide +kernel
theorem dX7_wipe_8 : decode cX7_wipe 8 = .ok (.aload_n 0, 1) := by decide +kernel
theorem dX7_wipe_9 : decode cX7_wipe 9 = .ok (.getfield 34, 3) := by decide +kernel
theorem dX7_wipe_12 : decode cX7_wipe 12 = .ok (.iconst 0, 1) := by decide +kernel
theorem dX7_wipe_13 : decode cX7_wipe 13 = .ok (.putfield 83, 3) := by decide +kernel
theorem dX7_wipe_16 : decode cX7_wipe 16 = .ok (.iload_n 1, 1) := by decide +kernel
theorem dX7_wipe_17 : decode cX7_wipe 17 = .ok (.ireturn, 1) := by decide +kernel
theorem dX7_fault_0 : decode cX7_fault 0 = .ok (.aload_n 0, 1) := by decide +kernel
theorem dX7_fault_1 : decode cX7_fault 1 = .ok (.getfield 43, 3) := by decide +kernel
theorem dX7_fault_4 : decode cX7_fault 4 = .ok (.invokevirtual 91, 3) := by decide +kernel
theorem dX7_fault_7 : decode cX7_fault 7 = .ok (.ireturn, 1) := by decide +kernel
theorem dX7_program_0 : decode cX7_program 0 = .ok (.iload_n 1, 1) := by decide +kernel
theorem dX7_program_1 : decode cX7_program 1 = .ok (.invokestatic 95, 3) := by decide +kernel
theorem dX7_program_4 : decode cX7_program 4 = .ok (.ifCond .ne 5, 3) := by decide +kernel
theorem dX7_program_7 : decode cX7_program 7 = .ok (.iconst (-1), 1) := by decide +kernel
theorem dX7_program_8 : decode cX7_program 8 = .ok (.ireturn, 1) := by decide +kernel
theorem dX7_program_9 : decode cX7_program 9 = .ok (.aload_n 0, 1) := by decide +kernel
theorem dX7_program_10 : decode cX7_program 10 = .ok (.getfield 43, 3) := by decide +kernel
theorem dX7_program_13 : decode cX7_program 13 = .ok (.invokevirtual 91, 3) := by decide +kernel
theorem dX7_program_16 : decode cX7_program 16 = .ok (.bipush (-6), 2) := by decide +kernel
theorem dX7_program_18 : decode cX7_program 18 = .ok (.if_icmp .eq 6, 3) := by decide +kernel
theorem dX7_program_21 : decode cX7_program 21 = .ok (.bipush (-3), 2) := by decide +kernel
theorem dX7_program_23 : decode cX7_program 23 = .ok (.ireturn, 1) := by decide +kernel
theorem dX7_program_24 : decode cX7_program 24 = .ok (.aload_n 0, 1) := by decide +kernel
theorem dX7_program_25 : decode cX7_program 25 = .ok (.getfield 43, 3) := by decide +kernel
theorem dX7_program_28 : decode cX7_program 28 = .ok (.getfield 99, 3) := by decide +kernel
theorem dX7_program_31 : decode cX7_program 31 = .ok (.bipush 12, 2) := by decide +kernel
theorem dX7_program_33 : decode cX7_program 33 = .ok (.if_icmp .le 6, 3) := by decide +kernel
theorem dX7_program_36 : decode cX7_program 36 = .ok (.bipush (-4), 2) := by decide +kernel
theorem dX7_program_38 : decode cX7_program 38 = .ok (.ireturn, 1) := by decide +kernel
theorem dX7_program_39 : decode cX7_program 39 = .ok (.aload_n 0, 1) := by decide +kernel
theorem dX7_program_40 : decode cX7_program 40 = .ok (.getfield 50, 3) := by decide +kernel
theorem dX7_program_43 : decode cX7_program 43 = .ok (.aload_n 0, 1) := by decide +kernel
theorem dX7_program_44 : decode cX7_program 44 = .ok (.getfield 10, 3) := by decide +kernel
theorem dX7_program_47 : decode cX7_program 47 = .ok (.invokevirtual 72, 3) := by decide +kernel
theorem dX7_program_50 : decode cX7_program 50 = .ok (.aload_n 0, 1) := by decide +kernel
theorem dX7_program_51 : decode cX7_program 51 = .ok (.getfield 10, 3) := by decide +kernel
theorem dX7_program_54 : decode cX7_program 54 = .ok (.getfield 102, 3) := by decide +kernel
theorem dX7_program_57 : decode cX7_program 57 = .ok (.iload_n 1, 1) := by decide +kernel
theorem dX7_program_58 : decode cX7_program 58 = .ok (.aaload, 1) := by decide +kernel
theorem dX7_program_59 : decode cX7_program 59 = .ok (.aload_n 0, 1) := by decide +kernel
theorem dX7_program_60 : decode cX7_program 60 = .ok (.getfield 43, 3) := by decide +kernel
theorem dX7_program_63 : decode cX7_program 63 = .ok (.getfield 106, 3) := by decide +kernel
theorem dX7_program_66 : decode cX7_program 66 = .ok (.invokevirtual 110, 3) := by decide +kernel
theorem dX7_program_69 : decode cX7_program 69 = .ok (.aload_n 0, 1) := by decide +kernel
theorem dX7_program_70 : decode cX7_program 70 = .ok (.getfield 34, 3) := by decide +kernel
theorem dX7_program_73 : decode cX7_program 73 = .ok (.iconst 0, 1) := by decide +kernel
theorem dX7_program_74 : decode cX7_program 74 = .ok (.putfield 83, 3) := by decide +kernel
theorem dX7_program_77 : decode cX7_program 77 = .ok (.aload_n 0, 1) := by decide +kernel
theorem dX7_program_78 : decode cX7_program 78 = .ok (.getfield 21, 3) := by decide +kernel
theorem dX7_program_81 : decode cX7_program 81 = .ok (.bipush (-6), 2) := by decide +kernel
theorem dX7_program_83 : decode cX7_program 83 = .ok (.invokevirtual 75, 3) := by decide +kernel
theorem dX7_program_86 : decode cX7_program 86 = .ok (.aload_n 0, 1) := by decide +kernel
theorem dX7_program_87 : decode cX7_program 87 = .ok (.getfield 10, 3) := by decide +kernel
theorem dX7_program_90 : decode cX7_program 90 = .ok (.getfield 102, 3) := by decide +kernel
theorem dX7_program_93 : decode cX7_program 93 = .ok (.iload_n 1, 1) := by decide +kernel
theorem dX7_program_94 : decode cX7_program 94 = .ok (.aaload, 1) := by decide +kernel
theorem dX7_program_95 : decode cX7_program 95 = .ok (.getfield 116, 3) := by decide +kernel
theorem dX7_program_98 : decode cX7_program 98 = .ok (.ireturn, 1) := by decide +kernel
theorem dX7_drop_0 : decode cX7_drop 0 = .ok (.iload_n 1, 1) := by decide +kernel
theorem dX7_drop_1 : decode cX7_drop 1 = .ok (.invokestatic 95, 3) := by decide +kernel
theorem dX7_drop_4 : decode cX7_drop 4 = .ok (.ifCond .ne 5, 3) := by decide +kernel
theorem dX7_drop_7 : decode cX7_drop 7 = .ok (.iconst (-1), 1) := by decide +kernel
theorem dX7_drop_8 : decode cX7_drop 8 = .ok (.ireturn, 1) := by decide +kernel
theorem dX7_drop_9 : decode cX7_drop 9 = .ok (.aload_n 0, 1) := by decide +kernel
theorem dX7_drop_10 : decode cX7_drop 10 = .ok (.getfield 10, 3) := by decide +kernel
theorem dX7_drop_13 : decode cX7_drop 13 = .ok (.getfield 102, 3) := by decide +kernel
theorem dX7_drop_16 : decode cX7_drop 16 = .ok (.iload_n 1, 1) := by decide +kernel
theorem dX7_drop_17 : decode cX7_drop 17 = .ok (.aaload, 1) := by decide +kernel
theorem dX7_drop_18 : decode cX7_drop 18 = .ok (.getfield 116, 3) := by decide +kernel
theorem dX7_drop_21 : decode cX7_drop 21 = .ok (.istore_n 2, 1) := by decide +kernel
theorem dX7_drop_22 : decode cX7_drop 22 = .ok (.aload_n 0, 1) := by decide +kernel
theorem dX7_drop_23 : decode cX7_drop 23 = .ok (.getfield 50, 3) := by decide +kernel
theorem dX7_drop_26 : decode cX7_drop 26 = .ok (.aload_n 0, 1) := by decide +kernel
theorem dX7_drop_27 : decode cX7_drop 27 = .ok (.getfield 10, 3) := by decide +kernel
theorem dX7_drop_30 : decode cX7_drop 30 = .ok (.invokevirtual 72, 3) := by decide +kernel
theorem dX7_drop_33 : decode cX7_drop 33 = .ok (.aload_n 0, 1) := by decide +kernel
theorem dX7_drop_34 : decode cX7_drop 34 = .ok (.getfield 10, 3) := by decide +kernel
theorem dX7_drop_37 : decode cX7_drop 37 = .ok (.getfield 102, 3) := by decide +kernel
theorem dX7_drop_40 : decode cX7_drop 40 = .ok (.iload_n 1, 1) := by decide +kernel
theorem dX7_drop_41 : decode cX7_drop 41 = .ok (.aaload, 1) := by decide +kernel
theorem dX7_drop_42 : decode cX7_drop 42 = .ok (.iconst 0, 1) := by decide +kernel
theorem dX7_drop_43 : decode cX7_drop 43 = .ok (.putfield 116, 3) := by decide +kernel
theorem dX7_drop_46 : decode cX7_drop 46 = .ok (.aload_n 0, 1) := by decide +kernel
theorem dX7_drop_47 : decode cX7_drop 47 = .ok (.getfield 21, 3) := by decide +kernel
theorem dX7_drop_50 : decode cX7_drop 50 = .ok (.bipush (-6), 2) := by decide +kernel
theorem dX7_drop_52 : decode cX7_drop 52 = .ok (.invokevirtual 75, 3) := by decide +kernel
theorem dX7_drop_55 : decode cX7_drop 55 = .ok (.iload_n 2, 1) := by decide +kernel
theorem dX7_drop_56 : decode cX7_drop 56 = .ok (.ireturn, 1) := by decide +kernel
theorem dX7_first_0 : decode cX7_first 0 = .ok (.iload_n 1, 1) := by decide +kernel
theorem dX7_first_1 : decode cX7_first 1 = .ok (.invokestatic 95, 3) := by decide +kernel
theorem dX7_first_4 : decode cX7_first 4 = .ok (.ifCond .eq 13, 3) := by decide +kernel
theorem dX7_first_7 : decode cX7_first 7 = .ok (.iload_n 2, 1) := by decide +kernel
theorem dX7_first_8 : decode cX7_first 8 = .ok (.ifCond .lt 9, 3) := by decide +kernel
theorem dX7_first_11 : decode cX7_first 11 = .ok (.iload_n 2, 1) := by decide +kernel
theorem dX7_first_12 : decode cX7_first 12 = .ok (.bipush 12, 2) := by decide +kernel
theorem dX7_first_14 : decode cX7_first 14 = .ok (.if_icmp .lt 5, 3) := by decide +kernel
theorem dX7_first_17 : decode cX7_first 17 = .ok (.iconst (-1), 1) := by decide +kernel
theorem dX7_first_18 : decode cX7_first 18 = .ok (.ireturn, 1) := by decide +kernel
theorem dX7_first_19 : decode cX7_first 19 = .ok (.iload_n 3, 1) := by decide +kernel
theorem dX7_first_20 : decode cX7_first 20 = .ok (.ifCond .lt 10, 3) := by decide +kernel
theorem dX7_first_23 : decode cX7_first 23 = .ok (.iload_n 3, 1) := by decide +kernel
theorem dX7_first_24 : decode cX7_first 24 = .ok (.sipush 1000, 3) := by decide +kernel
theorem dX7_first_27 : decode cX7_first 27 = .ok (.if_icmp .lt 6, 3) := by decide +kernel
theorem dX7_first_30 : decode cX7_first 30 = .ok (.bipush (-2), 2) := by decide +kernel
theorem dX7_first_32 : decode cX7_first 32 = .ok (.ireturn, 1) := by decide +kernel
theorem dX7_first_33 : decode cX7_first 33 = .ok (.aload_n 0, 1) := by decide +kernel
theorem dX7_first_34 : decode cX7_first 34 = .ok (.getfield 10, 3) := by decide +kernel
theorem dX7_first_37 : decode cX7_first 37 = .ok (.getfield 119, 3) := by decide +kernel
theorem dX7_first_40 : decode cX7_first 40 = .ok (.iload_n 1, 1) := by decide +kernel
theorem dX7_first_41 : decode cX7_first 41 = .ok (.aaload, 1) := by decide +kernel
theorem dX7_first_42 : decode cX7_first 42 = .ok (.iload_n 2, 1) := by decide +kernel
theorem dX7_first_43 : decode cX7_first 43 = .ok (.iaload, 1) := by decide +kernel
theorem dX7_first_44 : decode cX7_first 44 = .ok (.istore 4, 2) := by decide +kernel
theorem dX7_first_46 : decode cX7_first 46 = .ok (.aload_n 0, 1) := by decide +kernel
theorem dX7_first_47 : decode cX7_first 47 = .ok (.getfield 50, 3) := by decide +kernel
theorem dX7_first_50 : decode cX7_first 50 = .ok (.aload_n 0, 1) := by decide +kernel
theorem dX7_first_51 : decode cX7_first 51 = .ok (.getfield 10, 3) := by decide +kernel
theorem dX7_first_54 : decode cX7_first 54 = .ok (.invokevirtual 72, 3) := by decide +kernel
theorem dX7_first_57 : decode cX7_first 57 = .ok (.aload_n 0, 1) := by decide +kernel
theorem dX7_first_58 : decode cX7_first 58 = .ok (.getfield 10, 3) := by decide +kernel
theorem dX7_first_61 : decode cX7_first 61 = .ok (.getfield 119, 3) := by decide +kernel
theorem dX7_first_64 : decode cX7_first 64 = .ok (.iload_n 1, 1) := by decide +kernel
theorem dX7_first_65 : decode cX7_first 65 = .ok (.aaload, 1) := by decide +kernel
theorem dX7_first_66 : decode cX7_first 66 = .ok (.iload_n 2, 1) := by decide +kernel
theorem dX7_first_67 : decode cX7_first 67 = .ok (.iload_n 3, 1) := by decide +kernel
theorem dX7_first_68 : decode cX7_first 68 = .ok (.iastore, 1) := by decide +kernel
theorem dX7_first_69 : decode cX7_first 69 = .ok (.aload_n 0, 1) := by decide +kernel
theorem dX7_first_70 : decode cX7_first 70 = .ok (.getfield 21, 3) := by decide +kernel
theorem dX7_first_73 : decode cX7_first 73 = .ok (.bipush (-6), 2) := by decide +kernel
theorem dX7_first_75 : decode cX7_first 75 = .ok (.invokevirtual 75, 3) := by decide +kernel
theorem dX7_first_78 : decode cX7_first 78 = .ok (.iload 4, 2) := by decide +kernel
theorem dX7_first_80 : decode cX7_first 80 = .ok (.ireturn, 1) := by decide +kernel
theorem dX7_exchange_0 : decode cX7_exchange 0 = .ok (.aload_n 0, 1) := by decide +kernel
theorem dX7_exchange_1 : decode cX7_exchange 1 = .ok (.getfield 50, 3) := by decide +kernel
theorem dX7_exchange_4 : decode cX7_exchange 4 = .ok (.aload_n 0, 1) := by decide +kernel
theorem dX7_exchange_5 : decode cX7_exchange 5 = .ok (.getfield 10, 3) := by decide +kernel
theorem dX7_exchange_8 : decode cX7_exchange 8 = .ok (.invokevirtual 72, 3) := by decide +kernel
theorem dX7_exchange_11 : decode cX7_exchange 11 = .ok (.aload_n 0, 1) := by decide +kernel
theorem dX7_exchange_12 : decode cX7_exchange 12 = .ok (.getfield 10, 3) := by decide +kernel
theorem dX7_exchange_15 : decode cX7_exchange 15 = .ok (.invokevirtual 123, 3) := by decide +kernel
theorem dX7_exchange_18 : decode cX7_exchange 18 = .ok (.aload_n 0, 1) := by decide +kernel
theorem dX7_exchange_19 : decode cX7_exchange 19 = .ok (.getfield 21, 3) := by decide +kernel
theorem dX7_exchange_22 : decode cX7_exchange 22 = .ok (.bipush (-6), 2) := by decide +kernel
theorem dX7_exchange_24 : decode cX7_exchange 24 = .ok (.invokevirtual 75, 3) := by decide +kernel
theorem dX7_exchange_27 : decode cX7_exchange 27 = .ok (.aload_n 0, 1) := by decide +kernel
theorem dX7_exchange_28 : decode cX7_exchange 28 = .ok (.getfield 21, 3) := by decide +kernel
theorem dX7_exchange_31 : decode cX7_exchange 31 = .ok (.invokevirtual 126, 3) := by decide +kernel
theorem dX7_exchange_34 : decode cX7_exchange 34 = .ok (.ireturn, 1) := by decide +kernel
theorem dX7_ofOrder_0 : decode cX7_ofOrder 0 = .ok (.iload_n 1, 1) := by decide +kernel
theorem dX7_ofOrder_1 : decode cX7_ofOrder 1 = .ok (.invokestatic 95, 3) := by decide +kernel
theorem dX7_ofOrder_4 : decode cX7_ofOrder 4 = .ok (.ifCond .eq 23, 3) := by decide +kernel
theorem dX7_ofOrder_7 : decode cX7_ofOrder 7 = .ok (.iload_n 2, 1) := by decide +kernel
theorem dX7_ofOrder_8 : decode cX7_ofOrder 8 = .ok (.ifCond .lt 19, 3) := by decide +kernel
theorem dX7_ofOrder_11 : decode cX7_ofOrder 11 = .ok (.iload_n 2, 1) := by decide +kernel
theorem dX7_ofOrder_12 : decode cX7_ofOrder 12 = .ok (.aload_n 0, 1) := by decide +kernel
theorem dX7_ofOrder_13 : decode cX7_ofOrder 13 = .ok (.getfield 10, 3) := by decide +kernel
theorem dX7_ofOrder_16 : decode cX7_ofOrder 16 = .ok (.getfield 102, 3) := by decide +kernel
theorem dX7_ofOrder_19 : decode cX7_ofOrder 19 = .ok (.iload_n 1, 1) := by decide +kernel
theorem dX7_ofOrder_20 : decode cX7_ofOrder 20 = .ok (.aaload, 1) := by decide +kernel
theorem dX7_ofOrder_21 : decode cX7_ofOrder 21 = .ok (.getfield 116, 3) := by decide +kernel
theorem dX7_ofOrder_24 : decode cX7_ofOrder 24 = .ok (.if_icmp .lt 5, 3) := by decide +kernel
theorem dX7_ofOrder_27 : decode cX7_ofOrder 27 = .ok (.iconst (-1), 1) := by decide +kernel
theorem dX7_ofOrder_28 : decode cX7_ofOrder 28 = .ok (.ireturn, 1) := by decide +kernel
theorem dX7_ofOrder_29 : decode cX7_ofOrder 29 = .ok (.iload_n 3, 1) := by decide +kernel
theorem dX7_ofOrder_30 : decode cX7_ofOrder 30 = .ok (.ifCond .lt 8, 3) := by decide +kernel
theorem dX7_ofOrder_33 : decode cX7_ofOrder 33 = .ok (.iload_n 3, 1) := by decide +kernel
theorem dX7_ofOrder_34 : decode cX7_ofOrder 34 = .ok (.iconst 5, 1) := by decide +kernel
theorem dX7_ofOrder_35 : decode cX7_ofOrder 35 = .ok (.if_icmp .lt 6, 3) := by decide +kernel
theorem dX7_ofOrder_38 : decode cX7_ofOrder 38 = .ok (.bipush (-2), 2) := by decide +kernel
theorem dX7_ofOrder_40 : decode cX7_ofOrder 40 = .ok (.ireturn, 1) := by decide +kernel
theorem dX7_ofOrder_41 : decode cX7_ofOrder 41 = .ok (.aload_n 0, 1) := by decide +kernel
theorem dX7_ofOrder_42 : decode cX7_ofOrder 42 = .ok (.getfield 10, 3) := by decide +kernel
theorem dX7_ofOrder_45 : decode cX7_ofOrder 45 = .ok (.getfield 102, 3) := by decide +kernel
theorem dX7_ofOrder_48 : decode cX7_ofOrder 48 = .ok (.iload_n 1, 1) := by decide +kernel
theorem dX7_ofOrder_49 : decode cX7_ofOrder 49 = .ok (.aaload, 1) := by decide +kernel
theorem dX7_ofOrder_50 : decode cX7_ofOrder 50 = .ok (.iload_n 2, 1) := by decide +kernel
theorem dX7_ofOrder_51 : decode cX7_ofOrder 51 = .ok (.iload_n 3, 1) := by decide +kernel
theorem dX7_ofOrder_52 : decode cX7_ofOrder 52 = .ok (.invokevirtual 128, 3) := by decide +kernel
theorem dX7_ofOrder_55 : decode cX7_ofOrder 55 = .ok (.ireturn, 1) := by decide +kernel
theorem dX7_ofThread_0 : decode cX7_ofThread 0 = .ok (.iload_n 1, 1) := by decide +kernel
theorem dX7_ofThread_1 : decode cX7_ofThread 1 = .ok (.invokestatic 95, 3) := by decide +kernel
theorem dX7_ofThread_4 : decode cX7_ofThread 4 = .ok (.ifCond .ne 5, 3) := by decide +kernel
theorem dX7_ofThread_7 : decode cX7_ofThread 7 = .ok (.iconst (-1), 1) := by decide +kernel
theorem dX7_ofThread_8 : decode cX7_ofThread 8 = .ok (.ireturn, 1) := by decide +kernel
theorem dX7_ofThread_9 : decode cX7_ofThread 9 = .ok (.iload_n 2, 1) := by decide +kernel
theorem dX7_ofThread_10 : decode cX7_ofThread 10 = .ok (.tableswitch 189 0 10 #[58, 71, 81, 91, 112, 124, 136, 148, 160, 169, 179], 58) := by decide +kernel
theorem dX7_ofThread_68 : decode cX7_ofThread 68 = .ok (.aload_n 0, 1) := by decide +kernel
theorem dX7_ofThread_69 : decode cX7_ofThread 69 = .ok (.getfield 10, 3) := by decide +kernel
theorem dX7_ofThread_72 : decode cX7_ofThread 72 = .ok (.getfield 102, 3) := by decide +kernel
theorem dX7_ofThread_75 : decode cX7_ofThread 75 = .ok (.iload_n 1, 1) := by decide +kernel
theorem dX7_ofThread_76 : decode cX7_ofThread 76 = .ok (.aaload, 1) := by decide +kernel
theorem dX7_ofThread_77 : decode cX7_ofThread 77 = .ok (.getfield 116, 3) := by decide +kernel
theorem dX7_ofThread_80 : decode cX7_ofThread 80 = .ok (.ireturn, 1) := by decide +kernel
theorem dX7_ofThread_81 : decode cX7_ofThread 81 = .ok (.aload_n 0, 1) := by decide +kernel
theorem dX7_ofThread_82 : decode cX7_ofThread 82 = .ok (.getfield 21, 3) := by decide +kernel
theorem dX7_ofThread_85 : decode cX7_ofThread 85 = .ok (.getfield 132, 3) := by decide +kernel
theorem dX7_ofThread_88 : decode cX7_ofThread 88 = .ok (.iload_n 1, 1) := by decide +kernel
theorem dX7_ofThread_89 : decode cX7_ofThread 89 = .ok (.iaload, 1) := by decide +kernel
theorem dX7_ofThread_90 : decode cX7_ofThread 90 = .ok (.ireturn, 1) := by decide +kernel
theorem dX7_ofThread_91 : decode cX7_ofThread 91 = .ok (.aload_n 0, 1) := by decide +kernel
theorem dX7_ofThread_92 : decode cX7_ofThread 92 = .ok (.getfield 21, 3) := by decide +kernel
theorem dX7_ofThread_95 : decode cX7_ofThread 95 = .ok (.getfield 135, 3) := by decide +kernel
theorem dX7_ofThread_98 : decode cX7_ofThread 98 = .ok (.iload_n 1, 1) := by decide +kernel
theorem dX7_ofThread_99 : decode cX7_ofThread 99 = .ok (.iaload, 1) := by decide +kernel
theorem dX7_ofThread_100 : decode cX7_ofThread 100 = .ok (.ireturn, 1) := by decide +kernel
theorem dX7_ofThread_101 : decode cX7_ofThread 101 = .ok (.aload_n 0, 1) := by decide +kernel
theorem dX7_ofThread_102 : decode cX7_ofThread 102 = .ok (.getfield 21, 3) := by decide +kernel
theorem dX7_ofThread_105 : decode cX7_ofThread 105 = .ok (.getfield 138, 3) := by decide +kernel
theorem dX7_ofThread_108 : decode cX7_ofThread 108 = .ok (.iload_n 1, 1) := by decide +kernel
theorem dX7_ofThread_109 : decode cX7_ofThread 109 = .ok (.aaload, 1) := by decide +kernel
theorem dX7_ofThread_110 : decode cX7_ofThread 110 = .ok (.getfield 142, 3) := by decide +kernel
theorem dX7_ofThread_113 : decode cX7_ofThread 113 = .ok (.ifCond .eq 7, 3) := by decide +kernel
theorem dX7_ofThread_116 : decode cX7_ofThread 116 = .ok (.iconst 1, 1) := by decide +kernel
theorem dX7_ofThread_117 : decode cX7_ofThread 117 = .ok (.goto 4, 3) := by decide +kernel
theorem dX7_ofThread_120 : decode cX7_ofThread 120 = .ok (.iconst 0, 1) := by decide +kernel
theorem dX7_ofThread_121 : decode cX7_ofThread 121 = .ok (.ireturn, 1) := by decide +kernel
theorem dX7_ofThread_122 : decode cX7_ofThread 122 = .ok (.aload_n 0, 1) := by decide +kernel
theorem dX7_ofThread_123 : decode cX7_ofThread 123 = .ok (.getfield 21, 3) := by decide +kernel
theorem dX7_ofThread_126 : decode cX7_ofThread 126 = .ok (.getfield 148, 3) := by decide +kernel
theorem dX7_ofThread_129 : decode cX7_ofThread 129 = .ok (.iload_n 1, 1) := by decide +kernel
theorem dX7_ofThread_130 : decode cX7_ofThread 130 = .ok (.aaload, 1) := by decide +kernel
theorem dX7_ofThread_131 : decode cX7_ofThread 131 = .ok (.iconst 1, 1) := by decide +kernel
theorem dX7_ofThread_132 : decode cX7_ofThread 132 = .ok (.iaload, 1) := by decide +kernel
theorem dX7_ofThread_133 : decode cX7_ofThread 133 = .ok (.ireturn, 1) := by decide +kernel
theorem dX7_ofThread_134 : decode cX7_ofThread 134 = .ok (.aload_n 0, 1) := by decide +kernel
theorem dX7_ofThread_135 : decode cX7_ofThread 135 = .ok (.getfield 21, 3) := by decide +kernel
theorem dX7_ofThread_138 : decode cX7_ofThread 138 = .ok (.getfield 148, 3) := by decide +kernel
theorem dX7_ofThread_141 : decode cX7_ofThread 141 = .ok (.iload_n 1, 1) := by decide +kernel
theorem dX7_ofThread_142 : decode cX7_ofThread 142 = .ok (.aaload, 1) := by decide +kernel
theorem dX7_ofThread_143 : decode cX7_ofThread 143 = .ok (.iconst 2, 1) := by decide +kernel
theorem dX7_ofThread_144 : decode cX7_ofThread 144 = .ok (.iaload, 1) := by decide +kernel
theorem dX7_ofThread_145 : decode cX7_ofThread 145 = .ok (.ireturn, 1) := by decide +kernel
theorem dX7_ofThread_146 : decode cX7_ofThread 146 = .ok (.aload_n 0, 1) := by decide +kernel
theorem dX7_ofThread_147 : decode cX7_ofThread 147 = .ok (.getfield 21, 3) := by decide +kernel
theorem dX7_ofThread_150 : decode cX7_ofThread 150 = .ok (.getfield 148, 3) := by decide +kernel
theorem dX7_ofThread_153 : decode cX7_ofThread 153 = .ok (.iload_n 1, 1) := by decide +kernel
theorem dX7_ofThread_154 : decode cX7_ofThread 154 = .ok (.aaload, 1) := by decide +kernel
theorem dX7_ofThread_155 : decode cX7_ofThread 155 = .ok (.iconst 3, 1) := by decide +kernel
theorem dX7_ofThread_156 : decode cX7_ofThread 156 = .ok (.iaload, 1) := by decide +kernel
theorem dX7_ofThread_157 : decode cX7_ofThread 157 = .ok (.ireturn, 1) := by decide +kernel
theorem dX7_ofThread_158 : decode cX7_ofThread 158 = .ok (.aload_n 0, 1) := by decide +kernel
theorem dX7_ofThread_159 : decode cX7_ofThread 159 = .ok (.getfield 21, 3) := by decide +kernel
theorem dX7_ofThread_162 : decode cX7_ofThread 162 = .ok (.getfield 148, 3) := by decide +kernel
theorem dX7_ofThread_165 : decode cX7_ofThread 165 = .ok (.iload_n 1, 1) := by decide +kernel
theorem dX7_ofThread_166 : decode cX7_ofThread 166 = .ok (.aaload, 1) := by decide +kernel
theorem dX7_ofThread_167 : decode cX7_ofThread 167 = .ok (.iconst 4, 1) := by decide +kernel
theorem dX7_ofThread_168 : decode cX7_ofThread 168 = .ok (.iaload, 1) := by decide +kernel
theorem dX7_ofThread_169 : decode cX7_ofThread 169 = .ok (.ireturn, 1) := by decide +kernel
theorem dX7_ofThread_170 : decode cX7_ofThread 170 = .ok (.aload_n 0, 1) := by decide +kernel
theorem dX7_ofThread_171 : decode cX7_ofThread 171 = .ok (.getfield 21, 3) := by decide +kernel
theorem dX7_ofThread_174 : decode cX7_ofThread 174 = .ok (.iload_n 1, 1) := by decide +kernel
theorem dX7_ofThread_175 : decode cX7_ofThread 175 = .ok (.invokevirtual 151, 3) := by decide +kernel
theorem dX7_ofThread_178 : decode cX7_ofThread 178 = .ok (.ireturn, 1) := by decide +kernel
theorem dX7_ofThread_179 : decode cX7_ofThread 179 = .ok (.aload_n 0, 1) := by decide +kernel
theorem dX7_ofThread_180 : decode cX7_ofThread 180 = .ok (.getfield 21, 3) := by decide +kernel
theorem dX7_ofThread_183 : decode cX7_ofThread 183 = .ok (.iload_n 1, 1) := by decide +kernel
theorem dX7_ofThread_184 : decode cX7_ofThread 184 = .ok (.iconst 0, 1) := by decide +kernel
theorem dX7_ofThread_185 : decode cX7_ofThread 185 = .ok (.invokevirtual 155, 3) := by decide +kernel
theorem dX7_ofThread_188 : decode cX7_ofThread 188 = .ok (.ireturn, 1) := by decide +kernel
theorem dX7_ofThread_189 : decode cX7_ofThread 189 = .ok (.aload_n 0, 1) := by decide +kernel
theorem dX7_ofThread_190 : decode cX7_ofThread 190 = .ok (.getfield 21, 3) := by decide +kernel
theorem dX7_ofThread_193 : decode cX7_ofThread 193 = .ok (.iload_n 1, 1) := by decide +kernel
theorem dX7_ofThread_194 : decode cX7_ofThread 194 = .ok (.iconst 1, 1) := by decide +kernel
theorem dX7_ofThread_195 : decode cX7_ofThread 195 = .ok (.invokevirtual 155, 3) := by decide +kernel
theorem dX7_ofThread_198 : decode cX7_ofThread 198 = .ok (.ireturn, 1) := by decide +kernel
theorem dX7_ofThread_199 : decode cX7_ofThread 199 = .ok (.bipush (-2), 2) := by decide +kernel
theorem dX7_ofThread_201 : decode cX7_ofThread 201 = .ok (.ireturn, 1) := by decide +kernel
theorem dX7_last_0 : decode cX7_last 0 = .ok (.iload_n 1, 1) := by decide +kernel
theorem dX7_last_1 : decode cX7_last 1 = .ok (.invokestatic 95, 3) := by decide +kernel
theorem dX7_last_4 : decode cX7_last 4 = .ok (.ifCond .eq 13, 3) := by decide +kernel
theorem dX7_last_7 : decode cX7_last 7 = .ok (.iload_n 2, 1) := by decide +kernel
theorem dX7_last_8 : decode cX7_last 8 = .ok (.ifCond .lt 9, 3) := by decide +kernel
theorem dX7_last_11 : decode cX7_last 11 = .ok (.iload_n 2, 1) := by decide +kernel
theorem dX7_last_12 : decode cX7_last 12 = .ok (.bipush 12, 2) := by decide +kernel
theorem dX7_last_14 : decode cX7_last 14 = .ok (.if_icmp .lt 5, 3) := by decide +kernel
theorem dX7_last_17 : decode cX7_last 17 = .ok (.iconst (-1), 1) := by decide +kernel
theorem dX7_last_18 : decode cX7_last 18 = .ok (.ireturn, 1) := by decide +kernel
theorem dX7_last_19 : decode cX7_last 19 = .ok (.aload_n 0, 1) := by decide +kernel
theorem dX7_last_20 : decode cX7_last 20 = .ok (.getfield 21, 3) := by decide +kernel
theorem dX7_last_23 : decode cX7_last 23 = .ok (.getfield 138, 3) := by decide +kernel
theorem dX7_last_26 : decode cX7_last 26 = .ok (.iload_n 1, 1) := by decide +kernel
theorem dX7_last_27 : decode cX7_last 27 = .ok (.aaload, 1) := by decide +kernel
theorem dX7_last_28 : decode cX7_last 28 = .ok (.getfield 158, 3) := by decide +kernel
theorem dX7_last_31 : decode cX7_last 31 = .ok (.iload_n 2, 1) := by decide +kernel
theorem dX7_last_32 : decode cX7_last 32 = .ok (.iaload, 1) := by decide +kernel
theorem dX7_last_33 : decode cX7_last 33 = .ok (.ireturn, 1) := by decide +kernel
theorem dX7_ofStep_0 : decode cX7_ofStep 0 = .ok (.iload_n 1, 1) := by decide +kernel
theorem dX7_ofStep_1 : decode cX7_ofStep 1 = .ok (.invokestatic 95, 3) := by decide +kernel
theorem dX7_ofStep_4 : decode cX7_ofStep 4 = .ok (.ifCond .eq 20, 3) := by decide +kernel
theorem dX7_ofStep_7 : decode cX7_ofStep 7 = .ok (.iload_n 2, 1) := by decide +kernel
theorem dX7_ofStep_8 : decode cX7_ofStep 8 = .ok (.ifCond .lt 16, 3) := by decide +kernel
theorem dX7_ofStep_11 : decode cX7_ofStep 11 = .ok (.iload_n 2, 1) := by decide +kernel
theorem dX7_ofStep_12 : decode cX7_ofStep 12 = .ok (.aload_n 0, 1) := by decide +kernel
theorem dX7_ofStep_13 : decode cX7_ofStep 13 = .ok (.getfield 21, 3) := by decide +kernel
theorem dX7_ofStep_16 : decode cX7_ofStep 16 = .ok (.getfield 132, 3) := by decide +kernel
theorem dX7_ofStep_19 : decode cX7_ofStep 19 = .ok (.iload_n 1, 1) := by decide +kernel
theorem dX7_ofStep_20 : decode cX7_ofStep 20 = .ok (.iaload, 1) := by decide +kernel
theorem dX7_ofStep_21 : decode cX7_ofStep 21 = .ok (.if_icmp .lt 5, 3) := by decide +kernel
theorem dX7_ofStep_24 : decode cX7_ofStep 24 = .ok (.iconst (-1), 1) := by decide +kernel
theorem dX7_ofStep_25 : decode cX7_ofStep 25 = .ok (.ireturn, 1) := by decide +kernel
theorem dX7_ofStep_26 : decode cX7_ofStep 26 = .ok (.iload_n 3, 1) := by decide +kernel
theorem dX7_ofStep_27 : decode cX7_ofStep 27 = .ok (.tableswitch 78 0 3 #[29, 41, 56, 68], 29) := by decide +kernel
theorem dX7_ofStep_56 : decode cX7_ofStep 56 = .ok (.aload_n 0, 1) := by decide +kernel
theorem dX7_ofStep_57 : decode cX7_ofStep 57 = .ok (.getfield 21, 3) := by decide +kernel
theorem dX7_ofStep_60 : decode cX7_ofStep 60 = .ok (.getfield 161, 3) := by decide +kernel
theorem dX7_ofStep_63 : decode cX7_ofStep 63 = .ok (.iload_n 1, 1) := by decide +kernel
theorem dX7_ofStep_64 : decode cX7_ofStep 64 = .ok (.aaload, 1) := by decide +kernel
theorem dX7_ofStep_65 : decode cX7_ofStep 65 = .ok (.iload_n 2, 1) := by decide +kernel
theorem dX7_ofStep_66 : decode cX7_ofStep 66 = .ok (.iaload, 1) := by decide +kernel
theorem dX7_ofStep_67 : decode cX7_ofStep 67 = .ok (.ireturn, 1) := by decide +kernel
theorem dX7_ofStep_68 : decode cX7_ofStep 68 = .ok (.aload_n 0, 1) := by decide +kernel
theorem dX7_ofStep_69 : decode cX7_ofStep 69 = .ok (.getfield 21, 3) := by decide +kernel
theorem dX7_ofStep_72 : decode cX7_ofStep 72 = .ok (.getfield 138, 3) := by decide +kernel
theorem dX7_ofStep_75 : decode cX7_ofStep 75 = .ok (.iload_n 1, 1) := by decide +kernel
theorem dX7_ofStep_76 : decode cX7_ofStep 76 = .ok (.aaload, 1) := by decide +kernel
theorem dX7_ofStep_77 : decode cX7_ofStep 77 = .ok (.getfield 164, 3) := by decide +kernel
theorem dX7_ofStep_80 : decode cX7_ofStep 80 = .ok (.iload_n 2, 1) := by decide +kernel
theorem dX7_ofStep_81 : decode cX7_ofStep 81 = .ok (.iaload, 1) := by decide +kernel
theorem dX7_ofStep_82 : decode cX7_ofStep 82 = .ok (.ireturn, 1) := by decide +kernel
theorem dX7_ofStep_83 : decode cX7_ofStep 83 = .ok (.aload_n 0, 1) := by decide +kernel
theorem dX7_ofStep_84 : decode cX7_ofStep 84 = .ok (.getfield 21, 3) := by decide +kernel
theorem dX7_ofStep_87 : decode cX7_ofStep 87 = .ok (.getfield 166, 3) := by decide +kernel
theorem dX7_ofStep_90 : decode cX7_ofStep 90 = .ok (.iload_n 1, 1) := by decide +kernel
theorem dX7_ofStep_91 : decode cX7_ofStep 91 = .ok (.aaload, 1) := by decide +kernel
theorem dX7_ofStep_92 : decode cX7_ofStep 92 = .ok (.iload_n 2, 1) := by decide +kernel
theorem dX7_ofStep_93 : decode cX7_ofStep 93 = .ok (.iaload, 1) := by decide +kernel
theorem dX7_ofStep_94 : decode cX7_ofStep 94 = .ok (.ireturn, 1) := by decide +kernel
theorem dX7_ofStep_95 : decode cX7_ofStep 95 = .ok (.aload_n 0, 1) := by decide +kernel
theorem dX7_ofStep_96 : decode cX7_ofStep 96 = .ok (.getfield 21, 3) := by decide +kernel
theorem dX7_ofStep_99 : decode cX7_ofStep 99 = .ok (.iload_n 1, 1) := by decide +kernel
theorem dX7_ofStep_100 : decode cX7_ofStep 100 = .ok (.iload_n 2, 1) := by decide +kernel
theorem dX7_ofStep_101 : decode cX7_ofStep 101 = .ok (.invokevirtual 169, 3) := by decide +kernel
theorem dX7_ofStep_104 : decode cX7_ofStep 104 = .ok (.ireturn, 1) := by decide +kernel
theorem dX7_ofStep_105 : decode cX7_ofStep 105 = .ok (.bipush (-2), 2) := by decide +kernel
theorem dX7_ofStep_107 : decode cX7_ofStep 107 = .ok (.ireturn, 1) := by decide +kernel
theorem dX7_at_0 : decode cX7_at 0 = .ok (.iload_n 1, 1) := by decide +kernel
theorem dX7_at_1 : decode cX7_at 1 = .ok (.ifCond .ge 6, 3) := by decide +kernel
theorem dX7_at_4 : decode cX7_at 4 = .ok (.bipush (-2), 2) := by decide +kernel
theorem dX7_at_6 : decode cX7_at 6 = .ok (.ireturn, 1) := by decide +kernel
theorem dX7_at_7 : decode cX7_at 7 = .ok (.iload_n 2, 1) := by decide +kernel
theorem dX7_at_8 : decode cX7_at 8 = .ok (.tableswitch 57 0 2 #[28, 37, 47], 28) := by decide +kernel
theorem dX7_at_36 : decode cX7_at 36 = .ok (.aload_n 0, 1) := by decide +kernel
theorem dX7_at_37 : decode cX7_at 37 = .ok (.getfield 21, 3) := by decide +kernel
theorem dX7_at_40 : decode cX7_at 40 = .ok (.iload_n 1, 1) := by decide +kernel
theorem dX7_at_41 : decode cX7_at 41 = .ok (.invokevirtual 172, 3) := by decide +kernel
theorem dX7_at_44 : decode cX7_at 44 = .ok (.ireturn, 1) := by decide +kernel
theorem dX7_at_45 : decode cX7_at 45 = .ok (.aload_n 0, 1) := by decide +kernel
theorem dX7_at_46 : decode cX7_at 46 = .ok (.getfield 21, 3) := by decide +kernel
theorem dX7_at_49 : decode cX7_at 49 = .ok (.iload_n 1, 1) := by decide +kernel
theorem dX7_at_50 : decode cX7_at 50 = .ok (.iconst 0, 1) := by decide +kernel
theorem dX7_at_51 : decode cX7_at 51 = .ok (.invokevirtual 175, 3) := by decide +kernel
theorem dX7_at_54 : decode cX7_at 54 = .ok (.ireturn, 1) := by decide +kernel
theorem dX7_at_55 : decode cX7_at 55 = .ok (.aload_n 0, 1) := by decide +kernel
theorem dX7_at_56 : decode cX7_at 56 = .ok (.getfield 21, 3) := by decide +kernel
theorem dX7_at_59 : decode cX7_at 59 = .ok (.iload_n 1, 1) := by decide +kernel
theorem dX7_at_60 : decode cX7_at 60 = .ok (.iconst 1, 1) := by decide +kernel
theorem dX7_at_61 : decode cX7_at 61 = .ok (.invokevirtual 175, 3) := by decide +kernel
theorem dX7_at_64 : decode cX7_at 64 = .ok (.ireturn, 1) := by decide +kernel
theorem dX7_at_65 : decode cX7_at 65 = .ok (.bipush (-2), 2) := by decide +kernel
theorem dX7_at_67 : decode cX7_at 67 = .ok (.ireturn, 1) := by decide +kernel
theorem dX7_count_0 : decode cX7_count 0 = .ok (.iload_n 1, 1) := by decide +kernel
theorem dX7_count_1 : decode cX7_count 1 = .ok (.tableswitch 175 0 9 #[55, 63, 83, 111, 120, 129, 137, 145, 155, 165], 55) := by decide +kernel
theorem dX7_count_56 : decode cX7_count 56 = .ok (.aload_n 0, 1) := by decide +kernel
theorem dX7_count_57 : decode cX7_count 57 = .ok (.getfield 21, 3) := by decide +kernel
theorem dX7_count_60 : decode cX7_count 60 = .ok (.invokevirtual 126, 3) := by decide +kernel
theorem dX7_count_63 : decode cX7_count 63 = .ok (.ireturn, 1) := by decide +kernel
theorem dX7_count_64 : decode cX7_count 64 = .ok (.aload_n 0, 1) := by decide +kernel
theorem dX7_count_65 : decode cX7_count 65 = .ok (.getfield 21, 3) := by decide +kernel
theorem dX7_count_68 : decode cX7_count 68 = .ok (.getfield 132, 3) := by decide +kernel
theorem dX7_count_71 : decode cX7_count 71 = .ok (.iconst 0, 1) := by decide +kernel
theorem dX7_count_72 : decode cX7_count 72 = .ok (.iaload, 1) := by decide +kernel
theorem dX7_count_73 : decode cX7_count 73 = .ok (.aload_n 0, 1) := by decide +kernel
theorem dX7_count_74 : decode cX7_count 74 = .ok (.getfield 21, 3) := by decide +kernel
theorem dX7_count_77 : decode cX7_count 77 = .ok (.getfield 132, 3) := by decide +kernel
theorem dX7_count_80 : decode cX7_count 80 = .ok (.iconst 1, 1) := by decide +kernel
theorem dX7_count_81 : decode cX7_count 81 = .ok (.iaload, 1) := by decide +kernel
theorem dX7_count_82 : decode cX7_count 82 = .ok (.iadd, 1) := by decide +kernel
theorem dX7_count_83 : decode cX7_count 83 = .ok (.ireturn, 1) := by decide +kernel
theorem dX7_count_84 : decode cX7_count 84 = .ok (.aload_n 0, 1) := by decide +kernel
theorem dX7_count_85 : decode cX7_count 85 = .ok (.getfield 21, 3) := by decide +kernel
theorem dX7_count_88 : decode cX7_count 88 = .ok (.invokevirtual 126, 3) := by decide +kernel
theorem dX7_count_91 : decode cX7_count 91 = .ok (.aload_n 0, 1) := by decide +kernel
theorem dX7_count_92 : decode cX7_count 92 = .ok (.getfield 21, 3) := by decide +kernel
theorem dX7_count_95 : decode cX7_count 95 = .ok (.getfield 132, 3) := by decide +kernel
theorem dX7_count_98 : decode cX7_count 98 = .ok (.iconst 0, 1) := by decide +kernel
theorem dX7_count_99 : decode cX7_count 99 = .ok (.iaload, 1) := by decide +kernel
theorem dX7_count_100 : decode cX7_count 100 = .ok (.isub, 1) := by decide +kernel
theorem dX7_count_101 : decode cX7_count 101 = .ok (.aload_n 0, 1) := by decide +kernel
theorem dX7_count_102 : decode cX7_count 102 = .ok (.getfield 21, 3) := by decide +kernel
theorem dX7_count_105 : decode cX7_count 105 = .ok (.getfield 132, 3) := by decide +kernel
theorem dX7_count_108 : decode cX7_count 108 = .ok (.iconst 1, 1) := by decide +kernel
theorem dX7_count_109 : decode cX7_count 109 = .ok (.iaload, 1) := by decide +kernel
theorem dX7_count_110 : decode cX7_count 110 = .ok (.isub, 1) := by decide +kernel
theorem dX7_count_111 : decode cX7_count 111 = .ok (.ireturn, 1) := by decide +kernel
theorem dX7_count_112 : decode cX7_count 112 = .ok (.aload_n 0, 1) := by decide +kernel
theorem dX7_count_113 : decode cX7_count 113 = .ok (.getfield 21, 3) := by decide +kernel
theorem dX7_count_116 : decode cX7_count 116 = .ok (.iconst 0, 1) := by decide +kernel
theorem dX7_count_117 : decode cX7_count 117 = .ok (.invokevirtual 178, 3) := by decide +kernel
theorem dX7_count_120 : decode cX7_count 120 = .ok (.ireturn, 1) := by decide +kernel
theorem dX7_count_121 : decode cX7_count 121 = .ok (.aload_n 0, 1) := by decide +kernel
theorem dX7_count_122 : decode cX7_count 122 = .ok (.getfield 21, 3) := by decide +kernel
theorem dX7_count_125 : decode cX7_count 125 = .ok (.iconst 1, 1) := by decide +kernel
theorem dX7_count_126 : decode cX7_count 126 = .ok (.invokevirtual 178, 3) := by decide +kernel
theorem dX7_count_129 : decode cX7_count 129 = .ok (.ireturn, 1) := by decide +kernel
theorem dX7_count_130 : decode cX7_count 130 = .ok (.aload_n 0, 1) := by decide +kernel
theorem dX7_count_131 : decode cX7_count 131 = .ok (.getfield 34, 3) := by decide +kernel
theorem dX7_count_134 : decode cX7_count 134 = .ok (.getfield 83, 3) := by decide +kernel
theorem dX7_count_137 : decode cX7_count 137 = .ok (.ireturn, 1) := by decide +kernel
theorem dX7_count_138 : decode cX7_count 138 = .ok (.aload_n 0, 1) := by decide +kernel
theorem dX7_count_139 : decode cX7_count 139 = .ok (.getfield 50, 3) := by decide +kernel
theorem dX7_count_142 : decode cX7_count 142 = .ok (.getfield 181, 3) := by decide +kernel
theorem dX7_count_145 : decode cX7_count 145 = .ok (.ireturn, 1) := by decide +kernel
theorem dX7_count_146 : decode cX7_count 146 = .ok (.aload_n 0, 1) := by decide +kernel
theorem dX7_count_147 : decode cX7_count 147 = .ok (.getfield 10, 3) := by decide +kernel
theorem dX7_count_150 : decode cX7_count 150 = .ok (.getfield 69, 3) := by decide +kernel
theorem dX7_count_153 : decode cX7_count 153 = .ok (.iconst 0, 1) := by decide +kernel
theorem dX7_count_154 : decode cX7_count 154 = .ok (.iaload, 1) := by decide +kernel
theorem dX7_count_155 : decode cX7_count 155 = .ok (.ireturn, 1) := by decide +kernel
theorem dX7_count_156 : decode cX7_count 156 = .ok (.aload_n 0, 1) := by decide +kernel
theorem dX7_count_157 : decode cX7_count 157 = .ok (.getfield 10, 3) := by decide +kernel
theorem dX7_count_160 : decode cX7_count 160 = .ok (.getfield 69, 3) := by decide +kernel
theorem dX7_count_163 : decode cX7_count 163 = .ok (.iconst 1, 1) := by decide +kernel
theorem dX7_count_164 : decode cX7_count 164 = .ok (.iaload, 1) := by decide +kernel
theorem dX7_count_165 : decode cX7_count 165 = .ok (.ireturn, 1) := by decide +kernel
theorem dX7_count_166 : decode cX7_count 166 = .ok (.aload_n 0, 1) := by decide +kernel
theorem dX7_count_167 : decode cX7_count 167 = .ok (.getfield 10, 3) := by decide +kernel
theorem dX7_count_170 : decode cX7_count 170 = .ok (.getfield 69, 3) := by decide +kernel
theorem dX7_count_173 : decode cX7_count 173 = .ok (.iconst 2, 1) := by decide +kernel
theorem dX7_count_174 : decode cX7_count 174 = .ok (.iaload, 1) := by decide +kernel
theorem dX7_count_175 : decode cX7_count 175 = .ok (.ireturn, 1) := by decide +kernel
theorem dX7_count_176 : decode cX7_count 176 = .ok (.bipush (-2), 2) := by decide +kernel
theorem dX7_count_178 : decode cX7_count 178 = .ok (.ireturn, 1) := by decide +kernel
theorem dX7_alone_0 : decode cX7_alone 0 = .ok (.iload_n 1, 1) := by decide +kernel
theorem dX7_alone_1 : decode cX7_alone 1 = .ok (.invokestatic 95, 3) := by decide +kernel
theorem dX7_alone_4 : decode cX7_alone 4 = .ok (.ifCond .ne 5, 3) := by decide +kernel
theorem dX7_alone_7 : decode cX7_alone 7 = .ok (.iconst (-1), 1) := by decide +kernel
theorem dX7_alone_8 : decode cX7_alone 8 = .ok (.ireturn, 1) := by decide +kernel
theorem dX7_alone_9 : decode cX7_alone 9 = .ok (.aload_n 0, 1) := by decide +kernel
theorem dX7_alone_10 : decode cX7_alone 10 = .ok (.getfield 25, 3) := by decide +kernel
theorem dX7_alone_13 : decode cX7_alone 13 = .ok (.aload_n 0, 1) := by decide +kernel
theorem dX7_alone_14 : decode cX7_alone 14 = .ok (.getfield 10, 3) := by decide +kernel
theorem dX7_alone_17 : decode cX7_alone 17 = .ok (.invokevirtual 182, 3) := by decide +kernel
theorem dX7_alone_20 : decode cX7_alone 20 = .ok (.aload_n 0, 1) := by decide +kernel
theorem dX7_alone_21 : decode cX7_alone 21 = .ok (.getfield 25, 3) := by decide +kernel
theorem dX7_alone_24 : decode cX7_alone 24 = .ok (.getfield 102, 3) := by decide +kernel
theorem dX7_alone_27 : decode cX7_alone 27 = .ok (.iconst 1, 1) := by decide +kernel
theorem dX7_alone_28 : decode cX7_alone 28 = .ok (.iload_n 1, 1) := by decide +kernel
theorem dX7_alone_29 : decode cX7_alone 29 = .ok (.isub, 1) := by decide +kernel
theorem dX7_alone_30 : decode cX7_alone 30 = .ok (.aaload, 1) := by decide +kernel
theorem dX7_alone_31 : decode cX7_alone 31 = .ok (.iconst 0, 1) := by decide +kernel
theorem dX7_alone_32 : decode cX7_alone 32 = .ok (.putfield 116, 3) := by decide +kernel
theorem dX7_alone_35 : decode cX7_alone 35 = .ok (.aload_n 0, 1) := by decide +kernel
theorem dX7_alone_36 : decode cX7_alone 36 = .ok (.getfield 28, 3) := by decide +kernel
theorem dX7_alone_39 : decode cX7_alone 39 = .ok (.bipush (-6), 2) := by decide +kernel
theorem dX7_alone_41 : decode cX7_alone 41 = .ok (.invokevirtual 75, 3) := by decide +kernel
theorem dX7_alone_44 : decode cX7_alone 44 = .ok (.aload_n 0, 1) := by decide +kernel
theorem dX7_alone_45 : decode cX7_alone 45 = .ok (.getfield 28, 3) := by decide +kernel
theorem dX7_alone_48 : decode cX7_alone 48 = .ok (.invokevirtual 126, 3) := by decide +kernel
theorem dX7_alone_51 : decode cX7_alone 51 = .ok (.ireturn, 1) := by decide +kernel
theorem dX7_lengthWith_0 : decode cX7_lengthWith 0 = .ok (.iload_n 1, 1) := by decide +kernel
theorem dX7_lengthWith_1 : decode cX7_lengthWith 1 = .ok (.getstatic 62, 3) := by decide +kernel
theorem dX7_lengthWith_4 : decode cX7_lengthWith 4 = .ok (.iconst 0, 1) := by decide +kernel
theorem dX7_lengthWith_5 : decode cX7_lengthWith 5 = .ok (.iaload, 1) := by decide +kernel
theorem dX7_lengthWith_6 : decode cX7_lengthWith 6 = .ok (.if_icmp .lt 12, 3) := by decide +kernel
theorem dX7_lengthWith_9 : decode cX7_lengthWith 9 = .ok (.iload_n 1, 1) := by decide +kernel
theorem dX7_lengthWith_10 : decode cX7_lengthWith 10 = .ok (.getstatic 66, 3) := by decide +kernel
theorem dX7_lengthWith_13 : decode cX7_lengthWith 13 = .ok (.iconst 0, 1) := by decide +kernel
theorem dX7_lengthWith_14 : decode cX7_lengthWith 14 = .ok (.iaload, 1) := by decide +kernel
theorem dX7_lengthWith_15 : decode cX7_lengthWith 15 = .ok (.if_icmp .le 6, 3) := by decide +kernel
theorem dX7_lengthWith_18 : decode cX7_lengthWith 18 = .ok (.bipush (-2), 2) := by decide +kernel
theorem dX7_lengthWith_20 : decode cX7_lengthWith 20 = .ok (.ireturn, 1) := by decide +kernel
theorem dX7_lengthWith_21 : decode cX7_lengthWith 21 = .ok (.aload_n 0, 1) := by decide +kernel
theorem dX7_lengthWith_22 : decode cX7_lengthWith 22 = .ok (.iload_n 1, 1) := by decide +kernel
theorem dX7_lengthWith_23 : decode cX7_lengthWith 23 = .ok (.invokevirtual 184, 3) := by decide +kernel
theorem dX7_lengthWith_26 : decode cX7_lengthWith 26 = .ok (.ireturn, 1) := by decide +kernel
theorem dX7_bestTurns_0 : decode cX7_bestTurns 0 = .ok (.getstatic 62, 3) := by decide +kernel
theorem dX7_bestTurns_3 : decode cX7_bestTurns 3 = .ok (.iconst 0, 1) := by decide +kernel
theorem dX7_bestTurns_4 : decode cX7_bestTurns 4 = .ok (.iaload, 1) := by decide +kernel
theorem dX7_bestTurns_5 : decode cX7_bestTurns 5 = .ok (.istore_n 1, 1) := by decide +kernel
theorem dX7_bestTurns_6 : decode cX7_bestTurns 6 = .ok (.aload_n 0, 1) := by decide +kernel
theorem dX7_bestTurns_7 : decode cX7_bestTurns 7 = .ok (.iload_n 1, 1) := by decide +kernel
theorem dX7_bestTurns_8 : decode cX7_bestTurns 8 = .ok (.invokevirtual 184, 3) := by decide +kernel
theorem dX7_bestTurns_11 : decode cX7_bestTurns 11 = .ok (.istore_n 2, 1) := by decide +kernel
theorem dX7_bestTurns_12 : decode cX7_bestTurns 12 = .ok (.iload_n 1, 1) := by decide +kernel
theorem dX7_bestTurns_13 : decode cX7_bestTurns 13 = .ok (.iconst 1, 1) := by decide +kernel
theorem dX7_bestTurns_14 : decode cX7_bestTurns 14 = .ok (.iadd, 1) := by decide +kernel
theorem dX7_bestTurns_15 : decode cX7_bestTurns 15 = .ok (.istore_n 3, 1) := by decide +kernel
theorem dX7_bestTurns_16 : decode cX7_bestTurns 16 = .ok (.iload_n 3, 1) := by decide +kernel
theorem dX7_bestTurns_17 : decode cX7_bestTurns 17 = .ok (.getstatic 66, 3) := by decide +kernel
theorem dX7_bestTurns_20 : decode cX7_bestTurns 20 = .ok (.iconst 0, 1) := by decide +kernel
theorem dX7_bestTurns_21 : decode cX7_bestTurns 21 = .ok (.iaload, 1) := by decide +kernel
theorem dX7_bestTurns_22 : decode cX7_bestTurns 22 = .ok (.if_icmp .gt 27, 3) := by decide +kernel
theorem dX7_bestTurns_25 : decode cX7_bestTurns 25 = .ok (.aload_n 0, 1) := by decide +kernel
theorem dX7_bestTurns_26 : decode cX7_bestTurns 26 = .ok (.iload_n 3, 1) := by decide +kernel
theorem dX7_bestTurns_27 : decode cX7_bestTurns 27 = .ok (.invokevirtual 184, 3) := by decide +kernel
theorem dX7_bestTurns_30 : decode cX7_bestTurns 30 = .ok (.istore 4, 2) := by decide +kernel
theorem dX7_bestTurns_32 : decode cX7_bestTurns 32 = .ok (.iload 4, 2) := by decide +kernel
theorem dX7_bestTurns_34 : decode cX7_bestTurns 34 = .ok (.iload_n 2, 1) := by decide +kernel
theorem dX7_bestTurns_35 : decode cX7_bestTurns 35 = .ok (.if_icmp .ge 8, 3) := by decide +kernel
theorem dX7_bestTurns_38 : decode cX7_bestTurns 38 = .ok (.iload_n 3, 1) := by decide +kernel
theorem dX7_bestTurns_39 : decode cX7_bestTurns 39 = .ok (.istore_n 1, 1) := by decide +kernel
theorem dX7_bestTurns_40 : decode cX7_bestTurns 40 = .ok (.iload 4, 2) := by decide +kernel
theorem dX7_bestTurns_42 : decode cX7_bestTurns 42 = .ok (.istore_n 2, 1) := by decide +kernel
theorem dX7_bestTurns_43 : decode cX7_bestTurns 43 = .ok (.iinc 3 1, 3) := by decide +kernel
theorem dX7_bestTurns_46 : decode cX7_bestTurns 46 = .ok (.goto (-30), 3) := by decide +kernel
theorem dX7_bestTurns_49 : decode cX7_bestTurns 49 = .ok (.iload_n 1, 1) := by decide +kernel
theorem dX7_bestTurns_50 : decode cX7_bestTurns 50 = .ok (.ireturn, 1) := by decide +kernel
theorem dX7_lengthByTurns_0 : decode cX7_lengthByTurns 0 = .ok (.aload_n 0, 1) := by decide +kernel
theorem dX7_lengthByTurns_1 : decode cX7_lengthByTurns 1 = .ok (.getfield 25, 3) := by decide +kernel
theorem dX7_lengthByTurns_4 : decode cX7_lengthByTurns 4 = .ok (.aload_n 0, 1) := by decide +kernel
theorem dX7_lengthByTurns_5 : decode cX7_lengthByTurns 5 = .ok (.getfield 10, 3) := by decide +kernel
theorem dX7_lengthByTurns_8 : decode cX7_lengthByTurns 8 = .ok (.invokevirtual 182, 3) := by decide +kernel
theorem dX7_lengthByTurns_11 : decode cX7_lengthByTurns 11 = .ok (.aload_n 0, 1) := by decide +kernel
theorem dX7_lengthByTurns_12 : decode cX7_lengthByTurns 12 = .ok (.getfield 25, 3) := by decide +kernel
theorem dX7_lengthByTurns_15 : decode cX7_lengthByTurns 15 = .ok (.getfield 69, 3) := by decide +kernel
theorem dX7_lengthByTurns_18 : decode cX7_lengthByTurns 18 = .ok (.iconst 0, 1) := by decide +kernel
theorem dX7_lengthByTurns_19 : decode cX7_lengthByTurns 19 = .ok (.iload_n 1, 1) := by decide +kernel
theorem dX7_lengthByTurns_20 : decode cX7_lengthByTurns 20 = .ok (.iastore, 1) := by decide +kernel
theorem dX7_lengthByTurns_21 : decode cX7_lengthByTurns 21 = .ok (.aload_n 0, 1) := by decide +kernel
theorem dX7_lengthByTurns_22 : decode cX7_lengthByTurns 22 = .ok (.getfield 28, 3) := by decide +kernel
theorem dX7_lengthByTurns_25 : decode cX7_lengthByTurns 25 = .ok (.bipush (-6), 2) := by decide +kernel
theorem dX7_lengthByTurns_27 : decode cX7_lengthByTurns 27 = .ok (.invokevirtual 75, 3) := by decide +kernel
theorem dX7_lengthByTurns_30 : decode cX7_lengthByTurns 30 = .ok (.aload_n 0, 1) := by decide +kernel
theorem dX7_lengthByTurns_31 : decode cX7_lengthByTurns 31 = .ok (.getfield 28, 3) := by decide +kernel
theorem dX7_lengthByTurns_34 : decode cX7_lengthByTurns 34 = .ok (.invokevirtual 126, 3) := by decide +kernel
theorem dX7_lengthByTurns_37 : decode cX7_lengthByTurns 37 = .ok (.ireturn, 1) := by decide +kernel
theorem dX7_lengthWithout_0 : decode cX7_lengthWithout 0 = .ok (.iload_n 1, 1) := by decide +kernel
theorem dX7_lengthWithout_1 : decode cX7_lengthWithout 1 = .ok (.ifCond .eq 11, 3) := by decide +kernel
theorem dX7_lengthWithout_4 : decode cX7_lengthWithout 4 = .ok (.iload_n 1, 1) := by decide +kernel
theorem dX7_lengthWithout_5 : decode cX7_lengthWithout 5 = .ok (.iconst 1, 1) := by decide +kernel
theorem dX7_lengthWithout_6 : decode cX7_lengthWithout 6 = .ok (.if_icmp .eq 6, 3) := by decide +kernel
theorem dX7_lengthWithout_9 : decode cX7_lengthWithout 9 = .ok (.bipush (-2), 2) := by decide +kernel
theorem dX7_lengthWithout_11 : decode cX7_lengthWithout 11 = .ok (.ireturn, 1) := by decide +kernel
theorem dX7_lengthWithout_12 : decode cX7_lengthWithout 12 = .ok (.aload_n 0, 1) := by decide +kernel
theorem dX7_lengthWithout_13 : decode cX7_lengthWithout 13 = .ok (.getfield 25, 3) := by decide +kernel
theorem dX7_lengthWithout_16 : decode cX7_lengthWithout 16 = .ok (.aload_n 0, 1) := by decide +kernel
theorem dX7_lengthWithout_17 : decode cX7_lengthWithout 17 = .ok (.getfield 10, 3) := by decide +kernel
theorem dX7_lengthWithout_20 : decode cX7_lengthWithout 20 = .ok (.invokevirtual 182, 3) := by decide +kernel
theorem dX7_lengthWithout_23 : decode cX7_lengthWithout 23 = .ok (.aload_n 0, 1) := by decide +kernel
theorem dX7_lengthWithout_24 : decode cX7_lengthWithout 24 = .ok (.getfield 28, 3) := by decide +kernel
theorem dX7_lengthWithout_27 : decode cX7_lengthWithout 27 = .ok (.iload_n 1, 1) := by decide +kernel
theorem dX7_lengthWithout_28 : decode cX7_lengthWithout 28 = .ok (.invokevirtual 75, 3) := by decide +kernel
theorem dX7_lengthWithout_31 : decode cX7_lengthWithout 31 = .ok (.aload_n 0, 1) := by decide +kernel
theorem dX7_lengthWithout_32 : decode cX7_lengthWithout 32 = .ok (.getfield 28, 3) := by decide +kernel
theorem dX7_lengthWithout_35 : decode cX7_lengthWithout 35 = .ok (.invokevirtual 126, 3) := by decide +kernel
theorem dX7_lengthWithout_38 : decode cX7_lengthWithout 38 = .ok (.ireturn, 1) := by decide +kernel
theorem dX7_bestExchange_0 : decode cX7_bestExchange 0 = .ok (.iload_n 1, 1) := by decide +kernel
theorem dX7_bestExchange_1 : decode cX7_bestExchange 1 = .ok (.invokestatic 95, 3) := by decide +kernel
theorem dX7_bestExchange_4 : decode cX7_bestExchange 4 = .ok (.ifCond .ne 5, 3) := by decide +kernel
theorem dX7_bestExchange_7 : decode cX7_bestExchange 7 = .ok (.iconst (-1), 1) := by decide +kernel
theorem dX7_bestExchange_8 : decode cX7_bestExchange 8 = .ok (.ireturn, 1) := by decide +kernel
theorem dX7_bestExchange_9 : decode cX7_bestExchange 9 = .ok (.iload_n 2, 1) := by decide +kernel
theorem dX7_bestExchange_10 : decode cX7_bestExchange 10 = .ok (.ifCond .eq 11, 3) := by decide +kernel
theorem dX7_bestExchange_13 : decode cX7_bestExchange 13 = .ok (.iload_n 2, 1) := by decide +kernel
theorem dX7_bestExchange_14 : decode cX7_bestExchange 14 = .ok (.iconst 1, 1) := by decide +kernel
theorem dX7_bestExchange_15 : decode cX7_bestExchange 15 = .ok (.if_icmp .eq 6, 3) := by decide +kernel
theorem dX7_bestExchange_18 : decode cX7_bestExchange 18 = .ok (.bipush (-2), 2) := by decide +kernel
theorem dX7_bestExchange_20 : decode cX7_bestExchange 20 = .ok (.ireturn, 1) := by decide +kernel
theorem dX7_bestExchange_21 : decode cX7_bestExchange 21 = .ok (.aload_n 0, 1) := by decide +kernel
theorem dX7_bestExchange_22 : decode cX7_bestExchange 22 = .ok (.getfield 10, 3) := by decide +kernel
theorem dX7_bestExchange_25 : decode cX7_bestExchange 25 = .ok (.getfield 102, 3) := by decide +kernel
theorem dX7_bestExchange_28 : decode cX7_bestExchange 28 = .ok (.iload_n 1, 1) := by decide +kernel
theorem dX7_bestExchange_29 : decode cX7_bestExchange 29 = .ok (.aaload, 1) := by decide +kernel
theorem dX7_bestExchange_30 : decode cX7_bestExchange 30 = .ok (.astore_n 3, 1) := by decide +kernel
theorem dX7_bestExchange_31 : decode cX7_bestExchange 31 = .ok (.bipush (-6), 2) := by decide +kernel
theorem dX7_bestExchange_33 : decode cX7_bestExchange 33 = .ok (.istore 4, 2) := by decide +kernel
theorem dX7_bestExchange_35 : decode cX7_bestExchange 35 = .ok (.aload_n 0, 1) := by decide +kernel
theorem dX7_bestExchange_36 : decode cX7_bestExchange 36 = .ok (.getfield 21, 3) := by decide +kernel
theorem dX7_bestExchange_39 : decode cX7_bestExchange 39 = .ok (.invokevirtual 126, 3) := by decide +kernel
theorem dX7_bestExchange_42 : decode cX7_bestExchange 42 = .ok (.istore 5, 2) := by decide +kernel
theorem dX7_bestExchange_44 : decode cX7_bestExchange 44 = .ok (.iconst 0, 1) := by decide +kernel
theorem dX7_bestExchange_45 : decode cX7_bestExchange 45 = .ok (.istore 6, 2) := by decide +kernel
theorem dX7_bestExchange_47 : decode cX7_bestExchange 47 = .ok (.iload 6, 2) := by decide +kernel
theorem dX7_bestExchange_49 : decode cX7_bestExchange 49 = .ok (.iconst 1, 1) := by decide +kernel
theorem dX7_bestExchange_50 : decode cX7_bestExchange 50 = .ok (.iadd, 1) := by decide +kernel
theorem dX7_bestExchange_51 : decode cX7_bestExchange 51 = .ok (.aload_n 3, 1) := by decide +kernel
theorem dX7_bestExchange_52 : decode cX7_bestExchange 52 = .ok (.getfield 116, 3) := by decide +kernel
theorem dX7_bestExchange_55 : decode cX7_bestExchange 55 = .ok (.if_icmp .ge 60, 3) := by decide +kernel
theorem dX7_bestExchange_58 : decode cX7_bestExchange 58 = .ok (.aload_n 3, 1) := by decide +kernel
theorem dX7_bestExchange_59 : decode cX7_bestExchange 59 = .ok (.iload 6, 2) := by decide +kernel
theorem dX7_bestExchange_61 : decode cX7_bestExchange 61 = .ok (.invokevirtual 187, 3) := by decide +kernel
theorem dX7_bestExchange_64 : decode cX7_bestExchange 64 = .ok (.ifCond .eq 45, 3) := by decide +kernel
theorem dX7_bestExchange_67 : decode cX7_bestExchange 67 = .ok (.aload_n 3, 1) := by decide +kernel
theorem dX7_bestExchange_68 : decode cX7_bestExchange 68 = .ok (.iload 6, 2) := by decide +kernel
theorem dX7_bestExchange_70 : decode cX7_bestExchange 70 = .ok (.iconst 1, 1) := by decide +kernel
theorem dX7_bestExchange_71 : decode cX7_bestExchange 71 = .ok (.iadd, 1) := by decide +kernel
theorem dX7_bestExchange_72 : decode cX7_bestExchange 72 = .ok (.invokevirtual 187, 3) := by decide +kernel
theorem dX7_bestExchange_75 : decode cX7_bestExchange 75 = .ok (.ifCond .eq 34, 3) := by decide +kernel
theorem dX7_bestExchange_78 : decode cX7_bestExchange 78 = .ok (.aload_n 0, 1) := by decide +kernel
theorem dX7_bestExchange_79 : decode cX7_bestExchange 79 = .ok (.iload_n 1, 1) := by decide +kernel
theorem dX7_bestExchange_80 : decode cX7_bestExchange 80 = .ok (.iload 6, 2) := by decide +kernel
theorem dX7_bestExchange_82 : decode cX7_bestExchange 82 = .ok (.invokevirtual 190, 3) := by decide +kernel
theorem dX7_bestExchange_85 : decode cX7_bestExchange 85 = .ok (.istore 7, 2) := by decide +kernel
theorem dX7_bestExchange_87 : decode cX7_bestExchange 87 = .ok (.iload 7, 2) := by decide +kernel
theorem dX7_bestExchange_89 : decode cX7_bestExchange 89 = .ok (.bipush (-6), 2) := by decide +kernel
theorem dX7_bestExchange_91 : decode cX7_bestExchange 91 = .ok (.if_icmp .eq 18, 3) := by decide +kernel
theorem dX7_bestExchange_94 : decode cX7_bestExchange 94 = .ok (.iload 7, 2) := by decide +kernel
theorem dX7_bestExchange_96 : decode cX7_bestExchange 96 = .ok (.iload 5, 2) := by decide +kernel
theorem dX7_bestExchange_98 : decode cX7_bestExchange 98 = .ok (.if_icmp .ge 11, 3) := by decide +kernel
theorem dX7_bestExchange_101 : decode cX7_bestExchange 101 = .ok (.iload 6, 2) := by decide +kernel
theorem dX7_bestExchange_103 : decode cX7_bestExchange 103 = .ok (.istore 4, 2) := by decide +kernel
theorem dX7_bestExchange_105 : decode cX7_bestExchange 105 = .ok (.iload 7, 2) := by decide +kernel
theorem dX7_bestExchange_107 : decode cX7_bestExchange 107 = .ok (.istore 5, 2) := by decide +kernel
theorem dX7_bestExchange_109 : decode cX7_bestExchange 109 = .ok (.iinc 6 1, 3) := by decide +kernel
theorem dX7_bestExchange_112 : decode cX7_bestExchange 112 = .ok (.goto (-65), 3) := by decide +kernel
theorem dX7_bestExchange_115 : decode cX7_bestExchange 115 = .ok (.iload 4, 2) := by decide +kernel
theorem dX7_bestExchange_117 : decode cX7_bestExchange 117 = .ok (.bipush (-6), 2) := by decide +kernel
theorem dX7_bestExchange_119 : decode cX7_bestExchange 119 = .ok (.if_icmp .ne 6, 3) := by decide +kernel
theorem dX7_bestExchange_122 : decode cX7_bestExchange 122 = .ok (.bipush (-6), 2) := by decide +kernel
theorem dX7_bestExchange_124 : decode cX7_bestExchange 124 = .ok (.ireturn, 1) := by decide +kernel
theorem dX7_bestExchange_125 : decode cX7_bestExchange 125 = .ok (.iload_n 2, 1) := by decide +kernel
theorem dX7_bestExchange_126 : decode cX7_bestExchange 126 = .ok (.ifCond .ne 8, 3) := by decide +kernel
theorem dX7_bestExchange_129 : decode cX7_bestExchange 129 = .ok (.iload 4, 2) := by decide +kernel
theorem dX7_bestExchange_131 : decode cX7_bestExchange 131 = .ok (.goto 5, 3) := by decide +kernel
theorem dX7_bestExchange_134 : decode cX7_bestExchange 134 = .ok (.iload 5, 2) := by decide +kernel
theorem dX7_bestExchange_136 : decode cX7_bestExchange 136 = .ok (.ireturn, 1) := by decide +kernel
theorem dX7_lengthExchanged_0 : decode cX7_lengthExchanged 0 = .ok (.aload_n 0, 1) := by decide +kernel
theorem dX7_lengthExchanged_1 : decode cX7_lengthExchanged 1 = .ok (.getfield 25, 3) := by decide +kernel
theorem dX7_lengthExchanged_4 : decode cX7_lengthExchanged 4 = .ok (.aload_n 0, 1) := by decide +kernel
theorem dX7_lengthExchanged_5 : decode cX7_lengthExchanged 5 = .ok (.getfield 10, 3) := by decide +kernel
theorem dX7_lengthExchanged_8 : decode cX7_lengthExchanged 8 = .ok (.invokevirtual 182, 3) := by decide +kernel
theorem dX7_lengthExchanged_11 : decode cX7_lengthExchanged 11 = .ok (.aload_n 0, 1) := by decide +kernel
theorem dX7_lengthExchanged_12 : decode cX7_lengthExchanged 12 = .ok (.getfield 25, 3) := by decide +kernel
theorem dX7_lengthExchanged_15 : decode cX7_lengthExchanged 15 = .ok (.getfield 102, 3) := by decide +kernel
theorem dX7_lengthExchanged_18 : decode cX7_lengthExchanged 18 = .ok (.iload_n 1, 1) := by decide +kernel
theorem dX7_lengthExchanged_19 : decode cX7_lengthExchanged 19 = .ok (.aaload, 1) := by decide +kernel
theorem dX7_lengthExchanged_20 : decode cX7_lengthExchanged 20 = .ok (.iload_n 2, 1) := by decide +kernel
theorem dX7_lengthExchanged_21 : decode cX7_lengthExchanged 21 = .ok (.invokevirtual 193, 3) := by decide +kernel
theorem dX7_lengthExchanged_24 : decode cX7_lengthExchanged 24 = .ok (.aload_n 0, 1) := by decide +kernel
theorem dX7_lengthExchanged_25 : decode cX7_lengthExchanged 25 = .ok (.getfield 28, 3) := by decide +kernel
theorem dX7_lengthExchanged_28 : decode cX7_lengthExchanged 28 = .ok (.invokevirtual 196, 3) := by decide +kernel
theorem dX7_lengthExchanged_31 : decode cX7_lengthExchanged 31 = .ok (.aload_n 0, 1) := by decide +kernel
theorem dX7_lengthExchanged_32 : decode cX7_lengthExchanged 32 = .ok (.getfield 28, 3) := by decide +kernel
theorem dX7_lengthExchanged_35 : decode cX7_lengthExchanged 35 = .ok (.getfield 138, 3) := by decide +kernel
theorem dX7_lengthExchanged_38 : decode cX7_lengthExchanged 38 = .ok (.iload_n 1, 1) := by decide +kernel
theorem dX7_lengthExchanged_39 : decode cX7_lengthExchanged 39 = .ok (.aaload, 1) := by decide +kernel
theorem dX7_lengthExchanged_40 : decode cX7_lengthExchanged 40 = .ok (.aload_n 0, 1) := by decide +kernel
theorem dX7_lengthExchanged_41 : decode cX7_lengthExchanged 41 = .ok (.getfield 21, 3) := by decide +kernel
theorem dX7_lengthExchanged_44 : decode cX7_lengthExchanged 44 = .ok (.getfield 138, 3) := by decide +kernel
theorem dX7_lengthExchanged_47 : decode cX7_lengthExchanged 47 = .ok (.iload_n 1, 1) := by decide +kernel
theorem dX7_lengthExchanged_48 : decode cX7_lengthExchanged 48 = .ok (.aaload, 1) := by decide +kernel
theorem dX7_lengthExchanged_49 : decode cX7_lengthExchanged 49 = .ok (.invokevirtual 199, 3) := by decide +kernel
theorem dX7_lengthExchanged_52 : decode cX7_lengthExchanged 52 = .ok (.ifCond .ne 6, 3) := by decide +kernel
theorem dX7_lengthExchanged_55 : decode cX7_lengthExchanged 55 = .ok (.bipush (-6), 2) := by decide +kernel
theorem dX7_lengthExchanged_57 : decode cX7_lengthExchanged 57 = .ok (.ireturn, 1) := by decide +kernel
theorem dX7_lengthExchanged_58 : decode cX7_lengthExchanged 58 = .ok (.aload_n 0, 1) := by decide +kernel
theorem dX7_lengthExchanged_59 : decode cX7_lengthExchanged 59 = .ok (.getfield 28, 3) := by decide +kernel
theorem dX7_lengthExchanged_62 : decode cX7_lengthExchanged 62 = .ok (.bipush (-6), 2) := by decide +kernel
theorem dX7_lengthExchanged_64 : decode cX7_lengthExchanged 64 = .ok (.invokevirtual 203, 3) := by decide +kernel
theorem dX7_lengthExchanged_67 : decode cX7_lengthExchanged 67 = .ok (.aload_n 0, 1) := by decide +kernel
theorem dX7_lengthExchanged_68 : decode cX7_lengthExchanged 68 = .ok (.getfield 28, 3) := by decide +kernel
theorem dX7_lengthExchanged_71 : decode cX7_lengthExchanged 71 = .ok (.invokevirtual 126, 3) := by decide +kernel
theorem dX7_lengthExchanged_74 : decode cX7_lengthExchanged 74 = .ok (.ireturn, 1) := by decide +kernel
theorem dX7_undo_0 : decode cX7_undo 0 = .ok (.aload_n 0, 1) := by decide +kernel
theorem dX7_undo_1 : decode cX7_undo 1 = .ok (.getfield 50, 3) := by decide +kernel
theorem dX7_undo_4 : decode cX7_undo 4 = .ok (.getfield 181, 3) := by decide +kernel
theorem dX7_undo_7 : decode cX7_undo 7 = .ok (.ifCond .ne 6, 3) := by decide +kernel
theorem dX7_undo_10 : decode cX7_undo 10 = .ok (.bipush (-5), 2) := by decide +kernel
theorem dX7_undo_12 : decode cX7_undo 12 = .ok (.ireturn, 1) := by decide +kernel
theorem dX7_undo_13 : decode cX7_undo 13 = .ok (.aload_n 0, 1) := by decide +kernel
theorem dX7_undo_14 : decode cX7_undo 14 = .ok (.getfield 50, 3) := by decide +kernel
theorem dX7_undo_17 : decode cX7_undo 17 = .ok (.aload_n 0, 1) := by decide +kernel
theorem dX7_undo_18 : decode cX7_undo 18 = .ok (.getfield 10, 3) := by decide +kernel
theorem dX7_undo_21 : decode cX7_undo 21 = .ok (.invokevirtual 206, 3) := by decide +kernel
theorem dX7_undo_24 : decode cX7_undo 24 = .ok (.aload_n 0, 1) := by decide +kernel
theorem dX7_undo_25 : decode cX7_undo 25 = .ok (.getfield 21, 3) := by decide +kernel
theorem dX7_undo_28 : decode cX7_undo 28 = .ok (.bipush (-6), 2) := by decide +kernel
theorem dX7_undo_30 : decode cX7_undo 30 = .ok (.invokevirtual 75, 3) := by decide +kernel
theorem dX7_undo_33 : decode cX7_undo 33 = .ok (.aload_n 0, 1) := by decide +kernel
theorem dX7_undo_34 : decode cX7_undo 34 = .ok (.getfield 50, 3) := by decide +kernel
theorem dX7_undo_37 : decode cX7_undo 37 = .ok (.getfield 181, 3) := by decide +kernel
theorem dX7_undo_40 : decode cX7_undo 40 = .ok (.ireturn, 1) := by decide +kernel
theorem dX7_save_0 : decode cX7_save 0 = .ok (.iload_n 1, 1) := by decide +kernel
theorem dX7_save_1 : decode cX7_save 1 = .ok (.ifCond .lt 8, 3) := by decide +kernel
theorem dX7_save_4 : decode cX7_save 4 = .ok (.iload_n 1, 1) := by decide +kernel
theorem dX7_save_5 : decode cX7_save 5 = .ok (.iconst 2, 1) := by decide +kernel
theorem dX7_save_6 : decode cX7_save 6 = .ok (.if_icmp .lt 6, 3) := by decide +kernel
theorem dX7_save_9 : decode cX7_save 9 = .ok (.bipush (-2), 2) := by decide +kernel
theorem dX7_save_11 : decode cX7_save 11 = .ok (.ireturn, 1) := by decide +kernel
theorem dX7_save_12 : decode cX7_save 12 = .ok (.aload_n 0, 1) := by decide +kernel
theorem dX7_save_13 : decode cX7_save 13 = .ok (.getfield 54, 3) := by decide +kernel
theorem dX7_save_16 : decode cX7_save 16 = .ok (.iload_n 1, 1) := by decide +kernel
theorem dX7_save_17 : decode cX7_save 17 = .ok (.aaload, 1) := by decide +kernel
theorem dX7_save_18 : decode cX7_save 18 = .ok (.aload_n 0, 1) := by decide +kernel
theorem dX7_save_19 : decode cX7_save 19 = .ok (.getfield 10, 3) := by decide +kernel
theorem dX7_save_22 : decode cX7_save 22 = .ok (.invokevirtual 182, 3) := by decide +kernel
theorem dX7_save_25 : decode cX7_save 25 = .ok (.aload_n 0, 1) := by decide +kernel
theorem dX7_save_26 : decode cX7_save 26 = .ok (.getfield 58, 3) := by decide +kernel
theorem dX7_save_29 : decode cX7_save 29 = .ok (.iload_n 1, 1) := by decide +kernel
theorem dX7_save_30 : decode cX7_save 30 = .ok (.iconst 1, 1) := by decide +kernel
theorem dX7_save_31 : decode cX7_save 31 = .ok (.bastore, 1) := by decide +kernel
theorem dX7_save_32 : decode cX7_save 32 = .ok (.aload_n 0, 1) := by decide +kernel
theorem dX7_save_33 : decode cX7_save 33 = .ok (.getfield 21, 3) := by decide +kernel
theorem dX7_save_36 : decode cX7_save 36 = .ok (.invokevirtual 126, 3) := by decide +kernel
theorem dX7_save_39 : decode cX7_save 39 = .ok (.ireturn, 1) := by decide +kernel
theorem dX7_restore_0 : decode cX7_restore 0 = .ok (.iload_n 1, 1) := by decide +kernel
theorem dX7_restore_1 : decode cX7_restore 1 = .ok (.ifCond .lt 8, 3) := by decide +kernel
theorem dX7_restore_4 : decode cX7_restore 4 = .ok (.iload_n 1, 1) := by decide +kernel
theorem dX7_restore_5 : decode cX7_restore 5 = .ok (.iconst 2, 1) := by decide +kernel
theorem dX7_restore_6 : decode cX7_restore 6 = .ok (.if_icmp .lt 6, 3) := by decide +kernel
theorem dX7_restore_9 : decode cX7_restore 9 = .ok (.bipush (-2), 2) := by decide +kernel
theorem dX7_restore_11 : decode cX7_restore 11 = .ok (.ireturn, 1) := by decide +kernel
theorem dX7_restore_12 : decode cX7_restore 12 = .ok (.aload_n 0, 1) := by decide +kernel
theorem dX7_restore_13 : decode cX7_restore 13 = .ok (.getfield 58, 3) := by decide +kernel
theorem dX7_restore_16 : decode cX7_restore 16 = .ok (.iload_n 1, 1) := by decide +kernel
theorem dX7_restore_17 : decode cX7_restore 17 = .ok (.baload, 1) := by decide +kernel
theorem dX7_restore_18 : decode cX7_restore 18 = .ok (.ifCond .ne 6, 3) := by decide +kernel
theorem dX7_restore_21 : decode cX7_restore 21 = .ok (.bipush (-5), 2) := by decide +kernel
theorem dX7_restore_23 : decode cX7_restore 23 = .ok (.ireturn, 1) := by decide +kernel
theorem dX7_restore_24 : decode cX7_restore 24 = .ok (.aload_n 0, 1) := by decide +kernel
theorem dX7_restore_25 : decode cX7_restore 25 = .ok (.getfield 50, 3) := by decide +kernel
theorem dX7_restore_28 : decode cX7_restore 28 = .ok (.aload_n 0, 1) := by decide +kernel
theorem dX7_restore_29 : decode cX7_restore 29 = .ok (.getfield 10, 3) := by decide +kernel
theorem dX7_restore_32 : decode cX7_restore 32 = .ok (.invokevirtual 72, 3) := by decide +kernel
theorem dX7_restore_35 : decode cX7_restore 35 = .ok (.aload_n 0, 1) := by decide +kernel
theorem dX7_restore_36 : decode cX7_restore 36 = .ok (.getfield 10, 3) := by decide +kernel
theorem dX7_restore_39 : decode cX7_restore 39 = .ok (.aload_n 0, 1) := by decide +kernel
theorem dX7_restore_40 : decode cX7_restore 40 = .ok (.getfield 54, 3) := by decide +kernel
theorem dX7_restore_43 : decode cX7_restore 43 = .ok (.iload_n 1, 1) := by decide +kernel
theorem dX7_restore_44 : decode cX7_restore 44 = .ok (.aaload, 1) := by decide +kernel
theorem dX7_restore_45 : decode cX7_restore 45 = .ok (.invokevirtual 182, 3) := by decide +kernel
theorem dX7_restore_48 : decode cX7_restore 48 = .ok (.aload_n 0, 1) := by decide +kernel
theorem dX7_restore_49 : decode cX7_restore 49 = .ok (.getfield 21, 3) := by decide +kernel
theorem dX7_restore_52 : decode cX7_restore 52 = .ok (.bipush (-6), 2) := by decide +kernel
theorem dX7_restore_54 : decode cX7_restore 54 = .ok (.invokevirtual 75, 3) := by decide +kernel
theorem dX7_restore_57 : decode cX7_restore 57 = .ok (.aload_n 0, 1) := by decide +kernel
theorem dX7_restore_58 : decode cX7_restore 58 = .ok (.getfield 21, 3) := by decide +kernel
theorem dX7_restore_61 : decode cX7_restore 61 = .ok (.invokevirtual 126, 3) := by decide +kernel
theorem dX7_restore_64 : decode cX7_restore 64 = .ok (.ireturn, 1) := by decide +kernel
theorem dX7_isThread_0 : decode cX7_isThread 0 = .ok (.iload_n 0, 1) := by decide +kernel
theorem dX7_isThread_1 : decode cX7_isThread 1 = .ok (.ifCond .lt 12, 3) := by decide +kernel
theorem dX7_isThread_4 : decode cX7_isThread 4 = .ok (.iload_n 0, 1) := by decide +kernel
theorem dX7_isThread_5 : decode cX7_isThread 5 = .ok (.iconst 2, 1) := by decide +kernel
theorem dX7_isThread_6 : decode cX7_isThread 6 = .ok (.if_icmp .ge 7, 3) := by decide +kernel
theorem dX7_isThread_9 : decode cX7_isThread 9 = .ok (.iconst 1, 1) := by decide +kernel
theorem dX7_isThread_10 : decode cX7_isThread 10 = .ok (.goto 4, 3) := by decide +kernel
theorem dX7_isThread_13 : decode cX7_isThread 13 = .ok (.iconst 0, 1) := by decide +kernel
theorem dX7_isThread_14 : decode cX7_isThread 14 = .ok (.ireturn, 1) := by decide +kernel
theorem dJ9_floorMod_7cf53_0 : decode cJ9_floorMod_7cf53 0 = .ok (.iload_n 0, 1) := by decide +kernel
theorem dJ9_floorMod_7cf53_1 : decode cJ9_floorMod_7cf53 1 = .ok (.iload_n 1, 1) := by decide +kernel
theorem dJ9_floorMod_7cf53_2 : decode cJ9_floorMod_7cf53 2 = .ok (.irem, 1) := by decide +kernel
theorem dJ9_floorMod_7cf53_3 : decode cJ9_floorMod_7cf53 3 = .ok (.istore_n 2, 1) := by decide +kernel
theorem dJ9_floorMod_7cf53_4 : decode cJ9_floorMod_7cf53 4 = .ok (.iload_n 0, 1) := by decide +kernel
theorem dJ9_floorMod_7cf53_5 : decode cJ9_floorMod_7cf53 5 = .ok (.iload_n 1, 1) := by decide +kernel
theorem dJ9_floorMod_7cf53_6 : decode cJ9_floorMod_7cf53 6 = .ok (.ixor, 1) := by decide +kernel
theorem dJ9_floorMod_7cf53_7 : decode cJ9_floorMod_7cf53 7 = .ok (.ifCond .ge 11, 3) := by decide +kernel
theorem dJ9_floorMod_7cf53_10 : decode cJ9_floorMod_7cf53 10 = .ok (.iload_n 2, 1) := by decide +kernel
theorem dJ9_floorMod_7cf53_11 : decode cJ9_floorMod_7cf53 11 = .ok (.ifCond .eq 7, 3) := by decide +kernel
theorem dJ9_floorMod_7cf53_14 : decode cJ9_floorMod_7cf53 14 = .ok (.iload_n 2, 1) := by decide +kernel
theorem dJ9_floorMod_7cf53_15 : decode cJ9_floorMod_7cf53 15 = .ok (.iload_n 1, 1) := by decide +kernel
theorem dJ9_floorMod_7cf53_16 : decode cJ9_floorMod_7cf53 16 = .ok (.iadd, 1) := by decide +kernel
theorem dJ9_floorMod_7cf53_17 : decode cJ9_floorMod_7cf53 17 = .ok (.ireturn, 1) := by decide +kernel
theorem dJ9_floorMod_7cf53_18 : decode cJ9_floorMod_7cf53 18 = .ok (.iload_n 2, 1) := by decide +kernel
theorem dJ9_floorMod_7cf53_19 : decode cJ9_floorMod_7cf53 19 = .ok (.ireturn, 1) := by decide +kernel
theorem dJ9_max_7cf53_0 : decode cJ9_max_7cf53 0 = .ok (.iload_n 0, 1) := by decide +kernel
theorem dJ9_max_7cf53_1 : decode cJ9_max_7cf53 1 = .ok (.iload_n 1, 1) := by decide +kernel
theorem dJ9_max_7cf53_2 : decode cJ9_max_7cf53 2 = .ok (.if_icmp .lt 7, 3) := by decide +kernel
theorem dJ9_max_7cf53_5 : decode cJ9_max_7cf53 5 = .ok (.iload_n 0, 1) := by decide +kernel
theorem dJ9_max_7cf53_6 : decode cJ9_max_7cf53 6 = .ok (.goto 4, 3) := by decide +kernel
theorem dJ9_max_7cf53_9 : decode cJ9_max_7cf53 9 = .ok (.iload_n 1, 1) := by decide +kernel
theorem dJ9_max_7cf53_10 : decode cJ9_max_7cf53 10 = .ok (.ireturn, 1) := by decide +kernel
