theorem dX6_readByte_17 : decode cX6_readByte 17 = .ok (.ifCond .ne 9, 3) := by decide +kernel
theorem dX6_readByte_20 : decode cX6_readByte 20 = .ok (.aload_n 0, 1) := by decide +kernel
theorem dX6_readByte_21 : decode cX6_readByte 21 = .ok (.iload_n 1, 1) := by decide +kernel
theorem dX6_readByte_22 : decode cX6_readByte 22 = .ok (.invokevirtual 49, 3) := by decide +kernel
theorem dX6_readByte_25 : decode cX6_readByte 25 = .ok (.ireturn, 1) := by decide +kernel
theorem dX6_readByte_26 : decode cX6_readByte 26 = .ok (.iload_n 1, 1) := by decide +kernel
theorem dX6_readByte_27 : decode cX6_readByte 27 = .ok (.bipush 48, 2) := by decide +kernel
theorem dX6_readByte_29 : decode cX6_readByte 29 = .ok (.bipush 57, 2) := by decide +kernel
theorem dX6_readByte_31 : decode cX6_readByte 31 = .ok (.invokestatic 24, 3) := by decide +kernel
theorem dX6_readByte_34 : decode cX6_readByte 34 = .ok (.ifCond .eq 12, 3) := by decide +kernel
theorem dX6_readByte_37 : decode cX6_readByte 37 = .ok (.aload_n 0, 1) := by decide +kernel
theorem dX6_readByte_38 : decode cX6_readByte 38 = .ok (.iload_n 1, 1) := by decide +kernel
theorem dX6_readByte_39 : decode cX6_readByte 39 = .ok (.bipush 48, 2) := by decide +kernel
theorem dX6_readByte_41 : decode cX6_readByte 41 = .ok (.isub, 1) := by decide +kernel
theorem dX6_readByte_42 : decode cX6_readByte 42 = .ok (.invokevirtual 52, 3) := by decide +kernel
theorem dX6_readByte_45 : decode cX6_readByte 45 = .ok (.ireturn, 1) := by decide +kernel
theorem dX6_readByte_46 : decode cX6_readByte 46 = .ok (.iload_n 1, 1) := by decide +kernel
theorem dX6_readByte_47 : decode cX6_readByte 47 = .ok (.bipush 59, 2) := by decide +kernel
theorem dX6_readByte_49 : decode cX6_readByte 49 = .ok (.if_icmp .ne 14, 3) := by decide +kernel
theorem dX6_readByte_52 : decode cX6_readByte 52 = .ok (.aload_n 0, 1) := by decide +kernel
theorem dX6_readByte_53 : decode cX6_readByte 53 = .ok (.invokevirtual 55, 3) := by decide +kernel
theorem dX6_readByte_56 : decode cX6_readByte 56 = .ok (.ifCond .eq 7, 3) := by decide +kernel
theorem dX6_readByte_59 : decode cX6_readByte 59 = .ok (.iconst 1, 1) := by decide +kernel
theorem dX6_readByte_60 : decode cX6_readByte 60 = .ok (.goto 4, 3) := by decide +kernel
theorem dX6_readByte_63 : decode cX6_readByte 63 = .ok (.iconst 0, 1) := by decide +kernel
theorem dX6_readByte_64 : decode cX6_readByte 64 = .ok (.ireturn, 1) := by decide +kernel
theorem dX6_readLetter_0 : decode cX6_readLetter 0 = .ok (.iload_n 1, 1) := by decide +kernel
theorem dX6_readLetter_1 : decode cX6_readLetter 1 = .ok (.invokestatic 59, 3) := by decide +kernel
theorem dX6_readLetter_4 : decode cX6_readLetter 4 = .ok (.ifCond .eq 12, 3) := by decide +kernel
theorem dX6_readLetter_7 : decode cX6_readLetter 7 = .ok (.aload_n 0, 1) := by decide +kernel
theorem dX6_readLetter_8 : decode cX6_readLetter 8 = .ok (.getfield 32, 3) := by decide +kernel
theorem dX6_readLetter_11 : decode cX6_readLetter 11 = .ok (.bipush 40, 2) := by decide +kernel
theorem dX6_readLetter_13 : decode cX6_readLetter 13 = .ok (.if_icmp .lt 5, 3) := by decide +kernel
theorem dX6_readLetter_16 : decode cX6_readLetter 16 = .ok (.iconst 0, 1) := by decide +kernel
theorem dX6_readLetter_17 : decode cX6_readLetter 17 = .ok (.ireturn, 1) := by decide +kernel
theorem dX6_readLetter_18 : decode cX6_readLetter 18 = .ok (.aload_n 0, 1) := by decide +kernel
theorem dX6_readLetter_19 : decode cX6_readLetter 19 = .ok (.iload_n 1, 1) := by decide +kernel
theorem dX6_readLetter_20 : decode cX6_readLetter 20 = .ok (.putfield 39, 3) := by decide +kernel
theorem dX6_readLetter_23 : decode cX6_readLetter 23 = .ok (.aload_n 0, 1) := by decide +kernel
theorem dX6_readLetter_24 : decode cX6_readLetter 24 = .ok (.getfield 15, 3) := by decide +kernel
theorem dX6_readLetter_27 : decode cX6_readLetter 27 = .ok (.aload_n 0, 1) := by decide +kernel
theorem dX6_readLetter_28 : decode cX6_readLetter 28 = .ok (.getfield 32, 3) := by decide +kernel
theorem dX6_readLetter_31 : decode cX6_readLetter 31 = .ok (.iload_n 1, 1) := by decide +kernel
theorem dX6_readLetter_32 : decode cX6_readLetter 32 = .ok (.iastore, 1) := by decide +kernel
theorem dX6_readLetter_33 : decode cX6_readLetter 33 = .ok (.aload_n 0, 1) := by decide +kernel
theorem dX6_readLetter_34 : decode cX6_readLetter 34 = .ok (.getfield 18, 3) := by decide +kernel
theorem dX6_readLetter_37 : decode cX6_readLetter 37 = .ok (.aload_n 0, 1) := by decide +kernel
theorem dX6_readLetter_38 : decode cX6_readLetter 38 = .ok (.getfield 32, 3) := by decide +kernel
theorem dX6_readLetter_41 : decode cX6_readLetter 41 = .ok (.iconst 0, 1) := by decide +kernel
theorem dX6_readLetter_42 : decode cX6_readLetter 42 = .ok (.iastore, 1) := by decide +kernel
theorem dX6_readLetter_43 : decode cX6_readLetter 43 = .ok (.iconst 1, 1) := by decide +kernel
theorem dX6_readLetter_44 : decode cX6_readLetter 44 = .ok (.ireturn, 1) := by decide +kernel
theorem dX6_readFigure_0 : decode cX6_readFigure 0 = .ok (.aload_n 0, 1) := by decide +kernel
theorem dX6_readFigure_1 : decode cX6_readFigure 1 = .ok (.getfield 42, 3) := by decide +kernel
theorem dX6_readFigure_4 : decode cX6_readFigure 4 = .ok (.ifCond .ne 9, 3) := by decide +kernel
theorem dX6_readFigure_7 : decode cX6_readFigure 7 = .ok (.aload_n 0, 1) := by decide +kernel
theorem dX6_readFigure_8 : decode cX6_readFigure 8 = .ok (.iload_n 1, 1) := by decide +kernel
theorem dX6_readFigure_9 : decode cX6_readFigure 9 = .ok (.invokevirtual 62, 3) := by decide +kernel
theorem dX6_readFigure_12 : decode cX6_readFigure 12 = .ok (.ireturn, 1) := by decide +kernel
theorem dX6_readFigure_13 : decode cX6_readFigure 13 = .ok (.aload_n 0, 1) := by decide +kernel
theorem dX6_readFigure_14 : decode cX6_readFigure 14 = .ok (.getfield 42, 3) := by decide +kernel
theorem dX6_readFigure_17 : decode cX6_readFigure 17 = .ok (.iconst 3, 1) := by decide +kernel
theorem dX6_readFigure_18 : decode cX6_readFigure 18 = .ok (.if_icmp .lt 5, 3) := by decide +kernel
theorem dX6_readFigure_21 : decode cX6_readFigure 21 = .ok (.iconst 0, 1) := by decide +kernel
theorem dX6_readFigure_22 : decode cX6_readFigure 22 = .ok (.ireturn, 1) := by decide +kernel
theorem dX6_readFigure_23 : decode cX6_readFigure 23 = .ok (.aload_n 0, 1) := by decide +kernel
theorem dX6_readFigure_24 : decode cX6_readFigure 24 = .ok (.getfield 32, 3) := by decide +kernel
theorem dX6_readFigure_27 : decode cX6_readFigure 27 = .ok (.bipush 8, 2) := by decide +kernel
theorem dX6_readFigure_29 : decode cX6_readFigure 29 = .ok (.imul, 1) := by decide +kernel
theorem dX6_readFigure_30 : decode cX6_readFigure 30 = .ok (.aload_n 0, 1) := by decide +kernel
theorem dX6_readFigure_31 : decode cX6_readFigure 31 = .ok (.getfield 18, 3) := by decide +kernel
theorem dX6_readFigure_34 : decode cX6_readFigure 34 = .ok (.aload_n 0, 1) := by decide +kernel
theorem dX6_readFigure_35 : decode cX6_readFigure 35 = .ok (.getfield 32, 3) := by decide +kernel
theorem dX6_readFigure_38 : decode cX6_readFigure 38 = .ok (.iaload, 1) := by decide +kernel
theorem dX6_readFigure_39 : decode cX6_readFigure 39 = .ok (.iadd, 1) := by decide +kernel
theorem dX6_readFigure_40 : decode cX6_readFigure 40 = .ok (.iconst 1, 1) := by decide +kernel
theorem dX6_readFigure_41 : decode cX6_readFigure 41 = .ok (.isub, 1) := by decide +kernel
theorem dX6_readFigure_42 : decode cX6_readFigure 42 = .ok (.istore_n 2, 1) := by decide +kernel
theorem dX6_readFigure_43 : decode cX6_readFigure 43 = .ok (.aload_n 0, 1) := by decide +kernel
theorem dX6_readFigure_44 : decode cX6_readFigure 44 = .ok (.getfield 21, 3) := by decide +kernel
theorem dX6_readFigure_47 : decode cX6_readFigure 47 = .ok (.iload_n 2, 1) := by decide +kernel
theorem dX6_readFigure_48 : decode cX6_readFigure 48 = .ok (.bipush 10, 2) := by decide +kernel
theorem dX6_readFigure_50 : decode cX6_readFigure 50 = .ok (.aload_n 0, 1) := by decide +kernel
theorem dX6_readFigure_51 : decode cX6_readFigure 51 = .ok (.getfield 21, 3) := by decide +kernel
theorem dX6_readFigure_54 : decode cX6_readFigure 54 = .ok (.iload_n 2, 1) := by decide +kernel
theorem dX6_readFigure_55 : decode cX6_readFigure 55 = .ok (.iaload, 1) := by decide +kernel
theorem dX6_readFigure_56 : decode cX6_readFigure 56 = .ok (.imul, 1) := by decide +kernel
theorem dX6_readFigure_57 : decode cX6_readFigure 57 = .ok (.iload_n 1, 1) := by decide +kernel
theorem dX6_readFigure_58 : decode cX6_readFigure 58 = .ok (.iadd, 1) := by decide +kernel
theorem dX6_readFigure_59 : decode cX6_readFigure 59 = .ok (.iastore, 1) := by decide +kernel
theorem dX6_readFigure_60 : decode cX6_readFigure 60 = .ok (.aload_n 0, 1) := by decide +kernel
theorem dX6_readFigure_61 : decode cX6_readFigure 61 = .ok (.dup, 1) := by decide +kernel
theorem dX6_readFigure_62 : decode cX6_readFigure 62 = .ok (.getfield 42, 3) := by decide +kernel
theorem dX6_readFigure_65 : decode cX6_readFigure 65 = .ok (.iconst 1, 1) := by decide +kernel
theorem dX6_readFigure_66 : decode cX6_readFigure 66 = .ok (.iadd, 1) := by decide +kernel
theorem dX6_readFigure_67 : decode cX6_readFigure 67 = .ok (.putfield 42, 3) := by decide +kernel
theorem dX6_readFigure_70 : decode cX6_readFigure 70 = .ok (.iconst 1, 1) := by decide +kernel
theorem dX6_readFigure_71 : decode cX6_readFigure 71 = .ok (.ireturn, 1) := by decide +kernel
theorem dX6_readFirstFigure_0 : decode cX6_readFirstFigure 0 = .ok (.aload_n 0, 1) := by decide +kernel
theorem dX6_readFirstFigure_1 : decode cX6_readFirstFigure 1 = .ok (.getfield 18, 3) := by decide +kernel
theorem dX6_readFirstFigure_4 : decode cX6_readFirstFigure 4 = .ok (.aload_n 0, 1) := by decide +kernel
theorem dX6_readFirstFigure_5 : decode cX6_readFirstFigure 5 = .ok (.getfield 32, 3) := by decide +kernel
theorem dX6_readFirstFigure_8 : decode cX6_readFirstFigure 8 = .ok (.iaload, 1) := by decide +kernel
theorem dX6_readFirstFigure_9 : decode cX6_readFirstFigure 9 = .ok (.aload_n 0, 1) := by decide +kernel
theorem dX6_readFirstFigure_10 : decode cX6_readFirstFigure 10 = .ok (.getfield 39, 3) := by decide +kernel
theorem dX6_readFirstFigure_13 : decode cX6_readFirstFigure 13 = .ok (.invokestatic 59, 3) := by decide +kernel
theorem dX6_readFirstFigure_16 : decode cX6_readFirstFigure 16 = .ok (.if_icmp .lt 5, 3) := by decide +kernel
theorem dX6_readFirstFigure_19 : decode cX6_readFirstFigure 19 = .ok (.iconst 0, 1) := by decide +kernel
theorem dX6_readFirstFigure_20 : decode cX6_readFirstFigure 20 = .ok (.ireturn, 1) := by decide +kernel
theorem dX6_readFirstFigure_21 : decode cX6_readFirstFigure 21 = .ok (.aload_n 0, 1) := by decide +kernel
theorem dX6_readFirstFigure_22 : decode cX6_readFirstFigure 22 = .ok (.getfield 21, 3) := by decide +kernel
theorem dX6_readFirstFigure_25 : decode cX6_readFirstFigure 25 = .ok (.aload_n 0, 1) := by decide +kernel
theorem dX6_readFirstFigure_26 : decode cX6_readFirstFigure 26 = .ok (.getfield 32, 3) := by decide +kernel
theorem dX6_readFirstFigure_29 : decode cX6_readFirstFigure 29 = .ok (.bipush 8, 2) := by decide +kernel
theorem dX6_readFirstFigure_31 : decode cX6_readFirstFigure 31 = .ok (.imul, 1) := by decide +kernel
theorem dX6_readFirstFigure_32 : decode cX6_readFirstFigure 32 = .ok (.aload_n 0, 1) := by decide +kernel
theorem dX6_readFirstFigure_33 : decode cX6_readFirstFigure 33 = .ok (.getfield 18, 3) := by decide +kernel
theorem dX6_readFirstFigure_36 : decode cX6_readFirstFigure 36 = .ok (.aload_n 0, 1) := by decide +kernel
theorem dX6_readFirstFigure_37 : decode cX6_readFirstFigure 37 = .ok (.getfield 32, 3) := by decide +kernel
theorem dX6_readFirstFigure_40 : decode cX6_readFirstFigure 40 = .ok (.iaload, 1) := by decide +kernel
theorem dX6_readFirstFigure_41 : decode cX6_readFirstFigure 41 = .ok (.iadd, 1) := by decide +kernel
theorem dX6_readFirstFigure_42 : decode cX6_readFirstFigure 42 = .ok (.iload_n 1, 1) := by decide +kernel
theorem dX6_readFirstFigure_43 : decode cX6_readFirstFigure 43 = .ok (.iastore, 1) := by decide +kernel
theorem dX6_readFirstFigure_44 : decode cX6_readFirstFigure 44 = .ok (.aload_n 0, 1) := by decide +kernel
theorem dX6_readFirstFigure_45 : decode cX6_readFirstFigure 45 = .ok (.getfield 18, 3) := by decide +kernel
theorem dX6_readFirstFigure_48 : decode cX6_readFirstFigure 48 = .ok (.aload_n 0, 1) := by decide +kernel
theorem dX6_readFirstFigure_49 : decode cX6_readFirstFigure 49 = .ok (.getfield 32, 3) := by decide +kernel
theorem dX6_readFirstFigure_52 : decode cX6_readFirstFigure 52 = .ok (.dup2, 1) := by decide +kernel
theorem dX6_readFirstFigure_53 : decode cX6_readFirstFigure 53 = .ok (.iaload, 1) := by decide +kernel
theorem dX6_readFirstFigure_54 : decode cX6_readFirstFigure 54 = .ok (.iconst 1, 1) := by decide +kernel
theorem dX6_readFirstFigure_55 : decode cX6_readFirstFigure 55 = .ok (.iadd, 1) := by decide +kernel
theorem dX6_readFirstFigure_56 : decode cX6_readFirstFigure 56 = .ok (.iastore, 1) := by decide +kernel
theorem dX6_readFirstFigure_57 : decode cX6_readFirstFigure 57 = .ok (.aload_n 0, 1) := by decide +kernel
theorem dX6_readFirstFigure_58 : decode cX6_readFirstFigure 58 = .ok (.iconst 1, 1) := by decide +kernel
theorem dX6_readFirstFigure_59 : decode cX6_readFirstFigure 59 = .ok (.putfield 42, 3) := by decide +kernel
theorem dX6_readFirstFigure_62 : decode cX6_readFirstFigure 62 = .ok (.iconst 1, 1) := by decide +kernel
theorem dX6_readFirstFigure_63 : decode cX6_readFirstFigure 63 = .ok (.ireturn, 1) := by decide +kernel
theorem dX6_readEnd_0 : decode cX6_readEnd 0 = .ok (.aload_n 0, 1) := by decide +kernel
theorem dX6_readEnd_1 : decode cX6_readEnd 1 = .ok (.getfield 18, 3) := by decide +kernel
theorem dX6_readEnd_4 : decode cX6_readEnd 4 = .ok (.aload_n 0, 1) := by decide +kernel
theorem dX6_readEnd_5 : decode cX6_readEnd 5 = .ok (.getfield 32, 3) := by decide +kernel
theorem dX6_readEnd_8 : decode cX6_readEnd 8 = .ok (.iaload, 1) := by decide +kernel
theorem dX6_readEnd_9 : decode cX6_readEnd 9 = .ok (.aload_n 0, 1) := by decide +kernel
theorem dX6_readEnd_10 : decode cX6_readEnd 10 = .ok (.getfield 39, 3) := by decide +kernel
theorem dX6_readEnd_13 : decode cX6_readEnd 13 = .ok (.invokestatic 65, 3) := by decide +kernel
theorem dX6_readEnd_16 : decode cX6_readEnd 16 = .ok (.if_icmp .ge 5, 3) := by decide +kernel
theorem dX6_readEnd_19 : decode cX6_readEnd 19 = .ok (.iconst 0, 1) := by decide +kernel
theorem dX6_readEnd_20 : decode cX6_readEnd 20 = .ok (.ireturn, 1) := by decide +kernel
theorem dX6_readEnd_21 : decode cX6_readEnd 21 = .ok (.aload_n 0, 1) := by decide +kernel
theorem dX6_readEnd_22 : decode cX6_readEnd 22 = .ok (.dup, 1) := by decide +kernel
theorem dX6_readEnd_23 : decode cX6_readEnd 23 = .ok (.getfield 32, 3) := by decide +kernel
theorem dX6_readEnd_26 : decode cX6_readEnd 26 = .ok (.iconst 1, 1) := by decide +kernel
theorem dX6_readEnd_27 : decode cX6_readEnd 27 = .ok (.iadd, 1) := by decide +kernel
theorem dX6_readEnd_28 : decode cX6_readEnd 28 = .ok (.putfield 32, 3) := by decide +kernel
theorem dX6_readEnd_31 : decode cX6_readEnd 31 = .ok (.aload_n 0, 1) := by decide +kernel
theorem dX6_readEnd_32 : decode cX6_readEnd 32 = .ok (.iconst 0, 1) := by decide +kernel
theorem dX6_readEnd_33 : decode cX6_readEnd 33 = .ok (.putfield 39, 3) := by decide +kernel
theorem dX6_readEnd_36 : decode cX6_readEnd 36 = .ok (.aload_n 0, 1) := by decide +kernel
theorem dX6_readEnd_37 : decode cX6_readEnd 37 = .ok (.iconst 0, 1) := by decide +kernel
theorem dX6_readEnd_38 : decode cX6_readEnd 38 = .ok (.putfield 42, 3) := by decide +kernel
theorem dX6_readEnd_41 : decode cX6_readEnd 41 = .ok (.iconst 1, 1) := by decide +kernel
theorem dX6_readEnd_42 : decode cX6_readEnd 42 = .ok (.ireturn, 1) := by decide +kernel
theorem dX6_mostNumbers_0 : decode cX6_mostNumbers 0 = .ok (.iload_n 0, 1) := by decide +kernel
theorem dX6_mostNumbers_1 : decode cX6_mostNumbers 1 = .ok (.lookupswitch 60 #[(99, 55), (102, 51), (103, 57), (109, 53), (114, 53)], 51) := by decide +kernel
theorem dX6_mostNumbers_52 : decode cX6_mostNumbers 52 = .ok (.iconst 1, 1) := by decide +kernel
theorem dX6_mostNumbers_53 : decode cX6_mostNumbers 53 = .ok (.ireturn, 1) := by decide +kernel
theorem dX6_mostNumbers_54 : decode cX6_mostNumbers 54 = .ok (.iconst 2, 1) := by decide +kernel
theorem dX6_mostNumbers_55 : decode cX6_mostNumbers 55 = .ok (.ireturn, 1) := by decide +kernel
theorem dX6_mostNumbers_56 : decode cX6_mostNumbers 56 = .ok (.iconst 3, 1) := by decide +kernel
theorem dX6_mostNumbers_57 : decode cX6_mostNumbers 57 = .ok (.ireturn, 1) := by decide +kernel
theorem dX6_mostNumbers_58 : decode cX6_mostNumbers 58 = .ok (.bipush 8, 2) := by decide +kernel
theorem dX6_mostNumbers_60 : decode cX6_mostNumbers 60 = .ok (.ireturn, 1) := by decide +kernel
theorem dX6_mostNumbers_61 : decode cX6_mostNumbers 61 = .ok (.iconst 0, 1) := by decide +kernel
theorem dX6_mostNumbers_62 : decode cX6_mostNumbers 62 = .ok (.ireturn, 1) := by decide +kernel
theorem dX6_leastNumbers_0 : decode cX6_leastNumbers 0 = .ok (.iload_n 0, 1) := by decide +kernel
theorem dX6_leastNumbers_1 : decode cX6_leastNumbers 1 = .ok (.bipush 103, 2) := by decide +kernel
theorem dX6_leastNumbers_3 : decode cX6_leastNumbers 3 = .ok (.if_icmp .ne 7, 3) := by decide +kernel
theorem dX6_leastNumbers_6 : decode cX6_leastNumbers 6 = .ok (.iconst 5, 1) := by decide +kernel
theorem dX6_leastNumbers_7 : decode cX6_leastNumbers 7 = .ok (.goto 7, 3) := by decide +kernel
theorem dX6_leastNumbers_10 : decode cX6_leastNumbers 10 = .ok (.iload_n 0, 1) := by decide +kernel
theorem dX6_leastNumbers_11 : decode cX6_leastNumbers 11 = .ok (.invokestatic 59, 3) := by decide +kernel
theorem dX6_leastNumbers_14 : decode cX6_leastNumbers 14 = .ok (.ireturn, 1) := by decide +kernel
theorem dX7_init_0 : decode cX7_init 0 = .ok (.aload_n 0, 1) := by decide +kernel
theorem dX7_init_1 : decode cX7_init 1 = .ok (.invokespecial 1, 3) := by decide +kernel
theorem dX7_init_4 : decode cX7_init 4 = .ok (.new 7, 3) := by decide +kernel
theorem dX7_init_7 : decode cX7_init 7 = .ok (.dup, 1) := by decide +kernel
theorem dX7_init_8 : decode cX7_init 8 = .ok (.invokespecial 9, 3) := by decide +kernel
theorem dX7_init_11 : decode cX7_init 11 = .ok (.astore_n 1, 1) := by decide +kernel
theorem dX7_init_12 : decode cX7_init 12 = .ok (.aload_n 0, 1) := by decide +kernel
theorem dX7_init_13 : decode cX7_init 13 = .ok (.new 10, 3) := by decide +kernel
theorem dX7_init_16 : decode cX7_init 16 = .ok (.dup, 1) := by decide +kernel
theorem dX7_init_17 : decode cX7_init 17 = .ok (.aload_n 1, 1) := by decide +kernel
theorem dX7_init_18 : decode cX7_init 18 = .ok (.invokespecial 12, 3) := by decide +kernel
theorem dX7_init_21 : decode cX7_init 21 = .ok (.putfield 15, 3) := by decide +kernel
theorem dX7_init_24 : decode cX7_init 24 = .ok (.aload_n 0, 1) := by decide +kernel
theorem dX7_init_25 : decode cX7_init 25 = .ok (.new 21, 3) := by decide +kernel
theorem dX7_init_28 : decode cX7_init 28 = .ok (.dup, 1) := by decide +kernel
theorem dX7_init_29 : decode cX7_init 29 = .ok (.aload_n 1, 1) := by decide +kernel
theorem dX7_init_30 : decode cX7_init 30 = .ok (.invokespecial 23, 3) := by decide +kernel
theorem dX7_init_33 : decode cX7_init 33 = .ok (.putfield 24, 3) := by decide +kernel
theorem dX7_init_36 : decode cX7_init 36 = .ok (.aload_n 0, 1) := by decide +kernel
theorem dX7_init_37 : decode cX7_init 37 = .ok (.new 28, 3) := by decide +kernel
theorem dX7_init_40 : decode cX7_init 40 = .ok (.dup, 1) := by decide +kernel
theorem dX7_init_41 : decode cX7_init 41 = .ok (.invokespecial 30, 3) := by decide +kernel
theorem dX7_init_44 : decode cX7_init 44 = .ok (.putfield 31, 3) := by decide +kernel
theorem dX7_init_47 : decode cX7_init 47 = .ok (.aload_n 0, 1) := by decide +kernel
theorem dX7_init_48 : decode cX7_init 48 = .ok (.iconst 3, 1) := by decide +kernel
theorem dX7_init_49 : decode cX7_init 49 = .ok (.newarray .int, 2) := by decide +kernel
theorem dX7_init_51 : decode cX7_init 51 = .ok (.putfield 35, 3) := by decide +kernel
theorem dX7_init_54 : decode cX7_init 54 = .ok (.return_, 1) := by decide +kernel
theorem dX7_counters_0 : decode cX7_counters 0 = .ok (.aload_n 0, 1) := by decide +kernel
theorem dX7_counters_1 : decode cX7_counters 1 = .ok (.getfield 24, 3) := by decide +kernel
theorem dX7_counters_4 : decode cX7_counters 4 = .ok (.aload_n 0, 1) := by decide +kernel
theorem dX7_counters_5 : decode cX7_counters 5 = .ok (.getfield 15, 3) := by decide +kernel
theorem dX7_counters_8 : decode cX7_counters 8 = .ok (.invokevirtual 39, 3) := by decide +kernel
theorem dX7_counters_11 : decode cX7_counters 11 = .ok (.aload_n 0, 1) := by decide +kernel
theorem dX7_counters_12 : decode cX7_counters 12 = .ok (.aload_n 0, 1) := by decide +kernel
theorem dX7_counters_13 : decode cX7_counters 13 = .ok (.getfield 15, 3) := by decide +kernel
theorem dX7_counters_16 : decode cX7_counters 16 = .ok (.iload_n 1, 1) := by decide +kernel
theorem dX7_counters_17 : decode cX7_counters 17 = .ok (.invokevirtual 43, 3) := by decide +kernel
theorem dX7_counters_20 : decode cX7_counters 20 = .ok (.invokevirtual 47, 3) := by decide +kernel
theorem dX7_counters_23 : decode cX7_counters 23 = .ok (.ireturn, 1) := by decide +kernel
theorem dX7_masks_0 : decode cX7_masks 0 = .ok (.aload_n 0, 1) := by decide +kernel
theorem dX7_masks_1 : decode cX7_masks 1 = .ok (.getfield 24, 3) := by decide +kernel
theorem dX7_masks_4 : decode cX7_masks 4 = .ok (.aload_n 0, 1) := by decide +kernel
theorem dX7_masks_5 : decode cX7_masks 5 = .ok (.getfield 15, 3) := by decide +kernel
theorem dX7_masks_8 : decode cX7_masks 8 = .ok (.invokevirtual 39, 3) := by decide +kernel
theorem dX7_masks_11 : decode cX7_masks 11 = .ok (.aload_n 0, 1) := by decide +kernel
theorem dX7_masks_12 : decode cX7_masks 12 = .ok (.aload_n 0, 1) := by decide +kernel
theorem dX7_masks_13 : decode cX7_masks 13 = .ok (.getfield 15, 3) := by decide +kernel
theorem dX7_masks_16 : decode cX7_masks 16 = .ok (.iload_n 1, 1) := by decide +kernel
theorem dX7_masks_17 : decode cX7_masks 17 = .ok (.iload_n 2, 1) := by decide +kernel
theorem dX7_masks_18 : decode cX7_masks 18 = .ok (.invokevirtual 50, 3) := by decide +kernel
theorem dX7_masks_21 : decode cX7_masks 21 = .ok (.invokevirtual 47, 3) := by decide +kernel
theorem dX7_masks_24 : decode cX7_masks 24 = .ok (.ireturn, 1) := by decide +kernel
theorem dX7_rates_0 : decode cX7_rates 0 = .ok (.aload_n 0, 1) := by decide +kernel
theorem dX7_rates_1 : decode cX7_rates 1 = .ok (.getfield 24, 3) := by decide +kernel
theorem dX7_rates_4 : decode cX7_rates 4 = .ok (.aload_n 0, 1) := by decide +kernel
theorem dX7_rates_5 : decode cX7_rates 5 = .ok (.getfield 15, 3) := by decide +kernel
theorem dX7_rates_8 : decode cX7_rates 8 = .ok (.invokevirtual 39, 3) := by decide +kernel
theorem dX7_rates_11 : decode cX7_rates 11 = .ok (.aload_n 0, 1) := by decide +kernel
theorem dX7_rates_12 : decode cX7_rates 12 = .ok (.aload_n 0, 1) := by decide +kernel
theorem dX7_rates_13 : decode cX7_rates 13 = .ok (.getfield 15, 3) := by decide +kernel
theorem dX7_rates_16 : decode cX7_rates 16 = .ok (.getfield 54, 3) := by decide +kernel
theorem dX7_rates_19 : decode cX7_rates 19 = .ok (.iload_n 1, 1) := by decide +kernel
theorem dX7_rates_20 : decode cX7_rates 20 = .ok (.iload_n 2, 1) := by decide +kernel
theorem dX7_rates_21 : decode cX7_rates 21 = .ok (.iload_n 3, 1) := by decide +kernel
theorem dX7_rates_22 : decode cX7_rates 22 = .ok (.invokevirtual 58, 3) := by decide +kernel
theorem dX7_rates_25 : decode cX7_rates 25 = .ok (.invokevirtual 47, 3) := by decide +kernel
theorem dX7_rates_28 : decode cX7_rates 28 = .ok (.ireturn, 1) := by decide +kernel
theorem dX7_forks_0 : decode cX7_forks 0 = .ok (.aload_n 0, 1) := by decide +kernel
theorem dX7_forks_1 : decode cX7_forks 1 = .ok (.getfield 24, 3) := by decide +kernel
theorem dX7_forks_4 : decode cX7_forks 4 = .ok (.aload_n 0, 1) := by decide +kernel
theorem dX7_forks_5 : decode cX7_forks 5 = .ok (.getfield 15, 3) := by decide +kernel
theorem dX7_forks_8 : decode cX7_forks 8 = .ok (.invokevirtual 39, 3) := by decide +kernel
theorem dX7_forks_11 : decode cX7_forks 11 = .ok (.aload_n 0, 1) := by decide +kernel
theorem dX7_forks_12 : decode cX7_forks 12 = .ok (.aload_n 0, 1) := by decide +kernel
theorem dX7_forks_13 : decode cX7_forks 13 = .ok (.getfield 15, 3) := by decide +kernel
theorem dX7_forks_16 : decode cX7_forks 16 = .ok (.getfield 54, 3) := by decide +kernel
theorem dX7_forks_19 : decode cX7_forks 19 = .ok (.iload_n 1, 1) := by decide +kernel
theorem dX7_forks_20 : decode cX7_forks 20 = .ok (.invokevirtual 64, 3) := by decide +kernel
theorem dX7_forks_23 : decode cX7_forks 23 = .ok (.invokevirtual 47, 3) := by decide +kernel
theorem dX7_forks_26 : decode cX7_forks 26 = .ok (.ireturn, 1) := by decide +kernel
theorem dX7_exits_0 : decode cX7_exits 0 = .ok (.aload_n 0, 1) := by decide +kernel
theorem dX7_exits_1 : decode cX7_exits 1 = .ok (.getfield 24, 3) := by decide +kernel
theorem dX7_exits_4 : decode cX7_exits 4 = .ok (.aload_n 0, 1) := by decide +kernel
theorem dX7_exits_5 : decode cX7_exits 5 = .ok (.getfield 15, 3) := by decide +kernel
theorem dX7_exits_8 : decode cX7_exits 8 = .ok (.invokevirtual 39, 3) := by decide +kernel
theorem dX7_exits_11 : decode cX7_exits 11 = .ok (.aload_n 0, 1) := by decide +kernel
theorem dX7_exits_12 : decode cX7_exits 12 = .ok (.aload_n 0, 1) := by decide +kernel
theorem dX7_exits_13 : decode cX7_exits 13 = .ok (.getfield 15, 3) := by decide +kernel
theorem dX7_exits_16 : decode cX7_exits 16 = .ok (.iload_n 1, 1) := by decide +kernel
theorem dX7_exits_17 : decode cX7_exits 17 = .ok (.invokevirtual 67, 3) := by decide +kernel
theorem dX7_exits_20 : decode cX7_exits 20 = .ok (.invokevirtual 47, 3) := by decide +kernel
theorem dX7_exits_23 : decode cX7_exits 23 = .ok (.ireturn, 1) := by decide +kernel
theorem dX7_group_0 : decode cX7_group 0 = .ok (.aload_n 0, 1) := by decide +kernel
theorem dX7_group_1 : decode cX7_group 1 = .ok (.getfield 24, 3) := by decide +kernel
theorem dX7_group_4 : decode cX7_group 4 = .ok (.aload_n 0, 1) := by decide +kernel
theorem dX7_group_5 : decode cX7_group 5 = .ok (.getfield 15, 3) := by decide +kernel
theorem dX7_group_8 : decode cX7_group 8 = .ok (.invokevirtual 39, 3) := by decide +kernel
theorem dX7_group_11 : decode cX7_group 11 = .ok (.aload_n 0, 1) := by decide +kernel
theorem dX7_group_12 : decode cX7_group 12 = .ok (.aload_n 0, 1) := by decide +kernel
theorem dX7_group_13 : decode cX7_group 13 = .ok (.getfield 15, 3) := by decide +kernel
theorem dX7_group_16 : decode cX7_group 16 = .ok (.iload_n 1, 1) := by decide +kernel
theorem dX7_group_17 : decode cX7_group 17 = .ok (.iload_n 2, 1) := by decide +kernel
theorem dX7_group_18 : decode cX7_group 18 = .ok (.iload_n 3, 1) := by decide +kernel
theorem dX7_group_19 : decode cX7_group 19 = .ok (.iload 4, 2) := by decide +kernel
theorem dX7_group_21 : decode cX7_group 21 = .ok (.iload 5, 2) := by decide +kernel
theorem dX7_group_23 : decode cX7_group 23 = .ok (.invokevirtual 70, 3) := by decide +kernel
theorem dX7_group_26 : decode cX7_group 26 = .ok (.invokevirtual 47, 3) := by decide +kernel
theorem dX7_group_29 : decode cX7_group 29 = .ok (.ireturn, 1) := by decide +kernel
theorem dX7_event_0 : decode cX7_event 0 = .ok (.aload_n 0, 1) := by decide +kernel
theorem dX7_event_1 : decode cX7_event 1 = .ok (.getfield 24, 3) := by decide +kernel
theorem dX7_event_4 : decode cX7_event 4 = .ok (.aload_n 0, 1) := by decide +kernel
theorem dX7_event_5 : decode cX7_event 5 = .ok (.getfield 15, 3) := by decide +kernel
theorem dX7_event_8 : decode cX7_event 8 = .ok (.invokevirtual 39, 3) := by decide +kernel
theorem dX7_event_11 : decode cX7_event 11 = .ok (.aload_n 0, 1) := by decide +kernel
theorem dX7_event_12 : decode cX7_event 12 = .ok (.aload_n 0, 1) := by decide +kernel
theorem dX7_event_13 : decode cX7_event 13 = .ok (.getfield 15, 3) := by decide +kernel
theorem dX7_event_16 : decode cX7_event 16 = .ok (.iload_n 1, 1) := by decide +kernel
theorem dX7_event_17 : decode cX7_event 17 = .ok (.iload_n 2, 1) := by decide +kernel
theorem dX7_event_18 : decode cX7_event 18 = .ok (.invokevirtual 74, 3) := by decide +kernel
theorem dX7_event_21 : decode cX7_event 21 = .ok (.invokevirtual 47, 3) := by decide +kernel
theorem dX7_event_24 : decode cX7_event 24 = .ok (.ireturn, 1) := by decide +kernel
theorem dX7_periods_0 : decode cX7_periods 0 = .ok (.aload_n 0, 1) := by decide +kernel
theorem dX7_periods_1 : decode cX7_periods 1 = .ok (.getfield 24, 3) := by decide +kernel
theorem dX7_periods_4 : decode cX7_periods 4 = .ok (.aload_n 0, 1) := by decide +kernel
theorem dX7_periods_5 : decode cX7_periods 5 = .ok (.getfield 15, 3) := by decide +kernel
theorem dX7_periods_8 : decode cX7_periods 8 = .ok (.invokevirtual 39, 3) := by decide +kernel
theorem dX7_periods_11 : decode cX7_periods 11 = .ok (.aload_n 0, 1) := by decide +kernel
theorem dX7_periods_12 : decode cX7_periods 12 = .ok (.aload_n 0, 1) := by decide +kernel
theorem dX7_periods_13 : decode cX7_periods 13 = .ok (.getfield 15, 3) := by decide +kernel
theorem dX7_periods_16 : decode cX7_periods 16 = .ok (.iload_n 1, 1) := by decide +kernel
theorem dX7_periods_17 : decode cX7_periods 17 = .ok (.iload_n 2, 1) := by decide +kernel
theorem dX7_periods_18 : decode cX7_periods 18 = .ok (.invokevirtual 77, 3) := by decide +kernel
theorem dX7_periods_21 : decode cX7_periods 21 = .ok (.invokevirtual 47, 3) := by decide +kernel
theorem dX7_periods_24 : decode cX7_periods 24 = .ok (.ireturn, 1) := by decide +kernel
theorem dX7_skids_0 : decode cX7_skids 0 = .ok (.aload_n 0, 1) := by decide +kernel
theorem dX7_skids_1 : decode cX7_skids 1 = .ok (.getfield 24, 3) := by decide +kernel
theorem dX7_skids_4 : decode cX7_skids 4 = .ok (.aload_n 0, 1) := by decide +kernel
theorem dX7_skids_5 : decode cX7_skids 5 = .ok (.getfield 15, 3) := by decide +kernel
theorem dX7_skids_8 : decode cX7_skids 8 = .ok (.invokevirtual 39, 3) := by decide +kernel
theorem dX7_skids_11 : decode cX7_skids 11 = .ok (.aload_n 0, 1) := by decide +kernel
theorem dX7_skids_12 : decode cX7_skids 12 = .ok (.aload_n 0, 1) := by decide +kernel
theorem dX7_skids_13 : decode cX7_skids 13 = .ok (.getfield 15, 3) := by decide +kernel
theorem dX7_skids_16 : decode cX7_skids 16 = .ok (.iload_n 1, 1) := by decide +kernel
theorem dX7_skids_17 : decode cX7_skids 17 = .ok (.invokevirtual 80, 3) := by decide +kernel
theorem dX7_skids_20 : decode cX7_skids 20 = .ok (.invokevirtual 47, 3) := by decide +kernel
theorem dX7_skids_23 : decode cX7_skids 23 = .ok (.ireturn, 1) := by decide +kernel
theorem dX7_lives_0 : decode cX7_lives 0 = .ok (.aload_n 0, 1) := by decide +kernel
theorem dX7_lives_1 : decode cX7_lives 1 = .ok (.getfield 24, 3) := by decide +kernel
theorem dX7_lives_4 : decode cX7_lives 4 = .ok (.aload_n 0, 1) := by decide +kernel
theorem dX7_lives_5 : decode cX7_lives 5 = .ok (.getfield 15, 3) := by decide +kernel
theorem dX7_lives_8 : decode cX7_lives 8 = .ok (.invokevirtual 39, 3) := by decide +kernel
theorem dX7_lives_11 : decode cX7_lives 11 = .ok (.aload_n 0, 1) := by decide +kernel
theorem dX7_lives_12 : decode cX7_lives 12 = .ok (.aload_n 0, 1) := by decide +kernel
theorem dX7_lives_13 : decode cX7_lives 13 = .ok (.getfield 15, 3) := by decide +kernel
theorem dX7_lives_16 : decode cX7_lives 16 = .ok (.iload_n 1, 1) := by decide +kernel
theorem dX7_lives_17 : decode cX7_lives 17 = .ok (.iload_n 2, 1) := by decide +kernel
theorem dX7_lives_18 : decode cX7_lives 18 = .ok (.invokevirtual 83, 3) := by decide +kernel
theorem dX7_lives_21 : decode cX7_lives 21 = .ok (.invokevirtual 47, 3) := by decide +kernel
theorem dX7_lives_24 : decode cX7_lives 24 = .ok (.ireturn, 1) := by decide +kernel
theorem dX7_runs_0 : decode cX7_runs 0 = .ok (.aload_n 0, 1) := by decide +kernel
theorem dX7_runs_1 : decode cX7_runs 1 = .ok (.getfield 24, 3) := by decide +kernel
theorem dX7_runs_4 : decode cX7_runs 4 = .ok (.aload_n 0, 1) := by decide +kernel
theorem dX7_runs_5 : decode cX7_runs 5 = .ok (.getfield 15, 3) := by decide +kernel
theorem dX7_runs_8 : decode cX7_runs 8 = .ok (.invokevirtual 39, 3) := by decide +kernel
theorem dX7_runs_11 : decode cX7_runs 11 = .ok (.aload_n 0, 1) := by decide +kernel
theorem dX7_runs_12 : decode cX7_runs 12 = .ok (.aload_n 0, 1) := by decide +kernel
theorem dX7_runs_13 : decode cX7_runs 13 = .ok (.getfield 15, 3) := by decide +kernel
theorem dX7_runs_16 : decode cX7_runs 16 = .ok (.iload_n 1, 1) := by decide +kernel
theorem dX7_runs_17 : decode cX7_runs 17 = .ok (.iload_n 2, 1) := by decide +kernel
theorem dX7_runs_18 : decode cX7_runs 18 = .ok (.invokevirtual 86, 3) := by decide +kernel
theorem dX7_runs_21 : decode cX7_runs 21 = .ok (.invokevirtual 47, 3) := by decide +kernel
theorem dX7_runs_24 : decode cX7_runs 24 = .ok (.ireturn, 1) := by decide +kernel
theorem dX7_task_0 : decode cX7_task 0 = .ok (.aload_n 0, 1) := by decide +kernel
theorem dX7_task_1 : decode cX7_task 1 = .ok (.aload_n 0, 1) := by decide +kernel
theorem dX7_task_2 : decode cX7_task 2 = .ok (.getfield 15, 3) := by decide +kernel
theorem dX7_task_5 : decode cX7_task 5 = .ok (.iload_n 1, 1) := by decide +kernel
theorem dX7_task_6 : decode cX7_task 6 = .ok (.iload_n 2, 1) := by decide +kernel
theorem dX7_task_7 : decode cX7_task 7 = .ok (.invokevirtual 89, 3) := by decide +kernel
theorem dX7_task_10 : decode cX7_task 10 = .ok (.invokevirtual 92, 3) := by decide +kernel
theorem dX7_task_13 : decode cX7_task 13 = .ok (.ireturn, 1) := by decide +kernel
theorem dX7_of_0 : decode cX7_of 0 = .ok (.aload_n 0, 1) := by decide +kernel
theorem dX7_of_1 : decode cX7_of 1 = .ok (.aload_n 0, 1) := by decide +kernel
theorem dX7_of_2 : decode cX7_of 2 = .ok (.getfield 15, 3) := by decide +kernel
theorem dX7_of_5 : decode cX7_of 5 = .ok (.iload_n 1, 1) := by decide +kernel
theorem dX7_of_6 : decode cX7_of 6 = .ok (.iload_n 2, 1) := by decide +kernel
theorem dX7_of_7 : decode cX7_of 7 = .ok (.invokevirtual 95, 3) := by decide +kernel
theorem dX7_of_10 : decode cX7_of 10 = .ok (.invokevirtual 92, 3) := by decide +kernel
theorem dX7_of_13 : decode cX7_of 13 = .ok (.ireturn, 1) := by decide +kernel
theorem dX7_about_0 : decode cX7_about 0 = .ok (.aload_n 0, 1) := by decide +kernel
theorem dX7_about_1 : decode cX7_about 1 = .ok (.aload_n 0, 1) := by decide +kernel
theorem dX7_about_2 : decode cX7_about 2 = .ok (.getfield 15, 3) := by decide +kernel
theorem dX7_about_5 : decode cX7_about 5 = .ok (.iload_n 1, 1) := by decide +kernel
theorem dX7_about_6 : decode cX7_about 6 = .ok (.iload_n 2, 1) := by decide +kernel
theorem dX7_about_7 : decode cX7_about 7 = .ok (.iload_n 3, 1) := by decide +kernel
theorem dX7_about_8 : decode cX7_about 8 = .ok (.invokevirtual 98, 3) := by decide +kernel
theorem dX7_about_11 : decode cX7_about 11 = .ok (.invokevirtual 92, 3) := by decide +kernel
theorem dX7_about_14 : decode cX7_about 14 = .ok (.ireturn, 1) := by decide +kernel
theorem dX7_count_0 : decode cX7_count 0 = .ok (.aload_n 0, 1) := by decide +kernel
theorem dX7_count_1 : decode cX7_count 1 = .ok (.aload_n 0, 1) := by decide +kernel
theorem dX7_count_2 : decode cX7_count 2 = .ok (.getfield 15, 3) := by decide +kernel
theorem dX7_count_5 : decode cX7_count 5 = .ok (.iload_n 1, 1) := by decide +kernel
theorem dX7_count_6 : decode cX7_count 6 = .ok (.iload_n 2, 1) := by decide +kernel
theorem dX7_count_7 : decode cX7_count 7 = .ok (.iload_n 3, 1) := by decide +kernel
theorem dX7_count_8 : decode cX7_count 8 = .ok (.invokevirtual 101, 3) := by decide +kernel
theorem dX7_count_11 : decode cX7_count 11 = .ok (.invokevirtual 92, 3) := by decide +kernel
theorem dX7_count_14 : decode cX7_count 14 = .ok (.ireturn, 1) := by decide +kernel
theorem dX7_times_0 : decode cX7_times 0 = .ok (.aload_n 0, 1) := by decide +kernel
theorem dX7_times_1 : decode cX7_times 1 = .ok (.aload_n 0, 1) := by decide +kernel
theorem dX7_times_2 : decode cX7_times 2 = .ok (.getfield 15, 3) := by decide +kernel
theorem dX7_times_5 : decode cX7_times 5 = .ok (.iload_n 1, 1) := by decide +kernel
theorem dX7_times_6 : decode cX7_times 6 = .ok (.iload_n 2, 1) := by decide +kernel
theorem dX7_times_7 : decode cX7_times 7 = .ok (.iload_n 3, 1) := by decide +kernel
theorem dX7_times_8 : decode cX7_times 8 = .ok (.invokevirtual 104, 3) := by decide +kernel
theorem dX7_times_11 : decode cX7_times 11 = .ok (.invokevirtual 92, 3) := by decide +kernel
theorem dX7_times_14 : decode cX7_times 14 = .ok (.ireturn, 1) := by decide +kernel
theorem dX7_scaled_0 : decode cX7_scaled 0 = .ok (.aload_n 0, 1) := by decide +kernel
theorem dX7_scaled_1 : decode cX7_scaled 1 = .ok (.aload_n 0, 1) := by decide +kernel
theorem dX7_scaled_2 : decode cX7_scaled 2 = .ok (.getfield 15, 3) := by decide +kernel
theorem dX7_scaled_5 : decode cX7_scaled 5 = .ok (.iload_n 1, 1) := by decide +kernel
theorem dX7_scaled_6 : decode cX7_scaled 6 = .ok (.iload_n 2, 1) := by decide +kernel
theorem dX7_scaled_7 : decode cX7_scaled 7 = .ok (.iload_n 3, 1) := by decide +kernel
theorem dX7_scaled_8 : decode cX7_scaled 8 = .ok (.invokevirtual 107, 3) := by decide +kernel
theorem dX7_scaled_11 : decode cX7_scaled 11 = .ok (.invokevirtual 92, 3) := by decide +kernel
theorem dX7_scaled_14 : decode cX7_scaled 14 = .ok (.ireturn, 1) := by decide +kernel
theorem dX7_fit_0 : decode cX7_fit 0 = .ok (.aload_n 0, 1) := by decide +kernel
theorem dX7_fit_1 : decode cX7_fit 1 = .ok (.aload_n 0, 1) := by decide +kernel
theorem dX7_fit_2 : decode cX7_fit 2 = .ok (.getfield 15, 3) := by decide +kernel
theorem dX7_fit_5 : decode cX7_fit 5 = .ok (.iload_n 1, 1) := by decide +kernel
theorem dX7_fit_6 : decode cX7_fit 6 = .ok (.invokevirtual 110, 3) := by decide +kernel
theorem dX7_fit_9 : decode cX7_fit 9 = .ok (.invokevirtual 92, 3) := by decide +kernel
theorem dX7_fit_12 : decode cX7_fit 12 = .ok (.ireturn, 1) := by decide +kernel
theorem dX7_queue_0 : decode cX7_queue 0 = .ok (.aload_n 0, 1) := by decide +kernel
theorem dX7_queue_1 : decode cX7_queue 1 = .ok (.aload_n 0, 1) := by decide +kernel
theorem dX7_queue_2 : decode cX7_queue 2 = .ok (.getfield 15, 3) := by decide +kernel
theorem dX7_queue_5 : decode cX7_queue 5 = .ok (.iload_n 1, 1) := by decide +kernel
theorem dX7_queue_6 : decode cX7_queue 6 = .ok (.invokevirtual 113, 3) := by decide +kernel
theorem dX7_queue_9 : decode cX7_queue 9 = .ok (.invokevirtual 92, 3) := by decide +kernel
theorem dX7_queue_12 : decode cX7_queue 12 = .ok (.ireturn, 1) := by decide +kernel
theorem dX7_sample_0 : decode cX7_sample 0 = .ok (.aload_n 0, 1) := by decide +kernel
theorem dX7_sample_1 : decode cX7_sample 1 = .ok (.aload_n 0, 1) := by decide +kernel
theorem dX7_sample_2 : decode cX7_sample 2 = .ok (.getfield 15, 3) := by decide +kernel
theorem dX7_sample_5 : decode cX7_sample 5 = .ok (.getfield 116, 3) := by decide +kernel
theorem dX7_sample_8 : decode cX7_sample 8 = .ok (.iload_n 1, 1) := by decide +kernel
theorem dX7_sample_9 : decode cX7_sample 9 = .ok (.iload_n 2, 1) := by decide +kernel
theorem dX7_sample_10 : decode cX7_sample 10 = .ok (.invokevirtual 120, 3) := by decide +kernel
theorem dX7_sample_13 : decode cX7_sample 13 = .ok (.invokevirtual 92, 3) := by decide +kernel
theorem dX7_sample_16 : decode cX7_sample 16 = .ok (.ireturn, 1) := by decide +kernel
theorem dX7_told_0 : decode cX7_told 0 = .ok (.aload_n 0, 1) := by decide +kernel
theorem dX7_told_1 : decode cX7_told 1 = .ok (.aload_n 0, 1) := by decide +kernel
theorem dX7_told_2 : decode cX7_told 2 = .ok (.getfield 15, 3) := by decide +kernel
theorem dX7_told_5 : decode cX7_told 5 = .ok (.iload_n 1, 1) := by decide +kernel
theorem dX7_told_6 : decode cX7_told 6 = .ok (.invokevirtual 125, 3) := by decide +kernel
theorem dX7_told_9 : decode cX7_told 9 = .ok (.invokevirtual 92, 3) := by decide +kernel
theorem dX7_told_12 : decode cX7_told 12 = .ok (.ireturn, 1) := by decide +kernel
theorem dX7_type_0 : decode cX7_type 0 = .ok (.aload_n 0, 1) := by decide +kernel
theorem dX7_type_1 : decode cX7_type 1 = .ok (.aload_n 0, 1) := by decide +kernel
theorem dX7_type_2 : decode cX7_type 2 = .ok (.getfield 31, 3) := by decide +kernel
theorem dX7_type_5 : decode cX7_type 5 = .ok (.iload_n 1, 1) := by decide +kernel
theorem dX7_type_6 : decode cX7_type 6 = .ok (.invokevirtual 128, 3) := by decide +kernel
theorem dX7_type_9 : decode cX7_type 9 = .ok (.invokevirtual 92, 3) := by decide +kernel
theorem dX7_type_12 : decode cX7_type 12 = .ok (.ireturn, 1) := by decide +kernel
theorem dX7_clear_0 : decode cX7_clear 0 = .ok (.aload_n 0, 1) := by decide +kernel
theorem dX7_clear_1 : decode cX7_clear 1 = .ok (.getfield 31, 3) := by decide +kernel
theorem dX7_clear_4 : decode cX7_clear 4 = .ok (.getfield 131, 3) := by decide +kernel
theorem dX7_clear_7 : decode cX7_clear 7 = .ok (.istore_n 1, 1) := by decide +kernel
theorem dX7_clear_8 : decode cX7_clear 8 = .ok (.aload_n 0, 1) := by decide +kernel
theorem dX7_clear_9 : decode cX7_clear 9 = .ok (.getfield 31, 3) := by decide +kernel
theorem dX7_clear_12 : decode cX7_clear 12 = .ok (.iconst 0, 1) := by decide +kernel
theorem dX7_clear_13 : decode cX7_clear 13 = .ok (.putfield 131, 3) := by decide +kernel
theorem dX7_clear_16 : decode cX7_clear 16 = .ok (.iload_n 1, 1) := by decide +kernel
theorem dX7_clear_17 : decode cX7_clear 17 = .ok (.ireturn, 1) := by decide +kernel
theorem dX7_does_0 : decode cX7_does 0 = .ok (.aload_n 0, 1) := by decide +kernel
theorem dX7_does_1 : decode cX7_does 1 = .ok (.getfield 31, 3) := by decide +kernel
theorem dX7_does_4 : decode cX7_does 4 = .ok (.invokevirtual 135, 3) := by decide +kernel
theorem dX7_does_7 : decode cX7_does 7 = .ok (.istore_n 1, 1) := by decide +kernel
theorem dX7_does_8 : decode cX7_does 8 = .ok (.iload_n 1, 1) := by decide +kernel
theorem dX7_does_9 : decode cX7_does 9 = .ok (.iconst (-1), 1) := by decide +kernel
theorem dX7_does_10 : decode cX7_does 10 = .ok (.if_icmp .eq 8, 3) := by decide +kernel
theorem dX7_does_13 : decode cX7_does 13 = .ok (.bipush (-10), 2) := by decide +kernel
theorem dX7_does_15 : decode cX7_does 15 = .ok (.iload_n 1, 1) := by decide +kernel
theorem dX7_does_16 : decode cX7_does 16 = .ok (.isub, 1) := by decide +kernel
theorem dX7_does_17 : decode cX7_does 17 = .ok (.ireturn, 1) := by decide +kernel
theorem dX7_does_18 : decode cX7_does 18 = .ok (.aload_n 0, 1) := by decide +kernel
theorem dX7_does_19 : decode cX7_does 19 = .ok (.getfield 24, 3) := by decide +kernel
theorem dX7_does_22 : decode cX7_does 22 = .ok (.aload_n 0, 1) := by decide +kernel
theorem dX7_does_23 : decode cX7_does 23 = .ok (.getfield 15, 3) := by decide +kernel
theorem dX7_does_26 : decode cX7_does 26 = .ok (.invokevirtual 39, 3) := by decide +kernel
theorem dX7_does_29 : decode cX7_does 29 = .ok (.iconst 0, 1) := by decide +kernel
theorem dX7_does_30 : decode cX7_does 30 = .ok (.istore_n 2, 1) := by decide +kernel
theorem dX7_does_31 : decode cX7_does 31 = .ok (.iload_n 2, 1) := by decide +kernel
theorem dX7_does_32 : decode cX7_does 32 = .ok (.aload_n 0, 1) := by decide +kernel
theorem dX7_does_33 : decode cX7_does 33 = .ok (.getfield 31, 3) := by decide +kernel
theorem dX7_does_36 : decode cX7_does 36 = .ok (.getfield 139, 3) := by decide +kernel
theorem dX7_does_39 : decode cX7_does 39 = .ok (.if_icmp .ge 37, 3) := by decide +kernel
theorem dX7_does_42 : decode cX7_does 42 = .ok (.aload_n 0, 1) := by decide +kernel
theorem dX7_does_43 : decode cX7_does 43 = .ok (.iload_n 2, 1) := by decide +kernel
theorem dX7_does_44 : decode cX7_does 44 = .ok (.invokevirtual 142, 3) := by decide +kernel
theorem dX7_does_47 : decode cX7_does 47 = .ok (.invokestatic 145, 3) := by decide +kernel
theorem dX7_does_50 : decode cX7_does 50 = .ok (.ifCond .eq 20, 3) := by decide +kernel
theorem dX7_does_53 : decode cX7_does 53 = .ok (.aload_n 0, 1) := by decide +kernel
theorem dX7_does_54 : decode cX7_does 54 = .ok (.getfield 24, 3) := by decide +kernel
theorem dX7_does_57 : decode cX7_does 57 = .ok (.aload_n 0, 1) := by decide +kernel
theorem dX7_does_58 : decode cX7_does 58 = .ok (.getfield 15, 3) := by decide +kernel
theorem dX7_does_61 : decode cX7_does 61 = .ok (.invokevirtual 149, 3) := by decide +kernel
theorem dX7_does_64 : decode cX7_does 64 = .ok (.sipush (-1000), 3) := by decide +kernel
theorem dX7_does_67 : decode cX7_does 67 = .ok (.iload_n 2, 1) := by decide +kernel
theorem dX7_does_68 : decode cX7_does 68 = .ok (.isub, 1) := by decide +kernel
theorem dX7_does_69 : decode cX7_does 69 = .ok (.ireturn, 1) := by decide +kernel
theorem dX7_does_70 : decode cX7_does 70 = .ok (.iinc 2 1, 3) := by decide +kernel
theorem dX7_does_73 : decode cX7_does 73 = .ok (.goto (-42), 3) := by decide +kernel
theorem dX7_does_76 : decode cX7_does 76 = .ok (.aload_n 0, 1) := by decide +kernel
theorem dX7_does_77 : decode cX7_does 77 = .ok (.getfield 24, 3) := by decide +kernel
theorem dX7_does_80 : decode cX7_does 80 = .ok (.invokevirtual 152, 3) := by decide +kernel
theorem dX7_does_83 : decode cX7_does 83 = .ok (.aload_n 0, 1) := by decide +kernel
theorem dX7_does_84 : decode cX7_does 84 = .ok (.getfield 31, 3) := by decide +kernel
theorem dX7_does_87 : decode cX7_does 87 = .ok (.getfield 139, 3) := by decide +kernel
theorem dX7_does_90 : decode cX7_does 90 = .ok (.ireturn, 1) := by decide +kernel
theorem dX7_back_0 : decode cX7_back 0 = .ok (.aload_n 0, 1) := by decide +kernel
theorem dX7_back_1 : decode cX7_back 1 = .ok (.aload_n 0, 1) := by decide +kernel
theorem dX7_back_2 : decode cX7_back 2 = .ok (.getfield 24, 3) := by decide +kernel
theorem dX7_back_5 : decode cX7_back 5 = .ok (.aload_n 0, 1) := by decide +kernel
theorem dX7_back_6 : decode cX7_back 6 = .ok (.getfield 15, 3) := by decide +kernel
theorem dX7_back_9 : decode cX7_back 9 = .ok (.invokevirtual 155, 3) := by decide +kernel
theorem dX7_back_12 : decode cX7_back 12 = .ok (.invokevirtual 92, 3) := by decide +kernel
theorem dX7_back_15 : decode cX7_back 15 = .ok (.ireturn, 1) := by decide +kernel
theorem dX7_refused_0 : decode cX7_refused 0 = .ok (.aload_n 0, 1) := by decide +kernel
theorem dX7_refused_1 : decode cX7_refused 1 = .ok (.aload_n 0, 1) := by decide +kernel
theorem dX7_refused_2 : decode cX7_refused 2 = .ok (.iload_n 1, 1) := by decide +kernel
theorem dX7_refused_3 : decode cX7_refused 3 = .ok (.invokevirtual 159, 3) := by decide +kernel
theorem dX7_refused_6 : decode cX7_refused 6 = .ok (.invokevirtual 92, 3) := by decide +kernel
theorem dX7_refused_9 : decode cX7_refused 9 = .ok (.ireturn, 1) := by decide +kernel
theorem dX7_digest_0 : decode cX7_digest 0 = .ok (.ldc2_w 162, 3) := by decide +kernel
theorem dX7_digest_3 : decode cX7_digest 3 = .ok (.lstore_n 1, 1) := by decide +kernel
theorem dX7_digest_4 : decode cX7_digest 4 = .ok (.iconst 0, 1) := by decide +kernel
theorem dX7_digest_5 : decode cX7_digest 5 = .ok (.istore_n 3, 1) := by decide +kernel
theorem dX7_digest_6 : decode cX7_digest 6 = .ok (.iload_n 3, 1) := by decide +kernel
theorem dX7_digest_7 : decode cX7_digest 7 = .ok (.iconst 4, 1) := by decide +kernel
theorem dX7_digest_8 : decode cX7_digest 8 = .ok (.if_icmp .gt 19, 3) := by decide +kernel
theorem dX7_digest_11 : decode cX7_digest 11 = .ok (.lload_n 1, 1) := by decide +kernel
theorem dX7_digest_12 : decode cX7_digest 12 = .ok (.aload_n 0, 1) := by decide +kernel
theorem dX7_digest_13 : decode cX7_digest 13 = .ok (.iload_n 3, 1) := by decide +kernel
theorem dX7_digest_14 : decode cX7_digest 14 = .ok (.invokevirtual 159, 3) := by decide +kernel
theorem dX7_digest_17 : decode cX7_digest 17 = .ok (.invokestatic 164, 3) := by decide +kernel
theorem dX7_digest_20 : decode cX7_digest 20 = .ok (.lstore_n 1, 1) := by decide +kernel
theorem dX7_digest_21 : decode cX7_digest 21 = .ok (.iinc 3 1, 3) := by decide +kernel
theorem dX7_digest_24 : decode cX7_digest 24 = .ok (.goto (-18), 3) := by decide +kernel
theorem dX7_digest_27 : decode cX7_digest 27 = .ok (.iconst 0, 1) := by decide +kernel
theorem dX7_digest_28 : decode cX7_digest 28 = .ok (.istore_n 3, 1) := by decide +kernel
theorem dX7_digest_29 : decode cX7_digest 29 = .ok (.iload_n 3, 1) := by decide +kernel
theorem dX7_digest_30 : decode cX7_digest 30 = .ok (.bipush 8, 2) := by decide +kernel
theorem dX7_digest_32 : decode cX7_digest 32 = .ok (.if_icmp .gt 22, 3) := by decide +kernel
theorem dX7_digest_35 : decode cX7_digest 35 = .ok (.lload_n 1, 1) := by decide +kernel
theorem dX7_digest_36 : decode cX7_digest 36 = .ok (.aload_n 0, 1) := by decide +kernel
theorem dX7_digest_37 : decode cX7_digest 37 = .ok (.getfield 15, 3) := by decide +kernel
theorem dX7_digest_40 : decode cX7_digest 40 = .ok (.iload_n 3, 1) := by decide +kernel
theorem dX7_digest_41 : decode cX7_digest 41 = .ok (.invokevirtual 125, 3) := by decide +kernel
theorem dX7_digest_44 : decode cX7_digest 44 = .ok (.invokestatic 164, 3) := by decide +kernel
theorem dX7_digest_47 : decode cX7_digest 47 = .ok (.lstore_n 1, 1) := by decide +kernel
theorem dX7_digest_48 : decode cX7_digest 48 = .ok (.iinc 3 1, 3) := by decide +kernel
theorem dX7_digest_51 : decode cX7_digest 51 = .ok (.goto (-22), 3) := by decide +kernel
theorem dX7_digest_54 : decode cX7_digest 54 = .ok (.iconst 0, 1) := by decide +kernel
theorem dX7_digest_55 : decode cX7_digest 55 = .ok (.istore_n 3, 1) := by decide +kernel
theorem dX7_digest_56 : decode cX7_digest 56 = .ok (.iload_n 3, 1) := by decide +kernel
theorem dX7_digest_57 : decode cX7_digest 57 = .ok (.bipush 8, 2) := by decide +kernel
theorem dX7_digest_59 : decode cX7_digest 59 = .ok (.if_icmp .ge 23, 3) := by decide +kernel
theorem dX7_digest_62 : decode cX7_digest 62 = .ok (.lload_n 1, 1) := by decide +kernel
theorem dX7_digest_63 : decode cX7_digest 63 = .ok (.aload_n 0, 1) := by decide +kernel
theorem dX7_digest_64 : decode cX7_digest 64 = .ok (.getfield 15, 3) := by decide +kernel
theorem dX7_digest_67 : decode cX7_digest 67 = .ok (.getfield 168, 3) := by decide +kernel
theorem dX7_digest_70 : decode cX7_digest 70 = .ok (.iload_n 3, 1) := by decide +kernel
theorem dX7_digest_71 : decode cX7_digest 71 = .ok (.iaload, 1) := by decide +kernel
theorem dX7_digest_72 : decode cX7_digest 72 = .ok (.invokestatic 164, 3) := by decide +kernel
theorem dX7_digest_75 : decode cX7_digest 75 = .ok (.lstore_n 1, 1) := by decide +kernel
theorem dX7_digest_76 : decode cX7_digest 76 = .ok (.iinc 3 1, 3) := by decide +kernel
theorem dX7_digest_79 : decode cX7_digest 79 = .ok (.goto (-23), 3) := by decide +kernel
theorem dX7_digest_82 : decode cX7_digest 82 = .ok (.iconst 0, 1) := by decide +kernel
theorem dX7_digest_83 : decode cX7_digest 83 = .ok (.istore_n 3, 1) := by decide +kernel
theorem dX7_digest_84 : decode cX7_digest 84 = .ok (.iload_n 3, 1) := by decide +kernel
theorem dX7_digest_85 : decode cX7_digest 85 = .ok (.aload_n 0, 1) := by decide +kernel
theorem dX7_digest_86 : decode cX7_digest 86 = .ok (.getfield 15, 3) := by decide +kernel
theorem dX7_digest_89 : decode cX7_digest 89 = .ok (.getfield 54, 3) := by decide +kernel
theorem dX7_digest_92 : decode cX7_digest 92 = .ok (.getfield 171, 3) := by decide +kernel
theorem dX7_digest_95 : decode cX7_digest 95 = .ok (.if_icmp .ge 16, 3) := by decide +kernel
theorem dX7_digest_98 : decode cX7_digest 98 = .ok (.aload_n 0, 1) := by decide +kernel
theorem dX7_digest_99 : decode cX7_digest 99 = .ok (.lload_n 1, 1) := by decide +kernel
theorem dX7_digest_100 : decode cX7_digest 100 = .ok (.iload_n 3, 1) := by decide +kernel
theorem dX7_digest_101 : decode cX7_digest 101 = .ok (.invokevirtual 174, 3) := by decide +kernel
theorem dX7_digest_104 : decode cX7_digest 104 = .ok (.lstore_n 1, 1) := by decide +kernel
theorem dX7_digest_105 : decode cX7_digest 105 = .ok (.iinc 3 1, 3) := by decide +kernel
theorem dX7_digest_108 : decode cX7_digest 108 = .ok (.goto (-24), 3) := by decide +kernel
theorem dX7_digest_111 : decode cX7_digest 111 = .ok (.iconst 0, 1) := by decide +kernel
theorem dX7_digest_112 : decode cX7_digest 112 = .ok (.istore_n 3, 1) := by decide +kernel
theorem dX7_digest_113 : decode cX7_digest 113 = .ok (.iload_n 3, 1) := by decide +kernel
theorem dX7_digest_114 : decode cX7_digest 114 = .ok (.aload_n 0, 1) := by decide +kernel
theorem dX7_digest_115 : decode cX7_digest 115 = .ok (.getfield 15, 3) := by decide +kernel
theorem dX7_digest_118 : decode cX7_digest 118 = .ok (.getfield 177, 3) := by decide +kernel
theorem dX7_digest_121 : decode cX7_digest 121 = .ok (.if_icmp .ge 16, 3) := by decide +kernel
theorem dX7_digest_124 : decode cX7_digest 124 = .ok (.aload_n 0, 1) := by decide +kernel
theorem dX7_digest_125 : decode cX7_digest 125 = .ok (.lload_n 1, 1) := by decide +kernel
theorem dX7_digest_126 : decode cX7_digest 126 = .ok (.iload_n 3, 1) := by decide +kernel
theorem dX7_digest_127 : decode cX7_digest 127 = .ok (.invokevirtual 178, 3) := by decide +kernel
theorem dX7_digest_130 : decode cX7_digest 130 = .ok (.lstore_n 1, 1) := by decide +kernel
theorem dX7_digest_131 : decode cX7_digest 131 = .ok (.iinc 3 1, 3) := by decide +kernel
theorem dX7_digest_134 : decode cX7_digest 134 = .ok (.goto (-21), 3) := by decide +kernel
theorem dX7_digest_137 : decode cX7_digest 137 = .ok (.iconst 0, 1) := by decide +kernel
theorem dX7_digest_138 : decode cX7_digest 138 = .ok (.istore_n 3, 1) := by decide +kernel
theorem dX7_digest_139 : decode cX7_digest 139 = .ok (.iload_n 3, 1) := by decide +kernel
theorem dX7_digest_140 : decode cX7_digest 140 = .ok (.aload_n 0, 1) := by decide +kernel
theorem dX7_digest_141 : decode cX7_digest 141 = .ok (.getfield 15, 3) := by decide +kernel
theorem dX7_digest_144 : decode cX7_digest 144 = .ok (.getfield 116, 3) := by decide +kernel
theorem dX7_digest_147 : decode cX7_digest 147 = .ok (.getfield 181, 3) := by decide +kernel
theorem dX7_digest_150 : decode cX7_digest 150 = .ok (.if_icmp .ge 42, 3) := by decide +kernel
theorem dX7_digest_153 : decode cX7_digest 153 = .ok (.iconst 0, 1) := by decide +kernel
theorem dX7_digest_154 : decode cX7_digest 154 = .ok (.istore 4, 2) := by decide +kernel
theorem dX7_digest_156 : decode cX7_digest 156 = .ok (.iload 4, 2) := by decide +kernel
theorem dX7_digest_158 : decode cX7_digest 158 = .ok (.iconst 2, 1) := by decide +kernel
theorem dX7_digest_159 : decode cX7_digest 159 = .ok (.if_icmp .gt 27, 3) := by decide +kernel
theorem dX7_digest_162 : decode cX7_digest 162 = .ok (.lload_n 1, 1) := by decide +kernel
theorem dX7_digest_163 : decode cX7_digest 163 = .ok (.aload_n 0, 1) := by decide +kernel
theorem dX7_digest_164 : decode cX7_digest 164 = .ok (.getfield 15, 3) := by decide +kernel
theorem dX7_digest_167 : decode cX7_digest 167 = .ok (.getfield 116, 3) := by decide +kernel
theorem dX7_digest_170 : decode cX7_digest 170 = .ok (.iload_n 3, 1) := by decide +kernel
theorem dX7_digest_171 : decode cX7_digest 171 = .ok (.iload 4, 2) := by decide +kernel
theorem dX7_digest_173 : decode cX7_digest 173 = .ok (.invokevirtual 120, 3) := by decide +kernel
theorem dX7_digest_176 : decode cX7_digest 176 = .ok (.invokestatic 164, 3) := by decide +kernel
theorem dX7_digest_179 : decode cX7_digest 179 = .ok (.lstore_n 1, 1) := by decide +kernel
theorem dX7_digest_180 : decode cX7_digest 180 = .ok (.iinc 4 1, 3) := by decide +kernel
theorem dX7_digest_183 : decode cX7_digest 183 = .ok (.goto (-27), 3) := by decide +kernel
theorem dX7_digest_186 : decode cX7_digest 186 = .ok (.iinc 3 1, 3) := by decide +kernel
theorem dX7_digest_189 : decode cX7_digest 189 = .ok (.goto (-50), 3) := by decide +kernel
theorem dX7_digest_192 : decode cX7_digest 192 = .ok (.lload_n 1, 1) := by decide +kernel
theorem dX7_digest_193 : decode cX7_digest 193 = .ok (.lreturn, 1) := by decide +kernel
theorem dX7_mixed_0 : decode cX7_mixed 0 = .ok (.ldc2_w 184, 3) := by decide +kernel
theorem dX7_mixed_3 : decode cX7_mixed 3 = .ok (.lload_n 0, 1) := by decide +kernel
theorem dX7_mixed_4 : decode cX7_mixed 4 = .ok (.lmul, 1) := by decide +kernel
theorem dX7_mixed_5 : decode cX7_mixed 5 = .ok (.iload_n 2, 1) := by decide +kernel
theorem dX7_mixed_6 : decode cX7_mixed 6 = .ok (.i2l, 1) := by decide +kernel
theorem dX7_mixed_7 : decode cX7_mixed 7 = .ok (.ladd, 1) := by decide +kernel
theorem dX7_mixed_8 : decode cX7_mixed 8 = .ok (.lreturn, 1) := by decide +kernel
theorem dX7_mixedTask_0 : decode cX7_mixedTask 0 = .ok (.lload_n 1, 1) := by decide +kernel
theorem dX7_mixedTask_1 : decode cX7_mixedTask 1 = .ok (.lstore 4, 2) := by decide +kernel
theorem dX7_mixedTask_3 : decode cX7_mixedTask 3 = .ok (.iconst 0, 1) := by decide +kernel
theorem dX7_mixedTask_4 : decode cX7_mixedTask 4 = .ok (.istore 6, 2) := by decide +kernel
theorem dX7_mixedTask_6 : decode cX7_mixedTask 6 = .ok (.iload 6, 2) := by decide +kernel
theorem dX7_mixedTask_8 : decode cX7_mixedTask 8 = .ok (.iconst 2, 1) := by decide +kernel
theorem dX7_mixedTask_9 : decode cX7_mixedTask 9 = .ok (.if_icmp .gt 26, 3) := by decide +kernel
theorem dX7_mixedTask_12 : decode cX7_mixedTask 12 = .ok (.lload 4, 2) := by decide +kernel
theorem dX7_mixedTask_14 : decode cX7_mixedTask 14 = .ok (.aload_n 0, 1) := by decide +kernel
theorem dX7_mixedTask_15 : decode cX7_mixedTask 15 = .ok (.getfield 15, 3) := by decide +kernel
theorem dX7_mixedTask_18 : decode cX7_mixedTask 18 = .ok (.iload_n 3, 1) := by decide +kernel
theorem dX7_mixedTask_19 : decode cX7_mixedTask 19 = .ok (.iload 6, 2) := by decide +kernel
theorem dX7_mixedTask_21 : decode cX7_mixedTask 21 = .ok (.invokevirtual 89, 3) := by decide +kernel
theorem dX7_mixedTask_24 : decode cX7_mixedTask 24 = .ok (.invokestatic 164, 3) := by decide +kernel
theorem dX7_mixedTask_27 : decode cX7_mixedTask 27 = .ok (.lstore 4, 2) := by decide +kernel
theorem dX7_mixedTask_29 : decode cX7_mixedTask 29 = .ok (.iinc 6 1, 3) := by decide +kernel
theorem dX7_mixedTask_32 : decode cX7_mixedTask 32 = .ok (.goto (-26), 3) := by decide +kernel
theorem dX7_mixedTask_35 : decode cX7_mixedTask 35 = .ok (.iconst 0, 1) := by decide +kernel
theorem dX7_mixedTask_36 : decode cX7_mixedTask 36 = .ok (.istore 6, 2) := by decide +kernel
theorem dX7_mixedTask_38 : decode cX7_mixedTask 38 = .ok (.iload 6, 2) := by decide +kernel
theorem dX7_mixedTask_40 : decode cX7_mixedTask 40 = .ok (.bipush 8, 2) := by decide +kernel
theorem dX7_mixedTask_42 : decode cX7_mixedTask 42 = .ok (.if_icmp .ge 29, 3) := by decide +kernel
theorem dX7_mixedTask_45 : decode cX7_mixedTask 45 = .ok (.lload 4, 2) := by decide +kernel
theorem dX7_mixedTask_47 : decode cX7_mixedTask 47 = .ok (.aload_n 0, 1) := by decide +kernel
theorem dX7_mixedTask_48 : decode cX7_mixedTask 48 = .ok (.getfield 15, 3) := by decide +kernel
theorem dX7_mixedTask_51 : decode cX7_mixedTask 51 = .ok (.getfield 54, 3) := by decide +kernel
theorem dX7_mixedTask_54 : decode cX7_mixedTask 54 = .ok (.iload_n 3, 1) := by decide +kernel
theorem dX7_mixedTask_55 : decode cX7_mixedTask 55 = .ok (.iload 6, 2) := by decide +kernel
theorem dX7_mixedTask_57 : decode cX7_mixedTask 57 = .ok (.invokevirtual 186, 3) := by decide +kernel
theorem dX7_mixedTask_60 : decode cX7_mixedTask 60 = .ok (.invokestatic 164, 3) := by decide +kernel
theorem dX7_mixedTask_63 : decode cX7_mixedTask 63 = .ok (.lstore 4, 2) := by decide +kernel
theorem dX7_mixedTask_65 : decode cX7_mixedTask 65 = .ok (.iinc 6 1, 3) := by decide +kernel
theorem dX7_mixedTask_68 : decode cX7_mixedTask 68 = .ok (.goto (-30), 3) := by decide +kernel
theorem dX7_mixedTask_71 : decode cX7_mixedTask 71 = .ok (.lload 4, 2) := by decide +kernel
theorem dX7_mixedTask_73 : decode cX7_mixedTask 73 = .ok (.lreturn, 1) := by decide +kernel
theorem dX7_mixedGroup_0 : decode cX7_mixedGroup 0 = .ok (.lload_n 1, 1) := by decide +kernel
theorem dX7_mixedGroup_1 : decode cX7_mixedGroup 1 = .ok (.lstore 4, 2) := by decide +kernel
theorem dX7_mixedGroup_3 : decode cX7_mixedGroup 3 = .ok (.iconst 0, 1) := by decide +kernel
theorem dX7_mixedGroup_4 : decode cX7_mixedGroup 4 = .ok (.istore 6, 2) := by decide +kernel
theorem dX7_mixedGroup_6 : decode cX7_mixedGroup 6 = .ok (.iload 6, 2) := by decide +kernel
theorem dX7_mixedGroup_8 : decode cX7_mixedGroup 8 = .ok (.bipush 10, 2) := by decide +kernel
theorem dX7_mixedGroup_10 : decode cX7_mixedGroup 10 = .ok (.if_icmp .gt 26, 3) := by decide +kernel
theorem dX7_mixedGroup_13 : decode cX7_mixedGroup 13 = .ok (.lload 4, 2) := by decide +kernel
theorem dX7_mixedGroup_15 : decode cX7_mixedGroup 15 = .ok (.aload_n 0, 1) := by decide +kernel
theorem dX7_mixedGroup_16 : decode cX7_mixedGroup 16 = .ok (.getfield 15, 3) := by decide +kernel
theorem dX7_mixedGroup_19 : decode cX7_mixedGroup 19 = .ok (.iload_n 3, 1) := by decide +kernel
theorem dX7_mixedGroup_20 : decode cX7_mixedGroup 20 = .ok (.iload 6, 2) := by decide +kernel
theorem dX7_mixedGroup_22 : decode cX7_mixedGroup 22 = .ok (.invokevirtual 95, 3) := by decide +kernel
theorem dX7_mixedGroup_25 : decode cX7_mixedGroup 25 = .ok (.invokestatic 164, 3) := by decide +kernel
theorem dX7_mixedGroup_28 : decode cX7_mixedGroup 28 = .ok (.lstore 4, 2) := by decide +kernel
theorem dX7_mixedGroup_30 : decode cX7_mixedGroup 30 = .ok (.iinc 6 1, 3) := by decide +kernel
theorem dX7_mixedGroup_33 : decode cX7_mixedGroup 33 = .ok (.goto (-27), 3) := by decide +kernel
theorem dX7_mixedGroup_36 : decode cX7_mixedGroup 36 = .ok (.iconst 0, 1) := by decide +kernel
theorem dX7_mixedGroup_37 : decode cX7_mixedGroup 37 = .ok (.istore 6, 2) := by decide +kernel
theorem dX7_mixedGroup_39 : decode cX7_mixedGroup 39 = .ok (.iload 6, 2) := by decide +kernel
theorem dX7_mixedGroup_41 : decode cX7_mixedGroup 41 = .ok (.aload_n 0, 1) := by decide +kernel
theorem dX7_mixedGroup_42 : decode cX7_mixedGroup 42 = .ok (.getfield 15, 3) := by decide +kernel
theorem dX7_mixedGroup_45 : decode cX7_mixedGroup 45 = .ok (.getfield 189, 3) := by decide +kernel
theorem dX7_mixedGroup_48 : decode cX7_mixedGroup 48 = .ok (.iload_n 3, 1) := by decide +kernel
theorem dX7_mixedGroup_49 : decode cX7_mixedGroup 49 = .ok (.aaload, 1) := by decide +kernel
theorem dX7_mixedGroup_50 : decode cX7_mixedGroup 50 = .ok (.getfield 193, 3) := by decide +kernel
theorem dX7_mixedGroup_53 : decode cX7_mixedGroup 53 = .ok (.if_icmp .ge 20, 3) := by decide +kernel
theorem dX7_mixedGroup_56 : decode cX7_mixedGroup 56 = .ok (.aload_n 0, 1) := by decide +kernel
theorem dX7_mixedGroup_57 : decode cX7_mixedGroup 57 = .ok (.lload 4, 2) := by decide +kernel
theorem dX7_mixedGroup_59 : decode cX7_mixedGroup 59 = .ok (.iload_n 3, 1) := by decide +kernel
theorem dX7_mixedGroup_60 : decode cX7_mixedGroup 60 = .ok (.iload 6, 2) := by decide +kernel
theorem dX7_mixedGroup_62 : decode cX7_mixedGroup 62 = .ok (.invokevirtual 198, 3) := by decide +kernel
theorem dX7_mixedGroup_65 : decode cX7_mixedGroup 65 = .ok (.lstore 4, 2) := by decide +kernel
theorem dX7_mixedGroup_67 : decode cX7_mixedGroup 67 = .ok (.iinc 6 1, 3) := by decide +kernel
theorem dX7_mixedGroup_70 : decode cX7_mixedGroup 70 = .ok (.goto (-31), 3) := by decide +kernel
theorem dX7_mixedGroup_73 : decode cX7_mixedGroup 73 = .ok (.iconst 0, 1) := by decide +kernel
theorem dX7_mixedGroup_74 : decode cX7_mixedGroup 74 = .ok (.istore 6, 2) := by decide +kernel
theorem dX7_mixedGroup_76 : decode cX7_mixedGroup 76 = .ok (.iload 6, 2) := by decide +kernel
theorem dX7_mixedGroup_78 : decode cX7_mixedGroup 78 = .ok (.aload_n 0, 1) := by decide +kernel
theorem dX7_mixedGroup_79 : decode cX7_mixedGroup 79 = .ok (.getfield 15, 3) := by decide +kernel
theorem dX7_mixedGroup_82 : decode cX7_mixedGroup 82 = .ok (.getfield 54, 3) := by decide +kernel
theorem dX7_mixedGroup_85 : decode cX7_mixedGroup 85 = .ok (.getfield 171, 3) := by decide +kernel
theorem dX7_mixedGroup_88 : decode cX7_mixedGroup 88 = .ok (.if_icmp .ge 45, 3) := by decide +kernel
theorem dX7_mixedGroup_91 : decode cX7_mixedGroup 91 = .ok (.lload 4, 2) := by decide +kernel
theorem dX7_mixedGroup_93 : decode cX7_mixedGroup 93 = .ok (.aload_n 0, 1) := by decide +kernel
theorem dX7_mixedGroup_94 : decode cX7_mixedGroup 94 = .ok (.getfield 15, 3) := by decide +kernel
theorem dX7_mixedGroup_97 : decode cX7_mixedGroup 97 = .ok (.iload_n 3, 1) := by decide +kernel
theorem dX7_mixedGroup_98 : decode cX7_mixedGroup 98 = .ok (.iload 6, 2) := by decide +kernel
theorem dX7_mixedGroup_100 : decode cX7_mixedGroup 100 = .ok (.iconst 0, 1) := by decide +kernel
theorem dX7_mixedGroup_101 : decode cX7_mixedGroup 101 = .ok (.invokevirtual 104, 3) := by decide +kernel
theorem dX7_mixedGroup_104 : decode cX7_mixedGroup 104 = .ok (.invokestatic 164, 3) := by decide +kernel
theorem dX7_mixedGroup_107 : decode cX7_mixedGroup 107 = .ok (.lstore 4, 2) := by decide +kernel
theorem dX7_mixedGroup_109 : decode cX7_mixedGroup 109 = .ok (.lload 4, 2) := by decide +kernel
theorem dX7_mixedGroup_111 : decode cX7_mixedGroup 111 = .ok (.aload_n 0, 1) := by decide +kernel
theorem dX7_mixedGroup_112 : decode cX7_mixedGroup 112 = .ok (.getfield 15, 3) := by decide +kernel
theorem dX7_mixedGroup_115 : decode cX7_mixedGroup 115 = .ok (.iload_n 3, 1) := by decide +kernel
theorem dX7_mixedGroup_116 : decode cX7_mixedGroup 116 = .ok (.iload 6, 2) := by decide +kernel
theorem dX7_mixedGroup_118 : decode cX7_mixedGroup 118 = .ok (.iconst 1, 1) := by decide +kernel
theorem dX7_mixedGroup_119 : decode cX7_mixedGroup 119 = .ok (.invokevirtual 104, 3) := by decide +kernel
theorem dX7_mixedGroup_122 : decode cX7_mixedGroup 122 = .ok (.invokestatic 164, 3) := by decide +kernel
theorem dX7_mixedGroup_125 : decode cX7_mixedGroup 125 = .ok (.lstore 4, 2) := by decide +kernel
theorem dX7_mixedGroup_127 : decode cX7_mixedGroup 127 = .ok (.iinc 6 1, 3) := by decide +kernel
theorem dX7_mixedGroup_130 : decode cX7_mixedGroup 130 = .ok (.goto (-54), 3) := by decide +kernel
theorem dX7_mixedGroup_133 : decode cX7_mixedGroup 133 = .ok (.lload 4, 2) := by decide +kernel
theorem dX7_mixedGroup_135 : decode cX7_mixedGroup 135 = .ok (.lreturn, 1) := by decide +kernel
theorem dX7_mixedEvent_0 : decode cX7_mixedEvent 0 = .ok (.lload_n 1, 1) := by decide +kernel
theorem dX7_mixedEvent_1 : decode cX7_mixedEvent 1 = .ok (.lstore 5, 2) := by decide +kernel
theorem dX7_mixedEvent_3 : decode cX7_mixedEvent 3 = .ok (.iconst 0, 1) := by decide +kernel
theorem dX7_mixedEvent_4 : decode cX7_mixedEvent 4 = .ok (.istore 7, 2) := by decide +kernel
theorem dX7_mixedEvent_6 : decode cX7_mixedEvent 6 = .ok (.iload 7, 2) := by decide +kernel
theorem dX7_mixedEvent_8 : decode cX7_mixedEvent 8 = .ok (.iconst 2, 1) := by decide +kernel
theorem dX7_mixedEvent_9 : decode cX7_mixedEvent 9 = .ok (.if_icmp .gt 28, 3) := by decide +kernel
theorem dX7_mixedEvent_12 : decode cX7_mixedEvent 12 = .ok (.lload 5, 2) := by decide +kernel
theorem dX7_mixedEvent_14 : decode cX7_mixedEvent 14 = .ok (.aload_n 0, 1) := by decide +kernel
theorem dX7_mixedEvent_15 : decode cX7_mixedEvent 15 = .ok (.getfield 15, 3) := by decide +kernel
theorem dX7_mixedEvent_18 : decode cX7_mixedEvent 18 = .ok (.iload_n 3, 1) := by decide +kernel
theorem dX7_mixedEvent_19 : decode cX7_mixedEvent 19 = .ok (.iload 4, 2) := by decide +kernel
theorem dX7_mixedEvent_21 : decode cX7_mixedEvent 21 = .ok (.iload 7, 2) := by decide +kernel
theorem dX7_mixedEvent_23 : decode cX7_mixedEvent 23 = .ok (.invokevirtual 98, 3) := by decide +kernel
theorem dX7_mixedEvent_26 : decode cX7_mixedEvent 26 = .ok (.invokestatic 164, 3) := by decide +kernel
theorem dX7_mixedEvent_29 : decode cX7_mixedEvent 29 = .ok (.lstore 5, 2) := by decide +kernel
theorem dX7_mixedEvent_31 : decode cX7_mixedEvent 31 = .ok (.iinc 7 1, 3) := by decide +kernel
theorem dX7_mixedEvent_34 : decode cX7_mixedEvent 34 = .ok (.goto (-28), 3) := by decide +kernel
theorem dX7_mixedEvent_37 : decode cX7_mixedEvent 37 = .ok (.iconst 0, 1) := by decide +kernel
theorem dX7_mixedEvent_38 : decode cX7_mixedEvent 38 = .ok (.istore 7, 2) := by decide +kernel
theorem dX7_mixedEvent_40 : decode cX7_mixedEvent 40 = .ok (.iload 7, 2) := by decide +kernel
theorem dX7_mixedEvent_42 : decode cX7_mixedEvent 42 = .ok (.aload_n 0, 1) := by decide +kernel
theorem dX7_mixedEvent_43 : decode cX7_mixedEvent 43 = .ok (.getfield 15, 3) := by decide +kernel
theorem dX7_mixedEvent_46 : decode cX7_mixedEvent 46 = .ok (.getfield 54, 3) := by decide +kernel
theorem dX7_mixedEvent_49 : decode cX7_mixedEvent 49 = .ok (.getfield 171, 3) := by decide +kernel
theorem dX7_mixedEvent_52 : decode cX7_mixedEvent 52 = .ok (.if_icmp .ge 28, 3) := by decide +kernel
theorem dX7_mixedEvent_55 : decode cX7_mixedEvent 55 = .ok (.lload 5, 2) := by decide +kernel
theorem dX7_mixedEvent_57 : decode cX7_mixedEvent 57 = .ok (.aload_n 0, 1) := by decide +kernel
theorem dX7_mixedEvent_58 : decode cX7_mixedEvent 58 = .ok (.getfield 15, 3) := by decide +kernel
theorem dX7_mixedEvent_61 : decode cX7_mixedEvent 61 = .ok (.iload_n 3, 1) := by decide +kernel
theorem dX7_mixedEvent_62 : decode cX7_mixedEvent 62 = .ok (.iload 4, 2) := by decide +kernel
theorem dX7_mixedEvent_64 : decode cX7_mixedEvent 64 = .ok (.iload 7, 2) := by decide +kernel
theorem dX7_mixedEvent_66 : decode cX7_mixedEvent 66 = .ok (.invokevirtual 101, 3) := by decide +kernel
theorem dX7_mixedEvent_69 : decode cX7_mixedEvent 69 = .ok (.invokestatic 164, 3) := by decide +kernel
theorem dX7_mixedEvent_72 : decode cX7_mixedEvent 72 = .ok (.lstore 5, 2) := by decide +kernel
theorem dX7_mixedEvent_74 : decode cX7_mixedEvent 74 = .ok (.iinc 7 1, 3) := by decide +kernel
theorem dX7_mixedEvent_77 : decode cX7_mixedEvent 77 = .ok (.goto (-37), 3) := by decide +kernel
theorem dX7_mixedEvent_80 : decode cX7_mixedEvent 80 = .ok (.lload 5, 2) := by decide +kernel
theorem dX7_mixedEvent_82 : decode cX7_mixedEvent 82 = .ok (.aload_n 0, 1) := by decide +kernel
theorem dX7_mixedEvent_83 : decode cX7_mixedEvent 83 = .ok (.getfield 15, 3) := by decide +kernel
theorem dX7_mixedEvent_86 : decode cX7_mixedEvent 86 = .ok (.iload_n 3, 1) := by decide +kernel
theorem dX7_mixedEvent_87 : decode cX7_mixedEvent 87 = .ok (.iload 4, 2) := by decide +kernel
theorem dX7_mixedEvent_89 : decode cX7_mixedEvent 89 = .ok (.iconst 0, 1) := by decide +kernel
theorem dX7_mixedEvent_90 : decode cX7_mixedEvent 90 = .ok (.invokevirtual 107, 3) := by decide +kernel
theorem dX7_mixedEvent_93 : decode cX7_mixedEvent 93 = .ok (.invokestatic 164, 3) := by decide +kernel
theorem dX7_mixedEvent_96 : decode cX7_mixedEvent 96 = .ok (.lstore 5, 2) := by decide +kernel
theorem dX7_mixedEvent_98 : decode cX7_mixedEvent 98 = .ok (.lload 5, 2) := by decide +kernel
theorem dX7_mixedEvent_100 : decode cX7_mixedEvent 100 = .ok (.aload_n 0, 1) := by decide +kernel
theorem dX7_mixedEvent_101 : decode cX7_mixedEvent 101 = .ok (.getfield 15, 3) := by decide +kernel
theorem dX7_mixedEvent_104 : decode cX7_mixedEvent 104 = .ok (.iload_n 3, 1) := by decide +kernel
theorem dX7_mixedEvent_105 : decode cX7_mixedEvent 105 = .ok (.iload 4, 2) := by decide +kernel
theorem dX7_mixedEvent_107 : decode cX7_mixedEvent 107 = .ok (.iconst 1, 1) := by decide +kernel
theorem dX7_mixedEvent_108 : decode cX7_mixedEvent 108 = .ok (.invokevirtual 107, 3) := by decide +kernel
theorem dX7_mixedEvent_111 : decode cX7_mixedEvent 111 = .ok (.invokestatic 164, 3) := by decide +kernel
theorem dX7_mixedEvent_114 : decode cX7_mixedEvent 114 = .ok (.lreturn, 1) := by decide +kernel
theorem dX7_refusedFact_0 : decode cX7_refusedFact 0 = .ok (.iload_n 1, 1) := by decide +kernel
theorem dX7_refusedFact_1 : decode cX7_refusedFact 1 = .ok (.tableswitch 58 0 4 #[35, 35, 35, 42, 50], 35) := by decide +kernel
theorem dX7_refusedFact_36 : decode cX7_refusedFact 36 = .ok (.aload_n 0, 1) := by decide +kernel
theorem dX7_refusedFact_37 : decode cX7_refusedFact 37 = .ok (.getfield 35, 3) := by decide +kernel
theorem dX7_refusedFact_40 : decode cX7_refusedFact 40 = .ok (.iload_n 1, 1) := by decide +kernel
theorem dX7_refusedFact_41 : decode cX7_refusedFact 41 = .ok (.iaload, 1) := by decide +kernel
theorem dX7_refusedFact_42 : decode cX7_refusedFact 42 = .ok (.ireturn, 1) := by decide +kernel
theorem dX7_refusedFact_43 : decode cX7_refusedFact 43 = .ok (.aload_n 0, 1) := by decide +kernel
theorem dX7_refusedFact_44 : decode cX7_refusedFact 44 = .ok (.getfield 31, 3) := by decide +kernel
theorem dX7_refusedFact_47 : decode cX7_refusedFact 47 = .ok (.getfield 131, 3) := by decide +kernel
theorem dX7_refusedFact_50 : decode cX7_refusedFact 50 = .ok (.ireturn, 1) := by decide +kernel
theorem dX7_refusedFact_51 : decode cX7_refusedFact 51 = .ok (.aload_n 0, 1) := by decide +kernel
theorem dX7_refusedFact_52 : decode cX7_refusedFact 52 = .ok (.getfield 24, 3) := by decide +kernel
theorem dX7_refusedFact_55 : decode cX7_refusedFact 55 = .ok (.getfield 202, 3) := by decide +kernel
theorem dX7_refusedFact_58 : decode cX7_refusedFact 58 = .ok (.ireturn, 1) := by decide +kernel
theorem dX7_refusedFact_59 : decode cX7_refusedFact 59 = .ok (.bipush (-2), 2) := by decide +kernel
theorem dX7_refusedFact_61 : decode cX7_refusedFact 61 = .ok (.ireturn, 1) := by decide +kernel
theorem dX7_carryOut_0 : decode cX7_carryOut 0 = .ok (.aload_n 0, 1) := by decide +kernel
theorem dX7_carryOut_1 : decode cX7_carryOut 1 = .ok (.getfield 31, 3) := by decide +kernel
theorem dX7_carryOut_4 : decode cX7_carryOut 4 = .ok (.iload_n 1, 1) := by decide +kernel
theorem dX7_carryOut_5 : decode cX7_carryOut 5 = .ok (.iconst 0, 1) := by decide +kernel
theorem dX7_carryOut_6 : decode cX7_carryOut 6 = .ok (.invokevirtual 203, 3) := by decide +kernel
theorem dX7_carryOut_9 : decode cX7_carryOut 9 = .ok (.istore_n 2, 1) := by decide +kernel
theorem dX7_carryOut_10 : decode cX7_carryOut 10 = .ok (.aload_n 0, 1) := by decide +kernel
theorem dX7_carryOut_11 : decode cX7_carryOut 11 = .ok (.getfield 31, 3) := by decide +kernel
theorem dX7_carryOut_14 : decode cX7_carryOut 14 = .ok (.iload_n 1, 1) := by decide +kernel
theorem dX7_carryOut_15 : decode cX7_carryOut 15 = .ok (.iconst 1, 1) := by decide +kernel
theorem dX7_carryOut_16 : decode cX7_carryOut 16 = .ok (.invokevirtual 203, 3) := by decide +kernel
theorem dX7_carryOut_19 : decode cX7_carryOut 19 = .ok (.istore_n 3, 1) := by decide +kernel
theorem dX7_carryOut_20 : decode cX7_carryOut 20 = .ok (.aload_n 0, 1) := by decide +kernel
theorem dX7_carryOut_21 : decode cX7_carryOut 21 = .ok (.getfield 31, 3) := by decide +kernel
theorem dX7_carryOut_24 : decode cX7_carryOut 24 = .ok (.iload_n 1, 1) := by decide +kernel
theorem dX7_carryOut_25 : decode cX7_carryOut 25 = .ok (.iconst 2, 1) := by decide +kernel
theorem dX7_carryOut_26 : decode cX7_carryOut 26 = .ok (.invokevirtual 203, 3) := by decide +kernel
theorem dX7_carryOut_29 : decode cX7_carryOut 29 = .ok (.istore 4, 2) := by decide +kernel
theorem dX7_carryOut_31 : decode cX7_carryOut 31 = .ok (.aload_n 0, 1) := by decide +kernel
theorem dX7_carryOut_32 : decode cX7_carryOut 32 = .ok (.getfield 31, 3) := by decide +kernel
theorem dX7_carryOut_35 : decode cX7_carryOut 35 = .ok (.iload_n 1, 1) := by decide +kernel
theorem dX7_carryOut_36 : decode cX7_carryOut 36 = .ok (.invokevirtual 206, 3) := by decide +kernel
theorem dX7_carryOut_39 : decode cX7_carryOut 39 = .ok (.lookupswitch 102 #[(99, 59), (102, 74), (103, 86), (109, 49), (114, 92)], 49) := by decide +kernel
theorem dX7_carryOut_88 : decode cX7_carryOut 88 = .ok (.aload_n 0, 1) := by decide +kernel
theorem dX7_carryOut_89 : decode cX7_carryOut 89 = .ok (.getfield 15, 3) := by decide +kernel
theorem dX7_carryOut_92 : decode cX7_carryOut 92 = .ok (.iload_n 2, 1) := by decide +kernel
theorem dX7_carryOut_93 : decode cX7_carryOut 93 = .ok (.iload_n 3, 1) := by decide +kernel
theorem dX7_carryOut_94 : decode cX7_carryOut 94 = .ok (.invokevirtual 50, 3) := by decide +kernel
theorem dX7_carryOut_97 : decode cX7_carryOut 97 = .ok (.ireturn, 1) := by decide +kernel
theorem dX7_carryOut_98 : decode cX7_carryOut 98 = .ok (.aload_n 0, 1) := by decide +kernel
theorem dX7_carryOut_99 : decode cX7_carryOut 99 = .ok (.getfield 15, 3) := by decide +kernel
theorem dX7_carryOut_102 : decode cX7_carryOut 102 = .ok (.getfield 54, 3) := by decide +kernel
theorem dX7_carryOut_105 : decode cX7_carryOut 105 = .ok (.iload_n 2, 1) := by decide +kernel
theorem dX7_carryOut_106 : decode cX7_carryOut 106 = .ok (.iload_n 3, 1) := by decide +kernel
theorem dX7_carryOut_107 : decode cX7_carryOut 107 = .ok (.iload 4, 2) := by decide +kernel
theorem dX7_carryOut_109 : decode cX7_carryOut 109 = .ok (.invokevirtual 58, 3) := by decide +kernel
theorem dX7_carryOut_112 : decode cX7_carryOut 112 = .ok (.ireturn, 1) := by decide +kernel
theorem dX7_carryOut_113 : decode cX7_carryOut 113 = .ok (.aload_n 0, 1) := by decide +kernel
theorem dX7_carryOut_114 : decode cX7_carryOut 114 = .ok (.getfield 15, 3) := by decide +kernel
theorem dX7_carryOut_117 : decode cX7_carryOut 117 = .ok (.getfield 54, 3) := by decide +kernel
theorem dX7_carryOut_120 : decode cX7_carryOut 120 = .ok (.iload_n 2, 1) := by decide +kernel
theorem dX7_carryOut_121 : decode cX7_carryOut 121 = .ok (.invokevirtual 64, 3) := by decide +kernel
theorem dX7_carryOut_124 : decode cX7_carryOut 124 = .ok (.ireturn, 1) := by decide +kernel
theorem dX7_carryOut_125 : decode cX7_carryOut 125 = .ok (.aload_n 0, 1) := by decide +kernel
theorem dX7_carryOut_126 : decode cX7_carryOut 126 = .ok (.iload_n 1, 1) := by decide +kernel
theorem dX7_carryOut_127 : decode cX7_carryOut 127 = .ok (.invokevirtual 209, 3) := by decide +kernel
theorem dX7_carryOut_130 : decode cX7_carryOut 130 = .ok (.ireturn, 1) := by decide +kernel
theorem dX7_carryOut_131 : decode cX7_carryOut 131 = .ok (.aload_n 0, 1) := by decide +kernel
theorem dX7_carryOut_132 : decode cX7_carryOut 132 = .ok (.getfield 15, 3) := by decide +kernel
theorem dX7_carryOut_135 : decode cX7_carryOut 135 = .ok (.iload_n 2, 1) := by decide +kernel
theorem dX7_carryOut_136 : decode cX7_carryOut 136 = .ok (.iload_n 3, 1) := by decide +kernel
theorem dX7_carryOut_137 : decode cX7_carryOut 137 = .ok (.invokevirtual 86, 3) := by decide +kernel
theorem dX7_carryOut_140 : decode cX7_carryOut 140 = .ok (.ireturn, 1) := by decide +kernel
theorem dX7_carryOut_141 : decode cX7_carryOut 141 = .ok (.bipush (-2), 2) := by decide +kernel
theorem dX7_carryOut_143 : decode cX7_carryOut 143 = .ok (.ireturn, 1) := by decide +kernel
theorem dX7_carryOutGroup_0 : decode cX7_carryOutGroup 0 = .ok (.aload_n 0, 1) := by decide +kernel
theorem dX7_carryOutGroup_1 : decode cX7_carryOutGroup 1 = .ok (.getfield 15, 3) := by decide +kernel
theorem dX7_carryOutGroup_4 : decode cX7_carryOutGroup 4 = .ok (.aload_n 0, 1) := by decide +kernel
theorem dX7_carryOutGroup_5 : decode cX7_carryOutGroup 5 = .ok (.getfield 31, 3) := by decide +kernel
theorem dX7_carryOutGroup_8 : decode cX7_carryOutGroup 8 = .ok (.iload_n 1, 1) := by decide +kernel
theorem dX7_carryOutGroup_9 : decode cX7_carryOutGroup 9 = .ok (.iconst 0, 1) := by decide +kernel
theorem dX7_carryOutGroup_10 : decode cX7_carryOutGroup 10 = .ok (.invokevirtual 203, 3) := by decide +kernel
theorem dX7_carryOutGroup_13 : decode cX7_carryOutGroup 13 = .ok (.aload_n 0, 1) := by decide +kernel
theorem dX7_carryOutGroup_14 : decode cX7_carryOutGroup 14 = .ok (.getfield 31, 3) := by decide +kernel
theorem dX7_carryOutGroup_17 : decode cX7_carryOutGroup 17 = .ok (.iload_n 1, 1) := by decide +kernel
theorem dX7_carryOutGroup_18 : decode cX7_carryOutGroup 18 = .ok (.iconst 1, 1) := by decide +kernel
theorem dX7_carryOutGroup_19 : decode cX7_carryOutGroup 19 = .ok (.invokevirtual 203, 3) := by decide +kernel
theorem dX7_carryOutGroup_22 : decode cX7_carryOutGroup 22 = .ok (.aload_n 0, 1) := by decide +kernel
theorem dX7_carryOutGroup_23 : decode cX7_carryOutGroup 23 = .ok (.getfield 31, 3) := by decide +kernel
theorem dX7_carryOutGroup_26 : decode cX7_carryOutGroup 26 = .ok (.iload_n 1, 1) := by decide +kernel
theorem dX7_carryOutGroup_27 : decode cX7_carryOutGroup 27 = .ok (.iconst 2, 1) := by decide +kernel
theorem dX7_carryOutGroup_28 : decode cX7_carryOutGroup 28 = .ok (.invokevirtual 203, 3) := by decide +kernel
theorem dX7_carryOutGroup_31 : decode cX7_carryOutGroup 31 = .ok (.aload_n 0, 1) := by decide +kernel
theorem dX7_carryOutGroup_32 : decode cX7_carryOutGroup 32 = .ok (.getfield 31, 3) := by decide +kernel
theorem dX7_carryOutGroup_35 : decode cX7_carryOutGroup 35 = .ok (.iload_n 1, 1) := by decide +kernel
theorem dX7_carryOutGroup_36 : decode cX7_carryOutGroup 36 = .ok (.iconst 3, 1) := by decide +kernel
theorem dX7_carryOutGroup_37 : decode cX7_carryOutGroup 37 = .ok (.invokevirtual 203, 3) := by decide +kernel
theorem dX7_carryOutGroup_40 : decode cX7_carryOutGroup 40 = .ok (.aload_n 0, 1) := by decide +kernel
theorem dX7_carryOutGroup_41 : decode cX7_carryOutGroup 41 = .ok (.getfield 31, 3) := by decide +kernel
theorem dX7_carryOutGroup_44 : decode cX7_carryOutGroup 44 = .ok (.iload_n 1, 1) := by decide +kernel
theorem dX7_carryOutGroup_45 : decode cX7_carryOutGroup 45 = .ok (.iconst 4, 1) := by decide +kernel
theorem dX7_carryOutGroup_46 : decode cX7_carryOutGroup 46 = .ok (.invokevirtual 203, 3) := by decide +kernel
theorem dX7_carryOutGroup_49 : decode cX7_carryOutGroup 49 = .ok (.invokevirtual 70, 3) := by decide +kernel
theorem dX7_carryOutGroup_52 : decode cX7_carryOutGroup 52 = .ok (.istore_n 2, 1) := by decide +kernel
theorem dX7_carryOutGroup_53 : decode cX7_carryOutGroup 53 = .ok (.aload_n 0, 1) := by decide +kernel
theorem dX7_carryOutGroup_54 : decode cX7_carryOutGroup 54 = .ok (.getfield 15, 3) := by decide +kernel
theorem dX7_carryOutGroup_57 : decode cX7_carryOutGroup 57 = .ok (.getfield 177, 3) := by decide +kernel
theorem dX7_carryOutGroup_60 : decode cX7_carryOutGroup 60 = .ok (.iconst 1, 1) := by decide +kernel
theorem dX7_carryOutGroup_61 : decode cX7_carryOutGroup 61 = .ok (.isub, 1) := by decide +kernel
theorem dX7_carryOutGroup_62 : decode cX7_carryOutGroup 62 = .ok (.istore_n 3, 1) := by decide +kernel
theorem dX7_carryOutGroup_63 : decode cX7_carryOutGroup 63 = .ok (.iconst 5, 1) := by decide +kernel
theorem dX7_carryOutGroup_64 : decode cX7_carryOutGroup 64 = .ok (.istore 4, 2) := by decide +kernel
theorem dX7_carryOutGroup_66 : decode cX7_carryOutGroup 66 = .ok (.iload 4, 2) := by decide +kernel
theorem dX7_carryOutGroup_68 : decode cX7_carryOutGroup 68 = .ok (.aload_n 0, 1) := by decide +kernel
theorem dX7_carryOutGroup_69 : decode cX7_carryOutGroup 69 = .ok (.getfield 31, 3) := by decide +kernel
theorem dX7_carryOutGroup_72 : decode cX7_carryOutGroup 72 = .ok (.iload_n 1, 1) := by decide +kernel
theorem dX7_carryOutGroup_73 : decode cX7_carryOutGroup 73 = .ok (.invokevirtual 212, 3) := by decide +kernel
theorem dX7_carryOutGroup_76 : decode cX7_carryOutGroup 76 = .ok (.if_icmp .ge 35, 3) := by decide +kernel
theorem dX7_carryOutGroup_79 : decode cX7_carryOutGroup 79 = .ok (.iload_n 2, 1) := by decide +kernel
theorem dX7_carryOutGroup_80 : decode cX7_carryOutGroup 80 = .ok (.invokestatic 145, 3) := by decide +kernel
theorem dX7_carryOutGroup_83 : decode cX7_carryOutGroup 83 = .ok (.ifCond .ne 28, 3) := by decide +kernel
theorem dX7_carryOutGroup_86 : decode cX7_carryOutGroup 86 = .ok (.aload_n 0, 1) := by decide +kernel
theorem dX7_carryOutGroup_87 : decode cX7_carryOutGroup 87 = .ok (.getfield 15, 3) := by decide +kernel
theorem dX7_carryOutGroup_90 : decode cX7_carryOutGroup 90 = .ok (.iload_n 3, 1) := by decide +kernel
theorem dX7_carryOutGroup_91 : decode cX7_carryOutGroup 91 = .ok (.aload_n 0, 1) := by decide +kernel
theorem dX7_carryOutGroup_92 : decode cX7_carryOutGroup 92 = .ok (.getfield 31, 3) := by decide +kernel
theorem dX7_carryOutGroup_95 : decode cX7_carryOutGroup 95 = .ok (.iload_n 1, 1) := by decide +kernel
theorem dX7_carryOutGroup_96 : decode cX7_carryOutGroup 96 = .ok (.iload 4, 2) := by decide +kernel
theorem dX7_carryOutGroup_98 : decode cX7_carryOutGroup 98 = .ok (.invokevirtual 203, 3) := by decide +kernel
theorem dX7_carryOutGroup_101 : decode cX7_carryOutGroup 101 = .ok (.invokevirtual 74, 3) := by decide +kernel
theorem dX7_carryOutGroup_104 : decode cX7_carryOutGroup 104 = .ok (.istore_n 2, 1) := by decide +kernel
theorem dX7_carryOutGroup_105 : decode cX7_carryOutGroup 105 = .ok (.iinc 4 1, 3) := by decide +kernel
theorem dX7_carryOutGroup_108 : decode cX7_carryOutGroup 108 = .ok (.goto (-42), 3) := by decide +kernel
theorem dX7_carryOutGroup_111 : decode cX7_carryOutGroup 111 = .ok (.iload_n 2, 1) := by decide +kernel
theorem dX7_carryOutGroup_112 : decode cX7_carryOutGroup 112 = .ok (.ireturn, 1) := by decide +kernel
theorem dX7_settle_0 : decode cX7_settle 0 = .ok (.iload_n 1, 1) := by decide +kernel
theorem dX7_settle_1 : decode cX7_settle 1 = .ok (.invokestatic 145, 3) := by decide +kernel
theorem dX7_settle_4 : decode cX7_settle 4 = .ok (.ifCond .ne 10, 3) := by decide +kernel
theorem dX7_settle_7 : decode cX7_settle 7 = .ok (.aload_n 0, 1) := by decide +kernel
theorem dX7_settle_8 : decode cX7_settle 8 = .ok (.getfield 24, 3) := by decide +kernel
theorem dX7_settle_11 : decode cX7_settle 11 = .ok (.invokevirtual 152, 3) := by decide +kernel
theorem dX7_settle_14 : decode cX7_settle 14 = .ok (.aload_n 0, 1) := by decide +kernel
theorem dX7_settle_15 : decode cX7_settle 15 = .ok (.iload_n 1, 1) := by decide +kernel
theorem dX7_settle_16 : decode cX7_settle 16 = .ok (.invokevirtual 92, 3) := by decide +kernel
theorem dX7_settle_19 : decode cX7_settle 19 = .ok (.ireturn, 1) := by decide +kernel
theorem dX7_answer_0 : decode cX7_answer 0 = .ok (.iload_n 1, 1) := by decide +kernel
theorem dX7_answer_1 : decode cX7_answer 1 = .ok (.invokestatic 145, 3) := by decide +kernel
theorem dX7_answer_4 : decode cX7_answer 4 = .ok (.ifCond .eq 16, 3) := by decide +kernel
theorem dX7_answer_7 : decode cX7_answer 7 = .ok (.aload_n 0, 1) := by decide +kernel
theorem dX7_answer_8 : decode cX7_answer 8 = .ok (.getfield 35, 3) := by decide +kernel
theorem dX7_answer_11 : decode cX7_answer 11 = .ok (.bipush (-2), 2) := by decide +kernel
theorem dX7_answer_13 : decode cX7_answer 13 = .ok (.iload_n 1, 1) := by decide +kernel
theorem dX7_answer_14 : decode cX7_answer 14 = .ok (.isub, 1) := by decide +kernel
theorem dX7_answer_15 : decode cX7_answer 15 = .ok (.dup2, 1) := by decide +kernel
theorem dX7_answer_16 : decode cX7_answer 16 = .ok (.iaload, 1) := by decide +kernel
theorem dX7_answer_17 : decode cX7_answer 17 = .ok (.iconst 1, 1) := by decide +kernel
theorem dX7_answer_18 : decode cX7_answer 18 = .ok (.iadd, 1) := by decide +kernel
theorem dX7_answer_19 : decode cX7_answer 19 = .ok (.iastore, 1) := by decide +kernel
theorem dX7_answer_20 : decode cX7_answer 20 = .ok (.iload_n 1, 1) := by decide +kernel
theorem dX7_answer_21 : decode cX7_answer 21 = .ok (.ireturn, 1) := by decide +kernel
theorem dX7_isRefusal_0 : decode cX7_isRefusal 0 = .ok (.iload_n 0, 1) := by decide +kernel
theorem dX7_isRefusal_1 : decode cX7_isRefusal 1 = .ok (.bipush (-2), 2) := by decide +kernel
theorem dX7_isRefusal_3 : decode cX7_isRefusal 3 = .ok (.if_icmp .gt 13, 3) := by decide +kernel
theorem dX7_isRefusal_6 : decode cX7_isRefusal 6 = .ok (.iload_n 0, 1) := by decide +kernel
theorem dX7_isRefusal_7 : decode cX7_isRefusal 7 = .ok (.bipush (-4), 2) := by decide +kernel
theorem dX7_isRefusal_9 : decode cX7_isRefusal 9 = .ok (.if_icmp .lt 7, 3) := by decide +kernel
theorem dX7_isRefusal_12 : decode cX7_isRefusal 12 = .ok (.iconst 1, 1) := by decide +kernel
theorem dX7_isRefusal_13 : decode cX7_isRefusal 13 = .ok (.goto 4, 3) := by decide +kernel
theorem dX7_isRefusal_16 : decode cX7_isRefusal 16 = .ok (.iconst 0, 1) := by decide +kernel
theorem dX7_isRefusal_17 : decode cX7_isRefusal 17 = .ok (.ireturn, 1) := by decide +kernel
theorem dX7_isWithin_0 : decode cX7_isWithin 0 = .ok (.iload_n 0, 1) := by decide +kernel
theorem dX7_isWithin_1 : decode cX7_isWithin 1 = .ok (.iload_n 1, 1) := by decide +kernel
theorem dX7_isWithin_2 : decode cX7_isWithin 2 = .ok (.if_icmp .lt 12, 3) := by decide +kernel
theorem dX7_isWithin_5 : decode cX7_isWithin 5 = .ok (.iload_n 0, 1) := by decide +kernel
theorem dX7_isWithin_6 : decode cX7_isWithin 6 = .ok (.iload_n 2, 1) := by decide +kernel
theorem dX7_isWithin_7 : decode cX7_isWithin 7 = .ok (.if_icmp .gt 7, 3) := by decide +kernel
theorem dX7_isWithin_10 : decode cX7_isWithin 10 = .ok (.iconst 1, 1) := by decide +kernel
theorem dX7_isWithin_11 : decode cX7_isWithin 11 = .ok (.goto 4, 3) := by decide +kernel
theorem dX7_isWithin_14 : decode cX7_isWithin 14 = .ok (.iconst 0, 1) := by decide +kernel
theorem dX7_isWithin_15 : decode cX7_isWithin 15 = .ok (.ireturn, 1) := by decide +kernel
theorem dX7_bit_0 : decode cX7_bit 0 = .ok (.iload_n 0, 1) := by decide +kernel
theorem dX7_bit_1 : decode cX7_bit 1 = .ok (.ifCond .eq 7, 3) := by decide +kernel
theorem dX7_bit_4 : decode cX7_bit 4 = .ok (.iconst 1, 1) := by decide +kernel
theorem dX7_bit_5 : decode cX7_bit 5 = .ok (.goto 4, 3) := by decide +kernel
theorem dX7_bit_8 : decode cX7_bit 8 = .ok (.iconst 0, 1) := by decide +kernel
theorem dX7_bit_9 : decode cX7_bit 9 = .ok (.ireturn, 1) := by decide +kernel
theorem dX7_copyRow_0 : decode cX7_copyRow 0 = .ok (.aload_n 0, 1) := by decide +kernel
theorem dX7_copyRow_1 : decode cX7_copyRow 1 = .ok (.iconst 0, 1) := by decide +kernel
theorem dX7_copyRow_2 : decode cX7_copyRow 2 = .ok (.aload_n 1, 1) := by decide +kernel
theorem dX7_copyRow_3 : decode cX7_copyRow 3 = .ok (.iconst 0, 1) := by decide +kernel
theorem dX7_copyRow_4 : decode cX7_copyRow 4 = .ok (.aload_n 0, 1) := by decide +kernel
theorem dX7_copyRow_5 : decode cX7_copyRow 5 = .ok (.arraylength, 1) := by decide +kernel
theorem dX7_copyRow_6 : decode cX7_copyRow 6 = .ok (.aload_n 1, 1) := by decide +kernel
theorem dX7_copyRow_7 : decode cX7_copyRow 7 = .ok (.arraylength, 1) := by decide +kernel
theorem dX7_copyRow_8 : decode cX7_copyRow 8 = .ok (.invokestatic 215, 3) := by decide +kernel
theorem dX7_copyRow_11 : decode cX7_copyRow 11 = .ok (.invokestatic 220, 3) := by decide +kernel
theorem dX7_copyRow_14 : decode cX7_copyRow 14 = .ok (.return_, 1) := by decide +kernel
theorem dX8_init_0 : decode cX8_init 0 = .ok (.aload_n 0, 1) := by decide +kernel
theorem dX8_init_1 : decode cX8_init 1 = .ok (.invokespecial 1, 3) := by decide +kernel
theorem dX8_init_4 : decode cX8_init 4 = .ok (.aload_n 0, 1) := by decide +kernel
theorem dX8_init_5 : decode cX8_init 5 = .ok (.sipush 659, 3) := by decide +kernel
theorem dX8_init_8 : decode cX8_init 8 = .ok (.newarray .int, 2) := by decide +kernel
theorem dX8_init_10 : decode cX8_init 10 = .ok (.putfield 7, 3) := by decide +kernel
theorem dX8_init_13 : decode cX8_init 13 = .ok (.aload_n 0, 1) := by decide +kernel
theorem dX8_init_14 : decode cX8_init 14 = .ok (.sipush 659, 3) := by decide +kernel
theorem dX8_init_17 : decode cX8_init 17 = .ok (.newarray .int, 2) := by decide +kernel
theorem dX8_init_19 : decode cX8_init 19 = .ok (.putfield 13, 3) := by decide +kernel
theorem dX8_init_22 : decode cX8_init 22 = .ok (.aload_n 0, 1) := by decide +kernel
theorem dX8_init_23 : decode cX8_init 23 = .ok (.sipush 3295, 3) := by decide +kernel
theorem dX8_init_26 : decode cX8_init 26 = .ok (.newarray .int, 2) := by decide +kernel
theorem dX8_init_28 : decode cX8_init 28 = .ok (.putfield 16, 3) := by decide +kernel
theorem dX8_init_31 : decode cX8_init 31 = .ok (.aload_n 0, 1) := by decide +kernel
theorem dX8_init_32 : decode cX8_init 32 = .ok (.iconst 3, 1) := by decide +kernel
theorem dX8_init_33 : decode cX8_init 33 = .ok (.newarray .int, 2) := by decide +kernel
theorem dX8_init_35 : decode cX8_init 35 = .ok (.putfield 19, 3) := by decide +kernel
theorem dX8_init_38 : decode cX8_init 38 = .ok (.aload_n 0, 1) := by decide +kernel
theorem dX8_init_39 : decode cX8_init 39 = .ok (.bipush 120, 2) := by decide +kernel
theorem dX8_init_41 : decode cX8_init 41 = .ok (.newarray .int, 2) := by decide +kernel
theorem dX8_init_43 : decode cX8_init 43 = .ok (.putfield 22, 3) := by decide +kernel
theorem dX8_init_46 : decode cX8_init 46 = .ok (.aload_n 0, 1) := by decide +kernel
theorem dX8_init_47 : decode cX8_init 47 = .ok (.iconst 4, 1) := by decide +kernel
theorem dX8_init_48 : decode cX8_init 48 = .ok (.newarray .int, 2) := by decide +kernel
theorem dX8_init_50 : decode cX8_init 50 = .ok (.putfield 25, 3) := by decide +kernel
theorem dX8_init_53 : decode cX8_init 53 = .ok (.aload_n 0, 1) := by decide +kernel
theorem dX8_init_54 : decode cX8_init 54 = .ok (.iconst 4, 1) := by decide +kernel
theorem dX8_init_55 : decode cX8_init 55 = .ok (.newarray .int, 2) := by decide +kernel
theorem dX8_init_57 : decode cX8_init 57 = .ok (.putfield 28, 3) := by decide +kernel
theorem dX8_init_60 : decode cX8_init 60 = .ok (.aload_n 0, 1) := by decide +kernel
theorem dX8_init_61 : decode cX8_init 61 = .ok (.iconst 4, 1) := by decide +kernel
theorem dX8_init_62 : decode cX8_init 62 = .ok (.newarray .int, 2) := by decide +kernel
theorem dX8_init_64 : decode cX8_init 64 = .ok (.putfield 31, 3) := by decide +kernel
theorem dX8_init_67 : decode cX8_init 67 = .ok (.aload_n 0, 1) := by decide +kernel
theorem dX8_init_68 : decode cX8_init 68 = .ok (.bipush 60, 2) := by decide +kernel
theorem dX8_init_70 : decode cX8_init 70 = .ok (.newarray .int, 2) := by decide +kernel
theorem dX8_init_72 : decode cX8_init 72 = .ok (.putfield 34, 3) := by decide +kernel
theorem dX8_init_75 : decode cX8_init 75 = .ok (.aload_n 0, 1) := by decide +kernel
theorem dX8_init_76 : decode cX8_init 76 = .ok (.bipush 61, 2) := by decide +kernel
theorem dX8_init_78 : decode cX8_init 78 = .ok (.newarray .int, 2) := by decide +kernel
theorem dX8_init_80 : decode cX8_init 80 = .ok (.putfield 37, 3) := by decide +kernel
theorem dX8_init_83 : decode cX8_init 83 = .ok (.aload_n 0, 1) := by decide +kernel
theorem dX8_init_84 : decode cX8_init 84 = .ok (.sipush 128, 3) := by decide +kernel
theorem dX8_init_87 : decode cX8_init 87 = .ok (.newarray .int, 2) := by decide +kernel
theorem dX8_init_89 : decode cX8_init 89 = .ok (.putfield 40, 3) := by decide +kernel
theorem dX8_init_92 : decode cX8_init 92 = .ok (.aload_n 0, 1) := by decide +kernel
theorem dX8_init_93 : decode cX8_init 93 = .ok (.getfield 7, 3) := by decide +kernel
theorem dX8_init_96 : decode cX8_init 96 = .ok (.iconst 0, 1) := by decide +kernel
theorem dX8_init_97 : decode cX8_init 97 = .ok (.iconst 2, 1) := by decide +kernel
theorem dX8_init_98 : decode cX8_init 98 = .ok (.iastore, 1) := by decide +kernel
theorem dX8_init_99 : decode cX8_init 99 = .ok (.iconst 0, 1) := by decide +kernel
theorem dX8_init_100 : decode cX8_init 100 = .ok (.istore_n 1, 1) := by decide +kernel
theorem dX8_init_101 : decode cX8_init 101 = .ok (.iload_n 1, 1) := by decide +kernel
theorem dX8_init_102 : decode cX8_init 102 = .ok (.bipush 8, 2) := by decide +kernel
theorem dX8_init_104 : decode cX8_init 104 = .ok (.if_icmp .ge 19, 3) := by decide +kernel
theorem dX8_init_107 : decode cX8_init 107 = .ok (.aload_n 0, 1) := by decide +kernel
theorem dX8_init_108 : decode cX8_init 108 = .ok (.getfield 7, 3) := by decide +kernel
theorem dX8_init_111 : decode cX8_init 111 = .ok (.iconst 1, 1) := by decide +kernel
theorem dX8_init_112 : decode cX8_init 112 = .ok (.iload_n 1, 1) := by decide +kernel
theorem dX8_init_113 : decode cX8_init 113 = .ok (.iadd, 1) := by decide +kernel
theorem dX8_init_114 : decode cX8_init 114 = .ok (.bipush 15, 2) := by decide +kernel
theorem dX8_init_116 : decode cX8_init 116 = .ok (.iastore, 1) := by decide +kernel
theorem dX8_init_117 : decode cX8_init 117 = .ok (.iinc 1 1, 3) := by decide +kernel
theorem dX8_init_120 : decode cX8_init 120 = .ok (.goto (-19), 3) := by decide +kernel
theorem dX8_init_123 : decode cX8_init 123 = .ok (.aload_n 0, 1) := by decide +kernel
theorem dX8_init_124 : decode cX8_init 124 = .ok (.getfield 7, 3) := by decide +kernel
theorem dX8_init_127 : decode cX8_init 127 = .ok (.bipush 9, 2) := by decide +kernel
theorem dX8_init_129 : decode cX8_init 129 = .ok (.iconst 1, 1) := by decide +kernel
theorem dX8_init_130 : decode cX8_init 130 = .ok (.iastore, 1) := by decide +kernel
theorem dX8_init_131 : decode cX8_init 131 = .ok (.aload_n 0, 1) := by decide +kernel
theorem dX8_init_132 : decode cX8_init 132 = .ok (.getfield 7, 3) := by decide +kernel
theorem dX8_init_135 : decode cX8_init 135 = .ok (.bipush 10, 2) := by decide +kernel
theorem dX8_init_137 : decode cX8_init 137 = .ok (.iconst (-1), 1) := by decide +kernel
theorem dX8_init_138 : decode cX8_init 138 = .ok (.iastore, 1) := by decide +kernel
theorem dX8_init_139 : decode cX8_init 139 = .ok (.aload_n 0, 1) := by decide +kernel
theorem dX8_init_140 : decode cX8_init 140 = .ok (.getfield 7, 3) := by decide +kernel
theorem dX8_init_143 : decode cX8_init 143 = .ok (.sipush 427, 3) := by decide +kernel
theorem dX8_init_146 : decode cX8_init 146 = .ok (.iconst 1, 1) := by decide +kernel
theorem dX8_init_147 : decode cX8_init 147 = .ok (.iastore, 1) := by decide +kernel
theorem dX8_init_148 : decode cX8_init 148 = .ok (.return_, 1) := by decide +kernel
theorem dX8_in_0 : decode cX8_in 0 = .ok (.iload_n 0, 1) := by decide +kernel
theorem dX8_in_1 : decode cX8_in 1 = .ok (.iload_n 1, 1) := by decide +kernel
theorem dX8_in_2 : decode cX8_in 2 = .ok (.if_icmp .lt 12, 3) := by decide +kernel
theorem dX8_in_5 : decode cX8_in 5 = .ok (.iload_n 0, 1) := by decide +kernel
theorem dX8_in_6 : decode cX8_in 6 = .ok (.iload_n 2, 1) := by decide +kernel
theorem dX8_in_7 : decode cX8_in 7 = .ok (.if_icmp .gt 7, 3) := by decide +kernel
theorem dX8_in_10 : decode cX8_in 10 = .ok (.iconst 1, 1) := by decide +kernel
theorem dX8_in_11 : decode cX8_in 11 = .ok (.goto 4, 3) := by decide +kernel
theorem dX8_in_14 : decode cX8_in 14 = .ok (.iconst 0, 1) := by decide +kernel
theorem dX8_in_15 : decode cX8_in 15 = .ok (.ireturn, 1) := by decide +kernel
theorem dX8_has_0 : decode cX8_has 0 = .ok (.iload_n 0, 1) := by decide +kernel
theorem dX8_has_1 : decode cX8_has 1 = .ok (.iload_n 1, 1) := by decide +kernel
theorem dX8_has_2 : decode cX8_has 2 = .ok (.ishr, 1) := by decide +kernel
theorem dX8_has_3 : decode cX8_has 3 = .ok (.iconst 1, 1) := by decide +kernel
theorem dX8_has_4 : decode cX8_has 4 = .ok (.iand, 1) := by decide +kernel
theorem dX8_has_5 : decode cX8_has 5 = .ok (.iconst 1, 1) := by decide +kernel
theorem dX8_has_6 : decode cX8_has 6 = .ok (.if_icmp .ne 7, 3) := by decide +kernel
theorem dX8_has_9 : decode cX8_has 9 = .ok (.iconst 1, 1) := by decide +kernel
theorem dX8_has_10 : decode cX8_has 10 = .ok (.goto 4, 3) := by decide +kernel
theorem dX8_has_13 : decode cX8_has 13 = .ok (.iconst 0, 1) := by decide +kernel
theorem dX8_has_14 : decode cX8_has 14 = .ok (.ireturn, 1) := by decide +kernel
theorem dX8_bad_0 : decode cX8_bad 0 = .ok (.aload_n 0, 1) := by decide +kernel
theorem dX8_bad_1 : decode cX8_bad 1 = .ok (.getfield 19, 3) := by decide +kernel
theorem dX8_bad_4 : decode cX8_bad 4 = .ok (.iconst 0, 1) := by decide +kernel
theorem dX8_bad_5 : decode cX8_bad 5 = .ok (.dup2, 1) := by decide +kernel
theorem dX8_bad_6 : decode cX8_bad 6 = .ok (.iaload, 1) := by decide +kernel
theorem dX8_bad_7 : decode cX8_bad 7 = .ok (.iconst 1, 1) := by decide +kernel
theorem dX8_bad_8 : decode cX8_bad 8 = .ok (.iadd, 1) := by decide +kernel
theorem dX8_bad_9 : decode cX8_bad 9 = .ok (.iastore, 1) := by decide +kernel
theorem dX8_bad_10 : decode cX8_bad 10 = .ok (.bipush (-2), 2) := by decide +kernel
theorem dX8_bad_12 : decode cX8_bad 12 = .ok (.ireturn, 1) := by decide +kernel
theorem dX8_no_0 : decode cX8_no 0 = .ok (.aload_n 0, 1) := by decide +kernel
theorem dX8_no_1 : decode cX8_no 1 = .ok (.getfield 19, 3) := by decide +kernel
theorem dX8_no_4 : decode cX8_no 4 = .ok (.iconst 1, 1) := by decide +kernel
theorem dX8_no_5 : decode cX8_no 5 = .ok (.dup2, 1) := by decide +kernel
theorem dX8_no_6 : decode cX8_no 6 = .ok (.iaload, 1) := by decide +kernel
theorem dX8_no_7 : decode cX8_no 7 = .ok (.iconst 1, 1) := by decide +kernel
theorem dX8_no_8 : decode cX8_no 8 = .ok (.iadd, 1) := by decide +kernel
theorem dX8_no_9 : decode cX8_no 9 = .ok (.iastore, 1) := by decide +kernel
theorem dX8_no_10 : decode cX8_no 10 = .ok (.bipush (-3), 2) := by decide +kernel
theorem dX8_no_12 : decode cX8_no 12 = .ok (.ireturn, 1) := by decide +kernel
theorem dX8_full_0 : decode cX8_full 0 = .ok (.aload_n 0, 1) := by decide +kernel
theorem dX8_full_1 : decode cX8_full 1 = .ok (.getfield 19, 3) := by decide +kernel
theorem dX8_full_4 : decode cX8_full 4 = .ok (.iconst 2, 1) := by decide +kernel
theorem dX8_full_5 : decode cX8_full 5 = .ok (.dup2, 1) := by decide +kernel
theorem dX8_full_6 : decode cX8_full 6 = .ok (.iaload, 1) := by decide +kernel
theorem dX8_full_7 : decode cX8_full 7 = .ok (.iconst 1, 1) := by decide +kernel
theorem dX8_full_8 : decode cX8_full 8 = .ok (.iadd, 1) := by decide +kernel
theorem dX8_full_9 : decode cX8_full 9 = .ok (.iastore, 1) := by decide +kernel
theorem dX8_full_10 : decode cX8_full 10 = .ok (.bipush (-4), 2) := by decide +kernel
theorem dX8_full_12 : decode cX8_full 12 = .ok (.ireturn, 1) := by decide +kernel
theorem dX8_remembers_0 : decode cX8_remembers 0 = .ok (.aload_n 0, 1) := by decide +kernel
theorem dX8_remembers_1 : decode cX8_remembers 1 = .ok (.getfield 43, 3) := by decide +kernel
theorem dX8_remembers_4 : decode cX8_remembers 4 = .ok (.iconst 5, 1) := by decide +kernel
theorem dX8_remembers_5 : decode cX8_remembers 5 = .ok (.if_icmp .ne 44, 3) := by decide +kernel
theorem dX8_remembers_8 : decode cX8_remembers 8 = .ok (.iconst 0, 1) := by decide +kernel
theorem dX8_remembers_9 : decode cX8_remembers 9 = .ok (.istore_n 1, 1) := by decide +kernel
theorem dX8_remembers_10 : decode cX8_remembers 10 = .ok (.iload_n 1, 1) := by decide +kernel
theorem dX8_remembers_11 : decode cX8_remembers 11 = .ok (.sipush 2636, 3) := by decide +kernel
theorem dX8_remembers_14 : decode cX8_remembers 14 = .ok (.if_icmp .ge 25, 3) := by decide +kernel
theorem dX8_remembers_17 : decode cX8_remembers 17 = .ok (.aload_n 0, 1) := by decide +kernel
theorem dX8_remembers_18 : decode cX8_remembers 18 = .ok (.getfield 16, 3) := by decide +kernel
theorem dX8_remembers_21 : decode cX8_remembers 21 = .ok (.iload_n 1, 1) := by decide +kernel
theorem dX8_remembers_22 : decode cX8_remembers 22 = .ok (.aload_n 0, 1) := by decide +kernel
theorem dX8_remembers_23 : decode cX8_remembers 23 = .ok (.getfield 16, 3) := by decide +kernel
theorem dX8_remembers_26 : decode cX8_remembers 26 = .ok (.iload_n 1, 1) := by decide +kernel
theorem dX8_remembers_27 : decode cX8_remembers 27 = .ok (.sipush 659, 3) := by decide +kernel
theorem dX8_remembers_30 : decode cX8_remembers 30 = .ok (.iadd, 1) := by decide +kernel
theorem dX8_remembers_31 : decode cX8_remembers 31 = .ok (.iaload, 1) := by decide +kernel
theorem dX8_remembers_32 : decode cX8_remembers 32 = .ok (.iastore, 1) := by decide +kernel
theorem dX8_remembers_33 : decode cX8_remembers 33 = .ok (.iinc 1 1, 3) := by decide +kernel
theorem dX8_remembers_36 : decode cX8_remembers 36 = .ok (.goto (-26), 3) := by decide +kernel
theorem dX8_remembers_39 : decode cX8_remembers 39 = .ok (.aload_n 0, 1) := by decide +kernel
theorem dX8_remembers_40 : decode cX8_remembers 40 = .ok (.dup, 1) := by decide +kernel
theorem dX8_remembers_41 : decode cX8_remembers 41 = .ok (.getfield 43, 3) := by decide +kernel
theorem dX8_remembers_44 : decode cX8_remembers 44 = .ok (.iconst 1, 1) := by decide +kernel
theorem dX8_remembers_45 : decode cX8_remembers 45 = .ok (.isub, 1) := by decide +kernel
theorem dX8_remembers_46 : decode cX8_remembers 46 = .ok (.putfield 43, 3) := by decide +kernel
theorem dX8_remembers_49 : decode cX8_remembers 49 = .ok (.iconst 0, 1) := by decide +kernel
theorem dX8_remembers_50 : decode cX8_remembers 50 = .ok (.istore_n 1, 1) := by decide +kernel
theorem dX8_remembers_51 : decode cX8_remembers 51 = .ok (.iload_n 1, 1) := by decide +kernel
theorem dX8_remembers_52 : decode cX8_remembers 52 = .ok (.sipush 659, 3) := by decide +kernel
theorem dX8_remembers_55 : decode cX8_remembers 55 = .ok (.if_icmp .ge 30, 3) := by decide +kernel
theorem dX8_remembers_58 : decode cX8_remembers 58 = .ok (.aload_n 0, 1) := by decide +kernel
theorem dX8_remembers_59 : decode cX8_remembers 59 = .ok (.getfield 16, 3) := by decide +kernel
theorem dX8_remembers_62 : decode cX8_remembers 62 = .ok (.sipush 659, 3) := by decide +kernel
theorem dX8_remembers_65 : decode cX8_remembers 65 = .ok (.aload_n 0, 1) := by decide +kernel
theorem dX8_remembers_66 : decode cX8_remembers 66 = .ok (.getfield 43, 3) := by decide +kernel
theorem dX8_remembers_69 : decode cX8_remembers 69 = .ok (.imul, 1) := by decide +kernel
theorem dX8_remembers_70 : decode cX8_remembers 70 = .ok (.iload_n 1, 1) := by decide +kernel
theorem dX8_remembers_71 : decode cX8_remembers 71 = .ok (.iadd, 1) := by decide +kernel
theorem dX8_remembers_72 : decode cX8_remembers 72 = .ok (.aload_n 0, 1) := by decide +kernel
theorem dX8_remembers_73 : decode cX8_remembers 73 = .ok (.getfield 7, 3) := by decide +kernel
theorem dX8_remembers_76 : decode cX8_remembers 76 = .ok (.iload_n 1, 1) := by decide +kernel
theorem dX8_remembers_77 : decode cX8_remembers 77 = .ok (.iaload, 1) := by decide +kernel
theorem dX8_remembers_78 : decode cX8_remembers 78 = .ok (.iastore, 1) := by decide +kernel
theorem dX8_remembers_79 : decode cX8_remembers 79 = .ok (.iinc 1 1, 3) := by decide +kernel
theorem dX8_remembers_82 : decode cX8_remembers 82 = .ok (.goto (-31), 3) := by decide +kernel
theorem dX8_remembers_85 : decode cX8_remembers 85 = .ok (.aload_n 0, 1) := by decide +kernel
theorem dX8_remembers_86 : decode cX8_remembers 86 = .ok (.dup, 1) := by decide +kernel
theorem dX8_remembers_87 : decode cX8_remembers 87 = .ok (.getfield 43, 3) := by decide +kernel
theorem dX8_remembers_90 : decode cX8_remembers 90 = .ok (.iconst 1, 1) := by decide +kernel
theorem dX8_remembers_91 : decode cX8_remembers 91 = .ok (.iadd, 1) := by decide +kernel
theorem dX8_remembers_92 : decode cX8_remembers 92 = .ok (.putfield 43, 3) := by decide +kernel
theorem dX8_remembers_95 : decode cX8_remembers 95 = .ok (.return_, 1) := by decide +kernel
theorem dX8_back_0 : decode cX8_back 0 = .ok (.aload_n 0, 1) := by decide +kernel
theorem dX8_back_1 : decode cX8_back 1 = .ok (.getfield 43, 3) := by decide +kernel
theorem dX8_back_4 : decode cX8_back 4 = .ok (.ifCond .ne 8, 3) := by decide +kernel
theorem dX8_back_7 : decode cX8_back 7 = .ok (.aload_n 0, 1) := by decide +kernel
theorem dX8_back_8 : decode cX8_back 8 = .ok (.invokevirtual 47, 3) := by decide +kernel
theorem dX8_back_11 : decode cX8_back 11 = .ok (.ireturn, 1) := by decide +kernel
theorem dX8_back_12 : decode cX8_back 12 = .ok (.aload_n 0, 1) := by decide +kernel
theorem dX8_back_13 : decode cX8_back 13 = .ok (.dup, 1) := by decide +kernel
theorem dX8_back_14 : decode cX8_back 14 = .ok (.getfield 43, 3) := by decide +kernel
theorem dX8_back_17 : decode cX8_back 17 = .ok (.iconst 1, 1) := by decide +kernel
theorem dX8_back_18 : decode cX8_back 18 = .ok (.isub, 1) := by decide +kernel
theorem dX8_back_19 : decode cX8_back 19 = .ok (.putfield 43, 3) := by decide +kernel
theorem dX8_back_22 : decode cX8_back 22 = .ok (.iconst 0, 1) := by decide +kernel
theorem dX8_back_23 : decode cX8_back 23 = .ok (.istore_n 1, 1) := by decide +kernel
theorem dX8_back_24 : decode cX8_back 24 = .ok (.iload_n 1, 1) := by decide +kernel
theorem dX8_back_25 : decode cX8_back 25 = .ok (.sipush 659, 3) := by decide +kernel
theorem dX8_back_28 : decode cX8_back 28 = .ok (.if_icmp .ge 30, 3) := by decide +kernel
theorem dX8_back_31 : decode cX8_back 31 = .ok (.aload_n 0, 1) := by decide +kernel
theorem dX8_back_32 : decode cX8_back 32 = .ok (.getfield 7, 3) := by decide +kernel
theorem dX8_back_35 : decode cX8_back 35 = .ok (.iload_n 1, 1) := by decide +kernel
theorem dX8_back_36 : decode cX8_back 36 = .ok (.aload_n 0, 1) := by decide +kernel
theorem dX8_back_37 : decode cX8_back 37 = .ok (.getfield 16, 3) := by decide +kernel
theorem dX8_back_40 : decode cX8_back 40 = .ok (.sipush 659, 3) := by decide +kernel
theorem dX8_back_43 : decode cX8_back 43 = .ok (.aload_n 0, 1) := by decide +kernel
theorem dX8_back_44 : decode cX8_back 44 = .ok (.getfield 43, 3) := by decide +kernel
theorem dX8_back_47 : decode cX8_back 47 = .ok (.imul, 1) := by decide +kernel
theorem dX8_back_48 : decode cX8_back 48 = .ok (.iload_n 1, 1) := by decide +kernel
theorem dX8_back_49 : decode cX8_back 49 = .ok (.iadd, 1) := by decide +kernel
theorem dX8_back_50 : decode cX8_back 50 = .ok (.iaload, 1) := by decide +kernel
theorem dX8_back_51 : decode cX8_back 51 = .ok (.iastore, 1) := by decide +kernel
theorem dX8_back_52 : decode cX8_back 52 = .ok (.iinc 1 1, 3) := by decide +kernel
theorem dX8_back_55 : decode cX8_back 55 = .ok (.goto (-31), 3) := by decide +kernel
theorem dX8_back_58 : decode cX8_back 58 = .ok (.aload_n 0, 1) := by decide +kernel
theorem dX8_back_59 : decode cX8_back 59 = .ok (.getfield 43, 3) := by decide +kernel
theorem dX8_back_62 : decode cX8_back 62 = .ok (.ireturn, 1) := by decide +kernel
theorem dX8_isTask_0 : decode cX8_isTask 0 = .ok (.iload_n 1, 1) := by decide +kernel
theorem dX8_isTask_1 : decode cX8_isTask 1 = .ok (.iconst 0, 1) := by decide +kernel
theorem dX8_isTask_2 : decode cX8_isTask 2 = .ok (.aload_n 0, 1) := by decide +kernel
theorem dX8_isTask_3 : decode cX8_isTask 3 = .ok (.getfield 7, 3) := by decide +kernel
theorem dX8_isTask_6 : decode cX8_isTask 6 = .ok (.bipush 9, 2) := by decide +kernel
theorem dX8_isTask_8 : decode cX8_isTask 8 = .ok (.iaload, 1) := by decide +kernel
theorem dX8_isTask_9 : decode cX8_isTask 9 = .ok (.iconst 1, 1) := by decide +kernel
theorem dX8_isTask_10 : decode cX8_isTask 10 = .ok (.isub, 1) := by decide +kernel
theorem dX8_isTask_11 : decode cX8_isTask 11 = .ok (.invokestatic 51, 3) := by decide +kernel
theorem dX8_isTask_14 : decode cX8_isTask 14 = .ok (.ireturn, 1) := by decide +kernel
theorem dX8_taskAt_0 : decode cX8_taskAt 0 = .ok (.bipush 10, 2) := by decide +kernel
theorem dX8_taskAt_2 : decode cX8_taskAt 2 = .ok (.bipush 10, 2) := by decide +kernel
theorem dX8_taskAt_4 : decode cX8_taskAt 4 = .ok (.iload_n 0, 1) := by decide +kernel
theorem dX8_taskAt_5 : decode cX8_taskAt 5 = .ok (.imul, 1) := by decide +kernel
theorem dX8_taskAt_6 : decode cX8_taskAt 6 = .ok (.iadd, 1) := by decide +kernel
theorem dX8_taskAt_7 : decode cX8_taskAt 7 = .ok (.ireturn, 1) := by decide +kernel
theorem dX8_isGroup_0 : decode cX8_isGroup 0 = .ok (.iload_n 1, 1) := by decide +kernel
theorem dX8_isGroup_1 : decode cX8_isGroup 1 = .ok (.iconst 0, 1) := by decide +kernel
theorem dX8_isGroup_2 : decode cX8_isGroup 2 = .ok (.aload_n 0, 1) := by decide +kernel
theorem dX8_isGroup_3 : decode cX8_isGroup 3 = .ok (.getfield 7, 3) := by decide +kernel
theorem dX8_isGroup_6 : decode cX8_isGroup 6 = .ok (.bipush 70, 2) := by decide +kernel
theorem dX8_isGroup_8 : decode cX8_isGroup 8 = .ok (.iaload, 1) := by decide +kernel
theorem dX8_isGroup_9 : decode cX8_isGroup 9 = .ok (.iconst 1, 1) := by decide +kernel
theorem dX8_isGroup_10 : decode cX8_isGroup 10 = .ok (.isub, 1) := by decide +kernel
theorem dX8_isGroup_11 : decode cX8_isGroup 11 = .ok (.invokestatic 51, 3) := by decide +kernel
theorem dX8_isGroup_14 : decode cX8_isGroup 14 = .ok (.ireturn, 1) := by decide +kernel
theorem dX8_groupAt_0 : decode cX8_groupAt 0 = .ok (.bipush 71, 2) := by decide +kernel
theorem dX8_groupAt_2 : decode cX8_groupAt 2 = .ok (.bipush 58, 2) := by decide +kernel
theorem dX8_groupAt_4 : decode cX8_groupAt 4 = .ok (.iload_n 0, 1) := by decide +kernel
theorem dX8_groupAt_5 : decode cX8_groupAt 5 = .ok (.imul, 1) := by decide +kernel
theorem dX8_groupAt_6 : decode cX8_groupAt 6 = .ok (.iadd, 1) := by decide +kernel
theorem dX8_groupAt_7 : decode cX8_groupAt 7 = .ok (.ireturn, 1) := by decide +kernel
theorem dX8_ofGroup_0 : decode cX8_ofGroup 0 = .ok (.aload_n 0, 1) := by decide +kernel
theorem dX8_ofGroup_1 : decode cX8_ofGroup 1 = .ok (.getfield 7, 3) := by decide +kernel
theorem dX8_ofGroup_4 : decode cX8_ofGroup 4 = .ok (.iload_n 1, 1) := by decide +kernel
theorem dX8_ofGroup_5 : decode cX8_ofGroup 5 = .ok (.invokestatic 55, 3) := by decide +kernel
theorem dX8_ofGroup_8 : decode cX8_ofGroup 8 = .ok (.iload_n 2, 1) := by decide +kernel
theorem dX8_ofGroup_9 : decode cX8_ofGroup 9 = .ok (.iadd, 1) := by decide +kernel
theorem dX8_ofGroup_10 : decode cX8_ofGroup 10 = .ok (.iaload, 1) := by decide +kernel
theorem dX8_ofGroup_11 : decode cX8_ofGroup 11 = .ok (.ireturn, 1) := by decide +kernel
theorem dX8_isEvent_0 : decode cX8_isEvent 0 = .ok (.aload_n 0, 1) := by decide +kernel
theorem dX8_isEvent_1 : decode cX8_isEvent 1 = .ok (.iload_n 1, 1) := by decide +kernel
theorem dX8_isEvent_2 : decode cX8_isEvent 2 = .ok (.invokevirtual 59, 3) := by decide +kernel
theorem dX8_isEvent_5 : decode cX8_isEvent 5 = .ok (.ifCond .eq 23, 3) := by decide +kernel
theorem dX8_isEvent_8 : decode cX8_isEvent 8 = .ok (.iload_n 2, 1) := by decide +kernel
theorem dX8_isEvent_9 : decode cX8_isEvent 9 = .ok (.iconst 0, 1) := by decide +kernel
theorem dX8_isEvent_10 : decode cX8_isEvent 10 = .ok (.aload_n 0, 1) := by decide +kernel
theorem dX8_isEvent_11 : decode cX8_isEvent 11 = .ok (.iload_n 1, 1) := by decide +kernel
theorem dX8_isEvent_12 : decode cX8_isEvent 12 = .ok (.iconst 5, 1) := by decide +kernel
theorem dX8_isEvent_13 : decode cX8_isEvent 13 = .ok (.invokevirtual 63, 3) := by decide +kernel
theorem dX8_isEvent_16 : decode cX8_isEvent 16 = .ok (.iconst 1, 1) := by decide +kernel
theorem dX8_isEvent_17 : decode cX8_isEvent 17 = .ok (.isub, 1) := by decide +kernel
theorem dX8_isEvent_18 : decode cX8_isEvent 18 = .ok (.invokestatic 51, 3) := by decide +kernel
theorem dX8_isEvent_21 : decode cX8_isEvent 21 = .ok (.ifCond .eq 7, 3) := by decide +kernel
theorem dX8_isEvent_24 : decode cX8_isEvent 24 = .ok (.iconst 1, 1) := by decide +kernel
theorem dX8_isEvent_25 : decode cX8_isEvent 25 = .ok (.goto 4, 3) := by decide +kernel
theorem dX8_isEvent_28 : decode cX8_isEvent 28 = .ok (.iconst 0, 1) := by decide +kernel
theorem dX8_isEvent_29 : decode cX8_isEvent 29 = .ok (.ireturn, 1) := by decide +kernel
theorem dX8_eventAt_0 : decode cX8_eventAt 0 = .ok (.iload_n 0, 1) := by decide +kernel
theorem dX8_eventAt_1 : decode cX8_eventAt 1 = .ok (.invokestatic 55, 3) := by decide +kernel
theorem dX8_eventAt_4 : decode cX8_eventAt 4 = .ok (.bipush 10, 2) := by decide +kernel
theorem dX8_eventAt_6 : decode cX8_eventAt 6 = .ok (.iadd, 1) := by decide +kernel
theorem dX8_eventAt_7 : decode cX8_eventAt 7 = .ok (.iconst 3, 1) := by decide +kernel
theorem dX8_eventAt_8 : decode cX8_eventAt 8 = .ok (.iload_n 1, 1) := by decide +kernel
theorem dX8_eventAt_9 : decode cX8_eventAt 9 = .ok (.imul, 1) := by decide +kernel
theorem dX8_eventAt_10 : decode cX8_eventAt 10 = .ok (.iadd, 1) := by decide +kernel
theorem dX8_eventAt_11 : decode cX8_eventAt 11 = .ok (.ireturn, 1) := by decide +kernel
theorem dX8_countAt_0 : decode cX8_countAt 0 = .ok (.iload_n 0, 1) := by decide +kernel
theorem dX8_countAt_1 : decode cX8_countAt 1 = .ok (.invokestatic 55, 3) := by decide +kernel
theorem dX8_countAt_4 : decode cX8_countAt 4 = .ok (.bipush 22, 2) := by decide +kernel
theorem dX8_countAt_6 : decode cX8_countAt 6 = .ok (.iadd, 1) := by decide +kernel
theorem dX8_countAt_7 : decode cX8_countAt 7 = .ok (.bipush 6, 2) := by decide +kernel
theorem dX8_countAt_9 : decode cX8_countAt 9 = .ok (.iload_n 1, 1) := by decide +kernel
theorem dX8_countAt_10 : decode cX8_countAt 10 = .ok (.imul, 1) := by decide +kernel
theorem dX8_countAt_11 : decode cX8_countAt 11 = .ok (.iadd, 1) := by decide +kernel
theorem dX8_countAt_12 : decode cX8_countAt 12 = .ok (.iload_n 2, 1) := by decide +kernel
theorem dX8_countAt_13 : decode cX8_countAt 13 = .ok (.iadd, 1) := by decide +kernel
theorem dX8_countAt_14 : decode cX8_countAt 14 = .ok (.ireturn, 1) := by decide +kernel
theorem dX8_isKind_0 : decode cX8_isKind 0 = .ok (.iload_n 0, 1) := by decide +kernel
theorem dX8_isKind_1 : decode cX8_isKind 1 = .ok (.iconst 0, 1) := by decide +kernel
theorem dX8_isKind_2 : decode cX8_isKind 2 = .ok (.bipush 7, 2) := by decide +kernel
theorem dX8_isKind_4 : decode cX8_isKind 4 = .ok (.invokestatic 51, 3) := by decide +kernel
theorem dX8_isKind_7 : decode cX8_isKind 7 = .ok (.ireturn, 1) := by decide +kernel
theorem dX8_rateOf_0 : decode cX8_rateOf 0 = .ok (.aload_n 0, 1) := by decide +kernel
theorem dX8_rateOf_1 : decode cX8_rateOf 1 = .ok (.getfield 7, 3) := by decide +kernel
theorem dX8_rateOf_4 : decode cX8_rateOf 4 = .ok (.iload_n 1, 1) := by decide +kernel
theorem dX8_rateOf_5 : decode cX8_rateOf 5 = .ok (.invokestatic 67, 3) := by decide +kernel
theorem dX8_rateOf_8 : decode cX8_rateOf 8 = .ok (.iconst 2, 1) := by decide +kernel
theorem dX8_rateOf_9 : decode cX8_rateOf 9 = .ok (.iadd, 1) := by decide +kernel
theorem dX8_rateOf_10 : decode cX8_rateOf 10 = .ok (.iload_n 2, 1) := by decide +kernel
theorem dX8_rateOf_11 : decode cX8_rateOf 11 = .ok (.iadd, 1) := by decide +kernel
theorem dX8_rateOf_12 : decode cX8_rateOf 12 = .ok (.iaload, 1) := by decide +kernel
theorem dX8_rateOf_13 : decode cX8_rateOf 13 = .ok (.ireturn, 1) := by decide +kernel
theorem dX8_exchanges_0 : decode cX8_exchanges 0 = .ok (.aload_n 0, 1) := by decide +kernel
theorem dX8_exchanges_1 : decode cX8_exchanges 1 = .ok (.getfield 7, 3) := by decide +kernel
theorem dX8_exchanges_4 : decode cX8_exchanges 4 = .ok (.iload_n 1, 1) := by decide +kernel
theorem dX8_exchanges_5 : decode cX8_exchanges 5 = .ok (.iaload, 1) := by decide +kernel
theorem dX8_exchanges_6 : decode cX8_exchanges 6 = .ok (.istore_n 3, 1) := by decide +kernel
theorem dX8_exchanges_7 : decode cX8_exchanges 7 = .ok (.aload_n 0, 1) := by decide +kernel
theorem dX8_exchanges_8 : decode cX8_exchanges 8 = .ok (.getfield 7, 3) := by decide +kernel
theorem dX8_exchanges_11 : decode cX8_exchanges 11 = .ok (.iload_n 1, 1) := by decide +kernel
theorem dX8_exchanges_12 : decode cX8_exchanges 12 = .ok (.iload_n 2, 1) := by decide +kernel
theorem dX8_exchanges_13 : decode cX8_exchanges 13 = .ok (.iastore, 1) := by decide +kernel
theorem dX8_exchanges_14 : decode cX8_exchanges 14 = .ok (.iload_n 3, 1) := by decide +kernel
theorem dX8_exchanges_15 : decode cX8_exchanges 15 = .ok (.ireturn, 1) := by decide +kernel
theorem dX8_counters_0 : decode cX8_counters 0 = .ok (.iload_n 1, 1) := by decide +kernel
theorem dX8_counters_1 : decode cX8_counters 1 = .ok (.iconst 1, 1) := by decide +kernel
theorem dX8_counters_2 : decode cX8_counters 2 = .ok (.iconst 4, 1) := by decide +kernel
theorem dX8_counters_3 : decode cX8_counters 3 = .ok (.invokestatic 51, 3) := by decide +kernel
theorem dX8_counters_6 : decode cX8_counters 6 = .ok (.ifCond .ne 8, 3) := by decide +kernel
theorem dX8_counters_9 : decode cX8_counters 9 = .ok (.aload_n 0, 1) := by decide +kernel
theorem dX8_counters_10 : decode cX8_counters 10 = .ok (.invokevirtual 70, 3) := by decide +kernel
theorem dX8_counters_13 : decode cX8_counters 13 = .ok (.ireturn, 1) := by decide +kernel
theorem dX8_counters_14 : decode cX8_counters 14 = .ok (.aload_n 0, 1) := by decide +kernel
theorem dX8_counters_15 : decode cX8_counters 15 = .ok (.invokevirtual 73, 3) := by decide +kernel
theorem dX8_counters_18 : decode cX8_counters 18 = .ok (.aload_n 0, 1) := by decide +kernel
theorem dX8_counters_19 : decode cX8_counters 19 = .ok (.iconst 0, 1) := by decide +kernel
theorem dX8_counters_20 : decode cX8_counters 20 = .ok (.iload_n 1, 1) := by decide +kernel
theorem dX8_counters_21 : decode cX8_counters 21 = .ok (.invokevirtual 76, 3) := by decide +kernel
theorem dX8_counters_24 : decode cX8_counters 24 = .ok (.ireturn, 1) := by decide +kernel
theorem dX8_canMask_0 : decode cX8_canMask 0 = .ok (.iload_n 0, 1) := by decide +kernel
theorem dX8_canMask_1 : decode cX8_canMask 1 = .ok (.invokestatic 79, 3) := by decide +kernel
theorem dX8_canMask_4 : decode cX8_canMask 4 = .ok (.ifCond .eq 17, 3) := by decide +kernel
theorem dX8_canMask_7 : decode cX8_canMask 7 = .ok (.iload_n 1, 1) := by decide +kernel
theorem dX8_canMask_8 : decode cX8_canMask 8 = .ok (.iconst 0, 1) := by decide +kernel
theorem dX8_canMask_9 : decode cX8_canMask 9 = .ok (.bipush 15, 2) := by decide +kernel
theorem dX8_canMask_11 : decode cX8_canMask 11 = .ok (.invokestatic 51, 3) := by decide +kernel
theorem dX8_canMask_14 : decode cX8_canMask 14 = .ok (.ifCond .eq 7, 3) := by decide +kernel
theorem dX8_canMask_17 : decode cX8_canMask 17 = .ok (.iconst 1, 1) := by decide +kernel
theorem dX8_canMask_18 : decode cX8_canMask 18 = .ok (.goto 4, 3) := by decide +kernel
theorem dX8_canMask_21 : decode cX8_canMask 21 = .ok (.iconst 0, 1) := by decide +kernel
theorem dX8_canMask_22 : decode cX8_canMask 22 = .ok (.ireturn, 1) := by decide +kernel
theorem dX8_masks_0 : decode cX8_masks 0 = .ok (.iload_n 1, 1) := by decide +kernel
theorem dX8_masks_1 : decode cX8_masks 1 = .ok (.iload_n 2, 1) := by decide +kernel
theorem dX8_masks_2 : decode cX8_masks 2 = .ok (.invokestatic 82, 3) := by decide +kernel
theorem dX8_masks_5 : decode cX8_masks 5 = .ok (.ifCond .ne 8, 3) := by decide +kernel
theorem dX8_masks_8 : decode cX8_masks 8 = .ok (.aload_n 0, 1) := by decide +kernel
theorem dX8_masks_9 : decode cX8_masks 9 = .ok (.invokevirtual 70, 3) := by decide +kernel
theorem dX8_masks_12 : decode cX8_masks 12 = .ok (.ireturn, 1) := by decide +kernel
theorem dX8_masks_13 : decode cX8_masks 13 = .ok (.aload_n 0, 1) := by decide +kernel
theorem dX8_masks_14 : decode cX8_masks 14 = .ok (.invokevirtual 73, 3) := by decide +kernel
theorem dX8_masks_17 : decode cX8_masks 17 = .ok (.aload_n 0, 1) := by decide +kernel
theorem dX8_masks_18 : decode cX8_masks 18 = .ok (.iconst 1, 1) := by decide +kernel
theorem dX8_masks_19 : decode cX8_masks 19 = .ok (.iload_n 1, 1) := by decide +kernel
theorem dX8_masks_20 : decode cX8_masks 20 = .ok (.iadd, 1) := by decide +kernel
theorem dX8_masks_21 : decode cX8_masks 21 = .ok (.iload_n 2, 1) := by decide +kernel
theorem dX8_masks_22 : decode cX8_masks 22 = .ok (.invokevirtual 76, 3) := by decide +kernel
theorem dX8_masks_25 : decode cX8_masks 25 = .ok (.ireturn, 1) := by decide +kernel
theorem dX8_canRate_0 : decode cX8_canRate 0 = .ok (.aload_n 0, 1) := by decide +kernel
theorem dX8_canRate_1 : decode cX8_canRate 1 = .ok (.iload_n 1, 1) := by decide +kernel
theorem dX8_canRate_2 : decode cX8_canRate 2 = .ok (.invokevirtual 86, 3) := by decide +kernel
theorem dX8_canRate_5 : decode cX8_canRate 5 = .ok (.ifCond .eq 24, 3) := by decide +kernel
theorem dX8_canRate_8 : decode cX8_canRate 8 = .ok (.iload_n 2, 1) := by decide +kernel
theorem dX8_canRate_9 : decode cX8_canRate 9 = .ok (.invokestatic 79, 3) := by decide +kernel
theorem dX8_canRate_12 : decode cX8_canRate 12 = .ok (.ifCond .eq 17, 3) := by decide +kernel
theorem dX8_canRate_15 : decode cX8_canRate 15 = .ok (.iload_n 3, 1) := by decide +kernel
theorem dX8_canRate_16 : decode cX8_canRate 16 = .ok (.iconst 0, 1) := by decide +kernel
theorem dX8_canRate_17 : decode cX8_canRate 17 = .ok (.bipush 99, 2) := by decide +kernel
theorem dX8_canRate_19 : decode cX8_canRate 19 = .ok (.invokestatic 51, 3) := by decide +kernel
theorem dX8_canRate_22 : decode cX8_canRate 22 = .ok (.ifCond .eq 7, 3) := by decide +kernel
theorem dX8_canRate_25 : decode cX8_canRate 25 = .ok (.iconst 1, 1) := by decide +kernel
theorem dX8_canRate_26 : decode cX8_canRate 26 = .ok (.goto 4, 3) := by decide +kernel
theorem dX8_canRate_29 : decode cX8_canRate 29 = .ok (.iconst 0, 1) := by decide +kernel
theorem dX8_canRate_30 : decode cX8_canRate 30 = .ok (.ireturn, 1) := by decide +kernel
theorem dX8_rates_0 : decode cX8_rates 0 = .ok (.aload_n 0, 1) := by decide +kernel
theorem dX8_rates_1 : decode cX8_rates 1 = .ok (.iload_n 1, 1) := by decide +kernel
theorem dX8_rates_2 : decode cX8_rates 2 = .ok (.iload_n 2, 1) := by decide +kernel
theorem dX8_rates_3 : decode cX8_rates 3 = .ok (.iload_n 3, 1) := by decide +kernel
theorem dX8_rates_4 : decode cX8_rates 4 = .ok (.invokevirtual 89, 3) := by decide +kernel
theorem dX8_rates_7 : decode cX8_rates 7 = .ok (.ifCond .ne 8, 3) := by decide +kernel
theorem dX8_rates_10 : decode cX8_rates 10 = .ok (.aload_n 0, 1) := by decide +kernel
theorem dX8_rates_11 : decode cX8_rates 11 = .ok (.invokevirtual 70, 3) := by decide +kernel
theorem dX8_rates_14 : decode cX8_rates 14 = .ok (.ireturn, 1) := by decide +kernel
theorem dX8_rates_15 : decode cX8_rates 15 = .ok (.aload_n 0, 1) := by decide +kernel
theorem dX8_rates_16 : decode cX8_rates 16 = .ok (.invokevirtual 73, 3) := by decide +kernel
theorem dX8_rates_19 : decode cX8_rates 19 = .ok (.aload_n 0, 1) := by decide +kernel
theorem dX8_rates_20 : decode cX8_rates 20 = .ok (.iload_n 1, 1) := by decide +kernel
theorem dX8_rates_21 : decode cX8_rates 21 = .ok (.invokestatic 67, 3) := by decide +kernel
theorem dX8_rates_24 : decode cX8_rates 24 = .ok (.iconst 2, 1) := by decide +kernel
theorem dX8_rates_25 : decode cX8_rates 25 = .ok (.iadd, 1) := by decide +kernel
theorem dX8_rates_26 : decode cX8_rates 26 = .ok (.iload_n 2, 1) := by decide +kernel
theorem dX8_rates_27 : decode cX8_rates 27 = .ok (.iadd, 1) := by decide +kernel
theorem dX8_rates_28 : decode cX8_rates 28 = .ok (.iload_n 3, 1) := by decide +kernel
theorem dX8_rates_29 : decode cX8_rates 29 = .ok (.invokevirtual 76, 3) := by decide +kernel
theorem dX8_rates_32 : decode cX8_rates 32 = .ok (.ireturn, 1) := by decide +kernel
theorem dX8_hasEnded_0 : decode cX8_hasEnded 0 = .ok (.aload_n 0, 1) := by decide +kernel
theorem dX8_hasEnded_1 : decode cX8_hasEnded 1 = .ok (.getfield 7, 3) := by decide +kernel
theorem dX8_hasEnded_4 : decode cX8_hasEnded 4 = .ok (.iload_n 1, 1) := by decide +kernel
theorem dX8_hasEnded_5 : decode cX8_hasEnded 5 = .ok (.invokestatic 67, 3) := by decide +kernel
theorem dX8_hasEnded_8 : decode cX8_hasEnded 8 = .ok (.iconst 1, 1) := by decide +kernel
theorem dX8_hasEnded_9 : decode cX8_hasEnded 9 = .ok (.iadd, 1) := by decide +kernel
theorem dX8_hasEnded_10 : decode cX8_hasEnded 10 = .ok (.iaload, 1) := by decide +kernel
theorem dX8_hasEnded_11 : decode cX8_hasEnded 11 = .ok (.iconst 1, 1) := by decide +kernel
theorem dX8_hasEnded_12 : decode cX8_hasEnded 12 = .ok (.if_icmp .ne 7, 3) := by decide +kernel
theorem dX8_hasEnded_15 : decode cX8_hasEnded 15 = .ok (.iconst 1, 1) := by decide +kernel
theorem dX8_hasEnded_16 : decode cX8_hasEnded 16 = .ok (.goto 4, 3) := by decide +kernel
theorem dX8_hasEnded_19 : decode cX8_hasEnded 19 = .ok (.iconst 0, 1) := by decide +kernel
theorem dX8_hasEnded_20 : decode cX8_hasEnded 20 = .ok (.ireturn, 1) := by decide +kernel
theorem dX8_comesOf_0 : decode cX8_comesOf 0 = .ok (.aload_n 0, 1) := by decide +kernel
theorem dX8_comesOf_1 : decode cX8_comesOf 1 = .ok (.getfield 7, 3) := by decide +kernel
theorem dX8_comesOf_4 : decode cX8_comesOf 4 = .ok (.bipush 9, 2) := by decide +kernel
theorem dX8_comesOf_6 : decode cX8_comesOf 6 = .ok (.iaload, 1) := by decide +kernel
theorem dX8_comesOf_7 : decode cX8_comesOf 7 = .ok (.invokestatic 67, 3) := by decide +kernel
theorem dX8_comesOf_10 : decode cX8_comesOf 10 = .ok (.istore_n 2, 1) := by decide +kernel
theorem dX8_comesOf_11 : decode cX8_comesOf 11 = .ok (.aload_n 0, 1) := by decide +kernel
theorem dX8_comesOf_12 : decode cX8_comesOf 12 = .ok (.getfield 7, 3) := by decide +kernel
theorem dX8_comesOf_15 : decode cX8_comesOf 15 = .ok (.iload_n 2, 1) := by decide +kernel
theorem dX8_comesOf_16 : decode cX8_comesOf 16 = .ok (.iload_n 1, 1) := by decide +kernel
theorem dX8_comesOf_17 : decode cX8_comesOf 17 = .ok (.iastore, 1) := by decide +kernel
theorem dX8_comesOf_18 : decode cX8_comesOf 18 = .ok (.aload_n 0, 1) := by decide +kernel
theorem dX8_comesOf_19 : decode cX8_comesOf 19 = .ok (.getfield 7, 3) := by decide +kernel
theorem dX8_comesOf_22 : decode cX8_comesOf 22 = .ok (.iload_n 2, 1) := by decide +kernel
theorem dX8_comesOf_23 : decode cX8_comesOf 23 = .ok (.iconst 1, 1) := by decide +kernel
theorem dX8_comesOf_24 : decode cX8_comesOf 24 = .ok (.iadd, 1) := by decide +kernel
theorem dX8_comesOf_25 : decode cX8_comesOf 25 = .ok (.iconst 0, 1) := by decide +kernel
theorem dX8_comesOf_26 : decode cX8_comesOf 26 = .ok (.iastore, 1) := by decide +kernel
theorem dX8_comesOf_27 : decode cX8_comesOf 27 = .ok (.iconst 0, 1) := by decide +kernel
theorem dX8_comesOf_28 : decode cX8_comesOf 28 = .ok (.istore_n 3, 1) := by decide +kernel
theorem dX8_comesOf_29 : decode cX8_comesOf 29 = .ok (.iload_n 3, 1) := by decide +kernel
theorem dX8_comesOf_30 : decode cX8_comesOf 30 = .ok (.bipush 8, 2) := by decide +kernel
theorem dX8_comesOf_32 : decode cX8_comesOf 32 = .ok (.if_icmp .ge 25, 3) := by decide +kernel
theorem dX8_comesOf_35 : decode cX8_comesOf 35 = .ok (.aload_n 0, 1) := by decide +kernel
theorem dX8_comesOf_36 : decode cX8_comesOf 36 = .ok (.getfield 7, 3) := by decide +kernel
theorem dX8_comesOf_39 : decode cX8_comesOf 39 = .ok (.iload_n 2, 1) := by decide +kernel
theorem dX8_comesOf_40 : decode cX8_comesOf 40 = .ok (.iconst 2, 1) := by decide +kernel
theorem dX8_comesOf_41 : decode cX8_comesOf 41 = .ok (.iadd, 1) := by decide +kernel
theorem dX8_comesOf_42 : decode cX8_comesOf 42 = .ok (.iload_n 3, 1) := by decide +kernel
theorem dX8_comesOf_43 : decode cX8_comesOf 43 = .ok (.iadd, 1) := by decide +kernel
theorem dX8_comesOf_44 : decode cX8_comesOf 44 = .ok (.aload_n 0, 1) := by decide +kernel
theorem dX8_comesOf_45 : decode cX8_comesOf 45 = .ok (.iload_n 1, 1) := by decide +kernel
theorem dX8_comesOf_46 : decode cX8_comesOf 46 = .ok (.iload_n 3, 1) := by decide +kernel
theorem dX8_comesOf_47 : decode cX8_comesOf 47 = .ok (.invokevirtual 92, 3) := by decide +kernel
theorem dX8_comesOf_50 : decode cX8_comesOf 50 = .ok (.iastore, 1) := by decide +kernel
theorem dX8_comesOf_51 : decode cX8_comesOf 51 = .ok (.iinc 3 1, 3) := by decide +kernel
theorem dX8_comesOf_54 : decode cX8_comesOf 54 = .ok (.goto (-25), 3) := by decide +kernel
theorem dX8_comesOf_57 : decode cX8_comesOf 57 = .ok (.aload_n 0, 1) := by decide +kernel
theorem dX8_comesOf_58 : decode cX8_comesOf 58 = .ok (.getfield 7, 3) := by decide +kernel
theorem dX8_comesOf_61 : decode cX8_comesOf 61 = .ok (.bipush 9, 2) := by decide +kernel
theorem dX8_comesOf_63 : decode cX8_comesOf 63 = .ok (.dup2, 1) := by decide +kernel
theorem dX8_comesOf_64 : decode cX8_comesOf 64 = .ok (.iaload, 1) := by decide +kernel
theorem dX8_comesOf_65 : decode cX8_comesOf 65 = .ok (.iconst 1, 1) := by decide +kernel
theorem dX8_comesOf_66 : decode cX8_comesOf 66 = .ok (.iadd, 1) := by decide +kernel
theorem dX8_comesOf_67 : decode cX8_comesOf 67 = .ok (.iastore, 1) := by decide +kernel
theorem dX8_comesOf_68 : decode cX8_comesOf 68 = .ok (.aload_n 0, 1) := by decide +kernel
theorem dX8_comesOf_69 : decode cX8_comesOf 69 = .ok (.getfield 7, 3) := by decide +kernel
theorem dX8_comesOf_72 : decode cX8_comesOf 72 = .ok (.bipush 9, 2) := by decide +kernel
theorem dX8_comesOf_74 : decode cX8_comesOf 74 = .ok (.iaload, 1) := by decide +kernel
theorem dX8_comesOf_75 : decode cX8_comesOf 75 = .ok (.iconst 1, 1) := by decide +kernel
theorem dX8_comesOf_76 : decode cX8_comesOf 76 = .ok (.isub, 1) := by decide +kernel
theorem dX8_comesOf_77 : decode cX8_comesOf 77 = .ok (.ireturn, 1) := by decide +kernel
theorem dX8_forks_0 : decode cX8_forks 0 = .ok (.aload_n 0, 1) := by decide +kernel
theorem dX8_forks_1 : decode cX8_forks 1 = .ok (.iload_n 1, 1) := by decide +kernel
theorem dX8_forks_2 : decode cX8_forks 2 = .ok (.invokevirtual 86, 3) := by decide +kernel
theorem dX8_forks_5 : decode cX8_forks 5 = .ok (.ifCond .ne 8, 3) := by decide +kernel
theorem dX8_forks_8 : decode cX8_forks 8 = .ok (.aload_n 0, 1) := by decide +kernel
theorem dX8_forks_9 : decode cX8_forks 9 = .ok (.invokevirtual 70, 3) := by decide +kernel
theorem dX8_forks_12 : decode cX8_forks 12 = .ok (.ireturn, 1) := by decide +kernel
theorem dX8_forks_13 : decode cX8_forks 13 = .ok (.aload_n 0, 1) := by decide +kernel
theorem dX8_forks_14 : decode cX8_forks 14 = .ok (.iload_n 1, 1) := by decide +kernel
theorem dX8_forks_15 : decode cX8_forks 15 = .ok (.invokevirtual 95, 3) := by decide +kernel
theorem dX8_forks_18 : decode cX8_forks 18 = .ok (.ifCond .eq 8, 3) := by decide +kernel
theorem dX8_forks_21 : decode cX8_forks 21 = .ok (.aload_n 0, 1) := by decide +kernel
theorem dX8_forks_22 : decode cX8_forks 22 = .ok (.invokevirtual 47, 3) := by decide +kernel
theorem dX8_forks_25 : decode cX8_forks 25 = .ok (.ireturn, 1) := by decide +kernel
theorem dX8_forks_26 : decode cX8_forks 26 = .ok (.aload_n 0, 1) := by decide +kernel
theorem dX8_forks_27 : decode cX8_forks 27 = .ok (.getfield 7, 3) := by decide +kernel
theorem dX8_forks_30 : decode cX8_forks 30 = .ok (.bipush 9, 2) := by decide +kernel
theorem dX8_forks_32 : decode cX8_forks 32 = .ok (.iaload, 1) := by decide +kernel
theorem dX8_forks_33 : decode cX8_forks 33 = .ok (.bipush 6, 2) := by decide +kernel
theorem dX8_forks_35 : decode cX8_forks 35 = .ok (.if_icmp .ne 8, 3) := by decide +kernel
theorem dX8_forks_38 : decode cX8_forks 38 = .ok (.aload_n 0, 1) := by decide +kernel
theorem dX8_forks_39 : decode cX8_forks 39 = .ok (.invokevirtual 98, 3) := by decide +kernel
theorem dX8_forks_42 : decode cX8_forks 42 = .ok (.ireturn, 1) := by decide +kernel
theorem dX8_forks_43 : decode cX8_forks 43 = .ok (.aload_n 0, 1) := by decide +kernel
theorem dX8_forks_44 : decode cX8_forks 44 = .ok (.invokevirtual 73, 3) := by decide +kernel
theorem dX8_forks_47 : decode cX8_forks 47 = .ok (.aload_n 0, 1) := by decide +kernel
theorem dX8_forks_48 : decode cX8_forks 48 = .ok (.iload_n 1, 1) := by decide +kernel
theorem dX8_forks_49 : decode cX8_forks 49 = .ok (.invokevirtual 101, 3) := by decide +kernel
theorem dX8_forks_52 : decode cX8_forks 52 = .ok (.ireturn, 1) := by decide +kernel
theorem dX8_canEnd_0 : decode cX8_canEnd 0 = .ok (.aload_n 0, 1) := by decide +kernel
theorem dX8_canEnd_1 : decode cX8_canEnd 1 = .ok (.iload_n 1, 1) := by decide +kernel
theorem dX8_canEnd_2 : decode cX8_canEnd 2 = .ok (.invokevirtual 95, 3) := by decide +kernel
theorem dX8_canEnd_5 : decode cX8_canEnd 5 = .ok (.ifCond .ne 7, 3) := by decide +kernel
theorem dX8_canEnd_8 : decode cX8_canEnd 8 = .ok (.iconst 1, 1) := by decide +kernel
theorem dX8_canEnd_9 : decode cX8_canEnd 9 = .ok (.goto 4, 3) := by decide +kernel
theorem dX8_canEnd_12 : decode cX8_canEnd 12 = .ok (.iconst 0, 1) := by decide +kernel
theorem dX8_canEnd_13 : decode cX8_canEnd 13 = .ok (.istore_n 2, 1) := by decide +kernel
theorem dX8_canEnd_14 : decode cX8_canEnd 14 = .ok (.iconst 1, 1) := by decide +kernel
theorem dX8_canEnd_15 : decode cX8_canEnd 15 = .ok (.istore_n 3, 1) := by decide +kernel
theorem dX8_canEnd_16 : decode cX8_canEnd 16 = .ok (.iload_n 3, 1) := by decide +kernel
theorem dX8_canEnd_17 : decode cX8_canEnd 17 = .ok (.aload_n 0, 1) := by decide +kernel
theorem dX8_canEnd_18 : decode cX8_canEnd 18 = .ok (.getfield 7, 3) := by decide +kernel
theorem dX8_canEnd_21 : decode cX8_canEnd 21 = .ok (.bipush 9, 2) := by decide +kernel
theorem dX8_canEnd_23 : decode cX8_canEnd 23 = .ok (.iaload, 1) := by decide +kernel
theorem dX8_canEnd_24 : decode cX8_canEnd 24 = .ok (.if_icmp .ge 40, 3) := by decide +kernel
theorem dX8_canEnd_27 : decode cX8_canEnd 27 = .ok (.iload_n 2, 1) := by decide +kernel
theorem dX8_canEnd_28 : decode cX8_canEnd 28 = .ok (.ifCond .eq 28, 3) := by decide +kernel
theorem dX8_canEnd_31 : decode cX8_canEnd 31 = .ok (.aload_n 0, 1) := by decide +kernel
theorem dX8_canEnd_32 : decode cX8_canEnd 32 = .ok (.getfield 7, 3) := by decide +kernel
theorem dX8_canEnd_35 : decode cX8_canEnd 35 = .ok (.iload_n 3, 1) := by decide +kernel
theorem dX8_canEnd_36 : decode cX8_canEnd 36 = .ok (.invokestatic 67, 3) := by decide +kernel
theorem dX8_canEnd_39 : decode cX8_canEnd 39 = .ok (.iaload, 1) := by decide +kernel
theorem dX8_canEnd_40 : decode cX8_canEnd 40 = .ok (.iload_n 1, 1) := by decide +kernel
theorem dX8_canEnd_41 : decode cX8_canEnd 41 = .ok (.if_icmp .ne 11, 3) := by decide +kernel
theorem dX8_canEnd_44 : decode cX8_canEnd 44 = .ok (.aload_n 0, 1) := by decide +kernel
theorem dX8_canEnd_45 : decode cX8_canEnd 45 = .ok (.iload_n 3, 1) := by decide +kernel
theorem dX8_canEnd_46 : decode cX8_canEnd 46 = .ok (.invokevirtual 95, 3) := by decide +kernel
theorem dX8_canEnd_49 : decode cX8_canEnd 49 = .ok (.ifCond .eq 7, 3) := by decide +kernel
theorem dX8_canEnd_52 : decode cX8_canEnd 52 = .ok (.iconst 1, 1) := by decide +kernel
theorem dX8_canEnd_53 : decode cX8_canEnd 53 = .ok (.goto 4, 3) := by decide +kernel
theorem dX8_canEnd_56 : decode cX8_canEnd 56 = .ok (.iconst 0, 1) := by decide +kernel
theorem dX8_canEnd_57 : decode cX8_canEnd 57 = .ok (.istore_n 2, 1) := by decide +kernel
theorem dX8_canEnd_58 : decode cX8_canEnd 58 = .ok (.iinc 3 1, 3) := by decide +kernel
theorem dX8_canEnd_61 : decode cX8_canEnd 61 = .ok (.goto (-45), 3) := by decide +kernel
theorem dX8_canEnd_64 : decode cX8_canEnd 64 = .ok (.iload_n 2, 1) := by decide +kernel
theorem dX8_canEnd_65 : decode cX8_canEnd 65 = .ok (.ireturn, 1) := by decide +kernel
theorem dX8_moves_0 : decode cX8_moves 0 = .ok (.aload_n 0, 1) := by decide +kernel
theorem dX8_moves_1 : decode cX8_moves 1 = .ok (.getfield 7, 3) := by decide +kernel
theorem dX8_moves_4 : decode cX8_moves 4 = .ok (.iload_n 2, 1) := by decide +kernel
theorem dX8_moves_5 : decode cX8_moves 5 = .ok (.dup2, 1) := by decide +kernel
theorem dX8_moves_6 : decode cX8_moves 6 = .ok (.iaload, 1) := by decide +kernel
theorem dX8_moves_7 : decode cX8_moves 7 = .ok (.aload_n 0, 1) := by decide +kernel
theorem dX8_moves_8 : decode cX8_moves 8 = .ok (.getfield 7, 3) := by decide +kernel
theorem dX8_moves_11 : decode cX8_moves 11 = .ok (.iload_n 1, 1) := by decide +kernel
theorem dX8_moves_12 : decode cX8_moves 12 = .ok (.iaload, 1) := by decide +kernel
theorem dX8_moves_13 : decode cX8_moves 13 = .ok (.iadd, 1) := by decide +kernel
theorem dX8_moves_14 : decode cX8_moves 14 = .ok (.iastore, 1) := by decide +kernel
theorem dX8_moves_15 : decode cX8_moves 15 = .ok (.aload_n 0, 1) := by decide +kernel
theorem dX8_moves_16 : decode cX8_moves 16 = .ok (.getfield 7, 3) := by decide +kernel
theorem dX8_moves_19 : decode cX8_moves 19 = .ok (.iload_n 1, 1) := by decide +kernel
theorem dX8_moves_20 : decode cX8_moves 20 = .ok (.iconst 0, 1) := by decide +kernel
theorem dX8_moves_21 : decode cX8_moves 21 = .ok (.iastore, 1) := by decide +kernel
theorem dX8_moves_22 : decode cX8_moves 22 = .ok (.return_, 1) := by decide +kernel
theorem dX8_exits_0 : decode cX8_exits 0 = .ok (.aload_n 0, 1) := by decide +kernel
theorem dX8_exits_1 : decode cX8_exits 1 = .ok (.iload_n 1, 1) := by decide +kernel
theorem dX8_exits_2 : decode cX8_exits 2 = .ok (.invokevirtual 86, 3) := by decide +kernel
theorem dX8_exits_5 : decode cX8_exits 5 = .ok (.ifCond .eq 7, 3) := by decide +kernel
theorem dX8_exits_8 : decode cX8_exits 8 = .ok (.iload_n 1, 1) := by decide +kernel
theorem dX8_exits_9 : decode cX8_exits 9 = .ok (.ifCond .ne 8, 3) := by decide +kernel
theorem dX8_exits_12 : decode cX8_exits 12 = .ok (.aload_n 0, 1) := by decide +kernel
theorem dX8_exits_13 : decode cX8_exits 13 = .ok (.invokevirtual 70, 3) := by decide +kernel
theorem dX8_exits_16 : decode cX8_exits 16 = .ok (.ireturn, 1) := by decide +kernel
theorem dX8_exits_17 : decode cX8_exits 17 = .ok (.aload_n 0, 1) := by decide +kernel
theorem dX8_exits_18 : decode cX8_exits 18 = .ok (.iload_n 1, 1) := by decide +kernel
theorem dX8_exits_19 : decode cX8_exits 19 = .ok (.invokevirtual 104, 3) := by decide +kernel
theorem dX8_exits_22 : decode cX8_exits 22 = .ok (.ifCond .ne 8, 3) := by decide +kernel
theorem dX8_exits_25 : decode cX8_exits 25 = .ok (.aload_n 0, 1) := by decide +kernel
theorem dX8_exits_26 : decode cX8_exits 26 = .ok (.invokevirtual 47, 3) := by decide +kernel
theorem dX8_exits_29 : decode cX8_exits 29 = .ok (.ireturn, 1) := by decide +kernel
theorem dX8_exits_30 : decode cX8_exits 30 = .ok (.aload_n 0, 1) := by decide +kernel
theorem dX8_exits_31 : decode cX8_exits 31 = .ok (.invokevirtual 73, 3) := by decide +kernel
theorem dX8_exits_34 : decode cX8_exits 34 = .ok (.aload_n 0, 1) := by decide +kernel
theorem dX8_exits_35 : decode cX8_exits 35 = .ok (.getfield 7, 3) := by decide +kernel
theorem dX8_exits_38 : decode cX8_exits 38 = .ok (.iload_n 1, 1) := by decide +kernel
theorem dX8_exits_39 : decode cX8_exits 39 = .ok (.invokestatic 67, 3) := by decide +kernel
theorem dX8_exits_42 : decode cX8_exits 42 = .ok (.iaload, 1) := by decide +kernel
theorem dX8_exits_43 : decode cX8_exits 43 = .ok (.istore_n 2, 1) := by decide +kernel
theorem dX8_exits_44 : decode cX8_exits 44 = .ok (.aload_n 0, 1) := by decide +kernel
theorem dX8_exits_45 : decode cX8_exits 45 = .ok (.getfield 7, 3) := by decide +kernel
theorem dX8_exits_48 : decode cX8_exits 48 = .ok (.iload_n 1, 1) := by decide +kernel
theorem dX8_exits_49 : decode cX8_exits 49 = .ok (.invokestatic 67, 3) := by decide +kernel
theorem dX8_exits_52 : decode cX8_exits 52 = .ok (.iconst 1, 1) := by decide +kernel
theorem dX8_exits_53 : decode cX8_exits 53 = .ok (.iadd, 1) := by decide +kernel
theorem dX8_exits_54 : decode cX8_exits 54 = .ok (.iconst 1, 1) := by decide +kernel
theorem dX8_exits_55 : decode cX8_exits 55 = .ok (.iastore, 1) := by decide +kernel
theorem dX8_exits_56 : decode cX8_exits 56 = .ok (.iconst 0, 1) := by decide +kernel
theorem dX8_exits_57 : decode cX8_exits 57 = .ok (.istore_n 3, 1) := by decide +kernel
theorem dX8_exits_58 : decode cX8_exits 58 = .ok (.iload_n 3, 1) := by decide +kernel
theorem dX8_exits_59 : decode cX8_exits 59 = .ok (.aload_n 0, 1) := by decide +kernel
theorem dX8_exits_60 : decode cX8_exits 60 = .ok (.getfield 7, 3) := by decide +kernel
theorem dX8_exits_63 : decode cX8_exits 63 = .ok (.bipush 70, 2) := by decide +kernel
theorem dX8_exits_65 : decode cX8_exits 65 = .ok (.iaload, 1) := by decide +kernel
theorem dX8_exits_66 : decode cX8_exits 66 = .ok (.if_icmp .ge 89, 3) := by decide +kernel
theorem dX8_exits_69 : decode cX8_exits 69 = .ok (.iload_n 3, 1) := by decide +kernel
theorem dX8_exits_70 : decode cX8_exits 70 = .ok (.invokestatic 55, 3) := by decide +kernel
theorem dX8_exits_73 : decode cX8_exits 73 = .ok (.istore 4, 2) := by decide +kernel
theorem dX8_exits_75 : decode cX8_exits 75 = .ok (.aload_n 0, 1) := by decide +kernel
theorem dX8_exits_76 : decode cX8_exits 76 = .ok (.iload 4, 2) := by decide +kernel
theorem dX8_exits_78 : decode cX8_exits 78 = .ok (.bipush 46, 2) := by decide +kernel
theorem dX8_exits_80 : decode cX8_exits 80 = .ok (.iadd, 1) := by decide +kernel
theorem dX8_exits_81 : decode cX8_exits 81 = .ok (.iload_n 1, 1) := by decide +kernel
theorem dX8_exits_82 : decode cX8_exits 82 = .ok (.iadd, 1) := by decide +kernel
theorem dX8_exits_83 : decode cX8_exits 83 = .ok (.iload 4, 2) := by decide +kernel
theorem dX8_exits_85 : decode cX8_exits 85 = .ok (.bipush 46, 2) := by decide +kernel
theorem dX8_exits_87 : decode cX8_exits 87 = .ok (.iadd, 1) := by decide +kernel
theorem dX8_exits_88 : decode cX8_exits 88 = .ok (.iload_n 2, 1) := by decide +kernel
theorem dX8_exits_89 : decode cX8_exits 89 = .ok (.iadd, 1) := by decide +kernel
theorem dX8_exits_90 : decode cX8_exits 90 = .ok (.invokevirtual 107, 3) := by decide +kernel
theorem dX8_exits_93 : decode cX8_exits 93 = .ok (.aload_n 0, 1) := by decide +kernel
theorem dX8_exits_94 : decode cX8_exits 94 = .ok (.iload 4, 2) := by decide +kernel
theorem dX8_exits_96 : decode cX8_exits 96 = .ok (.bipush 52, 2) := by decide +kernel
theorem dX8_exits_98 : decode cX8_exits 98 = .ok (.iadd, 1) := by decide +kernel
theorem dX8_exits_99 : decode cX8_exits 99 = .ok (.iload_n 1, 1) := by decide +kernel
theorem dX8_exits_100 : decode cX8_exits 100 = .ok (.iadd, 1) := by decide +kernel
theorem dX8_exits_101 : decode cX8_exits 101 = .ok (.iload 4, 2) := by decide +kernel
theorem dX8_exits_103 : decode cX8_exits 103 = .ok (.bipush 52, 2) := by decide +kernel
theorem dX8_exits_105 : decode cX8_exits 105 = .ok (.iadd, 1) := by decide +kernel
theorem dX8_exits_106 : decode cX8_exits 106 = .ok (.iload_n 2, 1) := by decide +kernel
theorem dX8_exits_107 : decode cX8_exits 107 = .ok (.iadd, 1) := by decide +kernel
theorem dX8_exits_108 : decode cX8_exits 108 = .ok (.invokevirtual 107, 3) := by decide +kernel
theorem dX8_exits_111 : decode cX8_exits 111 = .ok (.iconst 0, 1) := by decide +kernel
theorem dX8_exits_112 : decode cX8_exits 112 = .ok (.istore 5, 2) := by decide +kernel
theorem dX8_exits_114 : decode cX8_exits 114 = .ok (.iload 5, 2) := by decide +kernel
theorem dX8_exits_116 : decode cX8_exits 116 = .ok (.aload_n 0, 1) := by decide +kernel
theorem dX8_exits_117 : decode cX8_exits 117 = .ok (.iload_n 3, 1) := by decide +kernel
theorem dX8_exits_118 : decode cX8_exits 118 = .ok (.iconst 5, 1) := by decide +kernel
theorem dX8_exits_119 : decode cX8_exits 119 = .ok (.invokevirtual 63, 3) := by decide +kernel
theorem dX8_exits_122 : decode cX8_exits 122 = .ok (.if_icmp .ge 27, 3) := by decide +kernel
theorem dX8_exits_125 : decode cX8_exits 125 = .ok (.aload_n 0, 1) := by decide +kernel
theorem dX8_exits_126 : decode cX8_exits 126 = .ok (.iload_n 3, 1) := by decide +kernel
theorem dX8_exits_127 : decode cX8_exits 127 = .ok (.iload 5, 2) := by decide +kernel
theorem dX8_exits_129 : decode cX8_exits 129 = .ok (.iload_n 1, 1) := by decide +kernel
theorem dX8_exits_130 : decode cX8_exits 130 = .ok (.invokestatic 111, 3) := by decide +kernel
theorem dX8_exits_133 : decode cX8_exits 133 = .ok (.iload_n 3, 1) := by decide +kernel
theorem dX8_exits_134 : decode cX8_exits 134 = .ok (.iload 5, 2) := by decide +kernel
theorem dX8_exits_136 : decode cX8_exits 136 = .ok (.iload_n 2, 1) := by decide +kernel
theorem dX8_exits_137 : decode cX8_exits 137 = .ok (.invokestatic 111, 3) := by decide +kernel
theorem dX8_exits_140 : decode cX8_exits 140 = .ok (.invokevirtual 107, 3) := by decide +kernel
theorem dX8_exits_143 : decode cX8_exits 143 = .ok (.iinc 5 1, 3) := by decide +kernel
theorem dX8_exits_146 : decode cX8_exits 146 = .ok (.goto (-32), 3) := by decide +kernel
theorem dX8_exits_149 : decode cX8_exits 149 = .ok (.iinc 3 1, 3) := by decide +kernel
theorem dX8_exits_152 : decode cX8_exits 152 = .ok (.goto (-94), 3) := by decide +kernel
theorem dX8_exits_155 : decode cX8_exits 155 = .ok (.iload_n 2, 1) := by decide +kernel
theorem dX8_exits_156 : decode cX8_exits 156 = .ok (.ireturn, 1) := by decide +kernel
theorem dX8_canGroup_0 : decode cX8_canGroup 0 = .ok (.aload_n 0, 1) := by decide +kernel
theorem dX8_canGroup_1 : decode cX8_canGroup 1 = .ok (.iload_n 1, 1) := by decide +kernel
theorem dX8_canGroup_2 : decode cX8_canGroup 2 = .ok (.invokevirtual 86, 3) := by decide +kernel
theorem dX8_canGroup_5 : decode cX8_canGroup 5 = .ok (.ifCond .eq 43, 3) := by decide +kernel
theorem dX8_canGroup_8 : decode cX8_canGroup 8 = .ok (.iload_n 2, 1) := by decide +kernel
theorem dX8_canGroup_9 : decode cX8_canGroup 9 = .ok (.iconst 1, 1) := by decide +kernel
theorem dX8_canGroup_10 : decode cX8_canGroup 10 = .ok (.iconst 5, 1) := by decide +kernel
theorem dX8_canGroup_11 : decode cX8_canGroup 11 = .ok (.invokestatic 51, 3) := by decide +kernel
theorem dX8_canGroup_14 : decode cX8_canGroup 14 = .ok (.ifCond .eq 34, 3) := by decide +kernel
theorem dX8_canGroup_17 : decode cX8_canGroup 17 = .ok (.iload_n 3, 1) := by decide +kernel
theorem dX8_canGroup_18 : decode cX8_canGroup 18 = .ok (.iconst 0, 1) := by decide +kernel
theorem dX8_canGroup_19 : decode cX8_canGroup 19 = .ok (.iconst 1, 1) := by decide +kernel
theorem dX8_canGroup_20 : decode cX8_canGroup 20 = .ok (.invokestatic 51, 3) := by decide +kernel
theorem dX8_canGroup_23 : decode cX8_canGroup 23 = .ok (.ifCond .eq 25, 3) := by decide +kernel
theorem dX8_canGroup_26 : decode cX8_canGroup 26 = .ok (.iload 4, 2) := by decide +kernel
theorem dX8_canGroup_28 : decode cX8_canGroup 28 = .ok (.iconst 0, 1) := by decide +kernel
theorem dX8_canGroup_29 : decode cX8_canGroup 29 = .ok (.iconst 1, 1) := by decide +kernel
theorem dX8_canGroup_30 : decode cX8_canGroup 30 = .ok (.invokestatic 51, 3) := by decide +kernel
theorem dX8_canGroup_33 : decode cX8_canGroup 33 = .ok (.ifCond .eq 15, 3) := by decide +kernel
theorem dX8_canGroup_36 : decode cX8_canGroup 36 = .ok (.iload 5, 2) := by decide +kernel
theorem dX8_canGroup_38 : decode cX8_canGroup 38 = .ok (.invokestatic 79, 3) := by decide +kernel
theorem dX8_canGroup_41 : decode cX8_canGroup 41 = .ok (.ifCond .eq 7, 3) := by decide +kernel
theorem dX8_canGroup_44 : decode cX8_canGroup 44 = .ok (.iconst 1, 1) := by decide +kernel
theorem dX8_canGroup_45 : decode cX8_canGroup 45 = .ok (.goto 4, 3) := by decide +kernel
theorem dX8_canGroup_48 : decode cX8_canGroup 48 = .ok (.iconst 0, 1) := by decide +kernel
theorem dX8_canGroup_49 : decode cX8_canGroup 49 = .ok (.ireturn, 1) := by decide +kernel
theorem dX8_addsEvent_0 : decode cX8_addsEvent 0 = .ok (.aload_n 0, 1) := by decide +kernel
theorem dX8_addsEvent_1 : decode cX8_addsEvent 1 = .ok (.iload_n 1, 1) := by decide +kernel
theorem dX8_addsEvent_2 : decode cX8_addsEvent 2 = .ok (.iconst 5, 1) := by decide +kernel
theorem dX8_addsEvent_3 : decode cX8_addsEvent 3 = .ok (.invokevirtual 63, 3) := by decide +kernel
theorem dX8_addsEvent_6 : decode cX8_addsEvent 6 = .ok (.istore_n 3, 1) := by decide +kernel
theorem dX8_addsEvent_7 : decode cX8_addsEvent 7 = .ok (.iload_n 1, 1) := by decide +kernel
theorem dX8_addsEvent_8 : decode cX8_addsEvent 8 = .ok (.iload_n 3, 1) := by decide +kernel
theorem dX8_addsEvent_9 : decode cX8_addsEvent 9 = .ok (.invokestatic 115, 3) := by decide +kernel
theorem dX8_addsEvent_12 : decode cX8_addsEvent 12 = .ok (.istore 4, 2) := by decide +kernel
theorem dX8_addsEvent_14 : decode cX8_addsEvent 14 = .ok (.aload_n 0, 1) := by decide +kernel
theorem dX8_addsEvent_15 : decode cX8_addsEvent 15 = .ok (.getfield 7, 3) := by decide +kernel
theorem dX8_addsEvent_18 : decode cX8_addsEvent 18 = .ok (.iload 4, 2) := by decide +kernel
theorem dX8_addsEvent_20 : decode cX8_addsEvent 20 = .ok (.iload_n 2, 1) := by decide +kernel
theorem dX8_addsEvent_21 : decode cX8_addsEvent 21 = .ok (.iastore, 1) := by decide +kernel
theorem dX8_addsEvent_22 : decode cX8_addsEvent 22 = .ok (.aload_n 0, 1) := by decide +kernel
theorem dX8_addsEvent_23 : decode cX8_addsEvent 23 = .ok (.getfield 7, 3) := by decide +kernel
theorem dX8_addsEvent_26 : decode cX8_addsEvent 26 = .ok (.iload 4, 2) := by decide +kernel
theorem dX8_addsEvent_28 : decode cX8_addsEvent 28 = .ok (.iconst 1, 1) := by decide +kernel
theorem dX8_addsEvent_29 : decode cX8_addsEvent 29 = .ok (.iadd, 1) := by decide +kernel
theorem dX8_addsEvent_30 : decode cX8_addsEvent 30 = .ok (.iconst 0, 1) := by decide +kernel
theorem dX8_addsEvent_31 : decode cX8_addsEvent 31 = .ok (.iastore, 1) := by decide +kernel
theorem dX8_addsEvent_32 : decode cX8_addsEvent 32 = .ok (.aload_n 0, 1) := by decide +kernel
theorem dX8_addsEvent_33 : decode cX8_addsEvent 33 = .ok (.getfield 7, 3) := by decide +kernel
theorem dX8_addsEvent_36 : decode cX8_addsEvent 36 = .ok (.iload 4, 2) := by decide +kernel
theorem dX8_addsEvent_38 : decode cX8_addsEvent 38 = .ok (.iconst 2, 1) := by decide +kernel
theorem dX8_addsEvent_39 : decode cX8_addsEvent 39 = .ok (.iadd, 1) := by decide +kernel
theorem dX8_addsEvent_40 : decode cX8_addsEvent 40 = .ok (.iconst (-1), 1) := by decide +kernel
theorem dX8_addsEvent_41 : decode cX8_addsEvent 41 = .ok (.iastore, 1) := by decide +kernel
theorem dX8_addsEvent_42 : decode cX8_addsEvent 42 = .ok (.aload_n 0, 1) := by decide +kernel
theorem dX8_addsEvent_43 : decode cX8_addsEvent 43 = .ok (.getfield 7, 3) := by decide +kernel
theorem dX8_addsEvent_46 : decode cX8_addsEvent 46 = .ok (.iload_n 1, 1) := by decide +kernel
theorem dX8_addsEvent_47 : decode cX8_addsEvent 47 = .ok (.invokestatic 55, 3) := by decide +kernel
theorem dX8_addsEvent_50 : decode cX8_addsEvent 50 = .ok (.iconst 5, 1) := by decide +kernel
theorem dX8_addsEvent_51 : decode cX8_addsEvent 51 = .ok (.iadd, 1) := by decide +kernel
theorem dX8_addsEvent_52 : decode cX8_addsEvent 52 = .ok (.dup2, 1) := by decide +kernel
theorem dX8_addsEvent_53 : decode cX8_addsEvent 53 = .ok (.iaload, 1) := by decide +kernel
theorem dX8_addsEvent_54 : decode cX8_addsEvent 54 = .ok (.iconst 1, 1) := by decide +kernel
theorem dX8_addsEvent_55 : decode cX8_addsEvent 55 = .ok (.iadd, 1) := by decide +kernel
theorem dX8_addsEvent_56 : decode cX8_addsEvent 56 = .ok (.iastore, 1) := by decide +kernel
theorem dX8_addsEvent_57 : decode cX8_addsEvent 57 = .ok (.iload_n 3, 1) := by decide +kernel
theorem dX8_addsEvent_58 : decode cX8_addsEvent 58 = .ok (.ireturn, 1) := by decide +kernel
theorem dX8_comesGroup_0 : decode cX8_comesGroup 0 = .ok (.aload_n 0, 1) := by decide +kernel
theorem dX8_comesGroup_1 : decode cX8_comesGroup 1 = .ok (.getfield 7, 3) := by decide +kernel
theorem dX8_comesGroup_4 : decode cX8_comesGroup 4 = .ok (.bipush 70, 2) := by decide +kernel
theorem dX8_comesGroup_6 : decode cX8_comesGroup 6 = .ok (.iaload, 1) := by decide +kernel
theorem dX8_comesGroup_7 : decode cX8_comesGroup 7 = .ok (.istore 6, 2) := by decide +kernel
theorem dX8_comesGroup_9 : decode cX8_comesGroup 9 = .ok (.iload 6, 2) := by decide +kernel
theorem dX8_comesGroup_11 : decode cX8_comesGroup 11 = .ok (.invokestatic 55, 3) := by decide +kernel
theorem dX8_comesGroup_14 : decode cX8_comesGroup 14 = .ok (.istore 7, 2) := by decide +kernel
theorem dX8_comesGroup_16 : decode cX8_comesGroup 16 = .ok (.iconst 0, 1) := by decide +kernel
theorem dX8_comesGroup_17 : decode cX8_comesGroup 17 = .ok (.istore 8, 2) := by decide +kernel
theorem dX8_comesGroup_19 : decode cX8_comesGroup 19 = .ok (.iload 8, 2) := by decide +kernel
theorem dX8_comesGroup_21 : decode cX8_comesGroup 21 = .ok (.bipush 58, 2) := by decide +kernel
theorem dX8_comesGroup_23 : decode cX8_comesGroup 23 = .ok (.if_icmp .ge 20, 3) := by decide +kernel
theorem dX8_comesGroup_26 : decode cX8_comesGroup 26 = .ok (.aload_n 0, 1) := by decide +kernel
theorem dX8_comesGroup_27 : decode cX8_comesGroup 27 = .ok (.getfield 7, 3) := by decide +kernel
theorem dX8_comesGroup_30 : decode cX8_comesGroup 30 = .ok (.iload 7, 2) := by decide +kernel
theorem dX8_comesGroup_32 : decode cX8_comesGroup 32 = .ok (.iload 8, 2) := by decide +kernel
theorem dX8_comesGroup_34 : decode cX8_comesGroup 34 = .ok (.iadd, 1) := by decide +kernel
theorem dX8_comesGroup_35 : decode cX8_comesGroup 35 = .ok (.iconst 0, 1) := by decide +kernel
theorem dX8_comesGroup_36 : decode cX8_comesGroup 36 = .ok (.iastore, 1) := by decide +kernel
theorem dX8_comesGroup_37 : decode cX8_comesGroup 37 = .ok (.iinc 8 1, 3) := by decide +kernel
theorem dX8_comesGroup_40 : decode cX8_comesGroup 40 = .ok (.goto (-21), 3) := by decide +kernel
theorem dX8_comesGroup_43 : decode cX8_comesGroup 43 = .ok (.aload_n 0, 1) := by decide +kernel
theorem dX8_comesGroup_44 : decode cX8_comesGroup 44 = .ok (.getfield 7, 3) := by decide +kernel
theorem dX8_comesGroup_47 : decode cX8_comesGroup 47 = .ok (.iload 7, 2) := by decide +kernel
theorem dX8_comesGroup_49 : decode cX8_comesGroup 49 = .ok (.iload_n 1, 1) := by decide +kernel
theorem dX8_comesGroup_50 : decode cX8_comesGroup 50 = .ok (.iastore, 1) := by decide +kernel
theorem dX8_comesGroup_51 : decode cX8_comesGroup 51 = .ok (.aload_n 0, 1) := by decide +kernel
theorem dX8_comesGroup_52 : decode cX8_comesGroup 52 = .ok (.getfield 7, 3) := by decide +kernel
theorem dX8_comesGroup_55 : decode cX8_comesGroup 55 = .ok (.iload 7, 2) := by decide +kernel
theorem dX8_comesGroup_57 : decode cX8_comesGroup 57 = .ok (.iconst 1, 1) := by decide +kernel
theorem dX8_comesGroup_58 : decode cX8_comesGroup 58 = .ok (.iadd, 1) := by decide +kernel
theorem dX8_comesGroup_59 : decode cX8_comesGroup 59 = .ok (.iload_n 2, 1) := by decide +kernel
theorem dX8_comesGroup_60 : decode cX8_comesGroup 60 = .ok (.iastore, 1) := by decide +kernel
theorem dX8_comesGroup_61 : decode cX8_comesGroup 61 = .ok (.aload_n 0, 1) := by decide +kernel
theorem dX8_comesGroup_62 : decode cX8_comesGroup 62 = .ok (.getfield 7, 3) := by decide +kernel
theorem dX8_comesGroup_65 : decode cX8_comesGroup 65 = .ok (.iload 7, 2) := by decide +kernel
theorem dX8_comesGroup_67 : decode cX8_comesGroup 67 = .ok (.iconst 2, 1) := by decide +kernel
theorem dX8_comesGroup_68 : decode cX8_comesGroup 68 = .ok (.iadd, 1) := by decide +kernel
theorem dX8_comesGroup_69 : decode cX8_comesGroup 69 = .ok (.iload_n 3, 1) := by decide +kernel
theorem dX8_comesGroup_70 : decode cX8_comesGroup 70 = .ok (.iastore, 1) := by decide +kernel
theorem dX8_comesGroup_71 : decode cX8_comesGroup 71 = .ok (.aload_n 0, 1) := by decide +kernel
theorem dX8_comesGroup_72 : decode cX8_comesGroup 72 = .ok (.getfield 7, 3) := by decide +kernel
theorem dX8_comesGroup_75 : decode cX8_comesGroup 75 = .ok (.iload 7, 2) := by decide +kernel
theorem dX8_comesGroup_77 : decode cX8_comesGroup 77 = .ok (.iconst 3, 1) := by decide +kernel
theorem dX8_comesGroup_78 : decode cX8_comesGroup 78 = .ok (.iadd, 1) := by decide +kernel
theorem dX8_comesGroup_79 : decode cX8_comesGroup 79 = .ok (.iload 4, 2) := by decide +kernel
theorem dX8_comesGroup_81 : decode cX8_comesGroup 81 = .ok (.iastore, 1) := by decide +kernel
theorem dX8_comesGroup_82 : decode cX8_comesGroup 82 = .ok (.aload_n 0, 1) := by decide +kernel
theorem dX8_comesGroup_83 : decode cX8_comesGroup 83 = .ok (.getfield 7, 3) := by decide +kernel
theorem dX8_comesGroup_86 : decode cX8_comesGroup 86 = .ok (.iload 7, 2) := by decide +kernel
theorem dX8_comesGroup_88 : decode cX8_comesGroup 88 = .ok (.iconst 4, 1) := by decide +kernel
theorem dX8_comesGroup_89 : decode cX8_comesGroup 89 = .ok (.iadd, 1) := by decide +kernel
theorem dX8_comesGroup_90 : decode cX8_comesGroup 90 = .ok (.iconst 1, 1) := by decide +kernel
theorem dX8_comesGroup_91 : decode cX8_comesGroup 91 = .ok (.iastore, 1) := by decide +kernel
theorem dX8_comesGroup_92 : decode cX8_comesGroup 92 = .ok (.aload_n 0, 1) := by decide +kernel
theorem dX8_comesGroup_93 : decode cX8_comesGroup 93 = .ok (.getfield 7, 3) := by decide +kernel
theorem dX8_comesGroup_96 : decode cX8_comesGroup 96 = .ok (.bipush 70, 2) := by decide +kernel
theorem dX8_comesGroup_98 : decode cX8_comesGroup 98 = .ok (.dup2, 1) := by decide +kernel
theorem dX8_comesGroup_99 : decode cX8_comesGroup 99 = .ok (.iaload, 1) := by decide +kernel
theorem dX8_comesGroup_100 : decode cX8_comesGroup 100 = .ok (.iconst 1, 1) := by decide +kernel
theorem dX8_comesGroup_101 : decode cX8_comesGroup 101 = .ok (.iadd, 1) := by decide +kernel
theorem dX8_comesGroup_102 : decode cX8_comesGroup 102 = .ok (.iastore, 1) := by decide +kernel
theorem dX8_comesGroup_103 : decode cX8_comesGroup 103 = .ok (.iload_n 3, 1) := by decide +kernel
theorem dX8_comesGroup_104 : decode cX8_comesGroup 104 = .ok (.ifCond .ne 34, 3) := by decide +kernel
theorem dX8_comesGroup_107 : decode cX8_comesGroup 107 = .ok (.aload_n 0, 1) := by decide +kernel
theorem dX8_comesGroup_108 : decode cX8_comesGroup 108 = .ok (.getfield 7, 3) := by decide +kernel
theorem dX8_comesGroup_111 : decode cX8_comesGroup 111 = .ok (.sipush 419, 3) := by decide +kernel
theorem dX8_comesGroup_114 : decode cX8_comesGroup 114 = .ok (.dup2, 1) := by decide +kernel
theorem dX8_comesGroup_115 : decode cX8_comesGroup 115 = .ok (.iaload, 1) := by decide +kernel
theorem dX8_comesGroup_116 : decode cX8_comesGroup 116 = .ok (.iconst 1, 1) := by decide +kernel
theorem dX8_comesGroup_117 : decode cX8_comesGroup 117 = .ok (.iadd, 1) := by decide +kernel
theorem dX8_comesGroup_118 : decode cX8_comesGroup 118 = .ok (.iastore, 1) := by decide +kernel
theorem dX8_comesGroup_119 : decode cX8_comesGroup 119 = .ok (.aload_n 0, 1) := by decide +kernel
theorem dX8_comesGroup_120 : decode cX8_comesGroup 120 = .ok (.getfield 7, 3) := by decide +kernel
theorem dX8_comesGroup_123 : decode cX8_comesGroup 123 = .ok (.sipush 419, 3) := by decide +kernel
theorem dX8_comesGroup_126 : decode cX8_comesGroup 126 = .ok (.aload_n 0, 1) := by decide +kernel
theorem dX8_comesGroup_127 : decode cX8_comesGroup 127 = .ok (.getfield 7, 3) := by decide +kernel
theorem dX8_comesGroup_130 : decode cX8_comesGroup 130 = .ok (.sipush 419, 3) := by decide +kernel
theorem dX8_comesGroup_133 : decode cX8_comesGroup 133 = .ok (.iaload, 1) := by decide +kernel
theorem dX8_comesGroup_134 : decode cX8_comesGroup 134 = .ok (.iadd, 1) := by decide +kernel
theorem dX8_comesGroup_135 : decode cX8_comesGroup 135 = .ok (.iload 6, 2) := by decide +kernel
theorem dX8_comesGroup_137 : decode cX8_comesGroup 137 = .ok (.iastore, 1) := by decide +kernel
theorem dX8_comesGroup_138 : decode cX8_comesGroup 138 = .ok (.aload_n 0, 1) := by decide +kernel
theorem dX8_comesGroup_139 : decode cX8_comesGroup 139 = .ok (.iload 6, 2) := by decide +kernel
theorem dX8_comesGroup_141 : decode cX8_comesGroup 141 = .ok (.iload 5, 2) := by decide +kernel
theorem dX8_comesGroup_143 : decode cX8_comesGroup 143 = .ok (.invokevirtual 118, 3) := by decide +kernel
theorem dX8_comesGroup_146 : decode cX8_comesGroup 146 = .ok (.ifCond .ge 7, 3) := by decide +kernel
theorem dX8_comesGroup_149 : decode cX8_comesGroup 149 = .ok (.iconst (-1), 1) := by decide +kernel
theorem dX8_comesGroup_150 : decode cX8_comesGroup 150 = .ok (.goto 5, 3) := by decide +kernel
theorem dX8_comesGroup_153 : decode cX8_comesGroup 153 = .ok (.iload 6, 2) := by decide +kernel
theorem dX8_comesGroup_155 : decode cX8_comesGroup 155 = .ok (.ireturn, 1) := by decide +kernel
theorem dX8_group_0 : decode cX8_group 0 = .ok (.aload_n 0, 1) := by decide +kernel
theorem dX8_group_1 : decode cX8_group 1 = .ok (.iload_n 1, 1) := by decide +kernel
theorem dX8_group_2 : decode cX8_group 2 = .ok (.iload_n 2, 1) := by decide +kernel
theorem dX8_group_3 : decode cX8_group 3 = .ok (.iload_n 3, 1) := by decide +kernel
theorem dX8_group_4 : decode cX8_group 4 = .ok (.iload 4, 2) := by decide +kernel
theorem dX8_group_6 : decode cX8_group 6 = .ok (.iload 5, 2) := by decide +kernel
theorem dX8_group_8 : decode cX8_group 8 = .ok (.invokevirtual 121, 3) := by decide +kernel
theorem dX8_group_11 : decode cX8_group 11 = .ok (.ifCond .ne 8, 3) := by decide +kernel
theorem dX8_group_14 : decode cX8_group 14 = .ok (.aload_n 0, 1) := by decide +kernel
theorem dX8_group_15 : decode cX8_group 15 = .ok (.invokevirtual 70, 3) := by decide +kernel
theorem dX8_group_18 : decode cX8_group 18 = .ok (.ireturn, 1) := by decide +kernel
theorem dX8_group_19 : decode cX8_group 19 = .ok (.aload_n 0, 1) := by decide +kernel
theorem dX8_group_20 : decode cX8_group 20 = .ok (.getfield 7, 3) := by decide +kernel
theorem dX8_group_23 : decode cX8_group 23 = .ok (.bipush 70, 2) := by decide +kernel
theorem dX8_group_25 : decode cX8_group 25 = .ok (.iaload, 1) := by decide +kernel
theorem dX8_group_26 : decode cX8_group 26 = .ok (.bipush 6, 2) := by decide +kernel
theorem dX8_group_28 : decode cX8_group 28 = .ok (.if_icmp .ne 8, 3) := by decide +kernel
theorem dX8_group_31 : decode cX8_group 31 = .ok (.aload_n 0, 1) := by decide +kernel
theorem dX8_group_32 : decode cX8_group 32 = .ok (.invokevirtual 98, 3) := by decide +kernel
theorem dX8_group_35 : decode cX8_group 35 = .ok (.ireturn, 1) := by decide +kernel
theorem dX8_group_36 : decode cX8_group 36 = .ok (.aload_n 0, 1) := by decide +kernel
theorem dX8_group_37 : decode cX8_group 37 = .ok (.invokevirtual 73, 3) := by decide +kernel
theorem dX8_group_40 : decode cX8_group 40 = .ok (.aload_n 0, 1) := by decide +kernel
theorem dX8_group_41 : decode cX8_group 41 = .ok (.iload_n 1, 1) := by decide +kernel
theorem dX8_group_42 : decode cX8_group 42 = .ok (.iload_n 2, 1) := by decide +kernel
theorem dX8_group_43 : decode cX8_group 43 = .ok (.iload_n 3, 1) := by decide +kernel
theorem dX8_group_44 : decode cX8_group 44 = .ok (.iload 4, 2) := by decide +kernel
theorem dX8_group_46 : decode cX8_group 46 = .ok (.iload 5, 2) := by decide +kernel
theorem dX8_group_48 : decode cX8_group 48 = .ok (.invokevirtual 125, 3) := by decide +kernel
theorem dX8_group_51 : decode cX8_group 51 = .ok (.ireturn, 1) := by decide +kernel
theorem dX8_event_0 : decode cX8_event 0 = .ok (.aload_n 0, 1) := by decide +kernel
theorem dX8_event_1 : decode cX8_event 1 = .ok (.iload_n 1, 1) := by decide +kernel
theorem dX8_event_2 : decode cX8_event 2 = .ok (.invokevirtual 59, 3) := by decide +kernel
theorem dX8_event_5 : decode cX8_event 5 = .ok (.ifCond .eq 10, 3) := by decide +kernel
theorem dX8_event_8 : decode cX8_event 8 = .ok (.iload_n 2, 1) := by decide +kernel
theorem dX8_event_9 : decode cX8_event 9 = .ok (.invokestatic 79, 3) := by decide +kernel
theorem dX8_event_12 : decode cX8_event 12 = .ok (.ifCond .ne 8, 3) := by decide +kernel
theorem dX8_event_15 : decode cX8_event 15 = .ok (.aload_n 0, 1) := by decide +kernel
theorem dX8_event_16 : decode cX8_event 16 = .ok (.invokevirtual 70, 3) := by decide +kernel
theorem dX8_event_19 : decode cX8_event 19 = .ok (.ireturn, 1) := by decide +kernel
theorem dX8_event_20 : decode cX8_event 20 = .ok (.aload_n 0, 1) := by decide +kernel
theorem dX8_event_21 : decode cX8_event 21 = .ok (.iload_n 1, 1) := by decide +kernel
theorem dX8_event_22 : decode cX8_event 22 = .ok (.iconst 5, 1) := by decide +kernel
theorem dX8_event_23 : decode cX8_event 23 = .ok (.invokevirtual 63, 3) := by decide +kernel
theorem dX8_event_26 : decode cX8_event 26 = .ok (.iconst 4, 1) := by decide +kernel
theorem dX8_event_27 : decode cX8_event 27 = .ok (.if_icmp .ne 8, 3) := by decide +kernel
theorem dX8_event_30 : decode cX8_event 30 = .ok (.aload_n 0, 1) := by decide +kernel
theorem dX8_event_31 : decode cX8_event 31 = .ok (.invokevirtual 98, 3) := by decide +kernel
theorem dX8_event_34 : decode cX8_event 34 = .ok (.ireturn, 1) := by decide +kernel
theorem dX8_event_35 : decode cX8_event 35 = .ok (.aload_n 0, 1) := by decide +kernel
theorem dX8_event_36 : decode cX8_event 36 = .ok (.invokevirtual 73, 3) := by decide +kernel
theorem dX8_event_39 : decode cX8_event 39 = .ok (.aload_n 0, 1) := by decide +kernel
theorem dX8_event_40 : decode cX8_event 40 = .ok (.iload_n 1, 1) := by decide +kernel
theorem dX8_event_41 : decode cX8_event 41 = .ok (.iload_n 2, 1) := by decide +kernel
theorem dX8_event_42 : decode cX8_event 42 = .ok (.invokevirtual 118, 3) := by decide +kernel
theorem dX8_event_45 : decode cX8_event 45 = .ok (.ireturn, 1) := by decide +kernel
theorem dX8_periods_0 : decode cX8_periods 0 = .ok (.aload_n 0, 1) := by decide +kernel
theorem dX8_periods_1 : decode cX8_periods 1 = .ok (.iload_n 1, 1) := by decide +kernel
theorem dX8_periods_2 : decode cX8_periods 2 = .ok (.invokevirtual 59, 3) := by decide +kernel
theorem dX8_periods_5 : decode cX8_periods 5 = .ok (.ifCond .eq 19, 3) := by decide +kernel
theorem dX8_periods_8 : decode cX8_periods 8 = .ok (.iload_n 2, 1) := by decide +kernel
theorem dX8_periods_9 : decode cX8_periods 9 = .ok (.ifCond .eq 20, 3) := by decide +kernel
theorem dX8_periods_12 : decode cX8_periods 12 = .ok (.iload_n 2, 1) := by decide +kernel
theorem dX8_periods_13 : decode cX8_periods 13 = .ok (.bipush 30, 2) := by decide +kernel
theorem dX8_periods_15 : decode cX8_periods 15 = .ok (.sipush 200, 3) := by decide +kernel
theorem dX8_periods_18 : decode cX8_periods 18 = .ok (.invokestatic 51, 3) := by decide +kernel
theorem dX8_periods_21 : decode cX8_periods 21 = .ok (.ifCond .ne 8, 3) := by decide +kernel
theorem dX8_periods_24 : decode cX8_periods 24 = .ok (.aload_n 0, 1) := by decide +kernel
theorem dX8_periods_25 : decode cX8_periods 25 = .ok (.invokevirtual 70, 3) := by decide +kernel
theorem dX8_periods_28 : decode cX8_periods 28 = .ok (.ireturn, 1) := by decide +kernel
theorem dX8_periods_29 : decode cX8_periods 29 = .ok (.aload_n 0, 1) := by decide +kernel
theorem dX8_periods_30 : decode cX8_periods 30 = .ok (.invokevirtual 73, 3) := by decide +kernel
theorem dX8_periods_33 : decode cX8_periods 33 = .ok (.aload_n 0, 1) := by decide +kernel
theorem dX8_periods_34 : decode cX8_periods 34 = .ok (.getfield 7, 3) := by decide +kernel
theorem dX8_periods_37 : decode cX8_periods 37 = .ok (.iload_n 1, 1) := by decide +kernel
theorem dX8_periods_38 : decode cX8_periods 38 = .ok (.invokestatic 55, 3) := by decide +kernel
theorem dX8_periods_41 : decode cX8_periods 41 = .ok (.bipush 8, 2) := by decide +kernel
theorem dX8_periods_43 : decode cX8_periods 43 = .ok (.iadd, 1) := by decide +kernel
theorem dX8_periods_44 : decode cX8_periods 44 = .ok (.iconst 0, 1) := by decide +kernel
theorem dX8_periods_45 : decode cX8_periods 45 = .ok (.iastore, 1) := by decide +kernel
theorem dX8_periods_46 : decode cX8_periods 46 = .ok (.aload_n 0, 1) := by decide +kernel
theorem dX8_periods_47 : decode cX8_periods 47 = .ok (.iload_n 1, 1) := by decide +kernel
theorem dX8_periods_48 : decode cX8_periods 48 = .ok (.invokestatic 55, 3) := by decide +kernel
theorem dX8_periods_51 : decode cX8_periods 51 = .ok (.bipush 7, 2) := by decide +kernel
theorem dX8_periods_53 : decode cX8_periods 53 = .ok (.iadd, 1) := by decide +kernel
theorem dX8_periods_54 : decode cX8_periods 54 = .ok (.iload_n 2, 1) := by decide +kernel
theorem dX8_periods_55 : decode cX8_periods 55 = .ok (.invokevirtual 76, 3) := by decide +kernel
theorem dX8_periods_58 : decode cX8_periods 58 = .ok (.ireturn, 1) := by decide +kernel
theorem dX8_skids_0 : decode cX8_skids 0 = .ok (.iload_n 1, 1) := by decide +kernel
theorem dX8_skids_1 : decode cX8_skids 1 = .ok (.iconst 0, 1) := by decide +kernel
theorem dX8_skids_2 : decode cX8_skids 2 = .ok (.iconst 3, 1) := by decide +kernel
theorem dX8_skids_3 : decode cX8_skids 3 = .ok (.invokestatic 51, 3) := by decide +kernel
theorem dX8_skids_6 : decode cX8_skids 6 = .ok (.ifCond .ne 8, 3) := by decide +kernel
theorem dX8_skids_9 : decode cX8_skids 9 = .ok (.aload_n 0, 1) := by decide +kernel
theorem dX8_skids_10 : decode cX8_skids 10 = .ok (.invokevirtual 70, 3) := by decide +kernel
theorem dX8_skids_13 : decode cX8_skids 13 = .ok (.ireturn, 1) := by decide +kernel
theorem dX8_skids_14 : decode cX8_skids 14 = .ok (.aload_n 0, 1) := by decide +kernel
theorem dX8_skids_15 : decode cX8_skids 15 = .ok (.invokevirtual 73, 3) := by decide +kernel
theorem dX8_skids_18 : decode cX8_skids 18 = .ok (.aload_n 0, 1) := by decide +kernel
theorem dX8_skids_19 : decode cX8_skids 19 = .ok (.sipush 427, 3) := by decide +kernel
theorem dX8_skids_22 : decode cX8_skids 22 = .ok (.iload_n 1, 1) := by decide +kernel
theorem dX8_skids_23 : decode cX8_skids 23 = .ok (.invokevirtual 76, 3) := by decide +kernel
theorem dX8_skids_26 : decode cX8_skids 26 = .ok (.ireturn, 1) := by decide +kernel
theorem dX8_lives_0 : decode cX8_lives 0 = .ok (.aload_n 0, 1) := by decide +kernel
theorem dX8_lives_1 : decode cX8_lives 1 = .ok (.iload_n 1, 1) := by decide +kernel
theorem dX8_lives_2 : decode cX8_lives 2 = .ok (.invokevirtual 59, 3) := by decide +kernel
theorem dX8_lives_5 : decode cX8_lives 5 = .ok (.ifCond .eq 12, 3) := by decide +kernel
theorem dX8_lives_8 : decode cX8_lives 8 = .ok (.iload_n 2, 1) := by decide +kernel
theorem dX8_lives_9 : decode cX8_lives 9 = .ok (.iconst 0, 1) := by decide +kernel
theorem dX8_lives_10 : decode cX8_lives 10 = .ok (.iconst 1, 1) := by decide +kernel
theorem dX8_lives_11 : decode cX8_lives 11 = .ok (.invokestatic 51, 3) := by decide +kernel
theorem dX8_lives_14 : decode cX8_lives 14 = .ok (.ifCond .ne 8, 3) := by decide +kernel
theorem dX8_lives_17 : decode cX8_lives 17 = .ok (.aload_n 0, 1) := by decide +kernel
theorem dX8_lives_18 : decode cX8_lives 18 = .ok (.invokevirtual 70, 3) := by decide +kernel
theorem dX8_lives_21 : decode cX8_lives 21 = .ok (.ireturn, 1) := by decide +kernel
theorem dX8_lives_22 : decode cX8_lives 22 = .ok (.aload_n 0, 1) := by decide +kernel
theorem dX8_lives_23 : decode cX8_lives 23 = .ok (.invokevirtual 73, 3) := by decide +kernel
theorem dX8_lives_26 : decode cX8_lives 26 = .ok (.aload_n 0, 1) := by decide +kernel
theorem dX8_lives_27 : decode cX8_lives 27 = .ok (.iload_n 1, 1) := by decide +kernel
theorem dX8_lives_28 : decode cX8_lives 28 = .ok (.invokestatic 55, 3) := by decide +kernel
theorem dX8_lives_31 : decode cX8_lives 31 = .ok (.iconst 4, 1) := by decide +kernel
theorem dX8_lives_32 : decode cX8_lives 32 = .ok (.iadd, 1) := by decide +kernel
theorem dX8_lives_33 : decode cX8_lives 33 = .ok (.iload_n 2, 1) := by decide +kernel
theorem dX8_lives_34 : decode cX8_lives 34 = .ok (.invokevirtual 76, 3) := by decide +kernel
theorem dX8_lives_37 : decode cX8_lives 37 = .ok (.ireturn, 1) := by decide +kernel
theorem dX8_isOf_0 : decode cX8_isOf 0 = .ok (.aload_n 0, 1) := by decide +kernel
theorem dX8_isOf_1 : decode cX8_isOf 1 = .ok (.iload_n 1, 1) := by decide +kernel
theorem dX8_isOf_2 : decode cX8_isOf 2 = .ok (.iconst 0, 1) := by decide +kernel
theorem dX8_isOf_3 : decode cX8_isOf 3 = .ok (.invokevirtual 63, 3) := by decide +kernel
theorem dX8_isOf_6 : decode cX8_isOf 6 = .ok (.istore_n 3, 1) := by decide +kernel
theorem dX8_isOf_7 : decode cX8_isOf 7 = .ok (.iload_n 3, 1) := by decide +kernel
theorem dX8_isOf_8 : decode cX8_isOf 8 = .ok (.iload_n 2, 1) := by decide +kernel
theorem dX8_isOf_9 : decode cX8_isOf 9 = .ok (.if_icmp .ne 7, 3) := by decide +kernel
theorem dX8_isOf_12 : decode cX8_isOf 12 = .ok (.iconst 1, 1) := by decide +kernel
theorem dX8_isOf_13 : decode cX8_isOf 13 = .ok (.goto 4, 3) := by decide +kernel
theorem dX8_isOf_16 : decode cX8_isOf 16 = .ok (.iconst 0, 1) := by decide +kernel
theorem dX8_isOf_17 : decode cX8_isOf 17 = .ok (.istore 4, 2) := by decide +kernel
theorem dX8_isOf_19 : decode cX8_isOf 19 = .ok (.aload_n 0, 1) := by decide +kernel
theorem dX8_isOf_20 : decode cX8_isOf 20 = .ok (.getfield 7, 3) := by decide +kernel
theorem dX8_isOf_23 : decode cX8_isOf 23 = .ok (.iload_n 2, 1) := by decide +kernel
theorem dX8_isOf_24 : decode cX8_isOf 24 = .ok (.invokestatic 67, 3) := by decide +kernel
theorem dX8_isOf_27 : decode cX8_isOf 27 = .ok (.iaload, 1) := by decide +kernel
theorem dX8_isOf_28 : decode cX8_isOf 28 = .ok (.istore 5, 2) := by decide +kernel
theorem dX8_isOf_30 : decode cX8_isOf 30 = .ok (.iload 5, 2) := by decide +kernel
theorem dX8_isOf_32 : decode cX8_isOf 32 = .ok (.iconst (-1), 1) := by decide +kernel
theorem dX8_isOf_33 : decode cX8_isOf 33 = .ok (.if_icmp .eq 46, 3) := by decide +kernel
theorem dX8_isOf_36 : decode cX8_isOf 36 = .ok (.iload 4, 2) := by decide +kernel
theorem dX8_isOf_38 : decode cX8_isOf 38 = .ok (.ifCond .ne 19, 3) := by decide +kernel
theorem dX8_isOf_41 : decode cX8_isOf 41 = .ok (.aload_n 0, 1) := by decide +kernel
theorem dX8_isOf_42 : decode cX8_isOf 42 = .ok (.iload_n 1, 1) := by decide +kernel
theorem dX8_isOf_43 : decode cX8_isOf 43 = .ok (.iconst 3, 1) := by decide +kernel
theorem dX8_isOf_44 : decode cX8_isOf 44 = .ok (.invokevirtual 63, 3) := by decide +kernel
theorem dX8_isOf_47 : decode cX8_isOf 47 = .ok (.iconst 1, 1) := by decide +kernel
theorem dX8_isOf_48 : decode cX8_isOf 48 = .ok (.if_icmp .ne 13, 3) := by decide +kernel
theorem dX8_isOf_51 : decode cX8_isOf 51 = .ok (.iload 5, 2) := by decide +kernel
theorem dX8_isOf_53 : decode cX8_isOf 53 = .ok (.iload_n 3, 1) := by decide +kernel
theorem dX8_isOf_54 : decode cX8_isOf 54 = .ok (.if_icmp .ne 7, 3) := by decide +kernel
theorem dX8_isOf_57 : decode cX8_isOf 57 = .ok (.iconst 1, 1) := by decide +kernel
theorem dX8_isOf_58 : decode cX8_isOf 58 = .ok (.goto 4, 3) := by decide +kernel
theorem dX8_isOf_61 : decode cX8_isOf 61 = .ok (.iconst 0, 1) := by decide +kernel
theorem dX8_isOf_62 : decode cX8_isOf 62 = .ok (.istore 4, 2) := by decide +kernel
theorem dX8_isOf_64 : decode cX8_isOf 64 = .ok (.aload_n 0, 1) := by decide +kernel
theorem dX8_isOf_65 : decode cX8_isOf 65 = .ok (.getfield 7, 3) := by decide +kernel
theorem dX8_isOf_68 : decode cX8_isOf 68 = .ok (.iload 5, 2) := by decide +kernel
theorem dX8_isOf_70 : decode cX8_isOf 70 = .ok (.invokestatic 67, 3) := by decide +kernel
theorem dX8_isOf_73 : decode cX8_isOf 73 = .ok (.iaload, 1) := by decide +kernel
theorem dX8_isOf_74 : decode cX8_isOf 74 = .ok (.istore 5, 2) := by decide +kernel
theorem dX8_isOf_76 : decode cX8_isOf 76 = .ok (.goto (-46), 3) := by decide +kernel
theorem dX8_isOf_79 : decode cX8_isOf 79 = .ok (.iload 4, 2) := by decide +kernel
theorem dX8_isOf_81 : decode cX8_isOf 81 = .ok (.ireturn, 1) := by decide +kernel
theorem dX8_watchers_0 : decode cX8_watchers 0 = .ok (.iconst 0, 1) := by decide +kernel
theorem dX8_watchers_1 : decode cX8_watchers 1 = .ok (.istore_n 2, 1) := by decide +kernel
theorem dX8_watchers_2 : decode cX8_watchers 2 = .ok (.iconst 0, 1) := by decide +kernel
theorem dX8_watchers_3 : decode cX8_watchers 3 = .ok (.istore_n 3, 1) := by decide +kernel
theorem dX8_watchers_4 : decode cX8_watchers 4 = .ok (.iload_n 3, 1) := by decide +kernel
theorem dX8_watchers_5 : decode cX8_watchers 5 = .ok (.aload_n 0, 1) := by decide +kernel
theorem dX8_watchers_6 : decode cX8_watchers 6 = .ok (.getfield 7, 3) := by decide +kernel
theorem dX8_watchers_9 : decode cX8_watchers 9 = .ok (.bipush 70, 2) := by decide +kernel
theorem dX8_watchers_11 : decode cX8_watchers 11 = .ok (.iaload, 1) := by decide +kernel
theorem dX8_watchers_12 : decode cX8_watchers 12 = .ok (.if_icmp .ge 38, 3) := by decide +kernel
theorem dX8_watchers_15 : decode cX8_watchers 15 = .ok (.iload_n 2, 1) := by decide +kernel
theorem dX8_watchers_16 : decode cX8_watchers 16 = .ok (.aload_n 0, 1) := by decide +kernel
theorem dX8_watchers_17 : decode cX8_watchers 17 = .ok (.iload_n 3, 1) := by decide +kernel
theorem dX8_watchers_18 : decode cX8_watchers 18 = .ok (.iconst 4, 1) := by decide +kernel
theorem dX8_watchers_19 : decode cX8_watchers 19 = .ok (.invokevirtual 63, 3) := by decide +kernel
theorem dX8_watchers_22 : decode cX8_watchers 22 = .ok (.iconst 1, 1) := by decide +kernel
theorem dX8_watchers_23 : decode cX8_watchers 23 = .ok (.if_icmp .ne 18, 3) := by decide +kernel
theorem dX8_watchers_26 : decode cX8_watchers 26 = .ok (.aload_n 0, 1) := by decide +kernel
theorem dX8_watchers_27 : decode cX8_watchers 27 = .ok (.iload_n 3, 1) := by decide +kernel
theorem dX8_watchers_28 : decode cX8_watchers 28 = .ok (.iload_n 1, 1) := by decide +kernel
theorem dX8_watchers_29 : decode cX8_watchers 29 = .ok (.invokevirtual 129, 3) := by decide +kernel
theorem dX8_watchers_32 : decode cX8_watchers 32 = .ok (.ifCond .eq 9, 3) := by decide +kernel
theorem dX8_watchers_35 : decode cX8_watchers 35 = .ok (.iconst 1, 1) := by decide +kernel
theorem dX8_watchers_36 : decode cX8_watchers 36 = .ok (.iload_n 3, 1) := by decide +kernel
theorem dX8_watchers_37 : decode cX8_watchers 37 = .ok (.ishl, 1) := by decide +kernel
theorem dX8_watchers_38 : decode cX8_watchers 38 = .ok (.goto 4, 3) := by decide +kernel
theorem dX8_watchers_41 : decode cX8_watchers 41 = .ok (.iconst 0, 1) := by decide +kernel
theorem dX8_watchers_42 : decode cX8_watchers 42 = .ok (.ior, 1) := by decide +kernel
theorem dX8_watchers_43 : decode cX8_watchers 43 = .ok (.istore_n 2, 1) := by decide +kernel
theorem dX8_watchers_44 : decode cX8_watchers 44 = .ok (.iinc 3 1, 3) := by decide +kernel
theorem dX8_watchers_47 : decode cX8_watchers 47 = .ok (.goto (-43), 3) := by decide +kernel
theorem dX8_watchers_50 : decode cX8_watchers 50 = .ok (.iload_n 2, 1) := by decide +kernel
theorem dX8_watchers_51 : decode cX8_watchers 51 = .ok (.ireturn, 1) := by decide +kernel
theorem dX8_isRow_0 : decode cX8_isRow 0 = .ok (.iload_n 1, 1) := by decide +kernel
theorem dX8_isRow_1 : decode cX8_isRow 1 = .ok (.istore_n 2, 1) := by decide +kernel
theorem dX8_isRow_2 : decode cX8_isRow 2 = .ok (.iconst 0, 1) := by decide +kernel
theorem dX8_isRow_3 : decode cX8_isRow 3 = .ok (.istore_n 3, 1) := by decide +kernel
theorem dX8_isRow_4 : decode cX8_isRow 4 = .ok (.iconst 1, 1) := by decide +kernel
theorem dX8_isRow_5 : decode cX8_isRow 5 = .ok (.istore 4, 2) := by decide +kernel
theorem dX8_isRow_7 : decode cX8_isRow 7 = .ok (.aload_n 0, 1) := by decide +kernel
theorem dX8_isRow_8 : decode cX8_isRow 8 = .ok (.getfield 132, 3) := by decide +kernel
theorem dX8_isRow_11 : decode cX8_isRow 11 = .ok (.iconst 1, 1) := by decide +kernel
theorem dX8_isRow_12 : decode cX8_isRow 12 = .ok (.isub, 1) := by decide +kernel
theorem dX8_isRow_13 : decode cX8_isRow 13 = .ok (.istore 5, 2) := by decide +kernel
theorem dX8_isRow_15 : decode cX8_isRow 15 = .ok (.iload 5, 2) := by decide +kernel
theorem dX8_isRow_17 : decode cX8_isRow 17 = .ok (.ifCond .lt 88, 3) := by decide +kernel
theorem dX8_isRow_20 : decode cX8_isRow 20 = .ok (.iload_n 2, 1) := by decide +kernel
theorem dX8_isRow_21 : decode cX8_isRow 21 = .ok (.iconst 4, 1) := by decide +kernel
theorem dX8_isRow_22 : decode cX8_isRow 22 = .ok (.irem, 1) := by decide +kernel
theorem dX8_isRow_23 : decode cX8_isRow 23 = .ok (.istore 6, 2) := by decide +kernel
theorem dX8_isRow_25 : decode cX8_isRow 25 = .ok (.iload_n 2, 1) := by decide +kernel
theorem dX8_isRow_26 : decode cX8_isRow 26 = .ok (.iconst 4, 1) := by decide +kernel
theorem dX8_isRow_27 : decode cX8_isRow 27 = .ok (.idiv, 1) := by decide +kernel
theorem dX8_isRow_28 : decode cX8_isRow 28 = .ok (.istore_n 2, 1) := by decide +kernel
theorem dX8_isRow_29 : decode cX8_isRow 29 = .ok (.aload_n 0, 1) := by decide +kernel
theorem dX8_isRow_30 : decode cX8_isRow 30 = .ok (.getfield 31, 3) := by decide +kernel
theorem dX8_isRow_33 : decode cX8_isRow 33 = .ok (.iload 5, 2) := by decide +kernel
theorem dX8_isRow_35 : decode cX8_isRow 35 = .ok (.iload 6, 2) := by decide +kernel
theorem dX8_isRow_37 : decode cX8_isRow 37 = .ok (.iastore, 1) := by decide +kernel
theorem dX8_isRow_38 : decode cX8_isRow 38 = .ok (.iload 4, 2) := by decide +kernel
theorem dX8_isRow_40 : decode cX8_isRow 40 = .ok (.ifCond .eq 49, 3) := by decide +kernel
theorem dX8_isRow_43 : decode cX8_isRow 43 = .ok (.iload 6, 2) := by decide +kernel
theorem dX8_isRow_45 : decode cX8_isRow 45 = .ok (.aload_n 0, 1) := by decide +kernel
theorem dX8_isRow_46 : decode cX8_isRow 46 = .ok (.getfield 7, 3) := by decide +kernel
theorem dX8_isRow_49 : decode cX8_isRow 49 = .ok (.iconst 0, 1) := by decide +kernel
theorem dX8_isRow_50 : decode cX8_isRow 50 = .ok (.iaload, 1) := by decide +kernel
theorem dX8_isRow_51 : decode cX8_isRow 51 = .ok (.if_icmp .ge 38, 3) := by decide +kernel
theorem dX8_isRow_54 : decode cX8_isRow 54 = .ok (.aload_n 0, 1) := by decide +kernel
theorem dX8_isRow_55 : decode cX8_isRow 55 = .ok (.getfield 7, 3) := by decide +kernel
theorem dX8_isRow_58 : decode cX8_isRow 58 = .ok (.iconst 1, 1) := by decide +kernel
theorem dX8_isRow_59 : decode cX8_isRow 59 = .ok (.aload_n 0, 1) := by decide +kernel
theorem dX8_isRow_60 : decode cX8_isRow 60 = .ok (.getfield 25, 3) := by decide +kernel
theorem dX8_isRow_63 : decode cX8_isRow 63 = .ok (.iload 5, 2) := by decide +kernel
theorem dX8_isRow_65 : decode cX8_isRow 65 = .ok (.iaload, 1) := by decide +kernel
theorem dX8_isRow_66 : decode cX8_isRow 66 = .ok (.iadd, 1) := by decide +kernel
theorem dX8_isRow_67 : decode cX8_isRow 67 = .ok (.iaload, 1) := by decide +kernel
theorem dX8_isRow_68 : decode cX8_isRow 68 = .ok (.iload 6, 2) := by decide +kernel
theorem dX8_isRow_70 : decode cX8_isRow 70 = .ok (.invokestatic 135, 3) := by decide +kernel
theorem dX8_isRow_73 : decode cX8_isRow 73 = .ok (.ifCond .eq 16, 3) := by decide +kernel
theorem dX8_isRow_76 : decode cX8_isRow 76 = .ok (.iload_n 3, 1) := by decide +kernel
theorem dX8_isRow_77 : decode cX8_isRow 77 = .ok (.iload 6, 2) := by decide +kernel
theorem dX8_isRow_79 : decode cX8_isRow 79 = .ok (.invokestatic 135, 3) := by decide +kernel
theorem dX8_isRow_82 : decode cX8_isRow 82 = .ok (.ifCond .ne 7, 3) := by decide +kernel
theorem dX8_isRow_85 : decode cX8_isRow 85 = .ok (.iconst 1, 1) := by decide +kernel
theorem dX8_isRow_86 : decode cX8_isRow 86 = .ok (.goto 4, 3) := by decide +kernel
theorem dX8_isRow_89 : decode cX8_isRow 89 = .ok (.iconst 0, 1) := by decide +kernel
theorem dX8_isRow_90 : decode cX8_isRow 90 = .ok (.istore 4, 2) := by decide +kernel
theorem dX8_isRow_92 : decode cX8_isRow 92 = .ok (.iload_n 3, 1) := by decide +kernel
theorem dX8_isRow_93 : decode cX8_isRow 93 = .ok (.iconst 1, 1) := by decide +kernel
theorem dX8_isRow_94 : decode cX8_isRow 94 = .ok (.iload 6, 2) := by decide +kernel
theorem dX8_isRow_96 : decode cX8_isRow 96 = .ok (.ishl, 1) := by decide +kernel
theorem dX8_isRow_97 : decode cX8_isRow 97 = .ok (.ior, 1) := by decide +kernel
theorem dX8_isRow_98 : decode cX8_isRow 98 = .ok (.istore_n 3, 1) := by decide +kernel
theorem dX8_isRow_99 : decode cX8_isRow 99 = .ok (.iinc 5 (-1), 3) := by decide +kernel
theorem dX8_isRow_102 : decode cX8_isRow 102 = .ok (.goto (-87), 3) := by decide +kernel
theorem dX8_isRow_105 : decode cX8_isRow 105 = .ok (.iload 4, 2) := by decide +kernel
theorem dX8_isRow_107 : decode cX8_isRow 107 = .ok (.ireturn, 1) := by decide +kernel
theorem dX8_canSit_0 : decode cX8_canSit 0 = .ok (.iconst 1, 1) := by decide +kernel
theorem dX8_canSit_1 : decode cX8_canSit 1 = .ok (.istore_n 1, 1) := by decide +kernel
theorem dX8_canSit_2 : decode cX8_canSit 2 = .ok (.iconst 0, 1) := by decide +kernel
theorem dX8_canSit_3 : decode cX8_canSit 3 = .ok (.istore_n 2, 1) := by decide +kernel
theorem dX8_canSit_4 : decode cX8_canSit 4 = .ok (.iload_n 2, 1) := by decide +kernel
theorem dX8_canSit_5 : decode cX8_canSit 5 = .ok (.aload_n 0, 1) := by decide +kernel
theorem dX8_canSit_6 : decode cX8_canSit 6 = .ok (.getfield 132, 3) := by decide +kernel
theorem dX8_canSit_9 : decode cX8_canSit 9 = .ok (.if_icmp .ge 13, 3) := by decide +kernel
theorem dX8_canSit_12 : decode cX8_canSit 12 = .ok (.iload_n 1, 1) := by decide +kernel
theorem dX8_canSit_13 : decode cX8_canSit 13 = .ok (.iconst 4, 1) := by decide +kernel
theorem dX8_canSit_14 : decode cX8_canSit 14 = .ok (.imul, 1) := by decide +kernel
theorem dX8_canSit_15 : decode cX8_canSit 15 = .ok (.istore_n 1, 1) := by decide +kernel
theorem dX8_canSit_16 : decode cX8_canSit 16 = .ok (.iinc 2 1, 3) := by decide +kernel
theorem dX8_canSit_19 : decode cX8_canSit 19 = .ok (.goto (-15), 3) := by decide +kernel
theorem dX8_canSit_22 : decode cX8_canSit 22 = .ok (.iconst 0, 1) := by decide +kernel
theorem dX8_canSit_23 : decode cX8_canSit 23 = .ok (.istore_n 2, 1) := by decide +kernel
theorem dX8_canSit_24 : decode cX8_canSit 24 = .ok (.iload_n 2, 1) := by decide +kernel
theorem dX8_canSit_25 : decode cX8_canSit 25 = .ok (.iload_n 1, 1) := by decide +kernel
theorem dX8_canSit_26 : decode cX8_canSit 26 = .ok (.if_icmp .ge 19, 3) := by decide +kernel
theorem dX8_canSit_29 : decode cX8_canSit 29 = .ok (.aload_n 0, 1) := by decide +kernel
theorem dX8_canSit_30 : decode cX8_canSit 30 = .ok (.iload_n 2, 1) := by decide +kernel
theorem dX8_canSit_31 : decode cX8_canSit 31 = .ok (.invokevirtual 138, 3) := by decide +kernel
theorem dX8_canSit_34 : decode cX8_canSit 34 = .ok (.ifCond .eq 5, 3) := by decide +kernel
theorem dX8_canSit_37 : decode cX8_canSit 37 = .ok (.iconst 1, 1) := by decide +kernel
theorem dX8_canSit_38 : decode cX8_canSit 38 = .ok (.ireturn, 1) := by decide +kernel
theorem dX8_canSit_39 : decode cX8_canSit 39 = .ok (.iinc 2 1, 3) := by decide +kernel
theorem dX8_canSit_42 : decode cX8_canSit 42 = .ok (.goto (-18), 3) := by decide +kernel
theorem dX8_canSit_45 : decode cX8_canSit 45 = .ok (.iconst 0, 1) := by decide +kernel
theorem dX8_canSit_46 : decode cX8_canSit 46 = .ok (.ireturn, 1) := by decide +kernel
theorem dX8_isJoined_0 : decode cX8_isJoined 0 = .ok (.aload_n 0, 1) := by decide +kernel
theorem dX8_isJoined_1 : decode cX8_isJoined 1 = .ok (.iload_n 1, 1) := by decide +kernel
theorem dX8_isJoined_2 : decode cX8_isJoined 2 = .ok (.iconst 5, 1) := by decide +kernel
theorem dX8_isJoined_3 : decode cX8_isJoined 3 = .ok (.invokevirtual 63, 3) := by decide +kernel
theorem dX8_isJoined_6 : decode cX8_isJoined 6 = .ok (.istore_n 2, 1) := by decide +kernel
theorem dX8_isJoined_7 : decode cX8_isJoined 7 = .ok (.aload_n 0, 1) := by decide +kernel
theorem dX8_isJoined_8 : decode cX8_isJoined 8 = .ok (.getfield 132, 3) := by decide +kernel
theorem dX8_isJoined_11 : decode cX8_isJoined 11 = .ok (.iload_n 2, 1) := by decide +kernel
theorem dX8_isJoined_12 : decode cX8_isJoined 12 = .ok (.iadd, 1) := by decide +kernel
theorem dX8_isJoined_13 : decode cX8_isJoined 13 = .ok (.aload_n 0, 1) := by decide +kernel
theorem dX8_isJoined_14 : decode cX8_isJoined 14 = .ok (.getfield 7, 3) := by decide +kernel
theorem dX8_isJoined_17 : decode cX8_isJoined 17 = .ok (.iconst 0, 1) := by decide +kernel
theorem dX8_isJoined_18 : decode cX8_isJoined 18 = .ok (.iaload, 1) := by decide +kernel
theorem dX8_isJoined_19 : decode cX8_isJoined 19 = .ok (.if_icmp .le 5, 3) := by decide +kernel
theorem dX8_isJoined_22 : decode cX8_isJoined 22 = .ok (.iconst 0, 1) := by decide +kernel
theorem dX8_isJoined_23 : decode cX8_isJoined 23 = .ok (.ireturn, 1) := by decide +kernel
theorem dX8_isJoined_24 : decode cX8_isJoined 24 = .ok (.iconst 0, 1) := by decide +kernel
theorem dX8_isJoined_25 : decode cX8_isJoined 25 = .ok (.istore_n 3, 1) := by decide +kernel
theorem dX8_isJoined_26 : decode cX8_isJoined 26 = .ok (.iload_n 3, 1) := by decide +kernel
theorem dX8_isJoined_27 : decode cX8_isJoined 27 = .ok (.iload_n 2, 1) := by decide +kernel
theorem dX8_isJoined_28 : decode cX8_isJoined 28 = .ok (.if_icmp .ge 46, 3) := by decide +kernel
theorem dX8_isJoined_31 : decode cX8_isJoined 31 = .ok (.aload_n 0, 1) := by decide +kernel
theorem dX8_isJoined_32 : decode cX8_isJoined 32 = .ok (.getfield 28, 3) := by decide +kernel
theorem dX8_isJoined_35 : decode cX8_isJoined 35 = .ok (.aload_n 0, 1) := by decide +kernel
theorem dX8_isJoined_36 : decode cX8_isJoined 36 = .ok (.getfield 132, 3) := by decide +kernel
theorem dX8_isJoined_39 : decode cX8_isJoined 39 = .ok (.iload_n 3, 1) := by decide +kernel
theorem dX8_isJoined_40 : decode cX8_isJoined 40 = .ok (.iadd, 1) := by decide +kernel
theorem dX8_isJoined_41 : decode cX8_isJoined 41 = .ok (.iload_n 1, 1) := by decide +kernel
theorem dX8_isJoined_42 : decode cX8_isJoined 42 = .ok (.iload_n 3, 1) := by decide +kernel
theorem dX8_isJoined_43 : decode cX8_isJoined 43 = .ok (.invokestatic 115, 3) := by decide +kernel
theorem dX8_isJoined_46 : decode cX8_isJoined 46 = .ok (.iastore, 1) := by decide +kernel
theorem dX8_isJoined_47 : decode cX8_isJoined 47 = .ok (.aload_n 0, 1) := by decide +kernel
theorem dX8_isJoined_48 : decode cX8_isJoined 48 = .ok (.getfield 25, 3) := by decide +kernel
theorem dX8_isJoined_51 : decode cX8_isJoined 51 = .ok (.aload_n 0, 1) := by decide +kernel
theorem dX8_isJoined_52 : decode cX8_isJoined 52 = .ok (.getfield 132, 3) := by decide +kernel
theorem dX8_isJoined_55 : decode cX8_isJoined 55 = .ok (.iload_n 3, 1) := by decide +kernel
theorem dX8_isJoined_56 : decode cX8_isJoined 56 = .ok (.iadd, 1) := by decide +kernel
theorem dX8_isJoined_57 : decode cX8_isJoined 57 = .ok (.aload_n 0, 1) := by decide +kernel
theorem dX8_isJoined_58 : decode cX8_isJoined 58 = .ok (.getfield 7, 3) := by decide +kernel
theorem dX8_isJoined_61 : decode cX8_isJoined 61 = .ok (.iload_n 1, 1) := by decide +kernel
theorem dX8_isJoined_62 : decode cX8_isJoined 62 = .ok (.iload_n 3, 1) := by decide +kernel
theorem dX8_isJoined_63 : decode cX8_isJoined 63 = .ok (.invokestatic 115, 3) := by decide +kernel
theorem dX8_isJoined_66 : decode cX8_isJoined 66 = .ok (.iaload, 1) := by decide +kernel
theorem dX8_isJoined_67 : decode cX8_isJoined 67 = .ok (.iastore, 1) := by decide +kernel
theorem dX8_isJoined_68 : decode cX8_isJoined 68 = .ok (.iinc 3 1, 3) := by decide +kernel
theorem dX8_isJoined_71 : decode cX8_isJoined 71 = .ok (.goto (-45), 3) := by decide +kernel
theorem dX8_isJoined_74 : decode cX8_isJoined 74 = .ok (.aload_n 0, 1) := by decide +kernel
theorem dX8_isJoined_75 : decode cX8_isJoined 75 = .ok (.dup, 1) := by decide +kernel
theorem dX8_isJoined_76 : decode cX8_isJoined 76 = .ok (.getfield 132, 3) := by decide +kernel
theorem dX8_isJoined_79 : decode cX8_isJoined 79 = .ok (.iload_n 2, 1) := by decide +kernel
theorem dX8_isJoined_80 : decode cX8_isJoined 80 = .ok (.iadd, 1) := by decide +kernel
theorem dX8_isJoined_81 : decode cX8_isJoined 81 = .ok (.putfield 132, 3) := by decide +kernel
theorem dX8_isJoined_84 : decode cX8_isJoined 84 = .ok (.aload_n 0, 1) := by decide +kernel
theorem dX8_isJoined_85 : decode cX8_isJoined 85 = .ok (.invokevirtual 141, 3) := by decide +kernel
theorem dX8_isJoined_88 : decode cX8_isJoined 88 = .ok (.istore_n 3, 1) := by decide +kernel
theorem dX8_isJoined_89 : decode cX8_isJoined 89 = .ok (.aload_n 0, 1) := by decide +kernel
theorem dX8_isJoined_90 : decode cX8_isJoined 90 = .ok (.dup, 1) := by decide +kernel
theorem dX8_isJoined_91 : decode cX8_isJoined 91 = .ok (.getfield 132, 3) := by decide +kernel
theorem dX8_isJoined_94 : decode cX8_isJoined 94 = .ok (.iload_n 3, 1) := by decide +kernel
theorem dX8_isJoined_95 : decode cX8_isJoined 95 = .ok (.ifCond .eq 7, 3) := by decide +kernel
theorem dX8_isJoined_98 : decode cX8_isJoined 98 = .ok (.iconst 0, 1) := by decide +kernel
theorem dX8_isJoined_99 : decode cX8_isJoined 99 = .ok (.goto 4, 3) := by decide +kernel
theorem dX8_isJoined_102 : decode cX8_isJoined 102 = .ok (.iload_n 2, 1) := by decide +kernel
theorem dX8_isJoined_103 : decode cX8_isJoined 103 = .ok (.isub, 1) := by decide +kernel
theorem dX8_isJoined_104 : decode cX8_isJoined 104 = .ok (.putfield 132, 3) := by decide +kernel
theorem dX8_isJoined_107 : decode cX8_isJoined 107 = .ok (.iload_n 3, 1) := by decide +kernel
theorem dX8_isJoined_108 : decode cX8_isJoined 108 = .ok (.ireturn, 1) := by decide +kernel
theorem dX8_clears_0 : decode cX8_clears 0 = .ok (.aload_n 0, 1) := by decide +kernel
theorem dX8_clears_1 : decode cX8_clears 1 = .ok (.iconst 0, 1) := by decide +kernel
theorem dX8_clears_2 : decode cX8_clears 2 = .ok (.putfield 132, 3) := by decide +kernel
theorem dX8_clears_5 : decode cX8_clears 5 = .ok (.iconst 0, 1) := by decide +kernel
theorem dX8_clears_6 : decode cX8_clears 6 = .ok (.istore_n 1, 1) := by decide +kernel
theorem dX8_clears_7 : decode cX8_clears 7 = .ok (.iload_n 1, 1) := by decide +kernel
theorem dX8_clears_8 : decode cX8_clears 8 = .ok (.aload_n 0, 1) := by decide +kernel
theorem dX8_clears_9 : decode cX8_clears 9 = .ok (.getfield 7, 3) := by decide +kernel
theorem dX8_clears_12 : decode cX8_clears 12 = .ok (.bipush 70, 2) := by decide +kernel
theorem dX8_clears_14 : decode cX8_clears 14 = .ok (.iaload, 1) := by decide +kernel
theorem dX8_clears_15 : decode cX8_clears 15 = .ok (.if_icmp .ge 53, 3) := by decide +kernel
theorem dX8_clears_18 : decode cX8_clears 18 = .ok (.aload_n 0, 1) := by decide +kernel
theorem dX8_clears_19 : decode cX8_clears 19 = .ok (.getfield 7, 3) := by decide +kernel
theorem dX8_clears_22 : decode cX8_clears 22 = .ok (.iload_n 1, 1) := by decide +kernel
theorem dX8_clears_23 : decode cX8_clears 23 = .ok (.invokestatic 55, 3) := by decide +kernel
theorem dX8_clears_26 : decode cX8_clears 26 = .ok (.bipush 9, 2) := by decide +kernel
theorem dX8_clears_28 : decode cX8_clears 28 = .ok (.iadd, 1) := by decide +kernel
theorem dX8_clears_29 : decode cX8_clears 29 = .ok (.iconst 0, 1) := by decide +kernel
theorem dX8_clears_30 : decode cX8_clears 30 = .ok (.iastore, 1) := by decide +kernel
theorem dX8_clears_31 : decode cX8_clears 31 = .ok (.iconst 0, 1) := by decide +kernel
theorem dX8_clears_32 : decode cX8_clears 32 = .ok (.istore_n 2, 1) := by decide +kernel
theorem dX8_clears_33 : decode cX8_clears 33 = .ok (.iload_n 2, 1) := by decide +kernel
theorem dX8_clears_34 : decode cX8_clears 34 = .ok (.aload_n 0, 1) := by decide +kernel
theorem dX8_clears_35 : decode cX8_clears 35 = .ok (.iload_n 1, 1) := by decide +kernel
theorem dX8_clears_36 : decode cX8_clears 36 = .ok (.iconst 5, 1) := by decide +kernel
theorem dX8_clears_37 : decode cX8_clears 37 = .ok (.invokevirtual 63, 3) := by decide +kernel
theorem dX8_clears_40 : decode cX8_clears 40 = .ok (.if_icmp .ge 22, 3) := by decide +kernel
theorem dX8_clears_43 : decode cX8_clears 43 = .ok (.aload_n 0, 1) := by decide +kernel
theorem dX8_clears_44 : decode cX8_clears 44 = .ok (.getfield 7, 3) := by decide +kernel
theorem dX8_clears_47 : decode cX8_clears 47 = .ok (.iload_n 1, 1) := by decide +kernel
theorem dX8_clears_48 : decode cX8_clears 48 = .ok (.iload_n 2, 1) := by decide +kernel
theorem dX8_clears_49 : decode cX8_clears 49 = .ok (.invokestatic 115, 3) := by decide +kernel
theorem dX8_clears_52 : decode cX8_clears 52 = .ok (.iconst 2, 1) := by decide +kernel
theorem dX8_clears_53 : decode cX8_clears 53 = .ok (.iadd, 1) := by decide +kernel
theorem dX8_clears_54 : decode cX8_clears 54 = .ok (.iconst (-1), 1) := by decide +kernel
theorem dX8_clears_55 : decode cX8_clears 55 = .ok (.iastore, 1) := by decide +kernel
theorem dX8_clears_56 : decode cX8_clears 56 = .ok (.iinc 2 1, 3) := by decide +kernel
theorem dX8_clears_59 : decode cX8_clears 59 = .ok (.goto (-26), 3) := by decide +kernel
theorem dX8_clears_62 : decode cX8_clears 62 = .ok (.iinc 1 1, 3) := by decide +kernel
theorem dX8_clears_65 : decode cX8_clears 65 = .ok (.goto (-58), 3) := by decide +kernel
theorem dX8_clears_68 : decode cX8_clears 68 = .ok (.return_, 1) := by decide +kernel
theorem dX8_joins_0 : decode cX8_joins 0 = .ok (.aload_n 0, 1) := by decide +kernel
theorem dX8_joins_1 : decode cX8_joins 1 = .ok (.invokevirtual 145, 3) := by decide +kernel
theorem dX8_joins_4 : decode cX8_joins 4 = .ok (.iconst 0, 1) := by decide +kernel
theorem dX8_joins_5 : decode cX8_joins 5 = .ok (.istore_n 2, 1) := by decide +kernel
theorem dX8_joins_6 : decode cX8_joins 6 = .ok (.iload_n 2, 1) := by decide +kernel
theorem dX8_joins_7 : decode cX8_joins 7 = .ok (.aload_n 0, 1) := by decide +kernel
theorem dX8_joins_8 : decode cX8_joins 8 = .ok (.getfield 7, 3) := by decide +kernel
theorem dX8_joins_11 : decode cX8_joins 11 = .ok (.bipush 70, 2) := by decide +kernel
theorem dX8_joins_13 : decode cX8_joins 13 = .ok (.iaload, 1) := by decide +kernel
theorem dX8_joins_14 : decode cX8_joins 14 = .ok (.if_icmp .ge 74, 3) := by decide +kernel
theorem dX8_joins_17 : decode cX8_joins 17 = .ok (.iload_n 1, 1) := by decide +kernel
theorem dX8_joins_18 : decode cX8_joins 18 = .ok (.iload_n 2, 1) := by decide +kernel
theorem dX8_joins_19 : decode cX8_joins 19 = .ok (.invokestatic 135, 3) := by decide +kernel
theorem dX8_joins_22 : decode cX8_joins 22 = .ok (.ifCond .eq 60, 3) := by decide +kernel
theorem dX8_joins_25 : decode cX8_joins 25 = .ok (.aload_n 0, 1) := by decide +kernel
theorem dX8_joins_26 : decode cX8_joins 26 = .ok (.iload_n 2, 1) := by decide +kernel
theorem dX8_joins_27 : decode cX8_joins 27 = .ok (.iconst 2, 1) := by decide +kernel
theorem dX8_joins_28 : decode cX8_joins 28 = .ok (.invokevirtual 63, 3) := by decide +kernel
theorem dX8_joins_31 : decode cX8_joins 31 = .ok (.iconst 1, 1) := by decide +kernel
theorem dX8_joins_32 : decode cX8_joins 32 = .ok (.if_icmp .ne 50, 3) := by decide +kernel
theorem dX8_joins_35 : decode cX8_joins 35 = .ok (.aload_n 0, 1) := by decide +kernel
theorem dX8_joins_36 : decode cX8_joins 36 = .ok (.iload_n 2, 1) := by decide +kernel
theorem dX8_joins_37 : decode cX8_joins 37 = .ok (.invokevirtual 148, 3) := by decide +kernel
theorem dX8_joins_40 : decode cX8_joins 40 = .ok (.istore_n 3, 1) := by decide +kernel
theorem dX8_joins_41 : decode cX8_joins 41 = .ok (.aload_n 0, 1) := by decide +kernel
theorem dX8_joins_42 : decode cX8_joins 42 = .ok (.getfield 7, 3) := by decide +kernel
theorem dX8_joins_45 : decode cX8_joins 45 = .ok (.iload_n 2, 1) := by decide +kernel
theorem dX8_joins_46 : decode cX8_joins 46 = .ok (.invokestatic 55, 3) := by decide +kernel
theorem dX8_joins_49 : decode cX8_joins 49 = .ok (.bipush 9, 2) := by decide +kernel
theorem dX8_joins_51 : decode cX8_joins 51 = .ok (.iadd, 1) := by decide +kernel
theorem dX8_joins_52 : decode cX8_joins 52 = .ok (.iload_n 3, 1) := by decide +kernel
theorem dX8_joins_53 : decode cX8_joins 53 = .ok (.ifCond .eq 7, 3) := by decide +kernel
theorem dX8_joins_56 : decode cX8_joins 56 = .ok (.iconst 1, 1) := by decide +kernel
theorem dX8_joins_57 : decode cX8_joins 57 = .ok (.goto 4, 3) := by decide +kernel
theorem dX8_joins_60 : decode cX8_joins 60 = .ok (.iconst 0, 1) := by decide +kernel
theorem dX8_joins_61 : decode cX8_joins 61 = .ok (.iastore, 1) := by decide +kernel
theorem dX8_joins_62 : decode cX8_joins 62 = .ok (.aload_n 0, 1) := by decide +kernel
theorem dX8_joins_63 : decode cX8_joins 63 = .ok (.getfield 7, 3) := by decide +kernel
theorem dX8_joins_66 : decode cX8_joins 66 = .ok (.iload_n 2, 1) := by decide +kernel
theorem dX8_joins_67 : decode cX8_joins 67 = .ok (.invokestatic 55, 3) := by decide +kernel
theorem dX8_joins_70 : decode cX8_joins 70 = .ok (.iconst 4, 1) := by decide +kernel
theorem dX8_joins_71 : decode cX8_joins 71 = .ok (.iadd, 1) := by decide +kernel
theorem dX8_joins_72 : decode cX8_joins 72 = .ok (.iload_n 3, 1) := by decide +kernel
theorem dX8_joins_73 : decode cX8_joins 73 = .ok (.ifCond .eq 7, 3) := by decide +kernel
theorem dX8_joins_76 : decode cX8_joins 76 = .ok (.iconst 1, 1) := by decide +kernel
theorem dX8_joins_77 : decode cX8_joins 77 = .ok (.goto 4, 3) := by decide +kernel
theorem dX8_joins_80 : decode cX8_joins 80 = .ok (.iconst 0, 1) := by decide +kernel
theorem dX8_joins_81 : decode cX8_joins 81 = .ok (.iastore, 1) := by decide +kernel
theorem dX8_joins_82 : decode cX8_joins 82 = .ok (.iinc 2 1, 3) := by decide +kernel
theorem dX8_joins_85 : decode cX8_joins 85 = .ok (.goto (-79), 3) := by decide +kernel
theorem dX8_joins_88 : decode cX8_joins 88 = .ok (.iconst 1, 1) := by decide +kernel
theorem dX8_joins_89 : decode cX8_joins 89 = .ok (.istore_n 2, 1) := by decide +kernel
theorem dX8_joins_90 : decode cX8_joins 90 = .ok (.iload_n 2, 1) := by decide +kernel
theorem dX8_joins_91 : decode cX8_joins 91 = .ok (.aload_n 0, 1) := by decide +kernel
theorem dX8_joins_92 : decode cX8_joins 92 = .ok (.getfield 7, 3) := by decide +kernel
theorem dX8_joins_95 : decode cX8_joins 95 = .ok (.sipush 419, 3) := by decide +kernel
theorem dX8_joins_98 : decode cX8_joins 98 = .ok (.iaload, 1) := by decide +kernel
theorem dX8_joins_99 : decode cX8_joins 99 = .ok (.if_icmp .gt 53, 3) := by decide +kernel
theorem dX8_joins_102 : decode cX8_joins 102 = .ok (.aload_n 0, 1) := by decide +kernel
theorem dX8_joins_103 : decode cX8_joins 103 = .ok (.getfield 7, 3) := by decide +kernel
theorem dX8_joins_106 : decode cX8_joins 106 = .ok (.sipush 419, 3) := by decide +kernel
theorem dX8_joins_109 : decode cX8_joins 109 = .ok (.iload_n 2, 1) := by decide +kernel
theorem dX8_joins_110 : decode cX8_joins 110 = .ok (.iadd, 1) := by decide +kernel
theorem dX8_joins_111 : decode cX8_joins 111 = .ok (.iaload, 1) := by decide +kernel
theorem dX8_joins_112 : decode cX8_joins 112 = .ok (.istore_n 3, 1) := by decide +kernel
theorem dX8_joins_113 : decode cX8_joins 113 = .ok (.iload_n 1, 1) := by decide +kernel
theorem dX8_joins_114 : decode cX8_joins 114 = .ok (.iload_n 3, 1) := by decide +kernel
theorem dX8_joins_115 : decode cX8_joins 115 = .ok (.invokestatic 135, 3) := by decide +kernel
theorem dX8_joins_118 : decode cX8_joins 118 = .ok (.ifCond .eq 28, 3) := by decide +kernel
theorem dX8_joins_121 : decode cX8_joins 121 = .ok (.aload_n 0, 1) := by decide +kernel
theorem dX8_joins_122 : decode cX8_joins 122 = .ok (.getfield 7, 3) := by decide +kernel
theorem dX8_joins_125 : decode cX8_joins 125 = .ok (.iload_n 3, 1) := by decide +kernel
theorem dX8_joins_126 : decode cX8_joins 126 = .ok (.invokestatic 55, 3) := by decide +kernel
theorem dX8_joins_129 : decode cX8_joins 129 = .ok (.bipush 9, 2) := by decide +kernel
theorem dX8_joins_131 : decode cX8_joins 131 = .ok (.iadd, 1) := by decide +kernel
theorem dX8_joins_132 : decode cX8_joins 132 = .ok (.aload_n 0, 1) := by decide +kernel
theorem dX8_joins_133 : decode cX8_joins 133 = .ok (.iload_n 3, 1) := by decide +kernel
theorem dX8_joins_134 : decode cX8_joins 134 = .ok (.invokevirtual 148, 3) := by decide +kernel
theorem dX8_joins_137 : decode cX8_joins 137 = .ok (.ifCond .eq 7, 3) := by decide +kernel
theorem dX8_joins_140 : decode cX8_joins 140 = .ok (.iconst 1, 1) := by decide +kernel
theorem dX8_joins_141 : decode cX8_joins 141 = .ok (.goto 4, 3) := by decide +kernel
theorem dX8_joins_144 : decode cX8_joins 144 = .ok (.iconst 0, 1) := by decide +kernel
theorem dX8_joins_145 : decode cX8_joins 145 = .ok (.iastore, 1) := by decide +kernel
theorem dX8_joins_146 : decode cX8_joins 146 = .ok (.iinc 2 1, 3) := by decide +kernel
theorem dX8_joins_149 : decode cX8_joins 149 = .ok (.goto (-59), 3) := by decide +kernel
theorem dX8_joins_152 : decode cX8_joins 152 = .ok (.aload_n 0, 1) := by decide +kernel
theorem dX8_joins_153 : decode cX8_joins 153 = .ok (.invokevirtual 141, 3) := by decide +kernel
theorem dX8_joins_156 : decode cX8_joins 156 = .ok (.istore_n 2, 1) := by decide +kernel
theorem dX8_joins_157 : decode cX8_joins 157 = .ok (.iconst 0, 1) := by decide +kernel
theorem dX8_joins_158 : decode cX8_joins 158 = .ok (.istore_n 3, 1) := by decide +kernel
theorem dX8_joins_159 : decode cX8_joins 159 = .ok (.iload_n 3, 1) := by decide +kernel
theorem dX8_joins_160 : decode cX8_joins 160 = .ok (.aload_n 0, 1) := by decide +kernel
theorem dX8_joins_161 : decode cX8_joins 161 = .ok (.getfield 132, 3) := by decide +kernel
theorem dX8_joins_164 : decode cX8_joins 164 = .ok (.if_icmp .ge 32, 3) := by decide +kernel
theorem dX8_joins_167 : decode cX8_joins 167 = .ok (.iload_n 2, 1) := by decide +kernel
theorem dX8_joins_168 : decode cX8_joins 168 = .ok (.ifCond .eq 28, 3) := by decide +kernel
theorem dX8_joins_171 : decode cX8_joins 171 = .ok (.aload_n 0, 1) := by decide +kernel
theorem dX8_joins_172 : decode cX8_joins 172 = .ok (.getfield 7, 3) := by decide +kernel
theorem dX8_joins_175 : decode cX8_joins 175 = .ok (.aload_n 0, 1) := by decide +kernel
theorem dX8_joins_176 : decode cX8_joins 176 = .ok (.getfield 28, 3) := by decide +kernel
theorem dX8_joins_179 : decode cX8_joins 179 = .ok (.iload_n 3, 1) := by decide +kernel
theorem dX8_joins_180 : decode cX8_joins 180 = .ok (.iaload, 1) := by decide +kernel
theorem dX8_joins_181 : decode cX8_joins 181 = .ok (.iconst 2, 1) := by decide +kernel
theorem dX8_joins_182 : decode cX8_joins 182 = .ok (.iadd, 1) := by decide +kernel
theorem dX8_joins_183 : decode cX8_joins 183 = .ok (.aload_n 0, 1) := by decide +kernel
theorem dX8_joins_184 : decode cX8_joins 184 = .ok (.getfield 31, 3) := by decide +kernel
theorem dX8_joins_187 : decode cX8_joins 187 = .ok (.iload_n 3, 1) := by decide +kernel
theorem dX8_joins_188 : decode cX8_joins 188 = .ok (.iaload, 1) := by decide +kernel
theorem dX8_joins_189 : decode cX8_joins 189 = .ok (.iastore, 1) := by decide +kernel
theorem dX8_joins_190 : decode cX8_joins 190 = .ok (.iinc 3 1, 3) := by decide +kernel
theorem dX8_joins_193 : decode cX8_joins 193 = .ok (.goto (-34), 3) := by decide +kernel
theorem dX8_joins_196 : decode cX8_joins 196 = .ok (.return_, 1) := by decide +kernel
theorem dX8_counts_0 : decode cX8_counts 0 = .ok (.iconst 0, 1) := by decide +kernel
theorem dX8_counts_1 : decode cX8_counts 1 = .ok (.istore_n 3, 1) := by decide +kernel
theorem dX8_counts_2 : decode cX8_counts 2 = .ok (.iload_n 3, 1) := by decide +kernel
theorem dX8_counts_3 : decode cX8_counts 3 = .ok (.aload_n 0, 1) := by decide +kernel
theorem dX8_counts_4 : decode cX8_counts 4 = .ok (.getfield 7, 3) := by decide +kernel
theorem dX8_counts_7 : decode cX8_counts 7 = .ok (.bipush 70, 2) := by decide +kernel
theorem dX8_counts_9 : decode cX8_counts 9 = .ok (.iaload, 1) := by decide +kernel
theorem dX8_counts_10 : decode cX8_counts 10 = .ok (.if_icmp .ge 181, 3) := by decide +kernel
theorem dX8_counts_13 : decode cX8_counts 13 = .ok (.iload_n 3, 1) := by decide +kernel
theorem dX8_counts_14 : decode cX8_counts 14 = .ok (.invokestatic 55, 3) := by decide +kernel
theorem dX8_counts_17 : decode cX8_counts 17 = .ok (.istore 4, 2) := by decide +kernel
theorem dX8_counts_19 : decode cX8_counts 19 = .ok (.aload_n 0, 1) := by decide +kernel
theorem dX8_counts_20 : decode cX8_counts 20 = .ok (.getfield 7, 3) := by decide +kernel
theorem dX8_counts_23 : decode cX8_counts 23 = .ok (.iload 4, 2) := by decide +kernel
theorem dX8_counts_25 : decode cX8_counts 25 = .ok (.bipush 46, 2) := by decide +kernel
theorem dX8_counts_27 : decode cX8_counts 27 = .ok (.iadd, 1) := by decide +kernel
theorem dX8_counts_28 : decode cX8_counts 28 = .ok (.iload_n 1, 1) := by decide +kernel
theorem dX8_counts_29 : decode cX8_counts 29 = .ok (.iadd, 1) := by decide +kernel
theorem dX8_counts_30 : decode cX8_counts 30 = .ok (.dup2, 1) := by decide +kernel
theorem dX8_counts_31 : decode cX8_counts 31 = .ok (.iaload, 1) := by decide +kernel
theorem dX8_counts_32 : decode cX8_counts 32 = .ok (.iload_n 2, 1) := by decide +kernel
theorem dX8_counts_33 : decode cX8_counts 33 = .ok (.iload_n 3, 1) := by decide +kernel
theorem dX8_counts_34 : decode cX8_counts 34 = .ok (.invokestatic 135, 3) := by decide +kernel
theorem dX8_counts_37 : decode cX8_counts 37 = .ok (.ifCond .eq 7, 3) := by decide +kernel
theorem dX8_counts_40 : decode cX8_counts 40 = .ok (.iconst 1, 1) := by decide +kernel
theorem dX8_counts_41 : decode cX8_counts 41 = .ok (.goto 4, 3) := by decide +kernel
theorem dX8_counts_44 : decode cX8_counts 44 = .ok (.iconst 0, 1) := by decide +kernel
theorem dX8_counts_45 : decode cX8_counts 45 = .ok (.iadd, 1) := by decide +kernel
theorem dX8_counts_46 : decode cX8_counts 46 = .ok (.iastore, 1) := by decide +kernel
theorem dX8_counts_47 : decode cX8_counts 47 = .ok (.aload_n 0, 1) := by decide +kernel
theorem dX8_counts_48 : decode cX8_counts 48 = .ok (.getfield 7, 3) := by decide +kernel
theorem dX8_counts_51 : decode cX8_counts 51 = .ok (.iload 4, 2) := by decide +kernel
theorem dX8_counts_53 : decode cX8_counts 53 = .ok (.bipush 52, 2) := by decide +kernel
theorem dX8_counts_55 : decode cX8_counts 55 = .ok (.iadd, 1) := by decide +kernel
theorem dX8_counts_56 : decode cX8_counts 56 = .ok (.iload_n 1, 1) := by decide +kernel
theorem dX8_counts_57 : decode cX8_counts 57 = .ok (.iadd, 1) := by decide +kernel
theorem dX8_counts_58 : decode cX8_counts 58 = .ok (.dup2, 1) := by decide +kernel
theorem dX8_counts_59 : decode cX8_counts 59 = .ok (.iaload, 1) := by decide +kernel
theorem dX8_counts_60 : decode cX8_counts 60 = .ok (.aload_n 0, 1) := by decide +kernel
theorem dX8_counts_61 : decode cX8_counts 61 = .ok (.getfield 7, 3) := by decide +kernel
theorem dX8_counts_64 : decode cX8_counts 64 = .ok (.iload 4, 2) := by decide +kernel
theorem dX8_counts_66 : decode cX8_counts 66 = .ok (.bipush 9, 2) := by decide +kernel
theorem dX8_counts_68 : decode cX8_counts 68 = .ok (.iadd, 1) := by decide +kernel
theorem dX8_counts_69 : decode cX8_counts 69 = .ok (.iaload, 1) := by decide +kernel
theorem dX8_counts_70 : decode cX8_counts 70 = .ok (.iadd, 1) := by decide +kernel
theorem dX8_counts_71 : decode cX8_counts 71 = .ok (.iastore, 1) := by decide +kernel
theorem dX8_counts_72 : decode cX8_counts 72 = .ok (.iconst 0, 1) := by decide +kernel
theorem dX8_counts_73 : decode cX8_counts 73 = .ok (.istore 5, 2) := by decide +kernel
theorem dX8_counts_75 : decode cX8_counts 75 = .ok (.iload 5, 2) := by decide +kernel
theorem dX8_counts_77 : decode cX8_counts 77 = .ok (.aload_n 0, 1) := by decide +kernel
theorem dX8_counts_78 : decode cX8_counts 78 = .ok (.getfield 7, 3) := by decide +kernel
theorem dX8_counts_81 : decode cX8_counts 81 = .ok (.iload 4, 2) := by decide +kernel
theorem dX8_counts_83 : decode cX8_counts 83 = .ok (.iconst 5, 1) := by decide +kernel
theorem dX8_counts_84 : decode cX8_counts 84 = .ok (.iadd, 1) := by decide +kernel
theorem dX8_counts_85 : decode cX8_counts 85 = .ok (.iaload, 1) := by decide +kernel
theorem dX8_counts_86 : decode cX8_counts 86 = .ok (.if_icmp .ge 99, 3) := by decide +kernel
theorem dX8_counts_89 : decode cX8_counts 89 = .ok (.aload_n 0, 1) := by decide +kernel
theorem dX8_counts_90 : decode cX8_counts 90 = .ok (.getfield 7, 3) := by decide +kernel
theorem dX8_counts_93 : decode cX8_counts 93 = .ok (.iload 4, 2) := by decide +kernel
theorem dX8_counts_95 : decode cX8_counts 95 = .ok (.bipush 9, 2) := by decide +kernel
theorem dX8_counts_97 : decode cX8_counts 97 = .ok (.iadd, 1) := by decide +kernel
theorem dX8_counts_98 : decode cX8_counts 98 = .ok (.iaload, 1) := by decide +kernel
theorem dX8_counts_99 : decode cX8_counts 99 = .ok (.iconst 1, 1) := by decide +kernel
theorem dX8_counts_100 : decode cX8_counts 100 = .ok (.if_icmp .ne 85, 3) := by decide +kernel
theorem dX8_counts_103 : decode cX8_counts 103 = .ok (.aload_n 0, 1) := by decide +kernel
theorem dX8_counts_104 : decode cX8_counts 104 = .ok (.iload_n 1, 1) := by decide +kernel
theorem dX8_counts_105 : decode cX8_counts 105 = .ok (.aload_n 0, 1) := by decide +kernel
theorem dX8_counts_106 : decode cX8_counts 106 = .ok (.getfield 7, 3) := by decide +kernel
theorem dX8_counts_109 : decode cX8_counts 109 = .ok (.iload_n 3, 1) := by decide +kernel
theorem dX8_counts_110 : decode cX8_counts 110 = .ok (.iload 5, 2) := by decide +kernel
theorem dX8_counts_112 : decode cX8_counts 112 = .ok (.invokestatic 115, 3) := by decide +kernel
theorem dX8_counts_115 : decode cX8_counts 115 = .ok (.iaload, 1) := by decide +kernel
theorem dX8_counts_116 : decode cX8_counts 116 = .ok (.invokevirtual 92, 3) := by decide +kernel
theorem dX8_counts_119 : decode cX8_counts 119 = .ok (.istore 6, 2) := by decide +kernel
theorem dX8_counts_121 : decode cX8_counts 121 = .ok (.aload_n 0, 1) := by decide +kernel
theorem dX8_counts_122 : decode cX8_counts 122 = .ok (.getfield 7, 3) := by decide +kernel
theorem dX8_counts_125 : decode cX8_counts 125 = .ok (.iload_n 3, 1) := by decide +kernel
theorem dX8_counts_126 : decode cX8_counts 126 = .ok (.iload 5, 2) := by decide +kernel
theorem dX8_counts_128 : decode cX8_counts 128 = .ok (.iload_n 1, 1) := by decide +kernel
theorem dX8_counts_129 : decode cX8_counts 129 = .ok (.invokestatic 111, 3) := by decide +kernel
theorem dX8_counts_132 : decode cX8_counts 132 = .ok (.dup2, 1) := by decide +kernel
theorem dX8_counts_133 : decode cX8_counts 133 = .ok (.iaload, 1) := by decide +kernel
theorem dX8_counts_134 : decode cX8_counts 134 = .ok (.iload 6, 2) := by decide +kernel
theorem dX8_counts_136 : decode cX8_counts 136 = .ok (.iadd, 1) := by decide +kernel
theorem dX8_counts_137 : decode cX8_counts 137 = .ok (.iastore, 1) := by decide +kernel
theorem dX8_counts_138 : decode cX8_counts 138 = .ok (.iload_n 3, 1) := by decide +kernel
theorem dX8_counts_139 : decode cX8_counts 139 = .ok (.iload 5, 2) := by decide +kernel
theorem dX8_counts_141 : decode cX8_counts 141 = .ok (.invokestatic 115, 3) := by decide +kernel
theorem dX8_counts_144 : decode cX8_counts 144 = .ok (.iconst 1, 1) := by decide +kernel
theorem dX8_counts_145 : decode cX8_counts 145 = .ok (.iadd, 1) := by decide +kernel
theorem dX8_counts_146 : decode cX8_counts 146 = .ok (.istore 7, 2) := by decide +kernel
theorem dX8_counts_148 : decode cX8_counts 148 = .ok (.aload_n 0, 1) := by decide +kernel
theorem dX8_counts_149 : decode cX8_counts 149 = .ok (.getfield 7, 3) := by decide +kernel
theorem dX8_counts_152 : decode cX8_counts 152 = .ok (.iload 7, 2) := by decide +kernel
theorem dX8_counts_154 : decode cX8_counts 154 = .ok (.iload 6, 2) := by decide +kernel
theorem dX8_counts_156 : decode cX8_counts 156 = .ok (.aload_n 0, 1) := by decide +kernel
theorem dX8_counts_157 : decode cX8_counts 157 = .ok (.getfield 7, 3) := by decide +kernel
theorem dX8_counts_160 : decode cX8_counts 160 = .ok (.iload 7, 2) := by decide +kernel
theorem dX8_counts_162 : decode cX8_counts 162 = .ok (.iaload, 1) := by decide +kernel
theorem dX8_counts_163 : decode cX8_counts 163 = .ok (.if_icmp .le 8, 3) := by decide +kernel
theorem dX8_counts_166 : decode cX8_counts 166 = .ok (.iload 6, 2) := by decide +kernel
theorem dX8_counts_168 : decode cX8_counts 168 = .ok (.goto 10, 3) := by decide +kernel
theorem dX8_counts_171 : decode cX8_counts 171 = .ok (.aload_n 0, 1) := by decide +kernel
theorem dX8_counts_172 : decode cX8_counts 172 = .ok (.getfield 7, 3) := by decide +kernel
theorem dX8_counts_175 : decode cX8_counts 175 = .ok (.iload 7, 2) := by decide +kernel
theorem dX8_counts_177 : decode cX8_counts 177 = .ok (.iaload, 1) := by decide +kernel
theorem dX8_counts_178 : decode cX8_counts 178 = .ok (.iastore, 1) := by decide +kernel
theorem dX8_counts_179 : decode cX8_counts 179 = .ok (.iinc 5 1, 3) := by decide +kernel
theorem dX8_counts_182 : decode cX8_counts 182 = .ok (.goto (-107), 3) := by decide +kernel
theorem dX8_counts_185 : decode cX8_counts 185 = .ok (.iinc 3 1, 3) := by decide +kernel
theorem dX8_counts_188 : decode cX8_counts 188 = .ok (.goto (-186), 3) := by decide +kernel
theorem dX8_counts_191 : decode cX8_counts 191 = .ok (.return_, 1) := by decide +kernel
theorem dX8_samplesCome_0 : decode cX8_samplesCome 0 = .ok (.iconst 0, 1) := by decide +kernel
theorem dX8_samplesCome_1 : decode cX8_samplesCome 1 = .ok (.istore_n 2, 1) := by decide +kernel
theorem dX8_samplesCome_2 : decode cX8_samplesCome 2 = .ok (.iload_n 2, 1) := by decide +kernel
