theorem dX0_init_0 : decode cX0_init 0 = .ok (.aload_n 0, 1) := by decide +kernel
theorem dX0_init_1 : decode cX0_init 1 = .ok (.invokespecial 3, 3) := by decide +kernel
theorem dX0_init_4 : decode cX0_init 4 = .ok (.aload_n 0, 1) := by decide +kernel
theorem dX0_init_5 : decode cX0_init 5 = .ok (.iconst 4, 1) := by decide +kernel
theorem dX0_init_6 : decode cX0_init 6 = .ok (.newarray .int, 2) := by decide +kernel
theorem dX0_init_8 : decode cX0_init 8 = .ok (.putfield 9, 3) := by decide +kernel
theorem dX0_init_11 : decode cX0_init 11 = .ok (.aload_n 0, 1) := by decide +kernel
theorem dX0_init_12 : decode cX0_init 12 = .ok (.iconst 4, 1) := by decide +kernel
theorem dX0_init_13 : decode cX0_init 13 = .ok (.newarray .int, 2) := by decide +kernel
theorem dX0_init_15 : decode cX0_init 15 = .ok (.putfield 15, 3) := by decide +kernel
theorem dX0_init_18 : decode cX0_init 18 = .ok (.aload_n 0, 1) := by decide +kernel
theorem dX0_init_19 : decode cX0_init 19 = .ok (.iconst 4, 1) := by decide +kernel
theorem dX0_init_20 : decode cX0_init 20 = .ok (.newarray .int, 2) := by decide +kernel
theorem dX0_init_22 : decode cX0_init 22 = .ok (.putfield 18, 3) := by decide +kernel
theorem dX0_init_25 : decode cX0_init 25 = .ok (.aload_n 0, 1) := by decide +kernel
theorem dX0_init_26 : decode cX0_init 26 = .ok (.bipush 24, 2) := by decide +kernel
theorem dX0_init_28 : decode cX0_init 28 = .ok (.newarray .int, 2) := by decide +kernel
theorem dX0_init_30 : decode cX0_init 30 = .ok (.putfield 21, 3) := by decide +kernel
theorem dX0_init_33 : decode cX0_init 33 = .ok (.aload_n 0, 1) := by decide +kernel
theorem dX0_init_34 : decode cX0_init 34 = .ok (.bipush 6, 2) := by decide +kernel
theorem dX0_init_36 : decode cX0_init 36 = .ok (.newarray .int, 2) := by decide +kernel
theorem dX0_init_38 : decode cX0_init 38 = .ok (.putfield 24, 3) := by decide +kernel
theorem dX0_init_41 : decode cX0_init 41 = .ok (.aload_n 0, 1) := by decide +kernel
theorem dX0_init_42 : decode cX0_init 42 = .ok (.bipush 6, 2) := by decide +kernel
theorem dX0_init_44 : decode cX0_init 44 = .ok (.newarray .int, 2) := by decide +kernel
theorem dX0_init_46 : decode cX0_init 46 = .ok (.putfield 27, 3) := by decide +kernel
theorem dX0_init_49 : decode cX0_init 49 = .ok (.return_, 1) := by decide +kernel
theorem dX0_begin_0 : decode cX0_begin 0 = .ok (.aload_n 0, 1) := by decide +kernel
theorem dX0_begin_1 : decode cX0_begin 1 = .ok (.iload_n 1, 1) := by decide +kernel
theorem dX0_begin_2 : decode cX0_begin 2 = .ok (.putfield 30, 3) := by decide +kernel
theorem dX0_begin_5 : decode cX0_begin 5 = .ok (.aload_n 0, 1) := by decide +kernel
theorem dX0_begin_6 : decode cX0_begin 6 = .ok (.iload_n 2, 1) := by decide +kernel
theorem dX0_begin_7 : decode cX0_begin 7 = .ok (.putfield 34, 3) := by decide +kernel
theorem dX0_begin_10 : decode cX0_begin 10 = .ok (.aload_n 0, 1) := by decide +kernel
theorem dX0_begin_11 : decode cX0_begin 11 = .ok (.iload_n 3, 1) := by decide +kernel
theorem dX0_begin_12 : decode cX0_begin 12 = .ok (.putfield 37, 3) := by decide +kernel
theorem dX0_begin_15 : decode cX0_begin 15 = .ok (.aload_n 0, 1) := by decide +kernel
theorem dX0_begin_16 : decode cX0_begin 16 = .ok (.iload 4, 2) := by decide +kernel
theorem dX0_begin_18 : decode cX0_begin 18 = .ok (.putfield 41, 3) := by decide +kernel
theorem dX0_begin_21 : decode cX0_begin 21 = .ok (.aload_n 0, 1) := by decide +kernel
theorem dX0_begin_22 : decode cX0_begin 22 = .ok (.iconst 1, 1) := by decide +kernel
theorem dX0_begin_23 : decode cX0_begin 23 = .ok (.putfield 44, 3) := by decide +kernel
theorem dX0_begin_26 : decode cX0_begin 26 = .ok (.aload_n 0, 1) := by decide +kernel
theorem dX0_begin_27 : decode cX0_begin 27 = .ok (.iconst 0, 1) := by decide +kernel
theorem dX0_begin_28 : decode cX0_begin 28 = .ok (.putfield 47, 3) := by decide +kernel
theorem dX0_begin_31 : decode cX0_begin 31 = .ok (.aload_n 0, 1) := by decide +kernel
theorem dX0_begin_32 : decode cX0_begin 32 = .ok (.iconst 0, 1) := by decide +kernel
theorem dX0_begin_33 : decode cX0_begin 33 = .ok (.putfield 50, 3) := by decide +kernel
theorem dX0_begin_36 : decode cX0_begin 36 = .ok (.aload_n 0, 1) := by decide +kernel
theorem dX0_begin_37 : decode cX0_begin 37 = .ok (.iconst 0, 1) := by decide +kernel
theorem dX0_begin_38 : decode cX0_begin 38 = .ok (.putfield 53, 3) := by decide +kernel
theorem dX0_begin_41 : decode cX0_begin 41 = .ok (.aload_n 0, 1) := by decide +kernel
theorem dX0_begin_42 : decode cX0_begin 42 = .ok (.iconst 0, 1) := by decide +kernel
theorem dX0_begin_43 : decode cX0_begin 43 = .ok (.putfield 56, 3) := by decide +kernel
theorem dX0_begin_46 : decode cX0_begin 46 = .ok (.aload_n 0, 1) := by decide +kernel
theorem dX0_begin_47 : decode cX0_begin 47 = .ok (.iconst 0, 1) := by decide +kernel
theorem dX0_begin_48 : decode cX0_begin 48 = .ok (.putfield 59, 3) := by decide +kernel
theorem dX0_begin_51 : decode cX0_begin 51 = .ok (.iconst 0, 1) := by decide +kernel
theorem dX0_begin_52 : decode cX0_begin 52 = .ok (.istore 5, 2) := by decide +kernel
theorem dX0_begin_54 : decode cX0_begin 54 = .ok (.iload 5, 2) := by decide +kernel
theorem dX0_begin_56 : decode cX0_begin 56 = .ok (.aload_n 0, 1) := by decide +kernel
theorem dX0_begin_57 : decode cX0_begin 57 = .ok (.getfield 21, 3) := by decide +kernel
theorem dX0_begin_60 : decode cX0_begin 60 = .ok (.arraylength, 1) := by decide +kernel
theorem dX0_begin_61 : decode cX0_begin 61 = .ok (.if_icmp .ge 17, 3) := by decide +kernel
theorem dX0_begin_64 : decode cX0_begin 64 = .ok (.aload_n 0, 1) := by decide +kernel
theorem dX0_begin_65 : decode cX0_begin 65 = .ok (.getfield 21, 3) := by decide +kernel
theorem dX0_begin_68 : decode cX0_begin 68 = .ok (.iload 5, 2) := by decide +kernel
theorem dX0_begin_70 : decode cX0_begin 70 = .ok (.iconst 0, 1) := by decide +kernel
theorem dX0_begin_71 : decode cX0_begin 71 = .ok (.iastore, 1) := by decide +kernel
theorem dX0_begin_72 : decode cX0_begin 72 = .ok (.iinc 5 1, 3) := by decide +kernel
theorem dX0_begin_75 : decode cX0_begin 75 = .ok (.goto (-21), 3) := by decide +kernel
theorem dX0_begin_78 : decode cX0_begin 78 = .ok (.iconst 0, 1) := by decide +kernel
theorem dX0_begin_79 : decode cX0_begin 79 = .ok (.istore 5, 2) := by decide +kernel
theorem dX0_begin_81 : decode cX0_begin 81 = .ok (.iload 5, 2) := by decide +kernel
theorem dX0_begin_83 : decode cX0_begin 83 = .ok (.bipush 6, 2) := by decide +kernel
theorem dX0_begin_85 : decode cX0_begin 85 = .ok (.if_icmp .ge 25, 3) := by decide +kernel
theorem dX0_begin_88 : decode cX0_begin 88 = .ok (.aload_n 0, 1) := by decide +kernel
theorem dX0_begin_89 : decode cX0_begin 89 = .ok (.getfield 24, 3) := by decide +kernel
theorem dX0_begin_92 : decode cX0_begin 92 = .ok (.iload 5, 2) := by decide +kernel
theorem dX0_begin_94 : decode cX0_begin 94 = .ok (.iconst 0, 1) := by decide +kernel
theorem dX0_begin_95 : decode cX0_begin 95 = .ok (.iastore, 1) := by decide +kernel
theorem dX0_begin_96 : decode cX0_begin 96 = .ok (.aload_n 0, 1) := by decide +kernel
theorem dX0_begin_97 : decode cX0_begin 97 = .ok (.getfield 27, 3) := by decide +kernel
theorem dX0_begin_100 : decode cX0_begin 100 = .ok (.iload 5, 2) := by decide +kernel
theorem dX0_begin_102 : decode cX0_begin 102 = .ok (.iconst 0, 1) := by decide +kernel
theorem dX0_begin_103 : decode cX0_begin 103 = .ok (.iastore, 1) := by decide +kernel
theorem dX0_begin_104 : decode cX0_begin 104 = .ok (.iinc 5 1, 3) := by decide +kernel
theorem dX0_begin_107 : decode cX0_begin 107 = .ok (.goto (-26), 3) := by decide +kernel
theorem dX0_begin_110 : decode cX0_begin 110 = .ok (.return_, 1) := by decide +kernel
theorem dX0_become_0 : decode cX0_become 0 = .ok (.aload_n 0, 1) := by decide +kernel
theorem dX0_become_1 : decode cX0_become 1 = .ok (.aload_n 1, 1) := by decide +kernel
theorem dX0_become_2 : decode cX0_become 2 = .ok (.getfield 30, 3) := by decide +kernel
theorem dX0_become_5 : decode cX0_become 5 = .ok (.putfield 30, 3) := by decide +kernel
theorem dX0_become_8 : decode cX0_become 8 = .ok (.aload_n 0, 1) := by decide +kernel
theorem dX0_become_9 : decode cX0_become 9 = .ok (.aload_n 1, 1) := by decide +kernel
theorem dX0_become_10 : decode cX0_become 10 = .ok (.getfield 34, 3) := by decide +kernel
theorem dX0_become_13 : decode cX0_become 13 = .ok (.putfield 34, 3) := by decide +kernel
theorem dX0_become_16 : decode cX0_become 16 = .ok (.aload_n 0, 1) := by decide +kernel
theorem dX0_become_17 : decode cX0_become 17 = .ok (.aload_n 1, 1) := by decide +kernel
theorem dX0_become_18 : decode cX0_become 18 = .ok (.getfield 37, 3) := by decide +kernel
theorem dX0_become_21 : decode cX0_become 21 = .ok (.putfield 37, 3) := by decide +kernel
theorem dX0_become_24 : decode cX0_become 24 = .ok (.aload_n 0, 1) := by decide +kernel
theorem dX0_become_25 : decode cX0_become 25 = .ok (.aload_n 1, 1) := by decide +kernel
theorem dX0_become_26 : decode cX0_become 26 = .ok (.getfield 41, 3) := by decide +kernel
theorem dX0_become_29 : decode cX0_become 29 = .ok (.putfield 41, 3) := by decide +kernel
theorem dX0_become_32 : decode cX0_become 32 = .ok (.aload_n 0, 1) := by decide +kernel
theorem dX0_become_33 : decode cX0_become 33 = .ok (.aload_n 1, 1) := by decide +kernel
theorem dX0_become_34 : decode cX0_become 34 = .ok (.getfield 44, 3) := by decide +kernel
theorem dX0_become_37 : decode cX0_become 37 = .ok (.putfield 44, 3) := by decide +kernel
theorem dX0_become_40 : decode cX0_become 40 = .ok (.aload_n 0, 1) := by decide +kernel
theorem dX0_become_41 : decode cX0_become 41 = .ok (.aload_n 1, 1) := by decide +kernel
theorem dX0_become_42 : decode cX0_become 42 = .ok (.getfield 47, 3) := by decide +kernel
theorem dX0_become_45 : decode cX0_become 45 = .ok (.putfield 47, 3) := by decide +kernel
theorem dX0_become_48 : decode cX0_become 48 = .ok (.aload_n 0, 1) := by decide +kernel
theorem dX0_become_49 : decode cX0_become 49 = .ok (.aload_n 1, 1) := by decide +kernel
theorem dX0_become_50 : decode cX0_become 50 = .ok (.getfield 50, 3) := by decide +kernel
theorem dX0_become_53 : decode cX0_become 53 = .ok (.putfield 50, 3) := by decide +kernel
theorem dX0_become_56 : decode cX0_become 56 = .ok (.aload_n 0, 1) := by decide +kernel
theorem dX0_become_57 : decode cX0_become 57 = .ok (.aload_n 1, 1) := by decide +kernel
theorem dX0_become_58 : decode cX0_become 58 = .ok (.getfield 53, 3) := by decide +kernel
theorem dX0_become_61 : decode cX0_become 61 = .ok (.putfield 53, 3) := by decide +kernel
theorem dX0_become_64 : decode cX0_become 64 = .ok (.aload_n 0, 1) := by decide +kernel
theorem dX0_become_65 : decode cX0_become 65 = .ok (.aload_n 1, 1) := by decide +kernel
theorem dX0_become_66 : decode cX0_become 66 = .ok (.getfield 56, 3) := by decide +kernel
theorem dX0_become_69 : decode cX0_become 69 = .ok (.putfield 56, 3) := by decide +kernel
theorem dX0_become_72 : decode cX0_become 72 = .ok (.aload_n 0, 1) := by decide +kernel
theorem dX0_become_73 : decode cX0_become 73 = .ok (.aload_n 1, 1) := by decide +kernel
theorem dX0_become_74 : decode cX0_become 74 = .ok (.getfield 59, 3) := by decide +kernel
theorem dX0_become_77 : decode cX0_become 77 = .ok (.putfield 59, 3) := by decide +kernel
theorem dX0_become_80 : decode cX0_become 80 = .ok (.aload_n 1, 1) := by decide +kernel
theorem dX0_become_81 : decode cX0_become 81 = .ok (.getfield 9, 3) := by decide +kernel
theorem dX0_become_84 : decode cX0_become 84 = .ok (.aload_n 0, 1) := by decide +kernel
theorem dX0_become_85 : decode cX0_become 85 = .ok (.getfield 9, 3) := by decide +kernel
theorem dX0_become_88 : decode cX0_become 88 = .ok (.invokestatic 62, 3) := by decide +kernel
theorem dX0_become_91 : decode cX0_become 91 = .ok (.aload_n 1, 1) := by decide +kernel
theorem dX0_become_92 : decode cX0_become 92 = .ok (.getfield 15, 3) := by decide +kernel
theorem dX0_become_95 : decode cX0_become 95 = .ok (.aload_n 0, 1) := by decide +kernel
theorem dX0_become_96 : decode cX0_become 96 = .ok (.getfield 15, 3) := by decide +kernel
theorem dX0_become_99 : decode cX0_become 99 = .ok (.invokestatic 62, 3) := by decide +kernel
theorem dX0_become_102 : decode cX0_become 102 = .ok (.aload_n 1, 1) := by decide +kernel
theorem dX0_become_103 : decode cX0_become 103 = .ok (.getfield 18, 3) := by decide +kernel
theorem dX0_become_106 : decode cX0_become 106 = .ok (.aload_n 0, 1) := by decide +kernel
theorem dX0_become_107 : decode cX0_become 107 = .ok (.getfield 18, 3) := by decide +kernel
theorem dX0_become_110 : decode cX0_become 110 = .ok (.invokestatic 62, 3) := by decide +kernel
theorem dX0_become_113 : decode cX0_become 113 = .ok (.aload_n 1, 1) := by decide +kernel
theorem dX0_become_114 : decode cX0_become 114 = .ok (.getfield 21, 3) := by decide +kernel
theorem dX0_become_117 : decode cX0_become 117 = .ok (.aload_n 0, 1) := by decide +kernel
theorem dX0_become_118 : decode cX0_become 118 = .ok (.getfield 21, 3) := by decide +kernel
theorem dX0_become_121 : decode cX0_become 121 = .ok (.invokestatic 62, 3) := by decide +kernel
theorem dX0_become_124 : decode cX0_become 124 = .ok (.aload_n 1, 1) := by decide +kernel
theorem dX0_become_125 : decode cX0_become 125 = .ok (.getfield 24, 3) := by decide +kernel
theorem dX0_become_128 : decode cX0_become 128 = .ok (.aload_n 0, 1) := by decide +kernel
theorem dX0_become_129 : decode cX0_become 129 = .ok (.getfield 24, 3) := by decide +kernel
theorem dX0_become_132 : decode cX0_become 132 = .ok (.invokestatic 62, 3) := by decide +kernel
theorem dX0_become_135 : decode cX0_become 135 = .ok (.aload_n 1, 1) := by decide +kernel
theorem dX0_become_136 : decode cX0_become 136 = .ok (.getfield 27, 3) := by decide +kernel
theorem dX0_become_139 : decode cX0_become 139 = .ok (.aload_n 0, 1) := by decide +kernel
theorem dX0_become_140 : decode cX0_become 140 = .ok (.getfield 27, 3) := by decide +kernel
theorem dX0_become_143 : decode cX0_become 143 = .ok (.invokestatic 62, 3) := by decide +kernel
theorem dX0_become_146 : decode cX0_become 146 = .ok (.return_, 1) := by decide +kernel
theorem dX0_hasEvent_0 : decode cX0_hasEvent 0 = .ok (.iload_n 1, 1) := by decide +kernel
theorem dX0_hasEvent_1 : decode cX0_hasEvent 1 = .ok (.iconst 0, 1) := by decide +kernel
theorem dX0_hasEvent_2 : decode cX0_hasEvent 2 = .ok (.aload_n 0, 1) := by decide +kernel
theorem dX0_hasEvent_3 : decode cX0_hasEvent 3 = .ok (.getfield 50, 3) := by decide +kernel
theorem dX0_hasEvent_6 : decode cX0_hasEvent 6 = .ok (.iconst 1, 1) := by decide +kernel
theorem dX0_hasEvent_7 : decode cX0_hasEvent 7 = .ok (.isub, 1) := by decide +kernel
theorem dX0_hasEvent_8 : decode cX0_hasEvent 8 = .ok (.invokestatic 66, 3) := by decide +kernel
theorem dX0_hasEvent_11 : decode cX0_hasEvent 11 = .ok (.ireturn, 1) := by decide +kernel
theorem dX0_append_0 : decode cX0_append 0 = .ok (.aload_n 0, 1) := by decide +kernel
theorem dX0_append_1 : decode cX0_append 1 = .ok (.getfield 50, 3) := by decide +kernel
theorem dX0_append_4 : decode cX0_append 4 = .ok (.iconst 4, 1) := by decide +kernel
theorem dX0_append_5 : decode cX0_append 5 = .ok (.if_icmp .lt 6, 3) := by decide +kernel
theorem dX0_append_8 : decode cX0_append 8 = .ok (.bipush (-4), 2) := by decide +kernel
theorem dX0_append_10 : decode cX0_append 10 = .ok (.ireturn, 1) := by decide +kernel
theorem dX0_append_11 : decode cX0_append 11 = .ok (.aload_n 0, 1) := by decide +kernel
theorem dX0_append_12 : decode cX0_append 12 = .ok (.getfield 50, 3) := by decide +kernel
theorem dX0_append_15 : decode cX0_append 15 = .ok (.istore_n 2, 1) := by decide +kernel
theorem dX0_append_16 : decode cX0_append 16 = .ok (.aload_n 0, 1) := by decide +kernel
theorem dX0_append_17 : decode cX0_append 17 = .ok (.dup, 1) := by decide +kernel
theorem dX0_append_18 : decode cX0_append 18 = .ok (.getfield 50, 3) := by decide +kernel
theorem dX0_append_21 : decode cX0_append 21 = .ok (.iconst 1, 1) := by decide +kernel
theorem dX0_append_22 : decode cX0_append 22 = .ok (.iadd, 1) := by decide +kernel
theorem dX0_append_23 : decode cX0_append 23 = .ok (.putfield 50, 3) := by decide +kernel
theorem dX0_append_26 : decode cX0_append 26 = .ok (.aload_n 0, 1) := by decide +kernel
theorem dX0_append_27 : decode cX0_append 27 = .ok (.getfield 9, 3) := by decide +kernel
theorem dX0_append_30 : decode cX0_append 30 = .ok (.iload_n 2, 1) := by decide +kernel
theorem dX0_append_31 : decode cX0_append 31 = .ok (.iload_n 1, 1) := by decide +kernel
theorem dX0_append_32 : decode cX0_append 32 = .ok (.iastore, 1) := by decide +kernel
theorem dX0_append_33 : decode cX0_append 33 = .ok (.aload_n 0, 1) := by decide +kernel
theorem dX0_append_34 : decode cX0_append 34 = .ok (.getfield 15, 3) := by decide +kernel
theorem dX0_append_37 : decode cX0_append 37 = .ok (.iload_n 2, 1) := by decide +kernel
theorem dX0_append_38 : decode cX0_append 38 = .ok (.iconst 0, 1) := by decide +kernel
theorem dX0_append_39 : decode cX0_append 39 = .ok (.iastore, 1) := by decide +kernel
theorem dX0_append_40 : decode cX0_append 40 = .ok (.aload_n 0, 1) := by decide +kernel
theorem dX0_append_41 : decode cX0_append 41 = .ok (.getfield 18, 3) := by decide +kernel
theorem dX0_append_44 : decode cX0_append 44 = .ok (.iload_n 2, 1) := by decide +kernel
theorem dX0_append_45 : decode cX0_append 45 = .ok (.iconst (-1), 1) := by decide +kernel
theorem dX0_append_46 : decode cX0_append 46 = .ok (.iastore, 1) := by decide +kernel
theorem dX0_append_47 : decode cX0_append 47 = .ok (.iload_n 2, 1) := by decide +kernel
theorem dX0_append_48 : decode cX0_append 48 = .ok (.ireturn, 1) := by decide +kernel
theorem dX0_leaveSeats_0 : decode cX0_leaveSeats 0 = .ok (.aload_n 0, 1) := by decide +kernel
theorem dX0_leaveSeats_1 : decode cX0_leaveSeats 1 = .ok (.iconst 0, 1) := by decide +kernel
theorem dX0_leaveSeats_2 : decode cX0_leaveSeats 2 = .ok (.putfield 47, 3) := by decide +kernel
theorem dX0_leaveSeats_5 : decode cX0_leaveSeats 5 = .ok (.iconst 0, 1) := by decide +kernel
theorem dX0_leaveSeats_6 : decode cX0_leaveSeats 6 = .ok (.istore_n 1, 1) := by decide +kernel
theorem dX0_leaveSeats_7 : decode cX0_leaveSeats 7 = .ok (.iload_n 1, 1) := by decide +kernel
theorem dX0_leaveSeats_8 : decode cX0_leaveSeats 8 = .ok (.aload_n 0, 1) := by decide +kernel
theorem dX0_leaveSeats_9 : decode cX0_leaveSeats 9 = .ok (.getfield 50, 3) := by decide +kernel
theorem dX0_leaveSeats_12 : decode cX0_leaveSeats 12 = .ok (.if_icmp .ge 16, 3) := by decide +kernel
theorem dX0_leaveSeats_15 : decode cX0_leaveSeats 15 = .ok (.aload_n 0, 1) := by decide +kernel
theorem dX0_leaveSeats_16 : decode cX0_leaveSeats 16 = .ok (.getfield 18, 3) := by decide +kernel
theorem dX0_leaveSeats_19 : decode cX0_leaveSeats 19 = .ok (.iload_n 1, 1) := by decide +kernel
theorem dX0_leaveSeats_20 : decode cX0_leaveSeats 20 = .ok (.iconst (-1), 1) := by decide +kernel
theorem dX0_leaveSeats_21 : decode cX0_leaveSeats 21 = .ok (.iastore, 1) := by decide +kernel
theorem dX0_leaveSeats_22 : decode cX0_leaveSeats 22 = .ok (.iinc 1 1, 3) := by decide +kernel
theorem dX0_leaveSeats_25 : decode cX0_leaveSeats 25 = .ok (.goto (-18), 3) := by decide +kernel
theorem dX0_leaveSeats_28 : decode cX0_leaveSeats 28 = .ok (.return_, 1) := by decide +kernel
theorem dX0_countSlice_0 : decode cX0_countSlice 0 = .ok (.aload_n 0, 1) := by decide +kernel
theorem dX0_countSlice_1 : decode cX0_countSlice 1 = .ok (.getfield 27, 3) := by decide +kernel
theorem dX0_countSlice_4 : decode cX0_countSlice 4 = .ok (.iload_n 2, 1) := by decide +kernel
theorem dX0_countSlice_5 : decode cX0_countSlice 5 = .ok (.dup2, 1) := by decide +kernel
theorem dX0_countSlice_6 : decode cX0_countSlice 6 = .ok (.iaload, 1) := by decide +kernel
theorem dX0_countSlice_7 : decode cX0_countSlice 7 = .ok (.iconst 1, 1) := by decide +kernel
theorem dX0_countSlice_8 : decode cX0_countSlice 8 = .ok (.iadd, 1) := by decide +kernel
theorem dX0_countSlice_9 : decode cX0_countSlice 9 = .ok (.iastore, 1) := by decide +kernel
theorem dX0_countSlice_10 : decode cX0_countSlice 10 = .ok (.iconst 0, 1) := by decide +kernel
theorem dX0_countSlice_11 : decode cX0_countSlice 11 = .ok (.istore_n 3, 1) := by decide +kernel
theorem dX0_countSlice_12 : decode cX0_countSlice 12 = .ok (.iload_n 3, 1) := by decide +kernel
theorem dX0_countSlice_13 : decode cX0_countSlice 13 = .ok (.aload_n 0, 1) := by decide +kernel
theorem dX0_countSlice_14 : decode cX0_countSlice 14 = .ok (.getfield 50, 3) := by decide +kernel
theorem dX0_countSlice_17 : decode cX0_countSlice 17 = .ok (.if_icmp .ge 55, 3) := by decide +kernel
theorem dX0_countSlice_20 : decode cX0_countSlice 20 = .ok (.aload_n 1, 1) := by decide +kernel
theorem dX0_countSlice_21 : decode cX0_countSlice 21 = .ok (.iload_n 2, 1) := by decide +kernel
theorem dX0_countSlice_22 : decode cX0_countSlice 22 = .ok (.aload_n 0, 1) := by decide +kernel
theorem dX0_countSlice_23 : decode cX0_countSlice 23 = .ok (.getfield 9, 3) := by decide +kernel
theorem dX0_countSlice_26 : decode cX0_countSlice 26 = .ok (.iload_n 3, 1) := by decide +kernel
theorem dX0_countSlice_27 : decode cX0_countSlice 27 = .ok (.iaload, 1) := by decide +kernel
theorem dX0_countSlice_28 : decode cX0_countSlice 28 = .ok (.invokevirtual 70, 3) := by decide +kernel
theorem dX0_countSlice_31 : decode cX0_countSlice 31 = .ok (.istore 4, 2) := by decide +kernel
theorem dX0_countSlice_33 : decode cX0_countSlice 33 = .ok (.aload_n 0, 1) := by decide +kernel
theorem dX0_countSlice_34 : decode cX0_countSlice 34 = .ok (.getfield 21, 3) := by decide +kernel
theorem dX0_countSlice_37 : decode cX0_countSlice 37 = .ok (.iload_n 3, 1) := by decide +kernel
theorem dX0_countSlice_38 : decode cX0_countSlice 38 = .ok (.bipush 6, 2) := by decide +kernel
theorem dX0_countSlice_40 : decode cX0_countSlice 40 = .ok (.imul, 1) := by decide +kernel
theorem dX0_countSlice_41 : decode cX0_countSlice 41 = .ok (.iload_n 2, 1) := by decide +kernel
theorem dX0_countSlice_42 : decode cX0_countSlice 42 = .ok (.iadd, 1) := by decide +kernel
theorem dX0_countSlice_43 : decode cX0_countSlice 43 = .ok (.dup2, 1) := by decide +kernel
theorem dX0_countSlice_44 : decode cX0_countSlice 44 = .ok (.iaload, 1) := by decide +kernel
theorem dX0_countSlice_45 : decode cX0_countSlice 45 = .ok (.iload 4, 2) := by decide +kernel
theorem dX0_countSlice_47 : decode cX0_countSlice 47 = .ok (.iadd, 1) := by decide +kernel
theorem dX0_countSlice_48 : decode cX0_countSlice 48 = .ok (.iastore, 1) := by decide +kernel
theorem dX0_countSlice_49 : decode cX0_countSlice 49 = .ok (.aload_n 0, 1) := by decide +kernel
theorem dX0_countSlice_50 : decode cX0_countSlice 50 = .ok (.getfield 15, 3) := by decide +kernel
theorem dX0_countSlice_53 : decode cX0_countSlice 53 = .ok (.iload_n 3, 1) := by decide +kernel
theorem dX0_countSlice_54 : decode cX0_countSlice 54 = .ok (.aload_n 0, 1) := by decide +kernel
theorem dX0_countSlice_55 : decode cX0_countSlice 55 = .ok (.getfield 15, 3) := by decide +kernel
theorem dX0_countSlice_58 : decode cX0_countSlice 58 = .ok (.iload_n 3, 1) := by decide +kernel
theorem dX0_countSlice_59 : decode cX0_countSlice 59 = .ok (.iaload, 1) := by decide +kernel
theorem dX0_countSlice_60 : decode cX0_countSlice 60 = .ok (.iload 4, 2) := by decide +kernel
theorem dX0_countSlice_62 : decode cX0_countSlice 62 = .ok (.invokestatic 76, 3) := by decide +kernel
theorem dX0_countSlice_65 : decode cX0_countSlice 65 = .ok (.iastore, 1) := by decide +kernel
theorem dX0_countSlice_66 : decode cX0_countSlice 66 = .ok (.iinc 3 1, 3) := by decide +kernel
theorem dX0_countSlice_69 : decode cX0_countSlice 69 = .ok (.goto (-57), 3) := by decide +kernel
theorem dX0_countSlice_72 : decode cX0_countSlice 72 = .ok (.return_, 1) := by decide +kernel
theorem dX0_moveTo_0 : decode cX0_moveTo 0 = .ok (.aload_n 0, 1) := by decide +kernel
theorem dX0_moveTo_1 : decode cX0_moveTo 1 = .ok (.getfield 24, 3) := by decide +kernel
theorem dX0_moveTo_4 : decode cX0_moveTo 4 = .ok (.iload_n 1, 1) := by decide +kernel
theorem dX0_moveTo_5 : decode cX0_moveTo 5 = .ok (.iload_n 2, 1) := by decide +kernel
theorem dX0_moveTo_6 : decode cX0_moveTo 6 = .ok (.invokestatic 81, 3) := by decide +kernel
theorem dX0_moveTo_9 : decode cX0_moveTo 9 = .ok (.aload_n 0, 1) := by decide +kernel
theorem dX0_moveTo_10 : decode cX0_moveTo 10 = .ok (.getfield 27, 3) := by decide +kernel
theorem dX0_moveTo_13 : decode cX0_moveTo 13 = .ok (.iload_n 1, 1) := by decide +kernel
theorem dX0_moveTo_14 : decode cX0_moveTo 14 = .ok (.iload_n 2, 1) := by decide +kernel
theorem dX0_moveTo_15 : decode cX0_moveTo 15 = .ok (.invokestatic 81, 3) := by decide +kernel
theorem dX0_moveTo_18 : decode cX0_moveTo 18 = .ok (.iconst 0, 1) := by decide +kernel
theorem dX0_moveTo_19 : decode cX0_moveTo 19 = .ok (.istore_n 3, 1) := by decide +kernel
theorem dX0_moveTo_20 : decode cX0_moveTo 20 = .ok (.iload_n 3, 1) := by decide +kernel
theorem dX0_moveTo_21 : decode cX0_moveTo 21 = .ok (.aload_n 0, 1) := by decide +kernel
theorem dX0_moveTo_22 : decode cX0_moveTo 22 = .ok (.getfield 50, 3) := by decide +kernel
theorem dX0_moveTo_25 : decode cX0_moveTo 25 = .ok (.if_icmp .ge 28, 3) := by decide +kernel
theorem dX0_moveTo_28 : decode cX0_moveTo 28 = .ok (.aload_n 0, 1) := by decide +kernel
theorem dX0_moveTo_29 : decode cX0_moveTo 29 = .ok (.getfield 21, 3) := by decide +kernel
theorem dX0_moveTo_32 : decode cX0_moveTo 32 = .ok (.iload_n 3, 1) := by decide +kernel
theorem dX0_moveTo_33 : decode cX0_moveTo 33 = .ok (.bipush 6, 2) := by decide +kernel
theorem dX0_moveTo_35 : decode cX0_moveTo 35 = .ok (.imul, 1) := by decide +kernel
theorem dX0_moveTo_36 : decode cX0_moveTo 36 = .ok (.iload_n 1, 1) := by decide +kernel
theorem dX0_moveTo_37 : decode cX0_moveTo 37 = .ok (.iadd, 1) := by decide +kernel
theorem dX0_moveTo_38 : decode cX0_moveTo 38 = .ok (.iload_n 3, 1) := by decide +kernel
theorem dX0_moveTo_39 : decode cX0_moveTo 39 = .ok (.bipush 6, 2) := by decide +kernel
theorem dX0_moveTo_41 : decode cX0_moveTo 41 = .ok (.imul, 1) := by decide +kernel
theorem dX0_moveTo_42 : decode cX0_moveTo 42 = .ok (.iload_n 2, 1) := by decide +kernel
theorem dX0_moveTo_43 : decode cX0_moveTo 43 = .ok (.iadd, 1) := by decide +kernel
theorem dX0_moveTo_44 : decode cX0_moveTo 44 = .ok (.invokestatic 81, 3) := by decide +kernel
theorem dX0_moveTo_47 : decode cX0_moveTo 47 = .ok (.iinc 3 1, 3) := by decide +kernel
theorem dX0_moveTo_50 : decode cX0_moveTo 50 = .ok (.goto (-30), 3) := by decide +kernel
theorem dX0_moveTo_53 : decode cX0_moveTo 53 = .ok (.return_, 1) := by decide +kernel
theorem dX0_moveCell_0 : decode cX0_moveCell 0 = .ok (.aload_n 0, 1) := by decide +kernel
theorem dX0_moveCell_1 : decode cX0_moveCell 1 = .ok (.iload_n 2, 1) := by decide +kernel
theorem dX0_moveCell_2 : decode cX0_moveCell 2 = .ok (.dup2, 1) := by decide +kernel
theorem dX0_moveCell_3 : decode cX0_moveCell 3 = .ok (.iaload, 1) := by decide +kernel
theorem dX0_moveCell_4 : decode cX0_moveCell 4 = .ok (.aload_n 0, 1) := by decide +kernel
theorem dX0_moveCell_5 : decode cX0_moveCell 5 = .ok (.iload_n 1, 1) := by decide +kernel
theorem dX0_moveCell_6 : decode cX0_moveCell 6 = .ok (.iaload, 1) := by decide +kernel
theorem dX0_moveCell_7 : decode cX0_moveCell 7 = .ok (.iadd, 1) := by decide +kernel
theorem dX0_moveCell_8 : decode cX0_moveCell 8 = .ok (.iastore, 1) := by decide +kernel
theorem dX0_moveCell_9 : decode cX0_moveCell 9 = .ok (.aload_n 0, 1) := by decide +kernel
theorem dX0_moveCell_10 : decode cX0_moveCell 10 = .ok (.iload_n 1, 1) := by decide +kernel
theorem dX0_moveCell_11 : decode cX0_moveCell 11 = .ok (.iconst 0, 1) := by decide +kernel
theorem dX0_moveCell_12 : decode cX0_moveCell 12 = .ok (.iastore, 1) := by decide +kernel
theorem dX0_moveCell_13 : decode cX0_moveCell 13 = .ok (.return_, 1) := by decide +kernel
theorem dX0_countIn_0 : decode cX0_countIn 0 = .ok (.aload_n 0, 1) := by decide +kernel
theorem dX0_countIn_1 : decode cX0_countIn 1 = .ok (.getfield 21, 3) := by decide +kernel
theorem dX0_countIn_4 : decode cX0_countIn 4 = .ok (.iload_n 1, 1) := by decide +kernel
theorem dX0_countIn_5 : decode cX0_countIn 5 = .ok (.bipush 6, 2) := by decide +kernel
theorem dX0_countIn_7 : decode cX0_countIn 7 = .ok (.imul, 1) := by decide +kernel
theorem dX0_countIn_8 : decode cX0_countIn 8 = .ok (.iload_n 2, 1) := by decide +kernel
theorem dX0_countIn_9 : decode cX0_countIn 9 = .ok (.invokestatic 85, 3) := by decide +kernel
theorem dX0_countIn_12 : decode cX0_countIn 12 = .ok (.ireturn, 1) := by decide +kernel
theorem dX0_enabledIn_0 : decode cX0_enabledIn 0 = .ok (.aload_n 0, 1) := by decide +kernel
theorem dX0_enabledIn_1 : decode cX0_enabledIn 1 = .ok (.getfield 24, 3) := by decide +kernel
theorem dX0_enabledIn_4 : decode cX0_enabledIn 4 = .ok (.iconst 0, 1) := by decide +kernel
theorem dX0_enabledIn_5 : decode cX0_enabledIn 5 = .ok (.iload_n 1, 1) := by decide +kernel
theorem dX0_enabledIn_6 : decode cX0_enabledIn 6 = .ok (.invokestatic 85, 3) := by decide +kernel
theorem dX0_enabledIn_9 : decode cX0_enabledIn 9 = .ok (.ireturn, 1) := by decide +kernel
theorem dX0_runningIn_0 : decode cX0_runningIn 0 = .ok (.aload_n 0, 1) := by decide +kernel
theorem dX0_runningIn_1 : decode cX0_runningIn 1 = .ok (.getfield 27, 3) := by decide +kernel
theorem dX0_runningIn_4 : decode cX0_runningIn 4 = .ok (.iconst 0, 1) := by decide +kernel
theorem dX0_runningIn_5 : decode cX0_runningIn 5 = .ok (.iload_n 1, 1) := by decide +kernel
theorem dX0_runningIn_6 : decode cX0_runningIn 6 = .ok (.invokestatic 85, 3) := by decide +kernel
theorem dX0_runningIn_9 : decode cX0_runningIn 9 = .ok (.ireturn, 1) := by decide +kernel
theorem dX0_cellOrSum_0 : decode cX0_cellOrSum 0 = .ok (.iload_n 2, 1) := by decide +kernel
theorem dX0_cellOrSum_1 : decode cX0_cellOrSum 1 = .ok (.iconst (-1), 1) := by decide +kernel
theorem dX0_cellOrSum_2 : decode cX0_cellOrSum 2 = .ok (.if_icmp .eq 9, 3) := by decide +kernel
theorem dX0_cellOrSum_5 : decode cX0_cellOrSum 5 = .ok (.aload_n 0, 1) := by decide +kernel
theorem dX0_cellOrSum_6 : decode cX0_cellOrSum 6 = .ok (.iload_n 1, 1) := by decide +kernel
theorem dX0_cellOrSum_7 : decode cX0_cellOrSum 7 = .ok (.iload_n 2, 1) := by decide +kernel
theorem dX0_cellOrSum_8 : decode cX0_cellOrSum 8 = .ok (.iadd, 1) := by decide +kernel
theorem dX0_cellOrSum_9 : decode cX0_cellOrSum 9 = .ok (.iaload, 1) := by decide +kernel
theorem dX0_cellOrSum_10 : decode cX0_cellOrSum 10 = .ok (.ireturn, 1) := by decide +kernel
theorem dX0_cellOrSum_11 : decode cX0_cellOrSum 11 = .ok (.iconst 0, 1) := by decide +kernel
theorem dX0_cellOrSum_12 : decode cX0_cellOrSum 12 = .ok (.istore_n 3, 1) := by decide +kernel
theorem dX0_cellOrSum_13 : decode cX0_cellOrSum 13 = .ok (.iconst 0, 1) := by decide +kernel
theorem dX0_cellOrSum_14 : decode cX0_cellOrSum 14 = .ok (.istore 4, 2) := by decide +kernel
theorem dX0_cellOrSum_16 : decode cX0_cellOrSum 16 = .ok (.iload 4, 2) := by decide +kernel
theorem dX0_cellOrSum_18 : decode cX0_cellOrSum 18 = .ok (.bipush 6, 2) := by decide +kernel
theorem dX0_cellOrSum_20 : decode cX0_cellOrSum 20 = .ok (.if_icmp .ge 18, 3) := by decide +kernel
theorem dX0_cellOrSum_23 : decode cX0_cellOrSum 23 = .ok (.iload_n 3, 1) := by decide +kernel
theorem dX0_cellOrSum_24 : decode cX0_cellOrSum 24 = .ok (.aload_n 0, 1) := by decide +kernel
theorem dX0_cellOrSum_25 : decode cX0_cellOrSum 25 = .ok (.iload_n 1, 1) := by decide +kernel
theorem dX0_cellOrSum_26 : decode cX0_cellOrSum 26 = .ok (.iload 4, 2) := by decide +kernel
theorem dX0_cellOrSum_28 : decode cX0_cellOrSum 28 = .ok (.iadd, 1) := by decide +kernel
theorem dX0_cellOrSum_29 : decode cX0_cellOrSum 29 = .ok (.iaload, 1) := by decide +kernel
theorem dX0_cellOrSum_30 : decode cX0_cellOrSum 30 = .ok (.iadd, 1) := by decide +kernel
theorem dX0_cellOrSum_31 : decode cX0_cellOrSum 31 = .ok (.istore_n 3, 1) := by decide +kernel
theorem dX0_cellOrSum_32 : decode cX0_cellOrSum 32 = .ok (.iinc 4 1, 3) := by decide +kernel
theorem dX0_cellOrSum_35 : decode cX0_cellOrSum 35 = .ok (.goto (-19), 3) := by decide +kernel
theorem dX0_cellOrSum_38 : decode cX0_cellOrSum 38 = .ok (.iload_n 3, 1) := by decide +kernel
theorem dX0_cellOrSum_39 : decode cX0_cellOrSum 39 = .ok (.ireturn, 1) := by decide +kernel
theorem dX0_scaledCount_0 : decode cX0_scaledCount 0 = .ok (.aload_n 0, 1) := by decide +kernel
theorem dX0_scaledCount_1 : decode cX0_scaledCount 1 = .ok (.iconst (-1), 1) := by decide +kernel
theorem dX0_scaledCount_2 : decode cX0_scaledCount 2 = .ok (.invokevirtual 89, 3) := by decide +kernel
theorem dX0_scaledCount_5 : decode cX0_scaledCount 5 = .ok (.istore_n 2, 1) := by decide +kernel
theorem dX0_scaledCount_6 : decode cX0_scaledCount 6 = .ok (.iload_n 2, 1) := by decide +kernel
theorem dX0_scaledCount_7 : decode cX0_scaledCount 7 = .ok (.ifCond .ne 5, 3) := by decide +kernel
theorem dX0_scaledCount_10 : decode cX0_scaledCount 10 = .ok (.iconst (-1), 1) := by decide +kernel
theorem dX0_scaledCount_11 : decode cX0_scaledCount 11 = .ok (.ireturn, 1) := by decide +kernel
theorem dX0_scaledCount_12 : decode cX0_scaledCount 12 = .ok (.aload_n 0, 1) := by decide +kernel
theorem dX0_scaledCount_13 : decode cX0_scaledCount 13 = .ok (.iload_n 1, 1) := by decide +kernel
theorem dX0_scaledCount_14 : decode cX0_scaledCount 14 = .ok (.iconst (-1), 1) := by decide +kernel
theorem dX0_scaledCount_15 : decode cX0_scaledCount 15 = .ok (.invokevirtual 93, 3) := by decide +kernel
theorem dX0_scaledCount_18 : decode cX0_scaledCount 18 = .ok (.i2l, 1) := by decide +kernel
theorem dX0_scaledCount_19 : decode cX0_scaledCount 19 = .ok (.aload_n 0, 1) := by decide +kernel
theorem dX0_scaledCount_20 : decode cX0_scaledCount 20 = .ok (.iconst (-1), 1) := by decide +kernel
theorem dX0_scaledCount_21 : decode cX0_scaledCount 21 = .ok (.invokevirtual 96, 3) := by decide +kernel
theorem dX0_scaledCount_24 : decode cX0_scaledCount 24 = .ok (.i2l, 1) := by decide +kernel
theorem dX0_scaledCount_25 : decode cX0_scaledCount 25 = .ok (.lmul, 1) := by decide +kernel
theorem dX0_scaledCount_26 : decode cX0_scaledCount 26 = .ok (.iload_n 2, 1) := by decide +kernel
theorem dX0_scaledCount_27 : decode cX0_scaledCount 27 = .ok (.i2l, 1) := by decide +kernel
theorem dX0_scaledCount_28 : decode cX0_scaledCount 28 = .ok (.ldiv, 1) := by decide +kernel
theorem dX0_scaledCount_29 : decode cX0_scaledCount 29 = .ok (.l2i, 1) := by decide +kernel
theorem dX0_scaledCount_30 : decode cX0_scaledCount 30 = .ok (.ireturn, 1) := by decide +kernel
theorem dX0_mostCount_0 : decode cX0_mostCount 0 = .ok (.aload_n 0, 1) := by decide +kernel
theorem dX0_mostCount_1 : decode cX0_mostCount 1 = .ok (.iload_n 1, 1) := by decide +kernel
theorem dX0_mostCount_2 : decode cX0_mostCount 2 = .ok (.iconst (-1), 1) := by decide +kernel
theorem dX0_mostCount_3 : decode cX0_mostCount 3 = .ok (.invokevirtual 93, 3) := by decide +kernel
theorem dX0_mostCount_6 : decode cX0_mostCount 6 = .ok (.aload_n 0, 1) := by decide +kernel
theorem dX0_mostCount_7 : decode cX0_mostCount 7 = .ok (.iconst (-1), 1) := by decide +kernel
theorem dX0_mostCount_8 : decode cX0_mostCount 8 = .ok (.invokevirtual 96, 3) := by decide +kernel
theorem dX0_mostCount_11 : decode cX0_mostCount 11 = .ok (.aload_n 0, 1) := by decide +kernel
theorem dX0_mostCount_12 : decode cX0_mostCount 12 = .ok (.iconst (-1), 1) := by decide +kernel
theorem dX0_mostCount_13 : decode cX0_mostCount 13 = .ok (.invokevirtual 89, 3) := by decide +kernel
theorem dX0_mostCount_16 : decode cX0_mostCount 16 = .ok (.isub, 1) := by decide +kernel
theorem dX0_mostCount_17 : decode cX0_mostCount 17 = .ok (.aload_n 0, 1) := by decide +kernel
theorem dX0_mostCount_18 : decode cX0_mostCount 18 = .ok (.getfield 15, 3) := by decide +kernel
theorem dX0_mostCount_21 : decode cX0_mostCount 21 = .ok (.iload_n 1, 1) := by decide +kernel
theorem dX0_mostCount_22 : decode cX0_mostCount 22 = .ok (.iaload, 1) := by decide +kernel
theorem dX0_mostCount_23 : decode cX0_mostCount 23 = .ok (.imul, 1) := by decide +kernel
theorem dX0_mostCount_24 : decode cX0_mostCount 24 = .ok (.iadd, 1) := by decide +kernel
theorem dX0_mostCount_25 : decode cX0_mostCount 25 = .ok (.ireturn, 1) := by decide +kernel
theorem dX1_init_0 : decode cX1_init 0 = .ok (.aload_n 0, 1) := by decide +kernel
theorem dX1_init_1 : decode cX1_init 1 = .ok (.invokespecial 3, 3) := by decide +kernel
theorem dX1_init_4 : decode cX1_init 4 = .ok (.aload_n 0, 1) := by decide +kernel
theorem dX1_init_5 : decode cX1_init 5 = .ok (.bipush 6, 2) := by decide +kernel
theorem dX1_init_7 : decode cX1_init 7 = .ok (.anewarray 11, 3) := by decide +kernel
theorem dX1_init_10 : decode cX1_init 10 = .ok (.putfield 13, 3) := by decide +kernel
theorem dX1_init_13 : decode cX1_init 13 = .ok (.iconst 0, 1) := by decide +kernel
theorem dX1_init_14 : decode cX1_init 14 = .ok (.istore_n 2, 1) := by decide +kernel
theorem dX1_init_15 : decode cX1_init 15 = .ok (.iload_n 2, 1) := by decide +kernel
theorem dX1_init_16 : decode cX1_init 16 = .ok (.bipush 6, 2) := by decide +kernel
theorem dX1_init_18 : decode cX1_init 18 = .ok (.if_icmp .ge 23, 3) := by decide +kernel
theorem dX1_init_21 : decode cX1_init 21 = .ok (.aload_n 0, 1) := by decide +kernel
theorem dX1_init_22 : decode cX1_init 22 = .ok (.getfield 13, 3) := by decide +kernel
theorem dX1_init_25 : decode cX1_init 25 = .ok (.iload_n 2, 1) := by decide +kernel
theorem dX1_init_26 : decode cX1_init 26 = .ok (.new 11, 3) := by decide +kernel
theorem dX1_init_29 : decode cX1_init 29 = .ok (.dup, 1) := by decide +kernel
theorem dX1_init_30 : decode cX1_init 30 = .ok (.aload_n 1, 1) := by decide +kernel
theorem dX1_init_31 : decode cX1_init 31 = .ok (.invokespecial 17, 3) := by decide +kernel
theorem dX1_init_34 : decode cX1_init 34 = .ok (.aastore, 1) := by decide +kernel
theorem dX1_init_35 : decode cX1_init 35 = .ok (.iinc 2 1, 3) := by decide +kernel
theorem dX1_init_38 : decode cX1_init 38 = .ok (.goto (-23), 3) := by decide +kernel
theorem dX1_init_41 : decode cX1_init 41 = .ok (.return_, 1) := by decide +kernel
theorem dX1_hold_0 : decode cX1_hold 0 = .ok (.aload_n 0, 1) := by decide +kernel
theorem dX1_hold_1 : decode cX1_hold 1 = .ok (.getfield 13, 3) := by decide +kernel
theorem dX1_hold_4 : decode cX1_hold 4 = .ok (.aload_n 0, 1) := by decide +kernel
theorem dX1_hold_5 : decode cX1_hold 5 = .ok (.getfield 20, 3) := by decide +kernel
theorem dX1_hold_8 : decode cX1_hold 8 = .ok (.aaload, 1) := by decide +kernel
theorem dX1_hold_9 : decode cX1_hold 9 = .ok (.aload_n 1, 1) := by decide +kernel
theorem dX1_hold_10 : decode cX1_hold 10 = .ok (.invokevirtual 24, 3) := by decide +kernel
theorem dX1_hold_13 : decode cX1_hold 13 = .ok (.return_, 1) := by decide +kernel
theorem dX1_undo_0 : decode cX1_undo 0 = .ok (.aload_n 1, 1) := by decide +kernel
theorem dX1_undo_1 : decode cX1_undo 1 = .ok (.aload_n 0, 1) := by decide +kernel
theorem dX1_undo_2 : decode cX1_undo 2 = .ok (.getfield 13, 3) := by decide +kernel
theorem dX1_undo_5 : decode cX1_undo 5 = .ok (.aload_n 0, 1) := by decide +kernel
theorem dX1_undo_6 : decode cX1_undo 6 = .ok (.getfield 20, 3) := by decide +kernel
theorem dX1_undo_9 : decode cX1_undo 9 = .ok (.aaload, 1) := by decide +kernel
theorem dX1_undo_10 : decode cX1_undo 10 = .ok (.invokevirtual 24, 3) := by decide +kernel
theorem dX1_undo_13 : decode cX1_undo 13 = .ok (.return_, 1) := by decide +kernel
theorem dX1_keep_0 : decode cX1_keep 0 = .ok (.aload_n 0, 1) := by decide +kernel
theorem dX1_keep_1 : decode cX1_keep 1 = .ok (.aload_n 0, 1) := by decide +kernel
theorem dX1_keep_2 : decode cX1_keep 2 = .ok (.getfield 20, 3) := by decide +kernel
theorem dX1_keep_5 : decode cX1_keep 5 = .ok (.iconst 1, 1) := by decide +kernel
theorem dX1_keep_6 : decode cX1_keep 6 = .ok (.iadd, 1) := by decide +kernel
theorem dX1_keep_7 : decode cX1_keep 7 = .ok (.bipush 6, 2) := by decide +kernel
theorem dX1_keep_9 : decode cX1_keep 9 = .ok (.irem, 1) := by decide +kernel
theorem dX1_keep_10 : decode cX1_keep 10 = .ok (.putfield 20, 3) := by decide +kernel
theorem dX1_keep_13 : decode cX1_keep 13 = .ok (.aload_n 0, 1) := by decide +kernel
theorem dX1_keep_14 : decode cX1_keep 14 = .ok (.aload_n 0, 1) := by decide +kernel
theorem dX1_keep_15 : decode cX1_keep 15 = .ok (.getfield 28, 3) := by decide +kernel
theorem dX1_keep_18 : decode cX1_keep 18 = .ok (.iconst 1, 1) := by decide +kernel
theorem dX1_keep_19 : decode cX1_keep 19 = .ok (.iadd, 1) := by decide +kernel
theorem dX1_keep_20 : decode cX1_keep 20 = .ok (.iconst 5, 1) := by decide +kernel
theorem dX1_keep_21 : decode cX1_keep 21 = .ok (.invokestatic 31, 3) := by decide +kernel
theorem dX1_keep_24 : decode cX1_keep 24 = .ok (.putfield 28, 3) := by decide +kernel
theorem dX1_keep_27 : decode cX1_keep 27 = .ok (.return_, 1) := by decide +kernel
theorem dX1_stepBack_0 : decode cX1_stepBack 0 = .ok (.aload_n 0, 1) := by decide +kernel
theorem dX1_stepBack_1 : decode cX1_stepBack 1 = .ok (.getfield 28, 3) := by decide +kernel
theorem dX1_stepBack_4 : decode cX1_stepBack 4 = .ok (.ifCond .gt 6, 3) := by decide +kernel
theorem dX1_stepBack_7 : decode cX1_stepBack 7 = .ok (.bipush (-3), 2) := by decide +kernel
theorem dX1_stepBack_9 : decode cX1_stepBack 9 = .ok (.ireturn, 1) := by decide +kernel
theorem dX1_stepBack_10 : decode cX1_stepBack 10 = .ok (.aload_n 0, 1) := by decide +kernel
theorem dX1_stepBack_11 : decode cX1_stepBack 11 = .ok (.aload_n 0, 1) := by decide +kernel
theorem dX1_stepBack_12 : decode cX1_stepBack 12 = .ok (.getfield 20, 3) := by decide +kernel
theorem dX1_stepBack_15 : decode cX1_stepBack 15 = .ok (.bipush 6, 2) := by decide +kernel
theorem dX1_stepBack_17 : decode cX1_stepBack 17 = .ok (.iadd, 1) := by decide +kernel
theorem dX1_stepBack_18 : decode cX1_stepBack 18 = .ok (.iconst 1, 1) := by decide +kernel
theorem dX1_stepBack_19 : decode cX1_stepBack 19 = .ok (.isub, 1) := by decide +kernel
theorem dX1_stepBack_20 : decode cX1_stepBack 20 = .ok (.bipush 6, 2) := by decide +kernel
theorem dX1_stepBack_22 : decode cX1_stepBack 22 = .ok (.irem, 1) := by decide +kernel
theorem dX1_stepBack_23 : decode cX1_stepBack 23 = .ok (.putfield 20, 3) := by decide +kernel
theorem dX1_stepBack_26 : decode cX1_stepBack 26 = .ok (.aload_n 0, 1) := by decide +kernel
theorem dX1_stepBack_27 : decode cX1_stepBack 27 = .ok (.dup, 1) := by decide +kernel
theorem dX1_stepBack_28 : decode cX1_stepBack 28 = .ok (.getfield 28, 3) := by decide +kernel
theorem dX1_stepBack_31 : decode cX1_stepBack 31 = .ok (.iconst 1, 1) := by decide +kernel
theorem dX1_stepBack_32 : decode cX1_stepBack 32 = .ok (.isub, 1) := by decide +kernel
theorem dX1_stepBack_33 : decode cX1_stepBack 33 = .ok (.putfield 28, 3) := by decide +kernel
theorem dX1_stepBack_36 : decode cX1_stepBack 36 = .ok (.aload_n 1, 1) := by decide +kernel
theorem dX1_stepBack_37 : decode cX1_stepBack 37 = .ok (.aload_n 0, 1) := by decide +kernel
theorem dX1_stepBack_38 : decode cX1_stepBack 38 = .ok (.getfield 13, 3) := by decide +kernel
theorem dX1_stepBack_41 : decode cX1_stepBack 41 = .ok (.aload_n 0, 1) := by decide +kernel
theorem dX1_stepBack_42 : decode cX1_stepBack 42 = .ok (.getfield 20, 3) := by decide +kernel
theorem dX1_stepBack_45 : decode cX1_stepBack 45 = .ok (.aaload, 1) := by decide +kernel
theorem dX1_stepBack_46 : decode cX1_stepBack 46 = .ok (.invokevirtual 24, 3) := by decide +kernel
theorem dX1_stepBack_49 : decode cX1_stepBack 49 = .ok (.aload_n 0, 1) := by decide +kernel
theorem dX1_stepBack_50 : decode cX1_stepBack 50 = .ok (.getfield 28, 3) := by decide +kernel
theorem dX1_stepBack_53 : decode cX1_stepBack 53 = .ok (.ireturn, 1) := by decide +kernel
theorem dX2_init_0 : decode cX2_init 0 = .ok (.aload_n 0, 1) := by decide +kernel
theorem dX2_init_1 : decode cX2_init 1 = .ok (.invokespecial 3, 3) := by decide +kernel
theorem dX2_init_4 : decode cX2_init 4 = .ok (.aload_n 0, 1) := by decide +kernel
theorem dX2_init_5 : decode cX2_init 5 = .ok (.bipush 64, 2) := by decide +kernel
theorem dX2_init_7 : decode cX2_init 7 = .ok (.newarray .int, 2) := by decide +kernel
theorem dX2_init_9 : decode cX2_init 9 = .ok (.putfield 9, 3) := by decide +kernel
theorem dX2_init_12 : decode cX2_init 12 = .ok (.aload_n 0, 1) := by decide +kernel
theorem dX2_init_13 : decode cX2_init 13 = .ok (.bipush 64, 2) := by decide +kernel
theorem dX2_init_15 : decode cX2_init 15 = .ok (.newarray .int, 2) := by decide +kernel
theorem dX2_init_17 : decode cX2_init 17 = .ok (.putfield 15, 3) := by decide +kernel
theorem dX2_init_20 : decode cX2_init 20 = .ok (.aload_n 0, 1) := by decide +kernel
theorem dX2_init_21 : decode cX2_init 21 = .ok (.bipush 12, 2) := by decide +kernel
theorem dX2_init_23 : decode cX2_init 23 = .ok (.newarray .int, 2) := by decide +kernel
theorem dX2_init_25 : decode cX2_init 25 = .ok (.putfield 18, 3) := by decide +kernel
theorem dX2_init_28 : decode cX2_init 28 = .ok (.aload_n 0, 1) := by decide +kernel
theorem dX2_init_29 : decode cX2_init 29 = .ok (.bipush 12, 2) := by decide +kernel
theorem dX2_init_31 : decode cX2_init 31 = .ok (.newarray .int, 2) := by decide +kernel
theorem dX2_init_33 : decode cX2_init 33 = .ok (.putfield 21, 3) := by decide +kernel
theorem dX2_init_36 : decode cX2_init 36 = .ok (.aload_n 0, 1) := by decide +kernel
theorem dX2_init_37 : decode cX2_init 37 = .ok (.bipush 12, 2) := by decide +kernel
theorem dX2_init_39 : decode cX2_init 39 = .ok (.newarray .int, 2) := by decide +kernel
theorem dX2_init_41 : decode cX2_init 41 = .ok (.putfield 24, 3) := by decide +kernel
theorem dX2_init_44 : decode cX2_init 44 = .ok (.return_, 1) := by decide +kernel
theorem dX2_become_0 : decode cX2_become 0 = .ok (.aload_n 0, 1) := by decide +kernel
theorem dX2_become_1 : decode cX2_become 1 = .ok (.aload_n 1, 1) := by decide +kernel
theorem dX2_become_2 : decode cX2_become 2 = .ok (.getfield 27, 3) := by decide +kernel
theorem dX2_become_5 : decode cX2_become 5 = .ok (.putfield 27, 3) := by decide +kernel
theorem dX2_become_8 : decode cX2_become 8 = .ok (.aload_n 0, 1) := by decide +kernel
theorem dX2_become_9 : decode cX2_become 9 = .ok (.aload_n 1, 1) := by decide +kernel
theorem dX2_become_10 : decode cX2_become 10 = .ok (.getfield 31, 3) := by decide +kernel
theorem dX2_become_13 : decode cX2_become 13 = .ok (.putfield 31, 3) := by decide +kernel
theorem dX2_become_16 : decode cX2_become 16 = .ok (.aload_n 0, 1) := by decide +kernel
theorem dX2_become_17 : decode cX2_become 17 = .ok (.aload_n 1, 1) := by decide +kernel
theorem dX2_become_18 : decode cX2_become 18 = .ok (.getfield 34, 3) := by decide +kernel
theorem dX2_become_21 : decode cX2_become 21 = .ok (.putfield 34, 3) := by decide +kernel
theorem dX2_become_24 : decode cX2_become 24 = .ok (.aload_n 1, 1) := by decide +kernel
theorem dX2_become_25 : decode cX2_become 25 = .ok (.getfield 9, 3) := by decide +kernel
theorem dX2_become_28 : decode cX2_become 28 = .ok (.iconst 0, 1) := by decide +kernel
theorem dX2_become_29 : decode cX2_become 29 = .ok (.aload_n 0, 1) := by decide +kernel
theorem dX2_become_30 : decode cX2_become 30 = .ok (.getfield 9, 3) := by decide +kernel
theorem dX2_become_33 : decode cX2_become 33 = .ok (.iconst 0, 1) := by decide +kernel
theorem dX2_become_34 : decode cX2_become 34 = .ok (.aload_n 0, 1) := by decide +kernel
theorem dX2_become_35 : decode cX2_become 35 = .ok (.getfield 27, 3) := by decide +kernel
theorem dX2_become_38 : decode cX2_become 38 = .ok (.invokestatic 37, 3) := by decide +kernel
theorem dX2_become_41 : decode cX2_become 41 = .ok (.aload_n 1, 1) := by decide +kernel
theorem dX2_become_42 : decode cX2_become 42 = .ok (.getfield 15, 3) := by decide +kernel
theorem dX2_become_45 : decode cX2_become 45 = .ok (.iconst 0, 1) := by decide +kernel
theorem dX2_become_46 : decode cX2_become 46 = .ok (.aload_n 0, 1) := by decide +kernel
theorem dX2_become_47 : decode cX2_become 47 = .ok (.getfield 15, 3) := by decide +kernel
theorem dX2_become_50 : decode cX2_become 50 = .ok (.iconst 0, 1) := by decide +kernel
theorem dX2_become_51 : decode cX2_become 51 = .ok (.aload_n 0, 1) := by decide +kernel
theorem dX2_become_52 : decode cX2_become 52 = .ok (.getfield 27, 3) := by decide +kernel
theorem dX2_become_55 : decode cX2_become 55 = .ok (.invokestatic 37, 3) := by decide +kernel
theorem dX2_become_58 : decode cX2_become 58 = .ok (.aload_n 1, 1) := by decide +kernel
theorem dX2_become_59 : decode cX2_become 59 = .ok (.getfield 18, 3) := by decide +kernel
theorem dX2_become_62 : decode cX2_become 62 = .ok (.iconst 0, 1) := by decide +kernel
theorem dX2_become_63 : decode cX2_become 63 = .ok (.aload_n 0, 1) := by decide +kernel
theorem dX2_become_64 : decode cX2_become 64 = .ok (.getfield 18, 3) := by decide +kernel
theorem dX2_become_67 : decode cX2_become 67 = .ok (.iconst 0, 1) := by decide +kernel
theorem dX2_become_68 : decode cX2_become 68 = .ok (.aload_n 0, 1) := by decide +kernel
theorem dX2_become_69 : decode cX2_become 69 = .ok (.getfield 31, 3) := by decide +kernel
theorem dX2_become_72 : decode cX2_become 72 = .ok (.invokestatic 37, 3) := by decide +kernel
theorem dX2_become_75 : decode cX2_become 75 = .ok (.aload_n 1, 1) := by decide +kernel
theorem dX2_become_76 : decode cX2_become 76 = .ok (.getfield 21, 3) := by decide +kernel
theorem dX2_become_79 : decode cX2_become 79 = .ok (.iconst 0, 1) := by decide +kernel
theorem dX2_become_80 : decode cX2_become 80 = .ok (.aload_n 0, 1) := by decide +kernel
theorem dX2_become_81 : decode cX2_become 81 = .ok (.getfield 21, 3) := by decide +kernel
theorem dX2_become_84 : decode cX2_become 84 = .ok (.iconst 0, 1) := by decide +kernel
theorem dX2_become_85 : decode cX2_become 85 = .ok (.aload_n 0, 1) := by decide +kernel
theorem dX2_become_86 : decode cX2_become 86 = .ok (.getfield 31, 3) := by decide +kernel
theorem dX2_become_89 : decode cX2_become 89 = .ok (.invokestatic 37, 3) := by decide +kernel
theorem dX2_become_92 : decode cX2_become 92 = .ok (.aload_n 1, 1) := by decide +kernel
theorem dX2_become_93 : decode cX2_become 93 = .ok (.getfield 24, 3) := by decide +kernel
theorem dX2_become_96 : decode cX2_become 96 = .ok (.iconst 0, 1) := by decide +kernel
theorem dX2_become_97 : decode cX2_become 97 = .ok (.aload_n 0, 1) := by decide +kernel
theorem dX2_become_98 : decode cX2_become 98 = .ok (.getfield 24, 3) := by decide +kernel
theorem dX2_become_101 : decode cX2_become 101 = .ok (.iconst 0, 1) := by decide +kernel
theorem dX2_become_102 : decode cX2_become 102 = .ok (.aload_n 0, 1) := by decide +kernel
theorem dX2_become_103 : decode cX2_become 103 = .ok (.getfield 31, 3) := by decide +kernel
theorem dX2_become_106 : decode cX2_become 106 = .ok (.invokestatic 37, 3) := by decide +kernel
theorem dX2_become_109 : decode cX2_become 109 = .ok (.return_, 1) := by decide +kernel
theorem dX2_await_0 : decode cX2_await 0 = .ok (.aload_n 0, 1) := by decide +kernel
theorem dX2_await_1 : decode cX2_await 1 = .ok (.getfield 27, 3) := by decide +kernel
theorem dX2_await_4 : decode cX2_await 4 = .ok (.bipush 64, 2) := by decide +kernel
theorem dX2_await_6 : decode cX2_await 6 = .ok (.if_icmp .ge 33, 3) := by decide +kernel
theorem dX2_await_9 : decode cX2_await 9 = .ok (.aload_n 0, 1) := by decide +kernel
theorem dX2_await_10 : decode cX2_await 10 = .ok (.getfield 9, 3) := by decide +kernel
theorem dX2_await_13 : decode cX2_await 13 = .ok (.aload_n 0, 1) := by decide +kernel
theorem dX2_await_14 : decode cX2_await 14 = .ok (.getfield 27, 3) := by decide +kernel
theorem dX2_await_17 : decode cX2_await 17 = .ok (.iload_n 1, 1) := by decide +kernel
theorem dX2_await_18 : decode cX2_await 18 = .ok (.iastore, 1) := by decide +kernel
theorem dX2_await_19 : decode cX2_await 19 = .ok (.aload_n 0, 1) := by decide +kernel
theorem dX2_await_20 : decode cX2_await 20 = .ok (.getfield 15, 3) := by decide +kernel
theorem dX2_await_23 : decode cX2_await 23 = .ok (.aload_n 0, 1) := by decide +kernel
theorem dX2_await_24 : decode cX2_await 24 = .ok (.getfield 27, 3) := by decide +kernel
theorem dX2_await_27 : decode cX2_await 27 = .ok (.iload_n 2, 1) := by decide +kernel
theorem dX2_await_28 : decode cX2_await 28 = .ok (.iastore, 1) := by decide +kernel
theorem dX2_await_29 : decode cX2_await 29 = .ok (.aload_n 0, 1) := by decide +kernel
theorem dX2_await_30 : decode cX2_await 30 = .ok (.dup, 1) := by decide +kernel
theorem dX2_await_31 : decode cX2_await 31 = .ok (.getfield 27, 3) := by decide +kernel
theorem dX2_await_34 : decode cX2_await 34 = .ok (.iconst 1, 1) := by decide +kernel
theorem dX2_await_35 : decode cX2_await 35 = .ok (.iadd, 1) := by decide +kernel
theorem dX2_await_36 : decode cX2_await 36 = .ok (.putfield 27, 3) := by decide +kernel
theorem dX2_await_39 : decode cX2_await 39 = .ok (.return_, 1) := by decide +kernel
theorem dX2_tellDue_0 : decode cX2_tellDue 0 = .ok (.iconst 0, 1) := by decide +kernel
theorem dX2_tellDue_1 : decode cX2_tellDue 1 = .ok (.istore_n 3, 1) := by decide +kernel
theorem dX2_tellDue_2 : decode cX2_tellDue 2 = .ok (.iconst 0, 1) := by decide +kernel
theorem dX2_tellDue_3 : decode cX2_tellDue 3 = .ok (.istore 4, 2) := by decide +kernel
theorem dX2_tellDue_5 : decode cX2_tellDue 5 = .ok (.iload 4, 2) := by decide +kernel
theorem dX2_tellDue_7 : decode cX2_tellDue 7 = .ok (.aload_n 0, 1) := by decide +kernel
theorem dX2_tellDue_8 : decode cX2_tellDue 8 = .ok (.getfield 27, 3) := by decide +kernel
theorem dX2_tellDue_11 : decode cX2_tellDue 11 = .ok (.if_icmp .ge 65, 3) := by decide +kernel
theorem dX2_tellDue_14 : decode cX2_tellDue 14 = .ok (.aload_n 0, 1) := by decide +kernel
theorem dX2_tellDue_15 : decode cX2_tellDue 15 = .ok (.getfield 15, 3) := by decide +kernel
theorem dX2_tellDue_18 : decode cX2_tellDue 18 = .ok (.iload 4, 2) := by decide +kernel
theorem dX2_tellDue_20 : decode cX2_tellDue 20 = .ok (.iaload, 1) := by decide +kernel
theorem dX2_tellDue_21 : decode cX2_tellDue 21 = .ok (.iload_n 2, 1) := by decide +kernel
theorem dX2_tellDue_22 : decode cX2_tellDue 22 = .ok (.if_icmp .gt 19, 3) := by decide +kernel
theorem dX2_tellDue_25 : decode cX2_tellDue 25 = .ok (.aload_n 0, 1) := by decide +kernel
theorem dX2_tellDue_26 : decode cX2_tellDue 26 = .ok (.aload_n 0, 1) := by decide +kernel
theorem dX2_tellDue_27 : decode cX2_tellDue 27 = .ok (.getfield 9, 3) := by decide +kernel
theorem dX2_tellDue_30 : decode cX2_tellDue 30 = .ok (.iload 4, 2) := by decide +kernel
theorem dX2_tellDue_32 : decode cX2_tellDue 32 = .ok (.iaload, 1) := by decide +kernel
theorem dX2_tellDue_33 : decode cX2_tellDue 33 = .ok (.iload_n 1, 1) := by decide +kernel
theorem dX2_tellDue_34 : decode cX2_tellDue 34 = .ok (.iload_n 2, 1) := by decide +kernel
theorem dX2_tellDue_35 : decode cX2_tellDue 35 = .ok (.invokevirtual 43, 3) := by decide +kernel
theorem dX2_tellDue_38 : decode cX2_tellDue 38 = .ok (.goto 32, 3) := by decide +kernel
theorem dX2_tellDue_41 : decode cX2_tellDue 41 = .ok (.aload_n 0, 1) := by decide +kernel
theorem dX2_tellDue_42 : decode cX2_tellDue 42 = .ok (.getfield 9, 3) := by decide +kernel
theorem dX2_tellDue_45 : decode cX2_tellDue 45 = .ok (.iload_n 3, 1) := by decide +kernel
theorem dX2_tellDue_46 : decode cX2_tellDue 46 = .ok (.aload_n 0, 1) := by decide +kernel
theorem dX2_tellDue_47 : decode cX2_tellDue 47 = .ok (.getfield 9, 3) := by decide +kernel
theorem dX2_tellDue_50 : decode cX2_tellDue 50 = .ok (.iload 4, 2) := by decide +kernel
theorem dX2_tellDue_52 : decode cX2_tellDue 52 = .ok (.iaload, 1) := by decide +kernel
theorem dX2_tellDue_53 : decode cX2_tellDue 53 = .ok (.iastore, 1) := by decide +kernel
theorem dX2_tellDue_54 : decode cX2_tellDue 54 = .ok (.aload_n 0, 1) := by decide +kernel
theorem dX2_tellDue_55 : decode cX2_tellDue 55 = .ok (.getfield 15, 3) := by decide +kernel
theorem dX2_tellDue_58 : decode cX2_tellDue 58 = .ok (.iload_n 3, 1) := by decide +kernel
theorem dX2_tellDue_59 : decode cX2_tellDue 59 = .ok (.aload_n 0, 1) := by decide +kernel
theorem dX2_tellDue_60 : decode cX2_tellDue 60 = .ok (.getfield 15, 3) := by decide +kernel
theorem dX2_tellDue_63 : decode cX2_tellDue 63 = .ok (.iload 4, 2) := by decide +kernel
theorem dX2_tellDue_65 : decode cX2_tellDue 65 = .ok (.iaload, 1) := by decide +kernel
theorem dX2_tellDue_66 : decode cX2_tellDue 66 = .ok (.iastore, 1) := by decide +kernel
theorem dX2_tellDue_67 : decode cX2_tellDue 67 = .ok (.iinc 3 1, 3) := by decide +kernel
theorem dX2_tellDue_70 : decode cX2_tellDue 70 = .ok (.iinc 4 1, 3) := by decide +kernel
theorem dX2_tellDue_73 : decode cX2_tellDue 73 = .ok (.goto (-68), 3) := by decide +kernel
theorem dX2_tellDue_76 : decode cX2_tellDue 76 = .ok (.aload_n 0, 1) := by decide +kernel
theorem dX2_tellDue_77 : decode cX2_tellDue 77 = .ok (.iload_n 3, 1) := by decide +kernel
theorem dX2_tellDue_78 : decode cX2_tellDue 78 = .ok (.putfield 27, 3) := by decide +kernel
theorem dX2_tellDue_81 : decode cX2_tellDue 81 = .ok (.return_, 1) := by decide +kernel
theorem dX2_keep_0 : decode cX2_keep 0 = .ok (.aload_n 0, 1) := by decide +kernel
theorem dX2_keep_1 : decode cX2_keep 1 = .ok (.getfield 31, 3) := by decide +kernel
theorem dX2_keep_4 : decode cX2_keep 4 = .ok (.bipush 12, 2) := by decide +kernel
theorem dX2_keep_6 : decode cX2_keep 6 = .ok (.if_icmp .lt 14, 3) := by decide +kernel
theorem dX2_keep_9 : decode cX2_keep 9 = .ok (.aload_n 0, 1) := by decide +kernel
theorem dX2_keep_10 : decode cX2_keep 10 = .ok (.dup, 1) := by decide +kernel
theorem dX2_keep_11 : decode cX2_keep 11 = .ok (.getfield 34, 3) := by decide +kernel
theorem dX2_keep_14 : decode cX2_keep 14 = .ok (.iconst 1, 1) := by decide +kernel
theorem dX2_keep_15 : decode cX2_keep 15 = .ok (.iadd, 1) := by decide +kernel
theorem dX2_keep_16 : decode cX2_keep 16 = .ok (.putfield 34, 3) := by decide +kernel
theorem dX2_keep_19 : decode cX2_keep 19 = .ok (.return_, 1) := by decide +kernel
theorem dX2_keep_20 : decode cX2_keep 20 = .ok (.aload_n 0, 1) := by decide +kernel
theorem dX2_keep_21 : decode cX2_keep 21 = .ok (.getfield 18, 3) := by decide +kernel
theorem dX2_keep_24 : decode cX2_keep 24 = .ok (.aload_n 0, 1) := by decide +kernel
theorem dX2_keep_25 : decode cX2_keep 25 = .ok (.getfield 31, 3) := by decide +kernel
theorem dX2_keep_28 : decode cX2_keep 28 = .ok (.iload_n 1, 1) := by decide +kernel
theorem dX2_keep_29 : decode cX2_keep 29 = .ok (.iastore, 1) := by decide +kernel
theorem dX2_keep_30 : decode cX2_keep 30 = .ok (.aload_n 0, 1) := by decide +kernel
theorem dX2_keep_31 : decode cX2_keep 31 = .ok (.getfield 21, 3) := by decide +kernel
theorem dX2_keep_34 : decode cX2_keep 34 = .ok (.aload_n 0, 1) := by decide +kernel
theorem dX2_keep_35 : decode cX2_keep 35 = .ok (.getfield 31, 3) := by decide +kernel
theorem dX2_keep_38 : decode cX2_keep 38 = .ok (.iload_n 2, 1) := by decide +kernel
theorem dX2_keep_39 : decode cX2_keep 39 = .ok (.iastore, 1) := by decide +kernel
theorem dX2_keep_40 : decode cX2_keep 40 = .ok (.aload_n 0, 1) := by decide +kernel
theorem dX2_keep_41 : decode cX2_keep 41 = .ok (.getfield 24, 3) := by decide +kernel
theorem dX2_keep_44 : decode cX2_keep 44 = .ok (.aload_n 0, 1) := by decide +kernel
theorem dX2_keep_45 : decode cX2_keep 45 = .ok (.getfield 31, 3) := by decide +kernel
theorem dX2_keep_48 : decode cX2_keep 48 = .ok (.iload_n 3, 1) := by decide +kernel
theorem dX2_keep_49 : decode cX2_keep 49 = .ok (.iastore, 1) := by decide +kernel
theorem dX2_keep_50 : decode cX2_keep 50 = .ok (.aload_n 0, 1) := by decide +kernel
theorem dX2_keep_51 : decode cX2_keep 51 = .ok (.dup, 1) := by decide +kernel
theorem dX2_keep_52 : decode cX2_keep 52 = .ok (.getfield 31, 3) := by decide +kernel
theorem dX2_keep_55 : decode cX2_keep 55 = .ok (.iconst 1, 1) := by decide +kernel
theorem dX2_keep_56 : decode cX2_keep 56 = .ok (.iadd, 1) := by decide +kernel
theorem dX2_keep_57 : decode cX2_keep 57 = .ok (.putfield 31, 3) := by decide +kernel
theorem dX2_keep_60 : decode cX2_keep 60 = .ok (.return_, 1) := by decide +kernel
theorem dX2_keptFact_0 : decode cX2_keptFact 0 = .ok (.iload_n 1, 1) := by decide +kernel
theorem dX2_keptFact_1 : decode cX2_keptFact 1 = .ok (.ifCond .lt 12, 3) := by decide +kernel
theorem dX2_keptFact_4 : decode cX2_keptFact 4 = .ok (.iload_n 2, 1) := by decide +kernel
theorem dX2_keptFact_5 : decode cX2_keptFact 5 = .ok (.iconst 0, 1) := by decide +kernel
theorem dX2_keptFact_6 : decode cX2_keptFact 6 = .ok (.iconst 2, 1) := by decide +kernel
theorem dX2_keptFact_7 : decode cX2_keptFact 7 = .ok (.invokestatic 47, 3) := by decide +kernel
theorem dX2_keptFact_10 : decode cX2_keptFact 10 = .ok (.ifCond .ne 6, 3) := by decide +kernel
theorem dX2_keptFact_13 : decode cX2_keptFact 13 = .ok (.bipush (-2), 2) := by decide +kernel
theorem dX2_keptFact_15 : decode cX2_keptFact 15 = .ok (.ireturn, 1) := by decide +kernel
theorem dX2_keptFact_16 : decode cX2_keptFact 16 = .ok (.iload_n 1, 1) := by decide +kernel
theorem dX2_keptFact_17 : decode cX2_keptFact 17 = .ok (.aload_n 0, 1) := by decide +kernel
theorem dX2_keptFact_18 : decode cX2_keptFact 18 = .ok (.getfield 31, 3) := by decide +kernel
theorem dX2_keptFact_21 : decode cX2_keptFact 21 = .ok (.if_icmp .lt 5, 3) := by decide +kernel
theorem dX2_keptFact_24 : decode cX2_keptFact 24 = .ok (.iconst (-1), 1) := by decide +kernel
theorem dX2_keptFact_25 : decode cX2_keptFact 25 = .ok (.ireturn, 1) := by decide +kernel
theorem dX2_keptFact_26 : decode cX2_keptFact 26 = .ok (.iload_n 2, 1) := by decide +kernel
theorem dX2_keptFact_27 : decode cX2_keptFact 27 = .ok (.lookupswitch 39 #[(0, 25), (1, 32)], 25) := by decide +kernel
theorem dX2_keptFact_52 : decode cX2_keptFact 52 = .ok (.aload_n 0, 1) := by decide +kernel
theorem dX2_keptFact_53 : decode cX2_keptFact 53 = .ok (.getfield 18, 3) := by decide +kernel
theorem dX2_keptFact_56 : decode cX2_keptFact 56 = .ok (.iload_n 1, 1) := by decide +kernel
theorem dX2_keptFact_57 : decode cX2_keptFact 57 = .ok (.iaload, 1) := by decide +kernel
theorem dX2_keptFact_58 : decode cX2_keptFact 58 = .ok (.ireturn, 1) := by decide +kernel
theorem dX2_keptFact_59 : decode cX2_keptFact 59 = .ok (.aload_n 0, 1) := by decide +kernel
theorem dX2_keptFact_60 : decode cX2_keptFact 60 = .ok (.getfield 21, 3) := by decide +kernel
theorem dX2_keptFact_63 : decode cX2_keptFact 63 = .ok (.iload_n 1, 1) := by decide +kernel
theorem dX2_keptFact_64 : decode cX2_keptFact 64 = .ok (.iaload, 1) := by decide +kernel
theorem dX2_keptFact_65 : decode cX2_keptFact 65 = .ok (.ireturn, 1) := by decide +kernel
theorem dX2_keptFact_66 : decode cX2_keptFact 66 = .ok (.aload_n 0, 1) := by decide +kernel
theorem dX2_keptFact_67 : decode cX2_keptFact 67 = .ok (.getfield 24, 3) := by decide +kernel
theorem dX2_keptFact_70 : decode cX2_keptFact 70 = .ok (.iload_n 1, 1) := by decide +kernel
theorem dX2_keptFact_71 : decode cX2_keptFact 71 = .ok (.iaload, 1) := by decide +kernel
theorem dX2_keptFact_72 : decode cX2_keptFact 72 = .ok (.ireturn, 1) := by decide +kernel
theorem dX3_init_0 : decode cX3_init 0 = .ok (.aload_n 0, 1) := by decide +kernel
theorem dX3_init_1 : decode cX3_init 1 = .ok (.invokespecial 3, 3) := by decide +kernel
theorem dX3_init_4 : decode cX3_init 4 = .ok (.aload_n 0, 1) := by decide +kernel
theorem dX3_init_5 : decode cX3_init 5 = .ok (.iconst 4, 1) := by decide +kernel
theorem dX3_init_6 : decode cX3_init 6 = .ok (.newarray .int, 2) := by decide +kernel
theorem dX3_init_8 : decode cX3_init 8 = .ok (.putfield 9, 3) := by decide +kernel
theorem dX3_init_11 : decode cX3_init 11 = .ok (.aload_n 0, 1) := by decide +kernel
theorem dX3_init_12 : decode cX3_init 12 = .ok (.iconst 4, 1) := by decide +kernel
theorem dX3_init_13 : decode cX3_init 13 = .ok (.newarray .int, 2) := by decide +kernel
theorem dX3_init_15 : decode cX3_init 15 = .ok (.putfield 15, 3) := by decide +kernel
theorem dX3_init_18 : decode cX3_init 18 = .ok (.return_, 1) := by decide +kernel
theorem dX3_open_0 : decode cX3_open 0 = .ok (.aload_n 0, 1) := by decide +kernel
theorem dX3_open_1 : decode cX3_open 1 = .ok (.iconst 0, 1) := by decide +kernel
theorem dX3_open_2 : decode cX3_open 2 = .ok (.putfield 18, 3) := by decide +kernel
theorem dX3_open_5 : decode cX3_open 5 = .ok (.aload_n 0, 1) := by decide +kernel
theorem dX3_open_6 : decode cX3_open 6 = .ok (.iconst 1, 1) := by decide +kernel
theorem dX3_open_7 : decode cX3_open 7 = .ok (.iload_n 1, 1) := by decide +kernel
theorem dX3_open_8 : decode cX3_open 8 = .ok (.ishl, 1) := by decide +kernel
theorem dX3_open_9 : decode cX3_open 9 = .ok (.iconst 1, 1) := by decide +kernel
theorem dX3_open_10 : decode cX3_open 10 = .ok (.isub, 1) := by decide +kernel
theorem dX3_open_11 : decode cX3_open 11 = .ok (.putfield 22, 3) := by decide +kernel
theorem dX3_open_14 : decode cX3_open 14 = .ok (.return_, 1) := by decide +kernel
theorem dX3_take_0 : decode cX3_take 0 = .ok (.aload_n 0, 1) := by decide +kernel
theorem dX3_take_1 : decode cX3_take 1 = .ok (.getfield 18, 3) := by decide +kernel
theorem dX3_take_4 : decode cX3_take 4 = .ok (.istore_n 3, 1) := by decide +kernel
theorem dX3_take_5 : decode cX3_take 5 = .ok (.iload_n 3, 1) := by decide +kernel
theorem dX3_take_6 : decode cX3_take 6 = .ok (.aload_n 1, 1) := by decide +kernel
theorem dX3_take_7 : decode cX3_take 7 = .ok (.getfield 25, 3) := by decide +kernel
theorem dX3_take_10 : decode cX3_take 10 = .ok (.iadd, 1) := by decide +kernel
theorem dX3_take_11 : decode cX3_take 11 = .ok (.iconst 4, 1) := by decide +kernel
theorem dX3_take_12 : decode cX3_take 12 = .ok (.if_icmp .le 5, 3) := by decide +kernel
theorem dX3_take_15 : decode cX3_take 15 = .ok (.iconst 0, 1) := by decide +kernel
theorem dX3_take_16 : decode cX3_take 16 = .ok (.ireturn, 1) := by decide +kernel
theorem dX3_take_17 : decode cX3_take 17 = .ok (.iconst 0, 1) := by decide +kernel
theorem dX3_take_18 : decode cX3_take 18 = .ok (.istore 4, 2) := by decide +kernel
theorem dX3_take_20 : decode cX3_take 20 = .ok (.iload 4, 2) := by decide +kernel
theorem dX3_take_22 : decode cX3_take 22 = .ok (.aload_n 1, 1) := by decide +kernel
theorem dX3_take_23 : decode cX3_take 23 = .ok (.getfield 25, 3) := by decide +kernel
theorem dX3_take_26 : decode cX3_take 26 = .ok (.if_icmp .ge 37, 3) := by decide +kernel
theorem dX3_take_29 : decode cX3_take 29 = .ok (.aload_n 0, 1) := by decide +kernel
theorem dX3_take_30 : decode cX3_take 30 = .ok (.getfield 9, 3) := by decide +kernel
theorem dX3_take_33 : decode cX3_take 33 = .ok (.aload_n 0, 1) := by decide +kernel
theorem dX3_take_34 : decode cX3_take 34 = .ok (.getfield 18, 3) := by decide +kernel
theorem dX3_take_37 : decode cX3_take 37 = .ok (.aload_n 2, 1) := by decide +kernel
theorem dX3_take_38 : decode cX3_take 38 = .ok (.aload_n 1, 1) := by decide +kernel
theorem dX3_take_39 : decode cX3_take 39 = .ok (.getfield 30, 3) := by decide +kernel
theorem dX3_take_42 : decode cX3_take 42 = .ok (.iload 4, 2) := by decide +kernel
theorem dX3_take_44 : decode cX3_take 44 = .ok (.iaload, 1) := by decide +kernel
theorem dX3_take_45 : decode cX3_take 45 = .ok (.iaload, 1) := by decide +kernel
theorem dX3_take_46 : decode cX3_take 46 = .ok (.iastore, 1) := by decide +kernel
theorem dX3_take_47 : decode cX3_take 47 = .ok (.aload_n 0, 1) := by decide +kernel
theorem dX3_take_48 : decode cX3_take 48 = .ok (.dup, 1) := by decide +kernel
theorem dX3_take_49 : decode cX3_take 49 = .ok (.getfield 18, 3) := by decide +kernel
theorem dX3_take_52 : decode cX3_take 52 = .ok (.iconst 1, 1) := by decide +kernel
theorem dX3_take_53 : decode cX3_take 53 = .ok (.iadd, 1) := by decide +kernel
theorem dX3_take_54 : decode cX3_take 54 = .ok (.putfield 18, 3) := by decide +kernel
theorem dX3_take_57 : decode cX3_take 57 = .ok (.iinc 4 1, 3) := by decide +kernel
theorem dX3_take_60 : decode cX3_take 60 = .ok (.goto (-40), 3) := by decide +kernel
theorem dX3_take_63 : decode cX3_take 63 = .ok (.aload_n 0, 1) := by decide +kernel
theorem dX3_take_64 : decode cX3_take 64 = .ok (.getfield 9, 3) := by decide +kernel
theorem dX3_take_67 : decode cX3_take 67 = .ok (.aload_n 0, 1) := by decide +kernel
theorem dX3_take_68 : decode cX3_take 68 = .ok (.getfield 15, 3) := by decide +kernel
theorem dX3_take_71 : decode cX3_take 71 = .ok (.aload_n 0, 1) := by decide +kernel
theorem dX3_take_72 : decode cX3_take 72 = .ok (.getfield 18, 3) := by decide +kernel
theorem dX3_take_75 : decode cX3_take 75 = .ok (.iconst 0, 1) := by decide +kernel
theorem dX3_take_76 : decode cX3_take 76 = .ok (.aload_n 0, 1) := by decide +kernel
theorem dX3_take_77 : decode cX3_take 77 = .ok (.getfield 22, 3) := by decide +kernel
theorem dX3_take_80 : decode cX3_take 80 = .ok (.invokestatic 33, 3) := by decide +kernel
theorem dX3_take_83 : decode cX3_take 83 = .ok (.ifCond .eq 5, 3) := by decide +kernel
theorem dX3_take_86 : decode cX3_take 86 = .ok (.iconst 1, 1) := by decide +kernel
theorem dX3_take_87 : decode cX3_take 87 = .ok (.ireturn, 1) := by decide +kernel
theorem dX3_take_88 : decode cX3_take 88 = .ok (.aload_n 0, 1) := by decide +kernel
theorem dX3_take_89 : decode cX3_take 89 = .ok (.iload_n 3, 1) := by decide +kernel
theorem dX3_take_90 : decode cX3_take 90 = .ok (.putfield 18, 3) := by decide +kernel
theorem dX3_take_93 : decode cX3_take 93 = .ok (.iconst 0, 1) := by decide +kernel
theorem dX3_take_94 : decode cX3_take 94 = .ok (.ireturn, 1) := by decide +kernel
theorem dX3_sitAll_0 : decode cX3_sitAll 0 = .ok (.aload_n 0, 1) := by decide +kernel
theorem dX3_sitAll_1 : decode cX3_sitAll 1 = .ok (.getfield 9, 3) := by decide +kernel
theorem dX3_sitAll_4 : decode cX3_sitAll 4 = .ok (.aload_n 0, 1) := by decide +kernel
theorem dX3_sitAll_5 : decode cX3_sitAll 5 = .ok (.getfield 15, 3) := by decide +kernel
theorem dX3_sitAll_8 : decode cX3_sitAll 8 = .ok (.aload_n 0, 1) := by decide +kernel
theorem dX3_sitAll_9 : decode cX3_sitAll 9 = .ok (.getfield 18, 3) := by decide +kernel
theorem dX3_sitAll_12 : decode cX3_sitAll 12 = .ok (.iconst 0, 1) := by decide +kernel
theorem dX3_sitAll_13 : decode cX3_sitAll 13 = .ok (.aload_n 0, 1) := by decide +kernel
theorem dX3_sitAll_14 : decode cX3_sitAll 14 = .ok (.getfield 22, 3) := by decide +kernel
theorem dX3_sitAll_17 : decode cX3_sitAll 17 = .ok (.invokestatic 33, 3) := by decide +kernel
theorem dX3_sitAll_20 : decode cX3_sitAll 20 = .ok (.pop, 1) := by decide +kernel
theorem dX3_sitAll_21 : decode cX3_sitAll 21 = .ok (.return_, 1) := by decide +kernel
theorem dX3_sit_0 : decode cX3_sit 0 = .ok (.iload_n 3, 1) := by decide +kernel
theorem dX3_sit_1 : decode cX3_sit 1 = .ok (.iload_n 2, 1) := by decide +kernel
theorem dX3_sit_2 : decode cX3_sit 2 = .ok (.if_icmp .lt 5, 3) := by decide +kernel
theorem dX3_sit_5 : decode cX3_sit 5 = .ok (.iconst 1, 1) := by decide +kernel
theorem dX3_sit_6 : decode cX3_sit 6 = .ok (.ireturn, 1) := by decide +kernel
theorem dX3_sit_7 : decode cX3_sit 7 = .ok (.iconst 0, 1) := by decide +kernel
theorem dX3_sit_8 : decode cX3_sit 8 = .ok (.istore 5, 2) := by decide +kernel
theorem dX3_sit_10 : decode cX3_sit 10 = .ok (.iload 5, 2) := by decide +kernel
theorem dX3_sit_12 : decode cX3_sit 12 = .ok (.iconst 4, 1) := by decide +kernel
theorem dX3_sit_13 : decode cX3_sit 13 = .ok (.if_icmp .ge 53, 3) := by decide +kernel
theorem dX3_sit_16 : decode cX3_sit 16 = .ok (.iconst 1, 1) := by decide +kernel
theorem dX3_sit_17 : decode cX3_sit 17 = .ok (.iload 5, 2) := by decide +kernel
theorem dX3_sit_19 : decode cX3_sit 19 = .ok (.ishl, 1) := by decide +kernel
theorem dX3_sit_20 : decode cX3_sit 20 = .ok (.istore 6, 2) := by decide +kernel
theorem dX3_sit_22 : decode cX3_sit 22 = .ok (.aload_n 0, 1) := by decide +kernel
theorem dX3_sit_23 : decode cX3_sit 23 = .ok (.iload_n 3, 1) := by decide +kernel
theorem dX3_sit_24 : decode cX3_sit 24 = .ok (.iaload, 1) := by decide +kernel
theorem dX3_sit_25 : decode cX3_sit 25 = .ok (.iload 4, 2) := by decide +kernel
theorem dX3_sit_27 : decode cX3_sit 27 = .ok (.iand, 1) := by decide +kernel
theorem dX3_sit_28 : decode cX3_sit 28 = .ok (.iload 6, 2) := by decide +kernel
theorem dX3_sit_30 : decode cX3_sit 30 = .ok (.iand, 1) := by decide +kernel
theorem dX3_sit_31 : decode cX3_sit 31 = .ok (.ifCond .eq 29, 3) := by decide +kernel
theorem dX3_sit_34 : decode cX3_sit 34 = .ok (.aload_n 1, 1) := by decide +kernel
theorem dX3_sit_35 : decode cX3_sit 35 = .ok (.iload_n 3, 1) := by decide +kernel
theorem dX3_sit_36 : decode cX3_sit 36 = .ok (.iload 5, 2) := by decide +kernel
theorem dX3_sit_38 : decode cX3_sit 38 = .ok (.iastore, 1) := by decide +kernel
theorem dX3_sit_39 : decode cX3_sit 39 = .ok (.aload_n 0, 1) := by decide +kernel
theorem dX3_sit_40 : decode cX3_sit 40 = .ok (.aload_n 1, 1) := by decide +kernel
theorem dX3_sit_41 : decode cX3_sit 41 = .ok (.iload_n 2, 1) := by decide +kernel
theorem dX3_sit_42 : decode cX3_sit 42 = .ok (.iload_n 3, 1) := by decide +kernel
theorem dX3_sit_43 : decode cX3_sit 43 = .ok (.iconst 1, 1) := by decide +kernel
theorem dX3_sit_44 : decode cX3_sit 44 = .ok (.iadd, 1) := by decide +kernel
theorem dX3_sit_45 : decode cX3_sit 45 = .ok (.iload 4, 2) := by decide +kernel
theorem dX3_sit_47 : decode cX3_sit 47 = .ok (.iload 6, 2) := by decide +kernel
theorem dX3_sit_49 : decode cX3_sit 49 = .ok (.iconst (-1), 1) := by decide +kernel
theorem dX3_sit_50 : decode cX3_sit 50 = .ok (.ixor, 1) := by decide +kernel
theorem dX3_sit_51 : decode cX3_sit 51 = .ok (.iand, 1) := by decide +kernel
theorem dX3_sit_52 : decode cX3_sit 52 = .ok (.invokestatic 33, 3) := by decide +kernel
theorem dX3_sit_55 : decode cX3_sit 55 = .ok (.ifCond .eq 5, 3) := by decide +kernel
theorem dX3_sit_58 : decode cX3_sit 58 = .ok (.iconst 1, 1) := by decide +kernel
theorem dX3_sit_59 : decode cX3_sit 59 = .ok (.ireturn, 1) := by decide +kernel
theorem dX3_sit_60 : decode cX3_sit 60 = .ok (.iinc 5 1, 3) := by decide +kernel
theorem dX3_sit_63 : decode cX3_sit 63 = .ok (.goto (-53), 3) := by decide +kernel
theorem dX3_sit_66 : decode cX3_sit 66 = .ok (.iconst 0, 1) := by decide +kernel
theorem dX3_sit_67 : decode cX3_sit 67 = .ok (.ireturn, 1) := by decide +kernel
theorem dX4_init_0 : decode cX4_init 0 = .ok (.aload_n 0, 1) := by decide +kernel
theorem dX4_init_1 : decode cX4_init 1 = .ok (.invokespecial 3, 3) := by decide +kernel
theorem dX4_init_4 : decode cX4_init 4 = .ok (.aload_n 0, 1) := by decide +kernel
theorem dX4_init_5 : decode cX4_init 5 = .ok (.iconst 2, 1) := by decide +kernel
theorem dX4_init_6 : decode cX4_init 6 = .ok (.putfield 9, 3) := by decide +kernel
theorem dX4_init_9 : decode cX4_init 9 = .ok (.aload_n 0, 1) := by decide +kernel
theorem dX4_init_10 : decode cX4_init 10 = .ok (.iconst 1, 1) := by decide +kernel
theorem dX4_init_11 : decode cX4_init 11 = .ok (.putfield 15, 3) := by decide +kernel
theorem dX4_init_14 : decode cX4_init 14 = .ok (.aload_n 0, 1) := by decide +kernel
theorem dX4_init_15 : decode cX4_init 15 = .ok (.bipush 8, 2) := by decide +kernel
theorem dX4_init_17 : decode cX4_init 17 = .ok (.newarray .int, 2) := by decide +kernel
theorem dX4_init_19 : decode cX4_init 19 = .ok (.putfield 18, 3) := by decide +kernel
theorem dX4_init_22 : decode cX4_init 22 = .ok (.aload_n 0, 1) := by decide +kernel
theorem dX4_init_23 : decode cX4_init 23 = .ok (.new 22, 3) := by decide +kernel
theorem dX4_init_26 : decode cX4_init 26 = .ok (.dup, 1) := by decide +kernel
theorem dX4_init_27 : decode cX4_init 27 = .ok (.invokespecial 24, 3) := by decide +kernel
theorem dX4_init_30 : decode cX4_init 30 = .ok (.putfield 25, 3) := by decide +kernel
theorem dX4_init_33 : decode cX4_init 33 = .ok (.aload_n 0, 1) := by decide +kernel
theorem dX4_init_34 : decode cX4_init 34 = .ok (.bipush 6, 2) := by decide +kernel
theorem dX4_init_36 : decode cX4_init 36 = .ok (.anewarray 29, 3) := by decide +kernel
theorem dX4_init_39 : decode cX4_init 39 = .ok (.putfield 31, 3) := by decide +kernel
theorem dX4_init_42 : decode cX4_init 42 = .ok (.aload_n 0, 1) := by decide +kernel
theorem dX4_init_43 : decode cX4_init 43 = .ok (.bipush 6, 2) := by decide +kernel
theorem dX4_init_45 : decode cX4_init 45 = .ok (.newarray .int, 2) := by decide +kernel
theorem dX4_init_47 : decode cX4_init 47 = .ok (.putfield 35, 3) := by decide +kernel
theorem dX4_init_50 : decode cX4_init 50 = .ok (.aload_n 0, 1) := by decide +kernel
theorem dX4_init_51 : decode cX4_init 51 = .ok (.new 38, 3) := by decide +kernel
theorem dX4_init_54 : decode cX4_init 54 = .ok (.dup, 1) := by decide +kernel
theorem dX4_init_55 : decode cX4_init 55 = .ok (.invokespecial 40, 3) := by decide +kernel
theorem dX4_init_58 : decode cX4_init 58 = .ok (.putfield 41, 3) := by decide +kernel
theorem dX4_init_61 : decode cX4_init 61 = .ok (.aload_n 0, 1) := by decide +kernel
theorem dX4_init_62 : decode cX4_init 62 = .ok (.aload_n 1, 1) := by decide +kernel
theorem dX4_init_63 : decode cX4_init 63 = .ok (.putfield 45, 3) := by decide +kernel
theorem dX4_init_66 : decode cX4_init 66 = .ok (.iconst 0, 1) := by decide +kernel
theorem dX4_init_67 : decode cX4_init 67 = .ok (.istore_n 2, 1) := by decide +kernel
theorem dX4_init_68 : decode cX4_init 68 = .ok (.iload_n 2, 1) := by decide +kernel
theorem dX4_init_69 : decode cX4_init 69 = .ok (.bipush 8, 2) := by decide +kernel
theorem dX4_init_71 : decode cX4_init 71 = .ok (.if_icmp .ge 17, 3) := by decide +kernel
theorem dX4_init_74 : decode cX4_init 74 = .ok (.aload_n 0, 1) := by decide +kernel
theorem dX4_init_75 : decode cX4_init 75 = .ok (.getfield 18, 3) := by decide +kernel
theorem dX4_init_78 : decode cX4_init 78 = .ok (.iload_n 2, 1) := by decide +kernel
theorem dX4_init_79 : decode cX4_init 79 = .ok (.bipush 15, 2) := by decide +kernel
theorem dX4_init_81 : decode cX4_init 81 = .ok (.iastore, 1) := by decide +kernel
theorem dX4_init_82 : decode cX4_init 82 = .ok (.iinc 2 1, 3) := by decide +kernel
theorem dX4_init_85 : decode cX4_init 85 = .ok (.goto (-17), 3) := by decide +kernel
theorem dX4_init_88 : decode cX4_init 88 = .ok (.iconst 0, 1) := by decide +kernel
theorem dX4_init_89 : decode cX4_init 89 = .ok (.istore_n 2, 1) := by decide +kernel
theorem dX4_init_90 : decode cX4_init 90 = .ok (.iload_n 2, 1) := by decide +kernel
theorem dX4_init_91 : decode cX4_init 91 = .ok (.bipush 6, 2) := by decide +kernel
theorem dX4_init_93 : decode cX4_init 93 = .ok (.if_icmp .ge 22, 3) := by decide +kernel
theorem dX4_init_96 : decode cX4_init 96 = .ok (.aload_n 0, 1) := by decide +kernel
theorem dX4_init_97 : decode cX4_init 97 = .ok (.getfield 31, 3) := by decide +kernel
theorem dX4_init_100 : decode cX4_init 100 = .ok (.iload_n 2, 1) := by decide +kernel
theorem dX4_init_101 : decode cX4_init 101 = .ok (.new 29, 3) := by decide +kernel
theorem dX4_init_104 : decode cX4_init 104 = .ok (.dup, 1) := by decide +kernel
theorem dX4_init_105 : decode cX4_init 105 = .ok (.invokespecial 49, 3) := by decide +kernel
theorem dX4_init_108 : decode cX4_init 108 = .ok (.aastore, 1) := by decide +kernel
theorem dX4_init_109 : decode cX4_init 109 = .ok (.iinc 2 1, 3) := by decide +kernel
theorem dX4_init_112 : decode cX4_init 112 = .ok (.goto (-22), 3) := by decide +kernel
theorem dX4_init_115 : decode cX4_init 115 = .ok (.return_, 1) := by decide +kernel
theorem dX4_become_0 : decode cX4_become 0 = .ok (.aload_n 0, 1) := by decide +kernel
theorem dX4_become_1 : decode cX4_become 1 = .ok (.aload_n 1, 1) := by decide +kernel
theorem dX4_become_2 : decode cX4_become 2 = .ok (.getfield 9, 3) := by decide +kernel
theorem dX4_become_5 : decode cX4_become 5 = .ok (.putfield 9, 3) := by decide +kernel
theorem dX4_become_8 : decode cX4_become 8 = .ok (.aload_n 0, 1) := by decide +kernel
theorem dX4_become_9 : decode cX4_become 9 = .ok (.aload_n 1, 1) := by decide +kernel
theorem dX4_become_10 : decode cX4_become 10 = .ok (.getfield 15, 3) := by decide +kernel
theorem dX4_become_13 : decode cX4_become 13 = .ok (.putfield 15, 3) := by decide +kernel
theorem dX4_become_16 : decode cX4_become 16 = .ok (.aload_n 0, 1) := by decide +kernel
theorem dX4_become_17 : decode cX4_become 17 = .ok (.aload_n 1, 1) := by decide +kernel
theorem dX4_become_18 : decode cX4_become 18 = .ok (.getfield 50, 3) := by decide +kernel
theorem dX4_become_21 : decode cX4_become 21 = .ok (.putfield 50, 3) := by decide +kernel
theorem dX4_become_24 : decode cX4_become 24 = .ok (.aload_n 0, 1) := by decide +kernel
theorem dX4_become_25 : decode cX4_become 25 = .ok (.aload_n 1, 1) := by decide +kernel
theorem dX4_become_26 : decode cX4_become 26 = .ok (.getfield 53, 3) := by decide +kernel
theorem dX4_become_29 : decode cX4_become 29 = .ok (.putfield 53, 3) := by decide +kernel
theorem dX4_become_32 : decode cX4_become 32 = .ok (.aload_n 0, 1) := by decide +kernel
theorem dX4_become_33 : decode cX4_become 33 = .ok (.aload_n 1, 1) := by decide +kernel
theorem dX4_become_34 : decode cX4_become 34 = .ok (.getfield 56, 3) := by decide +kernel
theorem dX4_become_37 : decode cX4_become 37 = .ok (.putfield 56, 3) := by decide +kernel
theorem dX4_become_40 : decode cX4_become 40 = .ok (.aload_n 1, 1) := by decide +kernel
theorem dX4_become_41 : decode cX4_become 41 = .ok (.getfield 18, 3) := by decide +kernel
theorem dX4_become_44 : decode cX4_become 44 = .ok (.aload_n 0, 1) := by decide +kernel
theorem dX4_become_45 : decode cX4_become 45 = .ok (.getfield 18, 3) := by decide +kernel
theorem dX4_become_48 : decode cX4_become 48 = .ok (.invokestatic 59, 3) := by decide +kernel
theorem dX4_become_51 : decode cX4_become 51 = .ok (.aload_n 0, 1) := by decide +kernel
theorem dX4_become_52 : decode cX4_become 52 = .ok (.getfield 25, 3) := by decide +kernel
theorem dX4_become_55 : decode cX4_become 55 = .ok (.aload_n 1, 1) := by decide +kernel
theorem dX4_become_56 : decode cX4_become 56 = .ok (.getfield 25, 3) := by decide +kernel
theorem dX4_become_59 : decode cX4_become 59 = .ok (.invokevirtual 63, 3) := by decide +kernel
theorem dX4_become_62 : decode cX4_become 62 = .ok (.iconst 0, 1) := by decide +kernel
theorem dX4_become_63 : decode cX4_become 63 = .ok (.istore_n 2, 1) := by decide +kernel
theorem dX4_become_64 : decode cX4_become 64 = .ok (.iload_n 2, 1) := by decide +kernel
theorem dX4_become_65 : decode cX4_become 65 = .ok (.aload_n 0, 1) := by decide +kernel
theorem dX4_become_66 : decode cX4_become 66 = .ok (.getfield 53, 3) := by decide +kernel
theorem dX4_become_69 : decode cX4_become 69 = .ok (.if_icmp .ge 24, 3) := by decide +kernel
theorem dX4_become_72 : decode cX4_become 72 = .ok (.aload_n 0, 1) := by decide +kernel
theorem dX4_become_73 : decode cX4_become 73 = .ok (.getfield 31, 3) := by decide +kernel
theorem dX4_become_76 : decode cX4_become 76 = .ok (.iload_n 2, 1) := by decide +kernel
theorem dX4_become_77 : decode cX4_become 77 = .ok (.aaload, 1) := by decide +kernel
theorem dX4_become_78 : decode cX4_become 78 = .ok (.aload_n 1, 1) := by decide +kernel
theorem dX4_become_79 : decode cX4_become 79 = .ok (.getfield 31, 3) := by decide +kernel
theorem dX4_become_82 : decode cX4_become 82 = .ok (.iload_n 2, 1) := by decide +kernel
theorem dX4_become_83 : decode cX4_become 83 = .ok (.aaload, 1) := by decide +kernel
theorem dX4_become_84 : decode cX4_become 84 = .ok (.invokevirtual 67, 3) := by decide +kernel
theorem dX4_become_87 : decode cX4_become 87 = .ok (.iinc 2 1, 3) := by decide +kernel
theorem dX4_become_90 : decode cX4_become 90 = .ok (.goto (-26), 3) := by decide +kernel
theorem dX4_become_93 : decode cX4_become 93 = .ok (.aload_n 1, 1) := by decide +kernel
theorem dX4_become_94 : decode cX4_become 94 = .ok (.getfield 35, 3) := by decide +kernel
theorem dX4_become_97 : decode cX4_become 97 = .ok (.aload_n 0, 1) := by decide +kernel
theorem dX4_become_98 : decode cX4_become 98 = .ok (.getfield 35, 3) := by decide +kernel
theorem dX4_become_101 : decode cX4_become 101 = .ok (.invokestatic 59, 3) := by decide +kernel
theorem dX4_become_104 : decode cX4_become 104 = .ok (.aload_n 0, 1) := by decide +kernel
theorem dX4_become_105 : decode cX4_become 105 = .ok (.getfield 41, 3) := by decide +kernel
theorem dX4_become_108 : decode cX4_become 108 = .ok (.aload_n 1, 1) := by decide +kernel
theorem dX4_become_109 : decode cX4_become 109 = .ok (.getfield 41, 3) := by decide +kernel
theorem dX4_become_112 : decode cX4_become 112 = .ok (.invokevirtual 70, 3) := by decide +kernel
theorem dX4_become_115 : decode cX4_become 115 = .ok (.return_, 1) := by decide +kernel
theorem dX4_hasGroup_0 : decode cX4_hasGroup 0 = .ok (.iload_n 1, 1) := by decide +kernel
theorem dX4_hasGroup_1 : decode cX4_hasGroup 1 = .ok (.iconst 0, 1) := by decide +kernel
theorem dX4_hasGroup_2 : decode cX4_hasGroup 2 = .ok (.aload_n 0, 1) := by decide +kernel
theorem dX4_hasGroup_3 : decode cX4_hasGroup 3 = .ok (.getfield 53, 3) := by decide +kernel
theorem dX4_hasGroup_6 : decode cX4_hasGroup 6 = .ok (.iconst 1, 1) := by decide +kernel
theorem dX4_hasGroup_7 : decode cX4_hasGroup 7 = .ok (.isub, 1) := by decide +kernel
theorem dX4_hasGroup_8 : decode cX4_hasGroup 8 = .ok (.invokestatic 73, 3) := by decide +kernel
theorem dX4_hasGroup_11 : decode cX4_hasGroup 11 = .ok (.ireturn, 1) := by decide +kernel
theorem dX4_hasEvent_0 : decode cX4_hasEvent 0 = .ok (.aload_n 0, 1) := by decide +kernel
theorem dX4_hasEvent_1 : decode cX4_hasEvent 1 = .ok (.iload_n 1, 1) := by decide +kernel
theorem dX4_hasEvent_2 : decode cX4_hasEvent 2 = .ok (.invokevirtual 77, 3) := by decide +kernel
theorem dX4_hasEvent_5 : decode cX4_hasEvent 5 = .ok (.ifCond .eq 20, 3) := by decide +kernel
theorem dX4_hasEvent_8 : decode cX4_hasEvent 8 = .ok (.aload_n 0, 1) := by decide +kernel
theorem dX4_hasEvent_9 : decode cX4_hasEvent 9 = .ok (.getfield 31, 3) := by decide +kernel
theorem dX4_hasEvent_12 : decode cX4_hasEvent 12 = .ok (.iload_n 1, 1) := by decide +kernel
theorem dX4_hasEvent_13 : decode cX4_hasEvent 13 = .ok (.aaload, 1) := by decide +kernel
theorem dX4_hasEvent_14 : decode cX4_hasEvent 14 = .ok (.iload_n 2, 1) := by decide +kernel
theorem dX4_hasEvent_15 : decode cX4_hasEvent 15 = .ok (.invokevirtual 81, 3) := by decide +kernel
theorem dX4_hasEvent_18 : decode cX4_hasEvent 18 = .ok (.ifCond .eq 7, 3) := by decide +kernel
theorem dX4_hasEvent_21 : decode cX4_hasEvent 21 = .ok (.iconst 1, 1) := by decide +kernel
theorem dX4_hasEvent_22 : decode cX4_hasEvent 22 = .ok (.goto 4, 3) := by decide +kernel
theorem dX4_hasEvent_25 : decode cX4_hasEvent 25 = .ok (.iconst 0, 1) := by decide +kernel
theorem dX4_hasEvent_26 : decode cX4_hasEvent 26 = .ok (.ireturn, 1) := by decide +kernel
theorem dX4_putCounters_0 : decode cX4_putCounters 0 = .ok (.iload_n 1, 1) := by decide +kernel
theorem dX4_putCounters_1 : decode cX4_putCounters 1 = .ok (.iconst 1, 1) := by decide +kernel
theorem dX4_putCounters_2 : decode cX4_putCounters 2 = .ok (.iconst 4, 1) := by decide +kernel
theorem dX4_putCounters_3 : decode cX4_putCounters 3 = .ok (.invokestatic 73, 3) := by decide +kernel
theorem dX4_putCounters_6 : decode cX4_putCounters 6 = .ok (.ifCond .ne 6, 3) := by decide +kernel
theorem dX4_putCounters_9 : decode cX4_putCounters 9 = .ok (.bipush (-2), 2) := by decide +kernel
theorem dX4_putCounters_11 : decode cX4_putCounters 11 = .ok (.ireturn, 1) := by decide +kernel
theorem dX4_putCounters_12 : decode cX4_putCounters 12 = .ok (.aload_n 0, 1) := by decide +kernel
theorem dX4_putCounters_13 : decode cX4_putCounters 13 = .ok (.getfield 9, 3) := by decide +kernel
theorem dX4_putCounters_16 : decode cX4_putCounters 16 = .ok (.istore_n 2, 1) := by decide +kernel
theorem dX4_putCounters_17 : decode cX4_putCounters 17 = .ok (.aload_n 0, 1) := by decide +kernel
theorem dX4_putCounters_18 : decode cX4_putCounters 18 = .ok (.iload_n 1, 1) := by decide +kernel
theorem dX4_putCounters_19 : decode cX4_putCounters 19 = .ok (.putfield 9, 3) := by decide +kernel
theorem dX4_putCounters_22 : decode cX4_putCounters 22 = .ok (.iload_n 2, 1) := by decide +kernel
theorem dX4_putCounters_23 : decode cX4_putCounters 23 = .ok (.ireturn, 1) := by decide +kernel
theorem dX4_putMask_0 : decode cX4_putMask 0 = .ok (.iload_n 1, 1) := by decide +kernel
theorem dX4_putMask_1 : decode cX4_putMask 1 = .ok (.iconst 0, 1) := by decide +kernel
theorem dX4_putMask_2 : decode cX4_putMask 2 = .ok (.bipush 7, 2) := by decide +kernel
theorem dX4_putMask_4 : decode cX4_putMask 4 = .ok (.invokestatic 73, 3) := by decide +kernel
theorem dX4_putMask_7 : decode cX4_putMask 7 = .ok (.ifCond .eq 13, 3) := by decide +kernel
theorem dX4_putMask_10 : decode cX4_putMask 10 = .ok (.iload_n 2, 1) := by decide +kernel
theorem dX4_putMask_11 : decode cX4_putMask 11 = .ok (.iconst 0, 1) := by decide +kernel
theorem dX4_putMask_12 : decode cX4_putMask 12 = .ok (.bipush 15, 2) := by decide +kernel
theorem dX4_putMask_14 : decode cX4_putMask 14 = .ok (.invokestatic 73, 3) := by decide +kernel
theorem dX4_putMask_17 : decode cX4_putMask 17 = .ok (.ifCond .ne 6, 3) := by decide +kernel
theorem dX4_putMask_20 : decode cX4_putMask 20 = .ok (.bipush (-2), 2) := by decide +kernel
theorem dX4_putMask_22 : decode cX4_putMask 22 = .ok (.ireturn, 1) := by decide +kernel
theorem dX4_putMask_23 : decode cX4_putMask 23 = .ok (.aload_n 0, 1) := by decide +kernel
theorem dX4_putMask_24 : decode cX4_putMask 24 = .ok (.getfield 18, 3) := by decide +kernel
theorem dX4_putMask_27 : decode cX4_putMask 27 = .ok (.iload_n 1, 1) := by decide +kernel
theorem dX4_putMask_28 : decode cX4_putMask 28 = .ok (.iaload, 1) := by decide +kernel
theorem dX4_putMask_29 : decode cX4_putMask 29 = .ok (.istore_n 3, 1) := by decide +kernel
theorem dX4_putMask_30 : decode cX4_putMask 30 = .ok (.aload_n 0, 1) := by decide +kernel
theorem dX4_putMask_31 : decode cX4_putMask 31 = .ok (.getfield 18, 3) := by decide +kernel
theorem dX4_putMask_34 : decode cX4_putMask 34 = .ok (.iload_n 1, 1) := by decide +kernel
theorem dX4_putMask_35 : decode cX4_putMask 35 = .ok (.iload_n 2, 1) := by decide +kernel
theorem dX4_putMask_36 : decode cX4_putMask 36 = .ok (.iastore, 1) := by decide +kernel
theorem dX4_putMask_37 : decode cX4_putMask 37 = .ok (.iload_n 3, 1) := by decide +kernel
theorem dX4_putMask_38 : decode cX4_putMask 38 = .ok (.ireturn, 1) := by decide +kernel
theorem dX4_endTask_0 : decode cX4_endTask 0 = .ok (.aload_n 0, 1) := by decide +kernel
theorem dX4_endTask_1 : decode cX4_endTask 1 = .ok (.getfield 25, 3) := by decide +kernel
theorem dX4_endTask_4 : decode cX4_endTask 4 = .ok (.iload_n 1, 1) := by decide +kernel
theorem dX4_endTask_5 : decode cX4_endTask 5 = .ok (.invokevirtual 84, 3) := by decide +kernel
theorem dX4_endTask_8 : decode cX4_endTask 8 = .ok (.ifCond .eq 7, 3) := by decide +kernel
theorem dX4_endTask_11 : decode cX4_endTask 11 = .ok (.iload_n 1, 1) := by decide +kernel
theorem dX4_endTask_12 : decode cX4_endTask 12 = .ok (.ifCond .ne 6, 3) := by decide +kernel
theorem dX4_endTask_15 : decode cX4_endTask 15 = .ok (.bipush (-2), 2) := by decide +kernel
theorem dX4_endTask_17 : decode cX4_endTask 17 = .ok (.ireturn, 1) := by decide +kernel
theorem dX4_endTask_18 : decode cX4_endTask 18 = .ok (.aload_n 0, 1) := by decide +kernel
theorem dX4_endTask_19 : decode cX4_endTask 19 = .ok (.getfield 25, 3) := by decide +kernel
theorem dX4_endTask_22 : decode cX4_endTask 22 = .ok (.iload_n 1, 1) := by decide +kernel
theorem dX4_endTask_23 : decode cX4_endTask 23 = .ok (.invokevirtual 87, 3) := by decide +kernel
theorem dX4_endTask_26 : decode cX4_endTask 26 = .ok (.ifCond .ne 14, 3) := by decide +kernel
theorem dX4_endTask_29 : decode cX4_endTask 29 = .ok (.aload_n 0, 1) := by decide +kernel
theorem dX4_endTask_30 : decode cX4_endTask 30 = .ok (.getfield 25, 3) := by decide +kernel
theorem dX4_endTask_33 : decode cX4_endTask 33 = .ok (.iload_n 1, 1) := by decide +kernel
theorem dX4_endTask_34 : decode cX4_endTask 34 = .ok (.invokevirtual 90, 3) := by decide +kernel
theorem dX4_endTask_37 : decode cX4_endTask 37 = .ok (.ifCond .eq 6, 3) := by decide +kernel
theorem dX4_endTask_40 : decode cX4_endTask 40 = .ok (.bipush (-3), 2) := by decide +kernel
theorem dX4_endTask_42 : decode cX4_endTask 42 = .ok (.ireturn, 1) := by decide +kernel
theorem dX4_endTask_43 : decode cX4_endTask 43 = .ok (.aload_n 0, 1) := by decide +kernel
theorem dX4_endTask_44 : decode cX4_endTask 44 = .ok (.getfield 25, 3) := by decide +kernel
theorem dX4_endTask_47 : decode cX4_endTask 47 = .ok (.getfield 93, 3) := by decide +kernel
theorem dX4_endTask_50 : decode cX4_endTask 50 = .ok (.iload_n 1, 1) := by decide +kernel
theorem dX4_endTask_51 : decode cX4_endTask 51 = .ok (.iaload, 1) := by decide +kernel
theorem dX4_endTask_52 : decode cX4_endTask 52 = .ok (.istore_n 2, 1) := by decide +kernel
theorem dX4_endTask_53 : decode cX4_endTask 53 = .ok (.aload_n 0, 1) := by decide +kernel
theorem dX4_endTask_54 : decode cX4_endTask 54 = .ok (.getfield 25, 3) := by decide +kernel
theorem dX4_endTask_57 : decode cX4_endTask 57 = .ok (.getfield 96, 3) := by decide +kernel
theorem dX4_endTask_60 : decode cX4_endTask 60 = .ok (.iload_n 1, 1) := by decide +kernel
theorem dX4_endTask_61 : decode cX4_endTask 61 = .ok (.iconst 1, 1) := by decide +kernel
theorem dX4_endTask_62 : decode cX4_endTask 62 = .ok (.iastore, 1) := by decide +kernel
theorem dX4_endTask_63 : decode cX4_endTask 63 = .ok (.iconst 0, 1) := by decide +kernel
theorem dX4_endTask_64 : decode cX4_endTask 64 = .ok (.istore_n 3, 1) := by decide +kernel
theorem dX4_endTask_65 : decode cX4_endTask 65 = .ok (.iload_n 3, 1) := by decide +kernel
theorem dX4_endTask_66 : decode cX4_endTask 66 = .ok (.aload_n 0, 1) := by decide +kernel
theorem dX4_endTask_67 : decode cX4_endTask 67 = .ok (.getfield 53, 3) := by decide +kernel
theorem dX4_endTask_70 : decode cX4_endTask 70 = .ok (.if_icmp .ge 20, 3) := by decide +kernel
theorem dX4_endTask_73 : decode cX4_endTask 73 = .ok (.aload_n 0, 1) := by decide +kernel
theorem dX4_endTask_74 : decode cX4_endTask 74 = .ok (.getfield 31, 3) := by decide +kernel
theorem dX4_endTask_77 : decode cX4_endTask 77 = .ok (.iload_n 3, 1) := by decide +kernel
theorem dX4_endTask_78 : decode cX4_endTask 78 = .ok (.aaload, 1) := by decide +kernel
theorem dX4_endTask_79 : decode cX4_endTask 79 = .ok (.iload_n 1, 1) := by decide +kernel
theorem dX4_endTask_80 : decode cX4_endTask 80 = .ok (.iload_n 2, 1) := by decide +kernel
theorem dX4_endTask_81 : decode cX4_endTask 81 = .ok (.invokevirtual 99, 3) := by decide +kernel
theorem dX4_endTask_84 : decode cX4_endTask 84 = .ok (.iinc 3 1, 3) := by decide +kernel
theorem dX4_endTask_87 : decode cX4_endTask 87 = .ok (.goto (-22), 3) := by decide +kernel
theorem dX4_endTask_90 : decode cX4_endTask 90 = .ok (.iload_n 2, 1) := by decide +kernel
theorem dX4_endTask_91 : decode cX4_endTask 91 = .ok (.ireturn, 1) := by decide +kernel
theorem dX4_addGroup_0 : decode cX4_addGroup 0 = .ok (.aload_n 0, 1) := by decide +kernel
theorem dX4_addGroup_1 : decode cX4_addGroup 1 = .ok (.getfield 25, 3) := by decide +kernel
theorem dX4_addGroup_4 : decode cX4_addGroup 4 = .ok (.iload_n 1, 1) := by decide +kernel
theorem dX4_addGroup_5 : decode cX4_addGroup 5 = .ok (.invokevirtual 84, 3) := by decide +kernel
theorem dX4_addGroup_8 : decode cX4_addGroup 8 = .ok (.ifCond .eq 42, 3) := by decide +kernel
theorem dX4_addGroup_11 : decode cX4_addGroup 11 = .ok (.iload_n 2, 1) := by decide +kernel
theorem dX4_addGroup_12 : decode cX4_addGroup 12 = .ok (.iconst 1, 1) := by decide +kernel
theorem dX4_addGroup_13 : decode cX4_addGroup 13 = .ok (.iconst 5, 1) := by decide +kernel
theorem dX4_addGroup_14 : decode cX4_addGroup 14 = .ok (.invokestatic 73, 3) := by decide +kernel
theorem dX4_addGroup_17 : decode cX4_addGroup 17 = .ok (.ifCond .eq 33, 3) := by decide +kernel
theorem dX4_addGroup_20 : decode cX4_addGroup 20 = .ok (.iload_n 3, 1) := by decide +kernel
theorem dX4_addGroup_21 : decode cX4_addGroup 21 = .ok (.iconst 0, 1) := by decide +kernel
theorem dX4_addGroup_22 : decode cX4_addGroup 22 = .ok (.iconst 1, 1) := by decide +kernel
theorem dX4_addGroup_23 : decode cX4_addGroup 23 = .ok (.invokestatic 73, 3) := by decide +kernel
theorem dX4_addGroup_26 : decode cX4_addGroup 26 = .ok (.ifCond .eq 24, 3) := by decide +kernel
theorem dX4_addGroup_29 : decode cX4_addGroup 29 = .ok (.iload 4, 2) := by decide +kernel
theorem dX4_addGroup_31 : decode cX4_addGroup 31 = .ok (.iconst 0, 1) := by decide +kernel
theorem dX4_addGroup_32 : decode cX4_addGroup 32 = .ok (.iconst 1, 1) := by decide +kernel
theorem dX4_addGroup_33 : decode cX4_addGroup 33 = .ok (.invokestatic 73, 3) := by decide +kernel
theorem dX4_addGroup_36 : decode cX4_addGroup 36 = .ok (.ifCond .eq 14, 3) := by decide +kernel
theorem dX4_addGroup_39 : decode cX4_addGroup 39 = .ok (.iload 5, 2) := by decide +kernel
theorem dX4_addGroup_41 : decode cX4_addGroup 41 = .ok (.iconst 0, 1) := by decide +kernel
theorem dX4_addGroup_42 : decode cX4_addGroup 42 = .ok (.bipush 7, 2) := by decide +kernel
theorem dX4_addGroup_44 : decode cX4_addGroup 44 = .ok (.invokestatic 73, 3) := by decide +kernel
theorem dX4_addGroup_47 : decode cX4_addGroup 47 = .ok (.ifCond .ne 6, 3) := by decide +kernel
theorem dX4_addGroup_50 : decode cX4_addGroup 50 = .ok (.bipush (-2), 2) := by decide +kernel
theorem dX4_addGroup_52 : decode cX4_addGroup 52 = .ok (.ireturn, 1) := by decide +kernel
theorem dX4_addGroup_53 : decode cX4_addGroup 53 = .ok (.aload_n 0, 1) := by decide +kernel
theorem dX4_addGroup_54 : decode cX4_addGroup 54 = .ok (.getfield 53, 3) := by decide +kernel
theorem dX4_addGroup_57 : decode cX4_addGroup 57 = .ok (.bipush 6, 2) := by decide +kernel
theorem dX4_addGroup_59 : decode cX4_addGroup 59 = .ok (.if_icmp .lt 6, 3) := by decide +kernel
theorem dX4_addGroup_62 : decode cX4_addGroup 62 = .ok (.bipush (-4), 2) := by decide +kernel
theorem dX4_addGroup_64 : decode cX4_addGroup 64 = .ok (.ireturn, 1) := by decide +kernel
theorem dX4_addGroup_65 : decode cX4_addGroup 65 = .ok (.aload_n 0, 1) := by decide +kernel
theorem dX4_addGroup_66 : decode cX4_addGroup 66 = .ok (.getfield 53, 3) := by decide +kernel
theorem dX4_addGroup_69 : decode cX4_addGroup 69 = .ok (.istore 6, 2) := by decide +kernel
theorem dX4_addGroup_71 : decode cX4_addGroup 71 = .ok (.aload_n 0, 1) := by decide +kernel
theorem dX4_addGroup_72 : decode cX4_addGroup 72 = .ok (.dup, 1) := by decide +kernel
theorem dX4_addGroup_73 : decode cX4_addGroup 73 = .ok (.getfield 53, 3) := by decide +kernel
theorem dX4_addGroup_76 : decode cX4_addGroup 76 = .ok (.iconst 1, 1) := by decide +kernel
theorem dX4_addGroup_77 : decode cX4_addGroup 77 = .ok (.iadd, 1) := by decide +kernel
theorem dX4_addGroup_78 : decode cX4_addGroup 78 = .ok (.putfield 53, 3) := by decide +kernel
theorem dX4_addGroup_81 : decode cX4_addGroup 81 = .ok (.aload_n 0, 1) := by decide +kernel
theorem dX4_addGroup_82 : decode cX4_addGroup 82 = .ok (.getfield 31, 3) := by decide +kernel
theorem dX4_addGroup_85 : decode cX4_addGroup 85 = .ok (.iload 6, 2) := by decide +kernel
theorem dX4_addGroup_87 : decode cX4_addGroup 87 = .ok (.aaload, 1) := by decide +kernel
theorem dX4_addGroup_88 : decode cX4_addGroup 88 = .ok (.iload_n 1, 1) := by decide +kernel
theorem dX4_addGroup_89 : decode cX4_addGroup 89 = .ok (.iload_n 2, 1) := by decide +kernel
theorem dX4_addGroup_90 : decode cX4_addGroup 90 = .ok (.iload_n 3, 1) := by decide +kernel
theorem dX4_addGroup_91 : decode cX4_addGroup 91 = .ok (.iconst 1, 1) := by decide +kernel
theorem dX4_addGroup_92 : decode cX4_addGroup 92 = .ok (.if_icmp .ne 7, 3) := by decide +kernel
theorem dX4_addGroup_95 : decode cX4_addGroup 95 = .ok (.iconst 1, 1) := by decide +kernel
theorem dX4_addGroup_96 : decode cX4_addGroup 96 = .ok (.goto 4, 3) := by decide +kernel
theorem dX4_addGroup_99 : decode cX4_addGroup 99 = .ok (.iconst 0, 1) := by decide +kernel
theorem dX4_addGroup_100 : decode cX4_addGroup 100 = .ok (.iload 4, 2) := by decide +kernel
theorem dX4_addGroup_102 : decode cX4_addGroup 102 = .ok (.iconst 1, 1) := by decide +kernel
theorem dX4_addGroup_103 : decode cX4_addGroup 103 = .ok (.if_icmp .ne 7, 3) := by decide +kernel
theorem dX4_addGroup_106 : decode cX4_addGroup 106 = .ok (.iconst 1, 1) := by decide +kernel
theorem dX4_addGroup_107 : decode cX4_addGroup 107 = .ok (.goto 4, 3) := by decide +kernel
theorem dX4_addGroup_110 : decode cX4_addGroup 110 = .ok (.iconst 0, 1) := by decide +kernel
theorem dX4_addGroup_111 : decode cX4_addGroup 111 = .ok (.invokevirtual 103, 3) := by decide +kernel
theorem dX4_addGroup_114 : decode cX4_addGroup 114 = .ok (.aload_n 0, 1) := by decide +kernel
theorem dX4_addGroup_115 : decode cX4_addGroup 115 = .ok (.getfield 31, 3) := by decide +kernel
theorem dX4_addGroup_118 : decode cX4_addGroup 118 = .ok (.iload 6, 2) := by decide +kernel
theorem dX4_addGroup_120 : decode cX4_addGroup 120 = .ok (.aaload, 1) := by decide +kernel
theorem dX4_addGroup_121 : decode cX4_addGroup 121 = .ok (.iload 5, 2) := by decide +kernel
theorem dX4_addGroup_123 : decode cX4_addGroup 123 = .ok (.invokevirtual 107, 3) := by decide +kernel
theorem dX4_addGroup_126 : decode cX4_addGroup 126 = .ok (.pop, 1) := by decide +kernel
theorem dX4_addGroup_127 : decode cX4_addGroup 127 = .ok (.iload_n 3, 1) := by decide +kernel
theorem dX4_addGroup_128 : decode cX4_addGroup 128 = .ok (.ifCond .ne 33, 3) := by decide +kernel
theorem dX4_addGroup_131 : decode cX4_addGroup 131 = .ok (.aload_n 0, 1) := by decide +kernel
theorem dX4_addGroup_132 : decode cX4_addGroup 132 = .ok (.getfield 56, 3) := by decide +kernel
theorem dX4_addGroup_135 : decode cX4_addGroup 135 = .ok (.bipush 6, 2) := by decide +kernel
theorem dX4_addGroup_137 : decode cX4_addGroup 137 = .ok (.if_icmp .ge 24, 3) := by decide +kernel
theorem dX4_addGroup_140 : decode cX4_addGroup 140 = .ok (.aload_n 0, 1) := by decide +kernel
theorem dX4_addGroup_141 : decode cX4_addGroup 141 = .ok (.getfield 35, 3) := by decide +kernel
theorem dX4_addGroup_144 : decode cX4_addGroup 144 = .ok (.aload_n 0, 1) := by decide +kernel
theorem dX4_addGroup_145 : decode cX4_addGroup 145 = .ok (.getfield 56, 3) := by decide +kernel
theorem dX4_addGroup_148 : decode cX4_addGroup 148 = .ok (.iload 6, 2) := by decide +kernel
theorem dX4_addGroup_150 : decode cX4_addGroup 150 = .ok (.iastore, 1) := by decide +kernel
theorem dX4_addGroup_151 : decode cX4_addGroup 151 = .ok (.aload_n 0, 1) := by decide +kernel
theorem dX4_addGroup_152 : decode cX4_addGroup 152 = .ok (.dup, 1) := by decide +kernel
theorem dX4_addGroup_153 : decode cX4_addGroup 153 = .ok (.getfield 56, 3) := by decide +kernel
theorem dX4_addGroup_156 : decode cX4_addGroup 156 = .ok (.iconst 1, 1) := by decide +kernel
theorem dX4_addGroup_157 : decode cX4_addGroup 157 = .ok (.iadd, 1) := by decide +kernel
theorem dX4_addGroup_158 : decode cX4_addGroup 158 = .ok (.putfield 56, 3) := by decide +kernel
theorem dX4_addGroup_161 : decode cX4_addGroup 161 = .ok (.iload 6, 2) := by decide +kernel
theorem dX4_addGroup_163 : decode cX4_addGroup 163 = .ok (.ireturn, 1) := by decide +kernel
theorem dX4_addEvent_0 : decode cX4_addEvent 0 = .ok (.aload_n 0, 1) := by decide +kernel
theorem dX4_addEvent_1 : decode cX4_addEvent 1 = .ok (.iload_n 1, 1) := by decide +kernel
theorem dX4_addEvent_2 : decode cX4_addEvent 2 = .ok (.invokevirtual 77, 3) := by decide +kernel
theorem dX4_addEvent_5 : decode cX4_addEvent 5 = .ok (.ifCond .eq 13, 3) := by decide +kernel
theorem dX4_addEvent_8 : decode cX4_addEvent 8 = .ok (.iload_n 2, 1) := by decide +kernel
theorem dX4_addEvent_9 : decode cX4_addEvent 9 = .ok (.iconst 0, 1) := by decide +kernel
theorem dX4_addEvent_10 : decode cX4_addEvent 10 = .ok (.bipush 7, 2) := by decide +kernel
theorem dX4_addEvent_12 : decode cX4_addEvent 12 = .ok (.invokestatic 73, 3) := by decide +kernel
theorem dX4_addEvent_15 : decode cX4_addEvent 15 = .ok (.ifCond .ne 6, 3) := by decide +kernel
theorem dX4_addEvent_18 : decode cX4_addEvent 18 = .ok (.bipush (-2), 2) := by decide +kernel
theorem dX4_addEvent_20 : decode cX4_addEvent 20 = .ok (.ireturn, 1) := by decide +kernel
theorem dX4_addEvent_21 : decode cX4_addEvent 21 = .ok (.aload_n 0, 1) := by decide +kernel
theorem dX4_addEvent_22 : decode cX4_addEvent 22 = .ok (.getfield 31, 3) := by decide +kernel
theorem dX4_addEvent_25 : decode cX4_addEvent 25 = .ok (.iload_n 1, 1) := by decide +kernel
theorem dX4_addEvent_26 : decode cX4_addEvent 26 = .ok (.aaload, 1) := by decide +kernel
theorem dX4_addEvent_27 : decode cX4_addEvent 27 = .ok (.iload_n 2, 1) := by decide +kernel
theorem dX4_addEvent_28 : decode cX4_addEvent 28 = .ok (.invokevirtual 107, 3) := by decide +kernel
theorem dX4_addEvent_31 : decode cX4_addEvent 31 = .ok (.ireturn, 1) := by decide +kernel
theorem dX4_putPeriod_0 : decode cX4_putPeriod 0 = .ok (.aload_n 0, 1) := by decide +kernel
theorem dX4_putPeriod_1 : decode cX4_putPeriod 1 = .ok (.iload_n 1, 1) := by decide +kernel
theorem dX4_putPeriod_2 : decode cX4_putPeriod 2 = .ok (.invokevirtual 77, 3) := by decide +kernel
theorem dX4_putPeriod_5 : decode cX4_putPeriod 5 = .ok (.ifCond .eq 19, 3) := by decide +kernel
theorem dX4_putPeriod_8 : decode cX4_putPeriod 8 = .ok (.iload_n 2, 1) := by decide +kernel
theorem dX4_putPeriod_9 : decode cX4_putPeriod 9 = .ok (.ifCond .eq 18, 3) := by decide +kernel
theorem dX4_putPeriod_12 : decode cX4_putPeriod 12 = .ok (.iload_n 2, 1) := by decide +kernel
theorem dX4_putPeriod_13 : decode cX4_putPeriod 13 = .ok (.bipush 30, 2) := by decide +kernel
theorem dX4_putPeriod_15 : decode cX4_putPeriod 15 = .ok (.sipush 200, 3) := by decide +kernel
theorem dX4_putPeriod_18 : decode cX4_putPeriod 18 = .ok (.invokestatic 73, 3) := by decide +kernel
theorem dX4_putPeriod_21 : decode cX4_putPeriod 21 = .ok (.ifCond .ne 6, 3) := by decide +kernel
theorem dX4_putPeriod_24 : decode cX4_putPeriod 24 = .ok (.bipush (-2), 2) := by decide +kernel
theorem dX4_putPeriod_26 : decode cX4_putPeriod 26 = .ok (.ireturn, 1) := by decide +kernel
theorem dX4_putPeriod_27 : decode cX4_putPeriod 27 = .ok (.aload_n 0, 1) := by decide +kernel
theorem dX4_putPeriod_28 : decode cX4_putPeriod 28 = .ok (.getfield 31, 3) := by decide +kernel
theorem dX4_putPeriod_31 : decode cX4_putPeriod 31 = .ok (.iload_n 1, 1) := by decide +kernel
theorem dX4_putPeriod_32 : decode cX4_putPeriod 32 = .ok (.aaload, 1) := by decide +kernel
theorem dX4_putPeriod_33 : decode cX4_putPeriod 33 = .ok (.getfield 111, 3) := by decide +kernel
theorem dX4_putPeriod_36 : decode cX4_putPeriod 36 = .ok (.istore_n 3, 1) := by decide +kernel
theorem dX4_putPeriod_37 : decode cX4_putPeriod 37 = .ok (.aload_n 0, 1) := by decide +kernel
theorem dX4_putPeriod_38 : decode cX4_putPeriod 38 = .ok (.getfield 31, 3) := by decide +kernel
theorem dX4_putPeriod_41 : decode cX4_putPeriod 41 = .ok (.iload_n 1, 1) := by decide +kernel
theorem dX4_putPeriod_42 : decode cX4_putPeriod 42 = .ok (.aaload, 1) := by decide +kernel
theorem dX4_putPeriod_43 : decode cX4_putPeriod 43 = .ok (.iload_n 2, 1) := by decide +kernel
theorem dX4_putPeriod_44 : decode cX4_putPeriod 44 = .ok (.putfield 111, 3) := by decide +kernel
theorem dX4_putPeriod_47 : decode cX4_putPeriod 47 = .ok (.aload_n 0, 1) := by decide +kernel
theorem dX4_putPeriod_48 : decode cX4_putPeriod 48 = .ok (.getfield 31, 3) := by decide +kernel
theorem dX4_putPeriod_51 : decode cX4_putPeriod 51 = .ok (.iload_n 1, 1) := by decide +kernel
theorem dX4_putPeriod_52 : decode cX4_putPeriod 52 = .ok (.aaload, 1) := by decide +kernel
theorem dX4_putPeriod_53 : decode cX4_putPeriod 53 = .ok (.iconst 0, 1) := by decide +kernel
theorem dX4_putPeriod_54 : decode cX4_putPeriod 54 = .ok (.putfield 114, 3) := by decide +kernel
theorem dX4_putPeriod_57 : decode cX4_putPeriod 57 = .ok (.iload_n 3, 1) := by decide +kernel
theorem dX4_putPeriod_58 : decode cX4_putPeriod 58 = .ok (.ireturn, 1) := by decide +kernel
theorem dX4_putSkid_0 : decode cX4_putSkid 0 = .ok (.iload_n 1, 1) := by decide +kernel
theorem dX4_putSkid_1 : decode cX4_putSkid 1 = .ok (.iconst 0, 1) := by decide +kernel
theorem dX4_putSkid_2 : decode cX4_putSkid 2 = .ok (.iconst 3, 1) := by decide +kernel
theorem dX4_putSkid_3 : decode cX4_putSkid 3 = .ok (.invokestatic 73, 3) := by decide +kernel
theorem dX4_putSkid_6 : decode cX4_putSkid 6 = .ok (.ifCond .ne 6, 3) := by decide +kernel
theorem dX4_putSkid_9 : decode cX4_putSkid 9 = .ok (.bipush (-2), 2) := by decide +kernel
theorem dX4_putSkid_11 : decode cX4_putSkid 11 = .ok (.ireturn, 1) := by decide +kernel
theorem dX4_putSkid_12 : decode cX4_putSkid 12 = .ok (.aload_n 0, 1) := by decide +kernel
theorem dX4_putSkid_13 : decode cX4_putSkid 13 = .ok (.getfield 15, 3) := by decide +kernel
theorem dX4_putSkid_16 : decode cX4_putSkid 16 = .ok (.istore_n 2, 1) := by decide +kernel
theorem dX4_putSkid_17 : decode cX4_putSkid 17 = .ok (.aload_n 0, 1) := by decide +kernel
theorem dX4_putSkid_18 : decode cX4_putSkid 18 = .ok (.iload_n 1, 1) := by decide +kernel
theorem dX4_putSkid_19 : decode cX4_putSkid 19 = .ok (.putfield 15, 3) := by decide +kernel
theorem dX4_putSkid_22 : decode cX4_putSkid 22 = .ok (.iload_n 2, 1) := by decide +kernel
theorem dX4_putSkid_23 : decode cX4_putSkid 23 = .ok (.ireturn, 1) := by decide +kernel
theorem dX4_putLive_0 : decode cX4_putLive 0 = .ok (.aload_n 0, 1) := by decide +kernel
theorem dX4_putLive_1 : decode cX4_putLive 1 = .ok (.iload_n 1, 1) := by decide +kernel
theorem dX4_putLive_2 : decode cX4_putLive 2 = .ok (.invokevirtual 77, 3) := by decide +kernel
theorem dX4_putLive_5 : decode cX4_putLive 5 = .ok (.ifCond .eq 12, 3) := by decide +kernel
theorem dX4_putLive_8 : decode cX4_putLive 8 = .ok (.iload_n 2, 1) := by decide +kernel
theorem dX4_putLive_9 : decode cX4_putLive 9 = .ok (.iconst 0, 1) := by decide +kernel
theorem dX4_putLive_10 : decode cX4_putLive 10 = .ok (.iconst 1, 1) := by decide +kernel
theorem dX4_putLive_11 : decode cX4_putLive 11 = .ok (.invokestatic 73, 3) := by decide +kernel
theorem dX4_putLive_14 : decode cX4_putLive 14 = .ok (.ifCond .ne 6, 3) := by decide +kernel
theorem dX4_putLive_17 : decode cX4_putLive 17 = .ok (.bipush (-2), 2) := by decide +kernel
theorem dX4_putLive_19 : decode cX4_putLive 19 = .ok (.ireturn, 1) := by decide +kernel
theorem dX4_putLive_20 : decode cX4_putLive 20 = .ok (.aload_n 0, 1) := by decide +kernel
theorem dX4_putLive_21 : decode cX4_putLive 21 = .ok (.getfield 31, 3) := by decide +kernel
theorem dX4_putLive_24 : decode cX4_putLive 24 = .ok (.iload_n 1, 1) := by decide +kernel
theorem dX4_putLive_25 : decode cX4_putLive 25 = .ok (.aaload, 1) := by decide +kernel
theorem dX4_putLive_26 : decode cX4_putLive 26 = .ok (.getfield 117, 3) := by decide +kernel
theorem dX4_putLive_29 : decode cX4_putLive 29 = .ok (.invokestatic 121, 3) := by decide +kernel
theorem dX4_putLive_32 : decode cX4_putLive 32 = .ok (.istore_n 3, 1) := by decide +kernel
theorem dX4_putLive_33 : decode cX4_putLive 33 = .ok (.aload_n 0, 1) := by decide +kernel
theorem dX4_putLive_34 : decode cX4_putLive 34 = .ok (.getfield 31, 3) := by decide +kernel
theorem dX4_putLive_37 : decode cX4_putLive 37 = .ok (.iload_n 1, 1) := by decide +kernel
theorem dX4_putLive_38 : decode cX4_putLive 38 = .ok (.aaload, 1) := by decide +kernel
theorem dX4_putLive_39 : decode cX4_putLive 39 = .ok (.iload_n 2, 1) := by decide +kernel
theorem dX4_putLive_40 : decode cX4_putLive 40 = .ok (.iconst 1, 1) := by decide +kernel
theorem dX4_putLive_41 : decode cX4_putLive 41 = .ok (.if_icmp .ne 7, 3) := by decide +kernel
theorem dX4_putLive_44 : decode cX4_putLive 44 = .ok (.iconst 1, 1) := by decide +kernel
theorem dX4_putLive_45 : decode cX4_putLive 45 = .ok (.goto 4, 3) := by decide +kernel
theorem dX4_putLive_48 : decode cX4_putLive 48 = .ok (.iconst 0, 1) := by decide +kernel
theorem dX4_putLive_49 : decode cX4_putLive 49 = .ok (.putfield 117, 3) := by decide +kernel
theorem dX4_putLive_52 : decode cX4_putLive 52 = .ok (.iload_n 3, 1) := by decide +kernel
theorem dX4_putLive_53 : decode cX4_putLive 53 = .ok (.ireturn, 1) := by decide +kernel
theorem dX4_runSlices_0 : decode cX4_runSlices 0 = .ok (.aload_n 0, 1) := by decide +kernel
theorem dX4_runSlices_1 : decode cX4_runSlices 1 = .ok (.getfield 25, 3) := by decide +kernel
theorem dX4_runSlices_4 : decode cX4_runSlices 4 = .ok (.iload_n 1, 1) := by decide +kernel
theorem dX4_runSlices_5 : decode cX4_runSlices 5 = .ok (.invokevirtual 84, 3) := by decide +kernel
theorem dX4_runSlices_8 : decode cX4_runSlices 8 = .ok (.ifCond .eq 13, 3) := by decide +kernel
theorem dX4_runSlices_11 : decode cX4_runSlices 11 = .ok (.iload_n 2, 1) := by decide +kernel
theorem dX4_runSlices_12 : decode cX4_runSlices 12 = .ok (.iconst 1, 1) := by decide +kernel
theorem dX4_runSlices_13 : decode cX4_runSlices 13 = .ok (.bipush 20, 2) := by decide +kernel
theorem dX4_runSlices_15 : decode cX4_runSlices 15 = .ok (.invokestatic 73, 3) := by decide +kernel
theorem dX4_runSlices_18 : decode cX4_runSlices 18 = .ok (.ifCond .ne 6, 3) := by decide +kernel
theorem dX4_runSlices_21 : decode cX4_runSlices 21 = .ok (.bipush (-2), 2) := by decide +kernel
theorem dX4_runSlices_23 : decode cX4_runSlices 23 = .ok (.ireturn, 1) := by decide +kernel
theorem dX4_runSlices_24 : decode cX4_runSlices 24 = .ok (.aload_n 0, 1) := by decide +kernel
theorem dX4_runSlices_25 : decode cX4_runSlices 25 = .ok (.getfield 25, 3) := by decide +kernel
theorem dX4_runSlices_28 : decode cX4_runSlices 28 = .ok (.iload_n 1, 1) := by decide +kernel
theorem dX4_runSlices_29 : decode cX4_runSlices 29 = .ok (.invokevirtual 87, 3) := by decide +kernel
theorem dX4_runSlices_32 : decode cX4_runSlices 32 = .ok (.ifCond .eq 6, 3) := by decide +kernel
theorem dX4_runSlices_35 : decode cX4_runSlices 35 = .ok (.bipush (-3), 2) := by decide +kernel
theorem dX4_runSlices_37 : decode cX4_runSlices 37 = .ok (.ireturn, 1) := by decide +kernel
theorem dX4_runSlices_38 : decode cX4_runSlices 38 = .ok (.iconst 0, 1) := by decide +kernel
theorem dX4_runSlices_39 : decode cX4_runSlices 39 = .ok (.istore_n 3, 1) := by decide +kernel
theorem dX4_runSlices_40 : decode cX4_runSlices 40 = .ok (.iload_n 3, 1) := by decide +kernel
theorem dX4_runSlices_41 : decode cX4_runSlices 41 = .ok (.iload_n 2, 1) := by decide +kernel
theorem dX4_runSlices_42 : decode cX4_runSlices 42 = .ok (.if_icmp .ge 14, 3) := by decide +kernel
theorem dX4_runSlices_45 : decode cX4_runSlices 45 = .ok (.aload_n 0, 1) := by decide +kernel
theorem dX4_runSlices_46 : decode cX4_runSlices 46 = .ok (.iload_n 1, 1) := by decide +kernel
theorem dX4_runSlices_47 : decode cX4_runSlices 47 = .ok (.invokevirtual 125, 3) := by decide +kernel
theorem dX4_runSlices_50 : decode cX4_runSlices 50 = .ok (.iinc 3 1, 3) := by decide +kernel
theorem dX4_runSlices_53 : decode cX4_runSlices 53 = .ok (.goto (-13), 3) := by decide +kernel
theorem dX4_runSlices_56 : decode cX4_runSlices 56 = .ok (.aload_n 0, 1) := by decide +kernel
theorem dX4_runSlices_57 : decode cX4_runSlices 57 = .ok (.getfield 50, 3) := by decide +kernel
theorem dX4_runSlices_60 : decode cX4_runSlices 60 = .ok (.ireturn, 1) := by decide +kernel
theorem dX4_runSlice_0 : decode cX4_runSlice 0 = .ok (.aload_n 0, 1) := by decide +kernel
theorem dX4_runSlice_1 : decode cX4_runSlice 1 = .ok (.iload_n 1, 1) := by decide +kernel
theorem dX4_runSlice_2 : decode cX4_runSlice 2 = .ok (.invokevirtual 129, 3) := by decide +kernel
theorem dX4_runSlice_5 : decode cX4_runSlice 5 = .ok (.istore_n 2, 1) := by decide +kernel
theorem dX4_runSlice_6 : decode cX4_runSlice 6 = .ok (.aload_n 0, 1) := by decide +kernel
theorem dX4_runSlice_7 : decode cX4_runSlice 7 = .ok (.iload_n 2, 1) := by decide +kernel
theorem dX4_runSlice_8 : decode cX4_runSlice 8 = .ok (.invokevirtual 132, 3) := by decide +kernel
theorem dX4_runSlice_11 : decode cX4_runSlice 11 = .ok (.aload_n 0, 1) := by decide +kernel
theorem dX4_runSlice_12 : decode cX4_runSlice 12 = .ok (.iload_n 1, 1) := by decide +kernel
theorem dX4_runSlice_13 : decode cX4_runSlice 13 = .ok (.iload_n 2, 1) := by decide +kernel
theorem dX4_runSlice_14 : decode cX4_runSlice 14 = .ok (.invokevirtual 135, 3) := by decide +kernel
theorem dX4_runSlice_17 : decode cX4_runSlice 17 = .ok (.aload_n 0, 1) := by decide +kernel
theorem dX4_runSlice_18 : decode cX4_runSlice 18 = .ok (.iload_n 1, 1) := by decide +kernel
theorem dX4_runSlice_19 : decode cX4_runSlice 19 = .ok (.invokevirtual 138, 3) := by decide +kernel
theorem dX4_runSlice_22 : decode cX4_runSlice 22 = .ok (.aload_n 0, 1) := by decide +kernel
theorem dX4_runSlice_23 : decode cX4_runSlice 23 = .ok (.getfield 41, 3) := by decide +kernel
theorem dX4_runSlice_26 : decode cX4_runSlice 26 = .ok (.iload_n 1, 1) := by decide +kernel
theorem dX4_runSlice_27 : decode cX4_runSlice 27 = .ok (.aload_n 0, 1) := by decide +kernel
theorem dX4_runSlice_28 : decode cX4_runSlice 28 = .ok (.getfield 50, 3) := by decide +kernel
theorem dX4_runSlice_31 : decode cX4_runSlice 31 = .ok (.invokevirtual 141, 3) := by decide +kernel
theorem dX4_runSlice_34 : decode cX4_runSlice 34 = .ok (.aload_n 0, 1) := by decide +kernel
theorem dX4_runSlice_35 : decode cX4_runSlice 35 = .ok (.iload_n 2, 1) := by decide +kernel
theorem dX4_runSlice_36 : decode cX4_runSlice 36 = .ok (.invokevirtual 144, 3) := by decide +kernel
theorem dX4_runSlice_39 : decode cX4_runSlice 39 = .ok (.aload_n 0, 1) := by decide +kernel
theorem dX4_runSlice_40 : decode cX4_runSlice 40 = .ok (.dup, 1) := by decide +kernel
theorem dX4_runSlice_41 : decode cX4_runSlice 41 = .ok (.getfield 50, 3) := by decide +kernel
theorem dX4_runSlice_44 : decode cX4_runSlice 44 = .ok (.iconst 1, 1) := by decide +kernel
theorem dX4_runSlice_45 : decode cX4_runSlice 45 = .ok (.iadd, 1) := by decide +kernel
theorem dX4_runSlice_46 : decode cX4_runSlice 46 = .ok (.putfield 50, 3) := by decide +kernel
theorem dX4_runSlice_49 : decode cX4_runSlice 49 = .ok (.return_, 1) := by decide +kernel
theorem dX4_watchersOf_0 : decode cX4_watchersOf 0 = .ok (.iconst 0, 1) := by decide +kernel
theorem dX4_watchersOf_1 : decode cX4_watchersOf 1 = .ok (.istore_n 2, 1) := by decide +kernel
theorem dX4_watchersOf_2 : decode cX4_watchersOf 2 = .ok (.iconst 0, 1) := by decide +kernel
theorem dX4_watchersOf_3 : decode cX4_watchersOf 3 = .ok (.istore_n 3, 1) := by decide +kernel
theorem dX4_watchersOf_4 : decode cX4_watchersOf 4 = .ok (.iload_n 3, 1) := by decide +kernel
theorem dX4_watchersOf_5 : decode cX4_watchersOf 5 = .ok (.aload_n 0, 1) := by decide +kernel
theorem dX4_watchersOf_6 : decode cX4_watchersOf 6 = .ok (.getfield 53, 3) := by decide +kernel
theorem dX4_watchersOf_9 : decode cX4_watchersOf 9 = .ok (.if_icmp .ge 88, 3) := by decide +kernel
theorem dX4_watchersOf_12 : decode cX4_watchersOf 12 = .ok (.aload_n 0, 1) := by decide +kernel
theorem dX4_watchersOf_13 : decode cX4_watchersOf 13 = .ok (.getfield 31, 3) := by decide +kernel
theorem dX4_watchersOf_16 : decode cX4_watchersOf 16 = .ok (.iload_n 3, 1) := by decide +kernel
theorem dX4_watchersOf_17 : decode cX4_watchersOf 17 = .ok (.aaload, 1) := by decide +kernel
theorem dX4_watchersOf_18 : decode cX4_watchersOf 18 = .ok (.astore 4, 2) := by decide +kernel
theorem dX4_watchersOf_20 : decode cX4_watchersOf 20 = .ok (.aload 4, 2) := by decide +kernel
theorem dX4_watchersOf_22 : decode cX4_watchersOf 22 = .ok (.getfield 147, 3) := by decide +kernel
theorem dX4_watchersOf_25 : decode cX4_watchersOf 25 = .ok (.iload_n 1, 1) := by decide +kernel
theorem dX4_watchersOf_26 : decode cX4_watchersOf 26 = .ok (.if_icmp .ne 7, 3) := by decide +kernel
theorem dX4_watchersOf_29 : decode cX4_watchersOf 29 = .ok (.iconst 1, 1) := by decide +kernel
theorem dX4_watchersOf_30 : decode cX4_watchersOf 30 = .ok (.goto 4, 3) := by decide +kernel
theorem dX4_watchersOf_33 : decode cX4_watchersOf 33 = .ok (.iconst 0, 1) := by decide +kernel
theorem dX4_watchersOf_34 : decode cX4_watchersOf 34 = .ok (.istore 5, 2) := by decide +kernel
theorem dX4_watchersOf_36 : decode cX4_watchersOf 36 = .ok (.aload 4, 2) := by decide +kernel
theorem dX4_watchersOf_38 : decode cX4_watchersOf 38 = .ok (.getfield 150, 3) := by decide +kernel
theorem dX4_watchersOf_41 : decode cX4_watchersOf 41 = .ok (.ifCond .eq 23, 3) := by decide +kernel
theorem dX4_watchersOf_44 : decode cX4_watchersOf 44 = .ok (.aload_n 0, 1) := by decide +kernel
theorem dX4_watchersOf_45 : decode cX4_watchersOf 45 = .ok (.getfield 25, 3) := by decide +kernel
theorem dX4_watchersOf_48 : decode cX4_watchersOf 48 = .ok (.iload_n 1, 1) := by decide +kernel
theorem dX4_watchersOf_49 : decode cX4_watchersOf 49 = .ok (.aload 4, 2) := by decide +kernel
theorem dX4_watchersOf_51 : decode cX4_watchersOf 51 = .ok (.getfield 147, 3) := by decide +kernel
theorem dX4_watchersOf_54 : decode cX4_watchersOf 54 = .ok (.invokevirtual 153, 3) := by decide +kernel
theorem dX4_watchersOf_57 : decode cX4_watchersOf 57 = .ok (.ifCond .eq 7, 3) := by decide +kernel
theorem dX4_watchersOf_60 : decode cX4_watchersOf 60 = .ok (.iconst 1, 1) := by decide +kernel
theorem dX4_watchersOf_61 : decode cX4_watchersOf 61 = .ok (.goto 4, 3) := by decide +kernel
theorem dX4_watchersOf_64 : decode cX4_watchersOf 64 = .ok (.iconst 0, 1) := by decide +kernel
theorem dX4_watchersOf_65 : decode cX4_watchersOf 65 = .ok (.istore 6, 2) := by decide +kernel
theorem dX4_watchersOf_67 : decode cX4_watchersOf 67 = .ok (.aload 4, 2) := by decide +kernel
theorem dX4_watchersOf_69 : decode cX4_watchersOf 69 = .ok (.getfield 117, 3) := by decide +kernel
theorem dX4_watchersOf_72 : decode cX4_watchersOf 72 = .ok (.ifCond .eq 19, 3) := by decide +kernel
theorem dX4_watchersOf_75 : decode cX4_watchersOf 75 = .ok (.iload 5, 2) := by decide +kernel
theorem dX4_watchersOf_77 : decode cX4_watchersOf 77 = .ok (.ifCond .ne 8, 3) := by decide +kernel
theorem dX4_watchersOf_80 : decode cX4_watchersOf 80 = .ok (.iload 6, 2) := by decide +kernel
theorem dX4_watchersOf_82 : decode cX4_watchersOf 82 = .ok (.ifCond .eq 9, 3) := by decide +kernel
theorem dX4_watchersOf_85 : decode cX4_watchersOf 85 = .ok (.iload_n 2, 1) := by decide +kernel
theorem dX4_watchersOf_86 : decode cX4_watchersOf 86 = .ok (.iconst 1, 1) := by decide +kernel
theorem dX4_watchersOf_87 : decode cX4_watchersOf 87 = .ok (.iload_n 3, 1) := by decide +kernel
theorem dX4_watchersOf_88 : decode cX4_watchersOf 88 = .ok (.ishl, 1) := by decide +kernel
theorem dX4_watchersOf_89 : decode cX4_watchersOf 89 = .ok (.ior, 1) := by decide +kernel
theorem dX4_watchersOf_90 : decode cX4_watchersOf 90 = .ok (.istore_n 2, 1) := by decide +kernel
theorem dX4_watchersOf_91 : decode cX4_watchersOf 91 = .ok (.iinc 3 1, 3) := by decide +kernel
theorem dX4_watchersOf_94 : decode cX4_watchersOf 94 = .ok (.goto (-90), 3) := by decide +kernel
theorem dX4_watchersOf_97 : decode cX4_watchersOf 97 = .ok (.iload_n 2, 1) := by decide +kernel
theorem dX4_watchersOf_98 : decode cX4_watchersOf 98 = .ok (.ireturn, 1) := by decide +kernel
theorem dX4_isIn_0 : decode cX4_isIn 0 = .ok (.iload_n 0, 1) := by decide +kernel
theorem dX4_isIn_1 : decode cX4_isIn 1 = .ok (.iconst 1, 1) := by decide +kernel
theorem dX4_isIn_2 : decode cX4_isIn 2 = .ok (.iload_n 1, 1) := by decide +kernel
theorem dX4_isIn_3 : decode cX4_isIn 3 = .ok (.ishl, 1) := by decide +kernel
theorem dX4_isIn_4 : decode cX4_isIn 4 = .ok (.iand, 1) := by decide +kernel
theorem dX4_isIn_5 : decode cX4_isIn 5 = .ok (.ifCond .eq 7, 3) := by decide +kernel
theorem dX4_isIn_8 : decode cX4_isIn 8 = .ok (.iconst 1, 1) := by decide +kernel
theorem dX4_isIn_9 : decode cX4_isIn 9 = .ok (.goto 4, 3) := by decide +kernel
theorem dX4_isIn_12 : decode cX4_isIn 12 = .ok (.iconst 0, 1) := by decide +kernel
theorem dX4_isIn_13 : decode cX4_isIn 13 = .ok (.ireturn, 1) := by decide +kernel
theorem dX4_dealCounters_0 : decode cX4_dealCounters 0 = .ok (.aload_n 0, 1) := by decide +kernel
theorem dX4_dealCounters_1 : decode cX4_dealCounters 1 = .ok (.getfield 45, 3) := by decide +kernel
theorem dX4_dealCounters_4 : decode cX4_dealCounters 4 = .ok (.aload_n 0, 1) := by decide +kernel
theorem dX4_dealCounters_5 : decode cX4_dealCounters 5 = .ok (.getfield 9, 3) := by decide +kernel
theorem dX4_dealCounters_8 : decode cX4_dealCounters 8 = .ok (.invokevirtual 157, 3) := by decide +kernel
theorem dX4_dealCounters_11 : decode cX4_dealCounters 11 = .ok (.iconst 0, 1) := by decide +kernel
theorem dX4_dealCounters_12 : decode cX4_dealCounters 12 = .ok (.istore_n 2, 1) := by decide +kernel
theorem dX4_dealCounters_13 : decode cX4_dealCounters 13 = .ok (.iload_n 2, 1) := by decide +kernel
theorem dX4_dealCounters_14 : decode cX4_dealCounters 14 = .ok (.aload_n 0, 1) := by decide +kernel
theorem dX4_dealCounters_15 : decode cX4_dealCounters 15 = .ok (.getfield 53, 3) := by decide +kernel
theorem dX4_dealCounters_18 : decode cX4_dealCounters 18 = .ok (.if_icmp .ge 18, 3) := by decide +kernel
theorem dX4_dealCounters_21 : decode cX4_dealCounters 21 = .ok (.aload_n 0, 1) := by decide +kernel
theorem dX4_dealCounters_22 : decode cX4_dealCounters 22 = .ok (.getfield 31, 3) := by decide +kernel
theorem dX4_dealCounters_25 : decode cX4_dealCounters 25 = .ok (.iload_n 2, 1) := by decide +kernel
theorem dX4_dealCounters_26 : decode cX4_dealCounters 26 = .ok (.aaload, 1) := by decide +kernel
theorem dX4_dealCounters_27 : decode cX4_dealCounters 27 = .ok (.invokevirtual 162, 3) := by decide +kernel
theorem dX4_dealCounters_30 : decode cX4_dealCounters 30 = .ok (.iinc 2 1, 3) := by decide +kernel
theorem dX4_dealCounters_33 : decode cX4_dealCounters 33 = .ok (.goto (-20), 3) := by decide +kernel
theorem dX4_dealCounters_36 : decode cX4_dealCounters 36 = .ok (.iconst 0, 1) := by decide +kernel
theorem dX4_dealCounters_37 : decode cX4_dealCounters 37 = .ok (.istore_n 2, 1) := by decide +kernel
theorem dX4_dealCounters_38 : decode cX4_dealCounters 38 = .ok (.iload_n 2, 1) := by decide +kernel
theorem dX4_dealCounters_39 : decode cX4_dealCounters 39 = .ok (.aload_n 0, 1) := by decide +kernel
theorem dX4_dealCounters_40 : decode cX4_dealCounters 40 = .ok (.getfield 53, 3) := by decide +kernel
theorem dX4_dealCounters_43 : decode cX4_dealCounters 43 = .ok (.if_icmp .ge 55, 3) := by decide +kernel
theorem dX4_dealCounters_46 : decode cX4_dealCounters 46 = .ok (.aload_n 0, 1) := by decide +kernel
theorem dX4_dealCounters_47 : decode cX4_dealCounters 47 = .ok (.getfield 31, 3) := by decide +kernel
theorem dX4_dealCounters_50 : decode cX4_dealCounters 50 = .ok (.iload_n 2, 1) := by decide +kernel
theorem dX4_dealCounters_51 : decode cX4_dealCounters 51 = .ok (.aaload, 1) := by decide +kernel
theorem dX4_dealCounters_52 : decode cX4_dealCounters 52 = .ok (.astore_n 3, 1) := by decide +kernel
theorem dX4_dealCounters_53 : decode cX4_dealCounters 53 = .ok (.aload_n 3, 1) := by decide +kernel
theorem dX4_dealCounters_54 : decode cX4_dealCounters 54 = .ok (.getfield 165, 3) := by decide +kernel
theorem dX4_dealCounters_57 : decode cX4_dealCounters 57 = .ok (.ifCond .eq 35, 3) := by decide +kernel
theorem dX4_dealCounters_60 : decode cX4_dealCounters 60 = .ok (.iload_n 1, 1) := by decide +kernel
theorem dX4_dealCounters_61 : decode cX4_dealCounters 61 = .ok (.iload_n 2, 1) := by decide +kernel
theorem dX4_dealCounters_62 : decode cX4_dealCounters 62 = .ok (.invokestatic 168, 3) := by decide +kernel
theorem dX4_dealCounters_65 : decode cX4_dealCounters 65 = .ok (.ifCond .eq 27, 3) := by decide +kernel
theorem dX4_dealCounters_68 : decode cX4_dealCounters 68 = .ok (.aload_n 3, 1) := by decide +kernel
theorem dX4_dealCounters_69 : decode cX4_dealCounters 69 = .ok (.aload_n 0, 1) := by decide +kernel
theorem dX4_dealCounters_70 : decode cX4_dealCounters 70 = .ok (.getfield 45, 3) := by decide +kernel
theorem dX4_dealCounters_73 : decode cX4_dealCounters 73 = .ok (.aload_n 3, 1) := by decide +kernel
theorem dX4_dealCounters_74 : decode cX4_dealCounters 74 = .ok (.aload_n 0, 1) := by decide +kernel
theorem dX4_dealCounters_75 : decode cX4_dealCounters 75 = .ok (.getfield 18, 3) := by decide +kernel
theorem dX4_dealCounters_78 : decode cX4_dealCounters 78 = .ok (.invokevirtual 171, 3) := by decide +kernel
theorem dX4_dealCounters_81 : decode cX4_dealCounters 81 = .ok (.putfield 175, 3) := by decide +kernel
theorem dX4_dealCounters_84 : decode cX4_dealCounters 84 = .ok (.aload_n 3, 1) := by decide +kernel
theorem dX4_dealCounters_85 : decode cX4_dealCounters 85 = .ok (.aload_n 3, 1) := by decide +kernel
theorem dX4_dealCounters_86 : decode cX4_dealCounters 86 = .ok (.getfield 175, 3) := by decide +kernel
theorem dX4_dealCounters_89 : decode cX4_dealCounters 89 = .ok (.putfield 117, 3) := by decide +kernel
theorem dX4_dealCounters_92 : decode cX4_dealCounters 92 = .ok (.iinc 2 1, 3) := by decide +kernel
theorem dX4_dealCounters_95 : decode cX4_dealCounters 95 = .ok (.goto (-57), 3) := by decide +kernel
theorem dX4_dealCounters_98 : decode cX4_dealCounters 98 = .ok (.iconst 0, 1) := by decide +kernel
theorem dX4_dealCounters_99 : decode cX4_dealCounters 99 = .ok (.istore_n 2, 1) := by decide +kernel
theorem dX4_dealCounters_100 : decode cX4_dealCounters 100 = .ok (.iload_n 2, 1) := by decide +kernel
theorem dX4_dealCounters_101 : decode cX4_dealCounters 101 = .ok (.aload_n 0, 1) := by decide +kernel
theorem dX4_dealCounters_102 : decode cX4_dealCounters 102 = .ok (.getfield 56, 3) := by decide +kernel
theorem dX4_dealCounters_105 : decode cX4_dealCounters 105 = .ok (.if_icmp .ge 50, 3) := by decide +kernel
theorem dX4_dealCounters_108 : decode cX4_dealCounters 108 = .ok (.aload_n 0, 1) := by decide +kernel
theorem dX4_dealCounters_109 : decode cX4_dealCounters 109 = .ok (.getfield 31, 3) := by decide +kernel
theorem dX4_dealCounters_112 : decode cX4_dealCounters 112 = .ok (.aload_n 0, 1) := by decide +kernel
theorem dX4_dealCounters_113 : decode cX4_dealCounters 113 = .ok (.getfield 35, 3) := by decide +kernel
theorem dX4_dealCounters_116 : decode cX4_dealCounters 116 = .ok (.iload_n 2, 1) := by decide +kernel
theorem dX4_dealCounters_117 : decode cX4_dealCounters 117 = .ok (.iaload, 1) := by decide +kernel
theorem dX4_dealCounters_118 : decode cX4_dealCounters 118 = .ok (.aaload, 1) := by decide +kernel
theorem dX4_dealCounters_119 : decode cX4_dealCounters 119 = .ok (.astore_n 3, 1) := by decide +kernel
theorem dX4_dealCounters_120 : decode cX4_dealCounters 120 = .ok (.iload_n 1, 1) := by decide +kernel
theorem dX4_dealCounters_121 : decode cX4_dealCounters 121 = .ok (.aload_n 0, 1) := by decide +kernel
theorem dX4_dealCounters_122 : decode cX4_dealCounters 122 = .ok (.getfield 35, 3) := by decide +kernel
theorem dX4_dealCounters_125 : decode cX4_dealCounters 125 = .ok (.iload_n 2, 1) := by decide +kernel
theorem dX4_dealCounters_126 : decode cX4_dealCounters 126 = .ok (.iaload, 1) := by decide +kernel
theorem dX4_dealCounters_127 : decode cX4_dealCounters 127 = .ok (.invokestatic 168, 3) := by decide +kernel
theorem dX4_dealCounters_130 : decode cX4_dealCounters 130 = .ok (.ifCond .eq 19, 3) := by decide +kernel
theorem dX4_dealCounters_133 : decode cX4_dealCounters 133 = .ok (.aload_n 3, 1) := by decide +kernel
theorem dX4_dealCounters_134 : decode cX4_dealCounters 134 = .ok (.aload_n 0, 1) := by decide +kernel
theorem dX4_dealCounters_135 : decode cX4_dealCounters 135 = .ok (.getfield 45, 3) := by decide +kernel
theorem dX4_dealCounters_138 : decode cX4_dealCounters 138 = .ok (.aload_n 3, 1) := by decide +kernel
theorem dX4_dealCounters_139 : decode cX4_dealCounters 139 = .ok (.aload_n 0, 1) := by decide +kernel
theorem dX4_dealCounters_140 : decode cX4_dealCounters 140 = .ok (.getfield 18, 3) := by decide +kernel
theorem dX4_dealCounters_143 : decode cX4_dealCounters 143 = .ok (.invokevirtual 171, 3) := by decide +kernel
theorem dX4_dealCounters_146 : decode cX4_dealCounters 146 = .ok (.putfield 175, 3) := by decide +kernel
theorem dX4_dealCounters_149 : decode cX4_dealCounters 149 = .ok (.iinc 2 1, 3) := by decide +kernel
theorem dX4_dealCounters_152 : decode cX4_dealCounters 152 = .ok (.goto (-52), 3) := by decide +kernel
theorem dX4_dealCounters_155 : decode cX4_dealCounters 155 = .ok (.aload_n 0, 1) := by decide +kernel
theorem dX4_dealCounters_156 : decode cX4_dealCounters 156 = .ok (.getfield 45, 3) := by decide +kernel
theorem dX4_dealCounters_159 : decode cX4_dealCounters 159 = .ok (.invokevirtual 178, 3) := by decide +kernel
theorem dX4_dealCounters_162 : decode cX4_dealCounters 162 = .ok (.aload_n 0, 1) := by decide +kernel
theorem dX4_dealCounters_163 : decode cX4_dealCounters 163 = .ok (.invokevirtual 181, 3) := by decide +kernel
theorem dX4_dealCounters_166 : decode cX4_dealCounters 166 = .ok (.return_, 1) := by decide +kernel
theorem dX4_showSeats_0 : decode cX4_showSeats 0 = .ok (.iconst 0, 1) := by decide +kernel
theorem dX4_showSeats_1 : decode cX4_showSeats 1 = .ok (.istore_n 1, 1) := by decide +kernel
theorem dX4_showSeats_2 : decode cX4_showSeats 2 = .ok (.iconst 0, 1) := by decide +kernel
theorem dX4_showSeats_3 : decode cX4_showSeats 3 = .ok (.istore_n 2, 1) := by decide +kernel
theorem dX4_showSeats_4 : decode cX4_showSeats 4 = .ok (.iload_n 2, 1) := by decide +kernel
theorem dX4_showSeats_5 : decode cX4_showSeats 5 = .ok (.aload_n 0, 1) := by decide +kernel
theorem dX4_showSeats_6 : decode cX4_showSeats 6 = .ok (.getfield 53, 3) := by decide +kernel
theorem dX4_showSeats_9 : decode cX4_showSeats 9 = .ok (.if_icmp .ge 45, 3) := by decide +kernel
theorem dX4_showSeats_12 : decode cX4_showSeats 12 = .ok (.aload_n 0, 1) := by decide +kernel
theorem dX4_showSeats_13 : decode cX4_showSeats 13 = .ok (.getfield 31, 3) := by decide +kernel
theorem dX4_showSeats_16 : decode cX4_showSeats 16 = .ok (.iload_n 2, 1) := by decide +kernel
theorem dX4_showSeats_17 : decode cX4_showSeats 17 = .ok (.aaload, 1) := by decide +kernel
theorem dX4_showSeats_18 : decode cX4_showSeats 18 = .ok (.getfield 165, 3) := by decide +kernel
theorem dX4_showSeats_21 : decode cX4_showSeats 21 = .ok (.ifCond .eq 27, 3) := by decide +kernel
theorem dX4_showSeats_24 : decode cX4_showSeats 24 = .ok (.aload_n 0, 1) := by decide +kernel
theorem dX4_showSeats_25 : decode cX4_showSeats 25 = .ok (.getfield 31, 3) := by decide +kernel
theorem dX4_showSeats_28 : decode cX4_showSeats 28 = .ok (.iload_n 2, 1) := by decide +kernel
theorem dX4_showSeats_29 : decode cX4_showSeats 29 = .ok (.aaload, 1) := by decide +kernel
theorem dX4_showSeats_30 : decode cX4_showSeats 30 = .ok (.getfield 175, 3) := by decide +kernel
theorem dX4_showSeats_33 : decode cX4_showSeats 33 = .ok (.ifCond .eq 15, 3) := by decide +kernel
theorem dX4_showSeats_36 : decode cX4_showSeats 36 = .ok (.aload_n 0, 1) := by decide +kernel
theorem dX4_showSeats_37 : decode cX4_showSeats 37 = .ok (.aload_n 0, 1) := by decide +kernel
theorem dX4_showSeats_38 : decode cX4_showSeats 38 = .ok (.getfield 31, 3) := by decide +kernel
theorem dX4_showSeats_41 : decode cX4_showSeats 41 = .ok (.iload_n 2, 1) := by decide +kernel
theorem dX4_showSeats_42 : decode cX4_showSeats 42 = .ok (.aaload, 1) := by decide +kernel
theorem dX4_showSeats_43 : decode cX4_showSeats 43 = .ok (.iload_n 1, 1) := by decide +kernel
theorem dX4_showSeats_44 : decode cX4_showSeats 44 = .ok (.invokevirtual 184, 3) := by decide +kernel
theorem dX4_showSeats_47 : decode cX4_showSeats 47 = .ok (.istore_n 1, 1) := by decide +kernel
theorem dX4_showSeats_48 : decode cX4_showSeats 48 = .ok (.iinc 2 1, 3) := by decide +kernel
theorem dX4_showSeats_51 : decode cX4_showSeats 51 = .ok (.goto (-47), 3) := by decide +kernel
theorem dX4_showSeats_54 : decode cX4_showSeats 54 = .ok (.iconst 0, 1) := by decide +kernel
theorem dX4_showSeats_55 : decode cX4_showSeats 55 = .ok (.istore_n 2, 1) := by decide +kernel
theorem dX4_showSeats_56 : decode cX4_showSeats 56 = .ok (.iload_n 2, 1) := by decide +kernel
theorem dX4_showSeats_57 : decode cX4_showSeats 57 = .ok (.aload_n 0, 1) := by decide +kernel
theorem dX4_showSeats_58 : decode cX4_showSeats 58 = .ok (.getfield 56, 3) := by decide +kernel
theorem dX4_showSeats_61 : decode cX4_showSeats 61 = .ok (.if_icmp .ge 43, 3) := by decide +kernel
theorem dX4_showSeats_64 : decode cX4_showSeats 64 = .ok (.aload_n 0, 1) := by decide +kernel
theorem dX4_showSeats_65 : decode cX4_showSeats 65 = .ok (.getfield 31, 3) := by decide +kernel
theorem dX4_showSeats_68 : decode cX4_showSeats 68 = .ok (.aload_n 0, 1) := by decide +kernel
theorem dX4_showSeats_69 : decode cX4_showSeats 69 = .ok (.getfield 35, 3) := by decide +kernel
theorem dX4_showSeats_72 : decode cX4_showSeats 72 = .ok (.iload_n 2, 1) := by decide +kernel
theorem dX4_showSeats_73 : decode cX4_showSeats 73 = .ok (.iaload, 1) := by decide +kernel
theorem dX4_showSeats_74 : decode cX4_showSeats 74 = .ok (.aaload, 1) := by decide +kernel
theorem dX4_showSeats_75 : decode cX4_showSeats 75 = .ok (.getfield 175, 3) := by decide +kernel
theorem dX4_showSeats_78 : decode cX4_showSeats 78 = .ok (.ifCond .eq 20, 3) := by decide +kernel
theorem dX4_showSeats_81 : decode cX4_showSeats 81 = .ok (.aload_n 0, 1) := by decide +kernel
theorem dX4_showSeats_82 : decode cX4_showSeats 82 = .ok (.aload_n 0, 1) := by decide +kernel
theorem dX4_showSeats_83 : decode cX4_showSeats 83 = .ok (.getfield 31, 3) := by decide +kernel
theorem dX4_showSeats_86 : decode cX4_showSeats 86 = .ok (.aload_n 0, 1) := by decide +kernel
theorem dX4_showSeats_87 : decode cX4_showSeats 87 = .ok (.getfield 35, 3) := by decide +kernel
theorem dX4_showSeats_90 : decode cX4_showSeats 90 = .ok (.iload_n 2, 1) := by decide +kernel
theorem dX4_showSeats_91 : decode cX4_showSeats 91 = .ok (.iaload, 1) := by decide +kernel
theorem dX4_showSeats_92 : decode cX4_showSeats 92 = .ok (.aaload, 1) := by decide +kernel
theorem dX4_showSeats_93 : decode cX4_showSeats 93 = .ok (.iload_n 1, 1) := by decide +kernel
theorem dX4_showSeats_94 : decode cX4_showSeats 94 = .ok (.invokevirtual 184, 3) := by decide +kernel
theorem dX4_showSeats_97 : decode cX4_showSeats 97 = .ok (.istore_n 1, 1) := by decide +kernel
theorem dX4_showSeats_98 : decode cX4_showSeats 98 = .ok (.iinc 2 1, 3) := by decide +kernel
theorem dX4_showSeats_101 : decode cX4_showSeats 101 = .ok (.goto (-45), 3) := by decide +kernel
theorem dX4_showSeats_104 : decode cX4_showSeats 104 = .ok (.return_, 1) := by decide +kernel
theorem dX4_showSeatsOf_0 : decode cX4_showSeatsOf 0 = .ok (.iload_n 2, 1) := by decide +kernel
theorem dX4_showSeatsOf_1 : decode cX4_showSeatsOf 1 = .ok (.istore_n 3, 1) := by decide +kernel
theorem dX4_showSeatsOf_2 : decode cX4_showSeatsOf 2 = .ok (.iconst 0, 1) := by decide +kernel
theorem dX4_showSeatsOf_3 : decode cX4_showSeatsOf 3 = .ok (.istore 4, 2) := by decide +kernel
theorem dX4_showSeatsOf_5 : decode cX4_showSeatsOf 5 = .ok (.iload 4, 2) := by decide +kernel
theorem dX4_showSeatsOf_7 : decode cX4_showSeatsOf 7 = .ok (.aload_n 1, 1) := by decide +kernel
theorem dX4_showSeatsOf_8 : decode cX4_showSeatsOf 8 = .ok (.getfield 188, 3) := by decide +kernel
theorem dX4_showSeatsOf_11 : decode cX4_showSeatsOf 11 = .ok (.if_icmp .ge 33, 3) := by decide +kernel
theorem dX4_showSeatsOf_14 : decode cX4_showSeatsOf 14 = .ok (.iload_n 3, 1) := by decide +kernel
theorem dX4_showSeatsOf_15 : decode cX4_showSeatsOf 15 = .ok (.iconst 4, 1) := by decide +kernel
theorem dX4_showSeatsOf_16 : decode cX4_showSeatsOf 16 = .ok (.if_icmp .ge 28, 3) := by decide +kernel
theorem dX4_showSeatsOf_19 : decode cX4_showSeatsOf 19 = .ok (.aload_n 1, 1) := by decide +kernel
theorem dX4_showSeatsOf_20 : decode cX4_showSeatsOf 20 = .ok (.getfield 191, 3) := by decide +kernel
theorem dX4_showSeatsOf_23 : decode cX4_showSeatsOf 23 = .ok (.iload 4, 2) := by decide +kernel
theorem dX4_showSeatsOf_25 : decode cX4_showSeatsOf 25 = .ok (.aload_n 0, 1) := by decide +kernel
theorem dX4_showSeatsOf_26 : decode cX4_showSeatsOf 26 = .ok (.getfield 45, 3) := by decide +kernel
theorem dX4_showSeatsOf_29 : decode cX4_showSeatsOf 29 = .ok (.getfield 194, 3) := by decide +kernel
theorem dX4_showSeatsOf_32 : decode cX4_showSeatsOf 32 = .ok (.iload_n 3, 1) := by decide +kernel
theorem dX4_showSeatsOf_33 : decode cX4_showSeatsOf 33 = .ok (.iaload, 1) := by decide +kernel
theorem dX4_showSeatsOf_34 : decode cX4_showSeatsOf 34 = .ok (.iastore, 1) := by decide +kernel
theorem dX4_showSeatsOf_35 : decode cX4_showSeatsOf 35 = .ok (.iinc 3 1, 3) := by decide +kernel
theorem dX4_showSeatsOf_38 : decode cX4_showSeatsOf 38 = .ok (.iinc 4 1, 3) := by decide +kernel
theorem dX4_showSeatsOf_41 : decode cX4_showSeatsOf 41 = .ok (.goto (-36), 3) := by decide +kernel
theorem dX4_showSeatsOf_44 : decode cX4_showSeatsOf 44 = .ok (.iload_n 3, 1) := by decide +kernel
theorem dX4_showSeatsOf_45 : decode cX4_showSeatsOf 45 = .ok (.ireturn, 1) := by decide +kernel
theorem dX4_countSlice_0 : decode cX4_countSlice 0 = .ok (.iconst 0, 1) := by decide +kernel
theorem dX4_countSlice_1 : decode cX4_countSlice 1 = .ok (.istore_n 3, 1) := by decide +kernel
theorem dX4_countSlice_2 : decode cX4_countSlice 2 = .ok (.iload_n 3, 1) := by decide +kernel
theorem dX4_countSlice_3 : decode cX4_countSlice 3 = .ok (.aload_n 0, 1) := by decide +kernel
theorem dX4_countSlice_4 : decode cX4_countSlice 4 = .ok (.getfield 53, 3) := by decide +kernel
theorem dX4_countSlice_7 : decode cX4_countSlice 7 = .ok (.if_icmp .ge 58, 3) := by decide +kernel
theorem dX4_countSlice_10 : decode cX4_countSlice 10 = .ok (.iload_n 2, 1) := by decide +kernel
theorem dX4_countSlice_11 : decode cX4_countSlice 11 = .ok (.iload_n 3, 1) := by decide +kernel
theorem dX4_countSlice_12 : decode cX4_countSlice 12 = .ok (.invokestatic 168, 3) := by decide +kernel
theorem dX4_countSlice_15 : decode cX4_countSlice 15 = .ok (.ifCond .eq 18, 3) := by decide +kernel
theorem dX4_countSlice_18 : decode cX4_countSlice 18 = .ok (.aload_n 0, 1) := by decide +kernel
theorem dX4_countSlice_19 : decode cX4_countSlice 19 = .ok (.getfield 31, 3) := by decide +kernel
theorem dX4_countSlice_22 : decode cX4_countSlice 22 = .ok (.iload_n 3, 1) := by decide +kernel
theorem dX4_countSlice_23 : decode cX4_countSlice 23 = .ok (.aaload, 1) := by decide +kernel
theorem dX4_countSlice_24 : decode cX4_countSlice 24 = .ok (.getfield 195, 3) := by decide +kernel
theorem dX4_countSlice_27 : decode cX4_countSlice 27 = .ok (.iload_n 1, 1) := by decide +kernel
theorem dX4_countSlice_28 : decode cX4_countSlice 28 = .ok (.dup2, 1) := by decide +kernel
theorem dX4_countSlice_29 : decode cX4_countSlice 29 = .ok (.iaload, 1) := by decide +kernel
theorem dX4_countSlice_30 : decode cX4_countSlice 30 = .ok (.iconst 1, 1) := by decide +kernel
theorem dX4_countSlice_31 : decode cX4_countSlice 31 = .ok (.iadd, 1) := by decide +kernel
theorem dX4_countSlice_32 : decode cX4_countSlice 32 = .ok (.iastore, 1) := by decide +kernel
theorem dX4_countSlice_33 : decode cX4_countSlice 33 = .ok (.aload_n 0, 1) := by decide +kernel
theorem dX4_countSlice_34 : decode cX4_countSlice 34 = .ok (.getfield 31, 3) := by decide +kernel
theorem dX4_countSlice_37 : decode cX4_countSlice 37 = .ok (.iload_n 3, 1) := by decide +kernel
theorem dX4_countSlice_38 : decode cX4_countSlice 38 = .ok (.aaload, 1) := by decide +kernel
theorem dX4_countSlice_39 : decode cX4_countSlice 39 = .ok (.getfield 175, 3) := by decide +kernel
theorem dX4_countSlice_42 : decode cX4_countSlice 42 = .ok (.ifCond .eq 17, 3) := by decide +kernel
theorem dX4_countSlice_45 : decode cX4_countSlice 45 = .ok (.aload_n 0, 1) := by decide +kernel
theorem dX4_countSlice_46 : decode cX4_countSlice 46 = .ok (.getfield 31, 3) := by decide +kernel
theorem dX4_countSlice_49 : decode cX4_countSlice 49 = .ok (.iload_n 3, 1) := by decide +kernel
theorem dX4_countSlice_50 : decode cX4_countSlice 50 = .ok (.aaload, 1) := by decide +kernel
theorem dX4_countSlice_51 : decode cX4_countSlice 51 = .ok (.aload_n 0, 1) := by decide +kernel
theorem dX4_countSlice_52 : decode cX4_countSlice 52 = .ok (.getfield 25, 3) := by decide +kernel
theorem dX4_countSlice_55 : decode cX4_countSlice 55 = .ok (.iload_n 1, 1) := by decide +kernel
theorem dX4_countSlice_56 : decode cX4_countSlice 56 = .ok (.invokevirtual 198, 3) := by decide +kernel
theorem dX4_countSlice_59 : decode cX4_countSlice 59 = .ok (.iinc 3 1, 3) := by decide +kernel
theorem dX4_countSlice_62 : decode cX4_countSlice 62 = .ok (.goto (-60), 3) := by decide +kernel
theorem dX4_countSlice_65 : decode cX4_countSlice 65 = .ok (.return_, 1) := by decide +kernel
theorem dX4_takeSamples_0 : decode cX4_takeSamples 0 = .ok (.iconst 0, 1) := by decide +kernel
theorem dX4_takeSamples_1 : decode cX4_takeSamples 1 = .ok (.istore_n 2, 1) := by decide +kernel
theorem dX4_takeSamples_2 : decode cX4_takeSamples 2 = .ok (.iload_n 2, 1) := by decide +kernel
theorem dX4_takeSamples_3 : decode cX4_takeSamples 3 = .ok (.aload_n 0, 1) := by decide +kernel
theorem dX4_takeSamples_4 : decode cX4_takeSamples 4 = .ok (.getfield 53, 3) := by decide +kernel
theorem dX4_takeSamples_7 : decode cX4_takeSamples 7 = .ok (.if_icmp .ge 113, 3) := by decide +kernel
theorem dX4_takeSamples_10 : decode cX4_takeSamples 10 = .ok (.aload_n 0, 1) := by decide +kernel
theorem dX4_takeSamples_11 : decode cX4_takeSamples 11 = .ok (.getfield 31, 3) := by decide +kernel
theorem dX4_takeSamples_14 : decode cX4_takeSamples 14 = .ok (.iload_n 2, 1) := by decide +kernel
theorem dX4_takeSamples_15 : decode cX4_takeSamples 15 = .ok (.aaload, 1) := by decide +kernel
theorem dX4_takeSamples_16 : decode cX4_takeSamples 16 = .ok (.astore_n 3, 1) := by decide +kernel
theorem dX4_takeSamples_17 : decode cX4_takeSamples 17 = .ok (.aload_n 3, 1) := by decide +kernel
theorem dX4_takeSamples_18 : decode cX4_takeSamples 18 = .ok (.getfield 175, 3) := by decide +kernel
theorem dX4_takeSamples_21 : decode cX4_takeSamples 21 = .ok (.ifCond .eq 93, 3) := by decide +kernel
theorem dX4_takeSamples_24 : decode cX4_takeSamples 24 = .ok (.aload_n 3, 1) := by decide +kernel
theorem dX4_takeSamples_25 : decode cX4_takeSamples 25 = .ok (.getfield 111, 3) := by decide +kernel
theorem dX4_takeSamples_28 : decode cX4_takeSamples 28 = .ok (.ifCond .le 86, 3) := by decide +kernel
theorem dX4_takeSamples_31 : decode cX4_takeSamples 31 = .ok (.aload_n 3, 1) := by decide +kernel
theorem dX4_takeSamples_32 : decode cX4_takeSamples 32 = .ok (.dup, 1) := by decide +kernel
theorem dX4_takeSamples_33 : decode cX4_takeSamples 33 = .ok (.getfield 114, 3) := by decide +kernel
theorem dX4_takeSamples_36 : decode cX4_takeSamples 36 = .ok (.aload_n 0, 1) := by decide +kernel
theorem dX4_takeSamples_37 : decode cX4_takeSamples 37 = .ok (.getfield 25, 3) := by decide +kernel
theorem dX4_takeSamples_40 : decode cX4_takeSamples 40 = .ok (.iload_n 1, 1) := by decide +kernel
theorem dX4_takeSamples_41 : decode cX4_takeSamples 41 = .ok (.aload_n 3, 1) := by decide +kernel
theorem dX4_takeSamples_42 : decode cX4_takeSamples 42 = .ok (.getfield 201, 3) := by decide +kernel
theorem dX4_takeSamples_45 : decode cX4_takeSamples 45 = .ok (.iconst 0, 1) := by decide +kernel
theorem dX4_takeSamples_46 : decode cX4_takeSamples 46 = .ok (.iaload, 1) := by decide +kernel
theorem dX4_takeSamples_47 : decode cX4_takeSamples 47 = .ok (.invokevirtual 204, 3) := by decide +kernel
theorem dX4_takeSamples_50 : decode cX4_takeSamples 50 = .ok (.iadd, 1) := by decide +kernel
theorem dX4_takeSamples_51 : decode cX4_takeSamples 51 = .ok (.putfield 114, 3) := by decide +kernel
theorem dX4_takeSamples_54 : decode cX4_takeSamples 54 = .ok (.aload_n 3, 1) := by decide +kernel
theorem dX4_takeSamples_55 : decode cX4_takeSamples 55 = .ok (.getfield 114, 3) := by decide +kernel
theorem dX4_takeSamples_58 : decode cX4_takeSamples 58 = .ok (.aload_n 3, 1) := by decide +kernel
theorem dX4_takeSamples_59 : decode cX4_takeSamples 59 = .ok (.getfield 111, 3) := by decide +kernel
theorem dX4_takeSamples_62 : decode cX4_takeSamples 62 = .ok (.idiv, 1) := by decide +kernel
theorem dX4_takeSamples_63 : decode cX4_takeSamples 63 = .ok (.istore 4, 2) := by decide +kernel
theorem dX4_takeSamples_65 : decode cX4_takeSamples 65 = .ok (.aload_n 3, 1) := by decide +kernel
theorem dX4_takeSamples_66 : decode cX4_takeSamples 66 = .ok (.dup, 1) := by decide +kernel
theorem dX4_takeSamples_67 : decode cX4_takeSamples 67 = .ok (.getfield 114, 3) := by decide +kernel
theorem dX4_takeSamples_70 : decode cX4_takeSamples 70 = .ok (.iload 4, 2) := by decide +kernel
theorem dX4_takeSamples_72 : decode cX4_takeSamples 72 = .ok (.aload_n 3, 1) := by decide +kernel
theorem dX4_takeSamples_73 : decode cX4_takeSamples 73 = .ok (.getfield 111, 3) := by decide +kernel
theorem dX4_takeSamples_76 : decode cX4_takeSamples 76 = .ok (.imul, 1) := by decide +kernel
theorem dX4_takeSamples_77 : decode cX4_takeSamples 77 = .ok (.isub, 1) := by decide +kernel
theorem dX4_takeSamples_78 : decode cX4_takeSamples 78 = .ok (.putfield 114, 3) := by decide +kernel
theorem dX4_takeSamples_81 : decode cX4_takeSamples 81 = .ok (.iconst 0, 1) := by decide +kernel
theorem dX4_takeSamples_82 : decode cX4_takeSamples 82 = .ok (.istore 5, 2) := by decide +kernel
theorem dX4_takeSamples_84 : decode cX4_takeSamples 84 = .ok (.iload 5, 2) := by decide +kernel
theorem dX4_takeSamples_86 : decode cX4_takeSamples 86 = .ok (.iload 4, 2) := by decide +kernel
theorem dX4_takeSamples_88 : decode cX4_takeSamples 88 = .ok (.if_icmp .ge 26, 3) := by decide +kernel
theorem dX4_takeSamples_91 : decode cX4_takeSamples 91 = .ok (.aload_n 0, 1) := by decide +kernel
theorem dX4_takeSamples_92 : decode cX4_takeSamples 92 = .ok (.getfield 41, 3) := by decide +kernel
theorem dX4_takeSamples_95 : decode cX4_takeSamples 95 = .ok (.iload_n 2, 1) := by decide +kernel
theorem dX4_takeSamples_96 : decode cX4_takeSamples 96 = .ok (.aload_n 0, 1) := by decide +kernel
theorem dX4_takeSamples_97 : decode cX4_takeSamples 97 = .ok (.getfield 50, 3) := by decide +kernel
theorem dX4_takeSamples_100 : decode cX4_takeSamples 100 = .ok (.aload_n 0, 1) := by decide +kernel
theorem dX4_takeSamples_101 : decode cX4_takeSamples 101 = .ok (.getfield 15, 3) := by decide +kernel
theorem dX4_takeSamples_104 : decode cX4_takeSamples 104 = .ok (.iadd, 1) := by decide +kernel
theorem dX4_takeSamples_105 : decode cX4_takeSamples 105 = .ok (.invokevirtual 208, 3) := by decide +kernel
theorem dX4_takeSamples_108 : decode cX4_takeSamples 108 = .ok (.iinc 5 1, 3) := by decide +kernel
theorem dX4_takeSamples_111 : decode cX4_takeSamples 111 = .ok (.goto (-27), 3) := by decide +kernel
theorem dX4_takeSamples_114 : decode cX4_takeSamples 114 = .ok (.iinc 2 1, 3) := by decide +kernel
theorem dX4_takeSamples_117 : decode cX4_takeSamples 117 = .ok (.goto (-115), 3) := by decide +kernel
theorem dX4_takeSamples_120 : decode cX4_takeSamples 120 = .ok (.return_, 1) := by decide +kernel
theorem dX4_takeTurn_0 : decode cX4_takeTurn 0 = .ok (.iconst 0, 1) := by decide +kernel
theorem dX4_takeTurn_1 : decode cX4_takeTurn 1 = .ok (.istore_n 2, 1) := by decide +kernel
theorem dX4_takeTurn_2 : decode cX4_takeTurn 2 = .ok (.iload_n 2, 1) := by decide +kernel
theorem dX4_takeTurn_3 : decode cX4_takeTurn 3 = .ok (.aload_n 0, 1) := by decide +kernel
theorem dX4_takeTurn_4 : decode cX4_takeTurn 4 = .ok (.getfield 56, 3) := by decide +kernel
theorem dX4_takeTurn_7 : decode cX4_takeTurn 7 = .ok (.if_icmp .ge 66, 3) := by decide +kernel
theorem dX4_takeTurn_10 : decode cX4_takeTurn 10 = .ok (.iload_n 1, 1) := by decide +kernel
theorem dX4_takeTurn_11 : decode cX4_takeTurn 11 = .ok (.aload_n 0, 1) := by decide +kernel
theorem dX4_takeTurn_12 : decode cX4_takeTurn 12 = .ok (.getfield 35, 3) := by decide +kernel
theorem dX4_takeTurn_15 : decode cX4_takeTurn 15 = .ok (.iload_n 2, 1) := by decide +kernel
theorem dX4_takeTurn_16 : decode cX4_takeTurn 16 = .ok (.iaload, 1) := by decide +kernel
theorem dX4_takeTurn_17 : decode cX4_takeTurn 17 = .ok (.invokestatic 168, 3) := by decide +kernel
theorem dX4_takeTurn_20 : decode cX4_takeTurn 20 = .ok (.ifCond .eq 47, 3) := by decide +kernel
theorem dX4_takeTurn_23 : decode cX4_takeTurn 23 = .ok (.aload_n 0, 1) := by decide +kernel
theorem dX4_takeTurn_24 : decode cX4_takeTurn 24 = .ok (.getfield 31, 3) := by decide +kernel
theorem dX4_takeTurn_27 : decode cX4_takeTurn 27 = .ok (.aload_n 0, 1) := by decide +kernel
theorem dX4_takeTurn_28 : decode cX4_takeTurn 28 = .ok (.getfield 35, 3) := by decide +kernel
theorem dX4_takeTurn_31 : decode cX4_takeTurn 31 = .ok (.iload_n 2, 1) := by decide +kernel
theorem dX4_takeTurn_32 : decode cX4_takeTurn 32 = .ok (.iaload, 1) := by decide +kernel
theorem dX4_takeTurn_33 : decode cX4_takeTurn 33 = .ok (.aaload, 1) := by decide +kernel
theorem dX4_takeTurn_34 : decode cX4_takeTurn 34 = .ok (.astore_n 3, 1) := by decide +kernel
theorem dX4_takeTurn_35 : decode cX4_takeTurn 35 = .ok (.aload_n 3, 1) := by decide +kernel
theorem dX4_takeTurn_36 : decode cX4_takeTurn 36 = .ok (.dup, 1) := by decide +kernel
theorem dX4_takeTurn_37 : decode cX4_takeTurn 37 = .ok (.getfield 211, 3) := by decide +kernel
theorem dX4_takeTurn_40 : decode cX4_takeTurn 40 = .ok (.iconst 1, 1) := by decide +kernel
theorem dX4_takeTurn_41 : decode cX4_takeTurn 41 = .ok (.iadd, 1) := by decide +kernel
theorem dX4_takeTurn_42 : decode cX4_takeTurn 42 = .ok (.putfield 211, 3) := by decide +kernel
theorem dX4_takeTurn_45 : decode cX4_takeTurn 45 = .ok (.aload_n 3, 1) := by decide +kernel
theorem dX4_takeTurn_46 : decode cX4_takeTurn 46 = .ok (.getfield 211, 3) := by decide +kernel
theorem dX4_takeTurn_49 : decode cX4_takeTurn 49 = .ok (.aload_n 3, 1) := by decide +kernel
theorem dX4_takeTurn_50 : decode cX4_takeTurn 50 = .ok (.getfield 214, 3) := by decide +kernel
theorem dX4_takeTurn_53 : decode cX4_takeTurn 53 = .ok (.if_icmp .lt 13, 3) := by decide +kernel
theorem dX4_takeTurn_56 : decode cX4_takeTurn 56 = .ok (.aload_n 3, 1) := by decide +kernel
theorem dX4_takeTurn_57 : decode cX4_takeTurn 57 = .ok (.iconst 0, 1) := by decide +kernel
theorem dX4_takeTurn_58 : decode cX4_takeTurn 58 = .ok (.putfield 211, 3) := by decide +kernel
theorem dX4_takeTurn_61 : decode cX4_takeTurn 61 = .ok (.aload_n 0, 1) := by decide +kernel
theorem dX4_takeTurn_62 : decode cX4_takeTurn 62 = .ok (.iload_n 2, 1) := by decide +kernel
theorem dX4_takeTurn_63 : decode cX4_takeTurn 63 = .ok (.invokevirtual 217, 3) := by decide +kernel
theorem dX4_takeTurn_66 : decode cX4_takeTurn 66 = .ok (.return_, 1) := by decide +kernel
theorem dX4_takeTurn_67 : decode cX4_takeTurn 67 = .ok (.iinc 2 1, 3) := by decide +kernel
theorem dX4_takeTurn_70 : decode cX4_takeTurn 70 = .ok (.goto (-68), 3) := by decide +kernel
theorem dX4_takeTurn_73 : decode cX4_takeTurn 73 = .ok (.return_, 1) := by decide +kernel
theorem dX4_moveToEnd_0 : decode cX4_moveToEnd 0 = .ok (.aload_n 0, 1) := by decide +kernel
theorem dX4_moveToEnd_1 : decode cX4_moveToEnd 1 = .ok (.getfield 35, 3) := by decide +kernel
theorem dX4_moveToEnd_4 : decode cX4_moveToEnd 4 = .ok (.iload_n 1, 1) := by decide +kernel
theorem dX4_moveToEnd_5 : decode cX4_moveToEnd 5 = .ok (.iaload, 1) := by decide +kernel
theorem dX4_moveToEnd_6 : decode cX4_moveToEnd 6 = .ok (.istore_n 2, 1) := by decide +kernel
theorem dX4_moveToEnd_7 : decode cX4_moveToEnd 7 = .ok (.iload_n 1, 1) := by decide +kernel
theorem dX4_moveToEnd_8 : decode cX4_moveToEnd 8 = .ok (.istore_n 3, 1) := by decide +kernel
theorem dX4_moveToEnd_9 : decode cX4_moveToEnd 9 = .ok (.iload_n 3, 1) := by decide +kernel
theorem dX4_moveToEnd_10 : decode cX4_moveToEnd 10 = .ok (.iconst 1, 1) := by decide +kernel
theorem dX4_moveToEnd_11 : decode cX4_moveToEnd 11 = .ok (.iadd, 1) := by decide +kernel
theorem dX4_moveToEnd_12 : decode cX4_moveToEnd 12 = .ok (.aload_n 0, 1) := by decide +kernel
theorem dX4_moveToEnd_13 : decode cX4_moveToEnd 13 = .ok (.getfield 56, 3) := by decide +kernel
theorem dX4_moveToEnd_16 : decode cX4_moveToEnd 16 = .ok (.if_icmp .ge 23, 3) := by decide +kernel
theorem dX4_moveToEnd_19 : decode cX4_moveToEnd 19 = .ok (.aload_n 0, 1) := by decide +kernel
theorem dX4_moveToEnd_20 : decode cX4_moveToEnd 20 = .ok (.getfield 35, 3) := by decide +kernel
theorem dX4_moveToEnd_23 : decode cX4_moveToEnd 23 = .ok (.iload_n 3, 1) := by decide +kernel
theorem dX4_moveToEnd_24 : decode cX4_moveToEnd 24 = .ok (.aload_n 0, 1) := by decide +kernel
theorem dX4_moveToEnd_25 : decode cX4_moveToEnd 25 = .ok (.getfield 35, 3) := by decide +kernel
theorem dX4_moveToEnd_28 : decode cX4_moveToEnd 28 = .ok (.iload_n 3, 1) := by decide +kernel
theorem dX4_moveToEnd_29 : decode cX4_moveToEnd 29 = .ok (.iconst 1, 1) := by decide +kernel
theorem dX4_moveToEnd_30 : decode cX4_moveToEnd 30 = .ok (.iadd, 1) := by decide +kernel
theorem dX4_moveToEnd_31 : decode cX4_moveToEnd 31 = .ok (.iaload, 1) := by decide +kernel
theorem dX4_moveToEnd_32 : decode cX4_moveToEnd 32 = .ok (.iastore, 1) := by decide +kernel
theorem dX4_moveToEnd_33 : decode cX4_moveToEnd 33 = .ok (.iinc 3 1, 3) := by decide +kernel
theorem dX4_moveToEnd_36 : decode cX4_moveToEnd 36 = .ok (.goto (-27), 3) := by decide +kernel
theorem dX4_moveToEnd_39 : decode cX4_moveToEnd 39 = .ok (.aload_n 0, 1) := by decide +kernel
theorem dX4_moveToEnd_40 : decode cX4_moveToEnd 40 = .ok (.getfield 35, 3) := by decide +kernel
theorem dX4_moveToEnd_43 : decode cX4_moveToEnd 43 = .ok (.aload_n 0, 1) := by decide +kernel
theorem dX4_moveToEnd_44 : decode cX4_moveToEnd 44 = .ok (.getfield 56, 3) := by decide +kernel
theorem dX4_moveToEnd_47 : decode cX4_moveToEnd 47 = .ok (.iconst 1, 1) := by decide +kernel
theorem dX4_moveToEnd_48 : decode cX4_moveToEnd 48 = .ok (.isub, 1) := by decide +kernel
theorem dX4_moveToEnd_49 : decode cX4_moveToEnd 49 = .ok (.iload_n 2, 1) := by decide +kernel
theorem dX4_moveToEnd_50 : decode cX4_moveToEnd 50 = .ok (.iastore, 1) := by decide +kernel
theorem dX4_moveToEnd_51 : decode cX4_moveToEnd 51 = .ok (.return_, 1) := by decide +kernel
theorem dX4_taskFact_0 : decode cX4_taskFact 0 = .ok (.aload_n 0, 1) := by decide +kernel
theorem dX4_taskFact_1 : decode cX4_taskFact 1 = .ok (.getfield 25, 3) := by decide +kernel
theorem dX4_taskFact_4 : decode cX4_taskFact 4 = .ok (.iload_n 1, 1) := by decide +kernel
theorem dX4_taskFact_5 : decode cX4_taskFact 5 = .ok (.invokevirtual 84, 3) := by decide +kernel
theorem dX4_taskFact_8 : decode cX4_taskFact 8 = .ok (.ifCond .ne 6, 3) := by decide +kernel
theorem dX4_taskFact_11 : decode cX4_taskFact 11 = .ok (.bipush (-2), 2) := by decide +kernel
theorem dX4_taskFact_13 : decode cX4_taskFact 13 = .ok (.ireturn, 1) := by decide +kernel
theorem dX4_taskFact_14 : decode cX4_taskFact 14 = .ok (.iload_n 2, 1) := by decide +kernel
theorem dX4_taskFact_15 : decode cX4_taskFact 15 = .ok (.tableswitch 51 0 2 #[25, 35, 45], 25) := by decide +kernel
theorem dX4_taskFact_40 : decode cX4_taskFact 40 = .ok (.aload_n 0, 1) := by decide +kernel
theorem dX4_taskFact_41 : decode cX4_taskFact 41 = .ok (.getfield 25, 3) := by decide +kernel
theorem dX4_taskFact_44 : decode cX4_taskFact 44 = .ok (.getfield 93, 3) := by decide +kernel
theorem dX4_taskFact_47 : decode cX4_taskFact 47 = .ok (.iload_n 1, 1) := by decide +kernel
theorem dX4_taskFact_48 : decode cX4_taskFact 48 = .ok (.iaload, 1) := by decide +kernel
theorem dX4_taskFact_49 : decode cX4_taskFact 49 = .ok (.ireturn, 1) := by decide +kernel
theorem dX4_taskFact_50 : decode cX4_taskFact 50 = .ok (.aload_n 0, 1) := by decide +kernel
theorem dX4_taskFact_51 : decode cX4_taskFact 51 = .ok (.getfield 25, 3) := by decide +kernel
theorem dX4_taskFact_54 : decode cX4_taskFact 54 = .ok (.getfield 96, 3) := by decide +kernel
theorem dX4_taskFact_57 : decode cX4_taskFact 57 = .ok (.iload_n 1, 1) := by decide +kernel
theorem dX4_taskFact_58 : decode cX4_taskFact 58 = .ok (.iaload, 1) := by decide +kernel
theorem dX4_taskFact_59 : decode cX4_taskFact 59 = .ok (.ireturn, 1) := by decide +kernel
theorem dX4_taskFact_60 : decode cX4_taskFact 60 = .ok (.aload_n 0, 1) := by decide +kernel
theorem dX4_taskFact_61 : decode cX4_taskFact 61 = .ok (.iload_n 1, 1) := by decide +kernel
theorem dX4_taskFact_62 : decode cX4_taskFact 62 = .ok (.invokevirtual 129, 3) := by decide +kernel
theorem dX4_taskFact_65 : decode cX4_taskFact 65 = .ok (.ireturn, 1) := by decide +kernel
theorem dX4_taskFact_66 : decode cX4_taskFact 66 = .ok (.bipush (-2), 2) := by decide +kernel
theorem dX4_taskFact_68 : decode cX4_taskFact 68 = .ok (.ireturn, 1) := by decide +kernel
theorem dX4_groupFact_0 : decode cX4_groupFact 0 = .ok (.aload_n 0, 1) := by decide +kernel
theorem dX4_groupFact_1 : decode cX4_groupFact 1 = .ok (.iload_n 1, 1) := by decide +kernel
theorem dX4_groupFact_2 : decode cX4_groupFact 2 = .ok (.invokevirtual 77, 3) := by decide +kernel
theorem dX4_groupFact_5 : decode cX4_groupFact 5 = .ok (.ifCond .ne 6, 3) := by decide +kernel
theorem dX4_groupFact_8 : decode cX4_groupFact 8 = .ok (.bipush (-2), 2) := by decide +kernel
theorem dX4_groupFact_10 : decode cX4_groupFact 10 = .ok (.ireturn, 1) := by decide +kernel
theorem dX4_groupFact_11 : decode cX4_groupFact 11 = .ok (.aload_n 0, 1) := by decide +kernel
theorem dX4_groupFact_12 : decode cX4_groupFact 12 = .ok (.getfield 31, 3) := by decide +kernel
theorem dX4_groupFact_15 : decode cX4_groupFact 15 = .ok (.iload_n 1, 1) := by decide +kernel
theorem dX4_groupFact_16 : decode cX4_groupFact 16 = .ok (.aaload, 1) := by decide +kernel
theorem dX4_groupFact_17 : decode cX4_groupFact 17 = .ok (.astore_n 3, 1) := by decide +kernel
theorem dX4_groupFact_18 : decode cX4_groupFact 18 = .ok (.iload_n 2, 1) := by decide +kernel
theorem dX4_groupFact_19 : decode cX4_groupFact 19 = .ok (.tableswitch 125 0 10 #[57, 62, 67, 75, 83, 91, 96, 101, 106, 111, 117], 57) := by decide +kernel
theorem dX4_groupFact_76 : decode cX4_groupFact 76 = .ok (.aload_n 3, 1) := by decide +kernel
theorem dX4_groupFact_77 : decode cX4_groupFact 77 = .ok (.getfield 147, 3) := by decide +kernel
theorem dX4_groupFact_80 : decode cX4_groupFact 80 = .ok (.ireturn, 1) := by decide +kernel
theorem dX4_groupFact_81 : decode cX4_groupFact 81 = .ok (.aload_n 3, 1) := by decide +kernel
theorem dX4_groupFact_82 : decode cX4_groupFact 82 = .ok (.getfield 214, 3) := by decide +kernel
theorem dX4_groupFact_85 : decode cX4_groupFact 85 = .ok (.ireturn, 1) := by decide +kernel
theorem dX4_groupFact_86 : decode cX4_groupFact 86 = .ok (.aload_n 3, 1) := by decide +kernel
theorem dX4_groupFact_87 : decode cX4_groupFact 87 = .ok (.getfield 165, 3) := by decide +kernel
theorem dX4_groupFact_90 : decode cX4_groupFact 90 = .ok (.invokestatic 121, 3) := by decide +kernel
theorem dX4_groupFact_93 : decode cX4_groupFact 93 = .ok (.ireturn, 1) := by decide +kernel
theorem dX4_groupFact_94 : decode cX4_groupFact 94 = .ok (.aload_n 3, 1) := by decide +kernel
theorem dX4_groupFact_95 : decode cX4_groupFact 95 = .ok (.getfield 150, 3) := by decide +kernel
theorem dX4_groupFact_98 : decode cX4_groupFact 98 = .ok (.invokestatic 121, 3) := by decide +kernel
theorem dX4_groupFact_101 : decode cX4_groupFact 101 = .ok (.ireturn, 1) := by decide +kernel
theorem dX4_groupFact_102 : decode cX4_groupFact 102 = .ok (.aload_n 3, 1) := by decide +kernel
theorem dX4_groupFact_103 : decode cX4_groupFact 103 = .ok (.getfield 117, 3) := by decide +kernel
theorem dX4_groupFact_106 : decode cX4_groupFact 106 = .ok (.invokestatic 121, 3) := by decide +kernel
theorem dX4_groupFact_109 : decode cX4_groupFact 109 = .ok (.ireturn, 1) := by decide +kernel
theorem dX4_groupFact_110 : decode cX4_groupFact 110 = .ok (.aload_n 3, 1) := by decide +kernel
theorem dX4_groupFact_111 : decode cX4_groupFact 111 = .ok (.getfield 188, 3) := by decide +kernel
theorem dX4_groupFact_114 : decode cX4_groupFact 114 = .ok (.ireturn, 1) := by decide +kernel
theorem dX4_groupFact_115 : decode cX4_groupFact 115 = .ok (.aload_n 3, 1) := by decide +kernel
theorem dX4_groupFact_116 : decode cX4_groupFact 116 = .ok (.getfield 211, 3) := by decide +kernel
theorem dX4_groupFact_119 : decode cX4_groupFact 119 = .ok (.ireturn, 1) := by decide +kernel
theorem dX4_groupFact_120 : decode cX4_groupFact 120 = .ok (.aload_n 3, 1) := by decide +kernel
theorem dX4_groupFact_121 : decode cX4_groupFact 121 = .ok (.getfield 111, 3) := by decide +kernel
theorem dX4_groupFact_124 : decode cX4_groupFact 124 = .ok (.ireturn, 1) := by decide +kernel
theorem dX4_groupFact_125 : decode cX4_groupFact 125 = .ok (.aload_n 3, 1) := by decide +kernel
theorem dX4_groupFact_126 : decode cX4_groupFact 126 = .ok (.getfield 114, 3) := by decide +kernel
theorem dX4_groupFact_129 : decode cX4_groupFact 129 = .ok (.ireturn, 1) := by decide +kernel
theorem dX4_groupFact_130 : decode cX4_groupFact 130 = .ok (.aload_n 0, 1) := by decide +kernel
theorem dX4_groupFact_131 : decode cX4_groupFact 131 = .ok (.iload_n 1, 1) := by decide +kernel
theorem dX4_groupFact_132 : decode cX4_groupFact 132 = .ok (.invokevirtual 220, 3) := by decide +kernel
theorem dX4_groupFact_135 : decode cX4_groupFact 135 = .ok (.ireturn, 1) := by decide +kernel
theorem dX4_groupFact_136 : decode cX4_groupFact 136 = .ok (.aload_n 3, 1) := by decide +kernel
theorem dX4_groupFact_137 : decode cX4_groupFact 137 = .ok (.getfield 175, 3) := by decide +kernel
theorem dX4_groupFact_140 : decode cX4_groupFact 140 = .ok (.invokestatic 121, 3) := by decide +kernel
theorem dX4_groupFact_143 : decode cX4_groupFact 143 = .ok (.ireturn, 1) := by decide +kernel
theorem dX4_groupFact_144 : decode cX4_groupFact 144 = .ok (.bipush (-2), 2) := by decide +kernel
theorem dX4_groupFact_146 : decode cX4_groupFact 146 = .ok (.ireturn, 1) := by decide +kernel
theorem dX4_placeInLine_0 : decode cX4_placeInLine 0 = .ok (.iconst 0, 1) := by decide +kernel
theorem dX4_placeInLine_1 : decode cX4_placeInLine 1 = .ok (.istore_n 2, 1) := by decide +kernel
theorem dX4_placeInLine_2 : decode cX4_placeInLine 2 = .ok (.iload_n 2, 1) := by decide +kernel
theorem dX4_placeInLine_3 : decode cX4_placeInLine 3 = .ok (.aload_n 0, 1) := by decide +kernel
theorem dX4_placeInLine_4 : decode cX4_placeInLine 4 = .ok (.getfield 56, 3) := by decide +kernel
theorem dX4_placeInLine_7 : decode cX4_placeInLine 7 = .ok (.if_icmp .ge 21, 3) := by decide +kernel
theorem dX4_placeInLine_10 : decode cX4_placeInLine 10 = .ok (.aload_n 0, 1) := by decide +kernel
theorem dX4_placeInLine_11 : decode cX4_placeInLine 11 = .ok (.getfield 35, 3) := by decide +kernel
theorem dX4_placeInLine_14 : decode cX4_placeInLine 14 = .ok (.iload_n 2, 1) := by decide +kernel
theorem dX4_placeInLine_15 : decode cX4_placeInLine 15 = .ok (.iaload, 1) := by decide +kernel
theorem dX4_placeInLine_16 : decode cX4_placeInLine 16 = .ok (.iload_n 1, 1) := by decide +kernel
theorem dX4_placeInLine_17 : decode cX4_placeInLine 17 = .ok (.if_icmp .ne 5, 3) := by decide +kernel
theorem dX4_placeInLine_20 : decode cX4_placeInLine 20 = .ok (.iload_n 2, 1) := by decide +kernel
theorem dX4_placeInLine_21 : decode cX4_placeInLine 21 = .ok (.ireturn, 1) := by decide +kernel
theorem dX4_placeInLine_22 : decode cX4_placeInLine 22 = .ok (.iinc 2 1, 3) := by decide +kernel
theorem dX4_placeInLine_25 : decode cX4_placeInLine 25 = .ok (.goto (-23), 3) := by decide +kernel
theorem dX4_placeInLine_28 : decode cX4_placeInLine 28 = .ok (.iconst (-1), 1) := by decide +kernel
theorem dX4_placeInLine_29 : decode cX4_placeInLine 29 = .ok (.ireturn, 1) := by decide +kernel
theorem dX4_eventFact_0 : decode cX4_eventFact 0 = .ok (.aload_n 0, 1) := by decide +kernel
theorem dX4_eventFact_1 : decode cX4_eventFact 1 = .ok (.iload_n 1, 1) := by decide +kernel
theorem dX4_eventFact_2 : decode cX4_eventFact 2 = .ok (.iload_n 2, 1) := by decide +kernel
theorem dX4_eventFact_3 : decode cX4_eventFact 3 = .ok (.invokevirtual 223, 3) := by decide +kernel
theorem dX4_eventFact_6 : decode cX4_eventFact 6 = .ok (.ifCond .ne 6, 3) := by decide +kernel
theorem dX4_eventFact_9 : decode cX4_eventFact 9 = .ok (.bipush (-2), 2) := by decide +kernel
theorem dX4_eventFact_11 : decode cX4_eventFact 11 = .ok (.ireturn, 1) := by decide +kernel
theorem dX4_eventFact_12 : decode cX4_eventFact 12 = .ok (.iload_n 3, 1) := by decide +kernel
theorem dX4_eventFact_13 : decode cX4_eventFact 13 = .ok (.tableswitch 63 0 2 #[27, 39, 51], 27) := by decide +kernel
theorem dX4_eventFact_40 : decode cX4_eventFact 40 = .ok (.aload_n 0, 1) := by decide +kernel
theorem dX4_eventFact_41 : decode cX4_eventFact 41 = .ok (.getfield 31, 3) := by decide +kernel
theorem dX4_eventFact_44 : decode cX4_eventFact 44 = .ok (.iload_n 1, 1) := by decide +kernel
theorem dX4_eventFact_45 : decode cX4_eventFact 45 = .ok (.aaload, 1) := by decide +kernel
theorem dX4_eventFact_46 : decode cX4_eventFact 46 = .ok (.getfield 201, 3) := by decide +kernel
theorem dX4_eventFact_49 : decode cX4_eventFact 49 = .ok (.iload_n 2, 1) := by decide +kernel
theorem dX4_eventFact_50 : decode cX4_eventFact 50 = .ok (.iaload, 1) := by decide +kernel
theorem dX4_eventFact_51 : decode cX4_eventFact 51 = .ok (.ireturn, 1) := by decide +kernel
theorem dX4_eventFact_52 : decode cX4_eventFact 52 = .ok (.aload_n 0, 1) := by decide +kernel
theorem dX4_eventFact_53 : decode cX4_eventFact 53 = .ok (.getfield 31, 3) := by decide +kernel
theorem dX4_eventFact_56 : decode cX4_eventFact 56 = .ok (.iload_n 1, 1) := by decide +kernel
theorem dX4_eventFact_57 : decode cX4_eventFact 57 = .ok (.aaload, 1) := by decide +kernel
theorem dX4_eventFact_58 : decode cX4_eventFact 58 = .ok (.getfield 225, 3) := by decide +kernel
theorem dX4_eventFact_61 : decode cX4_eventFact 61 = .ok (.iload_n 2, 1) := by decide +kernel
theorem dX4_eventFact_62 : decode cX4_eventFact 62 = .ok (.iaload, 1) := by decide +kernel
theorem dX4_eventFact_63 : decode cX4_eventFact 63 = .ok (.ireturn, 1) := by decide +kernel
theorem dX4_eventFact_64 : decode cX4_eventFact 64 = .ok (.aload_n 0, 1) := by decide +kernel
theorem dX4_eventFact_65 : decode cX4_eventFact 65 = .ok (.getfield 31, 3) := by decide +kernel
theorem dX4_eventFact_68 : decode cX4_eventFact 68 = .ok (.iload_n 1, 1) := by decide +kernel
theorem dX4_eventFact_69 : decode cX4_eventFact 69 = .ok (.aaload, 1) := by decide +kernel
theorem dX4_eventFact_70 : decode cX4_eventFact 70 = .ok (.getfield 191, 3) := by decide +kernel
theorem dX4_eventFact_73 : decode cX4_eventFact 73 = .ok (.iload_n 2, 1) := by decide +kernel
theorem dX4_eventFact_74 : decode cX4_eventFact 74 = .ok (.iaload, 1) := by decide +kernel
theorem dX4_eventFact_75 : decode cX4_eventFact 75 = .ok (.ireturn, 1) := by decide +kernel
theorem dX4_eventFact_76 : decode cX4_eventFact 76 = .ok (.bipush (-2), 2) := by decide +kernel
theorem dX4_eventFact_78 : decode cX4_eventFact 78 = .ok (.ireturn, 1) := by decide +kernel
theorem dX4_countFact_0 : decode cX4_countFact 0 = .ok (.aload_n 0, 1) := by decide +kernel
theorem dX4_countFact_1 : decode cX4_countFact 1 = .ok (.iload_n 1, 1) := by decide +kernel
theorem dX4_countFact_2 : decode cX4_countFact 2 = .ok (.iload_n 2, 1) := by decide +kernel
theorem dX4_countFact_3 : decode cX4_countFact 3 = .ok (.invokevirtual 223, 3) := by decide +kernel
theorem dX4_countFact_6 : decode cX4_countFact 6 = .ok (.ifCond .eq 19, 3) := by decide +kernel
theorem dX4_countFact_9 : decode cX4_countFact 9 = .ok (.iload_n 3, 1) := by decide +kernel
theorem dX4_countFact_10 : decode cX4_countFact 10 = .ok (.iconst (-1), 1) := by decide +kernel
theorem dX4_countFact_11 : decode cX4_countFact 11 = .ok (.if_icmp .eq 17, 3) := by decide +kernel
theorem dX4_countFact_14 : decode cX4_countFact 14 = .ok (.aload_n 0, 1) := by decide +kernel
theorem dX4_countFact_15 : decode cX4_countFact 15 = .ok (.getfield 25, 3) := by decide +kernel
theorem dX4_countFact_18 : decode cX4_countFact 18 = .ok (.iload_n 3, 1) := by decide +kernel
theorem dX4_countFact_19 : decode cX4_countFact 19 = .ok (.invokevirtual 84, 3) := by decide +kernel
theorem dX4_countFact_22 : decode cX4_countFact 22 = .ok (.ifCond .ne 6, 3) := by decide +kernel
theorem dX4_countFact_25 : decode cX4_countFact 25 = .ok (.bipush (-2), 2) := by decide +kernel
theorem dX4_countFact_27 : decode cX4_countFact 27 = .ok (.ireturn, 1) := by decide +kernel
theorem dX4_countFact_28 : decode cX4_countFact 28 = .ok (.aload_n 0, 1) := by decide +kernel
theorem dX4_countFact_29 : decode cX4_countFact 29 = .ok (.getfield 31, 3) := by decide +kernel
theorem dX4_countFact_32 : decode cX4_countFact 32 = .ok (.iload_n 1, 1) := by decide +kernel
theorem dX4_countFact_33 : decode cX4_countFact 33 = .ok (.aaload, 1) := by decide +kernel
theorem dX4_countFact_34 : decode cX4_countFact 34 = .ok (.iload_n 2, 1) := by decide +kernel
theorem dX4_countFact_35 : decode cX4_countFact 35 = .ok (.iload_n 3, 1) := by decide +kernel
theorem dX4_countFact_36 : decode cX4_countFact 36 = .ok (.invokevirtual 228, 3) := by decide +kernel
theorem dX4_countFact_39 : decode cX4_countFact 39 = .ok (.ireturn, 1) := by decide +kernel
theorem dX4_timeFact_0 : decode cX4_timeFact 0 = .ok (.aload_n 0, 1) := by decide +kernel
theorem dX4_timeFact_1 : decode cX4_timeFact 1 = .ok (.iload_n 1, 1) := by decide +kernel
theorem dX4_timeFact_2 : decode cX4_timeFact 2 = .ok (.invokevirtual 77, 3) := by decide +kernel
theorem dX4_timeFact_5 : decode cX4_timeFact 5 = .ok (.ifCond .eq 28, 3) := by decide +kernel
theorem dX4_timeFact_8 : decode cX4_timeFact 8 = .ok (.iload_n 2, 1) := by decide +kernel
theorem dX4_timeFact_9 : decode cX4_timeFact 9 = .ok (.iconst (-1), 1) := by decide +kernel
theorem dX4_timeFact_10 : decode cX4_timeFact 10 = .ok (.if_icmp .eq 14, 3) := by decide +kernel
theorem dX4_timeFact_13 : decode cX4_timeFact 13 = .ok (.aload_n 0, 1) := by decide +kernel
theorem dX4_timeFact_14 : decode cX4_timeFact 14 = .ok (.getfield 25, 3) := by decide +kernel
theorem dX4_timeFact_17 : decode cX4_timeFact 17 = .ok (.iload_n 2, 1) := by decide +kernel
theorem dX4_timeFact_18 : decode cX4_timeFact 18 = .ok (.invokevirtual 84, 3) := by decide +kernel
theorem dX4_timeFact_21 : decode cX4_timeFact 21 = .ok (.ifCond .eq 12, 3) := by decide +kernel
theorem dX4_timeFact_24 : decode cX4_timeFact 24 = .ok (.iload_n 3, 1) := by decide +kernel
theorem dX4_timeFact_25 : decode cX4_timeFact 25 = .ok (.iconst 0, 1) := by decide +kernel
theorem dX4_timeFact_26 : decode cX4_timeFact 26 = .ok (.iconst 1, 1) := by decide +kernel
theorem dX4_timeFact_27 : decode cX4_timeFact 27 = .ok (.invokestatic 73, 3) := by decide +kernel
theorem dX4_timeFact_30 : decode cX4_timeFact 30 = .ok (.ifCond .ne 6, 3) := by decide +kernel
theorem dX4_timeFact_33 : decode cX4_timeFact 33 = .ok (.bipush (-2), 2) := by decide +kernel
theorem dX4_timeFact_35 : decode cX4_timeFact 35 = .ok (.ireturn, 1) := by decide +kernel
theorem dX4_timeFact_36 : decode cX4_timeFact 36 = .ok (.iload_n 3, 1) := by decide +kernel
theorem dX4_timeFact_37 : decode cX4_timeFact 37 = .ok (.ifCond .ne 16, 3) := by decide +kernel
theorem dX4_timeFact_40 : decode cX4_timeFact 40 = .ok (.aload_n 0, 1) := by decide +kernel
theorem dX4_timeFact_41 : decode cX4_timeFact 41 = .ok (.getfield 31, 3) := by decide +kernel
theorem dX4_timeFact_44 : decode cX4_timeFact 44 = .ok (.iload_n 1, 1) := by decide +kernel
theorem dX4_timeFact_45 : decode cX4_timeFact 45 = .ok (.aaload, 1) := by decide +kernel
theorem dX4_timeFact_46 : decode cX4_timeFact 46 = .ok (.iload_n 2, 1) := by decide +kernel
theorem dX4_timeFact_47 : decode cX4_timeFact 47 = .ok (.invokevirtual 231, 3) := by decide +kernel
theorem dX4_timeFact_50 : decode cX4_timeFact 50 = .ok (.goto 13, 3) := by decide +kernel
theorem dX4_timeFact_53 : decode cX4_timeFact 53 = .ok (.aload_n 0, 1) := by decide +kernel
theorem dX4_timeFact_54 : decode cX4_timeFact 54 = .ok (.getfield 31, 3) := by decide +kernel
theorem dX4_timeFact_57 : decode cX4_timeFact 57 = .ok (.iload_n 1, 1) := by decide +kernel
theorem dX4_timeFact_58 : decode cX4_timeFact 58 = .ok (.aaload, 1) := by decide +kernel
theorem dX4_timeFact_59 : decode cX4_timeFact 59 = .ok (.iload_n 2, 1) := by decide +kernel
theorem dX4_timeFact_60 : decode cX4_timeFact 60 = .ok (.invokevirtual 234, 3) := by decide +kernel
theorem dX4_timeFact_63 : decode cX4_timeFact 63 = .ok (.ireturn, 1) := by decide +kernel
theorem dX4_scaledFact_0 : decode cX4_scaledFact 0 = .ok (.aload_n 0, 1) := by decide +kernel
theorem dX4_scaledFact_1 : decode cX4_scaledFact 1 = .ok (.iload_n 1, 1) := by decide +kernel
theorem dX4_scaledFact_2 : decode cX4_scaledFact 2 = .ok (.iload_n 2, 1) := by decide +kernel
theorem dX4_scaledFact_3 : decode cX4_scaledFact 3 = .ok (.invokevirtual 223, 3) := by decide +kernel
theorem dX4_scaledFact_6 : decode cX4_scaledFact 6 = .ok (.ifCond .eq 12, 3) := by decide +kernel
theorem dX4_scaledFact_9 : decode cX4_scaledFact 9 = .ok (.iload_n 3, 1) := by decide +kernel
theorem dX4_scaledFact_10 : decode cX4_scaledFact 10 = .ok (.iconst 0, 1) := by decide +kernel
theorem dX4_scaledFact_11 : decode cX4_scaledFact 11 = .ok (.iconst 1, 1) := by decide +kernel
theorem dX4_scaledFact_12 : decode cX4_scaledFact 12 = .ok (.invokestatic 73, 3) := by decide +kernel
theorem dX4_scaledFact_15 : decode cX4_scaledFact 15 = .ok (.ifCond .ne 6, 3) := by decide +kernel
theorem dX4_scaledFact_18 : decode cX4_scaledFact 18 = .ok (.bipush (-2), 2) := by decide +kernel
theorem dX4_scaledFact_20 : decode cX4_scaledFact 20 = .ok (.ireturn, 1) := by decide +kernel
theorem dX4_scaledFact_21 : decode cX4_scaledFact 21 = .ok (.iload_n 3, 1) := by decide +kernel
theorem dX4_scaledFact_22 : decode cX4_scaledFact 22 = .ok (.ifCond .ne 16, 3) := by decide +kernel
theorem dX4_scaledFact_25 : decode cX4_scaledFact 25 = .ok (.aload_n 0, 1) := by decide +kernel
theorem dX4_scaledFact_26 : decode cX4_scaledFact 26 = .ok (.getfield 31, 3) := by decide +kernel
theorem dX4_scaledFact_29 : decode cX4_scaledFact 29 = .ok (.iload_n 1, 1) := by decide +kernel
theorem dX4_scaledFact_30 : decode cX4_scaledFact 30 = .ok (.aaload, 1) := by decide +kernel
theorem dX4_scaledFact_31 : decode cX4_scaledFact 31 = .ok (.iload_n 2, 1) := by decide +kernel
theorem dX4_scaledFact_32 : decode cX4_scaledFact 32 = .ok (.invokevirtual 237, 3) := by decide +kernel
theorem dX4_scaledFact_35 : decode cX4_scaledFact 35 = .ok (.goto 13, 3) := by decide +kernel
theorem dX4_scaledFact_38 : decode cX4_scaledFact 38 = .ok (.aload_n 0, 1) := by decide +kernel
theorem dX4_scaledFact_39 : decode cX4_scaledFact 39 = .ok (.getfield 31, 3) := by decide +kernel
theorem dX4_scaledFact_42 : decode cX4_scaledFact 42 = .ok (.iload_n 1, 1) := by decide +kernel
theorem dX4_scaledFact_43 : decode cX4_scaledFact 43 = .ok (.aaload, 1) := by decide +kernel
theorem dX4_scaledFact_44 : decode cX4_scaledFact 44 = .ok (.iload_n 2, 1) := by decide +kernel
theorem dX4_scaledFact_45 : decode cX4_scaledFact 45 = .ok (.invokevirtual 240, 3) := by decide +kernel
theorem dX4_scaledFact_48 : decode cX4_scaledFact 48 = .ok (.ireturn, 1) := by decide +kernel
theorem dX4_fitFact_0 : decode cX4_fitFact 0 = .ok (.iload_n 1, 1) := by decide +kernel
theorem dX4_fitFact_1 : decode cX4_fitFact 1 = .ok (.iconst 0, 1) := by decide +kernel
theorem dX4_fitFact_2 : decode cX4_fitFact 2 = .ok (.iconst 1, 1) := by decide +kernel
theorem dX4_fitFact_3 : decode cX4_fitFact 3 = .ok (.aload_n 0, 1) := by decide +kernel
theorem dX4_fitFact_4 : decode cX4_fitFact 4 = .ok (.getfield 53, 3) := by decide +kernel
theorem dX4_fitFact_7 : decode cX4_fitFact 7 = .ok (.ishl, 1) := by decide +kernel
theorem dX4_fitFact_8 : decode cX4_fitFact 8 = .ok (.iconst 1, 1) := by decide +kernel
theorem dX4_fitFact_9 : decode cX4_fitFact 9 = .ok (.isub, 1) := by decide +kernel
theorem dX4_fitFact_10 : decode cX4_fitFact 10 = .ok (.invokestatic 73, 3) := by decide +kernel
theorem dX4_fitFact_13 : decode cX4_fitFact 13 = .ok (.ifCond .ne 6, 3) := by decide +kernel
theorem dX4_fitFact_16 : decode cX4_fitFact 16 = .ok (.bipush (-2), 2) := by decide +kernel
theorem dX4_fitFact_18 : decode cX4_fitFact 18 = .ok (.ireturn, 1) := by decide +kernel
theorem dX4_fitFact_19 : decode cX4_fitFact 19 = .ok (.aload_n 0, 1) := by decide +kernel
theorem dX4_fitFact_20 : decode cX4_fitFact 20 = .ok (.getfield 45, 3) := by decide +kernel
theorem dX4_fitFact_23 : decode cX4_fitFact 23 = .ok (.aload_n 0, 1) := by decide +kernel
theorem dX4_fitFact_24 : decode cX4_fitFact 24 = .ok (.getfield 9, 3) := by decide +kernel
theorem dX4_fitFact_27 : decode cX4_fitFact 27 = .ok (.invokevirtual 157, 3) := by decide +kernel
theorem dX4_fitFact_30 : decode cX4_fitFact 30 = .ok (.iconst 0, 1) := by decide +kernel
theorem dX4_fitFact_31 : decode cX4_fitFact 31 = .ok (.istore_n 2, 1) := by decide +kernel
theorem dX4_fitFact_32 : decode cX4_fitFact 32 = .ok (.iload_n 2, 1) := by decide +kernel
theorem dX4_fitFact_33 : decode cX4_fitFact 33 = .ok (.aload_n 0, 1) := by decide +kernel
theorem dX4_fitFact_34 : decode cX4_fitFact 34 = .ok (.getfield 53, 3) := by decide +kernel
theorem dX4_fitFact_37 : decode cX4_fitFact 37 = .ok (.if_icmp .ge 39, 3) := by decide +kernel
theorem dX4_fitFact_40 : decode cX4_fitFact 40 = .ok (.iload_n 1, 1) := by decide +kernel
theorem dX4_fitFact_41 : decode cX4_fitFact 41 = .ok (.iload_n 2, 1) := by decide +kernel
theorem dX4_fitFact_42 : decode cX4_fitFact 42 = .ok (.invokestatic 168, 3) := by decide +kernel
theorem dX4_fitFact_45 : decode cX4_fitFact 45 = .ok (.ifCond .eq 25, 3) := by decide +kernel
theorem dX4_fitFact_48 : decode cX4_fitFact 48 = .ok (.aload_n 0, 1) := by decide +kernel
theorem dX4_fitFact_49 : decode cX4_fitFact 49 = .ok (.getfield 45, 3) := by decide +kernel
theorem dX4_fitFact_52 : decode cX4_fitFact 52 = .ok (.aload_n 0, 1) := by decide +kernel
theorem dX4_fitFact_53 : decode cX4_fitFact 53 = .ok (.getfield 31, 3) := by decide +kernel
theorem dX4_fitFact_56 : decode cX4_fitFact 56 = .ok (.iload_n 2, 1) := by decide +kernel
theorem dX4_fitFact_57 : decode cX4_fitFact 57 = .ok (.aaload, 1) := by decide +kernel
theorem dX4_fitFact_58 : decode cX4_fitFact 58 = .ok (.aload_n 0, 1) := by decide +kernel
theorem dX4_fitFact_59 : decode cX4_fitFact 59 = .ok (.getfield 18, 3) := by decide +kernel
theorem dX4_fitFact_62 : decode cX4_fitFact 62 = .ok (.invokevirtual 171, 3) := by decide +kernel
theorem dX4_fitFact_65 : decode cX4_fitFact 65 = .ok (.ifCond .ne 5, 3) := by decide +kernel
theorem dX4_fitFact_68 : decode cX4_fitFact 68 = .ok (.iconst 0, 1) := by decide +kernel
theorem dX4_fitFact_69 : decode cX4_fitFact 69 = .ok (.ireturn, 1) := by decide +kernel
theorem dX4_fitFact_70 : decode cX4_fitFact 70 = .ok (.iinc 2 1, 3) := by decide +kernel
theorem dX4_fitFact_73 : decode cX4_fitFact 73 = .ok (.goto (-41), 3) := by decide +kernel
theorem dX4_fitFact_76 : decode cX4_fitFact 76 = .ok (.iconst 1, 1) := by decide +kernel
theorem dX4_fitFact_77 : decode cX4_fitFact 77 = .ok (.ireturn, 1) := by decide +kernel
theorem dX4_queueFact_0 : decode cX4_queueFact 0 = .ok (.iload_n 1, 1) := by decide +kernel
theorem dX4_queueFact_1 : decode cX4_queueFact 1 = .ok (.ifCond .ge 6, 3) := by decide +kernel
theorem dX4_queueFact_4 : decode cX4_queueFact 4 = .ok (.bipush (-2), 2) := by decide +kernel
theorem dX4_queueFact_6 : decode cX4_queueFact 6 = .ok (.ireturn, 1) := by decide +kernel
theorem dX4_queueFact_7 : decode cX4_queueFact 7 = .ok (.iload_n 1, 1) := by decide +kernel
theorem dX4_queueFact_8 : decode cX4_queueFact 8 = .ok (.aload_n 0, 1) := by decide +kernel
theorem dX4_queueFact_9 : decode cX4_queueFact 9 = .ok (.getfield 56, 3) := by decide +kernel
theorem dX4_queueFact_12 : decode cX4_queueFact 12 = .ok (.if_icmp .ge 12, 3) := by decide +kernel
theorem dX4_queueFact_15 : decode cX4_queueFact 15 = .ok (.aload_n 0, 1) := by decide +kernel
theorem dX4_queueFact_16 : decode cX4_queueFact 16 = .ok (.getfield 35, 3) := by decide +kernel
theorem dX4_queueFact_19 : decode cX4_queueFact 19 = .ok (.iload_n 1, 1) := by decide +kernel
theorem dX4_queueFact_20 : decode cX4_queueFact 20 = .ok (.iaload, 1) := by decide +kernel
theorem dX4_queueFact_21 : decode cX4_queueFact 21 = .ok (.goto 4, 3) := by decide +kernel
theorem dX4_queueFact_24 : decode cX4_queueFact 24 = .ok (.iconst (-1), 1) := by decide +kernel
theorem dX4_queueFact_25 : decode cX4_queueFact 25 = .ok (.ireturn, 1) := by decide +kernel
theorem dX4_wholeFact_0 : decode cX4_wholeFact 0 = .ok (.iload_n 1, 1) := by decide +kernel
theorem dX4_wholeFact_1 : decode cX4_wholeFact 1 = .ok (.tableswitch 108 0 8 #[51, 56, 64, 69, 74, 82, 90, 98, 103], 51) := by decide +kernel
theorem dX4_wholeFact_52 : decode cX4_wholeFact 52 = .ok (.aload_n 0, 1) := by decide +kernel
theorem dX4_wholeFact_53 : decode cX4_wholeFact 53 = .ok (.getfield 9, 3) := by decide +kernel
theorem dX4_wholeFact_56 : decode cX4_wholeFact 56 = .ok (.ireturn, 1) := by decide +kernel
theorem dX4_wholeFact_57 : decode cX4_wholeFact 57 = .ok (.aload_n 0, 1) := by decide +kernel
theorem dX4_wholeFact_58 : decode cX4_wholeFact 58 = .ok (.getfield 25, 3) := by decide +kernel
theorem dX4_wholeFact_61 : decode cX4_wholeFact 61 = .ok (.getfield 243, 3) := by decide +kernel
theorem dX4_wholeFact_64 : decode cX4_wholeFact 64 = .ok (.ireturn, 1) := by decide +kernel
theorem dX4_wholeFact_65 : decode cX4_wholeFact 65 = .ok (.aload_n 0, 1) := by decide +kernel
theorem dX4_wholeFact_66 : decode cX4_wholeFact 66 = .ok (.getfield 53, 3) := by decide +kernel
theorem dX4_wholeFact_69 : decode cX4_wholeFact 69 = .ok (.ireturn, 1) := by decide +kernel
theorem dX4_wholeFact_70 : decode cX4_wholeFact 70 = .ok (.aload_n 0, 1) := by decide +kernel
theorem dX4_wholeFact_71 : decode cX4_wholeFact 71 = .ok (.getfield 50, 3) := by decide +kernel
theorem dX4_wholeFact_74 : decode cX4_wholeFact 74 = .ok (.ireturn, 1) := by decide +kernel
theorem dX4_wholeFact_75 : decode cX4_wholeFact 75 = .ok (.aload_n 0, 1) := by decide +kernel
theorem dX4_wholeFact_76 : decode cX4_wholeFact 76 = .ok (.getfield 41, 3) := by decide +kernel
theorem dX4_wholeFact_79 : decode cX4_wholeFact 79 = .ok (.getfield 244, 3) := by decide +kernel
theorem dX4_wholeFact_82 : decode cX4_wholeFact 82 = .ok (.ireturn, 1) := by decide +kernel
theorem dX4_wholeFact_83 : decode cX4_wholeFact 83 = .ok (.aload_n 0, 1) := by decide +kernel
theorem dX4_wholeFact_84 : decode cX4_wholeFact 84 = .ok (.getfield 41, 3) := by decide +kernel
theorem dX4_wholeFact_87 : decode cX4_wholeFact 87 = .ok (.getfield 247, 3) := by decide +kernel
theorem dX4_wholeFact_90 : decode cX4_wholeFact 90 = .ok (.ireturn, 1) := by decide +kernel
theorem dX4_wholeFact_91 : decode cX4_wholeFact 91 = .ok (.aload_n 0, 1) := by decide +kernel
theorem dX4_wholeFact_92 : decode cX4_wholeFact 92 = .ok (.getfield 41, 3) := by decide +kernel
theorem dX4_wholeFact_95 : decode cX4_wholeFact 95 = .ok (.getfield 250, 3) := by decide +kernel
theorem dX4_wholeFact_98 : decode cX4_wholeFact 98 = .ok (.ireturn, 1) := by decide +kernel
theorem dX4_wholeFact_99 : decode cX4_wholeFact 99 = .ok (.aload_n 0, 1) := by decide +kernel
theorem dX4_wholeFact_100 : decode cX4_wholeFact 100 = .ok (.invokevirtual 253, 3) := by decide +kernel
theorem dX4_wholeFact_103 : decode cX4_wholeFact 103 = .ok (.ireturn, 1) := by decide +kernel
theorem dX4_wholeFact_104 : decode cX4_wholeFact 104 = .ok (.aload_n 0, 1) := by decide +kernel
theorem dX4_wholeFact_105 : decode cX4_wholeFact 105 = .ok (.getfield 15, 3) := by decide +kernel
theorem dX4_wholeFact_108 : decode cX4_wholeFact 108 = .ok (.ireturn, 1) := by decide +kernel
theorem dX4_wholeFact_109 : decode cX4_wholeFact 109 = .ok (.bipush (-2), 2) := by decide +kernel
theorem dX4_wholeFact_111 : decode cX4_wholeFact 111 = .ok (.ireturn, 1) := by decide +kernel
theorem dX4_groupsOn_0 : decode cX4_groupsOn 0 = .ok (.iconst 0, 1) := by decide +kernel
theorem dX4_groupsOn_1 : decode cX4_groupsOn 1 = .ok (.istore_n 1, 1) := by decide +kernel
theorem dX4_groupsOn_2 : decode cX4_groupsOn 2 = .ok (.iconst 0, 1) := by decide +kernel
theorem dX4_groupsOn_3 : decode cX4_groupsOn 3 = .ok (.istore_n 2, 1) := by decide +kernel
theorem dX4_groupsOn_4 : decode cX4_groupsOn 4 = .ok (.iload_n 2, 1) := by decide +kernel
theorem dX4_groupsOn_5 : decode cX4_groupsOn 5 = .ok (.aload_n 0, 1) := by decide +kernel
theorem dX4_groupsOn_6 : decode cX4_groupsOn 6 = .ok (.getfield 53, 3) := by decide +kernel
theorem dX4_groupsOn_9 : decode cX4_groupsOn 9 = .ok (.if_icmp .ge 26, 3) := by decide +kernel
theorem dX4_groupsOn_12 : decode cX4_groupsOn 12 = .ok (.iload_n 1, 1) := by decide +kernel
theorem dX4_groupsOn_13 : decode cX4_groupsOn 13 = .ok (.aload_n 0, 1) := by decide +kernel
theorem dX4_groupsOn_14 : decode cX4_groupsOn 14 = .ok (.getfield 31, 3) := by decide +kernel
theorem dX4_groupsOn_17 : decode cX4_groupsOn 17 = .ok (.iload_n 2, 1) := by decide +kernel
theorem dX4_groupsOn_18 : decode cX4_groupsOn 18 = .ok (.aaload, 1) := by decide +kernel
theorem dX4_groupsOn_19 : decode cX4_groupsOn 19 = .ok (.getfield 175, 3) := by decide +kernel
theorem dX4_groupsOn_22 : decode cX4_groupsOn 22 = .ok (.invokestatic 121, 3) := by decide +kernel
theorem dX4_groupsOn_25 : decode cX4_groupsOn 25 = .ok (.iload_n 2, 1) := by decide +kernel
theorem dX4_groupsOn_26 : decode cX4_groupsOn 26 = .ok (.ishl, 1) := by decide +kernel
theorem dX4_groupsOn_27 : decode cX4_groupsOn 27 = .ok (.ior, 1) := by decide +kernel
theorem dX4_groupsOn_28 : decode cX4_groupsOn 28 = .ok (.istore_n 1, 1) := by decide +kernel
theorem dX4_groupsOn_29 : decode cX4_groupsOn 29 = .ok (.iinc 2 1, 3) := by decide +kernel
theorem dX4_groupsOn_32 : decode cX4_groupsOn 32 = .ok (.goto (-28), 3) := by decide +kernel
theorem dX4_groupsOn_35 : decode cX4_groupsOn 35 = .ok (.iload_n 1, 1) := by decide +kernel
theorem dX4_groupsOn_36 : decode cX4_groupsOn 36 = .ok (.ireturn, 1) := by decide +kernel
theorem dX5_init_0 : decode cX5_init 0 = .ok (.aload_n 0, 1) := by decide +kernel
theorem dX5_init_1 : decode cX5_init 1 = .ok (.invokespecial 3, 3) := by decide +kernel
theorem dX5_init_4 : decode cX5_init 4 = .ok (.aload_n 0, 1) := by decide +kernel
theorem dX5_init_5 : decode cX5_init 5 = .ok (.iconst 1, 1) := by decide +kernel
theorem dX5_init_6 : decode cX5_init 6 = .ok (.putfield 9, 3) := by decide +kernel
theorem dX5_init_9 : decode cX5_init 9 = .ok (.aload_n 0, 1) := by decide +kernel
theorem dX5_init_10 : decode cX5_init 10 = .ok (.bipush 6, 2) := by decide +kernel
theorem dX5_init_12 : decode cX5_init 12 = .ok (.newarray .int, 2) := by decide +kernel
theorem dX5_init_14 : decode cX5_init 14 = .ok (.putfield 15, 3) := by decide +kernel
theorem dX5_init_17 : decode cX5_init 17 = .ok (.aload_n 0, 1) := by decide +kernel
theorem dX5_init_18 : decode cX5_init 18 = .ok (.bipush 6, 2) := by decide +kernel
theorem dX5_init_20 : decode cX5_init 20 = .ok (.newarray .int, 2) := by decide +kernel
theorem dX5_init_22 : decode cX5_init 22 = .ok (.putfield 19, 3) := by decide +kernel
theorem dX5_init_25 : decode cX5_init 25 = .ok (.aload_n 0, 1) := by decide +kernel
theorem dX5_init_26 : decode cX5_init 26 = .ok (.bipush 48, 2) := by decide +kernel
theorem dX5_init_28 : decode cX5_init 28 = .ok (.newarray .int, 2) := by decide +kernel
theorem dX5_init_30 : decode cX5_init 30 = .ok (.putfield 22, 3) := by decide +kernel
theorem dX5_init_33 : decode cX5_init 33 = .ok (.aload_n 0, 1) := by decide +kernel
theorem dX5_init_34 : decode cX5_init 34 = .ok (.getfield 15, 3) := by decide +kernel
theorem dX5_init_37 : decode cX5_init 37 = .ok (.iconst 0, 1) := by decide +kernel
theorem dX5_init_38 : decode cX5_init 38 = .ok (.iconst (-1), 1) := by decide +kernel
theorem dX5_init_39 : decode cX5_init 39 = .ok (.iastore, 1) := by decide +kernel
theorem dX5_init_40 : decode cX5_init 40 = .ok (.return_, 1) := by decide +kernel
theorem dX5_become_0 : decode cX5_become 0 = .ok (.aload_n 0, 1) := by decide +kernel
theorem dX5_become_1 : decode cX5_become 1 = .ok (.aload_n 1, 1) := by decide +kernel
theorem dX5_become_2 : decode cX5_become 2 = .ok (.getfield 9, 3) := by decide +kernel
theorem dX5_become_5 : decode cX5_become 5 = .ok (.putfield 9, 3) := by decide +kernel
theorem dX5_become_8 : decode cX5_become 8 = .ok (.aload_n 1, 1) := by decide +kernel
theorem dX5_become_9 : decode cX5_become 9 = .ok (.getfield 15, 3) := by decide +kernel
theorem dX5_become_12 : decode cX5_become 12 = .ok (.aload_n 0, 1) := by decide +kernel
theorem dX5_become_13 : decode cX5_become 13 = .ok (.getfield 15, 3) := by decide +kernel
theorem dX5_become_16 : decode cX5_become 16 = .ok (.invokestatic 25, 3) := by decide +kernel
theorem dX5_become_19 : decode cX5_become 19 = .ok (.aload_n 1, 1) := by decide +kernel
theorem dX5_become_20 : decode cX5_become 20 = .ok (.getfield 19, 3) := by decide +kernel
theorem dX5_become_23 : decode cX5_become 23 = .ok (.aload_n 0, 1) := by decide +kernel
theorem dX5_become_24 : decode cX5_become 24 = .ok (.getfield 19, 3) := by decide +kernel
theorem dX5_become_27 : decode cX5_become 27 = .ok (.invokestatic 25, 3) := by decide +kernel
theorem dX5_become_30 : decode cX5_become 30 = .ok (.aload_n 1, 1) := by decide +kernel
theorem dX5_become_31 : decode cX5_become 31 = .ok (.getfield 22, 3) := by decide +kernel
theorem dX5_become_34 : decode cX5_become 34 = .ok (.aload_n 0, 1) := by decide +kernel
theorem dX5_become_35 : decode cX5_become 35 = .ok (.getfield 22, 3) := by decide +kernel
theorem dX5_become_38 : decode cX5_become 38 = .ok (.invokestatic 25, 3) := by decide +kernel
theorem dX5_become_41 : decode cX5_become 41 = .ok (.return_, 1) := by decide +kernel
theorem dX5_has_0 : decode cX5_has 0 = .ok (.iload_n 1, 1) := by decide +kernel
theorem dX5_has_1 : decode cX5_has 1 = .ok (.iconst 0, 1) := by decide +kernel
theorem dX5_has_2 : decode cX5_has 2 = .ok (.aload_n 0, 1) := by decide +kernel
theorem dX5_has_3 : decode cX5_has 3 = .ok (.getfield 9, 3) := by decide +kernel
theorem dX5_has_6 : decode cX5_has 6 = .ok (.iconst 1, 1) := by decide +kernel
theorem dX5_has_7 : decode cX5_has 7 = .ok (.isub, 1) := by decide +kernel
theorem dX5_has_8 : decode cX5_has 8 = .ok (.invokestatic 29, 3) := by decide +kernel
theorem dX5_has_11 : decode cX5_has 11 = .ok (.ireturn, 1) := by decide +kernel
theorem dX5_hasEnded_0 : decode cX5_hasEnded 0 = .ok (.aload_n 0, 1) := by decide +kernel
theorem dX5_hasEnded_1 : decode cX5_hasEnded 1 = .ok (.getfield 19, 3) := by decide +kernel
theorem dX5_hasEnded_4 : decode cX5_hasEnded 4 = .ok (.iload_n 1, 1) := by decide +kernel
theorem dX5_hasEnded_5 : decode cX5_hasEnded 5 = .ok (.iaload, 1) := by decide +kernel
theorem dX5_hasEnded_6 : decode cX5_hasEnded 6 = .ok (.iconst 1, 1) := by decide +kernel
theorem dX5_hasEnded_7 : decode cX5_hasEnded 7 = .ok (.if_icmp .ne 7, 3) := by decide +kernel
theorem dX5_hasEnded_10 : decode cX5_hasEnded 10 = .ok (.iconst 1, 1) := by decide +kernel
theorem dX5_hasEnded_11 : decode cX5_hasEnded 11 = .ok (.goto 4, 3) := by decide +kernel
theorem dX5_hasEnded_14 : decode cX5_hasEnded 14 = .ok (.iconst 0, 1) := by decide +kernel
theorem dX5_hasEnded_15 : decode cX5_hasEnded 15 = .ok (.ireturn, 1) := by decide +kernel
theorem dX5_rateOf_0 : decode cX5_rateOf 0 = .ok (.aload_n 0, 1) := by decide +kernel
theorem dX5_rateOf_1 : decode cX5_rateOf 1 = .ok (.getfield 22, 3) := by decide +kernel
theorem dX5_rateOf_4 : decode cX5_rateOf 4 = .ok (.iload_n 1, 1) := by decide +kernel
theorem dX5_rateOf_5 : decode cX5_rateOf 5 = .ok (.bipush 8, 2) := by decide +kernel
theorem dX5_rateOf_7 : decode cX5_rateOf 7 = .ok (.imul, 1) := by decide +kernel
theorem dX5_rateOf_8 : decode cX5_rateOf 8 = .ok (.iload_n 2, 1) := by decide +kernel
theorem dX5_rateOf_9 : decode cX5_rateOf 9 = .ok (.iadd, 1) := by decide +kernel
theorem dX5_rateOf_10 : decode cX5_rateOf 10 = .ok (.iaload, 1) := by decide +kernel
theorem dX5_rateOf_11 : decode cX5_rateOf 11 = .ok (.ireturn, 1) := by decide +kernel
theorem dX5_putRate_0 : decode cX5_putRate 0 = .ok (.aload_n 0, 1) := by decide +kernel
theorem dX5_putRate_1 : decode cX5_putRate 1 = .ok (.iload_n 1, 1) := by decide +kernel
theorem dX5_putRate_2 : decode cX5_putRate 2 = .ok (.invokevirtual 33, 3) := by decide +kernel
theorem dX5_putRate_5 : decode cX5_putRate 5 = .ok (.ifCond .eq 23, 3) := by decide +kernel
theorem dX5_putRate_8 : decode cX5_putRate 8 = .ok (.iload_n 2, 1) := by decide +kernel
theorem dX5_putRate_9 : decode cX5_putRate 9 = .ok (.iconst 0, 1) := by decide +kernel
theorem dX5_putRate_10 : decode cX5_putRate 10 = .ok (.bipush 7, 2) := by decide +kernel
theorem dX5_putRate_12 : decode cX5_putRate 12 = .ok (.invokestatic 29, 3) := by decide +kernel
theorem dX5_putRate_15 : decode cX5_putRate 15 = .ok (.ifCond .eq 13, 3) := by decide +kernel
theorem dX5_putRate_18 : decode cX5_putRate 18 = .ok (.iload_n 3, 1) := by decide +kernel
theorem dX5_putRate_19 : decode cX5_putRate 19 = .ok (.iconst 0, 1) := by decide +kernel
theorem dX5_putRate_20 : decode cX5_putRate 20 = .ok (.bipush 99, 2) := by decide +kernel
theorem dX5_putRate_22 : decode cX5_putRate 22 = .ok (.invokestatic 29, 3) := by decide +kernel
theorem dX5_putRate_25 : decode cX5_putRate 25 = .ok (.ifCond .ne 6, 3) := by decide +kernel
theorem dX5_putRate_28 : decode cX5_putRate 28 = .ok (.bipush (-2), 2) := by decide +kernel
theorem dX5_putRate_30 : decode cX5_putRate 30 = .ok (.ireturn, 1) := by decide +kernel
theorem dX5_putRate_31 : decode cX5_putRate 31 = .ok (.aload_n 0, 1) := by decide +kernel
theorem dX5_putRate_32 : decode cX5_putRate 32 = .ok (.iload_n 1, 1) := by decide +kernel
theorem dX5_putRate_33 : decode cX5_putRate 33 = .ok (.iload_n 2, 1) := by decide +kernel
theorem dX5_putRate_34 : decode cX5_putRate 34 = .ok (.invokevirtual 37, 3) := by decide +kernel
theorem dX5_putRate_37 : decode cX5_putRate 37 = .ok (.istore 4, 2) := by decide +kernel
theorem dX5_putRate_39 : decode cX5_putRate 39 = .ok (.aload_n 0, 1) := by decide +kernel
theorem dX5_putRate_40 : decode cX5_putRate 40 = .ok (.getfield 22, 3) := by decide +kernel
theorem dX5_putRate_43 : decode cX5_putRate 43 = .ok (.iload_n 1, 1) := by decide +kernel
theorem dX5_putRate_44 : decode cX5_putRate 44 = .ok (.bipush 8, 2) := by decide +kernel
theorem dX5_putRate_46 : decode cX5_putRate 46 = .ok (.imul, 1) := by decide +kernel
theorem dX5_putRate_47 : decode cX5_putRate 47 = .ok (.iload_n 2, 1) := by decide +kernel
theorem dX5_putRate_48 : decode cX5_putRate 48 = .ok (.iadd, 1) := by decide +kernel
theorem dX5_putRate_49 : decode cX5_putRate 49 = .ok (.iload_n 3, 1) := by decide +kernel
theorem dX5_putRate_50 : decode cX5_putRate 50 = .ok (.iastore, 1) := by decide +kernel
theorem dX5_putRate_51 : decode cX5_putRate 51 = .ok (.iload 4, 2) := by decide +kernel
theorem dX5_putRate_53 : decode cX5_putRate 53 = .ok (.ireturn, 1) := by decide +kernel
theorem dX5_fork_0 : decode cX5_fork 0 = .ok (.aload_n 0, 1) := by decide +kernel
theorem dX5_fork_1 : decode cX5_fork 1 = .ok (.iload_n 1, 1) := by decide +kernel
theorem dX5_fork_2 : decode cX5_fork 2 = .ok (.invokevirtual 33, 3) := by decide +kernel
theorem dX5_fork_5 : decode cX5_fork 5 = .ok (.ifCond .ne 6, 3) := by decide +kernel
theorem dX5_fork_8 : decode cX5_fork 8 = .ok (.bipush (-2), 2) := by decide +kernel
theorem dX5_fork_10 : decode cX5_fork 10 = .ok (.ireturn, 1) := by decide +kernel
theorem dX5_fork_11 : decode cX5_fork 11 = .ok (.aload_n 0, 1) := by decide +kernel
theorem dX5_fork_12 : decode cX5_fork 12 = .ok (.iload_n 1, 1) := by decide +kernel
theorem dX5_fork_13 : decode cX5_fork 13 = .ok (.invokevirtual 41, 3) := by decide +kernel
theorem dX5_fork_16 : decode cX5_fork 16 = .ok (.ifCond .eq 6, 3) := by decide +kernel
theorem dX5_fork_19 : decode cX5_fork 19 = .ok (.bipush (-3), 2) := by decide +kernel
theorem dX5_fork_21 : decode cX5_fork 21 = .ok (.ireturn, 1) := by decide +kernel
theorem dX5_fork_22 : decode cX5_fork 22 = .ok (.aload_n 0, 1) := by decide +kernel
theorem dX5_fork_23 : decode cX5_fork 23 = .ok (.getfield 9, 3) := by decide +kernel
theorem dX5_fork_26 : decode cX5_fork 26 = .ok (.bipush 6, 2) := by decide +kernel
theorem dX5_fork_28 : decode cX5_fork 28 = .ok (.if_icmp .lt 6, 3) := by decide +kernel
theorem dX5_fork_31 : decode cX5_fork 31 = .ok (.bipush (-4), 2) := by decide +kernel
theorem dX5_fork_33 : decode cX5_fork 33 = .ok (.ireturn, 1) := by decide +kernel
theorem dX5_fork_34 : decode cX5_fork 34 = .ok (.aload_n 0, 1) := by decide +kernel
theorem dX5_fork_35 : decode cX5_fork 35 = .ok (.getfield 9, 3) := by decide +kernel
theorem dX5_fork_38 : decode cX5_fork 38 = .ok (.istore_n 2, 1) := by decide +kernel
theorem dX5_fork_39 : decode cX5_fork 39 = .ok (.aload_n 0, 1) := by decide +kernel
theorem dX5_fork_40 : decode cX5_fork 40 = .ok (.dup, 1) := by decide +kernel
theorem dX5_fork_41 : decode cX5_fork 41 = .ok (.getfield 9, 3) := by decide +kernel
theorem dX5_fork_44 : decode cX5_fork 44 = .ok (.iconst 1, 1) := by decide +kernel
theorem dX5_fork_45 : decode cX5_fork 45 = .ok (.iadd, 1) := by decide +kernel
theorem dX5_fork_46 : decode cX5_fork 46 = .ok (.putfield 9, 3) := by decide +kernel
theorem dX5_fork_49 : decode cX5_fork 49 = .ok (.aload_n 0, 1) := by decide +kernel
theorem dX5_fork_50 : decode cX5_fork 50 = .ok (.getfield 15, 3) := by decide +kernel
theorem dX5_fork_53 : decode cX5_fork 53 = .ok (.iload_n 2, 1) := by decide +kernel
theorem dX5_fork_54 : decode cX5_fork 54 = .ok (.iload_n 1, 1) := by decide +kernel
theorem dX5_fork_55 : decode cX5_fork 55 = .ok (.iastore, 1) := by decide +kernel
theorem dX5_fork_56 : decode cX5_fork 56 = .ok (.aload_n 0, 1) := by decide +kernel
theorem dX5_fork_57 : decode cX5_fork 57 = .ok (.getfield 19, 3) := by decide +kernel
theorem dX5_fork_60 : decode cX5_fork 60 = .ok (.iload_n 2, 1) := by decide +kernel
theorem dX5_fork_61 : decode cX5_fork 61 = .ok (.iconst 0, 1) := by decide +kernel
theorem dX5_fork_62 : decode cX5_fork 62 = .ok (.iastore, 1) := by decide +kernel
theorem dX5_fork_63 : decode cX5_fork 63 = .ok (.aload_n 0, 1) := by decide +kernel
theorem dX5_fork_64 : decode cX5_fork 64 = .ok (.getfield 22, 3) := by decide +kernel
theorem dX5_fork_67 : decode cX5_fork 67 = .ok (.iload_n 1, 1) := by decide +kernel
theorem dX5_fork_68 : decode cX5_fork 68 = .ok (.bipush 8, 2) := by decide +kernel
theorem dX5_fork_70 : decode cX5_fork 70 = .ok (.imul, 1) := by decide +kernel
theorem dX5_fork_71 : decode cX5_fork 71 = .ok (.aload_n 0, 1) := by decide +kernel
theorem dX5_fork_72 : decode cX5_fork 72 = .ok (.getfield 22, 3) := by decide +kernel
theorem dX5_fork_75 : decode cX5_fork 75 = .ok (.iload_n 2, 1) := by decide +kernel
theorem dX5_fork_76 : decode cX5_fork 76 = .ok (.bipush 8, 2) := by decide +kernel
theorem dX5_fork_78 : decode cX5_fork 78 = .ok (.imul, 1) := by decide +kernel
theorem dX5_fork_79 : decode cX5_fork 79 = .ok (.bipush 8, 2) := by decide +kernel
theorem dX5_fork_81 : decode cX5_fork 81 = .ok (.invokestatic 44, 3) := by decide +kernel
theorem dX5_fork_84 : decode cX5_fork 84 = .ok (.iload_n 2, 1) := by decide +kernel
theorem dX5_fork_85 : decode cX5_fork 85 = .ok (.ireturn, 1) := by decide +kernel
theorem dX5_hasOpenChild_0 : decode cX5_hasOpenChild 0 = .ok (.iload_n 1, 1) := by decide +kernel
theorem dX5_hasOpenChild_1 : decode cX5_hasOpenChild 1 = .ok (.iconst 1, 1) := by decide +kernel
theorem dX5_hasOpenChild_2 : decode cX5_hasOpenChild 2 = .ok (.iadd, 1) := by decide +kernel
theorem dX5_hasOpenChild_3 : decode cX5_hasOpenChild 3 = .ok (.istore_n 2, 1) := by decide +kernel
theorem dX5_hasOpenChild_4 : decode cX5_hasOpenChild 4 = .ok (.iload_n 2, 1) := by decide +kernel
theorem dX5_hasOpenChild_5 : decode cX5_hasOpenChild 5 = .ok (.aload_n 0, 1) := by decide +kernel
theorem dX5_hasOpenChild_6 : decode cX5_hasOpenChild 6 = .ok (.getfield 9, 3) := by decide +kernel
theorem dX5_hasOpenChild_9 : decode cX5_hasOpenChild 9 = .ok (.if_icmp .ge 29, 3) := by decide +kernel
theorem dX5_hasOpenChild_12 : decode cX5_hasOpenChild 12 = .ok (.aload_n 0, 1) := by decide +kernel
theorem dX5_hasOpenChild_13 : decode cX5_hasOpenChild 13 = .ok (.getfield 15, 3) := by decide +kernel
theorem dX5_hasOpenChild_16 : decode cX5_hasOpenChild 16 = .ok (.iload_n 2, 1) := by decide +kernel
theorem dX5_hasOpenChild_17 : decode cX5_hasOpenChild 17 = .ok (.iaload, 1) := by decide +kernel
theorem dX5_hasOpenChild_18 : decode cX5_hasOpenChild 18 = .ok (.iload_n 1, 1) := by decide +kernel
theorem dX5_hasOpenChild_19 : decode cX5_hasOpenChild 19 = .ok (.if_icmp .ne 13, 3) := by decide +kernel
theorem dX5_hasOpenChild_22 : decode cX5_hasOpenChild 22 = .ok (.aload_n 0, 1) := by decide +kernel
theorem dX5_hasOpenChild_23 : decode cX5_hasOpenChild 23 = .ok (.iload_n 2, 1) := by decide +kernel
theorem dX5_hasOpenChild_24 : decode cX5_hasOpenChild 24 = .ok (.invokevirtual 41, 3) := by decide +kernel
theorem dX5_hasOpenChild_27 : decode cX5_hasOpenChild 27 = .ok (.ifCond .ne 5, 3) := by decide +kernel
theorem dX5_hasOpenChild_30 : decode cX5_hasOpenChild 30 = .ok (.iconst 1, 1) := by decide +kernel
theorem dX5_hasOpenChild_31 : decode cX5_hasOpenChild 31 = .ok (.ireturn, 1) := by decide +kernel
theorem dX5_hasOpenChild_32 : decode cX5_hasOpenChild 32 = .ok (.iinc 2 1, 3) := by decide +kernel
theorem dX5_hasOpenChild_35 : decode cX5_hasOpenChild 35 = .ok (.goto (-31), 3) := by decide +kernel
theorem dX5_hasOpenChild_38 : decode cX5_hasOpenChild 38 = .ok (.iconst 0, 1) := by decide +kernel
theorem dX5_hasOpenChild_39 : decode cX5_hasOpenChild 39 = .ok (.ireturn, 1) := by decide +kernel
theorem dX5_reachesByParents_0 : decode cX5_reachesByParents 0 = .ok (.iload_n 1, 1) := by decide +kernel
theorem dX5_reachesByParents_1 : decode cX5_reachesByParents 1 = .ok (.istore_n 3, 1) := by decide +kernel
theorem dX5_reachesByParents_2 : decode cX5_reachesByParents 2 = .ok (.iconst 0, 1) := by decide +kernel
theorem dX5_reachesByParents_3 : decode cX5_reachesByParents 3 = .ok (.istore 4, 2) := by decide +kernel
theorem dX5_reachesByParents_5 : decode cX5_reachesByParents 5 = .ok (.iload 4, 2) := by decide +kernel
theorem dX5_reachesByParents_7 : decode cX5_reachesByParents 7 = .ok (.bipush 6, 2) := by decide +kernel
theorem dX5_reachesByParents_9 : decode cX5_reachesByParents 9 = .ok (.if_icmp .ge 32, 3) := by decide +kernel
theorem dX5_reachesByParents_12 : decode cX5_reachesByParents 12 = .ok (.iload_n 3, 1) := by decide +kernel
theorem dX5_reachesByParents_13 : decode cX5_reachesByParents 13 = .ok (.iconst 1, 1) := by decide +kernel
theorem dX5_reachesByParents_14 : decode cX5_reachesByParents 14 = .ok (.iconst 5, 1) := by decide +kernel
theorem dX5_reachesByParents_15 : decode cX5_reachesByParents 15 = .ok (.invokestatic 29, 3) := by decide +kernel
theorem dX5_reachesByParents_18 : decode cX5_reachesByParents 18 = .ok (.ifCond .eq 23, 3) := by decide +kernel
theorem dX5_reachesByParents_21 : decode cX5_reachesByParents 21 = .ok (.aload_n 0, 1) := by decide +kernel
theorem dX5_reachesByParents_22 : decode cX5_reachesByParents 22 = .ok (.getfield 15, 3) := by decide +kernel
theorem dX5_reachesByParents_25 : decode cX5_reachesByParents 25 = .ok (.iload_n 3, 1) := by decide +kernel
theorem dX5_reachesByParents_26 : decode cX5_reachesByParents 26 = .ok (.iaload, 1) := by decide +kernel
theorem dX5_reachesByParents_27 : decode cX5_reachesByParents 27 = .ok (.istore_n 3, 1) := by decide +kernel
theorem dX5_reachesByParents_28 : decode cX5_reachesByParents 28 = .ok (.iload_n 3, 1) := by decide +kernel
theorem dX5_reachesByParents_29 : decode cX5_reachesByParents 29 = .ok (.iload_n 2, 1) := by decide +kernel
theorem dX5_reachesByParents_30 : decode cX5_reachesByParents 30 = .ok (.if_icmp .ne 5, 3) := by decide +kernel
theorem dX5_reachesByParents_33 : decode cX5_reachesByParents 33 = .ok (.iconst 1, 1) := by decide +kernel
theorem dX5_reachesByParents_34 : decode cX5_reachesByParents 34 = .ok (.ireturn, 1) := by decide +kernel
theorem dX5_reachesByParents_35 : decode cX5_reachesByParents 35 = .ok (.iinc 4 1, 3) := by decide +kernel
theorem dX5_reachesByParents_38 : decode cX5_reachesByParents 38 = .ok (.goto (-33), 3) := by decide +kernel
theorem dX5_reachesByParents_41 : decode cX5_reachesByParents 41 = .ok (.iconst 0, 1) := by decide +kernel
theorem dX5_reachesByParents_42 : decode cX5_reachesByParents 42 = .ok (.ireturn, 1) := by decide +kernel
theorem dX6_init_0 : decode cX6_init 0 = .ok (.aload_n 0, 1) := by decide +kernel
theorem dX6_init_1 : decode cX6_init 1 = .ok (.invokespecial 3, 3) := by decide +kernel
theorem dX6_init_4 : decode cX6_init 4 = .ok (.aload_n 0, 1) := by decide +kernel
theorem dX6_init_5 : decode cX6_init 5 = .ok (.bipush 120, 2) := by decide +kernel
theorem dX6_init_7 : decode cX6_init 7 = .ok (.newarray .int, 2) := by decide +kernel
theorem dX6_init_9 : decode cX6_init 9 = .ok (.putfield 9, 3) := by decide +kernel
theorem dX6_init_12 : decode cX6_init 12 = .ok (.aload_n 0, 1) := by decide +kernel
theorem dX6_init_13 : decode cX6_init 13 = .ok (.bipush 40, 2) := by decide +kernel
theorem dX6_init_15 : decode cX6_init 15 = .ok (.newarray .int, 2) := by decide +kernel
theorem dX6_init_17 : decode cX6_init 17 = .ok (.putfield 15, 3) := by decide +kernel
theorem dX6_init_20 : decode cX6_init 20 = .ok (.aload_n 0, 1) := by decide +kernel
theorem dX6_init_21 : decode cX6_init 21 = .ok (.bipush 40, 2) := by decide +kernel
theorem dX6_init_23 : decode cX6_init 23 = .ok (.newarray .int, 2) := by decide +kernel
theorem dX6_init_25 : decode cX6_init 25 = .ok (.putfield 18, 3) := by decide +kernel
theorem dX6_init_28 : decode cX6_init 28 = .ok (.aload_n 0, 1) := by decide +kernel
theorem dX6_init_29 : decode cX6_init 29 = .ok (.sipush 320, 3) := by decide +kernel
theorem dX6_init_32 : decode cX6_init 32 = .ok (.newarray .int, 2) := by decide +kernel
theorem dX6_init_34 : decode cX6_init 34 = .ok (.putfield 21, 3) := by decide +kernel
theorem dX6_init_37 : decode cX6_init 37 = .ok (.return_, 1) := by decide +kernel
theorem dX6_addByte_0 : decode cX6_addByte 0 = .ok (.iload_n 1, 1) := by decide +kernel
theorem dX6_addByte_1 : decode cX6_addByte 1 = .ok (.iconst 0, 1) := by decide +kernel
theorem dX6_addByte_2 : decode cX6_addByte 2 = .ok (.bipush 127, 2) := by decide +kernel
theorem dX6_addByte_4 : decode cX6_addByte 4 = .ok (.invokestatic 24, 3) := by decide +kernel
theorem dX6_addByte_7 : decode cX6_addByte 7 = .ok (.ifCond .ne 6, 3) := by decide +kernel
theorem dX6_addByte_10 : decode cX6_addByte 10 = .ok (.bipush (-2), 2) := by decide +kernel
theorem dX6_addByte_12 : decode cX6_addByte 12 = .ok (.ireturn, 1) := by decide +kernel
theorem dX6_addByte_13 : decode cX6_addByte 13 = .ok (.aload_n 0, 1) := by decide +kernel
theorem dX6_addByte_14 : decode cX6_addByte 14 = .ok (.getfield 28, 3) := by decide +kernel
theorem dX6_addByte_17 : decode cX6_addByte 17 = .ok (.bipush 120, 2) := by decide +kernel
theorem dX6_addByte_19 : decode cX6_addByte 19 = .ok (.if_icmp .lt 6, 3) := by decide +kernel
theorem dX6_addByte_22 : decode cX6_addByte 22 = .ok (.bipush (-4), 2) := by decide +kernel
theorem dX6_addByte_24 : decode cX6_addByte 24 = .ok (.ireturn, 1) := by decide +kernel
theorem dX6_addByte_25 : decode cX6_addByte 25 = .ok (.aload_n 0, 1) := by decide +kernel
theorem dX6_addByte_26 : decode cX6_addByte 26 = .ok (.getfield 9, 3) := by decide +kernel
theorem dX6_addByte_29 : decode cX6_addByte 29 = .ok (.aload_n 0, 1) := by decide +kernel
theorem dX6_addByte_30 : decode cX6_addByte 30 = .ok (.getfield 28, 3) := by decide +kernel
theorem dX6_addByte_33 : decode cX6_addByte 33 = .ok (.iload_n 1, 1) := by decide +kernel
theorem dX6_addByte_34 : decode cX6_addByte 34 = .ok (.iastore, 1) := by decide +kernel
theorem dX6_addByte_35 : decode cX6_addByte 35 = .ok (.aload_n 0, 1) := by decide +kernel
theorem dX6_addByte_36 : decode cX6_addByte 36 = .ok (.dup, 1) := by decide +kernel
theorem dX6_addByte_37 : decode cX6_addByte 37 = .ok (.getfield 28, 3) := by decide +kernel
theorem dX6_addByte_40 : decode cX6_addByte 40 = .ok (.iconst 1, 1) := by decide +kernel
theorem dX6_addByte_41 : decode cX6_addByte 41 = .ok (.iadd, 1) := by decide +kernel
theorem dX6_addByte_42 : decode cX6_addByte 42 = .ok (.putfield 28, 3) := by decide +kernel
theorem dX6_addByte_45 : decode cX6_addByte 45 = .ok (.aload_n 0, 1) := by decide +kernel
theorem dX6_addByte_46 : decode cX6_addByte 46 = .ok (.getfield 28, 3) := by decide +kernel
theorem dX6_addByte_49 : decode cX6_addByte 49 = .ok (.ireturn, 1) := by decide +kernel
theorem dX6_letterAt_0 : decode cX6_letterAt 0 = .ok (.iload_n 1, 1) := by decide +kernel
theorem dX6_letterAt_1 : decode cX6_letterAt 1 = .ok (.iconst 0, 1) := by decide +kernel
theorem dX6_letterAt_2 : decode cX6_letterAt 2 = .ok (.aload_n 0, 1) := by decide +kernel
theorem dX6_letterAt_3 : decode cX6_letterAt 3 = .ok (.getfield 32, 3) := by decide +kernel
theorem dX6_letterAt_6 : decode cX6_letterAt 6 = .ok (.iconst 1, 1) := by decide +kernel
theorem dX6_letterAt_7 : decode cX6_letterAt 7 = .ok (.isub, 1) := by decide +kernel
theorem dX6_letterAt_8 : decode cX6_letterAt 8 = .ok (.invokestatic 24, 3) := by decide +kernel
theorem dX6_letterAt_11 : decode cX6_letterAt 11 = .ok (.ifCond .eq 12, 3) := by decide +kernel
theorem dX6_letterAt_14 : decode cX6_letterAt 14 = .ok (.aload_n 0, 1) := by decide +kernel
theorem dX6_letterAt_15 : decode cX6_letterAt 15 = .ok (.getfield 15, 3) := by decide +kernel
theorem dX6_letterAt_18 : decode cX6_letterAt 18 = .ok (.iload_n 1, 1) := by decide +kernel
theorem dX6_letterAt_19 : decode cX6_letterAt 19 = .ok (.iaload, 1) := by decide +kernel
theorem dX6_letterAt_20 : decode cX6_letterAt 20 = .ok (.goto 4, 3) := by decide +kernel
theorem dX6_letterAt_23 : decode cX6_letterAt 23 = .ok (.iconst 0, 1) := by decide +kernel
theorem dX6_letterAt_24 : decode cX6_letterAt 24 = .ok (.ireturn, 1) := by decide +kernel
theorem dX6_numbersOf_0 : decode cX6_numbersOf 0 = .ok (.iload_n 1, 1) := by decide +kernel
theorem dX6_numbersOf_1 : decode cX6_numbersOf 1 = .ok (.iconst 0, 1) := by decide +kernel
theorem dX6_numbersOf_2 : decode cX6_numbersOf 2 = .ok (.aload_n 0, 1) := by decide +kernel
theorem dX6_numbersOf_3 : decode cX6_numbersOf 3 = .ok (.getfield 32, 3) := by decide +kernel
theorem dX6_numbersOf_6 : decode cX6_numbersOf 6 = .ok (.iconst 1, 1) := by decide +kernel
theorem dX6_numbersOf_7 : decode cX6_numbersOf 7 = .ok (.isub, 1) := by decide +kernel
theorem dX6_numbersOf_8 : decode cX6_numbersOf 8 = .ok (.invokestatic 24, 3) := by decide +kernel
theorem dX6_numbersOf_11 : decode cX6_numbersOf 11 = .ok (.ifCond .eq 12, 3) := by decide +kernel
theorem dX6_numbersOf_14 : decode cX6_numbersOf 14 = .ok (.aload_n 0, 1) := by decide +kernel
theorem dX6_numbersOf_15 : decode cX6_numbersOf 15 = .ok (.getfield 18, 3) := by decide +kernel
theorem dX6_numbersOf_18 : decode cX6_numbersOf 18 = .ok (.iload_n 1, 1) := by decide +kernel
theorem dX6_numbersOf_19 : decode cX6_numbersOf 19 = .ok (.iaload, 1) := by decide +kernel
theorem dX6_numbersOf_20 : decode cX6_numbersOf 20 = .ok (.goto 4, 3) := by decide +kernel
theorem dX6_numbersOf_23 : decode cX6_numbersOf 23 = .ok (.iconst 0, 1) := by decide +kernel
theorem dX6_numbersOf_24 : decode cX6_numbersOf 24 = .ok (.ireturn, 1) := by decide +kernel
theorem dX6_numberAt_0 : decode cX6_numberAt 0 = .ok (.iload_n 2, 1) := by decide +kernel
theorem dX6_numberAt_1 : decode cX6_numberAt 1 = .ok (.iconst 0, 1) := by decide +kernel
theorem dX6_numberAt_2 : decode cX6_numberAt 2 = .ok (.aload_n 0, 1) := by decide +kernel
theorem dX6_numberAt_3 : decode cX6_numberAt 3 = .ok (.iload_n 1, 1) := by decide +kernel
theorem dX6_numberAt_4 : decode cX6_numberAt 4 = .ok (.invokevirtual 35, 3) := by decide +kernel
theorem dX6_numberAt_7 : decode cX6_numberAt 7 = .ok (.iconst 1, 1) := by decide +kernel
theorem dX6_numberAt_8 : decode cX6_numberAt 8 = .ok (.isub, 1) := by decide +kernel
theorem dX6_numberAt_9 : decode cX6_numberAt 9 = .ok (.invokestatic 24, 3) := by decide +kernel
theorem dX6_numberAt_12 : decode cX6_numberAt 12 = .ok (.ifCond .eq 17, 3) := by decide +kernel
theorem dX6_numberAt_15 : decode cX6_numberAt 15 = .ok (.aload_n 0, 1) := by decide +kernel
theorem dX6_numberAt_16 : decode cX6_numberAt 16 = .ok (.getfield 21, 3) := by decide +kernel
theorem dX6_numberAt_19 : decode cX6_numberAt 19 = .ok (.iload_n 1, 1) := by decide +kernel
theorem dX6_numberAt_20 : decode cX6_numberAt 20 = .ok (.bipush 8, 2) := by decide +kernel
theorem dX6_numberAt_22 : decode cX6_numberAt 22 = .ok (.imul, 1) := by decide +kernel
theorem dX6_numberAt_23 : decode cX6_numberAt 23 = .ok (.iload_n 2, 1) := by decide +kernel
theorem dX6_numberAt_24 : decode cX6_numberAt 24 = .ok (.iadd, 1) := by decide +kernel
theorem dX6_numberAt_25 : decode cX6_numberAt 25 = .ok (.iaload, 1) := by decide +kernel
theorem dX6_numberAt_26 : decode cX6_numberAt 26 = .ok (.goto 4, 3) := by decide +kernel
theorem dX6_numberAt_29 : decode cX6_numberAt 29 = .ok (.iconst (-1), 1) := by decide +kernel
theorem dX6_numberAt_30 : decode cX6_numberAt 30 = .ok (.ireturn, 1) := by decide +kernel
theorem dX6_readOrders_0 : decode cX6_readOrders 0 = .ok (.aload_n 0, 1) := by decide +kernel
theorem dX6_readOrders_1 : decode cX6_readOrders 1 = .ok (.iconst 0, 1) := by decide +kernel
theorem dX6_readOrders_2 : decode cX6_readOrders 2 = .ok (.putfield 32, 3) := by decide +kernel
theorem dX6_readOrders_5 : decode cX6_readOrders 5 = .ok (.aload_n 0, 1) := by decide +kernel
theorem dX6_readOrders_6 : decode cX6_readOrders 6 = .ok (.iconst 0, 1) := by decide +kernel
theorem dX6_readOrders_7 : decode cX6_readOrders 7 = .ok (.putfield 39, 3) := by decide +kernel
theorem dX6_readOrders_10 : decode cX6_readOrders 10 = .ok (.aload_n 0, 1) := by decide +kernel
theorem dX6_readOrders_11 : decode cX6_readOrders 11 = .ok (.iconst 0, 1) := by decide +kernel
theorem dX6_readOrders_12 : decode cX6_readOrders 12 = .ok (.putfield 42, 3) := by decide +kernel
theorem dX6_readOrders_15 : decode cX6_readOrders 15 = .ok (.iconst 0, 1) := by decide +kernel
theorem dX6_readOrders_16 : decode cX6_readOrders 16 = .ok (.istore_n 1, 1) := by decide +kernel
theorem dX6_readOrders_17 : decode cX6_readOrders 17 = .ok (.iload_n 1, 1) := by decide +kernel
theorem dX6_readOrders_18 : decode cX6_readOrders 18 = .ok (.aload_n 0, 1) := by decide +kernel
theorem dX6_readOrders_19 : decode cX6_readOrders 19 = .ok (.getfield 28, 3) := by decide +kernel
theorem dX6_readOrders_22 : decode cX6_readOrders 22 = .ok (.if_icmp .ge 24, 3) := by decide +kernel
theorem dX6_readOrders_25 : decode cX6_readOrders 25 = .ok (.aload_n 0, 1) := by decide +kernel
theorem dX6_readOrders_26 : decode cX6_readOrders 26 = .ok (.aload_n 0, 1) := by decide +kernel
theorem dX6_readOrders_27 : decode cX6_readOrders 27 = .ok (.getfield 9, 3) := by decide +kernel
theorem dX6_readOrders_30 : decode cX6_readOrders 30 = .ok (.iload_n 1, 1) := by decide +kernel
theorem dX6_readOrders_31 : decode cX6_readOrders 31 = .ok (.iaload, 1) := by decide +kernel
theorem dX6_readOrders_32 : decode cX6_readOrders 32 = .ok (.invokevirtual 45, 3) := by decide +kernel
theorem dX6_readOrders_35 : decode cX6_readOrders 35 = .ok (.ifCond .ne 5, 3) := by decide +kernel
theorem dX6_readOrders_38 : decode cX6_readOrders 38 = .ok (.iload_n 1, 1) := by decide +kernel
theorem dX6_readOrders_39 : decode cX6_readOrders 39 = .ok (.ireturn, 1) := by decide +kernel
theorem dX6_readOrders_40 : decode cX6_readOrders 40 = .ok (.iinc 1 1, 3) := by decide +kernel
theorem dX6_readOrders_43 : decode cX6_readOrders 43 = .ok (.goto (-26), 3) := by decide +kernel
theorem dX6_readOrders_46 : decode cX6_readOrders 46 = .ok (.aload_n 0, 1) := by decide +kernel
theorem dX6_readOrders_47 : decode cX6_readOrders 47 = .ok (.getfield 39, 3) := by decide +kernel
theorem dX6_readOrders_50 : decode cX6_readOrders 50 = .ok (.ifCond .ne 10, 3) := by decide +kernel
theorem dX6_readOrders_53 : decode cX6_readOrders 53 = .ok (.aload_n 0, 1) := by decide +kernel
theorem dX6_readOrders_54 : decode cX6_readOrders 54 = .ok (.getfield 32, 3) := by decide +kernel
theorem dX6_readOrders_57 : decode cX6_readOrders 57 = .ok (.ifCond .ne 10, 3) := by decide +kernel
theorem dX6_readOrders_60 : decode cX6_readOrders 60 = .ok (.aload_n 0, 1) := by decide +kernel
theorem dX6_readOrders_61 : decode cX6_readOrders 61 = .ok (.getfield 28, 3) := by decide +kernel
theorem dX6_readOrders_64 : decode cX6_readOrders 64 = .ok (.goto 4, 3) := by decide +kernel
theorem dX6_readOrders_67 : decode cX6_readOrders 67 = .ok (.iconst (-1), 1) := by decide +kernel
theorem dX6_readOrders_68 : decode cX6_readOrders 68 = .ok (.ireturn, 1) := by decide +kernel
theorem dX6_readByte_0 : decode cX6_readByte 0 = .ok (.iload_n 1, 1) := by decide +kernel
theorem dX6_readByte_1 : decode cX6_readByte 1 = .ok (.bipush 32, 2) := by decide +kernel
theorem dX6_readByte_3 : decode cX6_readByte 3 = .ok (.if_icmp .ne 10, 3) := by decide +kernel
theorem dX6_readByte_6 : decode cX6_readByte 6 = .ok (.aload_n 0, 1) := by decide +kernel
theorem dX6_readByte_7 : decode cX6_readByte 7 = .ok (.iconst 0, 1) := by decide +kernel
theorem dX6_readByte_8 : decode cX6_readByte 8 = .ok (.putfield 42, 3) := by decide +kernel
theorem dX6_readByte_11 : decode cX6_readByte 11 = .ok (.iconst 1, 1) := by decide +kernel
theorem dX6_readByte_12 : decode cX6_readByte 12 = .ok (.ireturn, 1) := by decide +kernel
theorem dX6_readByte_13 : decode cX6_readByte 13 = .ok (.aload_n 0, 1) := by decide +kernel
theorem dX6_readByte_14 : decode cX6_readByte 14 = .ok (.getfield 39, 3) := by decide +kernel
