theorem dX8_samplesCome_3 : decode cX8_samplesCome 3 = .ok (.aload_n 0, 1) := by decide +kernel
theorem dX8_samplesCome_4 : decode cX8_samplesCome 4 = .ok (.getfield 7, 3) := by decide +kernel
theorem dX8_samplesCome_7 : decode cX8_samplesCome 7 = .ok (.bipush 70, 2) := by decide +kernel
theorem dX8_samplesCome_9 : decode cX8_samplesCome 9 = .ok (.iaload, 1) := by decide +kernel
theorem dX8_samplesCome_10 : decode cX8_samplesCome 10 = .ok (.if_icmp .ge 173, 3) := by decide +kernel
theorem dX8_samplesCome_13 : decode cX8_samplesCome 13 = .ok (.iload_n 2, 1) := by decide +kernel
theorem dX8_samplesCome_14 : decode cX8_samplesCome 14 = .ok (.invokestatic 55, 3) := by decide +kernel
theorem dX8_samplesCome_17 : decode cX8_samplesCome 17 = .ok (.istore_n 3, 1) := by decide +kernel
theorem dX8_samplesCome_18 : decode cX8_samplesCome 18 = .ok (.aload_n 0, 1) := by decide +kernel
theorem dX8_samplesCome_19 : decode cX8_samplesCome 19 = .ok (.getfield 7, 3) := by decide +kernel
theorem dX8_samplesCome_22 : decode cX8_samplesCome 22 = .ok (.iload_n 3, 1) := by decide +kernel
theorem dX8_samplesCome_23 : decode cX8_samplesCome 23 = .ok (.bipush 9, 2) := by decide +kernel
theorem dX8_samplesCome_25 : decode cX8_samplesCome 25 = .ok (.iadd, 1) := by decide +kernel
theorem dX8_samplesCome_26 : decode cX8_samplesCome 26 = .ok (.iaload, 1) := by decide +kernel
theorem dX8_samplesCome_27 : decode cX8_samplesCome 27 = .ok (.iconst 1, 1) := by decide +kernel
theorem dX8_samplesCome_28 : decode cX8_samplesCome 28 = .ok (.if_icmp .ne 149, 3) := by decide +kernel
theorem dX8_samplesCome_31 : decode cX8_samplesCome 31 = .ok (.aload_n 0, 1) := by decide +kernel
theorem dX8_samplesCome_32 : decode cX8_samplesCome 32 = .ok (.getfield 7, 3) := by decide +kernel
theorem dX8_samplesCome_35 : decode cX8_samplesCome 35 = .ok (.iload_n 3, 1) := by decide +kernel
theorem dX8_samplesCome_36 : decode cX8_samplesCome 36 = .ok (.bipush 7, 2) := by decide +kernel
theorem dX8_samplesCome_38 : decode cX8_samplesCome 38 = .ok (.iadd, 1) := by decide +kernel
theorem dX8_samplesCome_39 : decode cX8_samplesCome 39 = .ok (.iaload, 1) := by decide +kernel
theorem dX8_samplesCome_40 : decode cX8_samplesCome 40 = .ok (.ifCond .le 137, 3) := by decide +kernel
theorem dX8_samplesCome_43 : decode cX8_samplesCome 43 = .ok (.aload_n 0, 1) := by decide +kernel
theorem dX8_samplesCome_44 : decode cX8_samplesCome 44 = .ok (.getfield 7, 3) := by decide +kernel
theorem dX8_samplesCome_47 : decode cX8_samplesCome 47 = .ok (.iload_n 3, 1) := by decide +kernel
theorem dX8_samplesCome_48 : decode cX8_samplesCome 48 = .ok (.bipush 8, 2) := by decide +kernel
theorem dX8_samplesCome_50 : decode cX8_samplesCome 50 = .ok (.iadd, 1) := by decide +kernel
theorem dX8_samplesCome_51 : decode cX8_samplesCome 51 = .ok (.dup2, 1) := by decide +kernel
theorem dX8_samplesCome_52 : decode cX8_samplesCome 52 = .ok (.iaload, 1) := by decide +kernel
theorem dX8_samplesCome_53 : decode cX8_samplesCome 53 = .ok (.aload_n 0, 1) := by decide +kernel
theorem dX8_samplesCome_54 : decode cX8_samplesCome 54 = .ok (.iload_n 1, 1) := by decide +kernel
theorem dX8_samplesCome_55 : decode cX8_samplesCome 55 = .ok (.aload_n 0, 1) := by decide +kernel
theorem dX8_samplesCome_56 : decode cX8_samplesCome 56 = .ok (.getfield 7, 3) := by decide +kernel
theorem dX8_samplesCome_59 : decode cX8_samplesCome 59 = .ok (.iload_n 2, 1) := by decide +kernel
theorem dX8_samplesCome_60 : decode cX8_samplesCome 60 = .ok (.iconst 0, 1) := by decide +kernel
theorem dX8_samplesCome_61 : decode cX8_samplesCome 61 = .ok (.invokestatic 115, 3) := by decide +kernel
theorem dX8_samplesCome_64 : decode cX8_samplesCome 64 = .ok (.iaload, 1) := by decide +kernel
theorem dX8_samplesCome_65 : decode cX8_samplesCome 65 = .ok (.invokevirtual 92, 3) := by decide +kernel
theorem dX8_samplesCome_68 : decode cX8_samplesCome 68 = .ok (.iadd, 1) := by decide +kernel
theorem dX8_samplesCome_69 : decode cX8_samplesCome 69 = .ok (.iastore, 1) := by decide +kernel
theorem dX8_samplesCome_70 : decode cX8_samplesCome 70 = .ok (.aload_n 0, 1) := by decide +kernel
theorem dX8_samplesCome_71 : decode cX8_samplesCome 71 = .ok (.getfield 7, 3) := by decide +kernel
theorem dX8_samplesCome_74 : decode cX8_samplesCome 74 = .ok (.iload_n 3, 1) := by decide +kernel
theorem dX8_samplesCome_75 : decode cX8_samplesCome 75 = .ok (.bipush 8, 2) := by decide +kernel
theorem dX8_samplesCome_77 : decode cX8_samplesCome 77 = .ok (.iadd, 1) := by decide +kernel
theorem dX8_samplesCome_78 : decode cX8_samplesCome 78 = .ok (.iaload, 1) := by decide +kernel
theorem dX8_samplesCome_79 : decode cX8_samplesCome 79 = .ok (.aload_n 0, 1) := by decide +kernel
theorem dX8_samplesCome_80 : decode cX8_samplesCome 80 = .ok (.getfield 7, 3) := by decide +kernel
theorem dX8_samplesCome_83 : decode cX8_samplesCome 83 = .ok (.iload_n 3, 1) := by decide +kernel
theorem dX8_samplesCome_84 : decode cX8_samplesCome 84 = .ok (.bipush 7, 2) := by decide +kernel
theorem dX8_samplesCome_86 : decode cX8_samplesCome 86 = .ok (.iadd, 1) := by decide +kernel
theorem dX8_samplesCome_87 : decode cX8_samplesCome 87 = .ok (.iaload, 1) := by decide +kernel
theorem dX8_samplesCome_88 : decode cX8_samplesCome 88 = .ok (.if_icmp .lt 89, 3) := by decide +kernel
theorem dX8_samplesCome_91 : decode cX8_samplesCome 91 = .ok (.aload_n 0, 1) := by decide +kernel
theorem dX8_samplesCome_92 : decode cX8_samplesCome 92 = .ok (.getfield 7, 3) := by decide +kernel
theorem dX8_samplesCome_95 : decode cX8_samplesCome 95 = .ok (.iload_n 3, 1) := by decide +kernel
theorem dX8_samplesCome_96 : decode cX8_samplesCome 96 = .ok (.bipush 8, 2) := by decide +kernel
theorem dX8_samplesCome_98 : decode cX8_samplesCome 98 = .ok (.iadd, 1) := by decide +kernel
theorem dX8_samplesCome_99 : decode cX8_samplesCome 99 = .ok (.dup2, 1) := by decide +kernel
theorem dX8_samplesCome_100 : decode cX8_samplesCome 100 = .ok (.iaload, 1) := by decide +kernel
theorem dX8_samplesCome_101 : decode cX8_samplesCome 101 = .ok (.aload_n 0, 1) := by decide +kernel
theorem dX8_samplesCome_102 : decode cX8_samplesCome 102 = .ok (.getfield 7, 3) := by decide +kernel
theorem dX8_samplesCome_105 : decode cX8_samplesCome 105 = .ok (.iload_n 3, 1) := by decide +kernel
theorem dX8_samplesCome_106 : decode cX8_samplesCome 106 = .ok (.bipush 7, 2) := by decide +kernel
theorem dX8_samplesCome_108 : decode cX8_samplesCome 108 = .ok (.iadd, 1) := by decide +kernel
theorem dX8_samplesCome_109 : decode cX8_samplesCome 109 = .ok (.iaload, 1) := by decide +kernel
theorem dX8_samplesCome_110 : decode cX8_samplesCome 110 = .ok (.isub, 1) := by decide +kernel
theorem dX8_samplesCome_111 : decode cX8_samplesCome 111 = .ok (.iastore, 1) := by decide +kernel
theorem dX8_samplesCome_112 : decode cX8_samplesCome 112 = .ok (.sipush 467, 3) := by decide +kernel
theorem dX8_samplesCome_115 : decode cX8_samplesCome 115 = .ok (.iconst 2, 1) := by decide +kernel
theorem dX8_samplesCome_116 : decode cX8_samplesCome 116 = .ok (.aload_n 0, 1) := by decide +kernel
theorem dX8_samplesCome_117 : decode cX8_samplesCome 117 = .ok (.getfield 7, 3) := by decide +kernel
theorem dX8_samplesCome_120 : decode cX8_samplesCome 120 = .ok (.sipush 466, 3) := by decide +kernel
theorem dX8_samplesCome_123 : decode cX8_samplesCome 123 = .ok (.iaload, 1) := by decide +kernel
theorem dX8_samplesCome_124 : decode cX8_samplesCome 124 = .ok (.imul, 1) := by decide +kernel
theorem dX8_samplesCome_125 : decode cX8_samplesCome 125 = .ok (.iadd, 1) := by decide +kernel
theorem dX8_samplesCome_126 : decode cX8_samplesCome 126 = .ok (.istore 4, 2) := by decide +kernel
theorem dX8_samplesCome_128 : decode cX8_samplesCome 128 = .ok (.aload_n 0, 1) := by decide +kernel
theorem dX8_samplesCome_129 : decode cX8_samplesCome 129 = .ok (.getfield 7, 3) := by decide +kernel
theorem dX8_samplesCome_132 : decode cX8_samplesCome 132 = .ok (.iload 4, 2) := by decide +kernel
theorem dX8_samplesCome_134 : decode cX8_samplesCome 134 = .ok (.iload_n 2, 1) := by decide +kernel
theorem dX8_samplesCome_135 : decode cX8_samplesCome 135 = .ok (.iastore, 1) := by decide +kernel
theorem dX8_samplesCome_136 : decode cX8_samplesCome 136 = .ok (.aload_n 0, 1) := by decide +kernel
theorem dX8_samplesCome_137 : decode cX8_samplesCome 137 = .ok (.getfield 7, 3) := by decide +kernel
theorem dX8_samplesCome_140 : decode cX8_samplesCome 140 = .ok (.iload 4, 2) := by decide +kernel
theorem dX8_samplesCome_142 : decode cX8_samplesCome 142 = .ok (.iconst 1, 1) := by decide +kernel
theorem dX8_samplesCome_143 : decode cX8_samplesCome 143 = .ok (.iadd, 1) := by decide +kernel
theorem dX8_samplesCome_144 : decode cX8_samplesCome 144 = .ok (.aload_n 0, 1) := by decide +kernel
theorem dX8_samplesCome_145 : decode cX8_samplesCome 145 = .ok (.getfield 7, 3) := by decide +kernel
theorem dX8_samplesCome_148 : decode cX8_samplesCome 148 = .ok (.sipush 426, 3) := by decide +kernel
theorem dX8_samplesCome_151 : decode cX8_samplesCome 151 = .ok (.iaload, 1) := by decide +kernel
theorem dX8_samplesCome_152 : decode cX8_samplesCome 152 = .ok (.aload_n 0, 1) := by decide +kernel
theorem dX8_samplesCome_153 : decode cX8_samplesCome 153 = .ok (.getfield 7, 3) := by decide +kernel
theorem dX8_samplesCome_156 : decode cX8_samplesCome 156 = .ok (.sipush 427, 3) := by decide +kernel
theorem dX8_samplesCome_159 : decode cX8_samplesCome 159 = .ok (.iaload, 1) := by decide +kernel
theorem dX8_samplesCome_160 : decode cX8_samplesCome 160 = .ok (.iadd, 1) := by decide +kernel
theorem dX8_samplesCome_161 : decode cX8_samplesCome 161 = .ok (.iastore, 1) := by decide +kernel
theorem dX8_samplesCome_162 : decode cX8_samplesCome 162 = .ok (.aload_n 0, 1) := by decide +kernel
theorem dX8_samplesCome_163 : decode cX8_samplesCome 163 = .ok (.getfield 7, 3) := by decide +kernel
theorem dX8_samplesCome_166 : decode cX8_samplesCome 166 = .ok (.sipush 466, 3) := by decide +kernel
theorem dX8_samplesCome_169 : decode cX8_samplesCome 169 = .ok (.dup2, 1) := by decide +kernel
theorem dX8_samplesCome_170 : decode cX8_samplesCome 170 = .ok (.iaload, 1) := by decide +kernel
theorem dX8_samplesCome_171 : decode cX8_samplesCome 171 = .ok (.iconst 1, 1) := by decide +kernel
theorem dX8_samplesCome_172 : decode cX8_samplesCome 172 = .ok (.iadd, 1) := by decide +kernel
theorem dX8_samplesCome_173 : decode cX8_samplesCome 173 = .ok (.iastore, 1) := by decide +kernel
theorem dX8_samplesCome_174 : decode cX8_samplesCome 174 = .ok (.goto (-104), 3) := by decide +kernel
theorem dX8_samplesCome_177 : decode cX8_samplesCome 177 = .ok (.iinc 2 1, 3) := by decide +kernel
theorem dX8_samplesCome_180 : decode cX8_samplesCome 180 = .ok (.goto (-178), 3) := by decide +kernel
theorem dX8_samplesCome_183 : decode cX8_samplesCome 183 = .ok (.return_, 1) := by decide +kernel
theorem dX8_tellsOne_0 : decode cX8_tellsOne 0 = .ok (.aload_n 0, 1) := by decide +kernel
theorem dX8_tellsOne_1 : decode cX8_tellsOne 1 = .ok (.getfield 7, 3) := by decide +kernel
theorem dX8_tellsOne_4 : decode cX8_tellsOne 4 = .ok (.sipush 429, 3) := by decide +kernel
theorem dX8_tellsOne_7 : decode cX8_tellsOne 7 = .ok (.iaload, 1) := by decide +kernel
theorem dX8_tellsOne_8 : decode cX8_tellsOne 8 = .ok (.bipush 12, 2) := by decide +kernel
theorem dX8_tellsOne_10 : decode cX8_tellsOne 10 = .ok (.if_icmp .ne 16, 3) := by decide +kernel
theorem dX8_tellsOne_13 : decode cX8_tellsOne 13 = .ok (.aload_n 0, 1) := by decide +kernel
theorem dX8_tellsOne_14 : decode cX8_tellsOne 14 = .ok (.getfield 7, 3) := by decide +kernel
theorem dX8_tellsOne_17 : decode cX8_tellsOne 17 = .ok (.sipush 428, 3) := by decide +kernel
theorem dX8_tellsOne_20 : decode cX8_tellsOne 20 = .ok (.dup2, 1) := by decide +kernel
theorem dX8_tellsOne_21 : decode cX8_tellsOne 21 = .ok (.iaload, 1) := by decide +kernel
theorem dX8_tellsOne_22 : decode cX8_tellsOne 22 = .ok (.iconst 1, 1) := by decide +kernel
theorem dX8_tellsOne_23 : decode cX8_tellsOne 23 = .ok (.iadd, 1) := by decide +kernel
theorem dX8_tellsOne_24 : decode cX8_tellsOne 24 = .ok (.iastore, 1) := by decide +kernel
theorem dX8_tellsOne_25 : decode cX8_tellsOne 25 = .ok (.return_, 1) := by decide +kernel
theorem dX8_tellsOne_26 : decode cX8_tellsOne 26 = .ok (.sipush 430, 3) := by decide +kernel
theorem dX8_tellsOne_29 : decode cX8_tellsOne 29 = .ok (.iconst 3, 1) := by decide +kernel
theorem dX8_tellsOne_30 : decode cX8_tellsOne 30 = .ok (.aload_n 0, 1) := by decide +kernel
theorem dX8_tellsOne_31 : decode cX8_tellsOne 31 = .ok (.getfield 7, 3) := by decide +kernel
theorem dX8_tellsOne_34 : decode cX8_tellsOne 34 = .ok (.sipush 429, 3) := by decide +kernel
theorem dX8_tellsOne_37 : decode cX8_tellsOne 37 = .ok (.iaload, 1) := by decide +kernel
theorem dX8_tellsOne_38 : decode cX8_tellsOne 38 = .ok (.imul, 1) := by decide +kernel
theorem dX8_tellsOne_39 : decode cX8_tellsOne 39 = .ok (.iadd, 1) := by decide +kernel
theorem dX8_tellsOne_40 : decode cX8_tellsOne 40 = .ok (.istore_n 3, 1) := by decide +kernel
theorem dX8_tellsOne_41 : decode cX8_tellsOne 41 = .ok (.aload_n 0, 1) := by decide +kernel
theorem dX8_tellsOne_42 : decode cX8_tellsOne 42 = .ok (.getfield 7, 3) := by decide +kernel
theorem dX8_tellsOne_45 : decode cX8_tellsOne 45 = .ok (.iload_n 3, 1) := by decide +kernel
theorem dX8_tellsOne_46 : decode cX8_tellsOne 46 = .ok (.iload_n 1, 1) := by decide +kernel
theorem dX8_tellsOne_47 : decode cX8_tellsOne 47 = .ok (.iastore, 1) := by decide +kernel
theorem dX8_tellsOne_48 : decode cX8_tellsOne 48 = .ok (.aload_n 0, 1) := by decide +kernel
theorem dX8_tellsOne_49 : decode cX8_tellsOne 49 = .ok (.getfield 7, 3) := by decide +kernel
theorem dX8_tellsOne_52 : decode cX8_tellsOne 52 = .ok (.iload_n 3, 1) := by decide +kernel
theorem dX8_tellsOne_53 : decode cX8_tellsOne 53 = .ok (.iconst 1, 1) := by decide +kernel
theorem dX8_tellsOne_54 : decode cX8_tellsOne 54 = .ok (.iadd, 1) := by decide +kernel
theorem dX8_tellsOne_55 : decode cX8_tellsOne 55 = .ok (.iload_n 2, 1) := by decide +kernel
theorem dX8_tellsOne_56 : decode cX8_tellsOne 56 = .ok (.iastore, 1) := by decide +kernel
theorem dX8_tellsOne_57 : decode cX8_tellsOne 57 = .ok (.aload_n 0, 1) := by decide +kernel
theorem dX8_tellsOne_58 : decode cX8_tellsOne 58 = .ok (.getfield 7, 3) := by decide +kernel
theorem dX8_tellsOne_61 : decode cX8_tellsOne 61 = .ok (.iload_n 3, 1) := by decide +kernel
theorem dX8_tellsOne_62 : decode cX8_tellsOne 62 = .ok (.iconst 2, 1) := by decide +kernel
theorem dX8_tellsOne_63 : decode cX8_tellsOne 63 = .ok (.iadd, 1) := by decide +kernel
theorem dX8_tellsOne_64 : decode cX8_tellsOne 64 = .ok (.aload_n 0, 1) := by decide +kernel
theorem dX8_tellsOne_65 : decode cX8_tellsOne 65 = .ok (.getfield 7, 3) := by decide +kernel
theorem dX8_tellsOne_68 : decode cX8_tellsOne 68 = .ok (.sipush 426, 3) := by decide +kernel
theorem dX8_tellsOne_71 : decode cX8_tellsOne 71 = .ok (.iaload, 1) := by decide +kernel
theorem dX8_tellsOne_72 : decode cX8_tellsOne 72 = .ok (.iastore, 1) := by decide +kernel
theorem dX8_tellsOne_73 : decode cX8_tellsOne 73 = .ok (.aload_n 0, 1) := by decide +kernel
theorem dX8_tellsOne_74 : decode cX8_tellsOne 74 = .ok (.getfield 7, 3) := by decide +kernel
theorem dX8_tellsOne_77 : decode cX8_tellsOne 77 = .ok (.sipush 429, 3) := by decide +kernel
theorem dX8_tellsOne_80 : decode cX8_tellsOne 80 = .ok (.dup2, 1) := by decide +kernel
theorem dX8_tellsOne_81 : decode cX8_tellsOne 81 = .ok (.iaload, 1) := by decide +kernel
theorem dX8_tellsOne_82 : decode cX8_tellsOne 82 = .ok (.iconst 1, 1) := by decide +kernel
theorem dX8_tellsOne_83 : decode cX8_tellsOne 83 = .ok (.iadd, 1) := by decide +kernel
theorem dX8_tellsOne_84 : decode cX8_tellsOne 84 = .ok (.iastore, 1) := by decide +kernel
theorem dX8_tellsOne_85 : decode cX8_tellsOne 85 = .ok (.return_, 1) := by decide +kernel
theorem dX8_tellsDue_0 : decode cX8_tellsDue 0 = .ok (.iconst 0, 1) := by decide +kernel
theorem dX8_tellsDue_1 : decode cX8_tellsDue 1 = .ok (.istore_n 2, 1) := by decide +kernel
theorem dX8_tellsDue_2 : decode cX8_tellsDue 2 = .ok (.iconst 0, 1) := by decide +kernel
theorem dX8_tellsDue_3 : decode cX8_tellsDue 3 = .ok (.istore_n 3, 1) := by decide +kernel
theorem dX8_tellsDue_4 : decode cX8_tellsDue 4 = .ok (.iload_n 3, 1) := by decide +kernel
theorem dX8_tellsDue_5 : decode cX8_tellsDue 5 = .ok (.aload_n 0, 1) := by decide +kernel
theorem dX8_tellsDue_6 : decode cX8_tellsDue 6 = .ok (.getfield 7, 3) := by decide +kernel
theorem dX8_tellsDue_9 : decode cX8_tellsDue 9 = .ok (.sipush 466, 3) := by decide +kernel
theorem dX8_tellsDue_12 : decode cX8_tellsDue 12 = .ok (.iaload, 1) := by decide +kernel
theorem dX8_tellsDue_13 : decode cX8_tellsDue 13 = .ok (.if_icmp .ge 91, 3) := by decide +kernel
theorem dX8_tellsDue_16 : decode cX8_tellsDue 16 = .ok (.aload_n 0, 1) := by decide +kernel
theorem dX8_tellsDue_17 : decode cX8_tellsDue 17 = .ok (.getfield 7, 3) := by decide +kernel
theorem dX8_tellsDue_20 : decode cX8_tellsDue 20 = .ok (.sipush 467, 3) := by decide +kernel
theorem dX8_tellsDue_23 : decode cX8_tellsDue 23 = .ok (.iconst 2, 1) := by decide +kernel
theorem dX8_tellsDue_24 : decode cX8_tellsDue 24 = .ok (.iload_n 3, 1) := by decide +kernel
theorem dX8_tellsDue_25 : decode cX8_tellsDue 25 = .ok (.imul, 1) := by decide +kernel
theorem dX8_tellsDue_26 : decode cX8_tellsDue 26 = .ok (.iadd, 1) := by decide +kernel
theorem dX8_tellsDue_27 : decode cX8_tellsDue 27 = .ok (.iaload, 1) := by decide +kernel
theorem dX8_tellsDue_28 : decode cX8_tellsDue 28 = .ok (.istore 4, 2) := by decide +kernel
theorem dX8_tellsDue_30 : decode cX8_tellsDue 30 = .ok (.aload_n 0, 1) := by decide +kernel
theorem dX8_tellsDue_31 : decode cX8_tellsDue 31 = .ok (.getfield 7, 3) := by decide +kernel
theorem dX8_tellsDue_34 : decode cX8_tellsDue 34 = .ok (.sipush 468, 3) := by decide +kernel
theorem dX8_tellsDue_37 : decode cX8_tellsDue 37 = .ok (.iconst 2, 1) := by decide +kernel
theorem dX8_tellsDue_38 : decode cX8_tellsDue 38 = .ok (.iload_n 3, 1) := by decide +kernel
theorem dX8_tellsDue_39 : decode cX8_tellsDue 39 = .ok (.imul, 1) := by decide +kernel
theorem dX8_tellsDue_40 : decode cX8_tellsDue 40 = .ok (.iadd, 1) := by decide +kernel
theorem dX8_tellsDue_41 : decode cX8_tellsDue 41 = .ok (.iaload, 1) := by decide +kernel
theorem dX8_tellsDue_42 : decode cX8_tellsDue 42 = .ok (.istore 5, 2) := by decide +kernel
theorem dX8_tellsDue_44 : decode cX8_tellsDue 44 = .ok (.iload 5, 2) := by decide +kernel
theorem dX8_tellsDue_46 : decode cX8_tellsDue 46 = .ok (.aload_n 0, 1) := by decide +kernel
theorem dX8_tellsDue_47 : decode cX8_tellsDue 47 = .ok (.getfield 7, 3) := by decide +kernel
theorem dX8_tellsDue_50 : decode cX8_tellsDue 50 = .ok (.sipush 426, 3) := by decide +kernel
theorem dX8_tellsDue_53 : decode cX8_tellsDue 53 = .ok (.iaload, 1) := by decide +kernel
theorem dX8_tellsDue_54 : decode cX8_tellsDue 54 = .ok (.if_icmp .gt 13, 3) := by decide +kernel
theorem dX8_tellsDue_57 : decode cX8_tellsDue 57 = .ok (.aload_n 0, 1) := by decide +kernel
theorem dX8_tellsDue_58 : decode cX8_tellsDue 58 = .ok (.iload 4, 2) := by decide +kernel
theorem dX8_tellsDue_60 : decode cX8_tellsDue 60 = .ok (.iload_n 1, 1) := by decide +kernel
theorem dX8_tellsDue_61 : decode cX8_tellsDue 61 = .ok (.invokevirtual 151, 3) := by decide +kernel
theorem dX8_tellsDue_64 : decode cX8_tellsDue 64 = .ok (.goto 34, 3) := by decide +kernel
theorem dX8_tellsDue_67 : decode cX8_tellsDue 67 = .ok (.aload_n 0, 1) := by decide +kernel
theorem dX8_tellsDue_68 : decode cX8_tellsDue 68 = .ok (.getfield 7, 3) := by decide +kernel
theorem dX8_tellsDue_71 : decode cX8_tellsDue 71 = .ok (.sipush 467, 3) := by decide +kernel
theorem dX8_tellsDue_74 : decode cX8_tellsDue 74 = .ok (.iconst 2, 1) := by decide +kernel
theorem dX8_tellsDue_75 : decode cX8_tellsDue 75 = .ok (.iload_n 2, 1) := by decide +kernel
theorem dX8_tellsDue_76 : decode cX8_tellsDue 76 = .ok (.imul, 1) := by decide +kernel
theorem dX8_tellsDue_77 : decode cX8_tellsDue 77 = .ok (.iadd, 1) := by decide +kernel
theorem dX8_tellsDue_78 : decode cX8_tellsDue 78 = .ok (.iload 4, 2) := by decide +kernel
theorem dX8_tellsDue_80 : decode cX8_tellsDue 80 = .ok (.iastore, 1) := by decide +kernel
theorem dX8_tellsDue_81 : decode cX8_tellsDue 81 = .ok (.aload_n 0, 1) := by decide +kernel
theorem dX8_tellsDue_82 : decode cX8_tellsDue 82 = .ok (.getfield 7, 3) := by decide +kernel
theorem dX8_tellsDue_85 : decode cX8_tellsDue 85 = .ok (.sipush 468, 3) := by decide +kernel
theorem dX8_tellsDue_88 : decode cX8_tellsDue 88 = .ok (.iconst 2, 1) := by decide +kernel
theorem dX8_tellsDue_89 : decode cX8_tellsDue 89 = .ok (.iload_n 2, 1) := by decide +kernel
theorem dX8_tellsDue_90 : decode cX8_tellsDue 90 = .ok (.imul, 1) := by decide +kernel
theorem dX8_tellsDue_91 : decode cX8_tellsDue 91 = .ok (.iadd, 1) := by decide +kernel
theorem dX8_tellsDue_92 : decode cX8_tellsDue 92 = .ok (.iload 5, 2) := by decide +kernel
theorem dX8_tellsDue_94 : decode cX8_tellsDue 94 = .ok (.iastore, 1) := by decide +kernel
theorem dX8_tellsDue_95 : decode cX8_tellsDue 95 = .ok (.iinc 2 1, 3) := by decide +kernel
theorem dX8_tellsDue_98 : decode cX8_tellsDue 98 = .ok (.iinc 3 1, 3) := by decide +kernel
theorem dX8_tellsDue_101 : decode cX8_tellsDue 101 = .ok (.goto (-97), 3) := by decide +kernel
theorem dX8_tellsDue_104 : decode cX8_tellsDue 104 = .ok (.sipush 467, 3) := by decide +kernel
theorem dX8_tellsDue_107 : decode cX8_tellsDue 107 = .ok (.iconst 2, 1) := by decide +kernel
theorem dX8_tellsDue_108 : decode cX8_tellsDue 108 = .ok (.iload_n 2, 1) := by decide +kernel
theorem dX8_tellsDue_109 : decode cX8_tellsDue 109 = .ok (.imul, 1) := by decide +kernel
theorem dX8_tellsDue_110 : decode cX8_tellsDue 110 = .ok (.iadd, 1) := by decide +kernel
theorem dX8_tellsDue_111 : decode cX8_tellsDue 111 = .ok (.istore_n 3, 1) := by decide +kernel
theorem dX8_tellsDue_112 : decode cX8_tellsDue 112 = .ok (.iload_n 3, 1) := by decide +kernel
theorem dX8_tellsDue_113 : decode cX8_tellsDue 113 = .ok (.sipush 659, 3) := by decide +kernel
theorem dX8_tellsDue_116 : decode cX8_tellsDue 116 = .ok (.if_icmp .ge 16, 3) := by decide +kernel
theorem dX8_tellsDue_119 : decode cX8_tellsDue 119 = .ok (.aload_n 0, 1) := by decide +kernel
theorem dX8_tellsDue_120 : decode cX8_tellsDue 120 = .ok (.getfield 7, 3) := by decide +kernel
theorem dX8_tellsDue_123 : decode cX8_tellsDue 123 = .ok (.iload_n 3, 1) := by decide +kernel
theorem dX8_tellsDue_124 : decode cX8_tellsDue 124 = .ok (.iconst 0, 1) := by decide +kernel
theorem dX8_tellsDue_125 : decode cX8_tellsDue 125 = .ok (.iastore, 1) := by decide +kernel
theorem dX8_tellsDue_126 : decode cX8_tellsDue 126 = .ok (.iinc 3 1, 3) := by decide +kernel
theorem dX8_tellsDue_129 : decode cX8_tellsDue 129 = .ok (.goto (-17), 3) := by decide +kernel
theorem dX8_tellsDue_132 : decode cX8_tellsDue 132 = .ok (.aload_n 0, 1) := by decide +kernel
theorem dX8_tellsDue_133 : decode cX8_tellsDue 133 = .ok (.getfield 7, 3) := by decide +kernel
theorem dX8_tellsDue_136 : decode cX8_tellsDue 136 = .ok (.sipush 466, 3) := by decide +kernel
theorem dX8_tellsDue_139 : decode cX8_tellsDue 139 = .ok (.iload_n 2, 1) := by decide +kernel
theorem dX8_tellsDue_140 : decode cX8_tellsDue 140 = .ok (.iastore, 1) := by decide +kernel
theorem dX8_tellsDue_141 : decode cX8_tellsDue 141 = .ok (.return_, 1) := by decide +kernel
theorem dX8_turns_0 : decode cX8_turns 0 = .ok (.iconst 1, 1) := by decide +kernel
theorem dX8_turns_1 : decode cX8_turns 1 = .ok (.istore_n 2, 1) := by decide +kernel
theorem dX8_turns_2 : decode cX8_turns 2 = .ok (.iload_n 2, 1) := by decide +kernel
theorem dX8_turns_3 : decode cX8_turns 3 = .ok (.aload_n 0, 1) := by decide +kernel
theorem dX8_turns_4 : decode cX8_turns 4 = .ok (.getfield 7, 3) := by decide +kernel
theorem dX8_turns_7 : decode cX8_turns 7 = .ok (.sipush 419, 3) := by decide +kernel
theorem dX8_turns_10 : decode cX8_turns 10 = .ok (.iaload, 1) := by decide +kernel
theorem dX8_turns_11 : decode cX8_turns 11 = .ok (.if_icmp .gt 26, 3) := by decide +kernel
theorem dX8_turns_14 : decode cX8_turns 14 = .ok (.iload_n 1, 1) := by decide +kernel
theorem dX8_turns_15 : decode cX8_turns 15 = .ok (.aload_n 0, 1) := by decide +kernel
theorem dX8_turns_16 : decode cX8_turns 16 = .ok (.getfield 7, 3) := by decide +kernel
theorem dX8_turns_19 : decode cX8_turns 19 = .ok (.sipush 419, 3) := by decide +kernel
theorem dX8_turns_22 : decode cX8_turns 22 = .ok (.iload_n 2, 1) := by decide +kernel
theorem dX8_turns_23 : decode cX8_turns 23 = .ok (.iadd, 1) := by decide +kernel
theorem dX8_turns_24 : decode cX8_turns 24 = .ok (.iaload, 1) := by decide +kernel
theorem dX8_turns_25 : decode cX8_turns 25 = .ok (.invokestatic 135, 3) := by decide +kernel
theorem dX8_turns_28 : decode cX8_turns 28 = .ok (.ifCond .ne 9, 3) := by decide +kernel
theorem dX8_turns_31 : decode cX8_turns 31 = .ok (.iinc 2 1, 3) := by decide +kernel
theorem dX8_turns_34 : decode cX8_turns 34 = .ok (.goto (-32), 3) := by decide +kernel
theorem dX8_turns_37 : decode cX8_turns 37 = .ok (.iload_n 2, 1) := by decide +kernel
theorem dX8_turns_38 : decode cX8_turns 38 = .ok (.aload_n 0, 1) := by decide +kernel
theorem dX8_turns_39 : decode cX8_turns 39 = .ok (.getfield 7, 3) := by decide +kernel
theorem dX8_turns_42 : decode cX8_turns 42 = .ok (.sipush 419, 3) := by decide +kernel
theorem dX8_turns_45 : decode cX8_turns 45 = .ok (.iaload, 1) := by decide +kernel
theorem dX8_turns_46 : decode cX8_turns 46 = .ok (.if_icmp .le 4, 3) := by decide +kernel
theorem dX8_turns_49 : decode cX8_turns 49 = .ok (.return_, 1) := by decide +kernel
theorem dX8_turns_50 : decode cX8_turns 50 = .ok (.aload_n 0, 1) := by decide +kernel
theorem dX8_turns_51 : decode cX8_turns 51 = .ok (.getfield 7, 3) := by decide +kernel
theorem dX8_turns_54 : decode cX8_turns 54 = .ok (.sipush 419, 3) := by decide +kernel
theorem dX8_turns_57 : decode cX8_turns 57 = .ok (.iload_n 2, 1) := by decide +kernel
theorem dX8_turns_58 : decode cX8_turns 58 = .ok (.iadd, 1) := by decide +kernel
theorem dX8_turns_59 : decode cX8_turns 59 = .ok (.iaload, 1) := by decide +kernel
theorem dX8_turns_60 : decode cX8_turns 60 = .ok (.istore_n 3, 1) := by decide +kernel
theorem dX8_turns_61 : decode cX8_turns 61 = .ok (.iload_n 3, 1) := by decide +kernel
theorem dX8_turns_62 : decode cX8_turns 62 = .ok (.invokestatic 55, 3) := by decide +kernel
theorem dX8_turns_65 : decode cX8_turns 65 = .ok (.istore 4, 2) := by decide +kernel
theorem dX8_turns_67 : decode cX8_turns 67 = .ok (.aload_n 0, 1) := by decide +kernel
theorem dX8_turns_68 : decode cX8_turns 68 = .ok (.getfield 7, 3) := by decide +kernel
theorem dX8_turns_71 : decode cX8_turns 71 = .ok (.iload 4, 2) := by decide +kernel
theorem dX8_turns_73 : decode cX8_turns 73 = .ok (.bipush 6, 2) := by decide +kernel
theorem dX8_turns_75 : decode cX8_turns 75 = .ok (.iadd, 1) := by decide +kernel
theorem dX8_turns_76 : decode cX8_turns 76 = .ok (.dup2, 1) := by decide +kernel
theorem dX8_turns_77 : decode cX8_turns 77 = .ok (.iaload, 1) := by decide +kernel
theorem dX8_turns_78 : decode cX8_turns 78 = .ok (.iconst 1, 1) := by decide +kernel
theorem dX8_turns_79 : decode cX8_turns 79 = .ok (.iadd, 1) := by decide +kernel
theorem dX8_turns_80 : decode cX8_turns 80 = .ok (.iastore, 1) := by decide +kernel
theorem dX8_turns_81 : decode cX8_turns 81 = .ok (.aload_n 0, 1) := by decide +kernel
theorem dX8_turns_82 : decode cX8_turns 82 = .ok (.getfield 7, 3) := by decide +kernel
theorem dX8_turns_85 : decode cX8_turns 85 = .ok (.iload 4, 2) := by decide +kernel
theorem dX8_turns_87 : decode cX8_turns 87 = .ok (.bipush 6, 2) := by decide +kernel
theorem dX8_turns_89 : decode cX8_turns 89 = .ok (.iadd, 1) := by decide +kernel
theorem dX8_turns_90 : decode cX8_turns 90 = .ok (.iaload, 1) := by decide +kernel
theorem dX8_turns_91 : decode cX8_turns 91 = .ok (.aload_n 0, 1) := by decide +kernel
theorem dX8_turns_92 : decode cX8_turns 92 = .ok (.getfield 7, 3) := by decide +kernel
theorem dX8_turns_95 : decode cX8_turns 95 = .ok (.iload 4, 2) := by decide +kernel
theorem dX8_turns_97 : decode cX8_turns 97 = .ok (.iconst 1, 1) := by decide +kernel
theorem dX8_turns_98 : decode cX8_turns 98 = .ok (.iadd, 1) := by decide +kernel
theorem dX8_turns_99 : decode cX8_turns 99 = .ok (.iaload, 1) := by decide +kernel
theorem dX8_turns_100 : decode cX8_turns 100 = .ok (.if_icmp .lt 78, 3) := by decide +kernel
theorem dX8_turns_103 : decode cX8_turns 103 = .ok (.aload_n 0, 1) := by decide +kernel
theorem dX8_turns_104 : decode cX8_turns 104 = .ok (.getfield 7, 3) := by decide +kernel
theorem dX8_turns_107 : decode cX8_turns 107 = .ok (.iload 4, 2) := by decide +kernel
theorem dX8_turns_109 : decode cX8_turns 109 = .ok (.bipush 6, 2) := by decide +kernel
theorem dX8_turns_111 : decode cX8_turns 111 = .ok (.iadd, 1) := by decide +kernel
theorem dX8_turns_112 : decode cX8_turns 112 = .ok (.iconst 0, 1) := by decide +kernel
theorem dX8_turns_113 : decode cX8_turns 113 = .ok (.iastore, 1) := by decide +kernel
theorem dX8_turns_114 : decode cX8_turns 114 = .ok (.iload_n 2, 1) := by decide +kernel
theorem dX8_turns_115 : decode cX8_turns 115 = .ok (.istore 5, 2) := by decide +kernel
theorem dX8_turns_117 : decode cX8_turns 117 = .ok (.iload 5, 2) := by decide +kernel
theorem dX8_turns_119 : decode cX8_turns 119 = .ok (.aload_n 0, 1) := by decide +kernel
theorem dX8_turns_120 : decode cX8_turns 120 = .ok (.getfield 7, 3) := by decide +kernel
theorem dX8_turns_123 : decode cX8_turns 123 = .ok (.sipush 419, 3) := by decide +kernel
theorem dX8_turns_126 : decode cX8_turns 126 = .ok (.iaload, 1) := by decide +kernel
theorem dX8_turns_127 : decode cX8_turns 127 = .ok (.if_icmp .ge 33, 3) := by decide +kernel
theorem dX8_turns_130 : decode cX8_turns 130 = .ok (.aload_n 0, 1) := by decide +kernel
theorem dX8_turns_131 : decode cX8_turns 131 = .ok (.getfield 7, 3) := by decide +kernel
theorem dX8_turns_134 : decode cX8_turns 134 = .ok (.sipush 419, 3) := by decide +kernel
theorem dX8_turns_137 : decode cX8_turns 137 = .ok (.iload 5, 2) := by decide +kernel
theorem dX8_turns_139 : decode cX8_turns 139 = .ok (.iadd, 1) := by decide +kernel
theorem dX8_turns_140 : decode cX8_turns 140 = .ok (.aload_n 0, 1) := by decide +kernel
theorem dX8_turns_141 : decode cX8_turns 141 = .ok (.getfield 7, 3) := by decide +kernel
theorem dX8_turns_144 : decode cX8_turns 144 = .ok (.sipush 419, 3) := by decide +kernel
theorem dX8_turns_147 : decode cX8_turns 147 = .ok (.iload 5, 2) := by decide +kernel
theorem dX8_turns_149 : decode cX8_turns 149 = .ok (.iadd, 1) := by decide +kernel
theorem dX8_turns_150 : decode cX8_turns 150 = .ok (.iconst 1, 1) := by decide +kernel
theorem dX8_turns_151 : decode cX8_turns 151 = .ok (.iadd, 1) := by decide +kernel
theorem dX8_turns_152 : decode cX8_turns 152 = .ok (.iaload, 1) := by decide +kernel
theorem dX8_turns_153 : decode cX8_turns 153 = .ok (.iastore, 1) := by decide +kernel
theorem dX8_turns_154 : decode cX8_turns 154 = .ok (.iinc 5 1, 3) := by decide +kernel
theorem dX8_turns_157 : decode cX8_turns 157 = .ok (.goto (-40), 3) := by decide +kernel
theorem dX8_turns_160 : decode cX8_turns 160 = .ok (.aload_n 0, 1) := by decide +kernel
theorem dX8_turns_161 : decode cX8_turns 161 = .ok (.getfield 7, 3) := by decide +kernel
theorem dX8_turns_164 : decode cX8_turns 164 = .ok (.sipush 419, 3) := by decide +kernel
theorem dX8_turns_167 : decode cX8_turns 167 = .ok (.aload_n 0, 1) := by decide +kernel
theorem dX8_turns_168 : decode cX8_turns 168 = .ok (.getfield 7, 3) := by decide +kernel
theorem dX8_turns_171 : decode cX8_turns 171 = .ok (.sipush 419, 3) := by decide +kernel
theorem dX8_turns_174 : decode cX8_turns 174 = .ok (.iaload, 1) := by decide +kernel
theorem dX8_turns_175 : decode cX8_turns 175 = .ok (.iadd, 1) := by decide +kernel
theorem dX8_turns_176 : decode cX8_turns 176 = .ok (.iload_n 3, 1) := by decide +kernel
theorem dX8_turns_177 : decode cX8_turns 177 = .ok (.iastore, 1) := by decide +kernel
theorem dX8_turns_178 : decode cX8_turns 178 = .ok (.return_, 1) := by decide +kernel
theorem dX8_goes_0 : decode cX8_goes 0 = .ok (.iconst 0, 1) := by decide +kernel
theorem dX8_goes_1 : decode cX8_goes 1 = .ok (.istore_n 3, 1) := by decide +kernel
theorem dX8_goes_2 : decode cX8_goes 2 = .ok (.iload_n 3, 1) := by decide +kernel
theorem dX8_goes_3 : decode cX8_goes 3 = .ok (.iload_n 2, 1) := by decide +kernel
theorem dX8_goes_4 : decode cX8_goes 4 = .ok (.if_icmp .ge 57, 3) := by decide +kernel
theorem dX8_goes_7 : decode cX8_goes 7 = .ok (.aload_n 0, 1) := by decide +kernel
theorem dX8_goes_8 : decode cX8_goes 8 = .ok (.iload_n 1, 1) := by decide +kernel
theorem dX8_goes_9 : decode cX8_goes 9 = .ok (.invokevirtual 154, 3) := by decide +kernel
theorem dX8_goes_12 : decode cX8_goes 12 = .ok (.istore 4, 2) := by decide +kernel
theorem dX8_goes_14 : decode cX8_goes 14 = .ok (.aload_n 0, 1) := by decide +kernel
theorem dX8_goes_15 : decode cX8_goes 15 = .ok (.iload 4, 2) := by decide +kernel
theorem dX8_goes_17 : decode cX8_goes 17 = .ok (.invokevirtual 157, 3) := by decide +kernel
theorem dX8_goes_20 : decode cX8_goes 20 = .ok (.aload_n 0, 1) := by decide +kernel
theorem dX8_goes_21 : decode cX8_goes 21 = .ok (.iload_n 1, 1) := by decide +kernel
theorem dX8_goes_22 : decode cX8_goes 22 = .ok (.iload 4, 2) := by decide +kernel
theorem dX8_goes_24 : decode cX8_goes 24 = .ok (.invokevirtual 161, 3) := by decide +kernel
theorem dX8_goes_27 : decode cX8_goes 27 = .ok (.aload_n 0, 1) := by decide +kernel
theorem dX8_goes_28 : decode cX8_goes 28 = .ok (.iload_n 1, 1) := by decide +kernel
theorem dX8_goes_29 : decode cX8_goes 29 = .ok (.invokevirtual 164, 3) := by decide +kernel
theorem dX8_goes_32 : decode cX8_goes 32 = .ok (.aload_n 0, 1) := by decide +kernel
theorem dX8_goes_33 : decode cX8_goes 33 = .ok (.iload_n 1, 1) := by decide +kernel
theorem dX8_goes_34 : decode cX8_goes 34 = .ok (.invokevirtual 167, 3) := by decide +kernel
theorem dX8_goes_37 : decode cX8_goes 37 = .ok (.aload_n 0, 1) := by decide +kernel
theorem dX8_goes_38 : decode cX8_goes 38 = .ok (.iload 4, 2) := by decide +kernel
theorem dX8_goes_40 : decode cX8_goes 40 = .ok (.invokevirtual 170, 3) := by decide +kernel
theorem dX8_goes_43 : decode cX8_goes 43 = .ok (.aload_n 0, 1) := by decide +kernel
theorem dX8_goes_44 : decode cX8_goes 44 = .ok (.getfield 7, 3) := by decide +kernel
theorem dX8_goes_47 : decode cX8_goes 47 = .ok (.sipush 426, 3) := by decide +kernel
theorem dX8_goes_50 : decode cX8_goes 50 = .ok (.dup2, 1) := by decide +kernel
theorem dX8_goes_51 : decode cX8_goes 51 = .ok (.iaload, 1) := by decide +kernel
theorem dX8_goes_52 : decode cX8_goes 52 = .ok (.iconst 1, 1) := by decide +kernel
theorem dX8_goes_53 : decode cX8_goes 53 = .ok (.iadd, 1) := by decide +kernel
theorem dX8_goes_54 : decode cX8_goes 54 = .ok (.iastore, 1) := by decide +kernel
theorem dX8_goes_55 : decode cX8_goes 55 = .ok (.iinc 3 1, 3) := by decide +kernel
theorem dX8_goes_58 : decode cX8_goes 58 = .ok (.goto (-56), 3) := by decide +kernel
theorem dX8_goes_61 : decode cX8_goes 61 = .ok (.aload_n 0, 1) := by decide +kernel
theorem dX8_goes_62 : decode cX8_goes 62 = .ok (.getfield 7, 3) := by decide +kernel
theorem dX8_goes_65 : decode cX8_goes 65 = .ok (.sipush 426, 3) := by decide +kernel
theorem dX8_goes_68 : decode cX8_goes 68 = .ok (.iaload, 1) := by decide +kernel
theorem dX8_goes_69 : decode cX8_goes 69 = .ok (.ireturn, 1) := by decide +kernel
theorem dX8_isRun_0 : decode cX8_isRun 0 = .ok (.aload_n 0, 1) := by decide +kernel
theorem dX8_isRun_1 : decode cX8_isRun 1 = .ok (.iload_n 1, 1) := by decide +kernel
theorem dX8_isRun_2 : decode cX8_isRun 2 = .ok (.invokevirtual 86, 3) := by decide +kernel
theorem dX8_isRun_5 : decode cX8_isRun 5 = .ok (.ifCond .eq 17, 3) := by decide +kernel
theorem dX8_isRun_8 : decode cX8_isRun 8 = .ok (.iload_n 2, 1) := by decide +kernel
theorem dX8_isRun_9 : decode cX8_isRun 9 = .ok (.iconst 1, 1) := by decide +kernel
theorem dX8_isRun_10 : decode cX8_isRun 10 = .ok (.bipush 20, 2) := by decide +kernel
theorem dX8_isRun_12 : decode cX8_isRun 12 = .ok (.invokestatic 51, 3) := by decide +kernel
theorem dX8_isRun_15 : decode cX8_isRun 15 = .ok (.ifCond .eq 7, 3) := by decide +kernel
theorem dX8_isRun_18 : decode cX8_isRun 18 = .ok (.iconst 1, 1) := by decide +kernel
theorem dX8_isRun_19 : decode cX8_isRun 19 = .ok (.goto 4, 3) := by decide +kernel
theorem dX8_isRun_22 : decode cX8_isRun 22 = .ok (.iconst 0, 1) := by decide +kernel
theorem dX8_isRun_23 : decode cX8_isRun 23 = .ok (.ireturn, 1) := by decide +kernel
theorem dX8_runs_0 : decode cX8_runs 0 = .ok (.aload_n 0, 1) := by decide +kernel
theorem dX8_runs_1 : decode cX8_runs 1 = .ok (.iload_n 1, 1) := by decide +kernel
theorem dX8_runs_2 : decode cX8_runs 2 = .ok (.iload_n 2, 1) := by decide +kernel
theorem dX8_runs_3 : decode cX8_runs 3 = .ok (.invokevirtual 173, 3) := by decide +kernel
theorem dX8_runs_6 : decode cX8_runs 6 = .ok (.ifCond .ne 8, 3) := by decide +kernel
theorem dX8_runs_9 : decode cX8_runs 9 = .ok (.aload_n 0, 1) := by decide +kernel
theorem dX8_runs_10 : decode cX8_runs 10 = .ok (.invokevirtual 70, 3) := by decide +kernel
theorem dX8_runs_13 : decode cX8_runs 13 = .ok (.ireturn, 1) := by decide +kernel
theorem dX8_runs_14 : decode cX8_runs 14 = .ok (.aload_n 0, 1) := by decide +kernel
theorem dX8_runs_15 : decode cX8_runs 15 = .ok (.iload_n 1, 1) := by decide +kernel
theorem dX8_runs_16 : decode cX8_runs 16 = .ok (.invokevirtual 95, 3) := by decide +kernel
theorem dX8_runs_19 : decode cX8_runs 19 = .ok (.ifCond .eq 8, 3) := by decide +kernel
theorem dX8_runs_22 : decode cX8_runs 22 = .ok (.aload_n 0, 1) := by decide +kernel
theorem dX8_runs_23 : decode cX8_runs 23 = .ok (.invokevirtual 47, 3) := by decide +kernel
theorem dX8_runs_26 : decode cX8_runs 26 = .ok (.ireturn, 1) := by decide +kernel
theorem dX8_runs_27 : decode cX8_runs 27 = .ok (.aload_n 0, 1) := by decide +kernel
theorem dX8_runs_28 : decode cX8_runs 28 = .ok (.invokevirtual 73, 3) := by decide +kernel
theorem dX8_runs_31 : decode cX8_runs 31 = .ok (.aload_n 0, 1) := by decide +kernel
theorem dX8_runs_32 : decode cX8_runs 32 = .ok (.iload_n 1, 1) := by decide +kernel
theorem dX8_runs_33 : decode cX8_runs 33 = .ok (.iload_n 2, 1) := by decide +kernel
theorem dX8_runs_34 : decode cX8_runs 34 = .ok (.invokevirtual 176, 3) := by decide +kernel
theorem dX8_runs_37 : decode cX8_runs 37 = .ok (.ireturn, 1) := by decide +kernel
theorem dX8_aboutTask_0 : decode cX8_aboutTask 0 = .ok (.iload_n 2, 1) := by decide +kernel
theorem dX8_aboutTask_1 : decode cX8_aboutTask 1 = .ok (.iconst 2, 1) := by decide +kernel
theorem dX8_aboutTask_2 : decode cX8_aboutTask 2 = .ok (.if_icmp .ne 11, 3) := by decide +kernel
theorem dX8_aboutTask_5 : decode cX8_aboutTask 5 = .ok (.aload_n 0, 1) := by decide +kernel
theorem dX8_aboutTask_6 : decode cX8_aboutTask 6 = .ok (.iload_n 1, 1) := by decide +kernel
theorem dX8_aboutTask_7 : decode cX8_aboutTask 7 = .ok (.invokevirtual 154, 3) := by decide +kernel
theorem dX8_aboutTask_10 : decode cX8_aboutTask 10 = .ok (.goto 14, 3) := by decide +kernel
theorem dX8_aboutTask_13 : decode cX8_aboutTask 13 = .ok (.aload_n 0, 1) := by decide +kernel
theorem dX8_aboutTask_14 : decode cX8_aboutTask 14 = .ok (.getfield 7, 3) := by decide +kernel
theorem dX8_aboutTask_17 : decode cX8_aboutTask 17 = .ok (.iload_n 1, 1) := by decide +kernel
theorem dX8_aboutTask_18 : decode cX8_aboutTask 18 = .ok (.invokestatic 67, 3) := by decide +kernel
theorem dX8_aboutTask_21 : decode cX8_aboutTask 21 = .ok (.iload_n 2, 1) := by decide +kernel
theorem dX8_aboutTask_22 : decode cX8_aboutTask 22 = .ok (.iadd, 1) := by decide +kernel
theorem dX8_aboutTask_23 : decode cX8_aboutTask 23 = .ok (.iaload, 1) := by decide +kernel
theorem dX8_aboutTask_24 : decode cX8_aboutTask 24 = .ok (.ireturn, 1) := by decide +kernel
theorem dX8_task_0 : decode cX8_task 0 = .ok (.aload_n 0, 1) := by decide +kernel
theorem dX8_task_1 : decode cX8_task 1 = .ok (.iload_n 1, 1) := by decide +kernel
theorem dX8_task_2 : decode cX8_task 2 = .ok (.invokevirtual 86, 3) := by decide +kernel
theorem dX8_task_5 : decode cX8_task 5 = .ok (.ifCond .eq 21, 3) := by decide +kernel
theorem dX8_task_8 : decode cX8_task 8 = .ok (.iload_n 2, 1) := by decide +kernel
theorem dX8_task_9 : decode cX8_task 9 = .ok (.iconst 0, 1) := by decide +kernel
theorem dX8_task_10 : decode cX8_task 10 = .ok (.iconst 2, 1) := by decide +kernel
theorem dX8_task_11 : decode cX8_task 11 = .ok (.invokestatic 51, 3) := by decide +kernel
theorem dX8_task_14 : decode cX8_task 14 = .ok (.ifCond .eq 12, 3) := by decide +kernel
theorem dX8_task_17 : decode cX8_task 17 = .ok (.aload_n 0, 1) := by decide +kernel
theorem dX8_task_18 : decode cX8_task 18 = .ok (.iload_n 1, 1) := by decide +kernel
theorem dX8_task_19 : decode cX8_task 19 = .ok (.iload_n 2, 1) := by decide +kernel
theorem dX8_task_20 : decode cX8_task 20 = .ok (.invokevirtual 179, 3) := by decide +kernel
theorem dX8_task_23 : decode cX8_task 23 = .ok (.goto 7, 3) := by decide +kernel
theorem dX8_task_26 : decode cX8_task 26 = .ok (.aload_n 0, 1) := by decide +kernel
theorem dX8_task_27 : decode cX8_task 27 = .ok (.invokevirtual 70, 3) := by decide +kernel
theorem dX8_task_30 : decode cX8_task 30 = .ok (.ireturn, 1) := by decide +kernel
theorem dX8_placeOf_0 : decode cX8_placeOf 0 = .ok (.iconst (-1), 1) := by decide +kernel
theorem dX8_placeOf_1 : decode cX8_placeOf 1 = .ok (.istore_n 2, 1) := by decide +kernel
theorem dX8_placeOf_2 : decode cX8_placeOf 2 = .ok (.iconst 1, 1) := by decide +kernel
theorem dX8_placeOf_3 : decode cX8_placeOf 3 = .ok (.istore_n 3, 1) := by decide +kernel
theorem dX8_placeOf_4 : decode cX8_placeOf 4 = .ok (.iload_n 3, 1) := by decide +kernel
theorem dX8_placeOf_5 : decode cX8_placeOf 5 = .ok (.aload_n 0, 1) := by decide +kernel
theorem dX8_placeOf_6 : decode cX8_placeOf 6 = .ok (.getfield 7, 3) := by decide +kernel
theorem dX8_placeOf_9 : decode cX8_placeOf 9 = .ok (.sipush 419, 3) := by decide +kernel
theorem dX8_placeOf_12 : decode cX8_placeOf 12 = .ok (.iaload, 1) := by decide +kernel
theorem dX8_placeOf_13 : decode cX8_placeOf 13 = .ok (.if_icmp .gt 31, 3) := by decide +kernel
theorem dX8_placeOf_16 : decode cX8_placeOf 16 = .ok (.aload_n 0, 1) := by decide +kernel
theorem dX8_placeOf_17 : decode cX8_placeOf 17 = .ok (.getfield 7, 3) := by decide +kernel
theorem dX8_placeOf_20 : decode cX8_placeOf 20 = .ok (.sipush 419, 3) := by decide +kernel
theorem dX8_placeOf_23 : decode cX8_placeOf 23 = .ok (.iload_n 3, 1) := by decide +kernel
theorem dX8_placeOf_24 : decode cX8_placeOf 24 = .ok (.iadd, 1) := by decide +kernel
theorem dX8_placeOf_25 : decode cX8_placeOf 25 = .ok (.iaload, 1) := by decide +kernel
theorem dX8_placeOf_26 : decode cX8_placeOf 26 = .ok (.iload_n 1, 1) := by decide +kernel
theorem dX8_placeOf_27 : decode cX8_placeOf 27 = .ok (.if_icmp .ne 9, 3) := by decide +kernel
theorem dX8_placeOf_30 : decode cX8_placeOf 30 = .ok (.iload_n 3, 1) := by decide +kernel
theorem dX8_placeOf_31 : decode cX8_placeOf 31 = .ok (.iconst 1, 1) := by decide +kernel
theorem dX8_placeOf_32 : decode cX8_placeOf 32 = .ok (.isub, 1) := by decide +kernel
theorem dX8_placeOf_33 : decode cX8_placeOf 33 = .ok (.goto 4, 3) := by decide +kernel
theorem dX8_placeOf_36 : decode cX8_placeOf 36 = .ok (.iload_n 2, 1) := by decide +kernel
theorem dX8_placeOf_37 : decode cX8_placeOf 37 = .ok (.istore_n 2, 1) := by decide +kernel
theorem dX8_placeOf_38 : decode cX8_placeOf 38 = .ok (.iinc 3 1, 3) := by decide +kernel
theorem dX8_placeOf_41 : decode cX8_placeOf 41 = .ok (.goto (-37), 3) := by decide +kernel
theorem dX8_placeOf_44 : decode cX8_placeOf 44 = .ok (.iload_n 2, 1) := by decide +kernel
theorem dX8_placeOf_45 : decode cX8_placeOf 45 = .ok (.ireturn, 1) := by decide +kernel
theorem dX8_aboutGroup_0 : decode cX8_aboutGroup 0 = .ok (.iload_n 2, 1) := by decide +kernel
theorem dX8_aboutGroup_1 : decode cX8_aboutGroup 1 = .ok (.bipush 9, 2) := by decide +kernel
theorem dX8_aboutGroup_3 : decode cX8_aboutGroup 3 = .ok (.if_icmp .ne 11, 3) := by decide +kernel
theorem dX8_aboutGroup_6 : decode cX8_aboutGroup 6 = .ok (.aload_n 0, 1) := by decide +kernel
theorem dX8_aboutGroup_7 : decode cX8_aboutGroup 7 = .ok (.iload_n 1, 1) := by decide +kernel
theorem dX8_aboutGroup_8 : decode cX8_aboutGroup 8 = .ok (.invokevirtual 182, 3) := by decide +kernel
theorem dX8_aboutGroup_11 : decode cX8_aboutGroup 11 = .ok (.goto 20, 3) := by decide +kernel
theorem dX8_aboutGroup_14 : decode cX8_aboutGroup 14 = .ok (.aload_n 0, 1) := by decide +kernel
theorem dX8_aboutGroup_15 : decode cX8_aboutGroup 15 = .ok (.iload_n 1, 1) := by decide +kernel
theorem dX8_aboutGroup_16 : decode cX8_aboutGroup 16 = .ok (.iload_n 2, 1) := by decide +kernel
theorem dX8_aboutGroup_17 : decode cX8_aboutGroup 17 = .ok (.bipush 10, 2) := by decide +kernel
theorem dX8_aboutGroup_19 : decode cX8_aboutGroup 19 = .ok (.if_icmp .ne 8, 3) := by decide +kernel
theorem dX8_aboutGroup_22 : decode cX8_aboutGroup 22 = .ok (.bipush 9, 2) := by decide +kernel
theorem dX8_aboutGroup_24 : decode cX8_aboutGroup 24 = .ok (.goto 4, 3) := by decide +kernel
theorem dX8_aboutGroup_27 : decode cX8_aboutGroup 27 = .ok (.iload_n 2, 1) := by decide +kernel
theorem dX8_aboutGroup_28 : decode cX8_aboutGroup 28 = .ok (.invokevirtual 63, 3) := by decide +kernel
theorem dX8_aboutGroup_31 : decode cX8_aboutGroup 31 = .ok (.ireturn, 1) := by decide +kernel
theorem dX8_of_0 : decode cX8_of 0 = .ok (.aload_n 0, 1) := by decide +kernel
theorem dX8_of_1 : decode cX8_of 1 = .ok (.iload_n 1, 1) := by decide +kernel
theorem dX8_of_2 : decode cX8_of 2 = .ok (.invokevirtual 59, 3) := by decide +kernel
theorem dX8_of_5 : decode cX8_of 5 = .ok (.ifCond .eq 22, 3) := by decide +kernel
theorem dX8_of_8 : decode cX8_of 8 = .ok (.iload_n 2, 1) := by decide +kernel
theorem dX8_of_9 : decode cX8_of 9 = .ok (.iconst 0, 1) := by decide +kernel
theorem dX8_of_10 : decode cX8_of 10 = .ok (.bipush 10, 2) := by decide +kernel
theorem dX8_of_12 : decode cX8_of 12 = .ok (.invokestatic 51, 3) := by decide +kernel
theorem dX8_of_15 : decode cX8_of 15 = .ok (.ifCond .eq 12, 3) := by decide +kernel
theorem dX8_of_18 : decode cX8_of 18 = .ok (.aload_n 0, 1) := by decide +kernel
theorem dX8_of_19 : decode cX8_of 19 = .ok (.iload_n 1, 1) := by decide +kernel
theorem dX8_of_20 : decode cX8_of 20 = .ok (.iload_n 2, 1) := by decide +kernel
theorem dX8_of_21 : decode cX8_of 21 = .ok (.invokevirtual 185, 3) := by decide +kernel
theorem dX8_of_24 : decode cX8_of 24 = .ok (.goto 7, 3) := by decide +kernel
theorem dX8_of_27 : decode cX8_of 27 = .ok (.aload_n 0, 1) := by decide +kernel
theorem dX8_of_28 : decode cX8_of 28 = .ok (.invokevirtual 70, 3) := by decide +kernel
theorem dX8_of_31 : decode cX8_of 31 = .ok (.ireturn, 1) := by decide +kernel
theorem dX8_about_0 : decode cX8_about 0 = .ok (.aload_n 0, 1) := by decide +kernel
theorem dX8_about_1 : decode cX8_about 1 = .ok (.iload_n 1, 1) := by decide +kernel
theorem dX8_about_2 : decode cX8_about 2 = .ok (.iload_n 2, 1) := by decide +kernel
theorem dX8_about_3 : decode cX8_about 3 = .ok (.invokevirtual 188, 3) := by decide +kernel
theorem dX8_about_6 : decode cX8_about 6 = .ok (.ifCond .eq 27, 3) := by decide +kernel
theorem dX8_about_9 : decode cX8_about 9 = .ok (.iload_n 3, 1) := by decide +kernel
theorem dX8_about_10 : decode cX8_about 10 = .ok (.iconst 0, 1) := by decide +kernel
theorem dX8_about_11 : decode cX8_about 11 = .ok (.iconst 2, 1) := by decide +kernel
theorem dX8_about_12 : decode cX8_about 12 = .ok (.invokestatic 51, 3) := by decide +kernel
theorem dX8_about_15 : decode cX8_about 15 = .ok (.ifCond .eq 18, 3) := by decide +kernel
theorem dX8_about_18 : decode cX8_about 18 = .ok (.aload_n 0, 1) := by decide +kernel
theorem dX8_about_19 : decode cX8_about 19 = .ok (.getfield 7, 3) := by decide +kernel
theorem dX8_about_22 : decode cX8_about 22 = .ok (.iload_n 1, 1) := by decide +kernel
theorem dX8_about_23 : decode cX8_about 23 = .ok (.iload_n 2, 1) := by decide +kernel
theorem dX8_about_24 : decode cX8_about 24 = .ok (.invokestatic 115, 3) := by decide +kernel
theorem dX8_about_27 : decode cX8_about 27 = .ok (.iload_n 3, 1) := by decide +kernel
theorem dX8_about_28 : decode cX8_about 28 = .ok (.iadd, 1) := by decide +kernel
theorem dX8_about_29 : decode cX8_about 29 = .ok (.iaload, 1) := by decide +kernel
theorem dX8_about_30 : decode cX8_about 30 = .ok (.goto 7, 3) := by decide +kernel
theorem dX8_about_33 : decode cX8_about 33 = .ok (.aload_n 0, 1) := by decide +kernel
theorem dX8_about_34 : decode cX8_about 34 = .ok (.invokevirtual 70, 3) := by decide +kernel
theorem dX8_about_37 : decode cX8_about 37 = .ok (.ireturn, 1) := by decide +kernel
theorem dX8_sumAt_0 : decode cX8_sumAt 0 = .ok (.iconst 0, 1) := by decide +kernel
theorem dX8_sumAt_1 : decode cX8_sumAt 1 = .ok (.istore_n 3, 1) := by decide +kernel
theorem dX8_sumAt_2 : decode cX8_sumAt 2 = .ok (.iconst 0, 1) := by decide +kernel
theorem dX8_sumAt_3 : decode cX8_sumAt 3 = .ok (.istore 4, 2) := by decide +kernel
theorem dX8_sumAt_5 : decode cX8_sumAt 5 = .ok (.iload 4, 2) := by decide +kernel
theorem dX8_sumAt_7 : decode cX8_sumAt 7 = .ok (.bipush 6, 2) := by decide +kernel
theorem dX8_sumAt_9 : decode cX8_sumAt 9 = .ok (.if_icmp .ge 36, 3) := by decide +kernel
theorem dX8_sumAt_12 : decode cX8_sumAt 12 = .ok (.iload_n 3, 1) := by decide +kernel
theorem dX8_sumAt_13 : decode cX8_sumAt 13 = .ok (.iload_n 2, 1) := by decide +kernel
theorem dX8_sumAt_14 : decode cX8_sumAt 14 = .ok (.iconst (-1), 1) := by decide +kernel
theorem dX8_sumAt_15 : decode cX8_sumAt 15 = .ok (.if_icmp .eq 9, 3) := by decide +kernel
theorem dX8_sumAt_18 : decode cX8_sumAt 18 = .ok (.iload_n 2, 1) := by decide +kernel
theorem dX8_sumAt_19 : decode cX8_sumAt 19 = .ok (.iload 4, 2) := by decide +kernel
theorem dX8_sumAt_21 : decode cX8_sumAt 21 = .ok (.if_icmp .ne 15, 3) := by decide +kernel
theorem dX8_sumAt_24 : decode cX8_sumAt 24 = .ok (.aload_n 0, 1) := by decide +kernel
theorem dX8_sumAt_25 : decode cX8_sumAt 25 = .ok (.getfield 7, 3) := by decide +kernel
theorem dX8_sumAt_28 : decode cX8_sumAt 28 = .ok (.iload_n 1, 1) := by decide +kernel
theorem dX8_sumAt_29 : decode cX8_sumAt 29 = .ok (.iload 4, 2) := by decide +kernel
theorem dX8_sumAt_31 : decode cX8_sumAt 31 = .ok (.iadd, 1) := by decide +kernel
theorem dX8_sumAt_32 : decode cX8_sumAt 32 = .ok (.iaload, 1) := by decide +kernel
theorem dX8_sumAt_33 : decode cX8_sumAt 33 = .ok (.goto 4, 3) := by decide +kernel
theorem dX8_sumAt_36 : decode cX8_sumAt 36 = .ok (.iconst 0, 1) := by decide +kernel
theorem dX8_sumAt_37 : decode cX8_sumAt 37 = .ok (.iadd, 1) := by decide +kernel
theorem dX8_sumAt_38 : decode cX8_sumAt 38 = .ok (.istore_n 3, 1) := by decide +kernel
theorem dX8_sumAt_39 : decode cX8_sumAt 39 = .ok (.iinc 4 1, 3) := by decide +kernel
theorem dX8_sumAt_42 : decode cX8_sumAt 42 = .ok (.goto (-37), 3) := by decide +kernel
theorem dX8_sumAt_45 : decode cX8_sumAt 45 = .ok (.iload_n 3, 1) := by decide +kernel
theorem dX8_sumAt_46 : decode cX8_sumAt 46 = .ok (.ireturn, 1) := by decide +kernel
theorem dX8_count_0 : decode cX8_count 0 = .ok (.aload_n 0, 1) := by decide +kernel
theorem dX8_count_1 : decode cX8_count 1 = .ok (.iload_n 1, 1) := by decide +kernel
theorem dX8_count_2 : decode cX8_count 2 = .ok (.iload_n 2, 1) := by decide +kernel
theorem dX8_count_3 : decode cX8_count 3 = .ok (.invokevirtual 188, 3) := by decide +kernel
theorem dX8_count_6 : decode cX8_count 6 = .ok (.ifCond .eq 30, 3) := by decide +kernel
theorem dX8_count_9 : decode cX8_count 9 = .ok (.iload_n 3, 1) := by decide +kernel
theorem dX8_count_10 : decode cX8_count 10 = .ok (.iconst (-1), 1) := by decide +kernel
theorem dX8_count_11 : decode cX8_count 11 = .ok (.if_icmp .eq 11, 3) := by decide +kernel
theorem dX8_count_14 : decode cX8_count 14 = .ok (.aload_n 0, 1) := by decide +kernel
theorem dX8_count_15 : decode cX8_count 15 = .ok (.iload_n 3, 1) := by decide +kernel
theorem dX8_count_16 : decode cX8_count 16 = .ok (.invokevirtual 86, 3) := by decide +kernel
theorem dX8_count_19 : decode cX8_count 19 = .ok (.ifCond .eq 17, 3) := by decide +kernel
theorem dX8_count_22 : decode cX8_count 22 = .ok (.aload_n 0, 1) := by decide +kernel
theorem dX8_count_23 : decode cX8_count 23 = .ok (.iload_n 1, 1) := by decide +kernel
theorem dX8_count_24 : decode cX8_count 24 = .ok (.iload_n 2, 1) := by decide +kernel
theorem dX8_count_25 : decode cX8_count 25 = .ok (.iconst 0, 1) := by decide +kernel
theorem dX8_count_26 : decode cX8_count 26 = .ok (.invokestatic 111, 3) := by decide +kernel
theorem dX8_count_29 : decode cX8_count 29 = .ok (.iload_n 3, 1) := by decide +kernel
theorem dX8_count_30 : decode cX8_count 30 = .ok (.invokevirtual 191, 3) := by decide +kernel
theorem dX8_count_33 : decode cX8_count 33 = .ok (.goto 7, 3) := by decide +kernel
theorem dX8_count_36 : decode cX8_count 36 = .ok (.aload_n 0, 1) := by decide +kernel
theorem dX8_count_37 : decode cX8_count 37 = .ok (.invokevirtual 70, 3) := by decide +kernel
theorem dX8_count_40 : decode cX8_count 40 = .ok (.ireturn, 1) := by decide +kernel
theorem dX8_times_0 : decode cX8_times 0 = .ok (.aload_n 0, 1) := by decide +kernel
theorem dX8_times_1 : decode cX8_times 1 = .ok (.iload_n 1, 1) := by decide +kernel
theorem dX8_times_2 : decode cX8_times 2 = .ok (.invokevirtual 59, 3) := by decide +kernel
theorem dX8_times_5 : decode cX8_times 5 = .ok (.ifCond .eq 29, 3) := by decide +kernel
theorem dX8_times_8 : decode cX8_times 8 = .ok (.iload_n 2, 1) := by decide +kernel
theorem dX8_times_9 : decode cX8_times 9 = .ok (.iconst (-1), 1) := by decide +kernel
theorem dX8_times_10 : decode cX8_times 10 = .ok (.if_icmp .eq 11, 3) := by decide +kernel
theorem dX8_times_13 : decode cX8_times 13 = .ok (.aload_n 0, 1) := by decide +kernel
theorem dX8_times_14 : decode cX8_times 14 = .ok (.iload_n 2, 1) := by decide +kernel
theorem dX8_times_15 : decode cX8_times 15 = .ok (.invokevirtual 86, 3) := by decide +kernel
theorem dX8_times_18 : decode cX8_times 18 = .ok (.ifCond .eq 16, 3) := by decide +kernel
theorem dX8_times_21 : decode cX8_times 21 = .ok (.iload_n 3, 1) := by decide +kernel
theorem dX8_times_22 : decode cX8_times 22 = .ok (.iconst 0, 1) := by decide +kernel
theorem dX8_times_23 : decode cX8_times 23 = .ok (.iconst 1, 1) := by decide +kernel
theorem dX8_times_24 : decode cX8_times 24 = .ok (.invokestatic 51, 3) := by decide +kernel
theorem dX8_times_27 : decode cX8_times 27 = .ok (.ifCond .eq 7, 3) := by decide +kernel
theorem dX8_times_30 : decode cX8_times 30 = .ok (.iconst 1, 1) := by decide +kernel
theorem dX8_times_31 : decode cX8_times 31 = .ok (.goto 4, 3) := by decide +kernel
theorem dX8_times_34 : decode cX8_times 34 = .ok (.iconst 0, 1) := by decide +kernel
theorem dX8_times_35 : decode cX8_times 35 = .ok (.istore 4, 2) := by decide +kernel
theorem dX8_times_37 : decode cX8_times 37 = .ok (.iload 4, 2) := by decide +kernel
theorem dX8_times_39 : decode cX8_times 39 = .ok (.ifCond .eq 27, 3) := by decide +kernel
theorem dX8_times_42 : decode cX8_times 42 = .ok (.aload_n 0, 1) := by decide +kernel
theorem dX8_times_43 : decode cX8_times 43 = .ok (.iload_n 1, 1) := by decide +kernel
theorem dX8_times_44 : decode cX8_times 44 = .ok (.invokestatic 55, 3) := by decide +kernel
theorem dX8_times_47 : decode cX8_times 47 = .ok (.iload_n 3, 1) := by decide +kernel
theorem dX8_times_48 : decode cX8_times 48 = .ok (.ifCond .ne 8, 3) := by decide +kernel
theorem dX8_times_51 : decode cX8_times 51 = .ok (.bipush 46, 2) := by decide +kernel
theorem dX8_times_53 : decode cX8_times 53 = .ok (.goto 5, 3) := by decide +kernel
theorem dX8_times_56 : decode cX8_times 56 = .ok (.bipush 52, 2) := by decide +kernel
theorem dX8_times_58 : decode cX8_times 58 = .ok (.iadd, 1) := by decide +kernel
theorem dX8_times_59 : decode cX8_times 59 = .ok (.iload_n 2, 1) := by decide +kernel
theorem dX8_times_60 : decode cX8_times 60 = .ok (.invokevirtual 191, 3) := by decide +kernel
theorem dX8_times_63 : decode cX8_times 63 = .ok (.goto 7, 3) := by decide +kernel
theorem dX8_times_66 : decode cX8_times 66 = .ok (.aload_n 0, 1) := by decide +kernel
theorem dX8_times_67 : decode cX8_times 67 = .ok (.invokevirtual 70, 3) := by decide +kernel
theorem dX8_times_70 : decode cX8_times 70 = .ok (.ireturn, 1) := by decide +kernel
theorem dX8_scaledOf_0 : decode cX8_scaledOf 0 = .ok (.aload_n 0, 1) := by decide +kernel
theorem dX8_scaledOf_1 : decode cX8_scaledOf 1 = .ok (.iload_n 1, 1) := by decide +kernel
theorem dX8_scaledOf_2 : decode cX8_scaledOf 2 = .ok (.iload_n 2, 1) := by decide +kernel
theorem dX8_scaledOf_3 : decode cX8_scaledOf 3 = .ok (.iconst 0, 1) := by decide +kernel
theorem dX8_scaledOf_4 : decode cX8_scaledOf 4 = .ok (.invokestatic 111, 3) := by decide +kernel
theorem dX8_scaledOf_7 : decode cX8_scaledOf 7 = .ok (.iconst (-1), 1) := by decide +kernel
theorem dX8_scaledOf_8 : decode cX8_scaledOf 8 = .ok (.invokevirtual 191, 3) := by decide +kernel
theorem dX8_scaledOf_11 : decode cX8_scaledOf 11 = .ok (.istore 4, 2) := by decide +kernel
theorem dX8_scaledOf_13 : decode cX8_scaledOf 13 = .ok (.aload_n 0, 1) := by decide +kernel
theorem dX8_scaledOf_14 : decode cX8_scaledOf 14 = .ok (.iload_n 1, 1) := by decide +kernel
theorem dX8_scaledOf_15 : decode cX8_scaledOf 15 = .ok (.invokestatic 55, 3) := by decide +kernel
theorem dX8_scaledOf_18 : decode cX8_scaledOf 18 = .ok (.bipush 46, 2) := by decide +kernel
theorem dX8_scaledOf_20 : decode cX8_scaledOf 20 = .ok (.iadd, 1) := by decide +kernel
theorem dX8_scaledOf_21 : decode cX8_scaledOf 21 = .ok (.iconst (-1), 1) := by decide +kernel
theorem dX8_scaledOf_22 : decode cX8_scaledOf 22 = .ok (.invokevirtual 191, 3) := by decide +kernel
theorem dX8_scaledOf_25 : decode cX8_scaledOf 25 = .ok (.istore 5, 2) := by decide +kernel
theorem dX8_scaledOf_27 : decode cX8_scaledOf 27 = .ok (.aload_n 0, 1) := by decide +kernel
theorem dX8_scaledOf_28 : decode cX8_scaledOf 28 = .ok (.iload_n 1, 1) := by decide +kernel
theorem dX8_scaledOf_29 : decode cX8_scaledOf 29 = .ok (.invokestatic 55, 3) := by decide +kernel
theorem dX8_scaledOf_32 : decode cX8_scaledOf 32 = .ok (.bipush 52, 2) := by decide +kernel
theorem dX8_scaledOf_34 : decode cX8_scaledOf 34 = .ok (.iadd, 1) := by decide +kernel
theorem dX8_scaledOf_35 : decode cX8_scaledOf 35 = .ok (.iconst (-1), 1) := by decide +kernel
theorem dX8_scaledOf_36 : decode cX8_scaledOf 36 = .ok (.invokevirtual 191, 3) := by decide +kernel
theorem dX8_scaledOf_39 : decode cX8_scaledOf 39 = .ok (.istore 6, 2) := by decide +kernel
theorem dX8_scaledOf_41 : decode cX8_scaledOf 41 = .ok (.iload_n 3, 1) := by decide +kernel
theorem dX8_scaledOf_42 : decode cX8_scaledOf 42 = .ok (.iconst 1, 1) := by decide +kernel
theorem dX8_scaledOf_43 : decode cX8_scaledOf 43 = .ok (.if_icmp .ne 25, 3) := by decide +kernel
theorem dX8_scaledOf_46 : decode cX8_scaledOf 46 = .ok (.iload 4, 2) := by decide +kernel
theorem dX8_scaledOf_48 : decode cX8_scaledOf 48 = .ok (.iload 5, 2) := by decide +kernel
theorem dX8_scaledOf_50 : decode cX8_scaledOf 50 = .ok (.iload 6, 2) := by decide +kernel
theorem dX8_scaledOf_52 : decode cX8_scaledOf 52 = .ok (.isub, 1) := by decide +kernel
theorem dX8_scaledOf_53 : decode cX8_scaledOf 53 = .ok (.aload_n 0, 1) := by decide +kernel
theorem dX8_scaledOf_54 : decode cX8_scaledOf 54 = .ok (.getfield 7, 3) := by decide +kernel
theorem dX8_scaledOf_57 : decode cX8_scaledOf 57 = .ok (.iload_n 1, 1) := by decide +kernel
theorem dX8_scaledOf_58 : decode cX8_scaledOf 58 = .ok (.iload_n 2, 1) := by decide +kernel
theorem dX8_scaledOf_59 : decode cX8_scaledOf 59 = .ok (.invokestatic 115, 3) := by decide +kernel
theorem dX8_scaledOf_62 : decode cX8_scaledOf 62 = .ok (.iconst 1, 1) := by decide +kernel
theorem dX8_scaledOf_63 : decode cX8_scaledOf 63 = .ok (.iadd, 1) := by decide +kernel
theorem dX8_scaledOf_64 : decode cX8_scaledOf 64 = .ok (.iaload, 1) := by decide +kernel
theorem dX8_scaledOf_65 : decode cX8_scaledOf 65 = .ok (.imul, 1) := by decide +kernel
theorem dX8_scaledOf_66 : decode cX8_scaledOf 66 = .ok (.iadd, 1) := by decide +kernel
theorem dX8_scaledOf_67 : decode cX8_scaledOf 67 = .ok (.ireturn, 1) := by decide +kernel
theorem dX8_scaledOf_68 : decode cX8_scaledOf 68 = .ok (.iload 6, 2) := by decide +kernel
theorem dX8_scaledOf_70 : decode cX8_scaledOf 70 = .ok (.ifCond .ne 7, 3) := by decide +kernel
theorem dX8_scaledOf_73 : decode cX8_scaledOf 73 = .ok (.iconst (-1), 1) := by decide +kernel
theorem dX8_scaledOf_74 : decode cX8_scaledOf 74 = .ok (.goto 15, 3) := by decide +kernel
theorem dX8_scaledOf_77 : decode cX8_scaledOf 77 = .ok (.iload 4, 2) := by decide +kernel
theorem dX8_scaledOf_79 : decode cX8_scaledOf 79 = .ok (.i2l, 1) := by decide +kernel
theorem dX8_scaledOf_80 : decode cX8_scaledOf 80 = .ok (.iload 5, 2) := by decide +kernel
theorem dX8_scaledOf_82 : decode cX8_scaledOf 82 = .ok (.i2l, 1) := by decide +kernel
theorem dX8_scaledOf_83 : decode cX8_scaledOf 83 = .ok (.lmul, 1) := by decide +kernel
theorem dX8_scaledOf_84 : decode cX8_scaledOf 84 = .ok (.iload 6, 2) := by decide +kernel
theorem dX8_scaledOf_86 : decode cX8_scaledOf 86 = .ok (.i2l, 1) := by decide +kernel
theorem dX8_scaledOf_87 : decode cX8_scaledOf 87 = .ok (.ldiv, 1) := by decide +kernel
theorem dX8_scaledOf_88 : decode cX8_scaledOf 88 = .ok (.l2i, 1) := by decide +kernel
theorem dX8_scaledOf_89 : decode cX8_scaledOf 89 = .ok (.ireturn, 1) := by decide +kernel
theorem dX8_scaled_0 : decode cX8_scaled 0 = .ok (.aload_n 0, 1) := by decide +kernel
theorem dX8_scaled_1 : decode cX8_scaled 1 = .ok (.iload_n 1, 1) := by decide +kernel
theorem dX8_scaled_2 : decode cX8_scaled 2 = .ok (.iload_n 2, 1) := by decide +kernel
theorem dX8_scaled_3 : decode cX8_scaled 3 = .ok (.invokevirtual 188, 3) := by decide +kernel
theorem dX8_scaled_6 : decode cX8_scaled 6 = .ok (.ifCond .eq 22, 3) := by decide +kernel
theorem dX8_scaled_9 : decode cX8_scaled 9 = .ok (.iload_n 3, 1) := by decide +kernel
theorem dX8_scaled_10 : decode cX8_scaled 10 = .ok (.iconst 0, 1) := by decide +kernel
theorem dX8_scaled_11 : decode cX8_scaled 11 = .ok (.iconst 1, 1) := by decide +kernel
theorem dX8_scaled_12 : decode cX8_scaled 12 = .ok (.invokestatic 51, 3) := by decide +kernel
theorem dX8_scaled_15 : decode cX8_scaled 15 = .ok (.ifCond .eq 13, 3) := by decide +kernel
theorem dX8_scaled_18 : decode cX8_scaled 18 = .ok (.aload_n 0, 1) := by decide +kernel
theorem dX8_scaled_19 : decode cX8_scaled 19 = .ok (.iload_n 1, 1) := by decide +kernel
theorem dX8_scaled_20 : decode cX8_scaled 20 = .ok (.iload_n 2, 1) := by decide +kernel
theorem dX8_scaled_21 : decode cX8_scaled 21 = .ok (.iload_n 3, 1) := by decide +kernel
theorem dX8_scaled_22 : decode cX8_scaled 22 = .ok (.invokevirtual 194, 3) := by decide +kernel
theorem dX8_scaled_25 : decode cX8_scaled 25 = .ok (.goto 7, 3) := by decide +kernel
theorem dX8_scaled_28 : decode cX8_scaled 28 = .ok (.aload_n 0, 1) := by decide +kernel
theorem dX8_scaled_29 : decode cX8_scaled 29 = .ok (.invokevirtual 70, 3) := by decide +kernel
theorem dX8_scaled_32 : decode cX8_scaled 32 = .ok (.ireturn, 1) := by decide +kernel
theorem dX8_fitOf_0 : decode cX8_fitOf 0 = .ok (.aload_n 0, 1) := by decide +kernel
theorem dX8_fitOf_1 : decode cX8_fitOf 1 = .ok (.iconst 0, 1) := by decide +kernel
theorem dX8_fitOf_2 : decode cX8_fitOf 2 = .ok (.putfield 132, 3) := by decide +kernel
theorem dX8_fitOf_5 : decode cX8_fitOf 5 = .ok (.iconst 0, 1) := by decide +kernel
theorem dX8_fitOf_6 : decode cX8_fitOf 6 = .ok (.istore_n 2, 1) := by decide +kernel
theorem dX8_fitOf_7 : decode cX8_fitOf 7 = .ok (.iload_n 2, 1) := by decide +kernel
theorem dX8_fitOf_8 : decode cX8_fitOf 8 = .ok (.aload_n 0, 1) := by decide +kernel
theorem dX8_fitOf_9 : decode cX8_fitOf 9 = .ok (.getfield 7, 3) := by decide +kernel
theorem dX8_fitOf_12 : decode cX8_fitOf 12 = .ok (.bipush 70, 2) := by decide +kernel
theorem dX8_fitOf_14 : decode cX8_fitOf 14 = .ok (.iaload, 1) := by decide +kernel
theorem dX8_fitOf_15 : decode cX8_fitOf 15 = .ok (.if_icmp .ge 27, 3) := by decide +kernel
theorem dX8_fitOf_18 : decode cX8_fitOf 18 = .ok (.iload_n 1, 1) := by decide +kernel
theorem dX8_fitOf_19 : decode cX8_fitOf 19 = .ok (.iload_n 2, 1) := by decide +kernel
theorem dX8_fitOf_20 : decode cX8_fitOf 20 = .ok (.invokestatic 135, 3) := by decide +kernel
theorem dX8_fitOf_23 : decode cX8_fitOf 23 = .ok (.ifCond .eq 13, 3) := by decide +kernel
theorem dX8_fitOf_26 : decode cX8_fitOf 26 = .ok (.aload_n 0, 1) := by decide +kernel
theorem dX8_fitOf_27 : decode cX8_fitOf 27 = .ok (.iload_n 2, 1) := by decide +kernel
theorem dX8_fitOf_28 : decode cX8_fitOf 28 = .ok (.invokevirtual 148, 3) := by decide +kernel
theorem dX8_fitOf_31 : decode cX8_fitOf 31 = .ok (.ifCond .ne 5, 3) := by decide +kernel
theorem dX8_fitOf_34 : decode cX8_fitOf 34 = .ok (.iconst 0, 1) := by decide +kernel
theorem dX8_fitOf_35 : decode cX8_fitOf 35 = .ok (.ireturn, 1) := by decide +kernel
theorem dX8_fitOf_36 : decode cX8_fitOf 36 = .ok (.iinc 2 1, 3) := by decide +kernel
theorem dX8_fitOf_39 : decode cX8_fitOf 39 = .ok (.goto (-32), 3) := by decide +kernel
theorem dX8_fitOf_42 : decode cX8_fitOf 42 = .ok (.iconst 1, 1) := by decide +kernel
theorem dX8_fitOf_43 : decode cX8_fitOf 43 = .ok (.ireturn, 1) := by decide +kernel
theorem dX8_fit_0 : decode cX8_fit 0 = .ok (.iload_n 1, 1) := by decide +kernel
theorem dX8_fit_1 : decode cX8_fit 1 = .ok (.iconst 0, 1) := by decide +kernel
theorem dX8_fit_2 : decode cX8_fit 2 = .ok (.iconst 1, 1) := by decide +kernel
theorem dX8_fit_3 : decode cX8_fit 3 = .ok (.aload_n 0, 1) := by decide +kernel
theorem dX8_fit_4 : decode cX8_fit 4 = .ok (.getfield 7, 3) := by decide +kernel
theorem dX8_fit_7 : decode cX8_fit 7 = .ok (.bipush 70, 2) := by decide +kernel
theorem dX8_fit_9 : decode cX8_fit 9 = .ok (.iaload, 1) := by decide +kernel
theorem dX8_fit_10 : decode cX8_fit 10 = .ok (.ishl, 1) := by decide +kernel
theorem dX8_fit_11 : decode cX8_fit 11 = .ok (.iconst 1, 1) := by decide +kernel
theorem dX8_fit_12 : decode cX8_fit 12 = .ok (.isub, 1) := by decide +kernel
theorem dX8_fit_13 : decode cX8_fit 13 = .ok (.invokestatic 51, 3) := by decide +kernel
theorem dX8_fit_16 : decode cX8_fit 16 = .ok (.ifCond .eq 11, 3) := by decide +kernel
theorem dX8_fit_19 : decode cX8_fit 19 = .ok (.aload_n 0, 1) := by decide +kernel
theorem dX8_fit_20 : decode cX8_fit 20 = .ok (.iload_n 1, 1) := by decide +kernel
theorem dX8_fit_21 : decode cX8_fit 21 = .ok (.invokevirtual 197, 3) := by decide +kernel
theorem dX8_fit_24 : decode cX8_fit 24 = .ok (.goto 7, 3) := by decide +kernel
theorem dX8_fit_27 : decode cX8_fit 27 = .ok (.aload_n 0, 1) := by decide +kernel
theorem dX8_fit_28 : decode cX8_fit 28 = .ok (.invokevirtual 70, 3) := by decide +kernel
theorem dX8_fit_31 : decode cX8_fit 31 = .ok (.ireturn, 1) := by decide +kernel
theorem dX8_queue_0 : decode cX8_queue 0 = .ok (.iload_n 1, 1) := by decide +kernel
theorem dX8_queue_1 : decode cX8_queue 1 = .ok (.ifCond .ge 8, 3) := by decide +kernel
theorem dX8_queue_4 : decode cX8_queue 4 = .ok (.aload_n 0, 1) := by decide +kernel
theorem dX8_queue_5 : decode cX8_queue 5 = .ok (.invokevirtual 70, 3) := by decide +kernel
theorem dX8_queue_8 : decode cX8_queue 8 = .ok (.ireturn, 1) := by decide +kernel
theorem dX8_queue_9 : decode cX8_queue 9 = .ok (.iload_n 1, 1) := by decide +kernel
theorem dX8_queue_10 : decode cX8_queue 10 = .ok (.aload_n 0, 1) := by decide +kernel
theorem dX8_queue_11 : decode cX8_queue 11 = .ok (.getfield 7, 3) := by decide +kernel
theorem dX8_queue_14 : decode cX8_queue 14 = .ok (.sipush 419, 3) := by decide +kernel
theorem dX8_queue_17 : decode cX8_queue 17 = .ok (.iaload, 1) := by decide +kernel
theorem dX8_queue_18 : decode cX8_queue 18 = .ok (.if_icmp .ge 16, 3) := by decide +kernel
theorem dX8_queue_21 : decode cX8_queue 21 = .ok (.aload_n 0, 1) := by decide +kernel
theorem dX8_queue_22 : decode cX8_queue 22 = .ok (.getfield 7, 3) := by decide +kernel
theorem dX8_queue_25 : decode cX8_queue 25 = .ok (.sipush 420, 3) := by decide +kernel
theorem dX8_queue_28 : decode cX8_queue 28 = .ok (.iload_n 1, 1) := by decide +kernel
theorem dX8_queue_29 : decode cX8_queue 29 = .ok (.iadd, 1) := by decide +kernel
theorem dX8_queue_30 : decode cX8_queue 30 = .ok (.iaload, 1) := by decide +kernel
theorem dX8_queue_31 : decode cX8_queue 31 = .ok (.goto 4, 3) := by decide +kernel
theorem dX8_queue_34 : decode cX8_queue 34 = .ok (.iconst (-1), 1) := by decide +kernel
theorem dX8_queue_35 : decode cX8_queue 35 = .ok (.ireturn, 1) := by decide +kernel
theorem dX8_sample_0 : decode cX8_sample 0 = .ok (.iload_n 1, 1) := by decide +kernel
theorem dX8_sample_1 : decode cX8_sample 1 = .ok (.ifCond .lt 12, 3) := by decide +kernel
theorem dX8_sample_4 : decode cX8_sample 4 = .ok (.iload_n 2, 1) := by decide +kernel
theorem dX8_sample_5 : decode cX8_sample 5 = .ok (.iconst 0, 1) := by decide +kernel
theorem dX8_sample_6 : decode cX8_sample 6 = .ok (.iconst 2, 1) := by decide +kernel
theorem dX8_sample_7 : decode cX8_sample 7 = .ok (.invokestatic 51, 3) := by decide +kernel
theorem dX8_sample_10 : decode cX8_sample 10 = .ok (.ifCond .ne 8, 3) := by decide +kernel
theorem dX8_sample_13 : decode cX8_sample 13 = .ok (.aload_n 0, 1) := by decide +kernel
theorem dX8_sample_14 : decode cX8_sample 14 = .ok (.invokevirtual 70, 3) := by decide +kernel
theorem dX8_sample_17 : decode cX8_sample 17 = .ok (.ireturn, 1) := by decide +kernel
theorem dX8_sample_18 : decode cX8_sample 18 = .ok (.iload_n 1, 1) := by decide +kernel
theorem dX8_sample_19 : decode cX8_sample 19 = .ok (.aload_n 0, 1) := by decide +kernel
theorem dX8_sample_20 : decode cX8_sample 20 = .ok (.getfield 7, 3) := by decide +kernel
theorem dX8_sample_23 : decode cX8_sample 23 = .ok (.sipush 429, 3) := by decide +kernel
theorem dX8_sample_26 : decode cX8_sample 26 = .ok (.iaload, 1) := by decide +kernel
theorem dX8_sample_27 : decode cX8_sample 27 = .ok (.if_icmp .ge 20, 3) := by decide +kernel
theorem dX8_sample_30 : decode cX8_sample 30 = .ok (.aload_n 0, 1) := by decide +kernel
theorem dX8_sample_31 : decode cX8_sample 31 = .ok (.getfield 7, 3) := by decide +kernel
theorem dX8_sample_34 : decode cX8_sample 34 = .ok (.sipush 430, 3) := by decide +kernel
theorem dX8_sample_37 : decode cX8_sample 37 = .ok (.iconst 3, 1) := by decide +kernel
theorem dX8_sample_38 : decode cX8_sample 38 = .ok (.iload_n 1, 1) := by decide +kernel
theorem dX8_sample_39 : decode cX8_sample 39 = .ok (.imul, 1) := by decide +kernel
theorem dX8_sample_40 : decode cX8_sample 40 = .ok (.iadd, 1) := by decide +kernel
theorem dX8_sample_41 : decode cX8_sample 41 = .ok (.iload_n 2, 1) := by decide +kernel
theorem dX8_sample_42 : decode cX8_sample 42 = .ok (.iadd, 1) := by decide +kernel
theorem dX8_sample_43 : decode cX8_sample 43 = .ok (.iaload, 1) := by decide +kernel
theorem dX8_sample_44 : decode cX8_sample 44 = .ok (.goto 4, 3) := by decide +kernel
theorem dX8_sample_47 : decode cX8_sample 47 = .ok (.iconst (-1), 1) := by decide +kernel
theorem dX8_sample_48 : decode cX8_sample 48 = .ok (.ireturn, 1) := by decide +kernel
theorem dX8_onNow_0 : decode cX8_onNow 0 = .ok (.iconst 0, 1) := by decide +kernel
theorem dX8_onNow_1 : decode cX8_onNow 1 = .ok (.istore_n 1, 1) := by decide +kernel
theorem dX8_onNow_2 : decode cX8_onNow 2 = .ok (.iconst 0, 1) := by decide +kernel
theorem dX8_onNow_3 : decode cX8_onNow 3 = .ok (.istore_n 2, 1) := by decide +kernel
theorem dX8_onNow_4 : decode cX8_onNow 4 = .ok (.iload_n 2, 1) := by decide +kernel
theorem dX8_onNow_5 : decode cX8_onNow 5 = .ok (.aload_n 0, 1) := by decide +kernel
theorem dX8_onNow_6 : decode cX8_onNow 6 = .ok (.getfield 7, 3) := by decide +kernel
theorem dX8_onNow_9 : decode cX8_onNow 9 = .ok (.bipush 70, 2) := by decide +kernel
theorem dX8_onNow_11 : decode cX8_onNow 11 = .ok (.iaload, 1) := by decide +kernel
theorem dX8_onNow_12 : decode cX8_onNow 12 = .ok (.if_icmp .ge 21, 3) := by decide +kernel
theorem dX8_onNow_15 : decode cX8_onNow 15 = .ok (.iload_n 1, 1) := by decide +kernel
theorem dX8_onNow_16 : decode cX8_onNow 16 = .ok (.aload_n 0, 1) := by decide +kernel
theorem dX8_onNow_17 : decode cX8_onNow 17 = .ok (.iload_n 2, 1) := by decide +kernel
theorem dX8_onNow_18 : decode cX8_onNow 18 = .ok (.bipush 9, 2) := by decide +kernel
theorem dX8_onNow_20 : decode cX8_onNow 20 = .ok (.invokevirtual 63, 3) := by decide +kernel
theorem dX8_onNow_23 : decode cX8_onNow 23 = .ok (.iload_n 2, 1) := by decide +kernel
theorem dX8_onNow_24 : decode cX8_onNow 24 = .ok (.ishl, 1) := by decide +kernel
theorem dX8_onNow_25 : decode cX8_onNow 25 = .ok (.ior, 1) := by decide +kernel
theorem dX8_onNow_26 : decode cX8_onNow 26 = .ok (.istore_n 1, 1) := by decide +kernel
theorem dX8_onNow_27 : decode cX8_onNow 27 = .ok (.iinc 2 1, 3) := by decide +kernel
theorem dX8_onNow_30 : decode cX8_onNow 30 = .ok (.goto (-26), 3) := by decide +kernel
theorem dX8_onNow_33 : decode cX8_onNow 33 = .ok (.iload_n 1, 1) := by decide +kernel
theorem dX8_onNow_34 : decode cX8_onNow 34 = .ok (.ireturn, 1) := by decide +kernel
theorem dX8_toldOf_0 : decode cX8_toldOf 0 = .ok (.iload_n 1, 1) := by decide +kernel
theorem dX8_toldOf_1 : decode cX8_toldOf 1 = .ok (.tableswitch 111 0 7 #[47, 54, 62, 70, 79, 88, 97, 106], 47) := by decide +kernel
theorem dX8_toldOf_48 : decode cX8_toldOf 48 = .ok (.aload_n 0, 1) := by decide +kernel
theorem dX8_toldOf_49 : decode cX8_toldOf 49 = .ok (.getfield 7, 3) := by decide +kernel
theorem dX8_toldOf_52 : decode cX8_toldOf 52 = .ok (.iconst 0, 1) := by decide +kernel
theorem dX8_toldOf_53 : decode cX8_toldOf 53 = .ok (.iaload, 1) := by decide +kernel
theorem dX8_toldOf_54 : decode cX8_toldOf 54 = .ok (.ireturn, 1) := by decide +kernel
theorem dX8_toldOf_55 : decode cX8_toldOf 55 = .ok (.aload_n 0, 1) := by decide +kernel
theorem dX8_toldOf_56 : decode cX8_toldOf 56 = .ok (.getfield 7, 3) := by decide +kernel
theorem dX8_toldOf_59 : decode cX8_toldOf 59 = .ok (.bipush 9, 2) := by decide +kernel
theorem dX8_toldOf_61 : decode cX8_toldOf 61 = .ok (.iaload, 1) := by decide +kernel
theorem dX8_toldOf_62 : decode cX8_toldOf 62 = .ok (.ireturn, 1) := by decide +kernel
theorem dX8_toldOf_63 : decode cX8_toldOf 63 = .ok (.aload_n 0, 1) := by decide +kernel
theorem dX8_toldOf_64 : decode cX8_toldOf 64 = .ok (.getfield 7, 3) := by decide +kernel
theorem dX8_toldOf_67 : decode cX8_toldOf 67 = .ok (.bipush 70, 2) := by decide +kernel
theorem dX8_toldOf_69 : decode cX8_toldOf 69 = .ok (.iaload, 1) := by decide +kernel
theorem dX8_toldOf_70 : decode cX8_toldOf 70 = .ok (.ireturn, 1) := by decide +kernel
theorem dX8_toldOf_71 : decode cX8_toldOf 71 = .ok (.aload_n 0, 1) := by decide +kernel
theorem dX8_toldOf_72 : decode cX8_toldOf 72 = .ok (.getfield 7, 3) := by decide +kernel
theorem dX8_toldOf_75 : decode cX8_toldOf 75 = .ok (.sipush 426, 3) := by decide +kernel
theorem dX8_toldOf_78 : decode cX8_toldOf 78 = .ok (.iaload, 1) := by decide +kernel
theorem dX8_toldOf_79 : decode cX8_toldOf 79 = .ok (.ireturn, 1) := by decide +kernel
theorem dX8_toldOf_80 : decode cX8_toldOf 80 = .ok (.aload_n 0, 1) := by decide +kernel
theorem dX8_toldOf_81 : decode cX8_toldOf 81 = .ok (.getfield 7, 3) := by decide +kernel
theorem dX8_toldOf_84 : decode cX8_toldOf 84 = .ok (.sipush 429, 3) := by decide +kernel
theorem dX8_toldOf_87 : decode cX8_toldOf 87 = .ok (.iaload, 1) := by decide +kernel
theorem dX8_toldOf_88 : decode cX8_toldOf 88 = .ok (.ireturn, 1) := by decide +kernel
theorem dX8_toldOf_89 : decode cX8_toldOf 89 = .ok (.aload_n 0, 1) := by decide +kernel
theorem dX8_toldOf_90 : decode cX8_toldOf 90 = .ok (.getfield 7, 3) := by decide +kernel
theorem dX8_toldOf_93 : decode cX8_toldOf 93 = .ok (.sipush 466, 3) := by decide +kernel
theorem dX8_toldOf_96 : decode cX8_toldOf 96 = .ok (.iaload, 1) := by decide +kernel
theorem dX8_toldOf_97 : decode cX8_toldOf 97 = .ok (.ireturn, 1) := by decide +kernel
theorem dX8_toldOf_98 : decode cX8_toldOf 98 = .ok (.aload_n 0, 1) := by decide +kernel
theorem dX8_toldOf_99 : decode cX8_toldOf 99 = .ok (.getfield 7, 3) := by decide +kernel
theorem dX8_toldOf_102 : decode cX8_toldOf 102 = .ok (.sipush 428, 3) := by decide +kernel
theorem dX8_toldOf_105 : decode cX8_toldOf 105 = .ok (.iaload, 1) := by decide +kernel
theorem dX8_toldOf_106 : decode cX8_toldOf 106 = .ok (.ireturn, 1) := by decide +kernel
theorem dX8_toldOf_107 : decode cX8_toldOf 107 = .ok (.aload_n 0, 1) := by decide +kernel
theorem dX8_toldOf_108 : decode cX8_toldOf 108 = .ok (.invokevirtual 200, 3) := by decide +kernel
theorem dX8_toldOf_111 : decode cX8_toldOf 111 = .ok (.ireturn, 1) := by decide +kernel
theorem dX8_toldOf_112 : decode cX8_toldOf 112 = .ok (.aload_n 0, 1) := by decide +kernel
theorem dX8_toldOf_113 : decode cX8_toldOf 113 = .ok (.getfield 7, 3) := by decide +kernel
theorem dX8_toldOf_116 : decode cX8_toldOf 116 = .ok (.sipush 427, 3) := by decide +kernel
theorem dX8_toldOf_119 : decode cX8_toldOf 119 = .ok (.iaload, 1) := by decide +kernel
theorem dX8_toldOf_120 : decode cX8_toldOf 120 = .ok (.ireturn, 1) := by decide +kernel
theorem dX8_told_0 : decode cX8_told 0 = .ok (.iload_n 1, 1) := by decide +kernel
theorem dX8_told_1 : decode cX8_told 1 = .ok (.iconst 0, 1) := by decide +kernel
theorem dX8_told_2 : decode cX8_told 2 = .ok (.bipush 8, 2) := by decide +kernel
theorem dX8_told_4 : decode cX8_told 4 = .ok (.invokestatic 51, 3) := by decide +kernel
theorem dX8_told_7 : decode cX8_told 7 = .ok (.ifCond .eq 11, 3) := by decide +kernel
theorem dX8_told_10 : decode cX8_told 10 = .ok (.aload_n 0, 1) := by decide +kernel
theorem dX8_told_11 : decode cX8_told 11 = .ok (.iload_n 1, 1) := by decide +kernel
theorem dX8_told_12 : decode cX8_told 12 = .ok (.invokevirtual 203, 3) := by decide +kernel
theorem dX8_told_15 : decode cX8_told 15 = .ok (.goto 7, 3) := by decide +kernel
theorem dX8_told_18 : decode cX8_told 18 = .ok (.aload_n 0, 1) := by decide +kernel
theorem dX8_told_19 : decode cX8_told 19 = .ok (.invokevirtual 70, 3) := by decide +kernel
theorem dX8_told_22 : decode cX8_told 22 = .ok (.ireturn, 1) := by decide +kernel
theorem dX8_type_0 : decode cX8_type 0 = .ok (.iload_n 1, 1) := by decide +kernel
theorem dX8_type_1 : decode cX8_type 1 = .ok (.iconst 0, 1) := by decide +kernel
theorem dX8_type_2 : decode cX8_type 2 = .ok (.bipush 127, 2) := by decide +kernel
theorem dX8_type_4 : decode cX8_type 4 = .ok (.invokestatic 51, 3) := by decide +kernel
theorem dX8_type_7 : decode cX8_type 7 = .ok (.ifCond .ne 8, 3) := by decide +kernel
theorem dX8_type_10 : decode cX8_type 10 = .ok (.aload_n 0, 1) := by decide +kernel
theorem dX8_type_11 : decode cX8_type 11 = .ok (.invokevirtual 70, 3) := by decide +kernel
theorem dX8_type_14 : decode cX8_type 14 = .ok (.ireturn, 1) := by decide +kernel
theorem dX8_type_15 : decode cX8_type 15 = .ok (.aload_n 0, 1) := by decide +kernel
theorem dX8_type_16 : decode cX8_type 16 = .ok (.getfield 206, 3) := by decide +kernel
theorem dX8_type_19 : decode cX8_type 19 = .ok (.bipush 120, 2) := by decide +kernel
theorem dX8_type_21 : decode cX8_type 21 = .ok (.if_icmp .ne 8, 3) := by decide +kernel
theorem dX8_type_24 : decode cX8_type 24 = .ok (.aload_n 0, 1) := by decide +kernel
theorem dX8_type_25 : decode cX8_type 25 = .ok (.invokevirtual 98, 3) := by decide +kernel
theorem dX8_type_28 : decode cX8_type 28 = .ok (.ireturn, 1) := by decide +kernel
theorem dX8_type_29 : decode cX8_type 29 = .ok (.aload_n 0, 1) := by decide +kernel
theorem dX8_type_30 : decode cX8_type 30 = .ok (.getfield 22, 3) := by decide +kernel
theorem dX8_type_33 : decode cX8_type 33 = .ok (.aload_n 0, 1) := by decide +kernel
theorem dX8_type_34 : decode cX8_type 34 = .ok (.getfield 206, 3) := by decide +kernel
theorem dX8_type_37 : decode cX8_type 37 = .ok (.iload_n 1, 1) := by decide +kernel
theorem dX8_type_38 : decode cX8_type 38 = .ok (.iastore, 1) := by decide +kernel
theorem dX8_type_39 : decode cX8_type 39 = .ok (.aload_n 0, 1) := by decide +kernel
theorem dX8_type_40 : decode cX8_type 40 = .ok (.dup, 1) := by decide +kernel
theorem dX8_type_41 : decode cX8_type 41 = .ok (.getfield 206, 3) := by decide +kernel
theorem dX8_type_44 : decode cX8_type 44 = .ok (.iconst 1, 1) := by decide +kernel
theorem dX8_type_45 : decode cX8_type 45 = .ok (.iadd, 1) := by decide +kernel
theorem dX8_type_46 : decode cX8_type 46 = .ok (.putfield 206, 3) := by decide +kernel
theorem dX8_type_49 : decode cX8_type 49 = .ok (.aload_n 0, 1) := by decide +kernel
theorem dX8_type_50 : decode cX8_type 50 = .ok (.getfield 206, 3) := by decide +kernel
theorem dX8_type_53 : decode cX8_type 53 = .ok (.ireturn, 1) := by decide +kernel
theorem dX8_clear_0 : decode cX8_clear 0 = .ok (.aload_n 0, 1) := by decide +kernel
theorem dX8_clear_1 : decode cX8_clear 1 = .ok (.getfield 206, 3) := by decide +kernel
theorem dX8_clear_4 : decode cX8_clear 4 = .ok (.istore_n 1, 1) := by decide +kernel
theorem dX8_clear_5 : decode cX8_clear 5 = .ok (.aload_n 0, 1) := by decide +kernel
theorem dX8_clear_6 : decode cX8_clear 6 = .ok (.iconst 0, 1) := by decide +kernel
theorem dX8_clear_7 : decode cX8_clear 7 = .ok (.putfield 206, 3) := by decide +kernel
theorem dX8_clear_10 : decode cX8_clear 10 = .ok (.iload_n 1, 1) := by decide +kernel
theorem dX8_clear_11 : decode cX8_clear 11 = .ok (.ireturn, 1) := by decide +kernel
theorem dX8_isAt_0 : decode cX8_isAt 0 = .ok (.aload_n 0, 1) := by decide +kernel
theorem dX8_isAt_1 : decode cX8_isAt 1 = .ok (.getfield 209, 3) := by decide +kernel
theorem dX8_isAt_4 : decode cX8_isAt 4 = .ok (.aload_n 0, 1) := by decide +kernel
theorem dX8_isAt_5 : decode cX8_isAt 5 = .ok (.getfield 206, 3) := by decide +kernel
theorem dX8_isAt_8 : decode cX8_isAt 8 = .ok (.if_icmp .ge 24, 3) := by decide +kernel
theorem dX8_isAt_11 : decode cX8_isAt 11 = .ok (.aload_n 0, 1) := by decide +kernel
theorem dX8_isAt_12 : decode cX8_isAt 12 = .ok (.getfield 22, 3) := by decide +kernel
theorem dX8_isAt_15 : decode cX8_isAt 15 = .ok (.aload_n 0, 1) := by decide +kernel
theorem dX8_isAt_16 : decode cX8_isAt 16 = .ok (.getfield 209, 3) := by decide +kernel
theorem dX8_isAt_19 : decode cX8_isAt 19 = .ok (.iaload, 1) := by decide +kernel
theorem dX8_isAt_20 : decode cX8_isAt 20 = .ok (.iload_n 1, 1) := by decide +kernel
theorem dX8_isAt_21 : decode cX8_isAt 21 = .ok (.iload_n 2, 1) := by decide +kernel
theorem dX8_isAt_22 : decode cX8_isAt 22 = .ok (.invokestatic 51, 3) := by decide +kernel
theorem dX8_isAt_25 : decode cX8_isAt 25 = .ok (.ifCond .eq 7, 3) := by decide +kernel
theorem dX8_isAt_28 : decode cX8_isAt 28 = .ok (.iconst 1, 1) := by decide +kernel
theorem dX8_isAt_29 : decode cX8_isAt 29 = .ok (.goto 4, 3) := by decide +kernel
theorem dX8_isAt_32 : decode cX8_isAt 32 = .ok (.iconst 0, 1) := by decide +kernel
theorem dX8_isAt_33 : decode cX8_isAt 33 = .ok (.ireturn, 1) := by decide +kernel
theorem dX8_blanks_0 : decode cX8_blanks 0 = .ok (.aload_n 0, 1) := by decide +kernel
theorem dX8_blanks_1 : decode cX8_blanks 1 = .ok (.bipush 32, 2) := by decide +kernel
theorem dX8_blanks_3 : decode cX8_blanks 3 = .ok (.bipush 32, 2) := by decide +kernel
theorem dX8_blanks_5 : decode cX8_blanks 5 = .ok (.invokevirtual 212, 3) := by decide +kernel
theorem dX8_blanks_8 : decode cX8_blanks 8 = .ok (.ifCond .eq 16, 3) := by decide +kernel
theorem dX8_blanks_11 : decode cX8_blanks 11 = .ok (.aload_n 0, 1) := by decide +kernel
theorem dX8_blanks_12 : decode cX8_blanks 12 = .ok (.dup, 1) := by decide +kernel
theorem dX8_blanks_13 : decode cX8_blanks 13 = .ok (.getfield 209, 3) := by decide +kernel
theorem dX8_blanks_16 : decode cX8_blanks 16 = .ok (.iconst 1, 1) := by decide +kernel
theorem dX8_blanks_17 : decode cX8_blanks 17 = .ok (.iadd, 1) := by decide +kernel
theorem dX8_blanks_18 : decode cX8_blanks 18 = .ok (.putfield 209, 3) := by decide +kernel
theorem dX8_blanks_21 : decode cX8_blanks 21 = .ok (.goto (-21), 3) := by decide +kernel
theorem dX8_blanks_24 : decode cX8_blanks 24 = .ok (.return_, 1) := by decide +kernel
theorem dX8_fails_0 : decode cX8_fails 0 = .ok (.aload_n 0, 1) := by decide +kernel
theorem dX8_fails_1 : decode cX8_fails 1 = .ok (.iload_n 1, 1) := by decide +kernel
theorem dX8_fails_2 : decode cX8_fails 2 = .ok (.putfield 215, 3) := by decide +kernel
theorem dX8_fails_5 : decode cX8_fails 5 = .ok (.iconst 0, 1) := by decide +kernel
theorem dX8_fails_6 : decode cX8_fails 6 = .ok (.ireturn, 1) := by decide +kernel
theorem dX8_leastOf_0 : decode cX8_leastOf 0 = .ok (.iload_n 0, 1) := by decide +kernel
theorem dX8_leastOf_1 : decode cX8_leastOf 1 = .ok (.bipush 109, 2) := by decide +kernel
theorem dX8_leastOf_3 : decode cX8_leastOf 3 = .ok (.if_icmp .eq 9, 3) := by decide +kernel
theorem dX8_leastOf_6 : decode cX8_leastOf 6 = .ok (.iload_n 0, 1) := by decide +kernel
theorem dX8_leastOf_7 : decode cX8_leastOf 7 = .ok (.bipush 114, 2) := by decide +kernel
theorem dX8_leastOf_9 : decode cX8_leastOf 9 = .ok (.if_icmp .ne 7, 3) := by decide +kernel
theorem dX8_leastOf_12 : decode cX8_leastOf 12 = .ok (.iconst 2, 1) := by decide +kernel
theorem dX8_leastOf_13 : decode cX8_leastOf 13 = .ok (.goto 34, 3) := by decide +kernel
theorem dX8_leastOf_16 : decode cX8_leastOf 16 = .ok (.iload_n 0, 1) := by decide +kernel
theorem dX8_leastOf_17 : decode cX8_leastOf 17 = .ok (.bipush 99, 2) := by decide +kernel
theorem dX8_leastOf_19 : decode cX8_leastOf 19 = .ok (.if_icmp .ne 7, 3) := by decide +kernel
theorem dX8_leastOf_22 : decode cX8_leastOf 22 = .ok (.iconst 3, 1) := by decide +kernel
theorem dX8_leastOf_23 : decode cX8_leastOf 23 = .ok (.goto 24, 3) := by decide +kernel
theorem dX8_leastOf_26 : decode cX8_leastOf 26 = .ok (.iload_n 0, 1) := by decide +kernel
theorem dX8_leastOf_27 : decode cX8_leastOf 27 = .ok (.bipush 102, 2) := by decide +kernel
theorem dX8_leastOf_29 : decode cX8_leastOf 29 = .ok (.if_icmp .ne 7, 3) := by decide +kernel
theorem dX8_leastOf_32 : decode cX8_leastOf 32 = .ok (.iconst 1, 1) := by decide +kernel
theorem dX8_leastOf_33 : decode cX8_leastOf 33 = .ok (.goto 14, 3) := by decide +kernel
theorem dX8_leastOf_36 : decode cX8_leastOf 36 = .ok (.iload_n 0, 1) := by decide +kernel
theorem dX8_leastOf_37 : decode cX8_leastOf 37 = .ok (.bipush 103, 2) := by decide +kernel
theorem dX8_leastOf_39 : decode cX8_leastOf 39 = .ok (.if_icmp .ne 7, 3) := by decide +kernel
theorem dX8_leastOf_42 : decode cX8_leastOf 42 = .ok (.iconst 5, 1) := by decide +kernel
theorem dX8_leastOf_43 : decode cX8_leastOf 43 = .ok (.goto 4, 3) := by decide +kernel
theorem dX8_leastOf_46 : decode cX8_leastOf 46 = .ok (.iconst (-1), 1) := by decide +kernel
theorem dX8_leastOf_47 : decode cX8_leastOf 47 = .ok (.ireturn, 1) := by decide +kernel
theorem dX8_takesNumber_0 : decode cX8_takesNumber 0 = .ok (.aload_n 0, 1) := by decide +kernel
theorem dX8_takesNumber_1 : decode cX8_takesNumber 1 = .ok (.getfield 209, 3) := by decide +kernel
theorem dX8_takesNumber_4 : decode cX8_takesNumber 4 = .ok (.istore_n 2, 1) := by decide +kernel
theorem dX8_takesNumber_5 : decode cX8_takesNumber 5 = .ok (.iconst 0, 1) := by decide +kernel
theorem dX8_takesNumber_6 : decode cX8_takesNumber 6 = .ok (.istore_n 3, 1) := by decide +kernel
theorem dX8_takesNumber_7 : decode cX8_takesNumber 7 = .ok (.aload_n 0, 1) := by decide +kernel
theorem dX8_takesNumber_8 : decode cX8_takesNumber 8 = .ok (.bipush 48, 2) := by decide +kernel
theorem dX8_takesNumber_10 : decode cX8_takesNumber 10 = .ok (.bipush 57, 2) := by decide +kernel
theorem dX8_takesNumber_12 : decode cX8_takesNumber 12 = .ok (.invokevirtual 212, 3) := by decide +kernel
theorem dX8_takesNumber_15 : decode cX8_takesNumber 15 = .ok (.ifCond .eq 53, 3) := by decide +kernel
theorem dX8_takesNumber_18 : decode cX8_takesNumber 18 = .ok (.aload_n 0, 1) := by decide +kernel
theorem dX8_takesNumber_19 : decode cX8_takesNumber 19 = .ok (.getfield 209, 3) := by decide +kernel
theorem dX8_takesNumber_22 : decode cX8_takesNumber 22 = .ok (.iload_n 2, 1) := by decide +kernel
theorem dX8_takesNumber_23 : decode cX8_takesNumber 23 = .ok (.iconst 3, 1) := by decide +kernel
theorem dX8_takesNumber_24 : decode cX8_takesNumber 24 = .ok (.iadd, 1) := by decide +kernel
theorem dX8_takesNumber_25 : decode cX8_takesNumber 25 = .ok (.if_icmp .ne 12, 3) := by decide +kernel
theorem dX8_takesNumber_28 : decode cX8_takesNumber 28 = .ok (.aload_n 0, 1) := by decide +kernel
theorem dX8_takesNumber_29 : decode cX8_takesNumber 29 = .ok (.aload_n 0, 1) := by decide +kernel
theorem dX8_takesNumber_30 : decode cX8_takesNumber 30 = .ok (.getfield 209, 3) := by decide +kernel
theorem dX8_takesNumber_33 : decode cX8_takesNumber 33 = .ok (.invokevirtual 218, 3) := by decide +kernel
theorem dX8_takesNumber_36 : decode cX8_takesNumber 36 = .ok (.ireturn, 1) := by decide +kernel
theorem dX8_takesNumber_37 : decode cX8_takesNumber 37 = .ok (.bipush 10, 2) := by decide +kernel
theorem dX8_takesNumber_39 : decode cX8_takesNumber 39 = .ok (.iload_n 3, 1) := by decide +kernel
theorem dX8_takesNumber_40 : decode cX8_takesNumber 40 = .ok (.imul, 1) := by decide +kernel
theorem dX8_takesNumber_41 : decode cX8_takesNumber 41 = .ok (.aload_n 0, 1) := by decide +kernel
theorem dX8_takesNumber_42 : decode cX8_takesNumber 42 = .ok (.getfield 22, 3) := by decide +kernel
theorem dX8_takesNumber_45 : decode cX8_takesNumber 45 = .ok (.aload_n 0, 1) := by decide +kernel
theorem dX8_takesNumber_46 : decode cX8_takesNumber 46 = .ok (.getfield 209, 3) := by decide +kernel
theorem dX8_takesNumber_49 : decode cX8_takesNumber 49 = .ok (.iaload, 1) := by decide +kernel
theorem dX8_takesNumber_50 : decode cX8_takesNumber 50 = .ok (.iadd, 1) := by decide +kernel
theorem dX8_takesNumber_51 : decode cX8_takesNumber 51 = .ok (.bipush 48, 2) := by decide +kernel
theorem dX8_takesNumber_53 : decode cX8_takesNumber 53 = .ok (.isub, 1) := by decide +kernel
theorem dX8_takesNumber_54 : decode cX8_takesNumber 54 = .ok (.istore_n 3, 1) := by decide +kernel
theorem dX8_takesNumber_55 : decode cX8_takesNumber 55 = .ok (.aload_n 0, 1) := by decide +kernel
theorem dX8_takesNumber_56 : decode cX8_takesNumber 56 = .ok (.dup, 1) := by decide +kernel
theorem dX8_takesNumber_57 : decode cX8_takesNumber 57 = .ok (.getfield 209, 3) := by decide +kernel
theorem dX8_takesNumber_60 : decode cX8_takesNumber 60 = .ok (.iconst 1, 1) := by decide +kernel
theorem dX8_takesNumber_61 : decode cX8_takesNumber 61 = .ok (.iadd, 1) := by decide +kernel
theorem dX8_takesNumber_62 : decode cX8_takesNumber 62 = .ok (.putfield 209, 3) := by decide +kernel
theorem dX8_takesNumber_65 : decode cX8_takesNumber 65 = .ok (.goto (-58), 3) := by decide +kernel
theorem dX8_takesNumber_68 : decode cX8_takesNumber 68 = .ok (.aload_n 0, 1) := by decide +kernel
theorem dX8_takesNumber_69 : decode cX8_takesNumber 69 = .ok (.getfield 40, 3) := by decide +kernel
theorem dX8_takesNumber_72 : decode cX8_takesNumber 72 = .ok (.iload_n 1, 1) := by decide +kernel
theorem dX8_takesNumber_73 : decode cX8_takesNumber 73 = .ok (.iload_n 3, 1) := by decide +kernel
theorem dX8_takesNumber_74 : decode cX8_takesNumber 74 = .ok (.iastore, 1) := by decide +kernel
theorem dX8_takesNumber_75 : decode cX8_takesNumber 75 = .ok (.iconst 1, 1) := by decide +kernel
theorem dX8_takesNumber_76 : decode cX8_takesNumber 76 = .ok (.ireturn, 1) := by decide +kernel
theorem dX8_takesOrder_0 : decode cX8_takesOrder 0 = .ok (.aload_n 0, 1) := by decide +kernel
theorem dX8_takesOrder_1 : decode cX8_takesOrder 1 = .ok (.getfield 22, 3) := by decide +kernel
theorem dX8_takesOrder_4 : decode cX8_takesOrder 4 = .ok (.aload_n 0, 1) := by decide +kernel
theorem dX8_takesOrder_5 : decode cX8_takesOrder 5 = .ok (.getfield 209, 3) := by decide +kernel
theorem dX8_takesOrder_8 : decode cX8_takesOrder 8 = .ok (.iaload, 1) := by decide +kernel
theorem dX8_takesOrder_9 : decode cX8_takesOrder 9 = .ok (.istore_n 1, 1) := by decide +kernel
theorem dX8_takesOrder_10 : decode cX8_takesOrder 10 = .ok (.iload_n 1, 1) := by decide +kernel
theorem dX8_takesOrder_11 : decode cX8_takesOrder 11 = .ok (.invokestatic 221, 3) := by decide +kernel
theorem dX8_takesOrder_14 : decode cX8_takesOrder 14 = .ok (.istore_n 2, 1) := by decide +kernel
theorem dX8_takesOrder_15 : decode cX8_takesOrder 15 = .ok (.iload_n 2, 1) := by decide +kernel
theorem dX8_takesOrder_16 : decode cX8_takesOrder 16 = .ok (.ifCond .ge 12, 3) := by decide +kernel
theorem dX8_takesOrder_19 : decode cX8_takesOrder 19 = .ok (.aload_n 0, 1) := by decide +kernel
theorem dX8_takesOrder_20 : decode cX8_takesOrder 20 = .ok (.aload_n 0, 1) := by decide +kernel
theorem dX8_takesOrder_21 : decode cX8_takesOrder 21 = .ok (.getfield 209, 3) := by decide +kernel
theorem dX8_takesOrder_24 : decode cX8_takesOrder 24 = .ok (.invokevirtual 218, 3) := by decide +kernel
theorem dX8_takesOrder_27 : decode cX8_takesOrder 27 = .ok (.ireturn, 1) := by decide +kernel
theorem dX8_takesOrder_28 : decode cX8_takesOrder 28 = .ok (.aload_n 0, 1) := by decide +kernel
theorem dX8_takesOrder_29 : decode cX8_takesOrder 29 = .ok (.getfield 34, 3) := by decide +kernel
theorem dX8_takesOrder_32 : decode cX8_takesOrder 32 = .ok (.aload_n 0, 1) := by decide +kernel
theorem dX8_takesOrder_33 : decode cX8_takesOrder 33 = .ok (.getfield 224, 3) := by decide +kernel
theorem dX8_takesOrder_36 : decode cX8_takesOrder 36 = .ok (.iload_n 1, 1) := by decide +kernel
theorem dX8_takesOrder_37 : decode cX8_takesOrder 37 = .ok (.iastore, 1) := by decide +kernel
theorem dX8_takesOrder_38 : decode cX8_takesOrder 38 = .ok (.aload_n 0, 1) := by decide +kernel
theorem dX8_takesOrder_39 : decode cX8_takesOrder 39 = .ok (.dup, 1) := by decide +kernel
theorem dX8_takesOrder_40 : decode cX8_takesOrder 40 = .ok (.getfield 209, 3) := by decide +kernel
theorem dX8_takesOrder_43 : decode cX8_takesOrder 43 = .ok (.iconst 1, 1) := by decide +kernel
theorem dX8_takesOrder_44 : decode cX8_takesOrder 44 = .ok (.iadd, 1) := by decide +kernel
theorem dX8_takesOrder_45 : decode cX8_takesOrder 45 = .ok (.putfield 209, 3) := by decide +kernel
theorem dX8_takesOrder_48 : decode cX8_takesOrder 48 = .ok (.iload_n 1, 1) := by decide +kernel
theorem dX8_takesOrder_49 : decode cX8_takesOrder 49 = .ok (.bipush 103, 2) := by decide +kernel
theorem dX8_takesOrder_51 : decode cX8_takesOrder 51 = .ok (.if_icmp .ne 8, 3) := by decide +kernel
theorem dX8_takesOrder_54 : decode cX8_takesOrder 54 = .ok (.bipush 8, 2) := by decide +kernel
theorem dX8_takesOrder_56 : decode cX8_takesOrder 56 = .ok (.goto 4, 3) := by decide +kernel
theorem dX8_takesOrder_59 : decode cX8_takesOrder 59 = .ok (.iload_n 2, 1) := by decide +kernel
theorem dX8_takesOrder_60 : decode cX8_takesOrder 60 = .ok (.istore_n 3, 1) := by decide +kernel
theorem dX8_takesOrder_61 : decode cX8_takesOrder 61 = .ok (.iconst 0, 1) := by decide +kernel
theorem dX8_takesOrder_62 : decode cX8_takesOrder 62 = .ok (.istore 4, 2) := by decide +kernel
theorem dX8_takesOrder_64 : decode cX8_takesOrder 64 = .ok (.aload_n 0, 1) := by decide +kernel
theorem dX8_takesOrder_65 : decode cX8_takesOrder 65 = .ok (.invokevirtual 227, 3) := by decide +kernel
theorem dX8_takesOrder_68 : decode cX8_takesOrder 68 = .ok (.aload_n 0, 1) := by decide +kernel
theorem dX8_takesOrder_69 : decode cX8_takesOrder 69 = .ok (.bipush 48, 2) := by decide +kernel
theorem dX8_takesOrder_71 : decode cX8_takesOrder 71 = .ok (.bipush 57, 2) := by decide +kernel
theorem dX8_takesOrder_73 : decode cX8_takesOrder 73 = .ok (.invokevirtual 212, 3) := by decide +kernel
theorem dX8_takesOrder_76 : decode cX8_takesOrder 76 = .ok (.ifCond .eq 40, 3) := by decide +kernel
theorem dX8_takesOrder_79 : decode cX8_takesOrder 79 = .ok (.iload 4, 2) := by decide +kernel
theorem dX8_takesOrder_81 : decode cX8_takesOrder 81 = .ok (.iload_n 3, 1) := by decide +kernel
theorem dX8_takesOrder_82 : decode cX8_takesOrder 82 = .ok (.if_icmp .ge 34, 3) := by decide +kernel
theorem dX8_takesOrder_85 : decode cX8_takesOrder 85 = .ok (.aload_n 0, 1) := by decide +kernel
theorem dX8_takesOrder_86 : decode cX8_takesOrder 86 = .ok (.aload_n 0, 1) := by decide +kernel
theorem dX8_takesOrder_87 : decode cX8_takesOrder 87 = .ok (.getfield 37, 3) := by decide +kernel
theorem dX8_takesOrder_90 : decode cX8_takesOrder 90 = .ok (.aload_n 0, 1) := by decide +kernel
theorem dX8_takesOrder_91 : decode cX8_takesOrder 91 = .ok (.getfield 224, 3) := by decide +kernel
theorem dX8_takesOrder_94 : decode cX8_takesOrder 94 = .ok (.iaload, 1) := by decide +kernel
theorem dX8_takesOrder_95 : decode cX8_takesOrder 95 = .ok (.iload 4, 2) := by decide +kernel
theorem dX8_takesOrder_97 : decode cX8_takesOrder 97 = .ok (.iadd, 1) := by decide +kernel
theorem dX8_takesOrder_98 : decode cX8_takesOrder 98 = .ok (.invokevirtual 230, 3) := by decide +kernel
theorem dX8_takesOrder_101 : decode cX8_takesOrder 101 = .ok (.ifCond .ne 5, 3) := by decide +kernel
theorem dX8_takesOrder_104 : decode cX8_takesOrder 104 = .ok (.iconst 0, 1) := by decide +kernel
theorem dX8_takesOrder_105 : decode cX8_takesOrder 105 = .ok (.ireturn, 1) := by decide +kernel
theorem dX8_takesOrder_106 : decode cX8_takesOrder 106 = .ok (.iinc 4 1, 3) := by decide +kernel
theorem dX8_takesOrder_109 : decode cX8_takesOrder 109 = .ok (.aload_n 0, 1) := by decide +kernel
theorem dX8_takesOrder_110 : decode cX8_takesOrder 110 = .ok (.invokevirtual 227, 3) := by decide +kernel
theorem dX8_takesOrder_113 : decode cX8_takesOrder 113 = .ok (.goto (-45), 3) := by decide +kernel
theorem dX8_takesOrder_116 : decode cX8_takesOrder 116 = .ok (.iload 4, 2) := by decide +kernel
theorem dX8_takesOrder_118 : decode cX8_takesOrder 118 = .ok (.iload_n 2, 1) := by decide +kernel
theorem dX8_takesOrder_119 : decode cX8_takesOrder 119 = .ok (.if_icmp .lt 14, 3) := by decide +kernel
theorem dX8_takesOrder_122 : decode cX8_takesOrder 122 = .ok (.aload_n 0, 1) := by decide +kernel
theorem dX8_takesOrder_123 : decode cX8_takesOrder 123 = .ok (.bipush 59, 2) := by decide +kernel
theorem dX8_takesOrder_125 : decode cX8_takesOrder 125 = .ok (.bipush 59, 2) := by decide +kernel
theorem dX8_takesOrder_127 : decode cX8_takesOrder 127 = .ok (.invokevirtual 212, 3) := by decide +kernel
theorem dX8_takesOrder_130 : decode cX8_takesOrder 130 = .ok (.ifCond .ne 12, 3) := by decide +kernel
theorem dX8_takesOrder_133 : decode cX8_takesOrder 133 = .ok (.aload_n 0, 1) := by decide +kernel
theorem dX8_takesOrder_134 : decode cX8_takesOrder 134 = .ok (.aload_n 0, 1) := by decide +kernel
theorem dX8_takesOrder_135 : decode cX8_takesOrder 135 = .ok (.getfield 209, 3) := by decide +kernel
theorem dX8_takesOrder_138 : decode cX8_takesOrder 138 = .ok (.invokevirtual 218, 3) := by decide +kernel
theorem dX8_takesOrder_141 : decode cX8_takesOrder 141 = .ok (.ireturn, 1) := by decide +kernel
theorem dX8_takesOrder_142 : decode cX8_takesOrder 142 = .ok (.aload_n 0, 1) := by decide +kernel
theorem dX8_takesOrder_143 : decode cX8_takesOrder 143 = .ok (.dup, 1) := by decide +kernel
theorem dX8_takesOrder_144 : decode cX8_takesOrder 144 = .ok (.getfield 209, 3) := by decide +kernel
theorem dX8_takesOrder_147 : decode cX8_takesOrder 147 = .ok (.iconst 1, 1) := by decide +kernel
theorem dX8_takesOrder_148 : decode cX8_takesOrder 148 = .ok (.iadd, 1) := by decide +kernel
theorem dX8_takesOrder_149 : decode cX8_takesOrder 149 = .ok (.putfield 209, 3) := by decide +kernel
theorem dX8_takesOrder_152 : decode cX8_takesOrder 152 = .ok (.aload_n 0, 1) := by decide +kernel
theorem dX8_takesOrder_153 : decode cX8_takesOrder 153 = .ok (.dup, 1) := by decide +kernel
theorem dX8_takesOrder_154 : decode cX8_takesOrder 154 = .ok (.getfield 224, 3) := by decide +kernel
theorem dX8_takesOrder_157 : decode cX8_takesOrder 157 = .ok (.iconst 1, 1) := by decide +kernel
theorem dX8_takesOrder_158 : decode cX8_takesOrder 158 = .ok (.iadd, 1) := by decide +kernel
theorem dX8_takesOrder_159 : decode cX8_takesOrder 159 = .ok (.putfield 224, 3) := by decide +kernel
theorem dX8_takesOrder_162 : decode cX8_takesOrder 162 = .ok (.aload_n 0, 1) := by decide +kernel
theorem dX8_takesOrder_163 : decode cX8_takesOrder 163 = .ok (.getfield 37, 3) := by decide +kernel
theorem dX8_takesOrder_166 : decode cX8_takesOrder 166 = .ok (.aload_n 0, 1) := by decide +kernel
theorem dX8_takesOrder_167 : decode cX8_takesOrder 167 = .ok (.getfield 224, 3) := by decide +kernel
theorem dX8_takesOrder_170 : decode cX8_takesOrder 170 = .ok (.aload_n 0, 1) := by decide +kernel
theorem dX8_takesOrder_171 : decode cX8_takesOrder 171 = .ok (.getfield 37, 3) := by decide +kernel
theorem dX8_takesOrder_174 : decode cX8_takesOrder 174 = .ok (.aload_n 0, 1) := by decide +kernel
theorem dX8_takesOrder_175 : decode cX8_takesOrder 175 = .ok (.getfield 224, 3) := by decide +kernel
theorem dX8_takesOrder_178 : decode cX8_takesOrder 178 = .ok (.iconst 1, 1) := by decide +kernel
theorem dX8_takesOrder_179 : decode cX8_takesOrder 179 = .ok (.isub, 1) := by decide +kernel
theorem dX8_takesOrder_180 : decode cX8_takesOrder 180 = .ok (.iaload, 1) := by decide +kernel
theorem dX8_takesOrder_181 : decode cX8_takesOrder 181 = .ok (.iload 4, 2) := by decide +kernel
theorem dX8_takesOrder_183 : decode cX8_takesOrder 183 = .ok (.iadd, 1) := by decide +kernel
theorem dX8_takesOrder_184 : decode cX8_takesOrder 184 = .ok (.iastore, 1) := by decide +kernel
theorem dX8_takesOrder_185 : decode cX8_takesOrder 185 = .ok (.iconst 1, 1) := by decide +kernel
theorem dX8_takesOrder_186 : decode cX8_takesOrder 186 = .ok (.ireturn, 1) := by decide +kernel
theorem dX8_isRead_0 : decode cX8_isRead 0 = .ok (.aload_n 0, 1) := by decide +kernel
theorem dX8_isRead_1 : decode cX8_isRead 1 = .ok (.iconst 0, 1) := by decide +kernel
theorem dX8_isRead_2 : decode cX8_isRead 2 = .ok (.putfield 209, 3) := by decide +kernel
theorem dX8_isRead_5 : decode cX8_isRead 5 = .ok (.aload_n 0, 1) := by decide +kernel
theorem dX8_isRead_6 : decode cX8_isRead 6 = .ok (.iconst 0, 1) := by decide +kernel
theorem dX8_isRead_7 : decode cX8_isRead 7 = .ok (.putfield 224, 3) := by decide +kernel
theorem dX8_isRead_10 : decode cX8_isRead 10 = .ok (.aload_n 0, 1) := by decide +kernel
theorem dX8_isRead_11 : decode cX8_isRead 11 = .ok (.getfield 37, 3) := by decide +kernel
theorem dX8_isRead_14 : decode cX8_isRead 14 = .ok (.iconst 0, 1) := by decide +kernel
theorem dX8_isRead_15 : decode cX8_isRead 15 = .ok (.iconst 0, 1) := by decide +kernel
theorem dX8_isRead_16 : decode cX8_isRead 16 = .ok (.iastore, 1) := by decide +kernel
theorem dX8_isRead_17 : decode cX8_isRead 17 = .ok (.aload_n 0, 1) := by decide +kernel
theorem dX8_isRead_18 : decode cX8_isRead 18 = .ok (.invokevirtual 227, 3) := by decide +kernel
theorem dX8_isRead_21 : decode cX8_isRead 21 = .ok (.aload_n 0, 1) := by decide +kernel
theorem dX8_isRead_22 : decode cX8_isRead 22 = .ok (.getfield 209, 3) := by decide +kernel
theorem dX8_isRead_25 : decode cX8_isRead 25 = .ok (.aload_n 0, 1) := by decide +kernel
theorem dX8_isRead_26 : decode cX8_isRead 26 = .ok (.getfield 206, 3) := by decide +kernel
theorem dX8_isRead_29 : decode cX8_isRead 29 = .ok (.if_icmp .ge 19, 3) := by decide +kernel
theorem dX8_isRead_32 : decode cX8_isRead 32 = .ok (.aload_n 0, 1) := by decide +kernel
theorem dX8_isRead_33 : decode cX8_isRead 33 = .ok (.invokevirtual 233, 3) := by decide +kernel
theorem dX8_isRead_36 : decode cX8_isRead 36 = .ok (.ifCond .ne 5, 3) := by decide +kernel
theorem dX8_isRead_39 : decode cX8_isRead 39 = .ok (.iconst 0, 1) := by decide +kernel
theorem dX8_isRead_40 : decode cX8_isRead 40 = .ok (.ireturn, 1) := by decide +kernel
theorem dX8_isRead_41 : decode cX8_isRead 41 = .ok (.aload_n 0, 1) := by decide +kernel
theorem dX8_isRead_42 : decode cX8_isRead 42 = .ok (.invokevirtual 227, 3) := by decide +kernel
theorem dX8_isRead_45 : decode cX8_isRead 45 = .ok (.goto (-24), 3) := by decide +kernel
theorem dX8_isRead_48 : decode cX8_isRead 48 = .ok (.aload_n 0, 1) := by decide +kernel
theorem dX8_isRead_49 : decode cX8_isRead 49 = .ok (.getfield 224, 3) := by decide +kernel
theorem dX8_isRead_52 : decode cX8_isRead 52 = .ok (.ifCond .gt 14, 3) := by decide +kernel
theorem dX8_isRead_55 : decode cX8_isRead 55 = .ok (.aload_n 0, 1) := by decide +kernel
theorem dX8_isRead_56 : decode cX8_isRead 56 = .ok (.aload_n 0, 1) := by decide +kernel
theorem dX8_isRead_57 : decode cX8_isRead 57 = .ok (.getfield 206, 3) := by decide +kernel
theorem dX8_isRead_60 : decode cX8_isRead 60 = .ok (.invokevirtual 218, 3) := by decide +kernel
theorem dX8_isRead_63 : decode cX8_isRead 63 = .ok (.ifCond .eq 7, 3) := by decide +kernel
theorem dX8_isRead_66 : decode cX8_isRead 66 = .ok (.iconst 1, 1) := by decide +kernel
theorem dX8_isRead_67 : decode cX8_isRead 67 = .ok (.goto 4, 3) := by decide +kernel
theorem dX8_isRead_70 : decode cX8_isRead 70 = .ok (.iconst 0, 1) := by decide +kernel
theorem dX8_isRead_71 : decode cX8_isRead 71 = .ok (.ireturn, 1) := by decide +kernel
theorem dX8_puts_0 : decode cX8_puts 0 = .ok (.iload_n 1, 1) := by decide +kernel
theorem dX8_puts_1 : decode cX8_puts 1 = .ok (.ifCond .eq 10, 3) := by decide +kernel
theorem dX8_puts_4 : decode cX8_puts 4 = .ok (.aload_n 0, 1) := by decide +kernel
theorem dX8_puts_5 : decode cX8_puts 5 = .ok (.getfield 7, 3) := by decide +kernel
theorem dX8_puts_8 : decode cX8_puts 8 = .ok (.iload_n 2, 1) := by decide +kernel
theorem dX8_puts_9 : decode cX8_puts 9 = .ok (.iload_n 3, 1) := by decide +kernel
theorem dX8_puts_10 : decode cX8_puts 10 = .ok (.iastore, 1) := by decide +kernel
theorem dX8_puts_11 : decode cX8_puts 11 = .ok (.iload_n 1, 1) := by decide +kernel
theorem dX8_puts_12 : decode cX8_puts 12 = .ok (.ireturn, 1) := by decide +kernel
theorem dX8_groupTold_0 : decode cX8_groupTold 0 = .ok (.aload_n 0, 1) := by decide +kernel
theorem dX8_groupTold_1 : decode cX8_groupTold 1 = .ok (.aload_n 0, 1) := by decide +kernel
theorem dX8_groupTold_2 : decode cX8_groupTold 2 = .ok (.getfield 40, 3) := by decide +kernel
theorem dX8_groupTold_5 : decode cX8_groupTold 5 = .ok (.iload_n 1, 1) := by decide +kernel
theorem dX8_groupTold_6 : decode cX8_groupTold 6 = .ok (.iaload, 1) := by decide +kernel
theorem dX8_groupTold_7 : decode cX8_groupTold 7 = .ok (.aload_n 0, 1) := by decide +kernel
theorem dX8_groupTold_8 : decode cX8_groupTold 8 = .ok (.getfield 40, 3) := by decide +kernel
theorem dX8_groupTold_11 : decode cX8_groupTold 11 = .ok (.iload_n 1, 1) := by decide +kernel
theorem dX8_groupTold_12 : decode cX8_groupTold 12 = .ok (.iconst 1, 1) := by decide +kernel
theorem dX8_groupTold_13 : decode cX8_groupTold 13 = .ok (.iadd, 1) := by decide +kernel
theorem dX8_groupTold_14 : decode cX8_groupTold 14 = .ok (.iaload, 1) := by decide +kernel
theorem dX8_groupTold_15 : decode cX8_groupTold 15 = .ok (.aload_n 0, 1) := by decide +kernel
theorem dX8_groupTold_16 : decode cX8_groupTold 16 = .ok (.getfield 40, 3) := by decide +kernel
theorem dX8_groupTold_19 : decode cX8_groupTold 19 = .ok (.iload_n 1, 1) := by decide +kernel
theorem dX8_groupTold_20 : decode cX8_groupTold 20 = .ok (.iconst 2, 1) := by decide +kernel
theorem dX8_groupTold_21 : decode cX8_groupTold 21 = .ok (.iadd, 1) := by decide +kernel
theorem dX8_groupTold_22 : decode cX8_groupTold 22 = .ok (.iaload, 1) := by decide +kernel
theorem dX8_groupTold_23 : decode cX8_groupTold 23 = .ok (.aload_n 0, 1) := by decide +kernel
theorem dX8_groupTold_24 : decode cX8_groupTold 24 = .ok (.getfield 40, 3) := by decide +kernel
theorem dX8_groupTold_27 : decode cX8_groupTold 27 = .ok (.iload_n 1, 1) := by decide +kernel
theorem dX8_groupTold_28 : decode cX8_groupTold 28 = .ok (.iconst 3, 1) := by decide +kernel
theorem dX8_groupTold_29 : decode cX8_groupTold 29 = .ok (.iadd, 1) := by decide +kernel
theorem dX8_groupTold_30 : decode cX8_groupTold 30 = .ok (.iaload, 1) := by decide +kernel
theorem dX8_groupTold_31 : decode cX8_groupTold 31 = .ok (.aload_n 0, 1) := by decide +kernel
theorem dX8_groupTold_32 : decode cX8_groupTold 32 = .ok (.getfield 40, 3) := by decide +kernel
theorem dX8_groupTold_35 : decode cX8_groupTold 35 = .ok (.iload_n 1, 1) := by decide +kernel
theorem dX8_groupTold_36 : decode cX8_groupTold 36 = .ok (.iconst 4, 1) := by decide +kernel
theorem dX8_groupTold_37 : decode cX8_groupTold 37 = .ok (.iadd, 1) := by decide +kernel
theorem dX8_groupTold_38 : decode cX8_groupTold 38 = .ok (.iaload, 1) := by decide +kernel
theorem dX8_groupTold_39 : decode cX8_groupTold 39 = .ok (.invokevirtual 121, 3) := by decide +kernel
theorem dX8_groupTold_42 : decode cX8_groupTold 42 = .ok (.ifCond .eq 15, 3) := by decide +kernel
theorem dX8_groupTold_45 : decode cX8_groupTold 45 = .ok (.aload_n 0, 1) := by decide +kernel
theorem dX8_groupTold_46 : decode cX8_groupTold 46 = .ok (.getfield 7, 3) := by decide +kernel
theorem dX8_groupTold_49 : decode cX8_groupTold 49 = .ok (.bipush 70, 2) := by decide +kernel
theorem dX8_groupTold_51 : decode cX8_groupTold 51 = .ok (.iaload, 1) := by decide +kernel
theorem dX8_groupTold_52 : decode cX8_groupTold 52 = .ok (.bipush 6, 2) := by decide +kernel
theorem dX8_groupTold_54 : decode cX8_groupTold 54 = .ok (.if_icmp .ne 5, 3) := by decide +kernel
theorem dX8_groupTold_57 : decode cX8_groupTold 57 = .ok (.iconst 0, 1) := by decide +kernel
theorem dX8_groupTold_58 : decode cX8_groupTold 58 = .ok (.ireturn, 1) := by decide +kernel
theorem dX8_groupTold_59 : decode cX8_groupTold 59 = .ok (.aload_n 0, 1) := by decide +kernel
theorem dX8_groupTold_60 : decode cX8_groupTold 60 = .ok (.aload_n 0, 1) := by decide +kernel
theorem dX8_groupTold_61 : decode cX8_groupTold 61 = .ok (.getfield 40, 3) := by decide +kernel
theorem dX8_groupTold_64 : decode cX8_groupTold 64 = .ok (.iload_n 1, 1) := by decide +kernel
theorem dX8_groupTold_65 : decode cX8_groupTold 65 = .ok (.iaload, 1) := by decide +kernel
theorem dX8_groupTold_66 : decode cX8_groupTold 66 = .ok (.aload_n 0, 1) := by decide +kernel
theorem dX8_groupTold_67 : decode cX8_groupTold 67 = .ok (.getfield 40, 3) := by decide +kernel
theorem dX8_groupTold_70 : decode cX8_groupTold 70 = .ok (.iload_n 1, 1) := by decide +kernel
theorem dX8_groupTold_71 : decode cX8_groupTold 71 = .ok (.iconst 1, 1) := by decide +kernel
theorem dX8_groupTold_72 : decode cX8_groupTold 72 = .ok (.iadd, 1) := by decide +kernel
theorem dX8_groupTold_73 : decode cX8_groupTold 73 = .ok (.iaload, 1) := by decide +kernel
theorem dX8_groupTold_74 : decode cX8_groupTold 74 = .ok (.aload_n 0, 1) := by decide +kernel
theorem dX8_groupTold_75 : decode cX8_groupTold 75 = .ok (.getfield 40, 3) := by decide +kernel
theorem dX8_groupTold_78 : decode cX8_groupTold 78 = .ok (.iload_n 1, 1) := by decide +kernel
theorem dX8_groupTold_79 : decode cX8_groupTold 79 = .ok (.iconst 2, 1) := by decide +kernel
theorem dX8_groupTold_80 : decode cX8_groupTold 80 = .ok (.iadd, 1) := by decide +kernel
theorem dX8_groupTold_81 : decode cX8_groupTold 81 = .ok (.iaload, 1) := by decide +kernel
theorem dX8_groupTold_82 : decode cX8_groupTold 82 = .ok (.aload_n 0, 1) := by decide +kernel
theorem dX8_groupTold_83 : decode cX8_groupTold 83 = .ok (.getfield 40, 3) := by decide +kernel
theorem dX8_groupTold_86 : decode cX8_groupTold 86 = .ok (.iload_n 1, 1) := by decide +kernel
theorem dX8_groupTold_87 : decode cX8_groupTold 87 = .ok (.iconst 3, 1) := by decide +kernel
theorem dX8_groupTold_88 : decode cX8_groupTold 88 = .ok (.iadd, 1) := by decide +kernel
theorem dX8_groupTold_89 : decode cX8_groupTold 89 = .ok (.iaload, 1) := by decide +kernel
theorem dX8_groupTold_90 : decode cX8_groupTold 90 = .ok (.aload_n 0, 1) := by decide +kernel
theorem dX8_groupTold_91 : decode cX8_groupTold 91 = .ok (.getfield 40, 3) := by decide +kernel
theorem dX8_groupTold_94 : decode cX8_groupTold 94 = .ok (.iload_n 1, 1) := by decide +kernel
theorem dX8_groupTold_95 : decode cX8_groupTold 95 = .ok (.iconst 4, 1) := by decide +kernel
theorem dX8_groupTold_96 : decode cX8_groupTold 96 = .ok (.iadd, 1) := by decide +kernel
theorem dX8_groupTold_97 : decode cX8_groupTold 97 = .ok (.iaload, 1) := by decide +kernel
theorem dX8_groupTold_98 : decode cX8_groupTold 98 = .ok (.invokevirtual 125, 3) := by decide +kernel
theorem dX8_groupTold_101 : decode cX8_groupTold 101 = .ok (.istore_n 3, 1) := by decide +kernel
theorem dX8_groupTold_102 : decode cX8_groupTold 102 = .ok (.iload_n 1, 1) := by decide +kernel
theorem dX8_groupTold_103 : decode cX8_groupTold 103 = .ok (.iconst 5, 1) := by decide +kernel
theorem dX8_groupTold_104 : decode cX8_groupTold 104 = .ok (.iadd, 1) := by decide +kernel
theorem dX8_groupTold_105 : decode cX8_groupTold 105 = .ok (.istore 4, 2) := by decide +kernel
theorem dX8_groupTold_107 : decode cX8_groupTold 107 = .ok (.iload 4, 2) := by decide +kernel
theorem dX8_groupTold_109 : decode cX8_groupTold 109 = .ok (.iload_n 2, 1) := by decide +kernel
theorem dX8_groupTold_110 : decode cX8_groupTold 110 = .ok (.if_icmp .ge 52, 3) := by decide +kernel
theorem dX8_groupTold_113 : decode cX8_groupTold 113 = .ok (.aload_n 0, 1) := by decide +kernel
theorem dX8_groupTold_114 : decode cX8_groupTold 114 = .ok (.getfield 40, 3) := by decide +kernel
theorem dX8_groupTold_117 : decode cX8_groupTold 117 = .ok (.iload 4, 2) := by decide +kernel
theorem dX8_groupTold_119 : decode cX8_groupTold 119 = .ok (.iaload, 1) := by decide +kernel
theorem dX8_groupTold_120 : decode cX8_groupTold 120 = .ok (.invokestatic 79, 3) := by decide +kernel
theorem dX8_groupTold_123 : decode cX8_groupTold 123 = .ok (.ifCond .ne 5, 3) := by decide +kernel
theorem dX8_groupTold_126 : decode cX8_groupTold 126 = .ok (.iconst 0, 1) := by decide +kernel
theorem dX8_groupTold_127 : decode cX8_groupTold 127 = .ok (.ireturn, 1) := by decide +kernel
theorem dX8_groupTold_128 : decode cX8_groupTold 128 = .ok (.aload_n 0, 1) := by decide +kernel
theorem dX8_groupTold_129 : decode cX8_groupTold 129 = .ok (.iload_n 3, 1) := by decide +kernel
theorem dX8_groupTold_130 : decode cX8_groupTold 130 = .ok (.aload_n 0, 1) := by decide +kernel
theorem dX8_groupTold_131 : decode cX8_groupTold 131 = .ok (.getfield 40, 3) := by decide +kernel
theorem dX8_groupTold_134 : decode cX8_groupTold 134 = .ok (.iload 4, 2) := by decide +kernel
theorem dX8_groupTold_136 : decode cX8_groupTold 136 = .ok (.iaload, 1) := by decide +kernel
theorem dX8_groupTold_137 : decode cX8_groupTold 137 = .ok (.invokevirtual 118, 3) := by decide +kernel
theorem dX8_groupTold_140 : decode cX8_groupTold 140 = .ok (.istore 5, 2) := by decide +kernel
theorem dX8_groupTold_142 : decode cX8_groupTold 142 = .ok (.aload_n 0, 1) := by decide +kernel
theorem dX8_groupTold_143 : decode cX8_groupTold 143 = .ok (.getfield 7, 3) := by decide +kernel
theorem dX8_groupTold_146 : decode cX8_groupTold 146 = .ok (.iload_n 3, 1) := by decide +kernel
theorem dX8_groupTold_147 : decode cX8_groupTold 147 = .ok (.iload 5, 2) := by decide +kernel
theorem dX8_groupTold_149 : decode cX8_groupTold 149 = .ok (.invokestatic 115, 3) := by decide +kernel
theorem dX8_groupTold_152 : decode cX8_groupTold 152 = .ok (.iconst 2, 1) := by decide +kernel
theorem dX8_groupTold_153 : decode cX8_groupTold 153 = .ok (.iadd, 1) := by decide +kernel
theorem dX8_groupTold_154 : decode cX8_groupTold 154 = .ok (.iconst (-1), 1) := by decide +kernel
theorem dX8_groupTold_155 : decode cX8_groupTold 155 = .ok (.iastore, 1) := by decide +kernel
theorem dX8_groupTold_156 : decode cX8_groupTold 156 = .ok (.iinc 4 1, 3) := by decide +kernel
theorem dX8_groupTold_159 : decode cX8_groupTold 159 = .ok (.goto (-52), 3) := by decide +kernel
theorem dX8_groupTold_162 : decode cX8_groupTold 162 = .ok (.iconst 1, 1) := by decide +kernel
theorem dX8_groupTold_163 : decode cX8_groupTold 163 = .ok (.ireturn, 1) := by decide +kernel
theorem dX8_obeys_0 : decode cX8_obeys 0 = .ok (.aload_n 0, 1) := by decide +kernel
theorem dX8_obeys_1 : decode cX8_obeys 1 = .ok (.getfield 37, 3) := by decide +kernel
theorem dX8_obeys_4 : decode cX8_obeys 4 = .ok (.iload_n 1, 1) := by decide +kernel
theorem dX8_obeys_5 : decode cX8_obeys 5 = .ok (.iaload, 1) := by decide +kernel
theorem dX8_obeys_6 : decode cX8_obeys 6 = .ok (.istore_n 2, 1) := by decide +kernel
theorem dX8_obeys_7 : decode cX8_obeys 7 = .ok (.aload_n 0, 1) := by decide +kernel
theorem dX8_obeys_8 : decode cX8_obeys 8 = .ok (.getfield 40, 3) := by decide +kernel
theorem dX8_obeys_11 : decode cX8_obeys 11 = .ok (.iload_n 2, 1) := by decide +kernel
theorem dX8_obeys_12 : decode cX8_obeys 12 = .ok (.iaload, 1) := by decide +kernel
theorem dX8_obeys_13 : decode cX8_obeys 13 = .ok (.istore_n 3, 1) := by decide +kernel
theorem dX8_obeys_14 : decode cX8_obeys 14 = .ok (.aload_n 0, 1) := by decide +kernel
theorem dX8_obeys_15 : decode cX8_obeys 15 = .ok (.getfield 40, 3) := by decide +kernel
theorem dX8_obeys_18 : decode cX8_obeys 18 = .ok (.iload_n 2, 1) := by decide +kernel
theorem dX8_obeys_19 : decode cX8_obeys 19 = .ok (.iconst 1, 1) := by decide +kernel
theorem dX8_obeys_20 : decode cX8_obeys 20 = .ok (.iadd, 1) := by decide +kernel
theorem dX8_obeys_21 : decode cX8_obeys 21 = .ok (.iaload, 1) := by decide +kernel
theorem dX8_obeys_22 : decode cX8_obeys 22 = .ok (.istore 4, 2) := by decide +kernel
theorem dX8_obeys_24 : decode cX8_obeys 24 = .ok (.aload_n 0, 1) := by decide +kernel
theorem dX8_obeys_25 : decode cX8_obeys 25 = .ok (.getfield 34, 3) := by decide +kernel
theorem dX8_obeys_28 : decode cX8_obeys 28 = .ok (.iload_n 1, 1) := by decide +kernel
theorem dX8_obeys_29 : decode cX8_obeys 29 = .ok (.iaload, 1) := by decide +kernel
theorem dX8_obeys_30 : decode cX8_obeys 30 = .ok (.lookupswitch 177 #[(99, 71), (102, 121), (103, 163), (109, 42)], 42) := by decide +kernel
theorem dX8_obeys_72 : decode cX8_obeys 72 = .ok (.iload_n 3, 1) := by decide +kernel
theorem dX8_obeys_73 : decode cX8_obeys 73 = .ok (.iload 4, 2) := by decide +kernel
theorem dX8_obeys_75 : decode cX8_obeys 75 = .ok (.invokestatic 82, 3) := by decide +kernel
theorem dX8_obeys_78 : decode cX8_obeys 78 = .ok (.istore 5, 2) := by decide +kernel
theorem dX8_obeys_80 : decode cX8_obeys 80 = .ok (.aload_n 0, 1) := by decide +kernel
theorem dX8_obeys_81 : decode cX8_obeys 81 = .ok (.iload 5, 2) := by decide +kernel
theorem dX8_obeys_83 : decode cX8_obeys 83 = .ok (.iload 5, 2) := by decide +kernel
theorem dX8_obeys_85 : decode cX8_obeys 85 = .ok (.ifCond .eq 9, 3) := by decide +kernel
theorem dX8_obeys_88 : decode cX8_obeys 88 = .ok (.iconst 1, 1) := by decide +kernel
theorem dX8_obeys_89 : decode cX8_obeys 89 = .ok (.iload_n 3, 1) := by decide +kernel
theorem dX8_obeys_90 : decode cX8_obeys 90 = .ok (.iadd, 1) := by decide +kernel
theorem dX8_obeys_91 : decode cX8_obeys 91 = .ok (.goto 4, 3) := by decide +kernel
theorem dX8_obeys_94 : decode cX8_obeys 94 = .ok (.iconst 0, 1) := by decide +kernel
theorem dX8_obeys_95 : decode cX8_obeys 95 = .ok (.iload 4, 2) := by decide +kernel
theorem dX8_obeys_97 : decode cX8_obeys 97 = .ok (.invokevirtual 236, 3) := by decide +kernel
theorem dX8_obeys_100 : decode cX8_obeys 100 = .ok (.ireturn, 1) := by decide +kernel
theorem dX8_obeys_101 : decode cX8_obeys 101 = .ok (.aload_n 0, 1) := by decide +kernel
theorem dX8_obeys_102 : decode cX8_obeys 102 = .ok (.iload_n 3, 1) := by decide +kernel
theorem dX8_obeys_103 : decode cX8_obeys 103 = .ok (.iload 4, 2) := by decide +kernel
theorem dX8_obeys_105 : decode cX8_obeys 105 = .ok (.aload_n 0, 1) := by decide +kernel
theorem dX8_obeys_106 : decode cX8_obeys 106 = .ok (.getfield 40, 3) := by decide +kernel
theorem dX8_obeys_109 : decode cX8_obeys 109 = .ok (.iload_n 2, 1) := by decide +kernel
theorem dX8_obeys_110 : decode cX8_obeys 110 = .ok (.iconst 2, 1) := by decide +kernel
theorem dX8_obeys_111 : decode cX8_obeys 111 = .ok (.iadd, 1) := by decide +kernel
theorem dX8_obeys_112 : decode cX8_obeys 112 = .ok (.iaload, 1) := by decide +kernel
theorem dX8_obeys_113 : decode cX8_obeys 113 = .ok (.invokevirtual 89, 3) := by decide +kernel
theorem dX8_obeys_116 : decode cX8_obeys 116 = .ok (.istore 5, 2) := by decide +kernel
theorem dX8_obeys_118 : decode cX8_obeys 118 = .ok (.aload_n 0, 1) := by decide +kernel
theorem dX8_obeys_119 : decode cX8_obeys 119 = .ok (.iload 5, 2) := by decide +kernel
theorem dX8_obeys_121 : decode cX8_obeys 121 = .ok (.iload 5, 2) := by decide +kernel
theorem dX8_obeys_123 : decode cX8_obeys 123 = .ok (.ifCond .eq 15, 3) := by decide +kernel
theorem dX8_obeys_126 : decode cX8_obeys 126 = .ok (.iload_n 3, 1) := by decide +kernel
theorem dX8_obeys_127 : decode cX8_obeys 127 = .ok (.invokestatic 67, 3) := by decide +kernel
theorem dX8_obeys_130 : decode cX8_obeys 130 = .ok (.iconst 2, 1) := by decide +kernel
theorem dX8_obeys_131 : decode cX8_obeys 131 = .ok (.iadd, 1) := by decide +kernel
theorem dX8_obeys_132 : decode cX8_obeys 132 = .ok (.iload 4, 2) := by decide +kernel
theorem dX8_obeys_134 : decode cX8_obeys 134 = .ok (.iadd, 1) := by decide +kernel
theorem dX8_obeys_135 : decode cX8_obeys 135 = .ok (.goto 4, 3) := by decide +kernel
theorem dX8_obeys_138 : decode cX8_obeys 138 = .ok (.iconst 0, 1) := by decide +kernel
theorem dX8_obeys_139 : decode cX8_obeys 139 = .ok (.aload_n 0, 1) := by decide +kernel
theorem dX8_obeys_140 : decode cX8_obeys 140 = .ok (.getfield 40, 3) := by decide +kernel
theorem dX8_obeys_143 : decode cX8_obeys 143 = .ok (.iload_n 2, 1) := by decide +kernel
theorem dX8_obeys_144 : decode cX8_obeys 144 = .ok (.iconst 2, 1) := by decide +kernel
theorem dX8_obeys_145 : decode cX8_obeys 145 = .ok (.iadd, 1) := by decide +kernel
theorem dX8_obeys_146 : decode cX8_obeys 146 = .ok (.iaload, 1) := by decide +kernel
theorem dX8_obeys_147 : decode cX8_obeys 147 = .ok (.invokevirtual 236, 3) := by decide +kernel
theorem dX8_obeys_150 : decode cX8_obeys 150 = .ok (.ireturn, 1) := by decide +kernel
theorem dX8_obeys_151 : decode cX8_obeys 151 = .ok (.aload_n 0, 1) := by decide +kernel
theorem dX8_obeys_152 : decode cX8_obeys 152 = .ok (.iload_n 3, 1) := by decide +kernel
theorem dX8_obeys_153 : decode cX8_obeys 153 = .ok (.invokevirtual 86, 3) := by decide +kernel
theorem dX8_obeys_156 : decode cX8_obeys 156 = .ok (.ifCond .eq 35, 3) := by decide +kernel
theorem dX8_obeys_159 : decode cX8_obeys 159 = .ok (.aload_n 0, 1) := by decide +kernel
theorem dX8_obeys_160 : decode cX8_obeys 160 = .ok (.iload_n 3, 1) := by decide +kernel
theorem dX8_obeys_161 : decode cX8_obeys 161 = .ok (.invokevirtual 95, 3) := by decide +kernel
theorem dX8_obeys_164 : decode cX8_obeys 164 = .ok (.ifCond .ne 27, 3) := by decide +kernel
theorem dX8_obeys_167 : decode cX8_obeys 167 = .ok (.aload_n 0, 1) := by decide +kernel
theorem dX8_obeys_168 : decode cX8_obeys 168 = .ok (.getfield 7, 3) := by decide +kernel
theorem dX8_obeys_171 : decode cX8_obeys 171 = .ok (.bipush 9, 2) := by decide +kernel
theorem dX8_obeys_173 : decode cX8_obeys 173 = .ok (.iaload, 1) := by decide +kernel
theorem dX8_obeys_174 : decode cX8_obeys 174 = .ok (.bipush 6, 2) := by decide +kernel
theorem dX8_obeys_176 : decode cX8_obeys 176 = .ok (.if_icmp .ge 15, 3) := by decide +kernel
theorem dX8_obeys_179 : decode cX8_obeys 179 = .ok (.aload_n 0, 1) := by decide +kernel
theorem dX8_obeys_180 : decode cX8_obeys 180 = .ok (.iload_n 3, 1) := by decide +kernel
theorem dX8_obeys_181 : decode cX8_obeys 181 = .ok (.invokevirtual 101, 3) := by decide +kernel
theorem dX8_obeys_184 : decode cX8_obeys 184 = .ok (.ifCond .le 7, 3) := by decide +kernel
theorem dX8_obeys_187 : decode cX8_obeys 187 = .ok (.iconst 1, 1) := by decide +kernel
theorem dX8_obeys_188 : decode cX8_obeys 188 = .ok (.goto 4, 3) := by decide +kernel
theorem dX8_obeys_191 : decode cX8_obeys 191 = .ok (.iconst 0, 1) := by decide +kernel
theorem dX8_obeys_192 : decode cX8_obeys 192 = .ok (.ireturn, 1) := by decide +kernel
theorem dX8_obeys_193 : decode cX8_obeys 193 = .ok (.aload_n 0, 1) := by decide +kernel
theorem dX8_obeys_194 : decode cX8_obeys 194 = .ok (.iload_n 2, 1) := by decide +kernel
theorem dX8_obeys_195 : decode cX8_obeys 195 = .ok (.aload_n 0, 1) := by decide +kernel
theorem dX8_obeys_196 : decode cX8_obeys 196 = .ok (.getfield 37, 3) := by decide +kernel
theorem dX8_obeys_199 : decode cX8_obeys 199 = .ok (.iload_n 1, 1) := by decide +kernel
theorem dX8_obeys_200 : decode cX8_obeys 200 = .ok (.iconst 1, 1) := by decide +kernel
theorem dX8_obeys_201 : decode cX8_obeys 201 = .ok (.iadd, 1) := by decide +kernel
theorem dX8_obeys_202 : decode cX8_obeys 202 = .ok (.iaload, 1) := by decide +kernel
theorem dX8_obeys_203 : decode cX8_obeys 203 = .ok (.invokevirtual 240, 3) := by decide +kernel
theorem dX8_obeys_206 : decode cX8_obeys 206 = .ok (.ireturn, 1) := by decide +kernel
theorem dX8_obeys_207 : decode cX8_obeys 207 = .ok (.aload_n 0, 1) := by decide +kernel
theorem dX8_obeys_208 : decode cX8_obeys 208 = .ok (.iload_n 3, 1) := by decide +kernel
theorem dX8_obeys_209 : decode cX8_obeys 209 = .ok (.iload 4, 2) := by decide +kernel
theorem dX8_obeys_211 : decode cX8_obeys 211 = .ok (.invokevirtual 173, 3) := by decide +kernel
theorem dX8_obeys_214 : decode cX8_obeys 214 = .ok (.ifCond .eq 25, 3) := by decide +kernel
theorem dX8_obeys_217 : decode cX8_obeys 217 = .ok (.aload_n 0, 1) := by decide +kernel
theorem dX8_obeys_218 : decode cX8_obeys 218 = .ok (.iload_n 3, 1) := by decide +kernel
theorem dX8_obeys_219 : decode cX8_obeys 219 = .ok (.invokevirtual 95, 3) := by decide +kernel
theorem dX8_obeys_222 : decode cX8_obeys 222 = .ok (.ifCond .ne 17, 3) := by decide +kernel
theorem dX8_obeys_225 : decode cX8_obeys 225 = .ok (.aload_n 0, 1) := by decide +kernel
theorem dX8_obeys_226 : decode cX8_obeys 226 = .ok (.iload_n 3, 1) := by decide +kernel
theorem dX8_obeys_227 : decode cX8_obeys 227 = .ok (.iload 4, 2) := by decide +kernel
theorem dX8_obeys_229 : decode cX8_obeys 229 = .ok (.invokevirtual 176, 3) := by decide +kernel
theorem dX8_obeys_232 : decode cX8_obeys 232 = .ok (.ifCond .le 7, 3) := by decide +kernel
theorem dX8_obeys_235 : decode cX8_obeys 235 = .ok (.iconst 1, 1) := by decide +kernel
theorem dX8_obeys_236 : decode cX8_obeys 236 = .ok (.goto 4, 3) := by decide +kernel
theorem dX8_obeys_239 : decode cX8_obeys 239 = .ok (.iconst 0, 1) := by decide +kernel
theorem dX8_obeys_240 : decode cX8_obeys 240 = .ok (.ireturn, 1) := by decide +kernel
theorem dX8_swapsAside_0 : decode cX8_swapsAside 0 = .ok (.iconst 0, 1) := by decide +kernel
theorem dX8_swapsAside_1 : decode cX8_swapsAside 1 = .ok (.istore_n 1, 1) := by decide +kernel
theorem dX8_swapsAside_2 : decode cX8_swapsAside 2 = .ok (.iload_n 1, 1) := by decide +kernel
theorem dX8_swapsAside_3 : decode cX8_swapsAside 3 = .ok (.sipush 659, 3) := by decide +kernel
theorem dX8_swapsAside_6 : decode cX8_swapsAside 6 = .ok (.if_icmp .ge 35, 3) := by decide +kernel
theorem dX8_swapsAside_9 : decode cX8_swapsAside 9 = .ok (.aload_n 0, 1) := by decide +kernel
theorem dX8_swapsAside_10 : decode cX8_swapsAside 10 = .ok (.getfield 7, 3) := by decide +kernel
theorem dX8_swapsAside_13 : decode cX8_swapsAside 13 = .ok (.iload_n 1, 1) := by decide +kernel
theorem dX8_swapsAside_14 : decode cX8_swapsAside 14 = .ok (.iaload, 1) := by decide +kernel
theorem dX8_swapsAside_15 : decode cX8_swapsAside 15 = .ok (.istore_n 2, 1) := by decide +kernel
theorem dX8_swapsAside_16 : decode cX8_swapsAside 16 = .ok (.aload_n 0, 1) := by decide +kernel
theorem dX8_swapsAside_17 : decode cX8_swapsAside 17 = .ok (.getfield 7, 3) := by decide +kernel
theorem dX8_swapsAside_20 : decode cX8_swapsAside 20 = .ok (.iload_n 1, 1) := by decide +kernel
theorem dX8_swapsAside_21 : decode cX8_swapsAside 21 = .ok (.aload_n 0, 1) := by decide +kernel
theorem dX8_swapsAside_22 : decode cX8_swapsAside 22 = .ok (.getfield 13, 3) := by decide +kernel
theorem dX8_swapsAside_25 : decode cX8_swapsAside 25 = .ok (.iload_n 1, 1) := by decide +kernel
theorem dX8_swapsAside_26 : decode cX8_swapsAside 26 = .ok (.iaload, 1) := by decide +kernel
theorem dX8_swapsAside_27 : decode cX8_swapsAside 27 = .ok (.iastore, 1) := by decide +kernel
theorem dX8_swapsAside_28 : decode cX8_swapsAside 28 = .ok (.aload_n 0, 1) := by decide +kernel
theorem dX8_swapsAside_29 : decode cX8_swapsAside 29 = .ok (.getfield 13, 3) := by decide +kernel
theorem dX8_swapsAside_32 : decode cX8_swapsAside 32 = .ok (.iload_n 1, 1) := by decide +kernel
theorem dX8_swapsAside_33 : decode cX8_swapsAside 33 = .ok (.iload_n 2, 1) := by decide +kernel
theorem dX8_swapsAside_34 : decode cX8_swapsAside 34 = .ok (.iastore, 1) := by decide +kernel
theorem dX8_swapsAside_35 : decode cX8_swapsAside 35 = .ok (.iinc 1 1, 3) := by decide +kernel
theorem dX8_swapsAside_38 : decode cX8_swapsAside 38 = .ok (.goto (-36), 3) := by decide +kernel
theorem dX8_swapsAside_41 : decode cX8_swapsAside 41 = .ok (.return_, 1) := by decide +kernel
theorem dX8_does_0 : decode cX8_does 0 = .ok (.aload_n 0, 1) := by decide +kernel
theorem dX8_does_1 : decode cX8_does 1 = .ok (.invokevirtual 243, 3) := by decide +kernel
theorem dX8_does_4 : decode cX8_does 4 = .ok (.ifCond .ne 11, 3) := by decide +kernel
theorem dX8_does_7 : decode cX8_does 7 = .ok (.bipush (-10), 2) := by decide +kernel
theorem dX8_does_9 : decode cX8_does 9 = .ok (.aload_n 0, 1) := by decide +kernel
theorem dX8_does_10 : decode cX8_does 10 = .ok (.getfield 215, 3) := by decide +kernel
theorem dX8_does_13 : decode cX8_does 13 = .ok (.isub, 1) := by decide +kernel
theorem dX8_does_14 : decode cX8_does 14 = .ok (.ireturn, 1) := by decide +kernel
theorem dX8_does_15 : decode cX8_does 15 = .ok (.iconst 0, 1) := by decide +kernel
theorem dX8_does_16 : decode cX8_does 16 = .ok (.istore_n 1, 1) := by decide +kernel
theorem dX8_does_17 : decode cX8_does 17 = .ok (.iload_n 1, 1) := by decide +kernel
theorem dX8_does_18 : decode cX8_does 18 = .ok (.sipush 659, 3) := by decide +kernel
theorem dX8_does_21 : decode cX8_does 21 = .ok (.if_icmp .ge 21, 3) := by decide +kernel
theorem dX8_does_24 : decode cX8_does 24 = .ok (.aload_n 0, 1) := by decide +kernel
theorem dX8_does_25 : decode cX8_does 25 = .ok (.getfield 13, 3) := by decide +kernel
theorem dX8_does_28 : decode cX8_does 28 = .ok (.iload_n 1, 1) := by decide +kernel
theorem dX8_does_29 : decode cX8_does 29 = .ok (.aload_n 0, 1) := by decide +kernel
theorem dX8_does_30 : decode cX8_does 30 = .ok (.getfield 7, 3) := by decide +kernel
theorem dX8_does_33 : decode cX8_does 33 = .ok (.iload_n 1, 1) := by decide +kernel
theorem dX8_does_34 : decode cX8_does 34 = .ok (.iaload, 1) := by decide +kernel
theorem dX8_does_35 : decode cX8_does 35 = .ok (.iastore, 1) := by decide +kernel
theorem dX8_does_36 : decode cX8_does 36 = .ok (.iinc 1 1, 3) := by decide +kernel
theorem dX8_does_39 : decode cX8_does 39 = .ok (.goto (-22), 3) := by decide +kernel
theorem dX8_does_42 : decode cX8_does 42 = .ok (.iconst 0, 1) := by decide +kernel
theorem dX8_does_43 : decode cX8_does 43 = .ok (.istore_n 1, 1) := by decide +kernel
theorem dX8_does_44 : decode cX8_does 44 = .ok (.iload_n 1, 1) := by decide +kernel
theorem dX8_does_45 : decode cX8_does 45 = .ok (.aload_n 0, 1) := by decide +kernel
theorem dX8_does_46 : decode cX8_does 46 = .ok (.getfield 224, 3) := by decide +kernel
theorem dX8_does_49 : decode cX8_does 49 = .ok (.if_icmp .ge 27, 3) := by decide +kernel
theorem dX8_does_52 : decode cX8_does 52 = .ok (.aload_n 0, 1) := by decide +kernel
theorem dX8_does_53 : decode cX8_does 53 = .ok (.iload_n 1, 1) := by decide +kernel
theorem dX8_does_54 : decode cX8_does 54 = .ok (.invokevirtual 246, 3) := by decide +kernel
theorem dX8_does_57 : decode cX8_does 57 = .ok (.ifCond .ne 13, 3) := by decide +kernel
theorem dX8_does_60 : decode cX8_does 60 = .ok (.aload_n 0, 1) := by decide +kernel
theorem dX8_does_61 : decode cX8_does 61 = .ok (.invokevirtual 249, 3) := by decide +kernel
theorem dX8_does_64 : decode cX8_does 64 = .ok (.sipush (-1000), 3) := by decide +kernel
theorem dX8_does_67 : decode cX8_does 67 = .ok (.iload_n 1, 1) := by decide +kernel
theorem dX8_does_68 : decode cX8_does 68 = .ok (.isub, 1) := by decide +kernel
theorem dX8_does_69 : decode cX8_does 69 = .ok (.ireturn, 1) := by decide +kernel
theorem dX8_does_70 : decode cX8_does 70 = .ok (.iinc 1 1, 3) := by decide +kernel
theorem dX8_does_73 : decode cX8_does 73 = .ok (.goto (-29), 3) := by decide +kernel
theorem dX8_does_76 : decode cX8_does 76 = .ok (.aload_n 0, 1) := by decide +kernel
theorem dX8_does_77 : decode cX8_does 77 = .ok (.invokevirtual 249, 3) := by decide +kernel
theorem dX8_does_80 : decode cX8_does 80 = .ok (.aload_n 0, 1) := by decide +kernel
theorem dX8_does_81 : decode cX8_does 81 = .ok (.invokevirtual 73, 3) := by decide +kernel
theorem dX8_does_84 : decode cX8_does 84 = .ok (.aload_n 0, 1) := by decide +kernel
theorem dX8_does_85 : decode cX8_does 85 = .ok (.invokevirtual 249, 3) := by decide +kernel
theorem dX8_does_88 : decode cX8_does 88 = .ok (.aload_n 0, 1) := by decide +kernel
theorem dX8_does_89 : decode cX8_does 89 = .ok (.getfield 224, 3) := by decide +kernel
theorem dX8_does_92 : decode cX8_does 92 = .ok (.ireturn, 1) := by decide +kernel
theorem dX8_refusedOf_0 : decode cX8_refusedOf 0 = .ok (.iload_n 1, 1) := by decide +kernel
theorem dX8_refusedOf_1 : decode cX8_refusedOf 1 = .ok (.iconst 3, 1) := by decide +kernel
theorem dX8_refusedOf_2 : decode cX8_refusedOf 2 = .ok (.if_icmp .ge 12, 3) := by decide +kernel
theorem dX8_refusedOf_5 : decode cX8_refusedOf 5 = .ok (.aload_n 0, 1) := by decide +kernel
theorem dX8_refusedOf_6 : decode cX8_refusedOf 6 = .ok (.getfield 19, 3) := by decide +kernel
theorem dX8_refusedOf_9 : decode cX8_refusedOf 9 = .ok (.iload_n 1, 1) := by decide +kernel
theorem dX8_refusedOf_10 : decode cX8_refusedOf 10 = .ok (.iaload, 1) := by decide +kernel
theorem dX8_refusedOf_11 : decode cX8_refusedOf 11 = .ok (.goto 19, 3) := by decide +kernel
theorem dX8_refusedOf_14 : decode cX8_refusedOf 14 = .ok (.iload_n 1, 1) := by decide +kernel
theorem dX8_refusedOf_15 : decode cX8_refusedOf 15 = .ok (.iconst 3, 1) := by decide +kernel
theorem dX8_refusedOf_16 : decode cX8_refusedOf 16 = .ok (.if_icmp .ne 10, 3) := by decide +kernel
theorem dX8_refusedOf_19 : decode cX8_refusedOf 19 = .ok (.aload_n 0, 1) := by decide +kernel
theorem dX8_refusedOf_20 : decode cX8_refusedOf 20 = .ok (.getfield 206, 3) := by decide +kernel
theorem dX8_refusedOf_23 : decode cX8_refusedOf 23 = .ok (.goto 7, 3) := by decide +kernel
theorem dX8_refusedOf_26 : decode cX8_refusedOf 26 = .ok (.aload_n 0, 1) := by decide +kernel
theorem dX8_refusedOf_27 : decode cX8_refusedOf 27 = .ok (.getfield 43, 3) := by decide +kernel
theorem dX8_refusedOf_30 : decode cX8_refusedOf 30 = .ok (.ireturn, 1) := by decide +kernel
theorem dX8_refused_0 : decode cX8_refused 0 = .ok (.iload_n 1, 1) := by decide +kernel
theorem dX8_refused_1 : decode cX8_refused 1 = .ok (.iconst 0, 1) := by decide +kernel
theorem dX8_refused_2 : decode cX8_refused 2 = .ok (.iconst 4, 1) := by decide +kernel
theorem dX8_refused_3 : decode cX8_refused 3 = .ok (.invokestatic 51, 3) := by decide +kernel
theorem dX8_refused_6 : decode cX8_refused 6 = .ok (.ifCond .eq 11, 3) := by decide +kernel
theorem dX8_refused_9 : decode cX8_refused 9 = .ok (.aload_n 0, 1) := by decide +kernel
theorem dX8_refused_10 : decode cX8_refused 10 = .ok (.iload_n 1, 1) := by decide +kernel
theorem dX8_refused_11 : decode cX8_refused 11 = .ok (.invokevirtual 252, 3) := by decide +kernel
theorem dX8_refused_14 : decode cX8_refused 14 = .ok (.goto 7, 3) := by decide +kernel
theorem dX8_refused_17 : decode cX8_refused 17 = .ok (.aload_n 0, 1) := by decide +kernel
theorem dX8_refused_18 : decode cX8_refused 18 = .ok (.invokevirtual 70, 3) := by decide +kernel
theorem dX8_refused_21 : decode cX8_refused 21 = .ok (.ireturn, 1) := by decide +kernel
theorem dX8_mix_0 : decode cX8_mix 0 = .ok (.aload_n 0, 1) := by decide +kernel
theorem dX8_mix_1 : decode cX8_mix 1 = .ok (.ldc2_w 255, 3) := by decide +kernel
theorem dX8_mix_4 : decode cX8_mix 4 = .ok (.aload_n 0, 1) := by decide +kernel
theorem dX8_mix_5 : decode cX8_mix 5 = .ok (.getfield 257, 3) := by decide +kernel
theorem dX8_mix_8 : decode cX8_mix 8 = .ok (.lmul, 1) := by decide +kernel
theorem dX8_mix_9 : decode cX8_mix 9 = .ok (.lload_n 1, 1) := by decide +kernel
theorem dX8_mix_10 : decode cX8_mix 10 = .ok (.ladd, 1) := by decide +kernel
theorem dX8_mix_11 : decode cX8_mix 11 = .ok (.putfield 257, 3) := by decide +kernel
theorem dX8_mix_14 : decode cX8_mix 14 = .ok (.return_, 1) := by decide +kernel
theorem dX8_mixGroup_0 : decode cX8_mixGroup 0 = .ok (.iconst 0, 1) := by decide +kernel
theorem dX8_mixGroup_1 : decode cX8_mixGroup 1 = .ok (.istore_n 2, 1) := by decide +kernel
theorem dX8_mixGroup_2 : decode cX8_mixGroup 2 = .ok (.iload_n 2, 1) := by decide +kernel
theorem dX8_mixGroup_3 : decode cX8_mixGroup 3 = .ok (.bipush 10, 2) := by decide +kernel
theorem dX8_mixGroup_5 : decode cX8_mixGroup 5 = .ok (.if_icmp .gt 20, 3) := by decide +kernel
theorem dX8_mixGroup_8 : decode cX8_mixGroup 8 = .ok (.aload_n 0, 1) := by decide +kernel
theorem dX8_mixGroup_9 : decode cX8_mixGroup 9 = .ok (.aload_n 0, 1) := by decide +kernel
theorem dX8_mixGroup_10 : decode cX8_mixGroup 10 = .ok (.iload_n 1, 1) := by decide +kernel
theorem dX8_mixGroup_11 : decode cX8_mixGroup 11 = .ok (.iload_n 2, 1) := by decide +kernel
theorem dX8_mixGroup_12 : decode cX8_mixGroup 12 = .ok (.invokevirtual 185, 3) := by decide +kernel
theorem dX8_mixGroup_15 : decode cX8_mixGroup 15 = .ok (.i2l, 1) := by decide +kernel
theorem dX8_mixGroup_16 : decode cX8_mixGroup 16 = .ok (.invokevirtual 261, 3) := by decide +kernel
theorem dX8_mixGroup_19 : decode cX8_mixGroup 19 = .ok (.iinc 2 1, 3) := by decide +kernel
theorem dX8_mixGroup_22 : decode cX8_mixGroup 22 = .ok (.goto (-20), 3) := by decide +kernel
theorem dX8_mixGroup_25 : decode cX8_mixGroup 25 = .ok (.iconst 0, 1) := by decide +kernel
theorem dX8_mixGroup_26 : decode cX8_mixGroup 26 = .ok (.istore_n 2, 1) := by decide +kernel
theorem dX8_mixGroup_27 : decode cX8_mixGroup 27 = .ok (.iload_n 2, 1) := by decide +kernel
theorem dX8_mixGroup_28 : decode cX8_mixGroup 28 = .ok (.aload_n 0, 1) := by decide +kernel
theorem dX8_mixGroup_29 : decode cX8_mixGroup 29 = .ok (.iload_n 1, 1) := by decide +kernel
theorem dX8_mixGroup_30 : decode cX8_mixGroup 30 = .ok (.iconst 5, 1) := by decide +kernel
theorem dX8_mixGroup_31 : decode cX8_mixGroup 31 = .ok (.invokevirtual 63, 3) := by decide +kernel
theorem dX8_mixGroup_34 : decode cX8_mixGroup 34 = .ok (.if_icmp .ge 98, 3) := by decide +kernel
theorem dX8_mixGroup_37 : decode cX8_mixGroup 37 = .ok (.iconst 0, 1) := by decide +kernel
theorem dX8_mixGroup_38 : decode cX8_mixGroup 38 = .ok (.istore_n 3, 1) := by decide +kernel
theorem dX8_mixGroup_39 : decode cX8_mixGroup 39 = .ok (.iload_n 3, 1) := by decide +kernel
theorem dX8_mixGroup_40 : decode cX8_mixGroup 40 = .ok (.iconst 3, 1) := by decide +kernel
theorem dX8_mixGroup_41 : decode cX8_mixGroup 41 = .ok (.if_icmp .ge 26, 3) := by decide +kernel
theorem dX8_mixGroup_44 : decode cX8_mixGroup 44 = .ok (.aload_n 0, 1) := by decide +kernel
theorem dX8_mixGroup_45 : decode cX8_mixGroup 45 = .ok (.aload_n 0, 1) := by decide +kernel
theorem dX8_mixGroup_46 : decode cX8_mixGroup 46 = .ok (.getfield 7, 3) := by decide +kernel
theorem dX8_mixGroup_49 : decode cX8_mixGroup 49 = .ok (.iload_n 1, 1) := by decide +kernel
theorem dX8_mixGroup_50 : decode cX8_mixGroup 50 = .ok (.iload_n 2, 1) := by decide +kernel
theorem dX8_mixGroup_51 : decode cX8_mixGroup 51 = .ok (.invokestatic 115, 3) := by decide +kernel
theorem dX8_mixGroup_54 : decode cX8_mixGroup 54 = .ok (.iload_n 3, 1) := by decide +kernel
theorem dX8_mixGroup_55 : decode cX8_mixGroup 55 = .ok (.iadd, 1) := by decide +kernel
theorem dX8_mixGroup_56 : decode cX8_mixGroup 56 = .ok (.iaload, 1) := by decide +kernel
theorem dX8_mixGroup_57 : decode cX8_mixGroup 57 = .ok (.i2l, 1) := by decide +kernel
theorem dX8_mixGroup_58 : decode cX8_mixGroup 58 = .ok (.invokevirtual 261, 3) := by decide +kernel
theorem dX8_mixGroup_61 : decode cX8_mixGroup 61 = .ok (.iinc 3 1, 3) := by decide +kernel
theorem dX8_mixGroup_64 : decode cX8_mixGroup 64 = .ok (.goto (-25), 3) := by decide +kernel
theorem dX8_mixGroup_67 : decode cX8_mixGroup 67 = .ok (.iconst 0, 1) := by decide +kernel
theorem dX8_mixGroup_68 : decode cX8_mixGroup 68 = .ok (.istore_n 3, 1) := by decide +kernel
theorem dX8_mixGroup_69 : decode cX8_mixGroup 69 = .ok (.iload_n 3, 1) := by decide +kernel
theorem dX8_mixGroup_70 : decode cX8_mixGroup 70 = .ok (.aload_n 0, 1) := by decide +kernel
theorem dX8_mixGroup_71 : decode cX8_mixGroup 71 = .ok (.getfield 7, 3) := by decide +kernel
theorem dX8_mixGroup_74 : decode cX8_mixGroup 74 = .ok (.bipush 9, 2) := by decide +kernel
theorem dX8_mixGroup_76 : decode cX8_mixGroup 76 = .ok (.iaload, 1) := by decide +kernel
theorem dX8_mixGroup_77 : decode cX8_mixGroup 77 = .ok (.if_icmp .ge 25, 3) := by decide +kernel
theorem dX8_mixGroup_80 : decode cX8_mixGroup 80 = .ok (.aload_n 0, 1) := by decide +kernel
theorem dX8_mixGroup_81 : decode cX8_mixGroup 81 = .ok (.aload_n 0, 1) := by decide +kernel
theorem dX8_mixGroup_82 : decode cX8_mixGroup 82 = .ok (.getfield 7, 3) := by decide +kernel
theorem dX8_mixGroup_85 : decode cX8_mixGroup 85 = .ok (.iload_n 1, 1) := by decide +kernel
theorem dX8_mixGroup_86 : decode cX8_mixGroup 86 = .ok (.iload_n 2, 1) := by decide +kernel
theorem dX8_mixGroup_87 : decode cX8_mixGroup 87 = .ok (.iload_n 3, 1) := by decide +kernel
theorem dX8_mixGroup_88 : decode cX8_mixGroup 88 = .ok (.invokestatic 111, 3) := by decide +kernel
theorem dX8_mixGroup_91 : decode cX8_mixGroup 91 = .ok (.iaload, 1) := by decide +kernel
theorem dX8_mixGroup_92 : decode cX8_mixGroup 92 = .ok (.i2l, 1) := by decide +kernel
theorem dX8_mixGroup_93 : decode cX8_mixGroup 93 = .ok (.invokevirtual 261, 3) := by decide +kernel
theorem dX8_mixGroup_96 : decode cX8_mixGroup 96 = .ok (.iinc 3 1, 3) := by decide +kernel
theorem dX8_mixGroup_99 : decode cX8_mixGroup 99 = .ok (.goto (-30), 3) := by decide +kernel
theorem dX8_mixGroup_102 : decode cX8_mixGroup 102 = .ok (.aload_n 0, 1) := by decide +kernel
theorem dX8_mixGroup_103 : decode cX8_mixGroup 103 = .ok (.aload_n 0, 1) := by decide +kernel
theorem dX8_mixGroup_104 : decode cX8_mixGroup 104 = .ok (.iload_n 1, 1) := by decide +kernel
theorem dX8_mixGroup_105 : decode cX8_mixGroup 105 = .ok (.iload_n 2, 1) := by decide +kernel
theorem dX8_mixGroup_106 : decode cX8_mixGroup 106 = .ok (.iconst 0, 1) := by decide +kernel
theorem dX8_mixGroup_107 : decode cX8_mixGroup 107 = .ok (.invokevirtual 194, 3) := by decide +kernel
theorem dX8_mixGroup_110 : decode cX8_mixGroup 110 = .ok (.i2l, 1) := by decide +kernel
theorem dX8_mixGroup_111 : decode cX8_mixGroup 111 = .ok (.invokevirtual 261, 3) := by decide +kernel
theorem dX8_mixGroup_114 : decode cX8_mixGroup 114 = .ok (.aload_n 0, 1) := by decide +kernel
theorem dX8_mixGroup_115 : decode cX8_mixGroup 115 = .ok (.aload_n 0, 1) := by decide +kernel
theorem dX8_mixGroup_116 : decode cX8_mixGroup 116 = .ok (.iload_n 1, 1) := by decide +kernel
theorem dX8_mixGroup_117 : decode cX8_mixGroup 117 = .ok (.iload_n 2, 1) := by decide +kernel
theorem dX8_mixGroup_118 : decode cX8_mixGroup 118 = .ok (.iconst 1, 1) := by decide +kernel
theorem dX8_mixGroup_119 : decode cX8_mixGroup 119 = .ok (.invokevirtual 194, 3) := by decide +kernel
theorem dX8_mixGroup_122 : decode cX8_mixGroup 122 = .ok (.i2l, 1) := by decide +kernel
theorem dX8_mixGroup_123 : decode cX8_mixGroup 123 = .ok (.invokevirtual 261, 3) := by decide +kernel
theorem dX8_mixGroup_126 : decode cX8_mixGroup 126 = .ok (.iinc 2 1, 3) := by decide +kernel
theorem dX8_mixGroup_129 : decode cX8_mixGroup 129 = .ok (.goto (-102), 3) := by decide +kernel
theorem dX8_mixGroup_132 : decode cX8_mixGroup 132 = .ok (.iconst 0, 1) := by decide +kernel
theorem dX8_mixGroup_133 : decode cX8_mixGroup 133 = .ok (.istore_n 2, 1) := by decide +kernel
theorem dX8_mixGroup_134 : decode cX8_mixGroup 134 = .ok (.iload_n 2, 1) := by decide +kernel
theorem dX8_mixGroup_135 : decode cX8_mixGroup 135 = .ok (.aload_n 0, 1) := by decide +kernel
theorem dX8_mixGroup_136 : decode cX8_mixGroup 136 = .ok (.getfield 7, 3) := by decide +kernel
theorem dX8_mixGroup_139 : decode cX8_mixGroup 139 = .ok (.bipush 9, 2) := by decide +kernel
theorem dX8_mixGroup_141 : decode cX8_mixGroup 141 = .ok (.iaload, 1) := by decide +kernel
theorem dX8_mixGroup_142 : decode cX8_mixGroup 142 = .ok (.if_icmp .ge 37, 3) := by decide +kernel
theorem dX8_mixGroup_145 : decode cX8_mixGroup 145 = .ok (.aload_n 0, 1) := by decide +kernel
theorem dX8_mixGroup_146 : decode cX8_mixGroup 146 = .ok (.aload_n 0, 1) := by decide +kernel
theorem dX8_mixGroup_147 : decode cX8_mixGroup 147 = .ok (.iload_n 1, 1) := by decide +kernel
theorem dX8_mixGroup_148 : decode cX8_mixGroup 148 = .ok (.bipush 46, 2) := by decide +kernel
theorem dX8_mixGroup_150 : decode cX8_mixGroup 150 = .ok (.iload_n 2, 1) := by decide +kernel
theorem dX8_mixGroup_151 : decode cX8_mixGroup 151 = .ok (.iadd, 1) := by decide +kernel
theorem dX8_mixGroup_152 : decode cX8_mixGroup 152 = .ok (.invokevirtual 63, 3) := by decide +kernel
theorem dX8_mixGroup_155 : decode cX8_mixGroup 155 = .ok (.i2l, 1) := by decide +kernel
theorem dX8_mixGroup_156 : decode cX8_mixGroup 156 = .ok (.invokevirtual 261, 3) := by decide +kernel
theorem dX8_mixGroup_159 : decode cX8_mixGroup 159 = .ok (.aload_n 0, 1) := by decide +kernel
theorem dX8_mixGroup_160 : decode cX8_mixGroup 160 = .ok (.aload_n 0, 1) := by decide +kernel
theorem dX8_mixGroup_161 : decode cX8_mixGroup 161 = .ok (.iload_n 1, 1) := by decide +kernel
theorem dX8_mixGroup_162 : decode cX8_mixGroup 162 = .ok (.bipush 52, 2) := by decide +kernel
theorem dX8_mixGroup_164 : decode cX8_mixGroup 164 = .ok (.iload_n 2, 1) := by decide +kernel
theorem dX8_mixGroup_165 : decode cX8_mixGroup 165 = .ok (.iadd, 1) := by decide +kernel
theorem dX8_mixGroup_166 : decode cX8_mixGroup 166 = .ok (.invokevirtual 63, 3) := by decide +kernel
theorem dX8_mixGroup_169 : decode cX8_mixGroup 169 = .ok (.i2l, 1) := by decide +kernel
theorem dX8_mixGroup_170 : decode cX8_mixGroup 170 = .ok (.invokevirtual 261, 3) := by decide +kernel
theorem dX8_mixGroup_173 : decode cX8_mixGroup 173 = .ok (.iinc 2 1, 3) := by decide +kernel
theorem dX8_mixGroup_176 : decode cX8_mixGroup 176 = .ok (.goto (-42), 3) := by decide +kernel
theorem dX8_mixGroup_179 : decode cX8_mixGroup 179 = .ok (.return_, 1) := by decide +kernel
theorem dX8_digest_0 : decode cX8_digest 0 = .ok (.aload_n 0, 1) := by decide +kernel
theorem dX8_digest_1 : decode cX8_digest 1 = .ok (.ldc2_w 265, 3) := by decide +kernel
theorem dX8_digest_4 : decode cX8_digest 4 = .ok (.putfield 257, 3) := by decide +kernel
theorem dX8_digest_7 : decode cX8_digest 7 = .ok (.iconst 0, 1) := by decide +kernel
theorem dX8_digest_8 : decode cX8_digest 8 = .ok (.istore_n 1, 1) := by decide +kernel
theorem dX8_digest_9 : decode cX8_digest 9 = .ok (.iload_n 1, 1) := by decide +kernel
theorem dX8_digest_10 : decode cX8_digest 10 = .ok (.iconst 5, 1) := by decide +kernel
theorem dX8_digest_11 : decode cX8_digest 11 = .ok (.if_icmp .ge 19, 3) := by decide +kernel
theorem dX8_digest_14 : decode cX8_digest 14 = .ok (.aload_n 0, 1) := by decide +kernel
theorem dX8_digest_15 : decode cX8_digest 15 = .ok (.aload_n 0, 1) := by decide +kernel
theorem dX8_digest_16 : decode cX8_digest 16 = .ok (.iload_n 1, 1) := by decide +kernel
theorem dX8_digest_17 : decode cX8_digest 17 = .ok (.invokevirtual 252, 3) := by decide +kernel
theorem dX8_digest_20 : decode cX8_digest 20 = .ok (.i2l, 1) := by decide +kernel
theorem dX8_digest_21 : decode cX8_digest 21 = .ok (.invokevirtual 261, 3) := by decide +kernel
theorem dX8_digest_24 : decode cX8_digest 24 = .ok (.iinc 1 1, 3) := by decide +kernel
theorem dX8_digest_27 : decode cX8_digest 27 = .ok (.goto (-18), 3) := by decide +kernel
theorem dX8_digest_30 : decode cX8_digest 30 = .ok (.iconst 0, 1) := by decide +kernel
theorem dX8_digest_31 : decode cX8_digest 31 = .ok (.istore_n 1, 1) := by decide +kernel
theorem dX8_digest_32 : decode cX8_digest 32 = .ok (.iload_n 1, 1) := by decide +kernel
theorem dX8_digest_33 : decode cX8_digest 33 = .ok (.bipush 9, 2) := by decide +kernel
theorem dX8_digest_35 : decode cX8_digest 35 = .ok (.if_icmp .ge 19, 3) := by decide +kernel
theorem dX8_digest_38 : decode cX8_digest 38 = .ok (.aload_n 0, 1) := by decide +kernel
theorem dX8_digest_39 : decode cX8_digest 39 = .ok (.aload_n 0, 1) := by decide +kernel
theorem dX8_digest_40 : decode cX8_digest 40 = .ok (.iload_n 1, 1) := by decide +kernel
theorem dX8_digest_41 : decode cX8_digest 41 = .ok (.invokevirtual 203, 3) := by decide +kernel
theorem dX8_digest_44 : decode cX8_digest 44 = .ok (.i2l, 1) := by decide +kernel
theorem dX8_digest_45 : decode cX8_digest 45 = .ok (.invokevirtual 261, 3) := by decide +kernel
theorem dX8_digest_48 : decode cX8_digest 48 = .ok (.iinc 1 1, 3) := by decide +kernel
theorem dX8_digest_51 : decode cX8_digest 51 = .ok (.goto (-19), 3) := by decide +kernel
theorem dX8_digest_54 : decode cX8_digest 54 = .ok (.iconst 0, 1) := by decide +kernel
theorem dX8_digest_55 : decode cX8_digest 55 = .ok (.istore_n 1, 1) := by decide +kernel
theorem dX8_digest_56 : decode cX8_digest 56 = .ok (.iload_n 1, 1) := by decide +kernel
theorem dX8_digest_57 : decode cX8_digest 57 = .ok (.bipush 8, 2) := by decide +kernel
theorem dX8_digest_59 : decode cX8_digest 59 = .ok (.if_icmp .ge 22, 3) := by decide +kernel
theorem dX8_digest_62 : decode cX8_digest 62 = .ok (.aload_n 0, 1) := by decide +kernel
theorem dX8_digest_63 : decode cX8_digest 63 = .ok (.aload_n 0, 1) := by decide +kernel
theorem dX8_digest_64 : decode cX8_digest 64 = .ok (.getfield 7, 3) := by decide +kernel
theorem dX8_digest_67 : decode cX8_digest 67 = .ok (.iconst 1, 1) := by decide +kernel
theorem dX8_digest_68 : decode cX8_digest 68 = .ok (.iload_n 1, 1) := by decide +kernel
theorem dX8_digest_69 : decode cX8_digest 69 = .ok (.iadd, 1) := by decide +kernel
theorem dX8_digest_70 : decode cX8_digest 70 = .ok (.iaload, 1) := by decide +kernel
theorem dX8_digest_71 : decode cX8_digest 71 = .ok (.i2l, 1) := by decide +kernel
theorem dX8_digest_72 : decode cX8_digest 72 = .ok (.invokevirtual 261, 3) := by decide +kernel
theorem dX8_digest_75 : decode cX8_digest 75 = .ok (.iinc 1 1, 3) := by decide +kernel
theorem dX8_digest_78 : decode cX8_digest 78 = .ok (.goto (-22), 3) := by decide +kernel
theorem dX8_digest_81 : decode cX8_digest 81 = .ok (.iconst 0, 1) := by decide +kernel
theorem dX8_digest_82 : decode cX8_digest 82 = .ok (.istore_n 1, 1) := by decide +kernel
theorem dX8_digest_83 : decode cX8_digest 83 = .ok (.iload_n 1, 1) := by decide +kernel
theorem dX8_digest_84 : decode cX8_digest 84 = .ok (.aload_n 0, 1) := by decide +kernel
theorem dX8_digest_85 : decode cX8_digest 85 = .ok (.getfield 7, 3) := by decide +kernel
theorem dX8_digest_88 : decode cX8_digest 88 = .ok (.bipush 9, 2) := by decide +kernel
theorem dX8_digest_90 : decode cX8_digest 90 = .ok (.iaload, 1) := by decide +kernel
theorem dX8_digest_91 : decode cX8_digest 91 = .ok (.if_icmp .ge 58, 3) := by decide +kernel
theorem dX8_digest_94 : decode cX8_digest 94 = .ok (.iconst 0, 1) := by decide +kernel
theorem dX8_digest_95 : decode cX8_digest 95 = .ok (.istore_n 2, 1) := by decide +kernel
theorem dX8_digest_96 : decode cX8_digest 96 = .ok (.iload_n 2, 1) := by decide +kernel
theorem dX8_digest_97 : decode cX8_digest 97 = .ok (.iconst 3, 1) := by decide +kernel
theorem dX8_digest_98 : decode cX8_digest 98 = .ok (.if_icmp .ge 20, 3) := by decide +kernel
theorem dX8_digest_101 : decode cX8_digest 101 = .ok (.aload_n 0, 1) := by decide +kernel
theorem dX8_digest_102 : decode cX8_digest 102 = .ok (.aload_n 0, 1) := by decide +kernel
theorem dX8_digest_103 : decode cX8_digest 103 = .ok (.iload_n 1, 1) := by decide +kernel
theorem dX8_digest_104 : decode cX8_digest 104 = .ok (.iload_n 2, 1) := by decide +kernel
theorem dX8_digest_105 : decode cX8_digest 105 = .ok (.invokevirtual 179, 3) := by decide +kernel
theorem dX8_digest_108 : decode cX8_digest 108 = .ok (.i2l, 1) := by decide +kernel
theorem dX8_digest_109 : decode cX8_digest 109 = .ok (.invokevirtual 261, 3) := by decide +kernel
theorem dX8_digest_112 : decode cX8_digest 112 = .ok (.iinc 2 1, 3) := by decide +kernel
theorem dX8_digest_115 : decode cX8_digest 115 = .ok (.goto (-19), 3) := by decide +kernel
theorem dX8_digest_118 : decode cX8_digest 118 = .ok (.iconst 0, 1) := by decide +kernel
theorem dX8_digest_119 : decode cX8_digest 119 = .ok (.istore_n 2, 1) := by decide +kernel
theorem dX8_digest_120 : decode cX8_digest 120 = .ok (.iload_n 2, 1) := by decide +kernel
theorem dX8_digest_121 : decode cX8_digest 121 = .ok (.bipush 8, 2) := by decide +kernel
theorem dX8_digest_123 : decode cX8_digest 123 = .ok (.if_icmp .ge 20, 3) := by decide +kernel
theorem dX8_digest_126 : decode cX8_digest 126 = .ok (.aload_n 0, 1) := by decide +kernel
theorem dX8_digest_127 : decode cX8_digest 127 = .ok (.aload_n 0, 1) := by decide +kernel
theorem dX8_digest_128 : decode cX8_digest 128 = .ok (.iload_n 1, 1) := by decide +kernel
theorem dX8_digest_129 : decode cX8_digest 129 = .ok (.iload_n 2, 1) := by decide +kernel
theorem dX8_digest_130 : decode cX8_digest 130 = .ok (.invokevirtual 92, 3) := by decide +kernel
theorem dX8_digest_133 : decode cX8_digest 133 = .ok (.i2l, 1) := by decide +kernel
theorem dX8_digest_134 : decode cX8_digest 134 = .ok (.invokevirtual 261, 3) := by decide +kernel
theorem dX8_digest_137 : decode cX8_digest 137 = .ok (.iinc 2 1, 3) := by decide +kernel
theorem dX8_digest_140 : decode cX8_digest 140 = .ok (.goto (-20), 3) := by decide +kernel
theorem dX8_digest_143 : decode cX8_digest 143 = .ok (.iinc 1 1, 3) := by decide +kernel
theorem dX8_digest_146 : decode cX8_digest 146 = .ok (.goto (-63), 3) := by decide +kernel
theorem dX8_digest_149 : decode cX8_digest 149 = .ok (.iconst 0, 1) := by decide +kernel
theorem dX8_digest_150 : decode cX8_digest 150 = .ok (.istore_n 1, 1) := by decide +kernel
theorem dX8_digest_151 : decode cX8_digest 151 = .ok (.iload_n 1, 1) := by decide +kernel
theorem dX8_digest_152 : decode cX8_digest 152 = .ok (.aload_n 0, 1) := by decide +kernel
theorem dX8_digest_153 : decode cX8_digest 153 = .ok (.getfield 7, 3) := by decide +kernel
theorem dX8_digest_156 : decode cX8_digest 156 = .ok (.bipush 70, 2) := by decide +kernel
theorem dX8_digest_158 : decode cX8_digest 158 = .ok (.iaload, 1) := by decide +kernel
theorem dX8_digest_159 : decode cX8_digest 159 = .ok (.if_icmp .ge 14, 3) := by decide +kernel
theorem dX8_digest_162 : decode cX8_digest 162 = .ok (.aload_n 0, 1) := by decide +kernel
theorem dX8_digest_163 : decode cX8_digest 163 = .ok (.iload_n 1, 1) := by decide +kernel
theorem dX8_digest_164 : decode cX8_digest 164 = .ok (.invokevirtual 267, 3) := by decide +kernel
theorem dX8_digest_167 : decode cX8_digest 167 = .ok (.iinc 1 1, 3) := by decide +kernel
theorem dX8_digest_170 : decode cX8_digest 170 = .ok (.goto (-19), 3) := by decide +kernel
theorem dX8_digest_173 : decode cX8_digest 173 = .ok (.iconst 0, 1) := by decide +kernel
theorem dX8_digest_174 : decode cX8_digest 174 = .ok (.istore_n 1, 1) := by decide +kernel
theorem dX8_digest_175 : decode cX8_digest 175 = .ok (.iload_n 1, 1) := by decide +kernel
theorem dX8_digest_176 : decode cX8_digest 176 = .ok (.iconst 3, 1) := by decide +kernel
theorem dX8_digest_177 : decode cX8_digest 177 = .ok (.aload_n 0, 1) := by decide +kernel
theorem dX8_digest_178 : decode cX8_digest 178 = .ok (.getfield 7, 3) := by decide +kernel
theorem dX8_digest_181 : decode cX8_digest 181 = .ok (.sipush 429, 3) := by decide +kernel
theorem dX8_digest_184 : decode cX8_digest 184 = .ok (.iaload, 1) := by decide +kernel
theorem dX8_digest_185 : decode cX8_digest 185 = .ok (.imul, 1) := by decide +kernel
theorem dX8_digest_186 : decode cX8_digest 186 = .ok (.if_icmp .ge 24, 3) := by decide +kernel
theorem dX8_digest_189 : decode cX8_digest 189 = .ok (.aload_n 0, 1) := by decide +kernel
theorem dX8_digest_190 : decode cX8_digest 190 = .ok (.aload_n 0, 1) := by decide +kernel
theorem dX8_digest_191 : decode cX8_digest 191 = .ok (.getfield 7, 3) := by decide +kernel
theorem dX8_digest_194 : decode cX8_digest 194 = .ok (.sipush 430, 3) := by decide +kernel
theorem dX8_digest_197 : decode cX8_digest 197 = .ok (.iload_n 1, 1) := by decide +kernel
theorem dX8_digest_198 : decode cX8_digest 198 = .ok (.iadd, 1) := by decide +kernel
theorem dX8_digest_199 : decode cX8_digest 199 = .ok (.iaload, 1) := by decide +kernel
theorem dX8_digest_200 : decode cX8_digest 200 = .ok (.i2l, 1) := by decide +kernel
theorem dX8_digest_201 : decode cX8_digest 201 = .ok (.invokevirtual 261, 3) := by decide +kernel
theorem dX8_digest_204 : decode cX8_digest 204 = .ok (.iinc 1 1, 3) := by decide +kernel
theorem dX8_digest_207 : decode cX8_digest 207 = .ok (.goto (-32), 3) := by decide +kernel
theorem dX8_digest_210 : decode cX8_digest 210 = .ok (.aload_n 0, 1) := by decide +kernel
theorem dX8_digest_211 : decode cX8_digest 211 = .ok (.getfield 257, 3) := by decide +kernel
theorem dX8_digest_214 : decode cX8_digest 214 = .ok (.lreturn, 1) := by decide +kernel
theorem dL_law_0 : decode cL_law 0 = .ok (.new 7, 3) := by decide +kernel
theorem dL_law_3 : decode cL_law 3 = .ok (.dup, 1) := by decide +kernel
theorem dL_law_4 : decode cL_law 4 = .ok (.invokespecial 9, 3) := by decide +kernel
theorem dL_law_7 : decode cL_law 7 = .ok (.astore_n 1, 1) := by decide +kernel
theorem dL_law_8 : decode cL_law 8 = .ok (.new 10, 3) := by decide +kernel
theorem dL_law_11 : decode cL_law 11 = .ok (.dup, 1) := by decide +kernel
theorem dL_law_12 : decode cL_law 12 = .ok (.invokespecial 12, 3) := by decide +kernel
theorem dL_law_15 : decode cL_law 15 = .ok (.astore_n 2, 1) := by decide +kernel
theorem dL_law_16 : decode cL_law 16 = .ok (.iconst 0, 1) := by decide +kernel
theorem dL_law_17 : decode cL_law 17 = .ok (.istore_n 3, 1) := by decide +kernel
theorem dL_law_18 : decode cL_law 18 = .ok (.iload_n 3, 1) := by decide +kernel
theorem dL_law_19 : decode cL_law 19 = .ok (.aload_n 0, 1) := by decide +kernel
theorem dL_law_20 : decode cL_law 20 = .ok (.arraylength, 1) := by decide +kernel
theorem dL_law_21 : decode cL_law 21 = .ok (.bipush 6, 2) := by decide +kernel
theorem dL_law_23 : decode cL_law 23 = .ok (.isub, 1) := by decide +kernel
theorem dL_law_24 : decode cL_law 24 = .ok (.if_icmp .gt 940, 3) := by decide +kernel
theorem dL_law_27 : decode cL_law 27 = .ok (.aload_n 0, 1) := by decide +kernel
theorem dL_law_28 : decode cL_law 28 = .ok (.iload_n 3, 1) := by decide +kernel
theorem dL_law_29 : decode cL_law 29 = .ok (.iaload, 1) := by decide +kernel
theorem dL_law_30 : decode cL_law 30 = .ok (.bipush 31, 2) := by decide +kernel
theorem dL_law_32 : decode cL_law 32 = .ok (.iand, 1) := by decide +kernel
theorem dL_law_33 : decode cL_law 33 = .ok (.tableswitch 925 0 26 #[123, 146, 179, 222, 245, 268, 331, 364, 397, 420, 453, 486, 519, 552, 595, 638, 681, 724, 747, 770, 803, 826, 849, 862, 875, 888, 911], 123) := by decide +kernel
theorem dL_law_156 : decode cL_law 156 = .ok (.aload_n 1, 1) := by decide +kernel
theorem dL_law_157 : decode cL_law 157 = .ok (.aload_n 0, 1) := by decide +kernel
theorem dL_law_158 : decode cL_law 158 = .ok (.iload_n 3, 1) := by decide +kernel
theorem dL_law_159 : decode cL_law 159 = .ok (.iconst 1, 1) := by decide +kernel
theorem dL_law_160 : decode cL_law 160 = .ok (.iadd, 1) := by decide +kernel
theorem dL_law_161 : decode cL_law 161 = .ok (.iaload, 1) := by decide +kernel
theorem dL_law_162 : decode cL_law 162 = .ok (.invokevirtual 13, 3) := by decide +kernel
theorem dL_law_165 : decode cL_law 165 = .ok (.aload_n 2, 1) := by decide +kernel
theorem dL_law_166 : decode cL_law 166 = .ok (.aload_n 0, 1) := by decide +kernel
theorem dL_law_167 : decode cL_law 167 = .ok (.iload_n 3, 1) := by decide +kernel
theorem dL_law_168 : decode cL_law 168 = .ok (.iconst 1, 1) := by decide +kernel
theorem dL_law_169 : decode cL_law 169 = .ok (.iadd, 1) := by decide +kernel
theorem dL_law_170 : decode cL_law 170 = .ok (.iaload, 1) := by decide +kernel
theorem dL_law_171 : decode cL_law 171 = .ok (.invokevirtual 17, 3) := by decide +kernel
theorem dL_law_174 : decode cL_law 174 = .ok (.if_icmp .eq 784, 3) := by decide +kernel
theorem dL_law_177 : decode cL_law 177 = .ok (.iconst 0, 1) := by decide +kernel
theorem dL_law_178 : decode cL_law 178 = .ok (.ireturn, 1) := by decide +kernel
theorem dL_law_179 : decode cL_law 179 = .ok (.aload_n 1, 1) := by decide +kernel
theorem dL_law_180 : decode cL_law 180 = .ok (.aload_n 0, 1) := by decide +kernel
theorem dL_law_181 : decode cL_law 181 = .ok (.iload_n 3, 1) := by decide +kernel
theorem dL_law_182 : decode cL_law 182 = .ok (.iconst 1, 1) := by decide +kernel
theorem dL_law_183 : decode cL_law 183 = .ok (.iadd, 1) := by decide +kernel
theorem dL_law_184 : decode cL_law 184 = .ok (.iaload, 1) := by decide +kernel
theorem dL_law_185 : decode cL_law 185 = .ok (.aload_n 0, 1) := by decide +kernel
theorem dL_law_186 : decode cL_law 186 = .ok (.iload_n 3, 1) := by decide +kernel
theorem dL_law_187 : decode cL_law 187 = .ok (.iconst 2, 1) := by decide +kernel
theorem dL_law_188 : decode cL_law 188 = .ok (.iadd, 1) := by decide +kernel
theorem dL_law_189 : decode cL_law 189 = .ok (.iaload, 1) := by decide +kernel
theorem dL_law_190 : decode cL_law 190 = .ok (.invokevirtual 18, 3) := by decide +kernel
theorem dL_law_193 : decode cL_law 193 = .ok (.aload_n 2, 1) := by decide +kernel
theorem dL_law_194 : decode cL_law 194 = .ok (.aload_n 0, 1) := by decide +kernel
theorem dL_law_195 : decode cL_law 195 = .ok (.iload_n 3, 1) := by decide +kernel
theorem dL_law_196 : decode cL_law 196 = .ok (.iconst 1, 1) := by decide +kernel
theorem dL_law_197 : decode cL_law 197 = .ok (.iadd, 1) := by decide +kernel
theorem dL_law_198 : decode cL_law 198 = .ok (.iaload, 1) := by decide +kernel
theorem dL_law_199 : decode cL_law 199 = .ok (.aload_n 0, 1) := by decide +kernel
theorem dL_law_200 : decode cL_law 200 = .ok (.iload_n 3, 1) := by decide +kernel
theorem dL_law_201 : decode cL_law 201 = .ok (.iconst 2, 1) := by decide +kernel
theorem dL_law_202 : decode cL_law 202 = .ok (.iadd, 1) := by decide +kernel
theorem dL_law_203 : decode cL_law 203 = .ok (.iaload, 1) := by decide +kernel
theorem dL_law_204 : decode cL_law 204 = .ok (.invokevirtual 22, 3) := by decide +kernel
theorem dL_law_207 : decode cL_law 207 = .ok (.if_icmp .eq 751, 3) := by decide +kernel
theorem dL_law_210 : decode cL_law 210 = .ok (.iconst 0, 1) := by decide +kernel
theorem dL_law_211 : decode cL_law 211 = .ok (.ireturn, 1) := by decide +kernel
theorem dL_law_212 : decode cL_law 212 = .ok (.aload_n 1, 1) := by decide +kernel
theorem dL_law_213 : decode cL_law 213 = .ok (.aload_n 0, 1) := by decide +kernel
theorem dL_law_214 : decode cL_law 214 = .ok (.iload_n 3, 1) := by decide +kernel
theorem dL_law_215 : decode cL_law 215 = .ok (.iconst 1, 1) := by decide +kernel
theorem dL_law_216 : decode cL_law 216 = .ok (.iadd, 1) := by decide +kernel
theorem dL_law_217 : decode cL_law 217 = .ok (.iaload, 1) := by decide +kernel
theorem dL_law_218 : decode cL_law 218 = .ok (.aload_n 0, 1) := by decide +kernel
theorem dL_law_219 : decode cL_law 219 = .ok (.iload_n 3, 1) := by decide +kernel
theorem dL_law_220 : decode cL_law 220 = .ok (.iconst 2, 1) := by decide +kernel
theorem dL_law_221 : decode cL_law 221 = .ok (.iadd, 1) := by decide +kernel
theorem dL_law_222 : decode cL_law 222 = .ok (.iaload, 1) := by decide +kernel
theorem dL_law_223 : decode cL_law 223 = .ok (.aload_n 0, 1) := by decide +kernel
theorem dL_law_224 : decode cL_law 224 = .ok (.iload_n 3, 1) := by decide +kernel
theorem dL_law_225 : decode cL_law 225 = .ok (.iconst 3, 1) := by decide +kernel
theorem dL_law_226 : decode cL_law 226 = .ok (.iadd, 1) := by decide +kernel
theorem dL_law_227 : decode cL_law 227 = .ok (.iaload, 1) := by decide +kernel
theorem dL_law_228 : decode cL_law 228 = .ok (.invokevirtual 23, 3) := by decide +kernel
theorem dL_law_231 : decode cL_law 231 = .ok (.aload_n 2, 1) := by decide +kernel
theorem dL_law_232 : decode cL_law 232 = .ok (.aload_n 0, 1) := by decide +kernel
theorem dL_law_233 : decode cL_law 233 = .ok (.iload_n 3, 1) := by decide +kernel
theorem dL_law_234 : decode cL_law 234 = .ok (.iconst 1, 1) := by decide +kernel
theorem dL_law_235 : decode cL_law 235 = .ok (.iadd, 1) := by decide +kernel
theorem dL_law_236 : decode cL_law 236 = .ok (.iaload, 1) := by decide +kernel
theorem dL_law_237 : decode cL_law 237 = .ok (.aload_n 0, 1) := by decide +kernel
theorem dL_law_238 : decode cL_law 238 = .ok (.iload_n 3, 1) := by decide +kernel
theorem dL_law_239 : decode cL_law 239 = .ok (.iconst 2, 1) := by decide +kernel
theorem dL_law_240 : decode cL_law 240 = .ok (.iadd, 1) := by decide +kernel
theorem dL_law_241 : decode cL_law 241 = .ok (.iaload, 1) := by decide +kernel
theorem dL_law_242 : decode cL_law 242 = .ok (.aload_n 0, 1) := by decide +kernel
theorem dL_law_243 : decode cL_law 243 = .ok (.iload_n 3, 1) := by decide +kernel
theorem dL_law_244 : decode cL_law 244 = .ok (.iconst 3, 1) := by decide +kernel
theorem dL_law_245 : decode cL_law 245 = .ok (.iadd, 1) := by decide +kernel
theorem dL_law_246 : decode cL_law 246 = .ok (.iaload, 1) := by decide +kernel
theorem dL_law_247 : decode cL_law 247 = .ok (.invokevirtual 27, 3) := by decide +kernel
theorem dL_law_250 : decode cL_law 250 = .ok (.if_icmp .eq 708, 3) := by decide +kernel
theorem dL_law_253 : decode cL_law 253 = .ok (.iconst 0, 1) := by decide +kernel
theorem dL_law_254 : decode cL_law 254 = .ok (.ireturn, 1) := by decide +kernel
theorem dL_law_255 : decode cL_law 255 = .ok (.aload_n 1, 1) := by decide +kernel
theorem dL_law_256 : decode cL_law 256 = .ok (.aload_n 0, 1) := by decide +kernel
theorem dL_law_257 : decode cL_law 257 = .ok (.iload_n 3, 1) := by decide +kernel
theorem dL_law_258 : decode cL_law 258 = .ok (.iconst 1, 1) := by decide +kernel
theorem dL_law_259 : decode cL_law 259 = .ok (.iadd, 1) := by decide +kernel
theorem dL_law_260 : decode cL_law 260 = .ok (.iaload, 1) := by decide +kernel
theorem dL_law_261 : decode cL_law 261 = .ok (.invokevirtual 28, 3) := by decide +kernel
theorem dL_law_264 : decode cL_law 264 = .ok (.aload_n 2, 1) := by decide +kernel
theorem dL_law_265 : decode cL_law 265 = .ok (.aload_n 0, 1) := by decide +kernel
theorem dL_law_266 : decode cL_law 266 = .ok (.iload_n 3, 1) := by decide +kernel
theorem dL_law_267 : decode cL_law 267 = .ok (.iconst 1, 1) := by decide +kernel
theorem dL_law_268 : decode cL_law 268 = .ok (.iadd, 1) := by decide +kernel
theorem dL_law_269 : decode cL_law 269 = .ok (.iaload, 1) := by decide +kernel
theorem dL_law_270 : decode cL_law 270 = .ok (.invokevirtual 31, 3) := by decide +kernel
theorem dL_law_273 : decode cL_law 273 = .ok (.if_icmp .eq 685, 3) := by decide +kernel
theorem dL_law_276 : decode cL_law 276 = .ok (.iconst 0, 1) := by decide +kernel
theorem dL_law_277 : decode cL_law 277 = .ok (.ireturn, 1) := by decide +kernel
theorem dL_law_278 : decode cL_law 278 = .ok (.aload_n 1, 1) := by decide +kernel
theorem dL_law_279 : decode cL_law 279 = .ok (.aload_n 0, 1) := by decide +kernel
theorem dL_law_280 : decode cL_law 280 = .ok (.iload_n 3, 1) := by decide +kernel
theorem dL_law_281 : decode cL_law 281 = .ok (.iconst 1, 1) := by decide +kernel
theorem dL_law_282 : decode cL_law 282 = .ok (.iadd, 1) := by decide +kernel
theorem dL_law_283 : decode cL_law 283 = .ok (.iaload, 1) := by decide +kernel
theorem dL_law_284 : decode cL_law 284 = .ok (.invokevirtual 32, 3) := by decide +kernel
theorem dL_law_287 : decode cL_law 287 = .ok (.aload_n 2, 1) := by decide +kernel
theorem dL_law_288 : decode cL_law 288 = .ok (.aload_n 0, 1) := by decide +kernel
theorem dL_law_289 : decode cL_law 289 = .ok (.iload_n 3, 1) := by decide +kernel
theorem dL_law_290 : decode cL_law 290 = .ok (.iconst 1, 1) := by decide +kernel
theorem dL_law_291 : decode cL_law 291 = .ok (.iadd, 1) := by decide +kernel
theorem dL_law_292 : decode cL_law 292 = .ok (.iaload, 1) := by decide +kernel
theorem dL_law_293 : decode cL_law 293 = .ok (.invokevirtual 35, 3) := by decide +kernel
theorem dL_law_296 : decode cL_law 296 = .ok (.if_icmp .eq 662, 3) := by decide +kernel
theorem dL_law_299 : decode cL_law 299 = .ok (.iconst 0, 1) := by decide +kernel
theorem dL_law_300 : decode cL_law 300 = .ok (.ireturn, 1) := by decide +kernel
theorem dL_law_301 : decode cL_law 301 = .ok (.aload_n 1, 1) := by decide +kernel
theorem dL_law_302 : decode cL_law 302 = .ok (.aload_n 0, 1) := by decide +kernel
theorem dL_law_303 : decode cL_law 303 = .ok (.iload_n 3, 1) := by decide +kernel
theorem dL_law_304 : decode cL_law 304 = .ok (.iconst 1, 1) := by decide +kernel
theorem dL_law_305 : decode cL_law 305 = .ok (.iadd, 1) := by decide +kernel
theorem dL_law_306 : decode cL_law 306 = .ok (.iaload, 1) := by decide +kernel
theorem dL_law_307 : decode cL_law 307 = .ok (.aload_n 0, 1) := by decide +kernel
theorem dL_law_308 : decode cL_law 308 = .ok (.iload_n 3, 1) := by decide +kernel
theorem dL_law_309 : decode cL_law 309 = .ok (.iconst 2, 1) := by decide +kernel
theorem dL_law_310 : decode cL_law 310 = .ok (.iadd, 1) := by decide +kernel
theorem dL_law_311 : decode cL_law 311 = .ok (.iaload, 1) := by decide +kernel
theorem dL_law_312 : decode cL_law 312 = .ok (.aload_n 0, 1) := by decide +kernel
theorem dL_law_313 : decode cL_law 313 = .ok (.iload_n 3, 1) := by decide +kernel
theorem dL_law_314 : decode cL_law 314 = .ok (.iconst 3, 1) := by decide +kernel
theorem dL_law_315 : decode cL_law 315 = .ok (.iadd, 1) := by decide +kernel
theorem dL_law_316 : decode cL_law 316 = .ok (.iaload, 1) := by decide +kernel
theorem dL_law_317 : decode cL_law 317 = .ok (.aload_n 0, 1) := by decide +kernel
theorem dL_law_318 : decode cL_law 318 = .ok (.iload_n 3, 1) := by decide +kernel
theorem dL_law_319 : decode cL_law 319 = .ok (.iconst 4, 1) := by decide +kernel
theorem dL_law_320 : decode cL_law 320 = .ok (.iadd, 1) := by decide +kernel
theorem dL_law_321 : decode cL_law 321 = .ok (.iaload, 1) := by decide +kernel
theorem dL_law_322 : decode cL_law 322 = .ok (.aload_n 0, 1) := by decide +kernel
theorem dL_law_323 : decode cL_law 323 = .ok (.iload_n 3, 1) := by decide +kernel
theorem dL_law_324 : decode cL_law 324 = .ok (.iconst 5, 1) := by decide +kernel
theorem dL_law_325 : decode cL_law 325 = .ok (.iadd, 1) := by decide +kernel
theorem dL_law_326 : decode cL_law 326 = .ok (.iaload, 1) := by decide +kernel
theorem dL_law_327 : decode cL_law 327 = .ok (.invokevirtual 36, 3) := by decide +kernel
theorem dL_law_330 : decode cL_law 330 = .ok (.aload_n 2, 1) := by decide +kernel
theorem dL_law_331 : decode cL_law 331 = .ok (.aload_n 0, 1) := by decide +kernel
theorem dL_law_332 : decode cL_law 332 = .ok (.iload_n 3, 1) := by decide +kernel
theorem dL_law_333 : decode cL_law 333 = .ok (.iconst 1, 1) := by decide +kernel
theorem dL_law_334 : decode cL_law 334 = .ok (.iadd, 1) := by decide +kernel
theorem dL_law_335 : decode cL_law 335 = .ok (.iaload, 1) := by decide +kernel
theorem dL_law_336 : decode cL_law 336 = .ok (.aload_n 0, 1) := by decide +kernel
theorem dL_law_337 : decode cL_law 337 = .ok (.iload_n 3, 1) := by decide +kernel
theorem dL_law_338 : decode cL_law 338 = .ok (.iconst 2, 1) := by decide +kernel
theorem dL_law_339 : decode cL_law 339 = .ok (.iadd, 1) := by decide +kernel
theorem dL_law_340 : decode cL_law 340 = .ok (.iaload, 1) := by decide +kernel
theorem dL_law_341 : decode cL_law 341 = .ok (.aload_n 0, 1) := by decide +kernel
theorem dL_law_342 : decode cL_law 342 = .ok (.iload_n 3, 1) := by decide +kernel
theorem dL_law_343 : decode cL_law 343 = .ok (.iconst 3, 1) := by decide +kernel
theorem dL_law_344 : decode cL_law 344 = .ok (.iadd, 1) := by decide +kernel
theorem dL_law_345 : decode cL_law 345 = .ok (.iaload, 1) := by decide +kernel
theorem dL_law_346 : decode cL_law 346 = .ok (.aload_n 0, 1) := by decide +kernel
theorem dL_law_347 : decode cL_law 347 = .ok (.iload_n 3, 1) := by decide +kernel
theorem dL_law_348 : decode cL_law 348 = .ok (.iconst 4, 1) := by decide +kernel
theorem dL_law_349 : decode cL_law 349 = .ok (.iadd, 1) := by decide +kernel
theorem dL_law_350 : decode cL_law 350 = .ok (.iaload, 1) := by decide +kernel
theorem dL_law_351 : decode cL_law 351 = .ok (.aload_n 0, 1) := by decide +kernel
theorem dL_law_352 : decode cL_law 352 = .ok (.iload_n 3, 1) := by decide +kernel
theorem dL_law_353 : decode cL_law 353 = .ok (.iconst 5, 1) := by decide +kernel
theorem dL_law_354 : decode cL_law 354 = .ok (.iadd, 1) := by decide +kernel
theorem dL_law_355 : decode cL_law 355 = .ok (.iaload, 1) := by decide +kernel
theorem dL_law_356 : decode cL_law 356 = .ok (.invokevirtual 40, 3) := by decide +kernel
theorem dL_law_359 : decode cL_law 359 = .ok (.if_icmp .eq 599, 3) := by decide +kernel
theorem dL_law_362 : decode cL_law 362 = .ok (.iconst 0, 1) := by decide +kernel
theorem dL_law_363 : decode cL_law 363 = .ok (.ireturn, 1) := by decide +kernel
theorem dL_law_364 : decode cL_law 364 = .ok (.aload_n 1, 1) := by decide +kernel
theorem dL_law_365 : decode cL_law 365 = .ok (.aload_n 0, 1) := by decide +kernel
theorem dL_law_366 : decode cL_law 366 = .ok (.iload_n 3, 1) := by decide +kernel
theorem dL_law_367 : decode cL_law 367 = .ok (.iconst 1, 1) := by decide +kernel
theorem dL_law_368 : decode cL_law 368 = .ok (.iadd, 1) := by decide +kernel
theorem dL_law_369 : decode cL_law 369 = .ok (.iaload, 1) := by decide +kernel
theorem dL_law_370 : decode cL_law 370 = .ok (.aload_n 0, 1) := by decide +kernel
theorem dL_law_371 : decode cL_law 371 = .ok (.iload_n 3, 1) := by decide +kernel
theorem dL_law_372 : decode cL_law 372 = .ok (.iconst 2, 1) := by decide +kernel
theorem dL_law_373 : decode cL_law 373 = .ok (.iadd, 1) := by decide +kernel
theorem dL_law_374 : decode cL_law 374 = .ok (.iaload, 1) := by decide +kernel
theorem dL_law_375 : decode cL_law 375 = .ok (.invokevirtual 41, 3) := by decide +kernel
theorem dL_law_378 : decode cL_law 378 = .ok (.aload_n 2, 1) := by decide +kernel
theorem dL_law_379 : decode cL_law 379 = .ok (.aload_n 0, 1) := by decide +kernel
theorem dL_law_380 : decode cL_law 380 = .ok (.iload_n 3, 1) := by decide +kernel
theorem dL_law_381 : decode cL_law 381 = .ok (.iconst 1, 1) := by decide +kernel
theorem dL_law_382 : decode cL_law 382 = .ok (.iadd, 1) := by decide +kernel
theorem dL_law_383 : decode cL_law 383 = .ok (.iaload, 1) := by decide +kernel
theorem dL_law_384 : decode cL_law 384 = .ok (.aload_n 0, 1) := by decide +kernel
theorem dL_law_385 : decode cL_law 385 = .ok (.iload_n 3, 1) := by decide +kernel
theorem dL_law_386 : decode cL_law 386 = .ok (.iconst 2, 1) := by decide +kernel
theorem dL_law_387 : decode cL_law 387 = .ok (.iadd, 1) := by decide +kernel
theorem dL_law_388 : decode cL_law 388 = .ok (.iaload, 1) := by decide +kernel
theorem dL_law_389 : decode cL_law 389 = .ok (.invokevirtual 44, 3) := by decide +kernel
theorem dL_law_392 : decode cL_law 392 = .ok (.if_icmp .eq 566, 3) := by decide +kernel
theorem dL_law_395 : decode cL_law 395 = .ok (.iconst 0, 1) := by decide +kernel
theorem dL_law_396 : decode cL_law 396 = .ok (.ireturn, 1) := by decide +kernel
theorem dL_law_397 : decode cL_law 397 = .ok (.aload_n 1, 1) := by decide +kernel
theorem dL_law_398 : decode cL_law 398 = .ok (.aload_n 0, 1) := by decide +kernel
theorem dL_law_399 : decode cL_law 399 = .ok (.iload_n 3, 1) := by decide +kernel
theorem dL_law_400 : decode cL_law 400 = .ok (.iconst 1, 1) := by decide +kernel
theorem dL_law_401 : decode cL_law 401 = .ok (.iadd, 1) := by decide +kernel
theorem dL_law_402 : decode cL_law 402 = .ok (.iaload, 1) := by decide +kernel
theorem dL_law_403 : decode cL_law 403 = .ok (.aload_n 0, 1) := by decide +kernel
theorem dL_law_404 : decode cL_law 404 = .ok (.iload_n 3, 1) := by decide +kernel
theorem dL_law_405 : decode cL_law 405 = .ok (.iconst 2, 1) := by decide +kernel
theorem dL_law_406 : decode cL_law 406 = .ok (.iadd, 1) := by decide +kernel
theorem dL_law_407 : decode cL_law 407 = .ok (.iaload, 1) := by decide +kernel
theorem dL_law_408 : decode cL_law 408 = .ok (.invokevirtual 45, 3) := by decide +kernel
theorem dL_law_411 : decode cL_law 411 = .ok (.aload_n 2, 1) := by decide +kernel
theorem dL_law_412 : decode cL_law 412 = .ok (.aload_n 0, 1) := by decide +kernel
theorem dL_law_413 : decode cL_law 413 = .ok (.iload_n 3, 1) := by decide +kernel
theorem dL_law_414 : decode cL_law 414 = .ok (.iconst 1, 1) := by decide +kernel
theorem dL_law_415 : decode cL_law 415 = .ok (.iadd, 1) := by decide +kernel
theorem dL_law_416 : decode cL_law 416 = .ok (.iaload, 1) := by decide +kernel
theorem dL_law_417 : decode cL_law 417 = .ok (.aload_n 0, 1) := by decide +kernel
theorem dL_law_418 : decode cL_law 418 = .ok (.iload_n 3, 1) := by decide +kernel
theorem dL_law_419 : decode cL_law 419 = .ok (.iconst 2, 1) := by decide +kernel
theorem dL_law_420 : decode cL_law 420 = .ok (.iadd, 1) := by decide +kernel
theorem dL_law_421 : decode cL_law 421 = .ok (.iaload, 1) := by decide +kernel
theorem dL_law_422 : decode cL_law 422 = .ok (.invokevirtual 48, 3) := by decide +kernel
theorem dL_law_425 : decode cL_law 425 = .ok (.if_icmp .eq 533, 3) := by decide +kernel
theorem dL_law_428 : decode cL_law 428 = .ok (.iconst 0, 1) := by decide +kernel
theorem dL_law_429 : decode cL_law 429 = .ok (.ireturn, 1) := by decide +kernel
theorem dL_law_430 : decode cL_law 430 = .ok (.aload_n 1, 1) := by decide +kernel
theorem dL_law_431 : decode cL_law 431 = .ok (.aload_n 0, 1) := by decide +kernel
theorem dL_law_432 : decode cL_law 432 = .ok (.iload_n 3, 1) := by decide +kernel
theorem dL_law_433 : decode cL_law 433 = .ok (.iconst 1, 1) := by decide +kernel
theorem dL_law_434 : decode cL_law 434 = .ok (.iadd, 1) := by decide +kernel
theorem dL_law_435 : decode cL_law 435 = .ok (.iaload, 1) := by decide +kernel
theorem dL_law_436 : decode cL_law 436 = .ok (.invokevirtual 49, 3) := by decide +kernel
theorem dL_law_439 : decode cL_law 439 = .ok (.aload_n 2, 1) := by decide +kernel
theorem dL_law_440 : decode cL_law 440 = .ok (.aload_n 0, 1) := by decide +kernel
theorem dL_law_441 : decode cL_law 441 = .ok (.iload_n 3, 1) := by decide +kernel
theorem dL_law_442 : decode cL_law 442 = .ok (.iconst 1, 1) := by decide +kernel
theorem dL_law_443 : decode cL_law 443 = .ok (.iadd, 1) := by decide +kernel
theorem dL_law_444 : decode cL_law 444 = .ok (.iaload, 1) := by decide +kernel
theorem dL_law_445 : decode cL_law 445 = .ok (.invokevirtual 52, 3) := by decide +kernel
theorem dL_law_448 : decode cL_law 448 = .ok (.if_icmp .eq 510, 3) := by decide +kernel
theorem dL_law_451 : decode cL_law 451 = .ok (.iconst 0, 1) := by decide +kernel
theorem dL_law_452 : decode cL_law 452 = .ok (.ireturn, 1) := by decide +kernel
theorem dL_law_453 : decode cL_law 453 = .ok (.aload_n 1, 1) := by decide +kernel
theorem dL_law_454 : decode cL_law 454 = .ok (.aload_n 0, 1) := by decide +kernel
theorem dL_law_455 : decode cL_law 455 = .ok (.iload_n 3, 1) := by decide +kernel
theorem dL_law_456 : decode cL_law 456 = .ok (.iconst 1, 1) := by decide +kernel
theorem dL_law_457 : decode cL_law 457 = .ok (.iadd, 1) := by decide +kernel
theorem dL_law_458 : decode cL_law 458 = .ok (.iaload, 1) := by decide +kernel
theorem dL_law_459 : decode cL_law 459 = .ok (.aload_n 0, 1) := by decide +kernel
theorem dL_law_460 : decode cL_law 460 = .ok (.iload_n 3, 1) := by decide +kernel
theorem dL_law_461 : decode cL_law 461 = .ok (.iconst 2, 1) := by decide +kernel
theorem dL_law_462 : decode cL_law 462 = .ok (.iadd, 1) := by decide +kernel
theorem dL_law_463 : decode cL_law 463 = .ok (.iaload, 1) := by decide +kernel
theorem dL_law_464 : decode cL_law 464 = .ok (.invokevirtual 53, 3) := by decide +kernel
theorem dL_law_467 : decode cL_law 467 = .ok (.aload_n 2, 1) := by decide +kernel
theorem dL_law_468 : decode cL_law 468 = .ok (.aload_n 0, 1) := by decide +kernel
theorem dL_law_469 : decode cL_law 469 = .ok (.iload_n 3, 1) := by decide +kernel
theorem dL_law_470 : decode cL_law 470 = .ok (.iconst 1, 1) := by decide +kernel
theorem dL_law_471 : decode cL_law 471 = .ok (.iadd, 1) := by decide +kernel
theorem dL_law_472 : decode cL_law 472 = .ok (.iaload, 1) := by decide +kernel
theorem dL_law_473 : decode cL_law 473 = .ok (.aload_n 0, 1) := by decide +kernel
theorem dL_law_474 : decode cL_law 474 = .ok (.iload_n 3, 1) := by decide +kernel
theorem dL_law_475 : decode cL_law 475 = .ok (.iconst 2, 1) := by decide +kernel
theorem dL_law_476 : decode cL_law 476 = .ok (.iadd, 1) := by decide +kernel
theorem dL_law_477 : decode cL_law 477 = .ok (.iaload, 1) := by decide +kernel
theorem dL_law_478 : decode cL_law 478 = .ok (.invokevirtual 56, 3) := by decide +kernel
theorem dL_law_481 : decode cL_law 481 = .ok (.if_icmp .eq 477, 3) := by decide +kernel
theorem dL_law_484 : decode cL_law 484 = .ok (.iconst 0, 1) := by decide +kernel
theorem dL_law_485 : decode cL_law 485 = .ok (.ireturn, 1) := by decide +kernel
theorem dL_law_486 : decode cL_law 486 = .ok (.aload_n 1, 1) := by decide +kernel
theorem dL_law_487 : decode cL_law 487 = .ok (.aload_n 0, 1) := by decide +kernel
theorem dL_law_488 : decode cL_law 488 = .ok (.iload_n 3, 1) := by decide +kernel
theorem dL_law_489 : decode cL_law 489 = .ok (.iconst 1, 1) := by decide +kernel
theorem dL_law_490 : decode cL_law 490 = .ok (.iadd, 1) := by decide +kernel
theorem dL_law_491 : decode cL_law 491 = .ok (.iaload, 1) := by decide +kernel
theorem dL_law_492 : decode cL_law 492 = .ok (.aload_n 0, 1) := by decide +kernel
theorem dL_law_493 : decode cL_law 493 = .ok (.iload_n 3, 1) := by decide +kernel
theorem dL_law_494 : decode cL_law 494 = .ok (.iconst 2, 1) := by decide +kernel
theorem dL_law_495 : decode cL_law 495 = .ok (.iadd, 1) := by decide +kernel
theorem dL_law_496 : decode cL_law 496 = .ok (.iaload, 1) := by decide +kernel
theorem dL_law_497 : decode cL_law 497 = .ok (.invokevirtual 57, 3) := by decide +kernel
theorem dL_law_500 : decode cL_law 500 = .ok (.aload_n 2, 1) := by decide +kernel
theorem dL_law_501 : decode cL_law 501 = .ok (.aload_n 0, 1) := by decide +kernel
theorem dL_law_502 : decode cL_law 502 = .ok (.iload_n 3, 1) := by decide +kernel
theorem dL_law_503 : decode cL_law 503 = .ok (.iconst 1, 1) := by decide +kernel
theorem dL_law_504 : decode cL_law 504 = .ok (.iadd, 1) := by decide +kernel
theorem dL_law_505 : decode cL_law 505 = .ok (.iaload, 1) := by decide +kernel
theorem dL_law_506 : decode cL_law 506 = .ok (.aload_n 0, 1) := by decide +kernel
theorem dL_law_507 : decode cL_law 507 = .ok (.iload_n 3, 1) := by decide +kernel
theorem dL_law_508 : decode cL_law 508 = .ok (.iconst 2, 1) := by decide +kernel
theorem dL_law_509 : decode cL_law 509 = .ok (.iadd, 1) := by decide +kernel
theorem dL_law_510 : decode cL_law 510 = .ok (.iaload, 1) := by decide +kernel
theorem dL_law_511 : decode cL_law 511 = .ok (.invokevirtual 60, 3) := by decide +kernel
theorem dL_law_514 : decode cL_law 514 = .ok (.if_icmp .eq 444, 3) := by decide +kernel
theorem dL_law_517 : decode cL_law 517 = .ok (.iconst 0, 1) := by decide +kernel
theorem dL_law_518 : decode cL_law 518 = .ok (.ireturn, 1) := by decide +kernel
theorem dL_law_519 : decode cL_law 519 = .ok (.aload_n 1, 1) := by decide +kernel
theorem dL_law_520 : decode cL_law 520 = .ok (.aload_n 0, 1) := by decide +kernel
theorem dL_law_521 : decode cL_law 521 = .ok (.iload_n 3, 1) := by decide +kernel
theorem dL_law_522 : decode cL_law 522 = .ok (.iconst 1, 1) := by decide +kernel
theorem dL_law_523 : decode cL_law 523 = .ok (.iadd, 1) := by decide +kernel
theorem dL_law_524 : decode cL_law 524 = .ok (.iaload, 1) := by decide +kernel
theorem dL_law_525 : decode cL_law 525 = .ok (.aload_n 0, 1) := by decide +kernel
theorem dL_law_526 : decode cL_law 526 = .ok (.iload_n 3, 1) := by decide +kernel
theorem dL_law_527 : decode cL_law 527 = .ok (.iconst 2, 1) := by decide +kernel
theorem dL_law_528 : decode cL_law 528 = .ok (.iadd, 1) := by decide +kernel
theorem dL_law_529 : decode cL_law 529 = .ok (.iaload, 1) := by decide +kernel
theorem dL_law_530 : decode cL_law 530 = .ok (.invokevirtual 61, 3) := by decide +kernel
theorem dL_law_533 : decode cL_law 533 = .ok (.aload_n 2, 1) := by decide +kernel
theorem dL_law_534 : decode cL_law 534 = .ok (.aload_n 0, 1) := by decide +kernel
theorem dL_law_535 : decode cL_law 535 = .ok (.iload_n 3, 1) := by decide +kernel
theorem dL_law_536 : decode cL_law 536 = .ok (.iconst 1, 1) := by decide +kernel
theorem dL_law_537 : decode cL_law 537 = .ok (.iadd, 1) := by decide +kernel
theorem dL_law_538 : decode cL_law 538 = .ok (.iaload, 1) := by decide +kernel
theorem dL_law_539 : decode cL_law 539 = .ok (.aload_n 0, 1) := by decide +kernel
theorem dL_law_540 : decode cL_law 540 = .ok (.iload_n 3, 1) := by decide +kernel
theorem dL_law_541 : decode cL_law 541 = .ok (.iconst 2, 1) := by decide +kernel
theorem dL_law_542 : decode cL_law 542 = .ok (.iadd, 1) := by decide +kernel
theorem dL_law_543 : decode cL_law 543 = .ok (.iaload, 1) := by decide +kernel
theorem dL_law_544 : decode cL_law 544 = .ok (.invokevirtual 64, 3) := by decide +kernel
theorem dL_law_547 : decode cL_law 547 = .ok (.if_icmp .eq 411, 3) := by decide +kernel
theorem dL_law_550 : decode cL_law 550 = .ok (.iconst 0, 1) := by decide +kernel
theorem dL_law_551 : decode cL_law 551 = .ok (.ireturn, 1) := by decide +kernel
theorem dL_law_552 : decode cL_law 552 = .ok (.aload_n 1, 1) := by decide +kernel
theorem dL_law_553 : decode cL_law 553 = .ok (.aload_n 0, 1) := by decide +kernel
theorem dL_law_554 : decode cL_law 554 = .ok (.iload_n 3, 1) := by decide +kernel
theorem dL_law_555 : decode cL_law 555 = .ok (.iconst 1, 1) := by decide +kernel
theorem dL_law_556 : decode cL_law 556 = .ok (.iadd, 1) := by decide +kernel
theorem dL_law_557 : decode cL_law 557 = .ok (.iaload, 1) := by decide +kernel
theorem dL_law_558 : decode cL_law 558 = .ok (.aload_n 0, 1) := by decide +kernel
theorem dL_law_559 : decode cL_law 559 = .ok (.iload_n 3, 1) := by decide +kernel
theorem dL_law_560 : decode cL_law 560 = .ok (.iconst 2, 1) := by decide +kernel
theorem dL_law_561 : decode cL_law 561 = .ok (.iadd, 1) := by decide +kernel
theorem dL_law_562 : decode cL_law 562 = .ok (.iaload, 1) := by decide +kernel
theorem dL_law_563 : decode cL_law 563 = .ok (.invokevirtual 65, 3) := by decide +kernel
theorem dL_law_566 : decode cL_law 566 = .ok (.aload_n 2, 1) := by decide +kernel
theorem dL_law_567 : decode cL_law 567 = .ok (.aload_n 0, 1) := by decide +kernel
theorem dL_law_568 : decode cL_law 568 = .ok (.iload_n 3, 1) := by decide +kernel
theorem dL_law_569 : decode cL_law 569 = .ok (.iconst 1, 1) := by decide +kernel
theorem dL_law_570 : decode cL_law 570 = .ok (.iadd, 1) := by decide +kernel
theorem dL_law_571 : decode cL_law 571 = .ok (.iaload, 1) := by decide +kernel
theorem dL_law_572 : decode cL_law 572 = .ok (.aload_n 0, 1) := by decide +kernel
theorem dL_law_573 : decode cL_law 573 = .ok (.iload_n 3, 1) := by decide +kernel
theorem dL_law_574 : decode cL_law 574 = .ok (.iconst 2, 1) := by decide +kernel
theorem dL_law_575 : decode cL_law 575 = .ok (.iadd, 1) := by decide +kernel
theorem dL_law_576 : decode cL_law 576 = .ok (.iaload, 1) := by decide +kernel
theorem dL_law_577 : decode cL_law 577 = .ok (.invokevirtual 68, 3) := by decide +kernel
theorem dL_law_580 : decode cL_law 580 = .ok (.if_icmp .eq 378, 3) := by decide +kernel
theorem dL_law_583 : decode cL_law 583 = .ok (.iconst 0, 1) := by decide +kernel
theorem dL_law_584 : decode cL_law 584 = .ok (.ireturn, 1) := by decide +kernel
theorem dL_law_585 : decode cL_law 585 = .ok (.aload_n 1, 1) := by decide +kernel
theorem dL_law_586 : decode cL_law 586 = .ok (.aload_n 0, 1) := by decide +kernel
theorem dL_law_587 : decode cL_law 587 = .ok (.iload_n 3, 1) := by decide +kernel
theorem dL_law_588 : decode cL_law 588 = .ok (.iconst 1, 1) := by decide +kernel
theorem dL_law_589 : decode cL_law 589 = .ok (.iadd, 1) := by decide +kernel
theorem dL_law_590 : decode cL_law 590 = .ok (.iaload, 1) := by decide +kernel
theorem dL_law_591 : decode cL_law 591 = .ok (.aload_n 0, 1) := by decide +kernel
theorem dL_law_592 : decode cL_law 592 = .ok (.iload_n 3, 1) := by decide +kernel
theorem dL_law_593 : decode cL_law 593 = .ok (.iconst 2, 1) := by decide +kernel
theorem dL_law_594 : decode cL_law 594 = .ok (.iadd, 1) := by decide +kernel
theorem dL_law_595 : decode cL_law 595 = .ok (.iaload, 1) := by decide +kernel
theorem dL_law_596 : decode cL_law 596 = .ok (.aload_n 0, 1) := by decide +kernel
theorem dL_law_597 : decode cL_law 597 = .ok (.iload_n 3, 1) := by decide +kernel
theorem dL_law_598 : decode cL_law 598 = .ok (.iconst 3, 1) := by decide +kernel
theorem dL_law_599 : decode cL_law 599 = .ok (.iadd, 1) := by decide +kernel
theorem dL_law_600 : decode cL_law 600 = .ok (.iaload, 1) := by decide +kernel
theorem dL_law_601 : decode cL_law 601 = .ok (.invokevirtual 69, 3) := by decide +kernel
theorem dL_law_604 : decode cL_law 604 = .ok (.aload_n 2, 1) := by decide +kernel
theorem dL_law_605 : decode cL_law 605 = .ok (.aload_n 0, 1) := by decide +kernel
theorem dL_law_606 : decode cL_law 606 = .ok (.iload_n 3, 1) := by decide +kernel
theorem dL_law_607 : decode cL_law 607 = .ok (.iconst 1, 1) := by decide +kernel
theorem dL_law_608 : decode cL_law 608 = .ok (.iadd, 1) := by decide +kernel
theorem dL_law_609 : decode cL_law 609 = .ok (.iaload, 1) := by decide +kernel
theorem dL_law_610 : decode cL_law 610 = .ok (.aload_n 0, 1) := by decide +kernel
theorem dL_law_611 : decode cL_law 611 = .ok (.iload_n 3, 1) := by decide +kernel
theorem dL_law_612 : decode cL_law 612 = .ok (.iconst 2, 1) := by decide +kernel
theorem dL_law_613 : decode cL_law 613 = .ok (.iadd, 1) := by decide +kernel
theorem dL_law_614 : decode cL_law 614 = .ok (.iaload, 1) := by decide +kernel
theorem dL_law_615 : decode cL_law 615 = .ok (.aload_n 0, 1) := by decide +kernel
theorem dL_law_616 : decode cL_law 616 = .ok (.iload_n 3, 1) := by decide +kernel
theorem dL_law_617 : decode cL_law 617 = .ok (.iconst 3, 1) := by decide +kernel
theorem dL_law_618 : decode cL_law 618 = .ok (.iadd, 1) := by decide +kernel
theorem dL_law_619 : decode cL_law 619 = .ok (.iaload, 1) := by decide +kernel
theorem dL_law_620 : decode cL_law 620 = .ok (.invokevirtual 72, 3) := by decide +kernel
theorem dL_law_623 : decode cL_law 623 = .ok (.if_icmp .eq 335, 3) := by decide +kernel
theorem dL_law_626 : decode cL_law 626 = .ok (.iconst 0, 1) := by decide +kernel
theorem dL_law_627 : decode cL_law 627 = .ok (.ireturn, 1) := by decide +kernel
theorem dL_law_628 : decode cL_law 628 = .ok (.aload_n 1, 1) := by decide +kernel
theorem dL_law_629 : decode cL_law 629 = .ok (.aload_n 0, 1) := by decide +kernel
theorem dL_law_630 : decode cL_law 630 = .ok (.iload_n 3, 1) := by decide +kernel
theorem dL_law_631 : decode cL_law 631 = .ok (.iconst 1, 1) := by decide +kernel
theorem dL_law_632 : decode cL_law 632 = .ok (.iadd, 1) := by decide +kernel
theorem dL_law_633 : decode cL_law 633 = .ok (.iaload, 1) := by decide +kernel
theorem dL_law_634 : decode cL_law 634 = .ok (.aload_n 0, 1) := by decide +kernel
theorem dL_law_635 : decode cL_law 635 = .ok (.iload_n 3, 1) := by decide +kernel
theorem dL_law_636 : decode cL_law 636 = .ok (.iconst 2, 1) := by decide +kernel
theorem dL_law_637 : decode cL_law 637 = .ok (.iadd, 1) := by decide +kernel
theorem dL_law_638 : decode cL_law 638 = .ok (.iaload, 1) := by decide +kernel
theorem dL_law_639 : decode cL_law 639 = .ok (.aload_n 0, 1) := by decide +kernel
theorem dL_law_640 : decode cL_law 640 = .ok (.iload_n 3, 1) := by decide +kernel
theorem dL_law_641 : decode cL_law 641 = .ok (.iconst 3, 1) := by decide +kernel
theorem dL_law_642 : decode cL_law 642 = .ok (.iadd, 1) := by decide +kernel
theorem dL_law_643 : decode cL_law 643 = .ok (.iaload, 1) := by decide +kernel
theorem dL_law_644 : decode cL_law 644 = .ok (.invokevirtual 73, 3) := by decide +kernel
theorem dL_law_647 : decode cL_law 647 = .ok (.aload_n 2, 1) := by decide +kernel
theorem dL_law_648 : decode cL_law 648 = .ok (.aload_n 0, 1) := by decide +kernel
theorem dL_law_649 : decode cL_law 649 = .ok (.iload_n 3, 1) := by decide +kernel
theorem dL_law_650 : decode cL_law 650 = .ok (.iconst 1, 1) := by decide +kernel
theorem dL_law_651 : decode cL_law 651 = .ok (.iadd, 1) := by decide +kernel
theorem dL_law_652 : decode cL_law 652 = .ok (.iaload, 1) := by decide +kernel
theorem dL_law_653 : decode cL_law 653 = .ok (.aload_n 0, 1) := by decide +kernel
theorem dL_law_654 : decode cL_law 654 = .ok (.iload_n 3, 1) := by decide +kernel
theorem dL_law_655 : decode cL_law 655 = .ok (.iconst 2, 1) := by decide +kernel
theorem dL_law_656 : decode cL_law 656 = .ok (.iadd, 1) := by decide +kernel
theorem dL_law_657 : decode cL_law 657 = .ok (.iaload, 1) := by decide +kernel
theorem dL_law_658 : decode cL_law 658 = .ok (.aload_n 0, 1) := by decide +kernel
theorem dL_law_659 : decode cL_law 659 = .ok (.iload_n 3, 1) := by decide +kernel
theorem dL_law_660 : decode cL_law 660 = .ok (.iconst 3, 1) := by decide +kernel
theorem dL_law_661 : decode cL_law 661 = .ok (.iadd, 1) := by decide +kernel
theorem dL_law_662 : decode cL_law 662 = .ok (.iaload, 1) := by decide +kernel
theorem dL_law_663 : decode cL_law 663 = .ok (.invokevirtual 76, 3) := by decide +kernel
theorem dL_law_666 : decode cL_law 666 = .ok (.if_icmp .eq 292, 3) := by decide +kernel
theorem dL_law_669 : decode cL_law 669 = .ok (.iconst 0, 1) := by decide +kernel
theorem dL_law_670 : decode cL_law 670 = .ok (.ireturn, 1) := by decide +kernel
theorem dL_law_671 : decode cL_law 671 = .ok (.aload_n 1, 1) := by decide +kernel
theorem dL_law_672 : decode cL_law 672 = .ok (.aload_n 0, 1) := by decide +kernel
theorem dL_law_673 : decode cL_law 673 = .ok (.iload_n 3, 1) := by decide +kernel
theorem dL_law_674 : decode cL_law 674 = .ok (.iconst 1, 1) := by decide +kernel
theorem dL_law_675 : decode cL_law 675 = .ok (.iadd, 1) := by decide +kernel
theorem dL_law_676 : decode cL_law 676 = .ok (.iaload, 1) := by decide +kernel
theorem dL_law_677 : decode cL_law 677 = .ok (.aload_n 0, 1) := by decide +kernel
theorem dL_law_678 : decode cL_law 678 = .ok (.iload_n 3, 1) := by decide +kernel
theorem dL_law_679 : decode cL_law 679 = .ok (.iconst 2, 1) := by decide +kernel
theorem dL_law_680 : decode cL_law 680 = .ok (.iadd, 1) := by decide +kernel
theorem dL_law_681 : decode cL_law 681 = .ok (.iaload, 1) := by decide +kernel
theorem dL_law_682 : decode cL_law 682 = .ok (.aload_n 0, 1) := by decide +kernel
theorem dL_law_683 : decode cL_law 683 = .ok (.iload_n 3, 1) := by decide +kernel
theorem dL_law_684 : decode cL_law 684 = .ok (.iconst 3, 1) := by decide +kernel
theorem dL_law_685 : decode cL_law 685 = .ok (.iadd, 1) := by decide +kernel
theorem dL_law_686 : decode cL_law 686 = .ok (.iaload, 1) := by decide +kernel
theorem dL_law_687 : decode cL_law 687 = .ok (.invokevirtual 77, 3) := by decide +kernel
theorem dL_law_690 : decode cL_law 690 = .ok (.aload_n 2, 1) := by decide +kernel
theorem dL_law_691 : decode cL_law 691 = .ok (.aload_n 0, 1) := by decide +kernel
theorem dL_law_692 : decode cL_law 692 = .ok (.iload_n 3, 1) := by decide +kernel
theorem dL_law_693 : decode cL_law 693 = .ok (.iconst 1, 1) := by decide +kernel
theorem dL_law_694 : decode cL_law 694 = .ok (.iadd, 1) := by decide +kernel
theorem dL_law_695 : decode cL_law 695 = .ok (.iaload, 1) := by decide +kernel
theorem dL_law_696 : decode cL_law 696 = .ok (.aload_n 0, 1) := by decide +kernel
theorem dL_law_697 : decode cL_law 697 = .ok (.iload_n 3, 1) := by decide +kernel
theorem dL_law_698 : decode cL_law 698 = .ok (.iconst 2, 1) := by decide +kernel
theorem dL_law_699 : decode cL_law 699 = .ok (.iadd, 1) := by decide +kernel
theorem dL_law_700 : decode cL_law 700 = .ok (.iaload, 1) := by decide +kernel
theorem dL_law_701 : decode cL_law 701 = .ok (.aload_n 0, 1) := by decide +kernel
theorem dL_law_702 : decode cL_law 702 = .ok (.iload_n 3, 1) := by decide +kernel
theorem dL_law_703 : decode cL_law 703 = .ok (.iconst 3, 1) := by decide +kernel
theorem dL_law_704 : decode cL_law 704 = .ok (.iadd, 1) := by decide +kernel
theorem dL_law_705 : decode cL_law 705 = .ok (.iaload, 1) := by decide +kernel
theorem dL_law_706 : decode cL_law 706 = .ok (.invokevirtual 80, 3) := by decide +kernel
theorem dL_law_709 : decode cL_law 709 = .ok (.if_icmp .eq 249, 3) := by decide +kernel
theorem dL_law_712 : decode cL_law 712 = .ok (.iconst 0, 1) := by decide +kernel
theorem dL_law_713 : decode cL_law 713 = .ok (.ireturn, 1) := by decide +kernel
theorem dL_law_714 : decode cL_law 714 = .ok (.aload_n 1, 1) := by decide +kernel
theorem dL_law_715 : decode cL_law 715 = .ok (.aload_n 0, 1) := by decide +kernel
theorem dL_law_716 : decode cL_law 716 = .ok (.iload_n 3, 1) := by decide +kernel
theorem dL_law_717 : decode cL_law 717 = .ok (.iconst 1, 1) := by decide +kernel
theorem dL_law_718 : decode cL_law 718 = .ok (.iadd, 1) := by decide +kernel
theorem dL_law_719 : decode cL_law 719 = .ok (.iaload, 1) := by decide +kernel
theorem dL_law_720 : decode cL_law 720 = .ok (.aload_n 0, 1) := by decide +kernel
theorem dL_law_721 : decode cL_law 721 = .ok (.iload_n 3, 1) := by decide +kernel
theorem dL_law_722 : decode cL_law 722 = .ok (.iconst 2, 1) := by decide +kernel
theorem dL_law_723 : decode cL_law 723 = .ok (.iadd, 1) := by decide +kernel
theorem dL_law_724 : decode cL_law 724 = .ok (.iaload, 1) := by decide +kernel
theorem dL_law_725 : decode cL_law 725 = .ok (.aload_n 0, 1) := by decide +kernel
theorem dL_law_726 : decode cL_law 726 = .ok (.iload_n 3, 1) := by decide +kernel
theorem dL_law_727 : decode cL_law 727 = .ok (.iconst 3, 1) := by decide +kernel
theorem dL_law_728 : decode cL_law 728 = .ok (.iadd, 1) := by decide +kernel
theorem dL_law_729 : decode cL_law 729 = .ok (.iaload, 1) := by decide +kernel
theorem dL_law_730 : decode cL_law 730 = .ok (.invokevirtual 81, 3) := by decide +kernel
theorem dL_law_733 : decode cL_law 733 = .ok (.aload_n 2, 1) := by decide +kernel
theorem dL_law_734 : decode cL_law 734 = .ok (.aload_n 0, 1) := by decide +kernel
theorem dL_law_735 : decode cL_law 735 = .ok (.iload_n 3, 1) := by decide +kernel
theorem dL_law_736 : decode cL_law 736 = .ok (.iconst 1, 1) := by decide +kernel
theorem dL_law_737 : decode cL_law 737 = .ok (.iadd, 1) := by decide +kernel
theorem dL_law_738 : decode cL_law 738 = .ok (.iaload, 1) := by decide +kernel
theorem dL_law_739 : decode cL_law 739 = .ok (.aload_n 0, 1) := by decide +kernel
theorem dL_law_740 : decode cL_law 740 = .ok (.iload_n 3, 1) := by decide +kernel
theorem dL_law_741 : decode cL_law 741 = .ok (.iconst 2, 1) := by decide +kernel
theorem dL_law_742 : decode cL_law 742 = .ok (.iadd, 1) := by decide +kernel
theorem dL_law_743 : decode cL_law 743 = .ok (.iaload, 1) := by decide +kernel
theorem dL_law_744 : decode cL_law 744 = .ok (.aload_n 0, 1) := by decide +kernel
theorem dL_law_745 : decode cL_law 745 = .ok (.iload_n 3, 1) := by decide +kernel
theorem dL_law_746 : decode cL_law 746 = .ok (.iconst 3, 1) := by decide +kernel
theorem dL_law_747 : decode cL_law 747 = .ok (.iadd, 1) := by decide +kernel
theorem dL_law_748 : decode cL_law 748 = .ok (.iaload, 1) := by decide +kernel
theorem dL_law_749 : decode cL_law 749 = .ok (.invokevirtual 84, 3) := by decide +kernel
theorem dL_law_752 : decode cL_law 752 = .ok (.if_icmp .eq 206, 3) := by decide +kernel
theorem dL_law_755 : decode cL_law 755 = .ok (.iconst 0, 1) := by decide +kernel
theorem dL_law_756 : decode cL_law 756 = .ok (.ireturn, 1) := by decide +kernel
theorem dL_law_757 : decode cL_law 757 = .ok (.aload_n 1, 1) := by decide +kernel
theorem dL_law_758 : decode cL_law 758 = .ok (.aload_n 0, 1) := by decide +kernel
theorem dL_law_759 : decode cL_law 759 = .ok (.iload_n 3, 1) := by decide +kernel
theorem dL_law_760 : decode cL_law 760 = .ok (.iconst 1, 1) := by decide +kernel
theorem dL_law_761 : decode cL_law 761 = .ok (.iadd, 1) := by decide +kernel
theorem dL_law_762 : decode cL_law 762 = .ok (.iaload, 1) := by decide +kernel
theorem dL_law_763 : decode cL_law 763 = .ok (.invokevirtual 85, 3) := by decide +kernel
theorem dL_law_766 : decode cL_law 766 = .ok (.aload_n 2, 1) := by decide +kernel
theorem dL_law_767 : decode cL_law 767 = .ok (.aload_n 0, 1) := by decide +kernel
theorem dL_law_768 : decode cL_law 768 = .ok (.iload_n 3, 1) := by decide +kernel
theorem dL_law_769 : decode cL_law 769 = .ok (.iconst 1, 1) := by decide +kernel
theorem dL_law_770 : decode cL_law 770 = .ok (.iadd, 1) := by decide +kernel
theorem dL_law_771 : decode cL_law 771 = .ok (.iaload, 1) := by decide +kernel
theorem dL_law_772 : decode cL_law 772 = .ok (.invokevirtual 88, 3) := by decide +kernel
theorem dL_law_775 : decode cL_law 775 = .ok (.if_icmp .eq 183, 3) := by decide +kernel
theorem dL_law_778 : decode cL_law 778 = .ok (.iconst 0, 1) := by decide +kernel
theorem dL_law_779 : decode cL_law 779 = .ok (.ireturn, 1) := by decide +kernel
theorem dL_law_780 : decode cL_law 780 = .ok (.aload_n 1, 1) := by decide +kernel
theorem dL_law_781 : decode cL_law 781 = .ok (.aload_n 0, 1) := by decide +kernel
theorem dL_law_782 : decode cL_law 782 = .ok (.iload_n 3, 1) := by decide +kernel
theorem dL_law_783 : decode cL_law 783 = .ok (.iconst 1, 1) := by decide +kernel
theorem dL_law_784 : decode cL_law 784 = .ok (.iadd, 1) := by decide +kernel
theorem dL_law_785 : decode cL_law 785 = .ok (.iaload, 1) := by decide +kernel
theorem dL_law_786 : decode cL_law 786 = .ok (.invokevirtual 89, 3) := by decide +kernel
theorem dL_law_789 : decode cL_law 789 = .ok (.aload_n 2, 1) := by decide +kernel
theorem dL_law_790 : decode cL_law 790 = .ok (.aload_n 0, 1) := by decide +kernel
theorem dL_law_791 : decode cL_law 791 = .ok (.iload_n 3, 1) := by decide +kernel
theorem dL_law_792 : decode cL_law 792 = .ok (.iconst 1, 1) := by decide +kernel
theorem dL_law_793 : decode cL_law 793 = .ok (.iadd, 1) := by decide +kernel
theorem dL_law_794 : decode cL_law 794 = .ok (.iaload, 1) := by decide +kernel
theorem dL_law_795 : decode cL_law 795 = .ok (.invokevirtual 92, 3) := by decide +kernel
theorem dL_law_798 : decode cL_law 798 = .ok (.if_icmp .eq 160, 3) := by decide +kernel
theorem dL_law_801 : decode cL_law 801 = .ok (.iconst 0, 1) := by decide +kernel
theorem dL_law_802 : decode cL_law 802 = .ok (.ireturn, 1) := by decide +kernel
theorem dL_law_803 : decode cL_law 803 = .ok (.aload_n 1, 1) := by decide +kernel
theorem dL_law_804 : decode cL_law 804 = .ok (.aload_n 0, 1) := by decide +kernel
theorem dL_law_805 : decode cL_law 805 = .ok (.iload_n 3, 1) := by decide +kernel
theorem dL_law_806 : decode cL_law 806 = .ok (.iconst 1, 1) := by decide +kernel
theorem dL_law_807 : decode cL_law 807 = .ok (.iadd, 1) := by decide +kernel
theorem dL_law_808 : decode cL_law 808 = .ok (.iaload, 1) := by decide +kernel
theorem dL_law_809 : decode cL_law 809 = .ok (.aload_n 0, 1) := by decide +kernel
theorem dL_law_810 : decode cL_law 810 = .ok (.iload_n 3, 1) := by decide +kernel
theorem dL_law_811 : decode cL_law 811 = .ok (.iconst 2, 1) := by decide +kernel
theorem dL_law_812 : decode cL_law 812 = .ok (.iadd, 1) := by decide +kernel
theorem dL_law_813 : decode cL_law 813 = .ok (.iaload, 1) := by decide +kernel
theorem dL_law_814 : decode cL_law 814 = .ok (.invokevirtual 93, 3) := by decide +kernel
theorem dL_law_817 : decode cL_law 817 = .ok (.aload_n 2, 1) := by decide +kernel
theorem dL_law_818 : decode cL_law 818 = .ok (.aload_n 0, 1) := by decide +kernel
theorem dL_law_819 : decode cL_law 819 = .ok (.iload_n 3, 1) := by decide +kernel
theorem dL_law_820 : decode cL_law 820 = .ok (.iconst 1, 1) := by decide +kernel
theorem dL_law_821 : decode cL_law 821 = .ok (.iadd, 1) := by decide +kernel
theorem dL_law_822 : decode cL_law 822 = .ok (.iaload, 1) := by decide +kernel
theorem dL_law_823 : decode cL_law 823 = .ok (.aload_n 0, 1) := by decide +kernel
theorem dL_law_824 : decode cL_law 824 = .ok (.iload_n 3, 1) := by decide +kernel
theorem dL_law_825 : decode cL_law 825 = .ok (.iconst 2, 1) := by decide +kernel
theorem dL_law_826 : decode cL_law 826 = .ok (.iadd, 1) := by decide +kernel
theorem dL_law_827 : decode cL_law 827 = .ok (.iaload, 1) := by decide +kernel
theorem dL_law_828 : decode cL_law 828 = .ok (.invokevirtual 96, 3) := by decide +kernel
theorem dL_law_831 : decode cL_law 831 = .ok (.if_icmp .eq 127, 3) := by decide +kernel
theorem dL_law_834 : decode cL_law 834 = .ok (.iconst 0, 1) := by decide +kernel
theorem dL_law_835 : decode cL_law 835 = .ok (.ireturn, 1) := by decide +kernel
theorem dL_law_836 : decode cL_law 836 = .ok (.aload_n 1, 1) := by decide +kernel
theorem dL_law_837 : decode cL_law 837 = .ok (.aload_n 0, 1) := by decide +kernel
theorem dL_law_838 : decode cL_law 838 = .ok (.iload_n 3, 1) := by decide +kernel
theorem dL_law_839 : decode cL_law 839 = .ok (.iconst 1, 1) := by decide +kernel
theorem dL_law_840 : decode cL_law 840 = .ok (.iadd, 1) := by decide +kernel
theorem dL_law_841 : decode cL_law 841 = .ok (.iaload, 1) := by decide +kernel
theorem dL_law_842 : decode cL_law 842 = .ok (.invokevirtual 97, 3) := by decide +kernel
theorem dL_law_845 : decode cL_law 845 = .ok (.aload_n 2, 1) := by decide +kernel
theorem dL_law_846 : decode cL_law 846 = .ok (.aload_n 0, 1) := by decide +kernel
theorem dL_law_847 : decode cL_law 847 = .ok (.iload_n 3, 1) := by decide +kernel
theorem dL_law_848 : decode cL_law 848 = .ok (.iconst 1, 1) := by decide +kernel
theorem dL_law_849 : decode cL_law 849 = .ok (.iadd, 1) := by decide +kernel
theorem dL_law_850 : decode cL_law 850 = .ok (.iaload, 1) := by decide +kernel
theorem dL_law_851 : decode cL_law 851 = .ok (.invokevirtual 100, 3) := by decide +kernel
theorem dL_law_854 : decode cL_law 854 = .ok (.if_icmp .eq 104, 3) := by decide +kernel
theorem dL_law_857 : decode cL_law 857 = .ok (.iconst 0, 1) := by decide +kernel
theorem dL_law_858 : decode cL_law 858 = .ok (.ireturn, 1) := by decide +kernel
theorem dL_law_859 : decode cL_law 859 = .ok (.aload_n 1, 1) := by decide +kernel
theorem dL_law_860 : decode cL_law 860 = .ok (.aload_n 0, 1) := by decide +kernel
theorem dL_law_861 : decode cL_law 861 = .ok (.iload_n 3, 1) := by decide +kernel
theorem dL_law_862 : decode cL_law 862 = .ok (.iconst 1, 1) := by decide +kernel
theorem dL_law_863 : decode cL_law 863 = .ok (.iadd, 1) := by decide +kernel
theorem dL_law_864 : decode cL_law 864 = .ok (.iaload, 1) := by decide +kernel
theorem dL_law_865 : decode cL_law 865 = .ok (.invokevirtual 101, 3) := by decide +kernel
theorem dL_law_868 : decode cL_law 868 = .ok (.aload_n 2, 1) := by decide +kernel
theorem dL_law_869 : decode cL_law 869 = .ok (.aload_n 0, 1) := by decide +kernel
theorem dL_law_870 : decode cL_law 870 = .ok (.iload_n 3, 1) := by decide +kernel
theorem dL_law_871 : decode cL_law 871 = .ok (.iconst 1, 1) := by decide +kernel
theorem dL_law_872 : decode cL_law 872 = .ok (.iadd, 1) := by decide +kernel
theorem dL_law_873 : decode cL_law 873 = .ok (.iaload, 1) := by decide +kernel
theorem dL_law_874 : decode cL_law 874 = .ok (.invokevirtual 104, 3) := by decide +kernel
theorem dL_law_877 : decode cL_law 877 = .ok (.if_icmp .eq 81, 3) := by decide +kernel
theorem dL_law_880 : decode cL_law 880 = .ok (.iconst 0, 1) := by decide +kernel
theorem dL_law_881 : decode cL_law 881 = .ok (.ireturn, 1) := by decide +kernel
theorem dL_law_882 : decode cL_law 882 = .ok (.aload_n 1, 1) := by decide +kernel
theorem dL_law_883 : decode cL_law 883 = .ok (.invokevirtual 105, 3) := by decide +kernel
theorem dL_law_886 : decode cL_law 886 = .ok (.aload_n 2, 1) := by decide +kernel
theorem dL_law_887 : decode cL_law 887 = .ok (.invokevirtual 109, 3) := by decide +kernel
theorem dL_law_890 : decode cL_law 890 = .ok (.if_icmp .eq 68, 3) := by decide +kernel
theorem dL_law_893 : decode cL_law 893 = .ok (.iconst 0, 1) := by decide +kernel
theorem dL_law_894 : decode cL_law 894 = .ok (.ireturn, 1) := by decide +kernel
theorem dL_law_895 : decode cL_law 895 = .ok (.aload_n 1, 1) := by decide +kernel
theorem dL_law_896 : decode cL_law 896 = .ok (.invokevirtual 110, 3) := by decide +kernel
theorem dL_law_899 : decode cL_law 899 = .ok (.aload_n 2, 1) := by decide +kernel
theorem dL_law_900 : decode cL_law 900 = .ok (.invokevirtual 113, 3) := by decide +kernel
theorem dL_law_903 : decode cL_law 903 = .ok (.if_icmp .eq 55, 3) := by decide +kernel
theorem dL_law_906 : decode cL_law 906 = .ok (.iconst 0, 1) := by decide +kernel
theorem dL_law_907 : decode cL_law 907 = .ok (.ireturn, 1) := by decide +kernel
theorem dL_law_908 : decode cL_law 908 = .ok (.aload_n 1, 1) := by decide +kernel
theorem dL_law_909 : decode cL_law 909 = .ok (.invokevirtual 114, 3) := by decide +kernel
theorem dL_law_912 : decode cL_law 912 = .ok (.aload_n 2, 1) := by decide +kernel
theorem dL_law_913 : decode cL_law 913 = .ok (.invokevirtual 117, 3) := by decide +kernel
theorem dL_law_916 : decode cL_law 916 = .ok (.if_icmp .eq 42, 3) := by decide +kernel
theorem dL_law_919 : decode cL_law 919 = .ok (.iconst 0, 1) := by decide +kernel
theorem dL_law_920 : decode cL_law 920 = .ok (.ireturn, 1) := by decide +kernel
theorem dL_law_921 : decode cL_law 921 = .ok (.aload_n 1, 1) := by decide +kernel
theorem dL_law_922 : decode cL_law 922 = .ok (.aload_n 0, 1) := by decide +kernel
theorem dL_law_923 : decode cL_law 923 = .ok (.iload_n 3, 1) := by decide +kernel
theorem dL_law_924 : decode cL_law 924 = .ok (.iconst 1, 1) := by decide +kernel
theorem dL_law_925 : decode cL_law 925 = .ok (.iadd, 1) := by decide +kernel
theorem dL_law_926 : decode cL_law 926 = .ok (.iaload, 1) := by decide +kernel
theorem dL_law_927 : decode cL_law 927 = .ok (.invokevirtual 118, 3) := by decide +kernel
theorem dL_law_930 : decode cL_law 930 = .ok (.aload_n 2, 1) := by decide +kernel
theorem dL_law_931 : decode cL_law 931 = .ok (.aload_n 0, 1) := by decide +kernel
theorem dL_law_932 : decode cL_law 932 = .ok (.iload_n 3, 1) := by decide +kernel
theorem dL_law_933 : decode cL_law 933 = .ok (.iconst 1, 1) := by decide +kernel
theorem dL_law_934 : decode cL_law 934 = .ok (.iadd, 1) := by decide +kernel
theorem dL_law_935 : decode cL_law 935 = .ok (.iaload, 1) := by decide +kernel
theorem dL_law_936 : decode cL_law 936 = .ok (.invokevirtual 121, 3) := by decide +kernel
theorem dL_law_939 : decode cL_law 939 = .ok (.if_icmp .eq 19, 3) := by decide +kernel
theorem dL_law_942 : decode cL_law 942 = .ok (.iconst 0, 1) := by decide +kernel
theorem dL_law_943 : decode cL_law 943 = .ok (.ireturn, 1) := by decide +kernel
theorem dL_law_944 : decode cL_law 944 = .ok (.aload_n 1, 1) := by decide +kernel
theorem dL_law_945 : decode cL_law 945 = .ok (.invokevirtual 122, 3) := by decide +kernel
theorem dL_law_948 : decode cL_law 948 = .ok (.aload_n 2, 1) := by decide +kernel
theorem dL_law_949 : decode cL_law 949 = .ok (.invokevirtual 126, 3) := by decide +kernel
theorem dL_law_952 : decode cL_law 952 = .ok (.lcmp, 1) := by decide +kernel
theorem dL_law_953 : decode cL_law 953 = .ok (.ifCond .eq 5, 3) := by decide +kernel
theorem dL_law_956 : decode cL_law 956 = .ok (.iconst 0, 1) := by decide +kernel
theorem dL_law_957 : decode cL_law 957 = .ok (.ireturn, 1) := by decide +kernel
theorem dL_law_958 : decode cL_law 958 = .ok (.iinc 3 6, 3) := by decide +kernel
theorem dL_law_961 : decode cL_law 961 = .ok (.goto (-943), 3) := by decide +kernel
theorem dL_law_964 : decode cL_law 964 = .ok (.iconst 1, 1) := by decide +kernel
theorem dL_law_965 : decode cL_law 965 = .ok (.ireturn, 1) := by decide +kernel
